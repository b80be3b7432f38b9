/-! ===== functions over whole numbers, by program out of the bytecode ===== -/
def J_Lin_hasRoom_18  (s0 : Int) (σ : ox_H) : Option Int := some (s0 % 2)
theorem L_Lin_hasRoom_18  (s0 : Int) (σ : ox_H) (n tl : Nat) : ox_R (fun r => some ((fun r : Int => ((.inl (some (.inl r)), σ) : ox_O)) r)) (J_Lin_hasRoom_18 s0 σ) (ox_ev m_Lin_hasRoom (ox_zz ox_ms (n + 0)) 18 0 tl [ox_d, ox_d] [.inl (s0)] σ) := by
  unfold J_Lin_hasRoom_18
  refine ox_R_to 1 (Y := some (.inl (some (.inl (s0 % 2))), σ)) rfl ?_
  exact ox_R_ret rfl
def F_Lin_hasRoom  (k : Nat) (a1 : Int) (σ : ox_H) : Option (Int) := if (ox_w ((σ 1 k 0 0) - (σ 1 k 4 0))) < a1 then (J_Lin_hasRoom_18 0 σ) else (J_Lin_hasRoom_18 1 σ)
theorem L_Lin_hasRoom  (k : Nat) (a1 : Int) (σ : ox_H) (n tl : Nat) : ox_R (fun r => some ((fun r : Int => ((.inl (some (.inl r)), σ) : ox_O)) r)) (F_Lin_hasRoom k a1 σ) (ox_zz ox_ms (n + 1) 155 tl [.inr (.inr (1, k, 0)), .inl (a1)] σ) := by
  unfold F_Lin_hasRoom
  refine ox_R_of (Y := ox_ev m_Lin_hasRoom (ox_zz ox_ms (n + 0)) 0 0 tl [.inr (.inr (1, k, 0)), .inl (a1)] [] σ) rfl ?_
  refine ox_R_to 7 (Y := if (ox_w ((σ 1 k 0 0) - (σ 1 k 4 0))) < a1 then ox_ev m_Lin_hasRoom (ox_zz ox_ms (n + 0)) 17 0 tl [.inr (.inr (1, k, 0)), .inl (a1)] [] σ else ox_ev m_Lin_hasRoom (ox_zz ox_ms (n + 0)) 13 0 tl [.inr (.inr (1, k, 0)), .inl (a1)] [] σ) rfl ?_
  refine ox_R_if (fun _ => ?_) (fun _ => ?_)
  · refine ox_R_to 1 (Y := ox_ev m_Lin_hasRoom (ox_zz ox_ms (n + 0)) 18 0 tl [ox_d, ox_d] [.inl (0)] σ) rfl ?_
    exact (L_Lin_hasRoom_18 0 σ n tl)
  · refine ox_R_to 2 (Y := ox_ev m_Lin_hasRoom (ox_zz ox_ms (n + 0)) 18 0 tl [ox_d, ox_d] [.inl (1)] σ) rfl ?_
    exact (L_Lin_hasRoom_18 1 σ n tl)
def F_Out_checkRoom  (a1 : Int) (σ : ox_H) : Option ((Nat ⊕ Unit)) := (F_Lin_hasRoom 0 a1 σ).bind fun r1 => (if r1 = 0 then (some (.inl 3)) else (some (.inr ())))
theorem L_Out_checkRoom  (a1 : Int) (σ : ox_H) (n tl : Nat) : ox_R (fun r => some ((fun r : (Nat ⊕ Unit) => (((Sum.elim (fun e : Nat => (.inr e : Option ox_V ⊕ Nat)) (fun v : Unit => .inl none) r), σ) : ox_O)) r)) (F_Out_checkRoom a1 σ) (ox_zz ox_ms (n + 2) 8 tl [.inr (.inr (0, 0, 0)), .inl (a1)] σ) := by
  unfold F_Out_checkRoom
  refine ox_R_of (Y := ox_ev m_Out_checkRoom (ox_zz ox_ms (n + 1)) 0 1 tl [.inr (.inr (0, 0, 0)), .inl (a1)] [] σ) rfl ?_
  refine ox_R_to 4 (Y := ox_back m_Out_checkRoom 5 3 [] ((ox_zz ox_ms (n + 1)) 155 tl [.inr (.inr (1, 0, 0)), .inl (a1)] σ) (fun pc9 x9 st9 σ9 => ox_ev m_Out_checkRoom (ox_zz ox_ms (n + 1)) pc9 1 tl (ox_kl (m_Out_checkRoom.2.2.1 pc9) (ox_xl x9 [.inr (.inr (0, 0, 0)), .inl (a1)])) st9 σ9)) rfl ?_
  refine ox_R_call (fc := (fun r : Int => ((.inl (some (.inl r)), σ) : ox_O))) (L_Lin_hasRoom 0 a1 σ (n + 0) tl) (fun r1 => ?_)
  refine ox_R_of (Y := ox_ev m_Out_checkRoom (ox_zz ox_ms (n + 1)) 8 1 tl [.inr (.inr (0, 0, 0)), .inl (a1)] [.inl (r1)] σ) rfl ?_
  refine ox_R_to 1 (Y := if r1 = 0 then ox_ev m_Out_checkRoom (ox_zz ox_ms (n + 1)) 11 1 tl [.inr (.inr (0, 0, 0)), .inl (a1)] [] σ else ox_ev m_Out_checkRoom (ox_zz ox_ms (n + 1)) 21 1 tl [.inr (.inr (0, 0, 0)), .inl (a1)] [] σ) rfl ?_
  refine ox_R_if (fun _ => ?_) (fun _ => ?_)
  · refine ox_R_to 1 (Y := some (.inr 3, σ)) rfl ?_
    exact ox_R_ret rfl
  · refine ox_R_to 1 (Y := some (.inl none, σ)) rfl ?_
    exact ox_R_ret rfl
def J_Lin_open_30  (σ : ox_H) : Option ox_H := some σ
theorem L_Lin_open_30  (σ : ox_H) (n tl : Nat) : ox_R (fun r => some ((fun r : ox_H => ((.inl none, r) : ox_O)) r)) (J_Lin_open_30 σ) (ox_ev m_Lin_open (ox_zz ox_ms (n + 0)) 30 0 tl [ox_d, ox_d, ox_d, ox_d] [] σ) := by
  unfold J_Lin_open_30
  refine ox_R_to 1 (Y := some (.inl none, σ)) rfl ?_
  exact ox_R_ret rfl
def J_Lin_open_110  (v0 : Nat) (v2 : Int) (σ : ox_H) : Option ox_H := some (ox_up (ox_up σ 1 v0 4 0 (ox_w ((σ 1 v0 4 0) + v2))) 1 v0 5 0 (ox_w ((σ 1 v0 5 0) + 1)))
theorem L_Lin_open_110  (v0 : Nat) (v2 : Int) (σ : ox_H) (n tl : Nat) : ox_R (fun r => some ((fun r : ox_H => ((.inl none, r) : ox_O)) r)) (J_Lin_open_110 v0 v2 σ) (ox_ev m_Lin_open (ox_zz ox_ms (n + 0)) 110 0 tl [.inr (.inr (1, v0, 0)), ox_d, .inl (v2), ox_d] [] σ) := by
  unfold J_Lin_open_110
  refine ox_R_to 13 (Y := some (.inl none, (ox_up (ox_up σ 1 v0 4 0 (ox_w ((σ 1 v0 4 0) + v2))) 1 v0 5 0 (ox_w ((σ 1 v0 5 0) + 1))))) rfl ?_
  exact ox_R_ret rfl
def B_Lin_open_90  (v0 : Nat) (v1 : Int) (v2 : Int) : (Int × ox_H) → Option (((Int × ox_H) ⊕ ox_H)) := fun (v3, σ) => if (ox_w (v1 + v2)) ≤ v3 then ((J_Lin_open_110 v0 v2 σ).map .inr) else (if 0 ≤ v3 ∧ v3.toNat < (ox_ln v0) then (some (.inl (ox_w (v3 + 1), (ox_up σ 1 v0 3 v3.toNat 0)))) else none)
def J_Lin_open_90  (v0 : Nat) (v1 : Int) (v2 : Int) (v3 : Int) (σ : ox_H) : Option (ox_H) := ox_lp (B_Lin_open_90 v0 v1 v2) ox_fu (v3, σ)
theorem L_Lin_open_90  (v0 : Nat) (v1 : Int) (v2 : Int) (v3 : Int) (σ : ox_H) (n tl : Nat) : ox_R (fun r => some ((fun r : ox_H => ((.inl none, r) : ox_O)) r)) (J_Lin_open_90 v0 v1 v2 v3 σ) (ox_ev m_Lin_open (ox_zz ox_ms (n + 0)) 90 0 tl [.inr (.inr (1, v0, 0)), .inl (v1), .inl (v2), .inl (v3)] [] σ) := by
  unfold J_Lin_open_90
  refine ox_R_lp (ψ := (fun (s : Int × ox_H) => match s with | (v3, σ) => ox_ev m_Lin_open (ox_zz ox_ms (n + 0)) 90 0 tl [.inr (.inr (1, v0, 0)), .inl (v1), .inl (v2), .inl (v3)] [] σ)) ?_ ox_fu (v3, σ)
  intro s
  obtain ⟨v3, σ⟩ := s
  unfold B_Lin_open_90
  refine ox_R_to 5 (Y := if (ox_w (v1 + v2)) ≤ v3 then ox_ev m_Lin_open (ox_zz ox_ms (n + 0)) 110 0 tl [.inr (.inr (1, v0, 0)), ox_d, .inl (v2), ox_d] [] σ else ox_ev m_Lin_open (ox_zz ox_ms (n + 0)) 97 0 tl [.inr (.inr (1, v0, 0)), .inl (v1), .inl (v2), .inl (v3)] [] σ) rfl ?_
  refine ox_R_if (fun _ => ?_) (fun _ => ?_)
  · exact ox_R_map ((L_Lin_open_110 v0 v2 σ n tl))
  · refine ox_R_to 5 (Y := if 0 ≤ v3 ∧ v3.toNat < (ox_ln v0) then ox_ev m_Lin_open (ox_zz ox_ms (n + 0)) 104 0 tl [.inr (.inr (1, v0, 0)), .inl (v1), .inl (v2), .inl (v3)] [] (ox_up σ 1 v0 3 v3.toNat 0) else none) rfl ?_
    refine ox_R_if (fun _ => ?_) (fun _ => ox_R_none)
    refine ox_R_to 2 (Y := ox_ev m_Lin_open (ox_zz ox_ms (n + 0)) 90 0 tl [.inr (.inr (1, v0, 0)), .inl (v1), .inl (v2), .inl (ox_w (v3 + 1))] [] (ox_up σ 1 v0 3 v3.toNat 0)) rfl ?_
    exact ox_R_ret rfl
def F_Lin_open  (k : Nat) (a1 : Int) (a2 : Int) (σ : ox_H) : Option (ox_H) := if a1 < 0 then (J_Lin_open_30 σ) else (if (σ 1 k 4 0) < a1 then (J_Lin_open_30 σ) else (if a2 < 1 then (J_Lin_open_30 σ) else (if a2 ≤ (ox_w ((σ 1 k 0 0) - (σ 1 k 4 0))) then (if 0 ≤ (ox_w ((ox_w ((σ 1 k 4 0) - a1)) * (σ 1 k 1 0))) ∧ 0 ≤ (ox_w ((ox_w (a1 + a2)) * (σ 1 k 1 0))) ∧ 0 ≤ (ox_w (a1 * (σ 1 k 1 0))) ∧ (ox_w (a1 * (σ 1 k 1 0))) + (ox_w ((ox_w ((σ 1 k 4 0) - a1)) * (σ 1 k 1 0))) ≤ (ox_ln k * ox_wd k) ∧ (ox_w ((ox_w (a1 + a2)) * (σ 1 k 1 0))) + (ox_w ((ox_w ((σ 1 k 4 0) - a1)) * (σ 1 k 1 0))) ≤ (ox_ln k * ox_wd k) then (if 0 ≤ (ox_w ((σ 1 k 4 0) - a1)) ∧ 0 ≤ (ox_w (a1 + a2)) ∧ 0 ≤ a1 ∧ a1 + (ox_w ((σ 1 k 4 0) - a1)) ≤ (ox_ln k) ∧ (ox_w (a1 + a2)) + (ox_w ((σ 1 k 4 0) - a1)) ≤ (ox_ln k) then (J_Lin_open_90 k a1 a2 a1 (ox_cp (ox_cp σ 1 k 2 (ox_w (a1 * (σ 1 k 1 0))).toNat 1 k 2 (ox_w ((ox_w (a1 + a2)) * (σ 1 k 1 0))).toNat (ox_w ((ox_w ((σ 1 k 4 0) - a1)) * (σ 1 k 1 0))).toNat) 1 k 3 a1.toNat 1 k 3 (ox_w (a1 + a2)).toNat (ox_w ((σ 1 k 4 0) - a1)).toNat)) else none) else none) else (J_Lin_open_30 σ))))
theorem L_Lin_open  (k : Nat) (a1 : Int) (a2 : Int) (σ : ox_H) (n tl : Nat) : ox_R (fun r => some ((fun r : ox_H => ((.inl none, r) : ox_O)) r)) (F_Lin_open k a1 a2 σ) (ox_zz ox_ms (n + 1) 158 tl [.inr (.inr (1, k, 0)), .inl (a1), .inl (a2)] σ) := by
  unfold F_Lin_open
  refine ox_R_of (Y := ox_ev m_Lin_open (ox_zz ox_ms (n + 0)) 0 0 tl [.inr (.inr (1, k, 0)), .inl (a1), .inl (a2), ox_d] [] σ) rfl ?_
  refine ox_R_to 2 (Y := if a1 < 0 then ox_ev m_Lin_open (ox_zz ox_ms (n + 0)) 30 0 tl [ox_d, ox_d, ox_d, ox_d] [] σ else ox_ev m_Lin_open (ox_zz ox_ms (n + 0)) 4 0 tl [.inr (.inr (1, k, 0)), .inl (a1), .inl (a2), ox_d] [] σ) rfl ?_
  refine ox_R_if (fun _ => ?_) (fun _ => ?_)
  · exact (L_Lin_open_30 σ n tl)
  · refine ox_R_to 4 (Y := if (σ 1 k 4 0) < a1 then ox_ev m_Lin_open (ox_zz ox_ms (n + 0)) 30 0 tl [ox_d, ox_d, ox_d, ox_d] [] σ else ox_ev m_Lin_open (ox_zz ox_ms (n + 0)) 12 0 tl [.inr (.inr (1, k, 0)), .inl (a1), .inl (a2), ox_d] [] σ) rfl ?_
    refine ox_R_if (fun _ => ?_) (fun _ => ?_)
    · exact (L_Lin_open_30 σ n tl)
    · refine ox_R_to 3 (Y := if a2 < 1 then ox_ev m_Lin_open (ox_zz ox_ms (n + 0)) 30 0 tl [ox_d, ox_d, ox_d, ox_d] [] σ else ox_ev m_Lin_open (ox_zz ox_ms (n + 0)) 17 0 tl [.inr (.inr (1, k, 0)), .inl (a1), .inl (a2), ox_d] [] σ) rfl ?_
      refine ox_R_if (fun _ => ?_) (fun _ => ?_)
      · exact (L_Lin_open_30 σ n tl)
      · refine ox_R_to 7 (Y := if a2 ≤ (ox_w ((σ 1 k 0 0) - (σ 1 k 4 0))) then ox_ev m_Lin_open (ox_zz ox_ms (n + 0)) 31 0 tl [.inr (.inr (1, k, 0)), .inl (a1), .inl (a2), ox_d] [] σ else ox_ev m_Lin_open (ox_zz ox_ms (n + 0)) 30 0 tl [ox_d, ox_d, ox_d, ox_d] [] σ) rfl ?_
        refine ox_R_if (fun _ => ?_) (fun _ => ?_)
        · refine ox_R_to 22 (Y := if 0 ≤ (ox_w ((ox_w ((σ 1 k 4 0) - a1)) * (σ 1 k 1 0))) ∧ 0 ≤ (ox_w ((ox_w (a1 + a2)) * (σ 1 k 1 0))) ∧ 0 ≤ (ox_w (a1 * (σ 1 k 1 0))) ∧ (ox_w (a1 * (σ 1 k 1 0))) + (ox_w ((ox_w ((σ 1 k 4 0) - a1)) * (σ 1 k 1 0))) ≤ (ox_ln k * ox_wd k) ∧ (ox_w ((ox_w (a1 + a2)) * (σ 1 k 1 0))) + (ox_w ((ox_w ((σ 1 k 4 0) - a1)) * (σ 1 k 1 0))) ≤ (ox_ln k * ox_wd k) then ox_ev m_Lin_open (ox_zz ox_ms (n + 0)) 67 0 tl [.inr (.inr (1, k, 0)), .inl (a1), .inl (a2), ox_d] [] (ox_cp σ 1 k 2 (ox_w (a1 * (σ 1 k 1 0))).toNat 1 k 2 (ox_w ((ox_w (a1 + a2)) * (σ 1 k 1 0))).toNat (ox_w ((ox_w ((σ 1 k 4 0) - a1)) * (σ 1 k 1 0))).toNat) else none) rfl ?_
          refine ox_R_if (fun _ => ?_) (fun _ => ox_R_none)
          refine ox_R_to 13 (Y := if 0 ≤ (ox_w ((σ 1 k 4 0) - a1)) ∧ 0 ≤ (ox_w (a1 + a2)) ∧ 0 ≤ a1 ∧ a1 + (ox_w ((σ 1 k 4 0) - a1)) ≤ (ox_ln k) ∧ (ox_w (a1 + a2)) + (ox_w ((σ 1 k 4 0) - a1)) ≤ (ox_ln k) then ox_ev m_Lin_open (ox_zz ox_ms (n + 0)) 88 0 tl [.inr (.inr (1, k, 0)), .inl (a1), .inl (a2), ox_d] [] (ox_cp (ox_cp σ 1 k 2 (ox_w (a1 * (σ 1 k 1 0))).toNat 1 k 2 (ox_w ((ox_w (a1 + a2)) * (σ 1 k 1 0))).toNat (ox_w ((ox_w ((σ 1 k 4 0) - a1)) * (σ 1 k 1 0))).toNat) 1 k 3 a1.toNat 1 k 3 (ox_w (a1 + a2)).toNat (ox_w ((σ 1 k 4 0) - a1)).toNat) else none) rfl ?_
          refine ox_R_if (fun _ => ?_) (fun _ => ox_R_none)
          refine ox_R_to 2 (Y := ox_ev m_Lin_open (ox_zz ox_ms (n + 0)) 90 0 tl [.inr (.inr (1, k, 0)), .inl (a1), .inl (a2), .inl (a1)] [] (ox_cp (ox_cp σ 1 k 2 (ox_w (a1 * (σ 1 k 1 0))).toNat 1 k 2 (ox_w ((ox_w (a1 + a2)) * (σ 1 k 1 0))).toNat (ox_w ((ox_w ((σ 1 k 4 0) - a1)) * (σ 1 k 1 0))).toNat) 1 k 3 a1.toNat 1 k 3 (ox_w (a1 + a2)).toNat (ox_w ((σ 1 k 4 0) - a1)).toNat)) rfl ?_
          exact (L_Lin_open_90 k a1 a2 a1 (ox_cp (ox_cp σ 1 k 2 (ox_w (a1 * (σ 1 k 1 0))).toNat 1 k 2 (ox_w ((ox_w (a1 + a2)) * (σ 1 k 1 0))).toNat (ox_w ((ox_w ((σ 1 k 4 0) - a1)) * (σ 1 k 1 0))).toNat) 1 k 3 a1.toNat 1 k 3 (ox_w (a1 + a2)).toNat (ox_w ((σ 1 k 4 0) - a1)).toNat) n tl)
        · exact (L_Lin_open_30 σ n tl)
def J_Out_line_15  (σ : ox_H) : Option ((Nat ⊕ Int) × ox_H) := some (.inl 1, σ)
theorem L_Out_line_15  (σ : ox_H) (n tl : Nat) : ox_R (fun r => some ((fun r : (Nat ⊕ Int) × ox_H => (((Sum.elim (fun e : Nat => (.inr e : Option ox_V ⊕ Nat)) (fun v : Int => .inl (some (.inl v))) r.1), r.2) : ox_O)) r)) (J_Out_line_15 σ) (ox_ev m_Out_line (ox_zz ox_ms (n + 2)) 15 2 tl [ox_d, ox_d] [] σ) := by
  unfold J_Out_line_15
  refine ox_R_to 1 (Y := some (.inr 1, σ)) rfl ?_
  exact ox_R_ret rfl
def F_Out_line  (a1 : Int) (σ : ox_H) : Option ((Nat ⊕ Int) × ox_H) := if a1 < 0 then (J_Out_line_15 σ) else (if a1 ≤ (σ 1 0 4 0) then ((F_Out_checkRoom 1 σ).bind fun r1 => match r1 with | .inl e4 => (some (.inl e4, σ)) | .inr x2 => ((F_Lin_open 0 a1 1 σ).bind fun r3 => (some (.inr (r3 1 0 4 0), r3)))) else (J_Out_line_15 σ))
theorem L_Out_line  (a1 : Int) (σ : ox_H) (n tl : Nat) : ox_R (fun r => some ((fun r : (Nat ⊕ Int) × ox_H => (((Sum.elim (fun e : Nat => (.inr e : Option ox_V ⊕ Nat)) (fun v : Int => .inl (some (.inl v))) r.1), r.2) : ox_O)) r)) (F_Out_line a1 σ) (ox_zz ox_ms (n + 3) 0 tl [.inr (.inr (0, 0, 0)), .inl (a1)] σ) := by
  unfold F_Out_line
  refine ox_R_of (Y := ox_ev m_Out_line (ox_zz ox_ms (n + 2)) 0 2 tl [.inr (.inr (0, 0, 0)), .inl (a1)] [] σ) rfl ?_
  refine ox_R_to 2 (Y := if a1 < 0 then ox_ev m_Out_line (ox_zz ox_ms (n + 2)) 15 2 tl [ox_d, ox_d] [] σ else ox_ev m_Out_line (ox_zz ox_ms (n + 2)) 4 2 tl [.inr (.inr (0, 0, 0)), .inl (a1)] [] σ) rfl ?_
  refine ox_R_if (fun _ => ?_) (fun _ => ?_)
  · exact (L_Out_line_15 σ n tl)
  · refine ox_R_to 5 (Y := if a1 ≤ (σ 1 0 4 0) then ox_ev m_Out_line (ox_zz ox_ms (n + 2)) 25 2 tl [.inr (.inr (0, 0, 0)), .inl (a1)] [] σ else ox_ev m_Out_line (ox_zz ox_ms (n + 2)) 15 2 tl [ox_d, ox_d] [] σ) rfl ?_
    refine ox_R_if (fun _ => ?_) (fun _ => ?_)
    · refine ox_R_to 3 (Y := ox_back m_Out_line 27 0 [] ((ox_zz ox_ms (n + 2)) 8 tl [.inr (.inr (0, 0, 0)), .inl (1)] σ) (fun pc9 x9 st9 σ9 => ox_ev m_Out_line (ox_zz ox_ms (n + 2)) pc9 1 tl (ox_kl (m_Out_line.2.2.1 pc9) (ox_xl x9 [.inr (.inr (0, 0, 0)), .inl (a1)])) st9 σ9)) rfl ?_
      refine ox_R_call (fc := (fun r : (Nat ⊕ Unit) => (((Sum.elim (fun e : Nat => (.inr e : Option ox_V ⊕ Nat)) (fun v : Unit => .inl none) r), σ) : ox_O))) (L_Out_checkRoom 1 σ (n + 0) tl) (fun r1 => ?_)
      rcases r1 with e4 | x2
      · refine ox_R_of (Y := some (.inr e4, σ)) rfl ?_
        exact ox_R_ret rfl
      · refine ox_R_of (Y := ox_ev m_Out_line (ox_zz ox_ms (n + 2)) 30 1 tl [.inr (.inr (0, 0, 0)), .inl (a1)] [] σ) rfl ?_
        refine ox_R_to 5 (Y := ox_back m_Out_line 36 2 [] ((ox_zz ox_ms (n + 2)) 158 tl [.inr (.inr (1, 0, 0)), .inl (a1), .inl (1)] σ) (fun pc9 x9 st9 σ9 => ox_ev m_Out_line (ox_zz ox_ms (n + 2)) pc9 1 tl (ox_kl (m_Out_line.2.2.1 pc9) (ox_xl x9 [.inr (.inr (0, 0, 0)), .inl (a1)])) st9 σ9)) rfl ?_
        refine ox_R_call (fc := (fun r : ox_H => ((.inl none, r) : ox_O))) (L_Lin_open 0 a1 1 σ (n + 1) tl) (fun r3 => ?_)
        refine ox_R_of (Y := ox_ev m_Out_line (ox_zz ox_ms (n + 2)) 39 1 tl [.inr (.inr (0, 0, 0)), .inl (a1)] [] r3) rfl ?_
        refine ox_R_to 4 (Y := some (.inl (some (.inl (r3 1 0 4 0))), r3)) rfl ?_
        exact ox_R_ret rfl
    · exact (L_Out_line_15 σ n tl)
def J_Lin_has_17  (s0 : Int) (σ : ox_H) : Option Int := some (s0 % 2)
theorem L_Lin_has_17  (s0 : Int) (σ : ox_H) (n tl : Nat) : ox_R (fun r => some ((fun r : Int => ((.inl (some (.inl r)), σ) : ox_O)) r)) (J_Lin_has_17 s0 σ) (ox_ev m_Lin_has (ox_zz ox_ms (n + 0)) 17 0 tl [ox_d, ox_d] [.inl (s0)] σ) := by
  unfold J_Lin_has_17
  refine ox_R_to 1 (Y := some (.inl (some (.inl (s0 % 2))), σ)) rfl ?_
  exact ox_R_ret rfl
def J_Lin_has_16  (σ : ox_H) : Option Int := (J_Lin_has_17 0 σ)
theorem L_Lin_has_16  (σ : ox_H) (n tl : Nat) : ox_R (fun r => some ((fun r : Int => ((.inl (some (.inl r)), σ) : ox_O)) r)) (J_Lin_has_16 σ) (ox_ev m_Lin_has (ox_zz ox_ms (n + 0)) 16 0 tl [ox_d, ox_d] [] σ) := by
  unfold J_Lin_has_16
  refine ox_R_to 1 (Y := ox_ev m_Lin_has (ox_zz ox_ms (n + 0)) 17 0 tl [ox_d, ox_d] [.inl (0)] σ) rfl ?_
  exact (L_Lin_has_17 0 σ n tl)
def F_Lin_has  (k : Nat) (a1 : Int) (σ : ox_H) : Option (Int) := if a1 < 0 then (J_Lin_has_16 σ) else (if (σ 1 k 4 0) ≤ a1 then (J_Lin_has_16 σ) else (J_Lin_has_17 1 σ))
theorem L_Lin_has  (k : Nat) (a1 : Int) (σ : ox_H) (n tl : Nat) : ox_R (fun r => some ((fun r : Int => ((.inl (some (.inl r)), σ) : ox_O)) r)) (F_Lin_has k a1 σ) (ox_zz ox_ms (n + 1) 154 tl [.inr (.inr (1, k, 0)), .inl (a1)] σ) := by
  unfold F_Lin_has
  refine ox_R_of (Y := ox_ev m_Lin_has (ox_zz ox_ms (n + 0)) 0 0 tl [.inr (.inr (1, k, 0)), .inl (a1)] [] σ) rfl ?_
  refine ox_R_to 2 (Y := if a1 < 0 then ox_ev m_Lin_has (ox_zz ox_ms (n + 0)) 16 0 tl [ox_d, ox_d] [] σ else ox_ev m_Lin_has (ox_zz ox_ms (n + 0)) 4 0 tl [.inr (.inr (1, k, 0)), .inl (a1)] [] σ) rfl ?_
  refine ox_R_if (fun _ => ?_) (fun _ => ?_)
  · exact (L_Lin_has_16 σ n tl)
  · refine ox_R_to 4 (Y := if (σ 1 k 4 0) ≤ a1 then ox_ev m_Lin_has (ox_zz ox_ms (n + 0)) 16 0 tl [ox_d, ox_d] [] σ else ox_ev m_Lin_has (ox_zz ox_ms (n + 0)) 12 0 tl [.inr (.inr (1, k, 0)), .inl (a1)] [] σ) rfl ?_
    refine ox_R_if (fun _ => ?_) (fun _ => ?_)
    · exact (L_Lin_has_16 σ n tl)
    · refine ox_R_to 2 (Y := ox_ev m_Lin_has (ox_zz ox_ms (n + 0)) 17 0 tl [ox_d, ox_d] [.inl (1)] σ) rfl ?_
      exact (L_Lin_has_17 1 σ n tl)
def F_Out_checkLine  (k1 : Nat) (a2 : Int) (σ : ox_H) : Option ((Nat ⊕ Unit)) := (F_Lin_has k1 a2 σ).bind fun r1 => (if r1 = 0 then (some (.inl 1)) else (some (.inr ())))
theorem L_Out_checkLine  (k1 : Nat) (a2 : Int) (σ : ox_H) (n tl : Nat) : ox_R (fun r => some ((fun r : (Nat ⊕ Unit) => (((Sum.elim (fun e : Nat => (.inr e : Option ox_V ⊕ Nat)) (fun v : Unit => .inl none) r), σ) : ox_O)) r)) (F_Out_checkLine k1 a2 σ) (ox_zz ox_ms (n + 2) 6 tl [.inr (.inr (1, k1, 0)), .inl (a2)] σ) := by
  unfold F_Out_checkLine
  refine ox_R_of (Y := ox_ev m_Out_checkLine (ox_zz ox_ms (n + 1)) 0 1 tl [.inr (.inr (1, k1, 0)), .inl (a2)] [] σ) rfl ?_
  refine ox_R_to 3 (Y := ox_back m_Out_checkLine 2 3 [] ((ox_zz ox_ms (n + 1)) 154 tl [.inr (.inr (1, k1, 0)), .inl (a2)] σ) (fun pc9 x9 st9 σ9 => ox_ev m_Out_checkLine (ox_zz ox_ms (n + 1)) pc9 1 tl (ox_kl (m_Out_checkLine.2.2.1 pc9) (ox_xl x9 [.inr (.inr (1, k1, 0)), .inl (a2)])) st9 σ9)) rfl ?_
  refine ox_R_call (fc := (fun r : Int => ((.inl (some (.inl r)), σ) : ox_O))) (L_Lin_has k1 a2 σ (n + 0) tl) (fun r1 => ?_)
  refine ox_R_of (Y := ox_ev m_Out_checkLine (ox_zz ox_ms (n + 1)) 5 1 tl [.inr (.inr (1, k1, 0)), .inl (a2)] [.inl (r1)] σ) rfl ?_
  refine ox_R_to 1 (Y := if r1 = 0 then ox_ev m_Out_checkLine (ox_zz ox_ms (n + 1)) 8 1 tl [.inr (.inr (1, k1, 0)), .inl (a2)] [] σ else ox_ev m_Out_checkLine (ox_zz ox_ms (n + 1)) 18 1 tl [.inr (.inr (1, k1, 0)), .inl (a2)] [] σ) rfl ?_
  refine ox_R_if (fun _ => ?_) (fun _ => ?_)
  · refine ox_R_to 1 (Y := some (.inr 1, σ)) rfl ?_
    exact ox_R_ret rfl
  · refine ox_R_to 1 (Y := some (.inl none, σ)) rfl ?_
    exact ox_R_ret rfl
def J_Lin_size_22  (s0 : Int) (σ : ox_H) : Option Int := some s0
theorem L_Lin_size_22  (s0 : Int) (σ : ox_H) (n tl : Nat) : ox_R (fun r => some ((fun r : Int => ((.inl (some (.inl r)), σ) : ox_O)) r)) (J_Lin_size_22 s0 σ) (ox_ev m_Lin_size (ox_zz ox_ms (n + 0)) 22 0 tl [ox_d, ox_d] [.inl (s0)] σ) := by
  unfold J_Lin_size_22
  refine ox_R_to 1 (Y := some (.inl (some (.inl (s0))), σ)) rfl ?_
  exact ox_R_ret rfl
def J_Lin_size_21  (σ : ox_H) : Option Int := (J_Lin_size_22 0 σ)
theorem L_Lin_size_21  (σ : ox_H) (n tl : Nat) : ox_R (fun r => some ((fun r : Int => ((.inl (some (.inl r)), σ) : ox_O)) r)) (J_Lin_size_21 σ) (ox_ev m_Lin_size (ox_zz ox_ms (n + 0)) 21 0 tl [ox_d, ox_d] [] σ) := by
  unfold J_Lin_size_21
  refine ox_R_to 1 (Y := ox_ev m_Lin_size (ox_zz ox_ms (n + 0)) 22 0 tl [ox_d, ox_d] [.inl (0)] σ) rfl ?_
  exact (L_Lin_size_22 0 σ n tl)
def F_Lin_size  (k : Nat) (a1 : Int) (σ : ox_H) : Option (Int) := if a1 < 0 then (J_Lin_size_21 σ) else (if (σ 1 k 4 0) ≤ a1 then (J_Lin_size_21 σ) else (if 0 ≤ a1 ∧ a1.toNat < (ox_ln k) then (J_Lin_size_22 (σ 1 k 3 a1.toNat) σ) else none))
theorem L_Lin_size  (k : Nat) (a1 : Int) (σ : ox_H) (n tl : Nat) : ox_R (fun r => some ((fun r : Int => ((.inl (some (.inl r)), σ) : ox_O)) r)) (F_Lin_size k a1 σ) (ox_zz ox_ms (n + 1) 156 tl [.inr (.inr (1, k, 0)), .inl (a1)] σ) := by
  unfold F_Lin_size
  refine ox_R_of (Y := ox_ev m_Lin_size (ox_zz ox_ms (n + 0)) 0 0 tl [.inr (.inr (1, k, 0)), .inl (a1)] [] σ) rfl ?_
  refine ox_R_to 2 (Y := if a1 < 0 then ox_ev m_Lin_size (ox_zz ox_ms (n + 0)) 21 0 tl [ox_d, ox_d] [] σ else ox_ev m_Lin_size (ox_zz ox_ms (n + 0)) 4 0 tl [.inr (.inr (1, k, 0)), .inl (a1)] [] σ) rfl ?_
  refine ox_R_if (fun _ => ?_) (fun _ => ?_)
  · exact (L_Lin_size_21 σ n tl)
  · refine ox_R_to 4 (Y := if (σ 1 k 4 0) ≤ a1 then ox_ev m_Lin_size (ox_zz ox_ms (n + 0)) 21 0 tl [ox_d, ox_d] [] σ else ox_ev m_Lin_size (ox_zz ox_ms (n + 0)) 12 0 tl [.inr (.inr (1, k, 0)), .inl (a1)] [] σ) rfl ?_
    refine ox_R_if (fun _ => ?_) (fun _ => ?_)
    · exact (L_Lin_size_21 σ n tl)
    · refine ox_R_to 4 (Y := if 0 ≤ a1 ∧ a1.toNat < (ox_ln k) then ox_ev m_Lin_size (ox_zz ox_ms (n + 0)) 18 0 tl [.inr (.inr (1, k, 0)), .inl (a1)] [.inl (σ 1 k 3 a1.toNat)] σ else none) rfl ?_
      refine ox_R_if (fun _ => ?_) (fun _ => ox_R_none)
      refine ox_R_to 1 (Y := ox_ev m_Lin_size (ox_zz ox_ms (n + 0)) 22 0 tl [ox_d, ox_d] [.inl (σ 1 k 3 a1.toNat)] σ) rfl ?_
      exact (L_Lin_size_22 (σ 1 k 3 a1.toNat) σ n tl)
def J_Lin_add_25  (σ : ox_H) : Option ox_H := some σ
theorem L_Lin_add_25  (σ : ox_H) (n tl : Nat) : ox_R (fun r => some ((fun r : ox_H => ((.inl none, r) : ox_O)) r)) (J_Lin_add_25 σ) (ox_ev m_Lin_add (ox_zz ox_ms (n + 0)) 25 0 tl [ox_d, ox_d, ox_d] [] σ) := by
  unfold J_Lin_add_25
  refine ox_R_to 1 (Y := some (.inl none, σ)) rfl ?_
  exact ox_R_ret rfl
def F_Lin_add  (k : Nat) (a1 : Int) (a2 : Int) (σ : ox_H) : Option (ox_H) := if a1 < 0 then (J_Lin_add_25 σ) else (if (σ 1 k 4 0) ≤ a1 then (J_Lin_add_25 σ) else (if 0 ≤ a1 ∧ a1.toNat < (ox_ln k) then (if (σ 1 k 3 a1.toNat) < (σ 1 k 1 0) then (if 0 ≤ a1 ∧ a1.toNat < (ox_ln k) then (if 0 ≤ (ox_w ((ox_w (a1 * (σ 1 k 1 0))) + (σ 1 k 3 a1.toNat))) ∧ (ox_w ((ox_w (a1 * (σ 1 k 1 0))) + (σ 1 k 3 a1.toNat))).toNat < (ox_ln k * ox_wd k) then (if 0 ≤ a1 ∧ a1.toNat < (ox_ln k) then (if 0 ≤ a1 ∧ a1.toNat < (ox_ln k) then (some (ox_up (ox_up (ox_up σ 1 k 2 ((ox_w ((ox_w (a1 * (σ 1 k 1 0))) + (σ 1 k 3 a1.toNat))).toNat) (a2 % 65536)) 1 k 3 a1.toNat (ox_w ((σ 1 k 3 a1.toNat) + 1))) 1 k 5 0 (ox_w ((σ 1 k 5 0) + 1)))) else none) else none) else none) else none) else (J_Lin_add_25 σ)) else none))
theorem L_Lin_add  (k : Nat) (a1 : Int) (a2 : Int) (σ : ox_H) (n tl : Nat) : ox_R (fun r => some ((fun r : ox_H => ((.inl none, r) : ox_O)) r)) (F_Lin_add k a1 a2 σ) (ox_zz ox_ms (n + 1) 163 tl [.inr (.inr (1, k, 0)), .inl (a1), .inl (a2)] σ) := by
  unfold F_Lin_add
  refine ox_R_of (Y := ox_ev m_Lin_add (ox_zz ox_ms (n + 0)) 0 0 tl [.inr (.inr (1, k, 0)), .inl (a1), .inl (a2)] [] σ) rfl ?_
  refine ox_R_to 2 (Y := if a1 < 0 then ox_ev m_Lin_add (ox_zz ox_ms (n + 0)) 25 0 tl [ox_d, ox_d, ox_d] [] σ else ox_ev m_Lin_add (ox_zz ox_ms (n + 0)) 4 0 tl [.inr (.inr (1, k, 0)), .inl (a1), .inl (a2)] [] σ) rfl ?_
  refine ox_R_if (fun _ => ?_) (fun _ => ?_)
  · exact (L_Lin_add_25 σ n tl)
  · refine ox_R_to 4 (Y := if (σ 1 k 4 0) ≤ a1 then ox_ev m_Lin_add (ox_zz ox_ms (n + 0)) 25 0 tl [ox_d, ox_d, ox_d] [] σ else ox_ev m_Lin_add (ox_zz ox_ms (n + 0)) 12 0 tl [.inr (.inr (1, k, 0)), .inl (a1), .inl (a2)] [] σ) rfl ?_
    refine ox_R_if (fun _ => ?_) (fun _ => ?_)
    · exact (L_Lin_add_25 σ n tl)
    · refine ox_R_to 4 (Y := if 0 ≤ a1 ∧ a1.toNat < (ox_ln k) then ox_ev m_Lin_add (ox_zz ox_ms (n + 0)) 18 0 tl [.inr (.inr (1, k, 0)), .inl (a1), .inl (a2)] [.inl (σ 1 k 3 a1.toNat)] σ else none) rfl ?_
      refine ox_R_if (fun _ => ?_) (fun _ => ox_R_none)
      refine ox_R_to 3 (Y := if (σ 1 k 3 a1.toNat) < (σ 1 k 1 0) then ox_ev m_Lin_add (ox_zz ox_ms (n + 0)) 26 0 tl [.inr (.inr (1, k, 0)), .inl (a1), .inl (a2)] [] σ else ox_ev m_Lin_add (ox_zz ox_ms (n + 0)) 25 0 tl [ox_d, ox_d, ox_d] [] σ) rfl ?_
      refine ox_R_if (fun _ => ?_) (fun _ => ?_)
      · refine ox_R_to 10 (Y := if 0 ≤ a1 ∧ a1.toNat < (ox_ln k) then ox_ev m_Lin_add (ox_zz ox_ms (n + 0)) 42 0 tl [.inr (.inr (1, k, 0)), .inl (a1), .inl (a2)] [.inl (σ 1 k 3 a1.toNat), .inl (ox_w (a1 * (σ 1 k 1 0))), .inr (.inr (101, k, 2))] σ else none) rfl ?_
        refine ox_R_if (fun _ => ?_) (fun _ => ox_R_none)
        refine ox_R_to 3 (Y := if 0 ≤ (ox_w ((ox_w (a1 * (σ 1 k 1 0))) + (σ 1 k 3 a1.toNat))) ∧ (ox_w ((ox_w (a1 * (σ 1 k 1 0))) + (σ 1 k 3 a1.toNat))).toNat < (ox_ln k * ox_wd k) then ox_ev m_Lin_add (ox_zz ox_ms (n + 0)) 45 0 tl [.inr (.inr (1, k, 0)), .inl (a1), .inl (a2)] [] (ox_up σ 1 k 2 ((ox_w ((ox_w (a1 * (σ 1 k 1 0))) + (σ 1 k 3 a1.toNat))).toNat) (a2 % 65536)) else none) rfl ?_
        refine ox_R_if (fun _ => ?_) (fun _ => ox_R_none)
        refine ox_R_to 5 (Y := if 0 ≤ a1 ∧ a1.toNat < (ox_ln k) then ox_ev m_Lin_add (ox_zz ox_ms (n + 0)) 52 0 tl [.inr (.inr (1, k, 0)), .inl (a1), .inl (a2)] [.inl (σ 1 k 3 a1.toNat), .inl (a1), .inr (.inr (101, k, 3))] (ox_up σ 1 k 2 ((ox_w ((ox_w (a1 * (σ 1 k 1 0))) + (σ 1 k 3 a1.toNat))).toNat) (a2 % 65536)) else none) rfl ?_
        refine ox_R_if (fun _ => ?_) (fun _ => ox_R_none)
        refine ox_R_to 3 (Y := if 0 ≤ a1 ∧ a1.toNat < (ox_ln k) then ox_ev m_Lin_add (ox_zz ox_ms (n + 0)) 55 0 tl [.inr (.inr (1, k, 0)), .inl (a1), .inl (a2)] [] (ox_up (ox_up σ 1 k 2 ((ox_w ((ox_w (a1 * (σ 1 k 1 0))) + (σ 1 k 3 a1.toNat))).toNat) (a2 % 65536)) 1 k 3 a1.toNat (ox_w ((σ 1 k 3 a1.toNat) + 1))) else none) rfl ?_
        refine ox_R_if (fun _ => ?_) (fun _ => ox_R_none)
        refine ox_R_to 7 (Y := some (.inl none, (ox_up (ox_up (ox_up σ 1 k 2 ((ox_w ((ox_w (a1 * (σ 1 k 1 0))) + (σ 1 k 3 a1.toNat))).toNat) (a2 % 65536)) 1 k 3 a1.toNat (ox_w ((σ 1 k 3 a1.toNat) + 1))) 1 k 5 0 (ox_w ((σ 1 k 5 0) + 1))))) rfl ?_
        exact ox_R_ret rfl
      · exact (L_Lin_add_25 σ n tl)
def J_Out_sign_20  (σ : ox_H) : Option ((Nat ⊕ Int) × ox_H) := some (.inl 2, σ)
theorem L_Out_sign_20  (σ : ox_H) (n tl : Nat) : ox_R (fun r => some ((fun r : (Nat ⊕ Int) × ox_H => (((Sum.elim (fun e : Nat => (.inr e : Option ox_V ⊕ Nat)) (fun v : Int => .inl (some (.inl v))) r.1), r.2) : ox_O)) r)) (J_Out_sign_20 σ) (ox_ev m_Out_sign (ox_zz ox_ms (n + 2)) 20 1 tl [ox_d, ox_d, ox_d] [] σ) := by
  unfold J_Out_sign_20
  refine ox_R_to 1 (Y := some (.inr 2, σ)) rfl ?_
  exact ox_R_ret rfl
def F_Out_sign  (a1 : Int) (a2 : Int) (σ : ox_H) : Option ((Nat ⊕ Int) × ox_H) := (F_Out_checkLine 0 a1 σ).bind fun r1 => match r1 with | .inl e6 => (some (.inl e6, σ)) | .inr x2 => (if a2 < 32 then (J_Out_sign_20 σ) else (if a2 ≤ 126 then ((F_Lin_size 0 a1 σ).bind fun r3 => (if r3 < 24 then ((F_Lin_add 0 a1 a2 σ).bind fun r4 => ((F_Lin_size 0 a1 r4).bind fun r5 => (some (.inr r5, r4)))) else (some (.inl 3, σ)))) else (J_Out_sign_20 σ)))
theorem L_Out_sign  (a1 : Int) (a2 : Int) (σ : ox_H) (n tl : Nat) : ox_R (fun r => some ((fun r : (Nat ⊕ Int) × ox_H => (((Sum.elim (fun e : Nat => (.inr e : Option ox_V ⊕ Nat)) (fun v : Int => .inl (some (.inl v))) r.1), r.2) : ox_O)) r)) (F_Out_sign a1 a2 σ) (ox_zz ox_ms (n + 3) 1 tl [.inr (.inr (0, 0, 0)), .inl (a1), .inl (a2)] σ) := by
  unfold F_Out_sign
  refine ox_R_of (Y := ox_ev m_Out_sign (ox_zz ox_ms (n + 2)) 0 2 tl [.inr (.inr (0, 0, 0)), .inl (a1), .inl (a2)] [] σ) rfl ?_
  refine ox_R_to 4 (Y := ox_back m_Out_sign 5 0 [] ((ox_zz ox_ms (n + 2)) 6 tl [.inr (.inr (1, 0, 0)), .inl (a1)] σ) (fun pc9 x9 st9 σ9 => ox_ev m_Out_sign (ox_zz ox_ms (n + 2)) pc9 1 tl (ox_kl (m_Out_sign.2.2.1 pc9) (ox_xl x9 [.inr (.inr (0, 0, 0)), .inl (a1), .inl (a2)])) st9 σ9)) rfl ?_
  refine ox_R_call (fc := (fun r : (Nat ⊕ Unit) => (((Sum.elim (fun e : Nat => (.inr e : Option ox_V ⊕ Nat)) (fun v : Unit => .inl none) r), σ) : ox_O))) (L_Out_checkLine 0 a1 σ (n + 0) tl) (fun r1 => ?_)
  rcases r1 with e6 | x2
  · refine ox_R_of (Y := some (.inr e6, σ)) rfl ?_
    exact ox_R_ret rfl
  · refine ox_R_of (Y := ox_ev m_Out_sign (ox_zz ox_ms (n + 2)) 8 1 tl [.inr (.inr (0, 0, 0)), .inl (a1), .inl (a2)] [] σ) rfl ?_
    refine ox_R_to 3 (Y := if a2 < 32 then ox_ev m_Out_sign (ox_zz ox_ms (n + 2)) 20 1 tl [ox_d, ox_d, ox_d] [] σ else ox_ev m_Out_sign (ox_zz ox_ms (n + 2)) 14 1 tl [.inr (.inr (0, 0, 0)), .inl (a1), .inl (a2)] [] σ) rfl ?_
    refine ox_R_if (fun _ => ?_) (fun _ => ?_)
    · exact (L_Out_sign_20 σ n tl)
    · refine ox_R_to 3 (Y := if a2 ≤ 126 then ox_ev m_Out_sign (ox_zz ox_ms (n + 2)) 30 1 tl [.inr (.inr (0, 0, 0)), .inl (a1), .inl (a2)] [] σ else ox_ev m_Out_sign (ox_zz ox_ms (n + 2)) 20 1 tl [ox_d, ox_d, ox_d] [] σ) rfl ?_
      refine ox_R_if (fun _ => ?_) (fun _ => ?_)
      · refine ox_R_to 4 (Y := ox_back m_Out_sign 35 3 [] ((ox_zz ox_ms (n + 2)) 156 tl [.inr (.inr (1, 0, 0)), .inl (a1)] σ) (fun pc9 x9 st9 σ9 => ox_ev m_Out_sign (ox_zz ox_ms (n + 2)) pc9 1 tl (ox_kl (m_Out_sign.2.2.1 pc9) (ox_xl x9 [.inr (.inr (0, 0, 0)), .inl (a1), .inl (a2)])) st9 σ9)) rfl ?_
        refine ox_R_call (fc := (fun r : Int => ((.inl (some (.inl r)), σ) : ox_O))) (L_Lin_size 0 a1 σ (n + 1) tl) (fun r3 => ?_)
        refine ox_R_of (Y := ox_ev m_Out_sign (ox_zz ox_ms (n + 2)) 38 1 tl [.inr (.inr (0, 0, 0)), .inl (a1), .inl (a2)] [.inl (r3)] σ) rfl ?_
        refine ox_R_to 2 (Y := if r3 < 24 then ox_ev m_Out_sign (ox_zz ox_ms (n + 2)) 53 1 tl [.inr (.inr (0, 0, 0)), .inl (a1), .inl (a2)] [] σ else ox_ev m_Out_sign (ox_zz ox_ms (n + 2)) 43 1 tl [.inr (.inr (0, 0, 0)), .inl (a1), .inl (a2)] [] σ) rfl ?_
        refine ox_R_if (fun _ => ?_) (fun _ => ?_)
        · refine ox_R_to 5 (Y := ox_back m_Out_sign 59 2 [] ((ox_zz ox_ms (n + 2)) 163 tl [.inr (.inr (1, 0, 0)), .inl (a1), .inl (a2)] σ) (fun pc9 x9 st9 σ9 => ox_ev m_Out_sign (ox_zz ox_ms (n + 2)) pc9 1 tl (ox_kl (m_Out_sign.2.2.1 pc9) (ox_xl x9 [.inr (.inr (0, 0, 0)), .inl (a1), .inl (a2)])) st9 σ9)) rfl ?_
          refine ox_R_call (fc := (fun r : ox_H => ((.inl none, r) : ox_O))) (L_Lin_add 0 a1 a2 σ (n + 1) tl) (fun r4 => ?_)
          refine ox_R_of (Y := ox_ev m_Out_sign (ox_zz ox_ms (n + 2)) 62 1 tl [.inr (.inr (0, 0, 0)), .inl (a1), .inl (a2)] [] r4) rfl ?_
          refine ox_R_to 4 (Y := ox_back m_Out_sign 67 3 [] ((ox_zz ox_ms (n + 2)) 156 tl [.inr (.inr (1, 0, 0)), .inl (a1)] r4) (fun pc9 x9 st9 σ9 => ox_ev m_Out_sign (ox_zz ox_ms (n + 2)) pc9 1 tl (ox_kl (m_Out_sign.2.2.1 pc9) (ox_xl x9 [.inr (.inr (0, 0, 0)), .inl (a1), .inl (a2)])) st9 σ9)) rfl ?_
          refine ox_R_call (fc := (fun r : Int => ((.inl (some (.inl r)), r4) : ox_O))) (L_Lin_size 0 a1 r4 (n + 1) tl) (fun r5 => ?_)
          refine ox_R_of (Y := ox_ev m_Out_sign (ox_zz ox_ms (n + 2)) 70 1 tl [.inr (.inr (0, 0, 0)), .inl (a1), .inl (a2)] [.inl (r5)] r4) rfl ?_
          refine ox_R_to 1 (Y := some (.inl (some (.inl (r5))), r4)) rfl ?_
          exact ox_R_ret rfl
        · refine ox_R_to 1 (Y := some (.inr 3, σ)) rfl ?_
          exact ox_R_ret rfl
      · exact (L_Out_sign_20 σ n tl)
def J_Lin_close_19  (σ : ox_H) : Option ox_H := some σ
theorem L_Lin_close_19  (σ : ox_H) (n tl : Nat) : ox_R (fun r => some ((fun r : ox_H => ((.inl none, r) : ox_O)) r)) (J_Lin_close_19 σ) (ox_ev m_Lin_close (ox_zz ox_ms (n + 0)) 19 0 tl [ox_d, ox_d, ox_d, ox_d] [] σ) := by
  unfold J_Lin_close_19
  refine ox_R_to 1 (Y := some (.inl none, σ)) rfl ?_
  exact ox_R_ret rfl
def F_Lin_close  (k : Nat) (a1 : Int) (a2 : Int) (σ : ox_H) : Option (ox_H) := if a1 < 0 then (J_Lin_close_19 σ) else (if a2 < 1 then (J_Lin_close_19 σ) else (if a2 ≤ (ox_w ((σ 1 k 4 0) - a1)) then (if 0 ≤ (ox_w ((ox_w ((σ 1 k 4 0) - (ox_w (a1 + a2)))) * (σ 1 k 1 0))) ∧ 0 ≤ (ox_w (a1 * (σ 1 k 1 0))) ∧ 0 ≤ (ox_w ((ox_w (a1 + a2)) * (σ 1 k 1 0))) ∧ (ox_w ((ox_w (a1 + a2)) * (σ 1 k 1 0))) + (ox_w ((ox_w ((σ 1 k 4 0) - (ox_w (a1 + a2)))) * (σ 1 k 1 0))) ≤ (ox_ln k * ox_wd k) ∧ (ox_w (a1 * (σ 1 k 1 0))) + (ox_w ((ox_w ((σ 1 k 4 0) - (ox_w (a1 + a2)))) * (σ 1 k 1 0))) ≤ (ox_ln k * ox_wd k) then (if 0 ≤ (ox_w ((σ 1 k 4 0) - (ox_w (a1 + a2)))) ∧ 0 ≤ a1 ∧ 0 ≤ (ox_w (a1 + a2)) ∧ (ox_w (a1 + a2)) + (ox_w ((σ 1 k 4 0) - (ox_w (a1 + a2)))) ≤ (ox_ln k) ∧ a1 + (ox_w ((σ 1 k 4 0) - (ox_w (a1 + a2)))) ≤ (ox_ln k) then (some (ox_up (ox_up (ox_cp (ox_cp σ 1 k 2 (ox_w ((ox_w (a1 + a2)) * (σ 1 k 1 0))).toNat 1 k 2 (ox_w (a1 * (σ 1 k 1 0))).toNat (ox_w ((ox_w ((σ 1 k 4 0) - (ox_w (a1 + a2)))) * (σ 1 k 1 0))).toNat) 1 k 3 (ox_w (a1 + a2)).toNat 1 k 3 a1.toNat (ox_w ((σ 1 k 4 0) - (ox_w (a1 + a2)))).toNat) 1 k 4 0 (ox_w ((σ 1 k 4 0) - a2))) 1 k 5 0 (ox_w ((σ 1 k 5 0) + 1)))) else none) else none) else (J_Lin_close_19 σ)))
theorem L_Lin_close  (k : Nat) (a1 : Int) (a2 : Int) (σ : ox_H) (n tl : Nat) : ox_R (fun r => some ((fun r : ox_H => ((.inl none, r) : ox_O)) r)) (F_Lin_close k a1 a2 σ) (ox_zz ox_ms (n + 1) 159 tl [.inr (.inr (1, k, 0)), .inl (a1), .inl (a2)] σ) := by
  unfold F_Lin_close
  refine ox_R_of (Y := ox_ev m_Lin_close (ox_zz ox_ms (n + 0)) 0 0 tl [.inr (.inr (1, k, 0)), .inl (a1), .inl (a2), ox_d] [] σ) rfl ?_
  refine ox_R_to 2 (Y := if a1 < 0 then ox_ev m_Lin_close (ox_zz ox_ms (n + 0)) 19 0 tl [ox_d, ox_d, ox_d, ox_d] [] σ else ox_ev m_Lin_close (ox_zz ox_ms (n + 0)) 4 0 tl [.inr (.inr (1, k, 0)), .inl (a1), .inl (a2), ox_d] [] σ) rfl ?_
  refine ox_R_if (fun _ => ?_) (fun _ => ?_)
  · exact (L_Lin_close_19 σ n tl)
  · refine ox_R_to 3 (Y := if a2 < 1 then ox_ev m_Lin_close (ox_zz ox_ms (n + 0)) 19 0 tl [ox_d, ox_d, ox_d, ox_d] [] σ else ox_ev m_Lin_close (ox_zz ox_ms (n + 0)) 9 0 tl [.inr (.inr (1, k, 0)), .inl (a1), .inl (a2), ox_d] [] σ) rfl ?_
    refine ox_R_if (fun _ => ?_) (fun _ => ?_)
    · exact (L_Lin_close_19 σ n tl)
    · refine ox_R_to 6 (Y := if a2 ≤ (ox_w ((σ 1 k 4 0) - a1)) then ox_ev m_Lin_close (ox_zz ox_ms (n + 0)) 20 0 tl [.inr (.inr (1, k, 0)), .inl (a1), .inl (a2), ox_d] [] σ else ox_ev m_Lin_close (ox_zz ox_ms (n + 0)) 19 0 tl [ox_d, ox_d, ox_d, ox_d] [] σ) rfl ?_
      refine ox_R_if (fun _ => ?_) (fun _ => ?_)
      · refine ox_R_to 24 (Y := if 0 ≤ (ox_w ((ox_w ((σ 1 k 4 0) - (ox_w (a1 + a2)))) * (σ 1 k 1 0))) ∧ 0 ≤ (ox_w (a1 * (σ 1 k 1 0))) ∧ 0 ≤ (ox_w ((ox_w (a1 + a2)) * (σ 1 k 1 0))) ∧ (ox_w ((ox_w (a1 + a2)) * (σ 1 k 1 0))) + (ox_w ((ox_w ((σ 1 k 4 0) - (ox_w (a1 + a2)))) * (σ 1 k 1 0))) ≤ (ox_ln k * ox_wd k) ∧ (ox_w (a1 * (σ 1 k 1 0))) + (ox_w ((ox_w ((σ 1 k 4 0) - (ox_w (a1 + a2)))) * (σ 1 k 1 0))) ≤ (ox_ln k * ox_wd k) then ox_ev m_Lin_close (ox_zz ox_ms (n + 0)) 58 0 tl [.inr (.inr (1, k, 0)), .inl (a1), .inl (a2), .inl (ox_w (a1 + a2))] [] (ox_cp σ 1 k 2 (ox_w ((ox_w (a1 + a2)) * (σ 1 k 1 0))).toNat 1 k 2 (ox_w (a1 * (σ 1 k 1 0))).toNat (ox_w ((ox_w ((σ 1 k 4 0) - (ox_w (a1 + a2)))) * (σ 1 k 1 0))).toNat) else none) rfl ?_
        refine ox_R_if (fun _ => ?_) (fun _ => ox_R_none)
        refine ox_R_to 11 (Y := if 0 ≤ (ox_w ((σ 1 k 4 0) - (ox_w (a1 + a2)))) ∧ 0 ≤ a1 ∧ 0 ≤ (ox_w (a1 + a2)) ∧ (ox_w (a1 + a2)) + (ox_w ((σ 1 k 4 0) - (ox_w (a1 + a2)))) ≤ (ox_ln k) ∧ a1 + (ox_w ((σ 1 k 4 0) - (ox_w (a1 + a2)))) ≤ (ox_ln k) then ox_ev m_Lin_close (ox_zz ox_ms (n + 0)) 77 0 tl [.inr (.inr (1, k, 0)), .inl (a1), .inl (a2), .inl (ox_w (a1 + a2))] [] (ox_cp (ox_cp σ 1 k 2 (ox_w ((ox_w (a1 + a2)) * (σ 1 k 1 0))).toNat 1 k 2 (ox_w (a1 * (σ 1 k 1 0))).toNat (ox_w ((ox_w ((σ 1 k 4 0) - (ox_w (a1 + a2)))) * (σ 1 k 1 0))).toNat) 1 k 3 (ox_w (a1 + a2)).toNat 1 k 3 a1.toNat (ox_w ((σ 1 k 4 0) - (ox_w (a1 + a2)))).toNat) else none) rfl ?_
        refine ox_R_if (fun _ => ?_) (fun _ => ox_R_none)
        refine ox_R_to 13 (Y := some (.inl none, (ox_up (ox_up (ox_cp (ox_cp σ 1 k 2 (ox_w ((ox_w (a1 + a2)) * (σ 1 k 1 0))).toNat 1 k 2 (ox_w (a1 * (σ 1 k 1 0))).toNat (ox_w ((ox_w ((σ 1 k 4 0) - (ox_w (a1 + a2)))) * (σ 1 k 1 0))).toNat) 1 k 3 (ox_w (a1 + a2)).toNat 1 k 3 a1.toNat (ox_w ((σ 1 k 4 0) - (ox_w (a1 + a2)))).toNat) 1 k 4 0 (ox_w ((σ 1 k 4 0) - a2))) 1 k 5 0 (ox_w ((σ 1 k 5 0) + 1))))) rfl ?_
        exact ox_R_ret rfl
      · exact (L_Lin_close_19 σ n tl)
def J_Lin_takeOut_33  (σ : ox_H) : Option ox_H := some σ
theorem L_Lin_takeOut_33  (σ : ox_H) (n tl : Nat) : ox_R (fun r => some ((fun r : ox_H => ((.inl none, r) : ox_O)) r)) (J_Lin_takeOut_33 σ) (ox_ev m_Lin_takeOut (ox_zz ox_ms (n + 0)) 33 0 tl [ox_d, ox_d, ox_d, ox_d, ox_d] [] σ) := by
  unfold J_Lin_takeOut_33
  refine ox_R_to 1 (Y := some (.inl none, σ)) rfl ?_
  exact ox_R_ret rfl
def F_Lin_takeOut  (k : Nat) (a1 : Int) (a2 : Int) (a3 : Int) (σ : ox_H) : Option (ox_H) := if a1 < 0 then (J_Lin_takeOut_33 σ) else (if (σ 1 k 4 0) ≤ a1 then (J_Lin_takeOut_33 σ) else (if a2 < 0 then (J_Lin_takeOut_33 σ) else (if a3 < 1 then (J_Lin_takeOut_33 σ) else (if 0 ≤ a1 ∧ a1.toNat < (ox_ln k) then (if a3 ≤ (ox_w ((σ 1 k 3 a1.toNat) - a2)) then (if 0 ≤ a1 ∧ a1.toNat < (ox_ln k) then (if 0 ≤ (ox_w ((ox_w ((σ 1 k 3 a1.toNat) - a2)) - a3)) ∧ 0 ≤ (ox_w ((ox_w (a1 * (σ 1 k 1 0))) + a2)) ∧ 0 ≤ (ox_w ((ox_w ((ox_w (a1 * (σ 1 k 1 0))) + a2)) + a3)) ∧ (ox_w ((ox_w ((ox_w (a1 * (σ 1 k 1 0))) + a2)) + a3)) + (ox_w ((ox_w ((σ 1 k 3 a1.toNat) - a2)) - a3)) ≤ (ox_ln k * ox_wd k) ∧ (ox_w ((ox_w (a1 * (σ 1 k 1 0))) + a2)) + (ox_w ((ox_w ((σ 1 k 3 a1.toNat) - a2)) - a3)) ≤ (ox_ln k * ox_wd k) then (if 0 ≤ a1 ∧ a1.toNat < (ox_ln k) then (if 0 ≤ a1 ∧ a1.toNat < (ox_ln k) then (some (ox_up (ox_up (ox_cp σ 1 k 2 (ox_w ((ox_w ((ox_w (a1 * (σ 1 k 1 0))) + a2)) + a3)).toNat 1 k 2 (ox_w ((ox_w (a1 * (σ 1 k 1 0))) + a2)).toNat (ox_w ((ox_w ((σ 1 k 3 a1.toNat) - a2)) - a3)).toNat) 1 k 3 a1.toNat (ox_w ((σ 1 k 3 a1.toNat) - a3))) 1 k 5 0 (ox_w ((σ 1 k 5 0) + 1)))) else none) else none) else none) else none) else (J_Lin_takeOut_33 σ)) else none))))
theorem L_Lin_takeOut  (k : Nat) (a1 : Int) (a2 : Int) (a3 : Int) (σ : ox_H) (n tl : Nat) : ox_R (fun r => some ((fun r : ox_H => ((.inl none, r) : ox_O)) r)) (F_Lin_takeOut k a1 a2 a3 σ) (ox_zz ox_ms (n + 1) 168 tl [.inr (.inr (1, k, 0)), .inl (a1), .inl (a2), .inl (a3)] σ) := by
  unfold F_Lin_takeOut
  refine ox_R_of (Y := ox_ev m_Lin_takeOut (ox_zz ox_ms (n + 0)) 0 0 tl [.inr (.inr (1, k, 0)), .inl (a1), .inl (a2), .inl (a3), ox_d] [] σ) rfl ?_
  refine ox_R_to 2 (Y := if a1 < 0 then ox_ev m_Lin_takeOut (ox_zz ox_ms (n + 0)) 33 0 tl [ox_d, ox_d, ox_d, ox_d, ox_d] [] σ else ox_ev m_Lin_takeOut (ox_zz ox_ms (n + 0)) 4 0 tl [.inr (.inr (1, k, 0)), .inl (a1), .inl (a2), .inl (a3), ox_d] [] σ) rfl ?_
  refine ox_R_if (fun _ => ?_) (fun _ => ?_)
  · exact (L_Lin_takeOut_33 σ n tl)
  · refine ox_R_to 4 (Y := if (σ 1 k 4 0) ≤ a1 then ox_ev m_Lin_takeOut (ox_zz ox_ms (n + 0)) 33 0 tl [ox_d, ox_d, ox_d, ox_d, ox_d] [] σ else ox_ev m_Lin_takeOut (ox_zz ox_ms (n + 0)) 12 0 tl [.inr (.inr (1, k, 0)), .inl (a1), .inl (a2), .inl (a3), ox_d] [] σ) rfl ?_
    refine ox_R_if (fun _ => ?_) (fun _ => ?_)
    · exact (L_Lin_takeOut_33 σ n tl)
    · refine ox_R_to 2 (Y := if a2 < 0 then ox_ev m_Lin_takeOut (ox_zz ox_ms (n + 0)) 33 0 tl [ox_d, ox_d, ox_d, ox_d, ox_d] [] σ else ox_ev m_Lin_takeOut (ox_zz ox_ms (n + 0)) 16 0 tl [.inr (.inr (1, k, 0)), .inl (a1), .inl (a2), .inl (a3), ox_d] [] σ) rfl ?_
      refine ox_R_if (fun _ => ?_) (fun _ => ?_)
      · exact (L_Lin_takeOut_33 σ n tl)
      · refine ox_R_to 3 (Y := if a3 < 1 then ox_ev m_Lin_takeOut (ox_zz ox_ms (n + 0)) 33 0 tl [ox_d, ox_d, ox_d, ox_d, ox_d] [] σ else ox_ev m_Lin_takeOut (ox_zz ox_ms (n + 0)) 21 0 tl [.inr (.inr (1, k, 0)), .inl (a1), .inl (a2), .inl (a3), ox_d] [] σ) rfl ?_
        refine ox_R_if (fun _ => ?_) (fun _ => ?_)
        · exact (L_Lin_takeOut_33 σ n tl)
        · refine ox_R_to 5 (Y := if 0 ≤ a1 ∧ a1.toNat < (ox_ln k) then ox_ev m_Lin_takeOut (ox_zz ox_ms (n + 0)) 28 0 tl [.inr (.inr (1, k, 0)), .inl (a1), .inl (a2), .inl (a3), ox_d] [.inl (σ 1 k 3 a1.toNat), .inl (a3)] σ else none) rfl ?_
          refine ox_R_if (fun _ => ?_) (fun _ => ox_R_none)
          refine ox_R_to 3 (Y := if a3 ≤ (ox_w ((σ 1 k 3 a1.toNat) - a2)) then ox_ev m_Lin_takeOut (ox_zz ox_ms (n + 0)) 34 0 tl [.inr (.inr (1, k, 0)), .inl (a1), .inl (a2), .inl (a3), ox_d] [] σ else ox_ev m_Lin_takeOut (ox_zz ox_ms (n + 0)) 33 0 tl [ox_d, ox_d, ox_d, ox_d, ox_d] [] σ) rfl ?_
          refine ox_R_if (fun _ => ?_) (fun _ => ?_)
          · refine ox_R_to 19 (Y := if 0 ≤ a1 ∧ a1.toNat < (ox_ln k) then ox_ev m_Lin_takeOut (ox_zz ox_ms (n + 0)) 64 0 tl [.inr (.inr (1, k, 0)), .inl (a1), .inl (a2), .inl (a3), .inl (ox_w ((ox_w (a1 * (σ 1 k 1 0))) + a2))] [.inl (σ 1 k 3 a1.toNat), .inl (ox_w ((ox_w (a1 * (σ 1 k 1 0))) + a2)), .inr (.inr (101, k, 2)), .inl (ox_w ((ox_w ((ox_w (a1 * (σ 1 k 1 0))) + a2)) + a3)), .inr (.inr (101, k, 2))] σ else none) rfl ?_
            refine ox_R_if (fun _ => ?_) (fun _ => ox_R_none)
            refine ox_R_to 5 (Y := if 0 ≤ (ox_w ((ox_w ((σ 1 k 3 a1.toNat) - a2)) - a3)) ∧ 0 ≤ (ox_w ((ox_w (a1 * (σ 1 k 1 0))) + a2)) ∧ 0 ≤ (ox_w ((ox_w ((ox_w (a1 * (σ 1 k 1 0))) + a2)) + a3)) ∧ (ox_w ((ox_w ((ox_w (a1 * (σ 1 k 1 0))) + a2)) + a3)) + (ox_w ((ox_w ((σ 1 k 3 a1.toNat) - a2)) - a3)) ≤ (ox_ln k * ox_wd k) ∧ (ox_w ((ox_w (a1 * (σ 1 k 1 0))) + a2)) + (ox_w ((ox_w ((σ 1 k 3 a1.toNat) - a2)) - a3)) ≤ (ox_ln k * ox_wd k) then ox_ev m_Lin_takeOut (ox_zz ox_ms (n + 0)) 71 0 tl [.inr (.inr (1, k, 0)), .inl (a1), .inl (a2), .inl (a3), .inl (ox_w ((ox_w (a1 * (σ 1 k 1 0))) + a2))] [] (ox_cp σ 1 k 2 (ox_w ((ox_w ((ox_w (a1 * (σ 1 k 1 0))) + a2)) + a3)).toNat 1 k 2 (ox_w ((ox_w (a1 * (σ 1 k 1 0))) + a2)).toNat (ox_w ((ox_w ((σ 1 k 3 a1.toNat) - a2)) - a3)).toNat) else none) rfl ?_
            refine ox_R_if (fun _ => ?_) (fun _ => ox_R_none)
            refine ox_R_to 5 (Y := if 0 ≤ a1 ∧ a1.toNat < (ox_ln k) then ox_ev m_Lin_takeOut (ox_zz ox_ms (n + 0)) 78 0 tl [.inr (.inr (1, k, 0)), .inl (a1), .inl (a2), .inl (a3), .inl (ox_w ((ox_w (a1 * (σ 1 k 1 0))) + a2))] [.inl (σ 1 k 3 a1.toNat), .inl (a1), .inr (.inr (101, k, 3))] (ox_cp σ 1 k 2 (ox_w ((ox_w ((ox_w (a1 * (σ 1 k 1 0))) + a2)) + a3)).toNat 1 k 2 (ox_w ((ox_w (a1 * (σ 1 k 1 0))) + a2)).toNat (ox_w ((ox_w ((σ 1 k 3 a1.toNat) - a2)) - a3)).toNat) else none) rfl ?_
            refine ox_R_if (fun _ => ?_) (fun _ => ox_R_none)
            refine ox_R_to 3 (Y := if 0 ≤ a1 ∧ a1.toNat < (ox_ln k) then ox_ev m_Lin_takeOut (ox_zz ox_ms (n + 0)) 81 0 tl [.inr (.inr (1, k, 0)), .inl (a1), .inl (a2), .inl (a3), .inl (ox_w ((ox_w (a1 * (σ 1 k 1 0))) + a2))] [] (ox_up (ox_cp σ 1 k 2 (ox_w ((ox_w ((ox_w (a1 * (σ 1 k 1 0))) + a2)) + a3)).toNat 1 k 2 (ox_w ((ox_w (a1 * (σ 1 k 1 0))) + a2)).toNat (ox_w ((ox_w ((σ 1 k 3 a1.toNat) - a2)) - a3)).toNat) 1 k 3 a1.toNat (ox_w ((σ 1 k 3 a1.toNat) - a3))) else none) rfl ?_
            refine ox_R_if (fun _ => ?_) (fun _ => ox_R_none)
            refine ox_R_to 7 (Y := some (.inl none, (ox_up (ox_up (ox_cp σ 1 k 2 (ox_w ((ox_w ((ox_w (a1 * (σ 1 k 1 0))) + a2)) + a3)).toNat 1 k 2 (ox_w ((ox_w (a1 * (σ 1 k 1 0))) + a2)).toNat (ox_w ((ox_w ((σ 1 k 3 a1.toNat) - a2)) - a3)).toNat) 1 k 3 a1.toNat (ox_w ((σ 1 k 3 a1.toNat) - a3))) 1 k 5 0 (ox_w ((σ 1 k 5 0) + 1))))) rfl ?_
            exact ox_R_ret rfl
          · exact (L_Lin_takeOut_33 σ n tl)
def F_Out_rub  (a1 : Int) (σ : ox_H) : Option ((Nat ⊕ Int) × ox_H) := (F_Out_checkLine 0 a1 σ).bind fun r1 => match r1 with | .inl e6 => (some (.inl e6, σ)) | .inr x2 => ((F_Lin_size 0 a1 σ).bind fun r3 => (if r3 = 0 then ((F_Lin_close 0 a1 1 σ).bind fun r4 => (some (.inr (-1), r4))) else ((F_Lin_takeOut 0 a1 (ox_w (r3 - 1)) 1 σ).bind fun r5 => (some (.inr (ox_w (r3 - 1)), r5)))))
theorem L_Out_rub  (a1 : Int) (σ : ox_H) (n tl : Nat) : ox_R (fun r => some ((fun r : (Nat ⊕ Int) × ox_H => (((Sum.elim (fun e : Nat => (.inr e : Option ox_V ⊕ Nat)) (fun v : Int => .inl (some (.inl v))) r.1), r.2) : ox_O)) r)) (F_Out_rub a1 σ) (ox_zz ox_ms (n + 3) 2 tl [.inr (.inr (0, 0, 0)), .inl (a1)] σ) := by
  unfold F_Out_rub
  refine ox_R_of (Y := ox_ev m_Out_rub (ox_zz ox_ms (n + 2)) 0 1 tl [.inr (.inr (0, 0, 0)), .inl (a1), ox_d] [] σ) rfl ?_
  refine ox_R_to 4 (Y := ox_back m_Out_rub 5 0 [] ((ox_zz ox_ms (n + 2)) 6 tl [.inr (.inr (1, 0, 0)), .inl (a1)] σ) (fun pc9 x9 st9 σ9 => ox_ev m_Out_rub (ox_zz ox_ms (n + 2)) pc9 0 tl (ox_kl (m_Out_rub.2.2.1 pc9) (ox_xl x9 [.inr (.inr (0, 0, 0)), .inl (a1), ox_d])) st9 σ9)) rfl ?_
  refine ox_R_call (fc := (fun r : (Nat ⊕ Unit) => (((Sum.elim (fun e : Nat => (.inr e : Option ox_V ⊕ Nat)) (fun v : Unit => .inl none) r), σ) : ox_O))) (L_Out_checkLine 0 a1 σ (n + 0) tl) (fun r1 => ?_)
  rcases r1 with e6 | x2
  · refine ox_R_of (Y := some (.inr e6, σ)) rfl ?_
    exact ox_R_ret rfl
  · refine ox_R_of (Y := ox_ev m_Out_rub (ox_zz ox_ms (n + 2)) 8 0 tl [.inr (.inr (0, 0, 0)), .inl (a1), ox_d] [] σ) rfl ?_
    refine ox_R_to 4 (Y := ox_back m_Out_rub 13 3 [] ((ox_zz ox_ms (n + 2)) 156 tl [.inr (.inr (1, 0, 0)), .inl (a1)] σ) (fun pc9 x9 st9 σ9 => ox_ev m_Out_rub (ox_zz ox_ms (n + 2)) pc9 0 tl (ox_kl (m_Out_rub.2.2.1 pc9) (ox_xl x9 [.inr (.inr (0, 0, 0)), .inl (a1), ox_d])) st9 σ9)) rfl ?_
    refine ox_R_call (fc := (fun r : Int => ((.inl (some (.inl r)), σ) : ox_O))) (L_Lin_size 0 a1 σ (n + 1) tl) (fun r3 => ?_)
    refine ox_R_of (Y := ox_ev m_Out_rub (ox_zz ox_ms (n + 2)) 16 0 tl [.inr (.inr (0, 0, 0)), .inl (a1), ox_d] [.inl (r3)] σ) rfl ?_
    refine ox_R_to 3 (Y := if r3 = 0 then ox_ev m_Out_rub (ox_zz ox_ms (n + 2)) 21 0 tl [.inr (.inr (0, 0, 0)), .inl (a1), .inl (r3)] [] σ else ox_ev m_Out_rub (ox_zz ox_ms (n + 2)) 32 0 tl [.inr (.inr (0, 0, 0)), .inl (a1), .inl (r3)] [] σ) rfl ?_
    refine ox_R_if (fun _ => ?_) (fun _ => ?_)
    · refine ox_R_to 5 (Y := ox_back m_Out_rub 27 2 [] ((ox_zz ox_ms (n + 2)) 159 tl [.inr (.inr (1, 0, 0)), .inl (a1), .inl (1)] σ) (fun pc9 x9 st9 σ9 => ox_ev m_Out_rub (ox_zz ox_ms (n + 2)) pc9 0 tl (ox_kl (m_Out_rub.2.2.1 pc9) (ox_xl x9 [.inr (.inr (0, 0, 0)), .inl (a1), .inl (r3)])) st9 σ9)) rfl ?_
      refine ox_R_call (fc := (fun r : ox_H => ((.inl none, r) : ox_O))) (L_Lin_close 0 a1 1 σ (n + 1) tl) (fun r4 => ?_)
      refine ox_R_of (Y := ox_ev m_Out_rub (ox_zz ox_ms (n + 2)) 30 0 tl [.inr (.inr (0, 0, 0)), .inl (a1), .inl (r3)] [] r4) rfl ?_
      refine ox_R_to 2 (Y := some (.inl (some (.inl ((-1)))), r4)) rfl ?_
      exact ox_R_ret rfl
    · refine ox_R_to 8 (Y := ox_back m_Out_rub 41 2 [] ((ox_zz ox_ms (n + 2)) 168 tl [.inr (.inr (1, 0, 0)), .inl (a1), .inl (ox_w (r3 - 1)), .inl (1)] σ) (fun pc9 x9 st9 σ9 => ox_ev m_Out_rub (ox_zz ox_ms (n + 2)) pc9 0 tl (ox_kl (m_Out_rub.2.2.1 pc9) (ox_xl x9 [.inr (.inr (0, 0, 0)), .inl (a1), .inl (r3)])) st9 σ9)) rfl ?_
      refine ox_R_call (fc := (fun r : ox_H => ((.inl none, r) : ox_O))) (L_Lin_takeOut 0 a1 (ox_w (r3 - 1)) 1 σ (n + 1) tl) (fun r5 => ?_)
      refine ox_R_of (Y := ox_ev m_Out_rub (ox_zz ox_ms (n + 2)) 44 0 tl [.inr (.inr (0, 0, 0)), .inl (a1), .inl (r3)] [] r5) rfl ?_
      refine ox_R_to 4 (Y := some (.inl (some (.inl (ox_w (r3 - 1)))), r5)) rfl ?_
      exact ox_R_ret rfl
def F_Out_lines  (σ : ox_H) : Option (Int) := some (σ 1 0 4 0)
theorem L_Out_lines  (σ : ox_H) (n tl : Nat) : ox_R (fun r => some ((fun r : Int => ((.inl (some (.inl r)), σ) : ox_O)) r)) (F_Out_lines σ) (ox_zz ox_ms (n + 1) 3 tl [.inr (.inr (0, 0, 0))] σ) := by
  unfold F_Out_lines
  refine ox_R_of (Y := ox_ev m_Out_lines (ox_zz ox_ms (n + 0)) 0 0 tl [.inr (.inr (0, 0, 0))] [] σ) rfl ?_
  refine ox_R_to 4 (Y := some (.inl (some (.inl (σ 1 0 4 0))), σ)) rfl ?_
  exact ox_R_ret rfl
def F_Out_checkPlace  (k1 : Nat) (a2 : Int) (a3 : Int) (σ : ox_H) : Option ((Nat ⊕ Unit)) := (F_Out_checkLine k1 a2 σ).bind fun r1 => match r1 with | .inl e3 => (some (.inl e3)) | .inr x2 => (if 0 ≤ a3 then (some (.inr ())) else (some (.inl 1)))
theorem L_Out_checkPlace  (k1 : Nat) (a2 : Int) (a3 : Int) (σ : ox_H) (n tl : Nat) : ox_R (fun r => some ((fun r : (Nat ⊕ Unit) => (((Sum.elim (fun e : Nat => (.inr e : Option ox_V ⊕ Nat)) (fun v : Unit => .inl none) r), σ) : ox_O)) r)) (F_Out_checkPlace k1 a2 a3 σ) (ox_zz ox_ms (n + 3) 7 tl [.inr (.inr (1, k1, 0)), .inl (a2), .inl (a3)] σ) := by
  unfold F_Out_checkPlace
  refine ox_R_of (Y := ox_ev m_Out_checkPlace (ox_zz ox_ms (n + 2)) 0 2 tl [.inr (.inr (1, k1, 0)), .inl (a2), .inl (a3)] [] σ) rfl ?_
  refine ox_R_to 3 (Y := ox_back m_Out_checkPlace 2 0 [] ((ox_zz ox_ms (n + 2)) 6 tl [.inr (.inr (1, k1, 0)), .inl (a2)] σ) (fun pc9 x9 st9 σ9 => ox_ev m_Out_checkPlace (ox_zz ox_ms (n + 2)) pc9 1 tl (ox_kl (m_Out_checkPlace.2.2.1 pc9) (ox_xl x9 [.inr (.inr (1, k1, 0)), .inl (a2), .inl (a3)])) st9 σ9)) rfl ?_
  refine ox_R_call (fc := (fun r : (Nat ⊕ Unit) => (((Sum.elim (fun e : Nat => (.inr e : Option ox_V ⊕ Nat)) (fun v : Unit => .inl none) r), σ) : ox_O))) (L_Out_checkLine k1 a2 σ (n + 0) tl) (fun r1 => ?_)
  rcases r1 with e3 | x2
  · refine ox_R_of (Y := some (.inr e3, σ)) rfl ?_
    exact ox_R_ret rfl
  · refine ox_R_of (Y := ox_ev m_Out_checkPlace (ox_zz ox_ms (n + 2)) 5 1 tl [.inr (.inr (1, k1, 0)), .inl (a2), .inl (a3)] [] σ) rfl ?_
    refine ox_R_to 2 (Y := if 0 ≤ a3 then ox_ev m_Out_checkPlace (ox_zz ox_ms (n + 2)) 19 1 tl [.inr (.inr (1, k1, 0)), .inl (a2), .inl (a3)] [] σ else ox_ev m_Out_checkPlace (ox_zz ox_ms (n + 2)) 9 1 tl [.inr (.inr (1, k1, 0)), .inl (a2), .inl (a3)] [] σ) rfl ?_
    refine ox_R_if (fun _ => ?_) (fun _ => ?_)
    · refine ox_R_to 1 (Y := some (.inl none, σ)) rfl ?_
      exact ox_R_ret rfl
    · refine ox_R_to 1 (Y := some (.inr 1, σ)) rfl ?_
      exact ox_R_ret rfl
def J_Lin_at_26  (σ : ox_H) : Option Int := some 0
theorem L_Lin_at_26  (σ : ox_H) (n tl : Nat) : ox_R (fun r => some ((fun r : Int => ((.inl (some (.inl r)), σ) : ox_O)) r)) (J_Lin_at_26 σ) (ox_ev m_Lin_at (ox_zz ox_ms (n + 0)) 26 0 tl [ox_d, ox_d, ox_d] [] σ) := by
  unfold J_Lin_at_26
  refine ox_R_to 2 (Y := some (.inl (some (.inl (0))), σ)) rfl ?_
  exact ox_R_ret rfl
def F_Lin_at  (k : Nat) (a1 : Int) (a2 : Int) (σ : ox_H) : Option (Int) := if a1 < 0 then (J_Lin_at_26 σ) else (if (σ 1 k 4 0) ≤ a1 then (J_Lin_at_26 σ) else (if a2 < 0 then (J_Lin_at_26 σ) else (if 0 ≤ a1 ∧ a1.toNat < (ox_ln k) then (if a2 < (σ 1 k 3 a1.toNat) then (if 0 ≤ (ox_w ((ox_w (a1 * (σ 1 k 1 0))) + a2)) ∧ (ox_w ((ox_w (a1 * (σ 1 k 1 0))) + a2)).toNat < (ox_ln k * ox_wd k) then (some ((σ 1 k 2 ((ox_w ((ox_w (a1 * (σ 1 k 1 0))) + a2)).toNat)) % 65536)) else none) else (J_Lin_at_26 σ)) else none)))
theorem L_Lin_at  (k : Nat) (a1 : Int) (a2 : Int) (σ : ox_H) (n tl : Nat) : ox_R (fun r => some ((fun r : Int => ((.inl (some (.inl r)), σ) : ox_O)) r)) (F_Lin_at k a1 a2 σ) (ox_zz ox_ms (n + 1) 157 tl [.inr (.inr (1, k, 0)), .inl (a1), .inl (a2)] σ) := by
  unfold F_Lin_at
  refine ox_R_of (Y := ox_ev m_Lin_at (ox_zz ox_ms (n + 0)) 0 0 tl [.inr (.inr (1, k, 0)), .inl (a1), .inl (a2)] [] σ) rfl ?_
  refine ox_R_to 2 (Y := if a1 < 0 then ox_ev m_Lin_at (ox_zz ox_ms (n + 0)) 26 0 tl [ox_d, ox_d, ox_d] [] σ else ox_ev m_Lin_at (ox_zz ox_ms (n + 0)) 4 0 tl [.inr (.inr (1, k, 0)), .inl (a1), .inl (a2)] [] σ) rfl ?_
  refine ox_R_if (fun _ => ?_) (fun _ => ?_)
  · exact (L_Lin_at_26 σ n tl)
  · refine ox_R_to 4 (Y := if (σ 1 k 4 0) ≤ a1 then ox_ev m_Lin_at (ox_zz ox_ms (n + 0)) 26 0 tl [ox_d, ox_d, ox_d] [] σ else ox_ev m_Lin_at (ox_zz ox_ms (n + 0)) 12 0 tl [.inr (.inr (1, k, 0)), .inl (a1), .inl (a2)] [] σ) rfl ?_
    refine ox_R_if (fun _ => ?_) (fun _ => ?_)
    · exact (L_Lin_at_26 σ n tl)
    · refine ox_R_to 2 (Y := if a2 < 0 then ox_ev m_Lin_at (ox_zz ox_ms (n + 0)) 26 0 tl [ox_d, ox_d, ox_d] [] σ else ox_ev m_Lin_at (ox_zz ox_ms (n + 0)) 16 0 tl [.inr (.inr (1, k, 0)), .inl (a1), .inl (a2)] [] σ) rfl ?_
      refine ox_R_if (fun _ => ?_) (fun _ => ?_)
      · exact (L_Lin_at_26 σ n tl)
      · refine ox_R_to 5 (Y := if 0 ≤ a1 ∧ a1.toNat < (ox_ln k) then ox_ev m_Lin_at (ox_zz ox_ms (n + 0)) 23 0 tl [.inr (.inr (1, k, 0)), .inl (a1), .inl (a2)] [.inl (σ 1 k 3 a1.toNat), .inl (a2)] σ else none) rfl ?_
        refine ox_R_if (fun _ => ?_) (fun _ => ox_R_none)
        refine ox_R_to 1 (Y := if a2 < (σ 1 k 3 a1.toNat) then ox_ev m_Lin_at (ox_zz ox_ms (n + 0)) 28 0 tl [.inr (.inr (1, k, 0)), .inl (a1), .inl (a2)] [] σ else ox_ev m_Lin_at (ox_zz ox_ms (n + 0)) 26 0 tl [ox_d, ox_d, ox_d] [] σ) rfl ?_
        refine ox_R_if (fun _ => ?_) (fun _ => ?_)
        · refine ox_R_to 9 (Y := if 0 ≤ (ox_w ((ox_w (a1 * (σ 1 k 1 0))) + a2)) ∧ (ox_w ((ox_w (a1 * (σ 1 k 1 0))) + a2)).toNat < (ox_ln k * ox_wd k) then ox_ev m_Lin_at (ox_zz ox_ms (n + 0)) 41 0 tl [.inr (.inr (1, k, 0)), .inl (a1), .inl (a2)] [.inl (σ 1 k 2 ((ox_w ((ox_w (a1 * (σ 1 k 1 0))) + a2)).toNat))] σ else none) rfl ?_
          refine ox_R_if (fun _ => ?_) (fun _ => ox_R_none)
          refine ox_R_to 1 (Y := some (.inl (some (.inl ((σ 1 k 2 ((ox_w ((ox_w (a1 * (σ 1 k 1 0))) + a2)).toNat)) % 65536))), σ)) rfl ?_
          exact ox_R_ret rfl
        · exact (L_Lin_at_26 σ n tl)
def F_Out_signAt  (a1 : Int) (a2 : Int) (σ : ox_H) : Option ((Nat ⊕ Int)) := (F_Out_checkPlace 0 a1 a2 σ).bind fun r1 => match r1 with | .inl e4 => (some (.inl e4)) | .inr x2 => ((F_Lin_at 0 a1 a2 σ).bind fun r3 => (some (.inr (r3 % 65536))))
theorem L_Out_signAt  (a1 : Int) (a2 : Int) (σ : ox_H) (n tl : Nat) : ox_R (fun r => some ((fun r : (Nat ⊕ Int) => (((Sum.elim (fun e : Nat => (.inr e : Option ox_V ⊕ Nat)) (fun v : Int => .inl (some (.inl v))) r), σ) : ox_O)) r)) (F_Out_signAt a1 a2 σ) (ox_zz ox_ms (n + 4) 4 tl [.inr (.inr (0, 0, 0)), .inl (a1), .inl (a2)] σ) := by
  unfold F_Out_signAt
  refine ox_R_of (Y := ox_ev m_Out_signAt (ox_zz ox_ms (n + 3)) 0 2 tl [.inr (.inr (0, 0, 0)), .inl (a1), .inl (a2)] [] σ) rfl ?_
  refine ox_R_to 5 (Y := ox_back m_Out_signAt 6 0 [] ((ox_zz ox_ms (n + 3)) 7 tl [.inr (.inr (1, 0, 0)), .inl (a1), .inl (a2)] σ) (fun pc9 x9 st9 σ9 => ox_ev m_Out_signAt (ox_zz ox_ms (n + 3)) pc9 0 tl (ox_kl (m_Out_signAt.2.2.1 pc9) (ox_xl x9 [.inr (.inr (0, 0, 0)), .inl (a1), .inl (a2)])) st9 σ9)) rfl ?_
  refine ox_R_call (fc := (fun r : (Nat ⊕ Unit) => (((Sum.elim (fun e : Nat => (.inr e : Option ox_V ⊕ Nat)) (fun v : Unit => .inl none) r), σ) : ox_O))) (L_Out_checkPlace 0 a1 a2 σ (n + 0) tl) (fun r1 => ?_)
  rcases r1 with e4 | x2
  · refine ox_R_of (Y := some (.inr e4, σ)) rfl ?_
    exact ox_R_ret rfl
  · refine ox_R_of (Y := ox_ev m_Out_signAt (ox_zz ox_ms (n + 3)) 9 0 tl [.inr (.inr (0, 0, 0)), .inl (a1), .inl (a2)] [] σ) rfl ?_
    refine ox_R_to 5 (Y := ox_back m_Out_signAt 15 3 [] ((ox_zz ox_ms (n + 3)) 157 tl [.inr (.inr (1, 0, 0)), .inl (a1), .inl (a2)] σ) (fun pc9 x9 st9 σ9 => ox_ev m_Out_signAt (ox_zz ox_ms (n + 3)) pc9 0 tl (ox_kl (m_Out_signAt.2.2.1 pc9) (ox_xl x9 [.inr (.inr (0, 0, 0)), .inl (a1), .inl (a2)])) st9 σ9)) rfl ?_
    refine ox_R_call (fc := (fun r : Int => ((.inl (some (.inl r)), σ) : ox_O))) (L_Lin_at 0 a1 a2 σ (n + 2) tl) (fun r3 => ?_)
    refine ox_R_of (Y := ox_ev m_Out_signAt (ox_zz ox_ms (n + 3)) 18 0 tl [.inr (.inr (0, 0, 0)), .inl (a1), .inl (a2)] [.inl (r3)] σ) rfl ?_
    refine ox_R_to 1 (Y := some (.inl (some (.inl (r3 % 65536))), σ)) rfl ?_
    exact ox_R_ret rfl
def J_Sum_forget_24  (σ : ox_H) : Option ox_H := some σ
theorem L_Sum_forget_24  (σ : ox_H) (n tl : Nat) : ox_R (fun r => some ((fun r : ox_H => ((.inl none, r) : ox_O)) r)) (J_Sum_forget_24 σ) (ox_ev m_Sum_forget (ox_zz ox_ms (n + 0)) 24 0 tl [ox_d, ox_d] [] σ) := by
  unfold J_Sum_forget_24
  refine ox_R_to 1 (Y := some (.inl none, σ)) rfl ?_
  exact ox_R_ret rfl
def F_Sum_forget  (a1 : Int) (σ : ox_H) : Option (ox_H) := if a1 < 0 then (J_Sum_forget_24 σ) else (if 60 ≤ a1 then (J_Sum_forget_24 σ) else (if 0 ≤ a1 ∧ a1.toNat < 60 then (if 0 ≤ a1 ∧ a1.toNat < 60 then (J_Sum_forget_24 (ox_up (ox_up σ 6 0 0 a1.toNat 0) 6 0 1 a1.toNat 0)) else none) else none))
theorem L_Sum_forget  (a1 : Int) (σ : ox_H) (n tl : Nat) : ox_R (fun r => some ((fun r : ox_H => ((.inl none, r) : ox_O)) r)) (F_Sum_forget a1 σ) (ox_zz ox_ms (n + 1) 231 tl [.inr (.inr (6, 0, 0)), .inl (a1)] σ) := by
  unfold F_Sum_forget
  refine ox_R_of (Y := ox_ev m_Sum_forget (ox_zz ox_ms (n + 0)) 0 0 tl [.inr (.inr (6, 0, 0)), .inl (a1)] [] σ) rfl ?_
  refine ox_R_to 2 (Y := if a1 < 0 then ox_ev m_Sum_forget (ox_zz ox_ms (n + 0)) 24 0 tl [ox_d, ox_d] [] σ else ox_ev m_Sum_forget (ox_zz ox_ms (n + 0)) 4 0 tl [.inr (.inr (6, 0, 0)), .inl (a1)] [] σ) rfl ?_
  refine ox_R_if (fun _ => ?_) (fun _ => ?_)
  · exact (L_Sum_forget_24 σ n tl)
  · refine ox_R_to 3 (Y := if 60 ≤ a1 then ox_ev m_Sum_forget (ox_zz ox_ms (n + 0)) 24 0 tl [ox_d, ox_d] [] σ else ox_ev m_Sum_forget (ox_zz ox_ms (n + 0)) 10 0 tl [.inr (.inr (6, 0, 0)), .inl (a1)] [] σ) rfl ?_
    refine ox_R_if (fun _ => ?_) (fun _ => ?_)
    · exact (L_Sum_forget_24 σ n tl)
    · refine ox_R_to 5 (Y := if 0 ≤ a1 ∧ a1.toNat < 60 then ox_ev m_Sum_forget (ox_zz ox_ms (n + 0)) 17 0 tl [.inr (.inr (6, 0, 0)), .inl (a1)] [] (ox_up σ 6 0 0 a1.toNat 0) else none) rfl ?_
      refine ox_R_if (fun _ => ?_) (fun _ => ox_R_none)
      refine ox_R_to 5 (Y := if 0 ≤ a1 ∧ a1.toNat < 60 then ox_ev m_Sum_forget (ox_zz ox_ms (n + 0)) 24 0 tl [ox_d, ox_d] [] (ox_up (ox_up σ 6 0 0 a1.toNat 0) 6 0 1 a1.toNat 0) else none) rfl ?_
      refine ox_R_if (fun _ => ?_) (fun _ => ox_R_none)
      exact (L_Sum_forget_24 (ox_up (ox_up σ 6 0 0 a1.toNat 0) 6 0 1 a1.toNat 0) n tl)
def J_Rdr_begin_58  (v1 : Int) (σ : ox_H) : Option ox_H := (F_Sum_forget v1 σ).bind fun r1 => (some r1)
theorem L_Rdr_begin_58  (v1 : Int) (σ : ox_H) (n tl : Nat) : ox_R (fun r => some ((fun r : ox_H => ((.inl none, r) : ox_O)) r)) (J_Rdr_begin_58 v1 σ) (ox_ev m_Rdr_begin (ox_zz ox_ms (n + 1)) 58 0 tl [.inr (.inr (3, 0, 0)), .inl (v1), ox_d] [] σ) := by
  unfold J_Rdr_begin_58
  refine ox_R_to 4 (Y := ox_back m_Rdr_begin 63 2 [] ((ox_zz ox_ms (n + 1)) 231 tl [.inr (.inr (6, 0, 0)), .inl (v1)] σ) (fun pc9 x9 st9 σ9 => ox_ev m_Rdr_begin (ox_zz ox_ms (n + 1)) pc9 0 tl (ox_kl (m_Rdr_begin.2.2.1 pc9) (ox_xl x9 [.inr (.inr (3, 0, 0)), .inl (v1), ox_d])) st9 σ9)) rfl ?_
  refine ox_R_call (fc := (fun r : ox_H => ((.inl none, r) : ox_O))) (L_Sum_forget v1 σ (n + 0) tl) (fun r1 => ?_)
  refine ox_R_of (Y := ox_ev m_Rdr_begin (ox_zz ox_ms (n + 1)) 66 0 tl [.inr (.inr (3, 0, 0)), .inl (v1), ox_d] [] r1) rfl ?_
  refine ox_R_to 1 (Y := some (.inl none, r1)) rfl ?_
  exact ox_R_ret rfl
def B_Rdr_begin_29  (v1 : Int) : (Int × ox_H) → Option (((Int × ox_H) ⊕ ox_H)) := fun (v2, σ) => if (σ 3 0 4 0) ≤ v2 then ((J_Rdr_begin_58 v1 σ).map .inr) else ((F_Lin_at 0 v1 v2 σ).bind fun r2 => (if 0 ≤ v2 ∧ v2.toNat < 24 then (some (.inl (ox_w (v2 + 1), (ox_up σ 3 0 2 v2.toNat (r2 % 65536))))) else none))
def J_Rdr_begin_29  (v1 : Int) (v2 : Int) (σ : ox_H) : Option (ox_H) := ox_lp (B_Rdr_begin_29 v1) ox_fu (v2, σ)
theorem L_Rdr_begin_29  (v1 : Int) (v2 : Int) (σ : ox_H) (n tl : Nat) : ox_R (fun r => some ((fun r : ox_H => ((.inl none, r) : ox_O)) r)) (J_Rdr_begin_29 v1 v2 σ) (ox_ev m_Rdr_begin (ox_zz ox_ms (n + 1)) 29 0 tl [.inr (.inr (3, 0, 0)), .inl (v1), .inl (v2)] [] σ) := by
  unfold J_Rdr_begin_29
  refine ox_R_lp (ψ := (fun (s : Int × ox_H) => match s with | (v2, σ) => ox_ev m_Rdr_begin (ox_zz ox_ms (n + 1)) 29 0 tl [.inr (.inr (3, 0, 0)), .inl (v1), .inl (v2)] [] σ)) ?_ ox_fu (v2, σ)
  intro s
  obtain ⟨v2, σ⟩ := s
  unfold B_Rdr_begin_29
  refine ox_R_to 4 (Y := if (σ 3 0 4 0) ≤ v2 then ox_ev m_Rdr_begin (ox_zz ox_ms (n + 1)) 58 0 tl [.inr (.inr (3, 0, 0)), .inl (v1), ox_d] [] σ else ox_ev m_Rdr_begin (ox_zz ox_ms (n + 1)) 37 0 tl [.inr (.inr (3, 0, 0)), .inl (v1), .inl (v2)] [] σ) rfl ?_
  refine ox_R_if (fun _ => ?_) (fun _ => ?_)
  · exact ox_R_map ((L_Rdr_begin_58 v1 σ n tl))
  · refine ox_R_to 8 (Y := ox_back m_Rdr_begin 48 3 [.inl (v2), .inr (.inr (103, 0, 2))] ((ox_zz ox_ms (n + 1)) 157 tl [.inr (.inr (1, 0, 0)), .inl (v1), .inl (v2)] σ) (fun pc9 x9 st9 σ9 => ox_ev m_Rdr_begin (ox_zz ox_ms (n + 1)) pc9 0 tl (ox_kl (m_Rdr_begin.2.2.1 pc9) (ox_xl x9 [.inr (.inr (3, 0, 0)), .inl (v1), .inl (v2)])) st9 σ9)) rfl ?_
    refine ox_R_call (fc := (fun r : Int => ((.inl (some (.inl r)), σ) : ox_O))) (L_Lin_at 0 v1 v2 σ (n + 0) tl) (fun r2 => ?_)
    refine ox_R_of (Y := ox_ev m_Rdr_begin (ox_zz ox_ms (n + 1)) 51 0 tl [.inr (.inr (3, 0, 0)), .inl (v1), .inl (v2)] [.inl (r2), .inl (v2), .inr (.inr (103, 0, 2))] σ) rfl ?_
    refine ox_R_to 1 (Y := if 0 ≤ v2 ∧ v2.toNat < 24 then ox_ev m_Rdr_begin (ox_zz ox_ms (n + 1)) 52 0 tl [.inr (.inr (3, 0, 0)), .inl (v1), .inl (v2)] [] (ox_up σ 3 0 2 v2.toNat (r2 % 65536)) else none) rfl ?_
    refine ox_R_if (fun _ => ?_) (fun _ => ox_R_none)
    refine ox_R_to 2 (Y := ox_ev m_Rdr_begin (ox_zz ox_ms (n + 1)) 29 0 tl [.inr (.inr (3, 0, 0)), .inl (v1), .inl (ox_w (v2 + 1))] [] (ox_up σ 3 0 2 v2.toNat (r2 % 65536))) rfl ?_
    exact ox_R_ret rfl
def F_Rdr_begin  (a1 : Int) (σ : ox_H) : Option (ox_H) := (F_Lin_size 0 a1 (ox_up σ 3 0 3 0 a1)).bind fun r3 => (J_Rdr_begin_29 a1 0 (ox_up (ox_up (ox_up σ 3 0 3 0 a1) 3 0 4 0 (if 24 < r3 then 24 else r3)) 3 0 5 0 0))
theorem L_Rdr_begin  (a1 : Int) (σ : ox_H) (n tl : Nat) : ox_R (fun r => some ((fun r : ox_H => ((.inl none, r) : ox_O)) r)) (F_Rdr_begin a1 σ) (ox_zz ox_ms (n + 2) 194 tl [.inr (.inr (3, 0, 0)), .inl (a1)] σ) := by
  unfold F_Rdr_begin
  refine ox_R_of (Y := ox_ev m_Rdr_begin (ox_zz ox_ms (n + 1)) 0 0 tl [.inr (.inr (3, 0, 0)), .inl (a1), ox_d] [] σ) rfl ?_
  refine ox_R_to 8 (Y := ox_back m_Rdr_begin 11 3 [.inr (.inr (3, 0, 0))] ((ox_zz ox_ms (n + 1)) 156 tl [.inr (.inr (1, 0, 0)), .inl (a1)] (ox_up σ 3 0 3 0 a1)) (fun pc9 x9 st9 σ9 => ox_ev m_Rdr_begin (ox_zz ox_ms (n + 1)) pc9 0 tl (ox_kl (m_Rdr_begin.2.2.1 pc9) (ox_xl x9 [.inr (.inr (3, 0, 0)), .inl (a1), ox_d])) st9 σ9)) rfl ?_
  refine ox_R_call (fc := (fun r : Int => ((.inl (some (.inl r)), (ox_up σ 3 0 3 0 a1)) : ox_O))) (L_Lin_size 0 a1 (ox_up σ 3 0 3 0 a1) (n + 0) tl) (fun r3 => ?_)
  refine ox_R_of (Y := ox_ev m_Rdr_begin (ox_zz ox_ms (n + 1)) 14 0 tl [.inr (.inr (3, 0, 0)), .inl (a1), ox_d] [.inl (r3), .inr (.inr (3, 0, 0))] (ox_up σ 3 0 3 0 a1)) rfl ?_
  refine ox_R_to 8 (Y := ox_ev m_Rdr_begin (ox_zz ox_ms (n + 1)) 29 0 tl [.inr (.inr (3, 0, 0)), .inl (a1), .inl (0)] [] (ox_up (ox_up (ox_up σ 3 0 3 0 a1) 3 0 4 0 (if 24 < r3 then 24 else r3)) 3 0 5 0 0)) rfl ?_
  exact (L_Rdr_begin_29 a1 0 (ox_up (ox_up (ox_up σ 3 0 3 0 a1) 3 0 4 0 (if 24 < r3 then 24 else r3)) 3 0 5 0 0) n tl)
def F_Rdg_forget  (k : Nat) (σ : ox_H) : Option (ox_H) := some (ox_up (ox_up (ox_up (ox_up (ox_up (ox_up (ox_up (ox_up (ox_up (ox_up (ox_up (ox_up σ 4 k 0 0 7) 4 k 1 0 0) 4 k 2 0 0) 4 k 3 0 (-1)) 4 k 4 0 (-1)) 4 k 5 0 (-1)) 4 k 6 0 0) 4 k 7 0 0) 4 k 8 0 (-1)) 4 k 9 0 0) 4 k 10 0 0) 4 k 11 0 0)
theorem L_Rdg_forget  (k : Nat) (σ : ox_H) (n tl : Nat) : ox_R (fun r => some ((fun r : ox_H => ((.inl none, r) : ox_O)) r)) (F_Rdg_forget k σ) (ox_zz ox_ms (n + 1) 214 tl [.inr (.inr (4, k, 0))] σ) := by
  unfold F_Rdg_forget
  refine ox_R_of (Y := ox_ev m_Rdg_forget (ox_zz ox_ms (n + 0)) 0 0 tl [.inr (.inr (4, k, 0))] [] σ) rfl ?_
  refine ox_R_to 37 (Y := some (.inl none, (ox_up (ox_up (ox_up (ox_up (ox_up (ox_up (ox_up (ox_up (ox_up (ox_up (ox_up (ox_up σ 4 k 0 0 7) 4 k 1 0 0) 4 k 2 0 0) 4 k 3 0 (-1)) 4 k 4 0 (-1)) 4 k 5 0 (-1)) 4 k 6 0 0) 4 k 7 0 0) 4 k 8 0 (-1)) 4 k 9 0 0) 4 k 10 0 0) 4 k 11 0 0))) rfl ?_
  exact ox_R_ret rfl
def J_Rdr_peek_31  (s0 : Int) (σ : ox_H) : Option Int := some (s0 % 65536)
theorem L_Rdr_peek_31  (s0 : Int) (σ : ox_H) (n tl : Nat) : ox_R (fun r => some ((fun r : Int => ((.inl (some (.inl r)), σ) : ox_O)) r)) (J_Rdr_peek_31 s0 σ) (ox_ev m_Rdr_peek (ox_zz ox_ms (n + 0)) 31 0 tl [ox_d] [.inl (s0)] σ) := by
  unfold J_Rdr_peek_31
  refine ox_R_to 1 (Y := some (.inl (some (.inl (s0 % 65536))), σ)) rfl ?_
  exact ox_R_ret rfl
def J_Rdr_peek_30  (σ : ox_H) : Option Int := (J_Rdr_peek_31 0 σ)
theorem L_Rdr_peek_30  (σ : ox_H) (n tl : Nat) : ox_R (fun r => some ((fun r : Int => ((.inl (some (.inl r)), σ) : ox_O)) r)) (J_Rdr_peek_30 σ) (ox_ev m_Rdr_peek (ox_zz ox_ms (n + 0)) 30 0 tl [ox_d] [] σ) := by
  unfold J_Rdr_peek_30
  refine ox_R_to 1 (Y := ox_ev m_Rdr_peek (ox_zz ox_ms (n + 0)) 31 0 tl [ox_d] [.inl (0)] σ) rfl ?_
  exact (L_Rdr_peek_31 0 σ n tl)
def F_Rdr_peek  (σ : ox_H) : Option (Int) := if (σ 3 0 5 0) < 0 then (J_Rdr_peek_30 σ) else (if (σ 3 0 4 0) ≤ (σ 3 0 5 0) then (J_Rdr_peek_30 σ) else (if 0 ≤ (σ 3 0 5 0) ∧ (σ 3 0 5 0).toNat < 24 then (J_Rdr_peek_31 (σ 3 0 2 ((σ 3 0 5 0).toNat)) σ) else none))
theorem L_Rdr_peek  (σ : ox_H) (n tl : Nat) : ox_R (fun r => some ((fun r : Int => ((.inl (some (.inl r)), σ) : ox_O)) r)) (F_Rdr_peek σ) (ox_zz ox_ms (n + 1) 195 tl [.inr (.inr (3, 0, 0))] σ) := by
  unfold F_Rdr_peek
  refine ox_R_of (Y := ox_ev m_Rdr_peek (ox_zz ox_ms (n + 0)) 0 0 tl [.inr (.inr (3, 0, 0))] [] σ) rfl ?_
  refine ox_R_to 3 (Y := if (σ 3 0 5 0) < 0 then ox_ev m_Rdr_peek (ox_zz ox_ms (n + 0)) 30 0 tl [ox_d] [] σ else ox_ev m_Rdr_peek (ox_zz ox_ms (n + 0)) 7 0 tl [.inr (.inr (3, 0, 0))] [] σ) rfl ?_
  refine ox_R_if (fun _ => ?_) (fun _ => ?_)
  · exact (L_Rdr_peek_30 σ n tl)
  · refine ox_R_to 5 (Y := if (σ 3 0 4 0) ≤ (σ 3 0 5 0) then ox_ev m_Rdr_peek (ox_zz ox_ms (n + 0)) 30 0 tl [ox_d] [] σ else ox_ev m_Rdr_peek (ox_zz ox_ms (n + 0)) 18 0 tl [.inr (.inr (3, 0, 0))] [] σ) rfl ?_
    refine ox_R_if (fun _ => ?_) (fun _ => ?_)
    · exact (L_Rdr_peek_30 σ n tl)
    · refine ox_R_to 5 (Y := if 0 ≤ (σ 3 0 5 0) ∧ (σ 3 0 5 0).toNat < 24 then ox_ev m_Rdr_peek (ox_zz ox_ms (n + 0)) 27 0 tl [.inr (.inr (3, 0, 0))] [.inl (σ 3 0 2 ((σ 3 0 5 0).toNat))] σ else none) rfl ?_
      refine ox_R_if (fun _ => ?_) (fun _ => ox_R_none)
      refine ox_R_to 1 (Y := ox_ev m_Rdr_peek (ox_zz ox_ms (n + 0)) 31 0 tl [ox_d] [.inl (σ 3 0 2 ((σ 3 0 5 0).toNat))] σ) rfl ?_
      exact (L_Rdr_peek_31 (σ 3 0 2 ((σ 3 0 5 0).toNat)) σ n tl)
def J_Rdr_take_31  (σ : ox_H) : Option (Int × ox_H) := some (0, σ)
theorem L_Rdr_take_31  (σ : ox_H) (n tl : Nat) : ox_R (fun r => some ((fun r : Int × ox_H => ((.inl (some (.inl r.1)), r.2) : ox_O)) r)) (J_Rdr_take_31 σ) (ox_ev m_Rdr_take (ox_zz ox_ms (n + 0)) 31 0 tl [ox_d, ox_d] [] σ) := by
  unfold J_Rdr_take_31
  refine ox_R_to 2 (Y := some (.inl (some (.inl (0))), σ)) rfl ?_
  exact ox_R_ret rfl
def F_Rdr_take  (a1 : Int) (σ : ox_H) : Option (Int × ox_H) := if (σ 3 0 5 0) < 0 then (J_Rdr_take_31 σ) else (if (σ 3 0 4 0) ≤ (σ 3 0 5 0) then (J_Rdr_take_31 σ) else (if 0 ≤ (σ 3 0 5 0) ∧ (σ 3 0 5 0).toNat < 24 then (if (σ 3 0 2 ((σ 3 0 5 0).toNat)) = a1 then (some (1, (ox_up σ 3 0 5 0 (ox_w ((σ 3 0 5 0) + 1))))) else (J_Rdr_take_31 σ)) else none))
theorem L_Rdr_take  (a1 : Int) (σ : ox_H) (n tl : Nat) : ox_R (fun r => some ((fun r : Int × ox_H => ((.inl (some (.inl r.1)), r.2) : ox_O)) r)) (F_Rdr_take a1 σ) (ox_zz ox_ms (n + 1) 196 tl [.inr (.inr (3, 0, 0)), .inl (a1)] σ) := by
  unfold F_Rdr_take
  refine ox_R_of (Y := ox_ev m_Rdr_take (ox_zz ox_ms (n + 0)) 0 0 tl [.inr (.inr (3, 0, 0)), .inl (a1)] [] σ) rfl ?_
  refine ox_R_to 3 (Y := if (σ 3 0 5 0) < 0 then ox_ev m_Rdr_take (ox_zz ox_ms (n + 0)) 31 0 tl [ox_d, ox_d] [] σ else ox_ev m_Rdr_take (ox_zz ox_ms (n + 0)) 7 0 tl [.inr (.inr (3, 0, 0)), .inl (a1)] [] σ) rfl ?_
  refine ox_R_if (fun _ => ?_) (fun _ => ?_)
  · exact (L_Rdr_take_31 σ n tl)
  · refine ox_R_to 5 (Y := if (σ 3 0 4 0) ≤ (σ 3 0 5 0) then ox_ev m_Rdr_take (ox_zz ox_ms (n + 0)) 31 0 tl [ox_d, ox_d] [] σ else ox_ev m_Rdr_take (ox_zz ox_ms (n + 0)) 18 0 tl [.inr (.inr (3, 0, 0)), .inl (a1)] [] σ) rfl ?_
    refine ox_R_if (fun _ => ?_) (fun _ => ?_)
    · exact (L_Rdr_take_31 σ n tl)
    · refine ox_R_to 5 (Y := if 0 ≤ (σ 3 0 5 0) ∧ (σ 3 0 5 0).toNat < 24 then ox_ev m_Rdr_take (ox_zz ox_ms (n + 0)) 27 0 tl [.inr (.inr (3, 0, 0)), .inl (a1)] [.inl (σ 3 0 2 ((σ 3 0 5 0).toNat))] σ else none) rfl ?_
      refine ox_R_if (fun _ => ?_) (fun _ => ox_R_none)
      refine ox_R_to 2 (Y := if (σ 3 0 2 ((σ 3 0 5 0).toNat)) = a1 then ox_ev m_Rdr_take (ox_zz ox_ms (n + 0)) 33 0 tl [.inr (.inr (3, 0, 0)), .inl (a1)] [] σ else ox_ev m_Rdr_take (ox_zz ox_ms (n + 0)) 31 0 tl [ox_d, ox_d] [] σ) rfl ?_
      refine ox_R_if (fun _ => ?_) (fun _ => ?_)
      · refine ox_R_to 8 (Y := some (.inl (some (.inl (1))), (ox_up σ 3 0 5 0 (ox_w ((σ 3 0 5 0) + 1))))) rfl ?_
        exact ox_R_ret rfl
      · exact (L_Rdr_take_31 σ n tl)
def F_Out_stateWord  (a1 : Int) (σ : ox_H) : Option (Nat) := if a1 = ((0 : Nat) : Int) then (some 0) else if a1 = ((1 : Nat) : Int) then (some 1) else if a1 = ((2 : Nat) : Int) then (some 2) else if a1 = ((3 : Nat) : Int) then (some 3) else (some 4)
theorem L_Out_stateWord  (a1 : Int) (σ : ox_H) (n tl : Nat) : ox_R (fun r => some ((fun r : Nat => ((.inl (some (.inr (.inr (200, r, 0)))), σ) : ox_O)) r)) (F_Out_stateWord a1 σ) (ox_zz ox_ms (n + 1) 25 tl [.inl (a1)] σ) := by
  unfold F_Out_stateWord
  refine ox_R_of (Y := ox_ev m_Out_stateWord (ox_zz ox_ms (n + 0)) 0 0 tl [.inl (a1)] [] σ) rfl ?_
  refine ox_R_to 2 (Y := if a1 = ((0 : Nat) : Int) then ox_ev m_Out_stateWord (ox_zz ox_ms (n + 0)) 32 0 tl [.inl (a1)] [] σ else if a1 = ((1 : Nat) : Int) then ox_ev m_Out_stateWord (ox_zz ox_ms (n + 0)) 36 0 tl [.inl (a1)] [] σ else if a1 = ((2 : Nat) : Int) then ox_ev m_Out_stateWord (ox_zz ox_ms (n + 0)) 40 0 tl [.inl (a1)] [] σ else if a1 = ((3 : Nat) : Int) then ox_ev m_Out_stateWord (ox_zz ox_ms (n + 0)) 44 0 tl [.inl (a1)] [] σ else ox_ev m_Out_stateWord (ox_zz ox_ms (n + 0)) 48 0 tl [.inl (a1)] [] σ) rfl ?_
  refine ox_R_if (fun _ => ?_) (fun _ => ?_)
  · refine ox_R_to 2 (Y := some (.inl (some (.inr (.inr (200, 0, 0)))), σ)) rfl ?_
    exact ox_R_ret rfl
  refine ox_R_if (fun _ => ?_) (fun _ => ?_)
  · refine ox_R_to 2 (Y := some (.inl (some (.inr (.inr (200, 1, 0)))), σ)) rfl ?_
    exact ox_R_ret rfl
  refine ox_R_if (fun _ => ?_) (fun _ => ?_)
  · refine ox_R_to 2 (Y := some (.inl (some (.inr (.inr (200, 2, 0)))), σ)) rfl ?_
    exact ox_R_ret rfl
  refine ox_R_if (fun _ => ?_) (fun _ => ?_)
  · refine ox_R_to 2 (Y := some (.inl (some (.inr (.inr (200, 3, 0)))), σ)) rfl ?_
    exact ox_R_ret rfl
  · refine ox_R_to 2 (Y := some (.inl (some (.inr (.inr (200, 4, 0)))), σ)) rfl ?_
    exact ox_R_ret rfl
def J_Rdr_takeWord_40  (σ : ox_H) : Option (Int × ox_H) := some (1, σ)
theorem L_Rdr_takeWord_40  (σ : ox_H) (n tl : Nat) : ox_R (fun r => some ((fun r : Int × ox_H => ((.inl (some (.inl r.1)), r.2) : ox_O)) r)) (J_Rdr_takeWord_40 σ) (ox_ev m_Rdr_takeWord (ox_zz ox_ms (n + 1)) 40 0 tl [ox_d, ox_d, ox_d, ox_d] [] σ) := by
  unfold J_Rdr_takeWord_40
  refine ox_R_to 2 (Y := some (.inl (some (.inl (1))), σ)) rfl ?_
  exact ox_R_ret rfl
def J_Rdr_takeWord_27  (v2 : Int) (σ : ox_H) : Option (Int × ox_H) := some (0, (ox_up σ 3 0 5 0 v2))
theorem L_Rdr_takeWord_27  (v2 : Int) (σ : ox_H) (n tl : Nat) : ox_R (fun r => some ((fun r : Int × ox_H => ((.inl (some (.inl r.1)), r.2) : ox_O)) r)) (J_Rdr_takeWord_27 v2 σ) (ox_ev m_Rdr_takeWord (ox_zz ox_ms (n + 1)) 27 0 tl [.inr (.inr (3, 0, 0)), ox_d, .inl (v2), ox_d] [] σ) := by
  unfold J_Rdr_takeWord_27
  refine ox_R_to 5 (Y := some (.inl (some (.inl (0))), (ox_up σ 3 0 5 0 v2))) rfl ?_
  exact ox_R_ret rfl
def B_Rdr_takeWord_7  (v1 : Nat) (v2 : Int) : (Int × ox_H) → Option (((Int × ox_H) ⊕ Int × ox_H)) := fun (v3, σ) => if (ox_sl v1 : Nat) ≤ v3 then ((J_Rdr_takeWord_40 σ).map .inr) else (if 0 ≤ v3 ∧ v3.toNat < ox_sl v1 then ((F_Rdr_take (ox_sa v1 v3.toNat) σ).bind fun r1 => (if r1.1 = 0 then ((J_Rdr_takeWord_27 v2 r1.2).map .inr) else (some (.inl (ox_w (v3 + 1), r1.2))))) else none)
def J_Rdr_takeWord_7  (v1 : Nat) (v2 : Int) (v3 : Int) (σ : ox_H) : Option (Int × ox_H) := ox_lp (B_Rdr_takeWord_7 v1 v2) ox_fu (v3, σ)
theorem L_Rdr_takeWord_7  (v1 : Nat) (v2 : Int) (v3 : Int) (σ : ox_H) (n tl : Nat) : ox_R (fun r => some ((fun r : Int × ox_H => ((.inl (some (.inl r.1)), r.2) : ox_O)) r)) (J_Rdr_takeWord_7 v1 v2 v3 σ) (ox_ev m_Rdr_takeWord (ox_zz ox_ms (n + 1)) 7 0 tl [.inr (.inr (3, 0, 0)), .inr (.inr (200, v1, 0)), .inl (v2), .inl (v3)] [] σ) := by
  unfold J_Rdr_takeWord_7
  refine ox_R_lp (ψ := (fun (s : Int × ox_H) => match s with | (v3, σ) => ox_ev m_Rdr_takeWord (ox_zz ox_ms (n + 1)) 7 0 tl [.inr (.inr (3, 0, 0)), .inr (.inr (200, v1, 0)), .inl (v2), .inl (v3)] [] σ)) ?_ ox_fu (v3, σ)
  intro s
  obtain ⟨v3, σ⟩ := s
  unfold B_Rdr_takeWord_7
  refine ox_R_to 4 (Y := if (ox_sl v1 : Nat) ≤ v3 then ox_ev m_Rdr_takeWord (ox_zz ox_ms (n + 1)) 40 0 tl [ox_d, ox_d, ox_d, ox_d] [] σ else ox_ev m_Rdr_takeWord (ox_zz ox_ms (n + 1)) 15 0 tl [.inr (.inr (3, 0, 0)), .inr (.inr (200, v1, 0)), .inl (v2), .inl (v3)] [] σ) rfl ?_
  refine ox_R_if (fun _ => ?_) (fun _ => ?_)
  · exact ox_R_map ((L_Rdr_takeWord_40 σ n tl))
  · refine ox_R_to 4 (Y := if 0 ≤ v3 ∧ v3.toNat < ox_sl v1 then ox_ev m_Rdr_takeWord (ox_zz ox_ms (n + 1)) 21 0 tl [.inr (.inr (3, 0, 0)), .inr (.inr (200, v1, 0)), .inl (v2), .inl (v3)] [.inl (ox_sa v1 v3.toNat), .inr (.inr (3, 0, 0))] σ else none) rfl ?_
    refine ox_R_if (fun _ => ?_) (fun _ => ox_R_none)
    refine ox_R_to 1 (Y := ox_back m_Rdr_takeWord 21 1 [] ((ox_zz ox_ms (n + 1)) 196 tl [.inr (.inr (3, 0, 0)), .inl (ox_sa v1 v3.toNat)] σ) (fun pc9 x9 st9 σ9 => ox_ev m_Rdr_takeWord (ox_zz ox_ms (n + 1)) pc9 0 tl (ox_kl (m_Rdr_takeWord.2.2.1 pc9) (ox_xl x9 [.inr (.inr (3, 0, 0)), .inr (.inr (200, v1, 0)), .inl (v2), .inl (v3)])) st9 σ9)) rfl ?_
    refine ox_R_call (fc := (fun r : Int × ox_H => ((.inl (some (.inl r.1)), r.2) : ox_O))) (L_Rdr_take (ox_sa v1 v3.toNat) σ (n + 0) tl) (fun r1 => ?_)
    refine ox_R_of (Y := ox_ev m_Rdr_takeWord (ox_zz ox_ms (n + 1)) 24 0 tl [.inr (.inr (3, 0, 0)), .inr (.inr (200, v1, 0)), .inl (v2), .inl (v3)] [.inl (r1.1)] r1.2) rfl ?_
    refine ox_R_to 1 (Y := if r1.1 = 0 then ox_ev m_Rdr_takeWord (ox_zz ox_ms (n + 1)) 27 0 tl [.inr (.inr (3, 0, 0)), ox_d, .inl (v2), ox_d] [] r1.2 else ox_ev m_Rdr_takeWord (ox_zz ox_ms (n + 1)) 34 0 tl [.inr (.inr (3, 0, 0)), .inr (.inr (200, v1, 0)), .inl (v2), .inl (v3)] [] r1.2) rfl ?_
    refine ox_R_if (fun _ => ?_) (fun _ => ?_)
    · exact ox_R_map ((L_Rdr_takeWord_27 v2 r1.2 n tl))
    · refine ox_R_to 2 (Y := ox_ev m_Rdr_takeWord (ox_zz ox_ms (n + 1)) 7 0 tl [.inr (.inr (3, 0, 0)), .inr (.inr (200, v1, 0)), .inl (v2), .inl (ox_w (v3 + 1))] [] r1.2) rfl ?_
      exact ox_R_ret rfl
def F_Rdr_takeWord  (w1 : Nat) (σ : ox_H) : Option (Int × ox_H) := (J_Rdr_takeWord_7 w1 (σ 3 0 5 0) 0 σ)
theorem L_Rdr_takeWord  (w1 : Nat) (σ : ox_H) (n tl : Nat) : ox_R (fun r => some ((fun r : Int × ox_H => ((.inl (some (.inl r.1)), r.2) : ox_O)) r)) (F_Rdr_takeWord w1 σ) (ox_zz ox_ms (n + 2) 202 tl [.inr (.inr (3, 0, 0)), .inr (.inr (200, w1, 0))] σ) := by
  unfold F_Rdr_takeWord
  refine ox_R_of (Y := ox_ev m_Rdr_takeWord (ox_zz ox_ms (n + 1)) 0 0 tl [.inr (.inr (3, 0, 0)), .inr (.inr (200, w1, 0)), ox_d, ox_d] [] σ) rfl ?_
  refine ox_R_to 5 (Y := ox_ev m_Rdr_takeWord (ox_zz ox_ms (n + 1)) 7 0 tl [.inr (.inr (3, 0, 0)), .inr (.inr (200, w1, 0)), .inl (σ 3 0 5 0), .inl (0)] [] σ) rfl ?_
  exact (L_Rdr_takeWord_7 w1 (σ 3 0 5 0) 0 σ n tl)
def J_Rdr_takeState_26  (σ : ox_H) : Option (Int × ox_H) := some ((-1), σ)
theorem L_Rdr_takeState_26  (σ : ox_H) (n tl : Nat) : ox_R (fun r => some ((fun r : Int × ox_H => ((.inl (some (.inl r.1)), r.2) : ox_O)) r)) (J_Rdr_takeState_26 σ) (ox_ev m_Rdr_takeState (ox_zz ox_ms (n + 2)) 26 0 tl [ox_d, ox_d] [] σ) := by
  unfold J_Rdr_takeState_26
  refine ox_R_to 2 (Y := some (.inl (some (.inl ((-1)))), σ)) rfl ?_
  exact ox_R_ret rfl
def J_Rdr_takeState_18  (v1 : Int) (σ : ox_H) : Option (Int × ox_H) := some (v1, σ)
theorem L_Rdr_takeState_18  (v1 : Int) (σ : ox_H) (n tl : Nat) : ox_R (fun r => some ((fun r : Int × ox_H => ((.inl (some (.inl r.1)), r.2) : ox_O)) r)) (J_Rdr_takeState_18 v1 σ) (ox_ev m_Rdr_takeState (ox_zz ox_ms (n + 2)) 18 0 tl [ox_d, .inl (v1)] [] σ) := by
  unfold J_Rdr_takeState_18
  refine ox_R_to 2 (Y := some (.inl (some (.inl (v1))), σ)) rfl ?_
  exact ox_R_ret rfl
def B_Rdr_takeState_2  : (Int × ox_H) → Option (((Int × ox_H) ⊕ Int × ox_H)) := fun (v1, σ) => if 3 < v1 then ((J_Rdr_takeState_26 σ).map .inr) else ((F_Out_stateWord v1 σ).bind fun r1 => ((F_Rdr_takeWord r1 σ).bind fun r2 => (if r2.1 = 0 then (some (.inl (ox_w (v1 + 1), r2.2))) else ((J_Rdr_takeState_18 v1 r2.2).map .inr))))
def J_Rdr_takeState_2  (v1 : Int) (σ : ox_H) : Option (Int × ox_H) := ox_lp (B_Rdr_takeState_2) ox_fu (v1, σ)
theorem L_Rdr_takeState_2  (v1 : Int) (σ : ox_H) (n tl : Nat) : ox_R (fun r => some ((fun r : Int × ox_H => ((.inl (some (.inl r.1)), r.2) : ox_O)) r)) (J_Rdr_takeState_2 v1 σ) (ox_ev m_Rdr_takeState (ox_zz ox_ms (n + 2)) 2 0 tl [.inr (.inr (3, 0, 0)), .inl (v1)] [] σ) := by
  unfold J_Rdr_takeState_2
  refine ox_R_lp (ψ := (fun (s : Int × ox_H) => match s with | (v1, σ) => ox_ev m_Rdr_takeState (ox_zz ox_ms (n + 2)) 2 0 tl [.inr (.inr (3, 0, 0)), .inl (v1)] [] σ)) ?_ ox_fu (v1, σ)
  intro s
  obtain ⟨v1, σ⟩ := s
  unfold B_Rdr_takeState_2
  refine ox_R_to 3 (Y := if 3 < v1 then ox_ev m_Rdr_takeState (ox_zz ox_ms (n + 2)) 26 0 tl [ox_d, ox_d] [] σ else ox_ev m_Rdr_takeState (ox_zz ox_ms (n + 2)) 7 0 tl [.inr (.inr (3, 0, 0)), .inl (v1)] [] σ) rfl ?_
  refine ox_R_if (fun _ => ?_) (fun _ => ?_)
  · exact ox_R_map ((L_Rdr_takeState_26 σ n tl))
  · refine ox_R_to 3 (Y := ox_back m_Rdr_takeState 9 3 [.inr (.inr (3, 0, 0))] ((ox_zz ox_ms (n + 2)) 25 tl [.inl (v1)] σ) (fun pc9 x9 st9 σ9 => ox_ev m_Rdr_takeState (ox_zz ox_ms (n + 2)) pc9 0 tl (ox_kl (m_Rdr_takeState.2.2.1 pc9) (ox_xl x9 [.inr (.inr (3, 0, 0)), .inl (v1)])) st9 σ9)) rfl ?_
    refine ox_R_call (fc := (fun r : Nat => ((.inl (some (.inr (.inr (200, r, 0)))), σ) : ox_O))) (L_Out_stateWord v1 σ (n + 1) tl) (fun r1 => ?_)
    refine ox_R_of (Y := ox_ev m_Rdr_takeState (ox_zz ox_ms (n + 2)) 12 0 tl [.inr (.inr (3, 0, 0)), .inl (v1)] [.inr (.inr (200, r1, 0)), .inr (.inr (3, 0, 0))] σ) rfl ?_
    refine ox_R_to 1 (Y := ox_back m_Rdr_takeState 12 1 [] ((ox_zz ox_ms (n + 2)) 202 tl [.inr (.inr (3, 0, 0)), .inr (.inr (200, r1, 0))] σ) (fun pc9 x9 st9 σ9 => ox_ev m_Rdr_takeState (ox_zz ox_ms (n + 2)) pc9 0 tl (ox_kl (m_Rdr_takeState.2.2.1 pc9) (ox_xl x9 [.inr (.inr (3, 0, 0)), .inl (v1)])) st9 σ9)) rfl ?_
    refine ox_R_call (fc := (fun r : Int × ox_H => ((.inl (some (.inl r.1)), r.2) : ox_O))) (L_Rdr_takeWord r1 σ (n + 0) tl) (fun r2 => ?_)
    refine ox_R_of (Y := ox_ev m_Rdr_takeState (ox_zz ox_ms (n + 2)) 15 0 tl [.inr (.inr (3, 0, 0)), .inl (v1)] [.inl (r2.1)] r2.2) rfl ?_
    refine ox_R_to 1 (Y := if r2.1 = 0 then ox_ev m_Rdr_takeState (ox_zz ox_ms (n + 2)) 20 0 tl [.inr (.inr (3, 0, 0)), .inl (v1)] [] r2.2 else ox_ev m_Rdr_takeState (ox_zz ox_ms (n + 2)) 18 0 tl [ox_d, .inl (v1)] [] r2.2) rfl ?_
    refine ox_R_if (fun _ => ?_) (fun _ => ?_)
    · refine ox_R_to 2 (Y := ox_ev m_Rdr_takeState (ox_zz ox_ms (n + 2)) 2 0 tl [.inr (.inr (3, 0, 0)), .inl (ox_w (v1 + 1))] [] r2.2) rfl ?_
      exact ox_R_ret rfl
    · exact ox_R_map ((L_Rdr_takeState_18 v1 r2.2 n tl))
def F_Rdr_takeState  (σ : ox_H) : Option (Int × ox_H) := (J_Rdr_takeState_2 0 σ)
theorem L_Rdr_takeState  (σ : ox_H) (n tl : Nat) : ox_R (fun r => some ((fun r : Int × ox_H => ((.inl (some (.inl r.1)), r.2) : ox_O)) r)) (F_Rdr_takeState σ) (ox_zz ox_ms (n + 3) 201 tl [.inr (.inr (3, 0, 0))] σ) := by
  unfold F_Rdr_takeState
  refine ox_R_of (Y := ox_ev m_Rdr_takeState (ox_zz ox_ms (n + 2)) 0 0 tl [.inr (.inr (3, 0, 0)), ox_d] [] σ) rfl ?_
  refine ox_R_to 2 (Y := ox_ev m_Rdr_takeState (ox_zz ox_ms (n + 2)) 2 0 tl [.inr (.inr (3, 0, 0)), .inl (0)] [] σ) rfl ?_
  exact (L_Rdr_takeState_2 0 σ n tl)
def J_Rdr_takeLetter_45  (σ : ox_H) : Option (Int × ox_H) := some ((-1), σ)
theorem L_Rdr_takeLetter_45  (σ : ox_H) (n tl : Nat) : ox_R (fun r => some ((fun r : Int × ox_H => ((.inl (some (.inl r.1)), r.2) : ox_O)) r)) (J_Rdr_takeLetter_45 σ) (ox_ev m_Rdr_takeLetter (ox_zz ox_ms (n + 0)) 45 0 tl [ox_d, ox_d] [] σ) := by
  unfold J_Rdr_takeLetter_45
  refine ox_R_to 2 (Y := some (.inl (some (.inl ((-1)))), σ)) rfl ?_
  exact ox_R_ret rfl
def F_Rdr_takeLetter  (a1 : Int) (σ : ox_H) : Option (Int × ox_H) := if (σ 3 0 5 0) < 0 then (J_Rdr_takeLetter_45 σ) else (if (σ 3 0 4 0) ≤ (σ 3 0 5 0) then (J_Rdr_takeLetter_45 σ) else (if 0 ≤ (σ 3 0 5 0) ∧ (σ 3 0 5 0).toNat < 24 then (if (σ 3 0 2 ((σ 3 0 5 0).toNat)) < 97 then (J_Rdr_takeLetter_45 σ) else (if 0 ≤ (σ 3 0 5 0) ∧ (σ 3 0 5 0).toNat < 24 then (if (σ 3 0 2 ((σ 3 0 5 0).toNat)) ≤ a1 then (if 0 ≤ (ox_w ((ox_w ((σ 3 0 5 0) + 1)) - 1)) ∧ (ox_w ((ox_w ((σ 3 0 5 0) + 1)) - 1)).toNat < 24 then (some (ox_w ((σ 3 0 2 ((ox_w ((ox_w ((σ 3 0 5 0) + 1)) - 1)).toNat)) - 97), (ox_up σ 3 0 5 0 (ox_w ((σ 3 0 5 0) + 1))))) else none) else (J_Rdr_takeLetter_45 σ)) else none)) else none))
theorem L_Rdr_takeLetter  (a1 : Int) (σ : ox_H) (n tl : Nat) : ox_R (fun r => some ((fun r : Int × ox_H => ((.inl (some (.inl r.1)), r.2) : ox_O)) r)) (F_Rdr_takeLetter a1 σ) (ox_zz ox_ms (n + 1) 197 tl [.inr (.inr (3, 0, 0)), .inl (a1)] σ) := by
  unfold F_Rdr_takeLetter
  refine ox_R_of (Y := ox_ev m_Rdr_takeLetter (ox_zz ox_ms (n + 0)) 0 0 tl [.inr (.inr (3, 0, 0)), .inl (a1)] [] σ) rfl ?_
  refine ox_R_to 3 (Y := if (σ 3 0 5 0) < 0 then ox_ev m_Rdr_takeLetter (ox_zz ox_ms (n + 0)) 45 0 tl [ox_d, ox_d] [] σ else ox_ev m_Rdr_takeLetter (ox_zz ox_ms (n + 0)) 7 0 tl [.inr (.inr (3, 0, 0)), .inl (a1)] [] σ) rfl ?_
  refine ox_R_if (fun _ => ?_) (fun _ => ?_)
  · exact (L_Rdr_takeLetter_45 σ n tl)
  · refine ox_R_to 5 (Y := if (σ 3 0 4 0) ≤ (σ 3 0 5 0) then ox_ev m_Rdr_takeLetter (ox_zz ox_ms (n + 0)) 45 0 tl [ox_d, ox_d] [] σ else ox_ev m_Rdr_takeLetter (ox_zz ox_ms (n + 0)) 18 0 tl [.inr (.inr (3, 0, 0)), .inl (a1)] [] σ) rfl ?_
    refine ox_R_if (fun _ => ?_) (fun _ => ?_)
    · exact (L_Rdr_takeLetter_45 σ n tl)
    · refine ox_R_to 5 (Y := if 0 ≤ (σ 3 0 5 0) ∧ (σ 3 0 5 0).toNat < 24 then ox_ev m_Rdr_takeLetter (ox_zz ox_ms (n + 0)) 27 0 tl [.inr (.inr (3, 0, 0)), .inl (a1)] [.inl (σ 3 0 2 ((σ 3 0 5 0).toNat))] σ else none) rfl ?_
      refine ox_R_if (fun _ => ?_) (fun _ => ox_R_none)
      refine ox_R_to 2 (Y := if (σ 3 0 2 ((σ 3 0 5 0).toNat)) < 97 then ox_ev m_Rdr_takeLetter (ox_zz ox_ms (n + 0)) 45 0 tl [ox_d, ox_d] [] σ else ox_ev m_Rdr_takeLetter (ox_zz ox_ms (n + 0)) 32 0 tl [.inr (.inr (3, 0, 0)), .inl (a1)] [] σ) rfl ?_
      refine ox_R_if (fun _ => ?_) (fun _ => ?_)
      · exact (L_Rdr_takeLetter_45 σ n tl)
      · refine ox_R_to 5 (Y := if 0 ≤ (σ 3 0 5 0) ∧ (σ 3 0 5 0).toNat < 24 then ox_ev m_Rdr_takeLetter (ox_zz ox_ms (n + 0)) 41 0 tl [.inr (.inr (3, 0, 0)), .inl (a1)] [.inl (σ 3 0 2 ((σ 3 0 5 0).toNat))] σ else none) rfl ?_
        refine ox_R_if (fun _ => ?_) (fun _ => ox_R_none)
        refine ox_R_to 2 (Y := if (σ 3 0 2 ((σ 3 0 5 0).toNat)) ≤ a1 then ox_ev m_Rdr_takeLetter (ox_zz ox_ms (n + 0)) 47 0 tl [.inr (.inr (3, 0, 0)), .inl (a1)] [] σ else ox_ev m_Rdr_takeLetter (ox_zz ox_ms (n + 0)) 45 0 tl [ox_d, ox_d] [] σ) rfl ?_
        refine ox_R_if (fun _ => ?_) (fun _ => ?_)
        · refine ox_R_to 13 (Y := if 0 ≤ (ox_w ((ox_w ((σ 3 0 5 0) + 1)) - 1)) ∧ (ox_w ((ox_w ((σ 3 0 5 0) + 1)) - 1)).toNat < 24 then ox_ev m_Rdr_takeLetter (ox_zz ox_ms (n + 0)) 68 0 tl [.inr (.inr (3, 0, 0)), .inl (a1)] [.inl (σ 3 0 2 ((ox_w ((ox_w ((σ 3 0 5 0) + 1)) - 1)).toNat))] (ox_up σ 3 0 5 0 (ox_w ((σ 3 0 5 0) + 1))) else none) rfl ?_
          refine ox_R_if (fun _ => ?_) (fun _ => ox_R_none)
          refine ox_R_to 3 (Y := some (.inl (some (.inl (ox_w ((σ 3 0 2 ((ox_w ((ox_w ((σ 3 0 5 0) + 1)) - 1)).toNat)) - 97)))), (ox_up σ 3 0 5 0 (ox_w ((σ 3 0 5 0) + 1))))) rfl ?_
          exact ox_R_ret rfl
        · exact (L_Rdr_takeLetter_45 σ n tl)
def J_Rdr_takeTagLetters_67  (v1 : Int) (σ : ox_H) : Option (Int × ox_H) := some (v1, σ)
theorem L_Rdr_takeTagLetters_67  (v1 : Int) (σ : ox_H) (n tl : Nat) : ox_R (fun r => some ((fun r : Int × ox_H => ((.inl (some (.inl r.1)), r.2) : ox_O)) r)) (J_Rdr_takeTagLetters_67 v1 σ) (ox_ev m_Rdr_takeTagLetters (ox_zz ox_ms (n + 1)) 67 0 tl [ox_d, .inl (v1), ox_d, ox_d] [] σ) := by
  unfold J_Rdr_takeTagLetters_67
  refine ox_R_to 2 (Y := some (.inl (some (.inl (v1))), σ)) rfl ?_
  exact ox_R_ret rfl
def J_Rdr_takeTagLetters_53  (σ : ox_H) : Option (Int × ox_H) := some (0, σ)
theorem L_Rdr_takeTagLetters_53  (σ : ox_H) (n tl : Nat) : ox_R (fun r => some ((fun r : Int × ox_H => ((.inl (some (.inl r.1)), r.2) : ox_O)) r)) (J_Rdr_takeTagLetters_53 σ) (ox_ev m_Rdr_takeTagLetters (ox_zz ox_ms (n + 1)) 53 0 tl [ox_d, ox_d, ox_d, ox_d] [] σ) := by
  unfold J_Rdr_takeTagLetters_53
  refine ox_R_to 2 (Y := some (.inl (some (.inl (0))), σ)) rfl ?_
  exact ox_R_ret rfl
def B_Rdr_takeTagLetters_15  : (Int × Int × ox_H) → Option (((Int × Int × ox_H) ⊕ Int × ox_H)) := fun (v1, v2, σ) => if 24 ≤ v2 then ((J_Rdr_takeTagLetters_67 v1 σ).map .inr) else (if (σ 3 0 4 0) ≤ (σ 3 0 5 0) then ((J_Rdr_takeTagLetters_67 v1 σ).map .inr) else ((F_Rdr_takeLetter 122 σ).bind fun r1 => (if r1.1 = (-1) then ((J_Rdr_takeTagLetters_53 r1.2).map .inr) else ((F_Rdr_take 58 r1.2).bind fun r2 => (if r2.1 = 0 then ((J_Rdr_takeTagLetters_53 r2.2).map .inr) else (some (.inl (ox_or v1 (ox_shl 1 r1.1), ox_w (v2 + 1), r2.2))))))))
def J_Rdr_takeTagLetters_15  (v1 : Int) (v2 : Int) (σ : ox_H) : Option (Int × ox_H) := ox_lp (B_Rdr_takeTagLetters_15) ox_fu (v1, v2, σ)
theorem L_Rdr_takeTagLetters_15  (v1 : Int) (v2 : Int) (σ : ox_H) (n tl : Nat) : ox_R (fun r => some ((fun r : Int × ox_H => ((.inl (some (.inl r.1)), r.2) : ox_O)) r)) (J_Rdr_takeTagLetters_15 v1 v2 σ) (ox_ev m_Rdr_takeTagLetters (ox_zz ox_ms (n + 1)) 15 0 tl [.inr (.inr (3, 0, 0)), .inl (v1), .inl (v2), ox_d] [] σ) := by
  unfold J_Rdr_takeTagLetters_15
  refine ox_R_lp (ψ := (fun (s : Int × Int × ox_H) => match s with | (v1, v2, σ) => ox_ev m_Rdr_takeTagLetters (ox_zz ox_ms (n + 1)) 15 0 tl [.inr (.inr (3, 0, 0)), .inl (v1), .inl (v2), ox_d] [] σ)) ?_ ox_fu (v1, v2, σ)
  intro s
  obtain ⟨v1, v2, σ⟩ := s
  unfold B_Rdr_takeTagLetters_15
  refine ox_R_to 3 (Y := if 24 ≤ v2 then ox_ev m_Rdr_takeTagLetters (ox_zz ox_ms (n + 1)) 67 0 tl [ox_d, .inl (v1), ox_d, ox_d] [] σ else ox_ev m_Rdr_takeTagLetters (ox_zz ox_ms (n + 1)) 21 0 tl [.inr (.inr (3, 0, 0)), .inl (v1), .inl (v2), ox_d] [] σ) rfl ?_
  refine ox_R_if (fun _ => ?_) (fun _ => ?_)
  · exact ox_R_map ((L_Rdr_takeTagLetters_67 v1 σ n tl))
  · refine ox_R_to 5 (Y := if (σ 3 0 4 0) ≤ (σ 3 0 5 0) then ox_ev m_Rdr_takeTagLetters (ox_zz ox_ms (n + 1)) 67 0 tl [ox_d, .inl (v1), ox_d, ox_d] [] σ else ox_ev m_Rdr_takeTagLetters (ox_zz ox_ms (n + 1)) 32 0 tl [.inr (.inr (3, 0, 0)), .inl (v1), .inl (v2), ox_d] [] σ) rfl ?_
    refine ox_R_if (fun _ => ?_) (fun _ => ?_)
    · exact ox_R_map ((L_Rdr_takeTagLetters_67 v1 σ n tl))
    · refine ox_R_to 3 (Y := ox_back m_Rdr_takeTagLetters 35 1 [] ((ox_zz ox_ms (n + 1)) 197 tl [.inr (.inr (3, 0, 0)), .inl (122)] σ) (fun pc9 x9 st9 σ9 => ox_ev m_Rdr_takeTagLetters (ox_zz ox_ms (n + 1)) pc9 0 tl (ox_kl (m_Rdr_takeTagLetters.2.2.1 pc9) (ox_xl x9 [.inr (.inr (3, 0, 0)), .inl (v1), .inl (v2), ox_d])) st9 σ9)) rfl ?_
      refine ox_R_call (fc := (fun r : Int × ox_H => ((.inl (some (.inl r.1)), r.2) : ox_O))) (L_Rdr_takeLetter 122 σ (n + 0) tl) (fun r1 => ?_)
      refine ox_R_of (Y := ox_ev m_Rdr_takeTagLetters (ox_zz ox_ms (n + 1)) 38 0 tl [.inr (.inr (3, 0, 0)), .inl (v1), .inl (v2), ox_d] [.inl (r1.1)] r1.2) rfl ?_
      refine ox_R_to 4 (Y := if r1.1 = (-1) then ox_ev m_Rdr_takeTagLetters (ox_zz ox_ms (n + 1)) 53 0 tl [ox_d, ox_d, ox_d, ox_d] [] r1.2 else ox_ev m_Rdr_takeTagLetters (ox_zz ox_ms (n + 1)) 44 0 tl [.inr (.inr (3, 0, 0)), .inl (v1), .inl (v2), .inl (r1.1)] [] r1.2) rfl ?_
      refine ox_R_if (fun _ => ?_) (fun _ => ?_)
      · exact ox_R_map ((L_Rdr_takeTagLetters_53 r1.2 n tl))
      · refine ox_R_to 3 (Y := ox_back m_Rdr_takeTagLetters 47 1 [] ((ox_zz ox_ms (n + 1)) 196 tl [.inr (.inr (3, 0, 0)), .inl (58)] r1.2) (fun pc9 x9 st9 σ9 => ox_ev m_Rdr_takeTagLetters (ox_zz ox_ms (n + 1)) pc9 0 tl (ox_kl (m_Rdr_takeTagLetters.2.2.1 pc9) (ox_xl x9 [.inr (.inr (3, 0, 0)), .inl (v1), .inl (v2), .inl (r1.1)])) st9 σ9)) rfl ?_
        refine ox_R_call (fc := (fun r : Int × ox_H => ((.inl (some (.inl r.1)), r.2) : ox_O))) (L_Rdr_take 58 r1.2 (n + 0) tl) (fun r2 => ?_)
        refine ox_R_of (Y := ox_ev m_Rdr_takeTagLetters (ox_zz ox_ms (n + 1)) 50 0 tl [.inr (.inr (3, 0, 0)), .inl (v1), .inl (v2), .inl (r1.1)] [.inl (r2.1)] r2.2) rfl ?_
        refine ox_R_to 1 (Y := if r2.1 = 0 then ox_ev m_Rdr_takeTagLetters (ox_zz ox_ms (n + 1)) 53 0 tl [ox_d, ox_d, ox_d, ox_d] [] r2.2 else ox_ev m_Rdr_takeTagLetters (ox_zz ox_ms (n + 1)) 55 0 tl [.inr (.inr (3, 0, 0)), .inl (v1), .inl (v2), .inl (r1.1)] [] r2.2) rfl ?_
        refine ox_R_if (fun _ => ?_) (fun _ => ?_)
        · exact ox_R_map ((L_Rdr_takeTagLetters_53 r2.2 n tl))
        · refine ox_R_to 8 (Y := ox_ev m_Rdr_takeTagLetters (ox_zz ox_ms (n + 1)) 15 0 tl [.inr (.inr (3, 0, 0)), .inl (ox_or v1 (ox_shl 1 r1.1)), .inl (ox_w (v2 + 1)), ox_d] [] r2.2) rfl ?_
          exact ox_R_ret rfl
def F_Rdr_takeTagLetters  (σ : ox_H) : Option (Int × ox_H) := (F_Rdr_take 58 σ).bind fun r3 => (if r3.1 = 0 then (some (0, r3.2)) else (J_Rdr_takeTagLetters_15 0 0 r3.2))
theorem L_Rdr_takeTagLetters  (σ : ox_H) (n tl : Nat) : ox_R (fun r => some ((fun r : Int × ox_H => ((.inl (some (.inl r.1)), r.2) : ox_O)) r)) (F_Rdr_takeTagLetters σ) (ox_zz ox_ms (n + 2) 204 tl [.inr (.inr (3, 0, 0))] σ) := by
  unfold F_Rdr_takeTagLetters
  refine ox_R_of (Y := ox_ev m_Rdr_takeTagLetters (ox_zz ox_ms (n + 1)) 0 0 tl [.inr (.inr (3, 0, 0)), ox_d, ox_d, ox_d] [] σ) rfl ?_
  refine ox_R_to 5 (Y := ox_back m_Rdr_takeTagLetters 5 1 [] ((ox_zz ox_ms (n + 1)) 196 tl [.inr (.inr (3, 0, 0)), .inl (58)] σ) (fun pc9 x9 st9 σ9 => ox_ev m_Rdr_takeTagLetters (ox_zz ox_ms (n + 1)) pc9 0 tl (ox_kl (m_Rdr_takeTagLetters.2.2.1 pc9) (ox_xl x9 [.inr (.inr (3, 0, 0)), .inl (0), ox_d, ox_d])) st9 σ9)) rfl ?_
  refine ox_R_call (fc := (fun r : Int × ox_H => ((.inl (some (.inl r.1)), r.2) : ox_O))) (L_Rdr_take 58 σ (n + 0) tl) (fun r3 => ?_)
  refine ox_R_of (Y := ox_ev m_Rdr_takeTagLetters (ox_zz ox_ms (n + 1)) 8 0 tl [.inr (.inr (3, 0, 0)), .inl (0), ox_d, ox_d] [.inl (r3.1)] r3.2) rfl ?_
  refine ox_R_to 1 (Y := if r3.1 = 0 then ox_ev m_Rdr_takeTagLetters (ox_zz ox_ms (n + 1)) 11 0 tl [.inr (.inr (3, 0, 0)), .inl (0), ox_d, ox_d] [] r3.2 else ox_ev m_Rdr_takeTagLetters (ox_zz ox_ms (n + 1)) 13 0 tl [.inr (.inr (3, 0, 0)), .inl (0), ox_d, ox_d] [] r3.2) rfl ?_
  refine ox_R_if (fun _ => ?_) (fun _ => ?_)
  · refine ox_R_to 2 (Y := some (.inl (some (.inl (0))), r3.2)) rfl ?_
    exact ox_R_ret rfl
  · refine ox_R_to 2 (Y := ox_ev m_Rdr_takeTagLetters (ox_zz ox_ms (n + 1)) 15 0 tl [.inr (.inr (3, 0, 0)), .inl (0), .inl (0), ox_d] [] r3.2) rfl ?_
    exact (L_Rdr_takeTagLetters_15 0 0 r3.2 n tl)
def J_Rdr_takeTags_81  (σ : ox_H) : Option ox_H := some σ
theorem L_Rdr_takeTags_81  (σ : ox_H) (n tl : Nat) : ox_R (fun r => some ((fun r : ox_H => ((.inl none, r) : ox_O)) r)) (J_Rdr_takeTags_81 σ) (ox_ev m_Rdr_takeTags (ox_zz ox_ms (n + 2)) 81 0 tl [ox_d, ox_d, ox_d, ox_d] [] σ) := by
  unfold J_Rdr_takeTags_81
  refine ox_R_to 1 (Y := some (.inl none, σ)) rfl ?_
  exact ox_R_ret rfl
def J_Rdr_takeTags_38  (v1 : Nat) (v2 : Int) (σ : ox_H) : Option ox_H := if v2 = (-1) then (some σ) else ((F_Rdr_takeTagLetters (ox_up σ 3 0 5 0 (ox_w (v2 + 1)))).bind fun r1 => (if r1.1 = 0 then (J_Rdr_takeTags_81 r1.2) else (if (r1.2 3 0 5 0) = (r1.2 3 0 4 0) then (J_Rdr_takeTags_81 (ox_up (ox_up r1.2 4 v1 11 0 r1.1) 4 v1 10 0 v2)) else (J_Rdr_takeTags_81 r1.2))))
theorem L_Rdr_takeTags_38  (v1 : Nat) (v2 : Int) (σ : ox_H) (n tl : Nat) : ox_R (fun r => some ((fun r : ox_H => ((.inl none, r) : ox_O)) r)) (J_Rdr_takeTags_38 v1 v2 σ) (ox_ev m_Rdr_takeTags (ox_zz ox_ms (n + 2)) 38 0 tl [.inr (.inr (3, 0, 0)), .inr (.inr (4, v1, 0)), .inl (v2), ox_d] [] σ) := by
  unfold J_Rdr_takeTags_38
  refine ox_R_to 3 (Y := if v2 = (-1) then ox_ev m_Rdr_takeTags (ox_zz ox_ms (n + 2)) 43 0 tl [.inr (.inr (3, 0, 0)), .inr (.inr (4, v1, 0)), .inl (v2), ox_d] [] σ else ox_ev m_Rdr_takeTags (ox_zz ox_ms (n + 2)) 44 0 tl [.inr (.inr (3, 0, 0)), .inr (.inr (4, v1, 0)), .inl (v2), ox_d] [] σ) rfl ?_
  refine ox_R_if (fun _ => ?_) (fun _ => ?_)
  · refine ox_R_to 1 (Y := some (.inl none, σ)) rfl ?_
    exact ox_R_ret rfl
  · refine ox_R_to 7 (Y := ox_back m_Rdr_takeTags 52 1 [] ((ox_zz ox_ms (n + 2)) 204 tl [.inr (.inr (3, 0, 0))] (ox_up σ 3 0 5 0 (ox_w (v2 + 1)))) (fun pc9 x9 st9 σ9 => ox_ev m_Rdr_takeTags (ox_zz ox_ms (n + 2)) pc9 0 tl (ox_kl (m_Rdr_takeTags.2.2.1 pc9) (ox_xl x9 [.inr (.inr (3, 0, 0)), .inr (.inr (4, v1, 0)), .inl (v2), ox_d])) st9 σ9)) rfl ?_
    refine ox_R_call (fc := (fun r : Int × ox_H => ((.inl (some (.inl r.1)), r.2) : ox_O))) (L_Rdr_takeTagLetters (ox_up σ 3 0 5 0 (ox_w (v2 + 1))) (n + 0) tl) (fun r1 => ?_)
    refine ox_R_of (Y := ox_ev m_Rdr_takeTags (ox_zz ox_ms (n + 2)) 55 0 tl [.inr (.inr (3, 0, 0)), .inr (.inr (4, v1, 0)), .inl (v2), ox_d] [.inl (r1.1)] r1.2) rfl ?_
    refine ox_R_to 3 (Y := if r1.1 = 0 then ox_ev m_Rdr_takeTags (ox_zz ox_ms (n + 2)) 81 0 tl [ox_d, ox_d, ox_d, ox_d] [] r1.2 else ox_ev m_Rdr_takeTags (ox_zz ox_ms (n + 2)) 60 0 tl [.inr (.inr (3, 0, 0)), .inr (.inr (4, v1, 0)), .inl (v2), .inl (r1.1)] [] r1.2) rfl ?_
    refine ox_R_if (fun _ => ?_) (fun _ => ?_)
    · exact (L_Rdr_takeTags_81 r1.2 n tl)
    · refine ox_R_to 5 (Y := if (r1.2 3 0 5 0) = (r1.2 3 0 4 0) then ox_ev m_Rdr_takeTags (ox_zz ox_ms (n + 2)) 71 0 tl [.inr (.inr (3, 0, 0)), .inr (.inr (4, v1, 0)), .inl (v2), .inl (r1.1)] [] r1.2 else ox_ev m_Rdr_takeTags (ox_zz ox_ms (n + 2)) 81 0 tl [ox_d, ox_d, ox_d, ox_d] [] r1.2) rfl ?_
      refine ox_R_if (fun _ => ?_) (fun _ => ?_)
      · refine ox_R_to 6 (Y := ox_ev m_Rdr_takeTags (ox_zz ox_ms (n + 2)) 81 0 tl [ox_d, ox_d, ox_d, ox_d] [] (ox_up (ox_up r1.2 4 v1 11 0 r1.1) 4 v1 10 0 v2)) rfl ?_
        exact (L_Rdr_takeTags_81 (ox_up (ox_up r1.2 4 v1 11 0 r1.1) 4 v1 10 0 v2) n tl)
      · exact (L_Rdr_takeTags_81 r1.2 n tl)
def J_Rdr_takeTags_31  (v1 : Nat) (v3 : Int) (s0 : Int) (σ : ox_H) : Option (((Int × Int) ⊕ ox_H)) := some (.inl (s0, ox_w (v3 + 1)))
theorem L_Rdr_takeTags_31  (v1 : Nat) (v3 : Int) (s0 : Int) (σ : ox_H) (n tl : Nat) : ox_R (Sum.elim (fun (s : Int × Int) => match s with | (v2, v3) => ox_ev m_Rdr_takeTags (ox_zz ox_ms (n + 2)) 7 0 tl [.inr (.inr (3, 0, 0)), .inr (.inr (4, v1, 0)), .inl (v2), .inl (v3)] [] σ) (fun r => some ((fun r : ox_H => ((.inl none, r) : ox_O)) r))) (J_Rdr_takeTags_31 v1 v3 s0 σ) (ox_ev m_Rdr_takeTags (ox_zz ox_ms (n + 2)) 31 0 tl [.inr (.inr (3, 0, 0)), .inr (.inr (4, v1, 0)), ox_d, .inl (v3)] [.inl (s0)] σ) := by
  unfold J_Rdr_takeTags_31
  refine ox_R_to 3 (Y := ox_ev m_Rdr_takeTags (ox_zz ox_ms (n + 2)) 7 0 tl [.inr (.inr (3, 0, 0)), .inr (.inr (4, v1, 0)), .inl (s0), .inl (ox_w (v3 + 1))] [] σ) rfl ?_
  exact ox_R_ret rfl
def B_Rdr_takeTags_7  (v1 : Nat) (σ : ox_H) : (Int × Int) → Option (((Int × Int) ⊕ ox_H)) := fun (v2, v3) => if (σ 3 0 4 0) ≤ v3 then ((J_Rdr_takeTags_38 v1 v2 σ).map .inr) else (if 0 ≤ v3 ∧ v3.toNat < 24 then (if (σ 3 0 2 v3.toNat) = 32 then (J_Rdr_takeTags_31 v1 v3 v3 σ) else (J_Rdr_takeTags_31 v1 v3 v2 σ)) else none)
def J_Rdr_takeTags_7  (v1 : Nat) (v2 : Int) (v3 : Int) (σ : ox_H) : Option (ox_H) := ox_lp (B_Rdr_takeTags_7 v1 σ) ox_fu (v2, v3)
theorem L_Rdr_takeTags_7  (v1 : Nat) (v2 : Int) (v3 : Int) (σ : ox_H) (n tl : Nat) : ox_R (fun r => some ((fun r : ox_H => ((.inl none, r) : ox_O)) r)) (J_Rdr_takeTags_7 v1 v2 v3 σ) (ox_ev m_Rdr_takeTags (ox_zz ox_ms (n + 2)) 7 0 tl [.inr (.inr (3, 0, 0)), .inr (.inr (4, v1, 0)), .inl (v2), .inl (v3)] [] σ) := by
  unfold J_Rdr_takeTags_7
  refine ox_R_lp (ψ := (fun (s : Int × Int) => match s with | (v2, v3) => ox_ev m_Rdr_takeTags (ox_zz ox_ms (n + 2)) 7 0 tl [.inr (.inr (3, 0, 0)), .inr (.inr (4, v1, 0)), .inl (v2), .inl (v3)] [] σ)) ?_ ox_fu (v2, v3)
  intro s
  obtain ⟨v2, v3⟩ := s
  unfold B_Rdr_takeTags_7
  refine ox_R_to 4 (Y := if (σ 3 0 4 0) ≤ v3 then ox_ev m_Rdr_takeTags (ox_zz ox_ms (n + 2)) 38 0 tl [.inr (.inr (3, 0, 0)), .inr (.inr (4, v1, 0)), .inl (v2), ox_d] [] σ else ox_ev m_Rdr_takeTags (ox_zz ox_ms (n + 2)) 15 0 tl [.inr (.inr (3, 0, 0)), .inr (.inr (4, v1, 0)), .inl (v2), .inl (v3)] [] σ) rfl ?_
  refine ox_R_if (fun _ => ?_) (fun _ => ?_)
  · exact ox_R_map ((L_Rdr_takeTags_38 v1 v2 σ n tl))
  · refine ox_R_to 4 (Y := if 0 ≤ v3 ∧ v3.toNat < 24 then ox_ev m_Rdr_takeTags (ox_zz ox_ms (n + 2)) 21 0 tl [.inr (.inr (3, 0, 0)), .inr (.inr (4, v1, 0)), .inl (v2), .inl (v3)] [.inl (σ 3 0 2 v3.toNat)] σ else none) rfl ?_
    refine ox_R_if (fun _ => ?_) (fun _ => ox_R_none)
    refine ox_R_to 2 (Y := if (σ 3 0 2 v3.toNat) = 32 then ox_ev m_Rdr_takeTags (ox_zz ox_ms (n + 2)) 26 0 tl [.inr (.inr (3, 0, 0)), .inr (.inr (4, v1, 0)), .inl (v2), .inl (v3)] [] σ else ox_ev m_Rdr_takeTags (ox_zz ox_ms (n + 2)) 30 0 tl [.inr (.inr (3, 0, 0)), .inr (.inr (4, v1, 0)), .inl (v2), .inl (v3)] [] σ) rfl ?_
    refine ox_R_if (fun _ => ?_) (fun _ => ?_)
    · refine ox_R_to 2 (Y := ox_ev m_Rdr_takeTags (ox_zz ox_ms (n + 2)) 31 0 tl [.inr (.inr (3, 0, 0)), .inr (.inr (4, v1, 0)), ox_d, .inl (v3)] [.inl (v3)] σ) rfl ?_
      exact (L_Rdr_takeTags_31 v1 v3 v3 σ n tl)
    · refine ox_R_to 1 (Y := ox_ev m_Rdr_takeTags (ox_zz ox_ms (n + 2)) 31 0 tl [.inr (.inr (3, 0, 0)), .inr (.inr (4, v1, 0)), ox_d, .inl (v3)] [.inl (v2)] σ) rfl ?_
      exact (L_Rdr_takeTags_31 v1 v3 v2 σ n tl)
def F_Rdr_takeTags  (k1 : Nat) (σ : ox_H) : Option (ox_H) := (J_Rdr_takeTags_7 k1 (-1) (σ 4 k1 9 0) σ)
theorem L_Rdr_takeTags  (k1 : Nat) (σ : ox_H) (n tl : Nat) : ox_R (fun r => some ((fun r : ox_H => ((.inl none, r) : ox_O)) r)) (F_Rdr_takeTags k1 σ) (ox_zz ox_ms (n + 3) 203 tl [.inr (.inr (3, 0, 0)), .inr (.inr (4, k1, 0))] σ) := by
  unfold F_Rdr_takeTags
  refine ox_R_of (Y := ox_ev m_Rdr_takeTags (ox_zz ox_ms (n + 2)) 0 0 tl [.inr (.inr (3, 0, 0)), .inr (.inr (4, k1, 0)), ox_d, ox_d] [] σ) rfl ?_
  refine ox_R_to 5 (Y := ox_ev m_Rdr_takeTags (ox_zz ox_ms (n + 2)) 7 0 tl [.inr (.inr (3, 0, 0)), .inr (.inr (4, k1, 0)), .inl ((-1)), .inl (σ 4 k1 9 0)] [] σ) rfl ?_
  exact (L_Rdr_takeTags_7 k1 (-1) (σ 4 k1 9 0) σ n tl)
def J_Rdr_takeHeading_47  (σ : ox_H) : Option (Int × ox_H) := some (0, σ)
theorem L_Rdr_takeHeading_47  (σ : ox_H) (n tl : Nat) : ox_R (fun r => some ((fun r : Int × ox_H => ((.inl (some (.inl r.1)), r.2) : ox_O)) r)) (J_Rdr_takeHeading_47 σ) (ox_ev m_Rdr_takeHeading (ox_zz ox_ms (n + 3)) 47 0 tl [ox_d, ox_d] [] σ) := by
  unfold J_Rdr_takeHeading_47
  refine ox_R_to 2 (Y := some (.inl (some (.inl (0))), σ)) rfl ?_
  exact ox_R_ret rfl
def J_Rdr_takeHeading_30  (v1 : Nat) (σ : ox_H) : Option (Int × ox_H) := if 5 < (σ 4 v1 7 0) then (J_Rdr_takeHeading_47 σ) else ((F_Rdr_take 32 σ).bind fun r1 => (if r1.1 = 0 then (J_Rdr_takeHeading_47 r1.2) else ((F_Rdr_takeState r1.2).bind fun r2 => ((F_Rdr_takeTags v1 (ox_up (ox_up (ox_up r2.2 4 v1 8 0 r2.1) 4 v1 9 0 (r2.2 3 0 5 0)) 4 v1 10 0 (r2.2 3 0 4 0))).bind fun r3 => (some (1, (ox_up r3 3 0 5 0 (r3 3 0 4 0))))))))
theorem L_Rdr_takeHeading_30  (v1 : Nat) (σ : ox_H) (n tl : Nat) : ox_R (fun r => some ((fun r : Int × ox_H => ((.inl (some (.inl r.1)), r.2) : ox_O)) r)) (J_Rdr_takeHeading_30 v1 σ) (ox_ev m_Rdr_takeHeading (ox_zz ox_ms (n + 3)) 30 0 tl [.inr (.inr (3, 0, 0)), .inr (.inr (4, v1, 0))] [] σ) := by
  unfold J_Rdr_takeHeading_30
  refine ox_R_to 4 (Y := if 5 < (σ 4 v1 7 0) then ox_ev m_Rdr_takeHeading (ox_zz ox_ms (n + 3)) 47 0 tl [ox_d, ox_d] [] σ else ox_ev m_Rdr_takeHeading (ox_zz ox_ms (n + 3)) 38 0 tl [.inr (.inr (3, 0, 0)), .inr (.inr (4, v1, 0))] [] σ) rfl ?_
  refine ox_R_if (fun _ => ?_) (fun _ => ?_)
  · exact (L_Rdr_takeHeading_47 σ n tl)
  · refine ox_R_to 3 (Y := ox_back m_Rdr_takeHeading 41 1 [] ((ox_zz ox_ms (n + 3)) 196 tl [.inr (.inr (3, 0, 0)), .inl (32)] σ) (fun pc9 x9 st9 σ9 => ox_ev m_Rdr_takeHeading (ox_zz ox_ms (n + 3)) pc9 0 tl (ox_kl (m_Rdr_takeHeading.2.2.1 pc9) (ox_xl x9 [.inr (.inr (3, 0, 0)), .inr (.inr (4, v1, 0))])) st9 σ9)) rfl ?_
    refine ox_R_call (fc := (fun r : Int × ox_H => ((.inl (some (.inl r.1)), r.2) : ox_O))) (L_Rdr_take 32 σ (n + 2) tl) (fun r1 => ?_)
    refine ox_R_of (Y := ox_ev m_Rdr_takeHeading (ox_zz ox_ms (n + 3)) 44 0 tl [.inr (.inr (3, 0, 0)), .inr (.inr (4, v1, 0))] [.inl (r1.1)] r1.2) rfl ?_
    refine ox_R_to 1 (Y := if r1.1 = 0 then ox_ev m_Rdr_takeHeading (ox_zz ox_ms (n + 3)) 47 0 tl [ox_d, ox_d] [] r1.2 else ox_ev m_Rdr_takeHeading (ox_zz ox_ms (n + 3)) 49 0 tl [.inr (.inr (3, 0, 0)), .inr (.inr (4, v1, 0))] [] r1.2) rfl ?_
    refine ox_R_if (fun _ => ?_) (fun _ => ?_)
    · exact (L_Rdr_takeHeading_47 r1.2 n tl)
    · refine ox_R_to 3 (Y := ox_back m_Rdr_takeHeading 51 1 [.inr (.inr (4, v1, 0))] ((ox_zz ox_ms (n + 3)) 201 tl [.inr (.inr (3, 0, 0))] r1.2) (fun pc9 x9 st9 σ9 => ox_ev m_Rdr_takeHeading (ox_zz ox_ms (n + 3)) pc9 0 tl (ox_kl (m_Rdr_takeHeading.2.2.1 pc9) (ox_xl x9 [.inr (.inr (3, 0, 0)), .inr (.inr (4, v1, 0))])) st9 σ9)) rfl ?_
      refine ox_R_call (fc := (fun r : Int × ox_H => ((.inl (some (.inl r.1)), r.2) : ox_O))) (L_Rdr_takeState r1.2 (n + 0) tl) (fun r2 => ?_)
      refine ox_R_of (Y := ox_ev m_Rdr_takeHeading (ox_zz ox_ms (n + 3)) 54 0 tl [.inr (.inr (3, 0, 0)), .inr (.inr (4, v1, 0))] [.inl (r2.1), .inr (.inr (4, v1, 0))] r2.2) rfl ?_
      refine ox_R_to 12 (Y := ox_back m_Rdr_takeHeading 75 0 [] ((ox_zz ox_ms (n + 3)) 203 tl [.inr (.inr (3, 0, 0)), .inr (.inr (4, v1, 0))] (ox_up (ox_up (ox_up r2.2 4 v1 8 0 r2.1) 4 v1 9 0 (r2.2 3 0 5 0)) 4 v1 10 0 (r2.2 3 0 4 0))) (fun pc9 x9 st9 σ9 => ox_ev m_Rdr_takeHeading (ox_zz ox_ms (n + 3)) pc9 0 tl (ox_kl (m_Rdr_takeHeading.2.2.1 pc9) (ox_xl x9 [.inr (.inr (3, 0, 0)), .inr (.inr (4, v1, 0))])) st9 σ9)) rfl ?_
      refine ox_R_call (fc := (fun r : ox_H => ((.inl none, r) : ox_O))) (L_Rdr_takeTags v1 (ox_up (ox_up (ox_up r2.2 4 v1 8 0 r2.1) 4 v1 9 0 (r2.2 3 0 5 0)) 4 v1 10 0 (r2.2 3 0 4 0)) (n + 0) tl) (fun r3 => ?_)
      refine ox_R_of (Y := ox_ev m_Rdr_takeHeading (ox_zz ox_ms (n + 3)) 78 0 tl [.inr (.inr (3, 0, 0)), .inr (.inr (4, v1, 0))] [] r3) rfl ?_
      refine ox_R_to 6 (Y := some (.inl (some (.inl (1))), (ox_up r3 3 0 5 0 (r3 3 0 4 0)))) rfl ?_
      exact ox_R_ret rfl
def B_Rdr_takeHeading_0  (v1 : Nat) : (ox_H) → Option (((ox_H) ⊕ Int × ox_H)) := fun σ => if 5 < (σ 4 v1 7 0) then ((J_Rdr_takeHeading_30 v1 σ).map .inr) else ((F_Rdr_take 42 σ).bind fun r4 => (if r4.1 = 0 then ((J_Rdr_takeHeading_30 v1 r4.2).map .inr) else (some (.inl (ox_up r4.2 4 v1 7 0 (ox_w ((r4.2 4 v1 7 0) + 1)))))))
def J_Rdr_takeHeading_0  (v1 : Nat) (σ : ox_H) : Option (Int × ox_H) := ox_lp (B_Rdr_takeHeading_0 v1) ox_fu σ
theorem L_Rdr_takeHeading_0  (v1 : Nat) (σ : ox_H) (n tl : Nat) : ox_R (fun r => some ((fun r : Int × ox_H => ((.inl (some (.inl r.1)), r.2) : ox_O)) r)) (J_Rdr_takeHeading_0 v1 σ) (ox_ev m_Rdr_takeHeading (ox_zz ox_ms (n + 3)) 0 0 tl [.inr (.inr (3, 0, 0)), .inr (.inr (4, v1, 0))] [] σ) := by
  unfold J_Rdr_takeHeading_0
  refine ox_R_lp (ψ := (fun (σ : ox_H) => ox_ev m_Rdr_takeHeading (ox_zz ox_ms (n + 3)) 0 0 tl [.inr (.inr (3, 0, 0)), .inr (.inr (4, v1, 0))] [] σ)) ?_ ox_fu σ
  intro s
  revert s; intro σ
  unfold B_Rdr_takeHeading_0
  refine ox_R_to 4 (Y := if 5 < (σ 4 v1 7 0) then ox_ev m_Rdr_takeHeading (ox_zz ox_ms (n + 3)) 30 0 tl [.inr (.inr (3, 0, 0)), .inr (.inr (4, v1, 0))] [] σ else ox_ev m_Rdr_takeHeading (ox_zz ox_ms (n + 3)) 8 0 tl [.inr (.inr (3, 0, 0)), .inr (.inr (4, v1, 0))] [] σ) rfl ?_
  refine ox_R_if (fun _ => ?_) (fun _ => ?_)
  · exact ox_R_map ((L_Rdr_takeHeading_30 v1 σ n tl))
  · refine ox_R_to 3 (Y := ox_back m_Rdr_takeHeading 11 1 [] ((ox_zz ox_ms (n + 3)) 196 tl [.inr (.inr (3, 0, 0)), .inl (42)] σ) (fun pc9 x9 st9 σ9 => ox_ev m_Rdr_takeHeading (ox_zz ox_ms (n + 3)) pc9 0 tl (ox_kl (m_Rdr_takeHeading.2.2.1 pc9) (ox_xl x9 [.inr (.inr (3, 0, 0)), .inr (.inr (4, v1, 0))])) st9 σ9)) rfl ?_
    refine ox_R_call (fc := (fun r : Int × ox_H => ((.inl (some (.inl r.1)), r.2) : ox_O))) (L_Rdr_take 42 σ (n + 2) tl) (fun r4 => ?_)
    refine ox_R_of (Y := ox_ev m_Rdr_takeHeading (ox_zz ox_ms (n + 3)) 14 0 tl [.inr (.inr (3, 0, 0)), .inr (.inr (4, v1, 0))] [.inl (r4.1)] r4.2) rfl ?_
    refine ox_R_to 1 (Y := if r4.1 = 0 then ox_ev m_Rdr_takeHeading (ox_zz ox_ms (n + 3)) 30 0 tl [.inr (.inr (3, 0, 0)), .inr (.inr (4, v1, 0))] [] r4.2 else ox_ev m_Rdr_takeHeading (ox_zz ox_ms (n + 3)) 17 0 tl [.inr (.inr (3, 0, 0)), .inr (.inr (4, v1, 0))] [] r4.2) rfl ?_
    refine ox_R_if (fun _ => ?_) (fun _ => ?_)
    · exact ox_R_map ((L_Rdr_takeHeading_30 v1 r4.2 n tl))
    · refine ox_R_to 7 (Y := ox_ev m_Rdr_takeHeading (ox_zz ox_ms (n + 3)) 0 0 tl [.inr (.inr (3, 0, 0)), .inr (.inr (4, v1, 0))] [] (ox_up r4.2 4 v1 7 0 (ox_w ((r4.2 4 v1 7 0) + 1)))) rfl ?_
      exact ox_R_ret rfl
def F_Rdr_takeHeading  (k1 : Nat) (σ : ox_H) : Option (Int × ox_H) := J_Rdr_takeHeading_0 k1 σ
theorem L_Rdr_takeHeading  (k1 : Nat) (σ : ox_H) (n tl : Nat) : ox_R (fun r => some ((fun r : Int × ox_H => ((.inl (some (.inl r.1)), r.2) : ox_O)) r)) (F_Rdr_takeHeading k1 σ) (ox_zz ox_ms (n + 4) 200 tl [.inr (.inr (3, 0, 0)), .inr (.inr (4, k1, 0))] σ) := by
  unfold F_Rdr_takeHeading
  refine ox_R_of (Y := ox_ev m_Rdr_takeHeading (ox_zz ox_ms (n + 3)) 0 0 tl [.inr (.inr (3, 0, 0)), .inr (.inr (4, k1, 0))] [] σ) rfl ?_
  exact L_Rdr_takeHeading_0 k1 σ n tl
def J_Rdr_takeNumber_100  (v1 : Int) (σ : ox_H) : Option (Int × ox_H) := some (v1, σ)
theorem L_Rdr_takeNumber_100  (v1 : Int) (σ : ox_H) (n tl : Nat) : ox_R (fun r => some ((fun r : Int × ox_H => ((.inl (some (.inl r.1)), r.2) : ox_O)) r)) (J_Rdr_takeNumber_100 v1 σ) (ox_ev m_Rdr_takeNumber (ox_zz ox_ms (n + 0)) 100 0 tl [ox_d, .inl (v1), ox_d] [] σ) := by
  unfold J_Rdr_takeNumber_100
  refine ox_R_to 2 (Y := some (.inl (some (.inl (v1))), σ)) rfl ?_
  exact ox_R_ret rfl
def J_Rdr_takeNumber_59  (v1 : Int) (σ : ox_H) : Option (Int × ox_H) := (J_Rdr_takeNumber_100 v1 σ)
theorem L_Rdr_takeNumber_59  (v1 : Int) (σ : ox_H) (n tl : Nat) : ox_R (fun r => some ((fun r : Int × ox_H => ((.inl (some (.inl r.1)), r.2) : ox_O)) r)) (J_Rdr_takeNumber_59 v1 σ) (ox_ev m_Rdr_takeNumber (ox_zz ox_ms (n + 0)) 59 0 tl [ox_d, .inl (v1), ox_d] [] σ) := by
  unfold J_Rdr_takeNumber_59
  refine ox_R_to 1 (Y := ox_ev m_Rdr_takeNumber (ox_zz ox_ms (n + 0)) 100 0 tl [ox_d, .inl (v1), ox_d] [] σ) rfl ?_
  exact (L_Rdr_takeNumber_100 v1 σ n tl)
def B_Rdr_takeNumber_4  : (Int × Int × ox_H) → Option (((Int × Int × ox_H) ⊕ Int × ox_H)) := fun (v1, v2, σ) => if 4 ≤ v2 then ((J_Rdr_takeNumber_100 v1 σ).map .inr) else (if v1 = 0 then ((J_Rdr_takeNumber_100 v1 σ).map .inr) else (if (σ 3 0 5 0) < 0 then ((J_Rdr_takeNumber_100 v1 σ).map .inr) else (if (σ 3 0 4 0) ≤ (σ 3 0 5 0) then ((J_Rdr_takeNumber_100 v1 σ).map .inr) else (if 0 ≤ (σ 3 0 5 0) ∧ (σ 3 0 5 0).toNat < 24 then (if (σ 3 0 2 ((σ 3 0 5 0).toNat)) < 48 then ((J_Rdr_takeNumber_100 v1 σ).map .inr) else (if 0 ≤ (σ 3 0 5 0) ∧ (σ 3 0 5 0).toNat < 24 then (if (σ 3 0 2 ((σ 3 0 5 0).toNat)) ≤ 57 then (if 0 ≤ (σ 3 0 5 0) ∧ (σ 3 0 5 0).toNat < 24 then (some (.inl (ox_w ((ox_w ((ox_w ((if 0 < v1 then v1 else 0) * 10)) + (σ 3 0 2 ((σ 3 0 5 0).toNat)))) - 48), ox_w (v2 + 1), (ox_up σ 3 0 5 0 (ox_w ((σ 3 0 5 0) + 1)))))) else none) else ((J_Rdr_takeNumber_59 v1 σ).map .inr)) else none)) else none))))
def J_Rdr_takeNumber_4  (v1 : Int) (v2 : Int) (σ : ox_H) : Option (Int × ox_H) := ox_lp (B_Rdr_takeNumber_4) ox_fu (v1, v2, σ)
theorem L_Rdr_takeNumber_4  (v1 : Int) (v2 : Int) (σ : ox_H) (n tl : Nat) : ox_R (fun r => some ((fun r : Int × ox_H => ((.inl (some (.inl r.1)), r.2) : ox_O)) r)) (J_Rdr_takeNumber_4 v1 v2 σ) (ox_ev m_Rdr_takeNumber (ox_zz ox_ms (n + 0)) 4 0 tl [.inr (.inr (3, 0, 0)), .inl (v1), .inl (v2)] [] σ) := by
  unfold J_Rdr_takeNumber_4
  refine ox_R_lp (ψ := (fun (s : Int × Int × ox_H) => match s with | (v1, v2, σ) => ox_ev m_Rdr_takeNumber (ox_zz ox_ms (n + 0)) 4 0 tl [.inr (.inr (3, 0, 0)), .inl (v1), .inl (v2)] [] σ)) ?_ ox_fu (v1, v2, σ)
  intro s
  obtain ⟨v1, v2, σ⟩ := s
  unfold B_Rdr_takeNumber_4
  refine ox_R_to 3 (Y := if 4 ≤ v2 then ox_ev m_Rdr_takeNumber (ox_zz ox_ms (n + 0)) 100 0 tl [ox_d, .inl (v1), ox_d] [] σ else ox_ev m_Rdr_takeNumber (ox_zz ox_ms (n + 0)) 9 0 tl [.inr (.inr (3, 0, 0)), .inl (v1), .inl (v2)] [] σ) rfl ?_
  refine ox_R_if (fun _ => ?_) (fun _ => ?_)
  · exact ox_R_map ((L_Rdr_takeNumber_100 v1 σ n tl))
  · refine ox_R_to 2 (Y := if v1 = 0 then ox_ev m_Rdr_takeNumber (ox_zz ox_ms (n + 0)) 100 0 tl [ox_d, .inl (v1), ox_d] [] σ else ox_ev m_Rdr_takeNumber (ox_zz ox_ms (n + 0)) 13 0 tl [.inr (.inr (3, 0, 0)), .inl (v1), .inl (v2)] [] σ) rfl ?_
    refine ox_R_if (fun _ => ?_) (fun _ => ?_)
    · exact ox_R_map ((L_Rdr_takeNumber_100 v1 σ n tl))
    · refine ox_R_to 3 (Y := if (σ 3 0 5 0) < 0 then ox_ev m_Rdr_takeNumber (ox_zz ox_ms (n + 0)) 100 0 tl [ox_d, .inl (v1), ox_d] [] σ else ox_ev m_Rdr_takeNumber (ox_zz ox_ms (n + 0)) 20 0 tl [.inr (.inr (3, 0, 0)), .inl (v1), .inl (v2)] [] σ) rfl ?_
      refine ox_R_if (fun _ => ?_) (fun _ => ?_)
      · exact ox_R_map ((L_Rdr_takeNumber_100 v1 σ n tl))
      · refine ox_R_to 5 (Y := if (σ 3 0 4 0) ≤ (σ 3 0 5 0) then ox_ev m_Rdr_takeNumber (ox_zz ox_ms (n + 0)) 100 0 tl [ox_d, .inl (v1), ox_d] [] σ else ox_ev m_Rdr_takeNumber (ox_zz ox_ms (n + 0)) 31 0 tl [.inr (.inr (3, 0, 0)), .inl (v1), .inl (v2)] [] σ) rfl ?_
        refine ox_R_if (fun _ => ?_) (fun _ => ?_)
        · exact ox_R_map ((L_Rdr_takeNumber_100 v1 σ n tl))
        · refine ox_R_to 5 (Y := if 0 ≤ (σ 3 0 5 0) ∧ (σ 3 0 5 0).toNat < 24 then ox_ev m_Rdr_takeNumber (ox_zz ox_ms (n + 0)) 40 0 tl [.inr (.inr (3, 0, 0)), .inl (v1), .inl (v2)] [.inl (σ 3 0 2 ((σ 3 0 5 0).toNat))] σ else none) rfl ?_
          refine ox_R_if (fun _ => ?_) (fun _ => ox_R_none)
          refine ox_R_to 2 (Y := if (σ 3 0 2 ((σ 3 0 5 0).toNat)) < 48 then ox_ev m_Rdr_takeNumber (ox_zz ox_ms (n + 0)) 100 0 tl [ox_d, .inl (v1), ox_d] [] σ else ox_ev m_Rdr_takeNumber (ox_zz ox_ms (n + 0)) 45 0 tl [.inr (.inr (3, 0, 0)), .inl (v1), .inl (v2)] [] σ) rfl ?_
          refine ox_R_if (fun _ => ?_) (fun _ => ?_)
          · exact ox_R_map ((L_Rdr_takeNumber_100 v1 σ n tl))
          · refine ox_R_to 5 (Y := if 0 ≤ (σ 3 0 5 0) ∧ (σ 3 0 5 0).toNat < 24 then ox_ev m_Rdr_takeNumber (ox_zz ox_ms (n + 0)) 54 0 tl [.inr (.inr (3, 0, 0)), .inl (v1), .inl (v2)] [.inl (σ 3 0 2 ((σ 3 0 5 0).toNat))] σ else none) rfl ?_
            refine ox_R_if (fun _ => ?_) (fun _ => ox_R_none)
            refine ox_R_to 2 (Y := if (σ 3 0 2 ((σ 3 0 5 0).toNat)) ≤ 57 then ox_ev m_Rdr_takeNumber (ox_zz ox_ms (n + 0)) 62 0 tl [.inr (.inr (3, 0, 0)), .inl (v1), .inl (v2)] [] σ else ox_ev m_Rdr_takeNumber (ox_zz ox_ms (n + 0)) 59 0 tl [ox_d, .inl (v1), ox_d] [] σ) rfl ?_
            refine ox_R_if (fun _ => ?_) (fun _ => ?_)
            · refine ox_R_to 10 (Y := if 0 ≤ (σ 3 0 5 0) ∧ (σ 3 0 5 0).toNat < 24 then ox_ev m_Rdr_takeNumber (ox_zz ox_ms (n + 0)) 79 0 tl [.inr (.inr (3, 0, 0)), .inl (v1), .inl (v2)] [.inl (σ 3 0 2 ((σ 3 0 5 0).toNat)), .inl (ox_w ((if 0 < v1 then v1 else 0) * 10))] σ else none) rfl ?_
              refine ox_R_if (fun _ => ?_) (fun _ => ox_R_none)
              refine ox_R_to 12 (Y := ox_ev m_Rdr_takeNumber (ox_zz ox_ms (n + 0)) 4 0 tl [.inr (.inr (3, 0, 0)), .inl (ox_w ((ox_w ((ox_w ((if 0 < v1 then v1 else 0) * 10)) + (σ 3 0 2 ((σ 3 0 5 0).toNat)))) - 48)), .inl (ox_w (v2 + 1))] [] (ox_up σ 3 0 5 0 (ox_w ((σ 3 0 5 0) + 1)))) rfl ?_
              exact ox_R_ret rfl
            · exact ox_R_map ((L_Rdr_takeNumber_59 v1 σ n tl))
def F_Rdr_takeNumber  (σ : ox_H) : Option (Int × ox_H) := (J_Rdr_takeNumber_4 (-1) 0 σ)
theorem L_Rdr_takeNumber  (σ : ox_H) (n tl : Nat) : ox_R (fun r => some ((fun r : Int × ox_H => ((.inl (some (.inl r.1)), r.2) : ox_O)) r)) (F_Rdr_takeNumber σ) (ox_zz ox_ms (n + 1) 199 tl [.inr (.inr (3, 0, 0))] σ) := by
  unfold F_Rdr_takeNumber
  refine ox_R_of (Y := ox_ev m_Rdr_takeNumber (ox_zz ox_ms (n + 0)) 0 0 tl [.inr (.inr (3, 0, 0)), ox_d, ox_d] [] σ) rfl ?_
  refine ox_R_to 4 (Y := ox_ev m_Rdr_takeNumber (ox_zz ox_ms (n + 0)) 4 0 tl [.inr (.inr (3, 0, 0)), .inl ((-1)), .inl (0)] [] σ) rfl ?_
  exact (L_Rdr_takeNumber_4 (-1) 0 σ n tl)
def J_Rdr_takeProperty_37  (σ : ox_H) : Option (Int × ox_H) := some (0, σ)
theorem L_Rdr_takeProperty_37  (σ : ox_H) (n tl : Nat) : ox_R (fun r => some ((fun r : Int × ox_H => ((.inl (some (.inl r.1)), r.2) : ox_O)) r)) (J_Rdr_takeProperty_37 σ) (ox_ev m_Rdr_takeProperty (ox_zz ox_ms (n + 1)) 37 0 tl [ox_d, ox_d] [] σ) := by
  unfold J_Rdr_takeProperty_37
  refine ox_R_to 2 (Y := some (.inl (some (.inl (0))), σ)) rfl ?_
  exact ox_R_ret rfl
def J_Rdr_takeProperty_60  (s0 : Int) (σ : ox_H) : Option (Int × ox_H) := some (s0 % 2, σ)
theorem L_Rdr_takeProperty_60  (s0 : Int) (σ : ox_H) (n tl : Nat) : ox_R (fun r => some ((fun r : Int × ox_H => ((.inl (some (.inl r.1)), r.2) : ox_O)) r)) (J_Rdr_takeProperty_60 s0 σ) (ox_ev m_Rdr_takeProperty (ox_zz ox_ms (n + 1)) 60 0 tl [ox_d, ox_d] [.inl (s0)] σ) := by
  unfold J_Rdr_takeProperty_60
  refine ox_R_to 1 (Y := some (.inl (some (.inl (s0 % 2))), σ)) rfl ?_
  exact ox_R_ret rfl
def F_Rdr_takeProperty  (k1 : Nat) (σ : ox_H) : Option (Int × ox_H) := (F_Rdr_takeLetter 122 (ox_up σ 3 0 5 0 (ox_w ((σ 3 0 5 0) + 1)))).bind fun r1 => (if ((ox_up r1.2 4 k1 1 0 r1.1) 4 k1 1 0) = (-1) then (J_Rdr_takeProperty_37 (ox_up r1.2 4 k1 1 0 r1.1)) else ((F_Rdr_take 58 (ox_up r1.2 4 k1 1 0 r1.1)).bind fun r2 => (if r2.1 = 0 then (J_Rdr_takeProperty_37 r2.2) else ((F_Rdr_takeNumber r2.2).bind fun r3 => (if ((ox_up r3.2 4 k1 2 0 r3.1) 4 k1 2 0) = (-1) then (J_Rdr_takeProperty_60 0 (ox_up r3.2 4 k1 2 0 r3.1)) else (J_Rdr_takeProperty_60 1 (ox_up r3.2 4 k1 2 0 r3.1)))))))
theorem L_Rdr_takeProperty  (k1 : Nat) (σ : ox_H) (n tl : Nat) : ox_R (fun r => some ((fun r : Int × ox_H => ((.inl (some (.inl r.1)), r.2) : ox_O)) r)) (F_Rdr_takeProperty k1 σ) (ox_zz ox_ms (n + 2) 205 tl [.inr (.inr (3, 0, 0)), .inr (.inr (4, k1, 0))] σ) := by
  unfold F_Rdr_takeProperty
  refine ox_R_of (Y := ox_ev m_Rdr_takeProperty (ox_zz ox_ms (n + 1)) 0 0 tl [.inr (.inr (3, 0, 0)), .inr (.inr (4, k1, 0))] [] σ) rfl ?_
  refine ox_R_to 10 (Y := ox_back m_Rdr_takeProperty 14 1 [.inr (.inr (4, k1, 0))] ((ox_zz ox_ms (n + 1)) 197 tl [.inr (.inr (3, 0, 0)), .inl (122)] (ox_up σ 3 0 5 0 (ox_w ((σ 3 0 5 0) + 1)))) (fun pc9 x9 st9 σ9 => ox_ev m_Rdr_takeProperty (ox_zz ox_ms (n + 1)) pc9 0 tl (ox_kl (m_Rdr_takeProperty.2.2.1 pc9) (ox_xl x9 [.inr (.inr (3, 0, 0)), .inr (.inr (4, k1, 0))])) st9 σ9)) rfl ?_
  refine ox_R_call (fc := (fun r : Int × ox_H => ((.inl (some (.inl r.1)), r.2) : ox_O))) (L_Rdr_takeLetter 122 (ox_up σ 3 0 5 0 (ox_w ((σ 3 0 5 0) + 1))) (n + 0) tl) (fun r1 => ?_)
  refine ox_R_of (Y := ox_ev m_Rdr_takeProperty (ox_zz ox_ms (n + 1)) 17 0 tl [.inr (.inr (3, 0, 0)), .inr (.inr (4, k1, 0))] [.inl (r1.1), .inr (.inr (4, k1, 0))] r1.2) rfl ?_
  refine ox_R_to 5 (Y := if ((ox_up r1.2 4 k1 1 0 r1.1) 4 k1 1 0) = (-1) then ox_ev m_Rdr_takeProperty (ox_zz ox_ms (n + 1)) 37 0 tl [ox_d, ox_d] [] (ox_up r1.2 4 k1 1 0 r1.1) else ox_ev m_Rdr_takeProperty (ox_zz ox_ms (n + 1)) 28 0 tl [.inr (.inr (3, 0, 0)), .inr (.inr (4, k1, 0))] [] (ox_up r1.2 4 k1 1 0 r1.1)) rfl ?_
  refine ox_R_if (fun _ => ?_) (fun _ => ?_)
  · exact (L_Rdr_takeProperty_37 (ox_up r1.2 4 k1 1 0 r1.1) n tl)
  · refine ox_R_to 3 (Y := ox_back m_Rdr_takeProperty 31 1 [] ((ox_zz ox_ms (n + 1)) 196 tl [.inr (.inr (3, 0, 0)), .inl (58)] (ox_up r1.2 4 k1 1 0 r1.1)) (fun pc9 x9 st9 σ9 => ox_ev m_Rdr_takeProperty (ox_zz ox_ms (n + 1)) pc9 0 tl (ox_kl (m_Rdr_takeProperty.2.2.1 pc9) (ox_xl x9 [.inr (.inr (3, 0, 0)), .inr (.inr (4, k1, 0))])) st9 σ9)) rfl ?_
    refine ox_R_call (fc := (fun r : Int × ox_H => ((.inl (some (.inl r.1)), r.2) : ox_O))) (L_Rdr_take 58 (ox_up r1.2 4 k1 1 0 r1.1) (n + 0) tl) (fun r2 => ?_)
    refine ox_R_of (Y := ox_ev m_Rdr_takeProperty (ox_zz ox_ms (n + 1)) 34 0 tl [.inr (.inr (3, 0, 0)), .inr (.inr (4, k1, 0))] [.inl (r2.1)] r2.2) rfl ?_
    refine ox_R_to 1 (Y := if r2.1 = 0 then ox_ev m_Rdr_takeProperty (ox_zz ox_ms (n + 1)) 37 0 tl [ox_d, ox_d] [] r2.2 else ox_ev m_Rdr_takeProperty (ox_zz ox_ms (n + 1)) 39 0 tl [.inr (.inr (3, 0, 0)), .inr (.inr (4, k1, 0))] [] r2.2) rfl ?_
    refine ox_R_if (fun _ => ?_) (fun _ => ?_)
    · exact (L_Rdr_takeProperty_37 r2.2 n tl)
    · refine ox_R_to 3 (Y := ox_back m_Rdr_takeProperty 41 1 [.inr (.inr (4, k1, 0))] ((ox_zz ox_ms (n + 1)) 199 tl [.inr (.inr (3, 0, 0))] r2.2) (fun pc9 x9 st9 σ9 => ox_ev m_Rdr_takeProperty (ox_zz ox_ms (n + 1)) pc9 0 tl (ox_kl (m_Rdr_takeProperty.2.2.1 pc9) (ox_xl x9 [.inr (.inr (3, 0, 0)), .inr (.inr (4, k1, 0))])) st9 σ9)) rfl ?_
      refine ox_R_call (fc := (fun r : Int × ox_H => ((.inl (some (.inl r.1)), r.2) : ox_O))) (L_Rdr_takeNumber r2.2 (n + 0) tl) (fun r3 => ?_)
      refine ox_R_of (Y := ox_ev m_Rdr_takeProperty (ox_zz ox_ms (n + 1)) 44 0 tl [.inr (.inr (3, 0, 0)), .inr (.inr (4, k1, 0))] [.inl (r3.1), .inr (.inr (4, k1, 0))] r3.2) rfl ?_
      refine ox_R_to 5 (Y := if ((ox_up r3.2 4 k1 2 0 r3.1) 4 k1 2 0) = (-1) then ox_ev m_Rdr_takeProperty (ox_zz ox_ms (n + 1)) 59 0 tl [.inr (.inr (3, 0, 0)), .inr (.inr (4, k1, 0))] [] (ox_up r3.2 4 k1 2 0 r3.1) else ox_ev m_Rdr_takeProperty (ox_zz ox_ms (n + 1)) 55 0 tl [.inr (.inr (3, 0, 0)), .inr (.inr (4, k1, 0))] [] (ox_up r3.2 4 k1 2 0 r3.1)) rfl ?_
      refine ox_R_if (fun _ => ?_) (fun _ => ?_)
      · refine ox_R_to 1 (Y := ox_ev m_Rdr_takeProperty (ox_zz ox_ms (n + 1)) 60 0 tl [ox_d, ox_d] [.inl (0)] (ox_up r3.2 4 k1 2 0 r3.1)) rfl ?_
        exact (L_Rdr_takeProperty_60 0 (ox_up r3.2 4 k1 2 0 r3.1) n tl)
      · refine ox_R_to 2 (Y := ox_ev m_Rdr_takeProperty (ox_zz ox_ms (n + 1)) 60 0 tl [ox_d, ox_d] [.inl (1)] (ox_up r3.2 4 k1 2 0 r3.1)) rfl ?_
        exact (L_Rdr_takeProperty_60 1 (ox_up r3.2 4 k1 2 0 r3.1) n tl)
def J_Rdr_takeDate_61  (σ : ox_H) : Option (Int × ox_H) := some (0, σ)
theorem L_Rdr_takeDate_61  (σ : ox_H) (n tl : Nat) : ox_R (fun r => some ((fun r : Int × ox_H => ((.inl (some (.inl r.1)), r.2) : ox_O)) r)) (J_Rdr_takeDate_61 σ) (ox_ev m_Rdr_takeDate (ox_zz ox_ms (n + 1)) 61 0 tl [ox_d, ox_d] [] σ) := by
  unfold J_Rdr_takeDate_61
  refine ox_R_to 2 (Y := some (.inl (some (.inl (0))), σ)) rfl ?_
  exact ox_R_ret rfl
def J_Rdr_takeDate_130  (s0 : Int) (σ : ox_H) : Option (Int × ox_H) := some (s0 % 2, σ)
theorem L_Rdr_takeDate_130  (s0 : Int) (σ : ox_H) (n tl : Nat) : ox_R (fun r => some ((fun r : Int × ox_H => ((.inl (some (.inl r.1)), r.2) : ox_O)) r)) (J_Rdr_takeDate_130 s0 σ) (ox_ev m_Rdr_takeDate (ox_zz ox_ms (n + 1)) 130 0 tl [ox_d, ox_d] [.inl (s0)] σ) := by
  unfold J_Rdr_takeDate_130
  refine ox_R_to 1 (Y := some (.inl (some (.inl (s0 % 2))), σ)) rfl ?_
  exact ox_R_ret rfl
def J_Rdr_takeDate_118  (v1 : Nat) (σ : ox_H) : Option (Int × ox_H) := if (σ 4 v1 5 0) ≤ 0 then (J_Rdr_takeDate_130 0 σ) else (J_Rdr_takeDate_130 1 σ)
theorem L_Rdr_takeDate_118  (v1 : Nat) (σ : ox_H) (n tl : Nat) : ox_R (fun r => some ((fun r : Int × ox_H => ((.inl (some (.inl r.1)), r.2) : ox_O)) r)) (J_Rdr_takeDate_118 v1 σ) (ox_ev m_Rdr_takeDate (ox_zz ox_ms (n + 1)) 118 0 tl [ox_d, .inr (.inr (4, v1, 0))] [] σ) := by
  unfold J_Rdr_takeDate_118
  refine ox_R_to 3 (Y := if (σ 4 v1 5 0) ≤ 0 then ox_ev m_Rdr_takeDate (ox_zz ox_ms (n + 1)) 129 0 tl [ox_d, .inr (.inr (4, v1, 0))] [] σ else ox_ev m_Rdr_takeDate (ox_zz ox_ms (n + 1)) 125 0 tl [ox_d, .inr (.inr (4, v1, 0))] [] σ) rfl ?_
  refine ox_R_if (fun _ => ?_) (fun _ => ?_)
  · refine ox_R_to 1 (Y := ox_ev m_Rdr_takeDate (ox_zz ox_ms (n + 1)) 130 0 tl [ox_d, ox_d] [.inl (0)] σ) rfl ?_
    exact (L_Rdr_takeDate_130 0 σ n tl)
  · refine ox_R_to 2 (Y := ox_ev m_Rdr_takeDate (ox_zz ox_ms (n + 1)) 130 0 tl [ox_d, ox_d] [.inl (1)] σ) rfl ?_
    exact (L_Rdr_takeDate_130 1 σ n tl)
def J_Rdr_takeDate_100  (v1 : Nat) (σ : ox_H) : Option (Int × ox_H) := (F_Rdr_peek σ).bind fun r1 => (if 0 ≤ r1 ∧ r1 < 65536 then (J_Rdr_takeDate_118 v1 (ox_up (ox_up σ 4 v1 6 0 r1) 3 0 5 0 (ox_w ((σ 3 0 5 0) + 1)))) else none)
theorem L_Rdr_takeDate_100  (v1 : Nat) (σ : ox_H) (n tl : Nat) : ox_R (fun r => some ((fun r : Int × ox_H => ((.inl (some (.inl r.1)), r.2) : ox_O)) r)) (J_Rdr_takeDate_100 v1 σ) (ox_ev m_Rdr_takeDate (ox_zz ox_ms (n + 1)) 100 0 tl [.inr (.inr (3, 0, 0)), .inr (.inr (4, v1, 0))] [] σ) := by
  unfold J_Rdr_takeDate_100
  refine ox_R_to 3 (Y := ox_back m_Rdr_takeDate 102 1 [.inr (.inr (4, v1, 0))] ((ox_zz ox_ms (n + 1)) 195 tl [.inr (.inr (3, 0, 0))] σ) (fun pc9 x9 st9 σ9 => ox_ev m_Rdr_takeDate (ox_zz ox_ms (n + 1)) pc9 0 tl (ox_kl (m_Rdr_takeDate.2.2.1 pc9) (ox_xl x9 [.inr (.inr (3, 0, 0)), .inr (.inr (4, v1, 0))])) st9 σ9)) rfl ?_
  refine ox_R_call (fc := (fun r : Int => ((.inl (some (.inl r)), σ) : ox_O))) (L_Rdr_peek σ (n + 0) tl) (fun r1 => ?_)
  refine ox_R_of (Y := ox_ev m_Rdr_takeDate (ox_zz ox_ms (n + 1)) 105 0 tl [.inr (.inr (3, 0, 0)), .inr (.inr (4, v1, 0))] [.inl (r1), .inr (.inr (4, v1, 0))] σ) rfl ?_
  refine ox_R_to 1 (Y := if 0 ≤ r1 ∧ r1 < 65536 then ox_ev m_Rdr_takeDate (ox_zz ox_ms (n + 1)) 108 0 tl [.inr (.inr (3, 0, 0)), .inr (.inr (4, v1, 0))] [] (ox_up σ 4 v1 6 0 r1) else none) rfl ?_
  refine ox_R_if (fun _ => ?_) (fun _ => ox_R_none)
  refine ox_R_to 6 (Y := ox_ev m_Rdr_takeDate (ox_zz ox_ms (n + 1)) 118 0 tl [ox_d, .inr (.inr (4, v1, 0))] [] (ox_up (ox_up σ 4 v1 6 0 r1) 3 0 5 0 (ox_w ((σ 3 0 5 0) + 1)))) rfl ?_
  exact (L_Rdr_takeDate_118 v1 (ox_up (ox_up σ 4 v1 6 0 r1) 3 0 5 0 (ox_w ((σ 3 0 5 0) + 1))) n tl)
def J_Rdr_takeDate_39  (v1 : Nat) (s0 : Int) (s1 : Nat) (σ : ox_H) : Option (Int × ox_H) := if (σ 4 v1 3 0) = (-1) then (J_Rdr_takeDate_61 (ox_up σ 4 s1 4 0 s0)) else (if (σ 4 v1 3 0) ≤ ((ox_up σ 4 s1 4 0 s0) 4 v1 4 0) then ((F_Rdr_take 43 (ox_up σ 4 s1 4 0 s0)).bind fun r2 => (if r2.1 = 0 then (some (1, r2.2)) else ((F_Rdr_takeNumber r2.2).bind fun r3 => ((F_Rdr_peek (ox_up r3.2 4 v1 5 0 r3.1)).bind fun r4 => (if r4 = 43 then (J_Rdr_takeDate_100 v1 (ox_up r3.2 4 v1 5 0 r3.1)) else ((F_Rdr_peek (ox_up r3.2 4 v1 5 0 r3.1)).bind fun r5 => (if r5 = 46 then (J_Rdr_takeDate_100 v1 (ox_up r3.2 4 v1 5 0 r3.1)) else (J_Rdr_takeDate_118 v1 (ox_up r3.2 4 v1 5 0 r3.1))))))))) else (J_Rdr_takeDate_61 (ox_up σ 4 s1 4 0 s0)))
theorem L_Rdr_takeDate_39  (v1 : Nat) (s0 : Int) (s1 : Nat) (σ : ox_H) (n tl : Nat) : ox_R (fun r => some ((fun r : Int × ox_H => ((.inl (some (.inl r.1)), r.2) : ox_O)) r)) (J_Rdr_takeDate_39 v1 s0 s1 σ) (ox_ev m_Rdr_takeDate (ox_zz ox_ms (n + 1)) 39 0 tl [.inr (.inr (3, 0, 0)), .inr (.inr (4, v1, 0))] [.inl (s0), .inr (.inr (4, s1, 0))] σ) := by
  unfold J_Rdr_takeDate_39
  refine ox_R_to 5 (Y := if (σ 4 v1 3 0) = (-1) then ox_ev m_Rdr_takeDate (ox_zz ox_ms (n + 1)) 61 0 tl [ox_d, ox_d] [] (ox_up σ 4 s1 4 0 s0) else ox_ev m_Rdr_takeDate (ox_zz ox_ms (n + 1)) 50 0 tl [.inr (.inr (3, 0, 0)), .inr (.inr (4, v1, 0))] [] (ox_up σ 4 s1 4 0 s0)) rfl ?_
  refine ox_R_if (fun _ => ?_) (fun _ => ?_)
  · exact (L_Rdr_takeDate_61 (ox_up σ 4 s1 4 0 s0) n tl)
  · refine ox_R_to 5 (Y := if (σ 4 v1 3 0) ≤ ((ox_up σ 4 s1 4 0 s0) 4 v1 4 0) then ox_ev m_Rdr_takeDate (ox_zz ox_ms (n + 1)) 63 0 tl [.inr (.inr (3, 0, 0)), .inr (.inr (4, v1, 0))] [] (ox_up σ 4 s1 4 0 s0) else ox_ev m_Rdr_takeDate (ox_zz ox_ms (n + 1)) 61 0 tl [ox_d, ox_d] [] (ox_up σ 4 s1 4 0 s0)) rfl ?_
    refine ox_R_if (fun _ => ?_) (fun _ => ?_)
    · refine ox_R_to 3 (Y := ox_back m_Rdr_takeDate 66 1 [] ((ox_zz ox_ms (n + 1)) 196 tl [.inr (.inr (3, 0, 0)), .inl (43)] (ox_up σ 4 s1 4 0 s0)) (fun pc9 x9 st9 σ9 => ox_ev m_Rdr_takeDate (ox_zz ox_ms (n + 1)) pc9 0 tl (ox_kl (m_Rdr_takeDate.2.2.1 pc9) (ox_xl x9 [.inr (.inr (3, 0, 0)), .inr (.inr (4, v1, 0))])) st9 σ9)) rfl ?_
      refine ox_R_call (fc := (fun r : Int × ox_H => ((.inl (some (.inl r.1)), r.2) : ox_O))) (L_Rdr_take 43 (ox_up σ 4 s1 4 0 s0) (n + 0) tl) (fun r2 => ?_)
      refine ox_R_of (Y := ox_ev m_Rdr_takeDate (ox_zz ox_ms (n + 1)) 69 0 tl [.inr (.inr (3, 0, 0)), .inr (.inr (4, v1, 0))] [.inl (r2.1)] r2.2) rfl ?_
      refine ox_R_to 1 (Y := if r2.1 = 0 then ox_ev m_Rdr_takeDate (ox_zz ox_ms (n + 1)) 72 0 tl [.inr (.inr (3, 0, 0)), .inr (.inr (4, v1, 0))] [] r2.2 else ox_ev m_Rdr_takeDate (ox_zz ox_ms (n + 1)) 74 0 tl [.inr (.inr (3, 0, 0)), .inr (.inr (4, v1, 0))] [] r2.2) rfl ?_
      refine ox_R_if (fun _ => ?_) (fun _ => ?_)
      · refine ox_R_to 2 (Y := some (.inl (some (.inl (1))), r2.2)) rfl ?_
        exact ox_R_ret rfl
      · refine ox_R_to 3 (Y := ox_back m_Rdr_takeDate 76 1 [.inr (.inr (4, v1, 0))] ((ox_zz ox_ms (n + 1)) 199 tl [.inr (.inr (3, 0, 0))] r2.2) (fun pc9 x9 st9 σ9 => ox_ev m_Rdr_takeDate (ox_zz ox_ms (n + 1)) pc9 0 tl (ox_kl (m_Rdr_takeDate.2.2.1 pc9) (ox_xl x9 [.inr (.inr (3, 0, 0)), .inr (.inr (4, v1, 0))])) st9 σ9)) rfl ?_
        refine ox_R_call (fc := (fun r : Int × ox_H => ((.inl (some (.inl r.1)), r.2) : ox_O))) (L_Rdr_takeNumber r2.2 (n + 0) tl) (fun r3 => ?_)
        refine ox_R_of (Y := ox_ev m_Rdr_takeDate (ox_zz ox_ms (n + 1)) 79 0 tl [.inr (.inr (3, 0, 0)), .inr (.inr (4, v1, 0))] [.inl (r3.1), .inr (.inr (4, v1, 0))] r3.2) rfl ?_
        refine ox_R_to 3 (Y := ox_back m_Rdr_takeDate 83 1 [] ((ox_zz ox_ms (n + 1)) 195 tl [.inr (.inr (3, 0, 0))] (ox_up r3.2 4 v1 5 0 r3.1)) (fun pc9 x9 st9 σ9 => ox_ev m_Rdr_takeDate (ox_zz ox_ms (n + 1)) pc9 0 tl (ox_kl (m_Rdr_takeDate.2.2.1 pc9) (ox_xl x9 [.inr (.inr (3, 0, 0)), .inr (.inr (4, v1, 0))])) st9 σ9)) rfl ?_
        refine ox_R_call (fc := (fun r : Int => ((.inl (some (.inl r)), (ox_up r3.2 4 v1 5 0 r3.1)) : ox_O))) (L_Rdr_peek (ox_up r3.2 4 v1 5 0 r3.1) (n + 0) tl) (fun r4 => ?_)
        refine ox_R_of (Y := ox_ev m_Rdr_takeDate (ox_zz ox_ms (n + 1)) 86 0 tl [.inr (.inr (3, 0, 0)), .inr (.inr (4, v1, 0))] [.inl (r4)] (ox_up r3.2 4 v1 5 0 r3.1)) rfl ?_
        refine ox_R_to 2 (Y := if r4 = 43 then ox_ev m_Rdr_takeDate (ox_zz ox_ms (n + 1)) 100 0 tl [.inr (.inr (3, 0, 0)), .inr (.inr (4, v1, 0))] [] (ox_up r3.2 4 v1 5 0 r3.1) else ox_ev m_Rdr_takeDate (ox_zz ox_ms (n + 1)) 91 0 tl [.inr (.inr (3, 0, 0)), .inr (.inr (4, v1, 0))] [] (ox_up r3.2 4 v1 5 0 r3.1)) rfl ?_
        refine ox_R_if (fun _ => ?_) (fun _ => ?_)
        · exact (L_Rdr_takeDate_100 v1 (ox_up r3.2 4 v1 5 0 r3.1) n tl)
        · refine ox_R_to 2 (Y := ox_back m_Rdr_takeDate 92 1 [] ((ox_zz ox_ms (n + 1)) 195 tl [.inr (.inr (3, 0, 0))] (ox_up r3.2 4 v1 5 0 r3.1)) (fun pc9 x9 st9 σ9 => ox_ev m_Rdr_takeDate (ox_zz ox_ms (n + 1)) pc9 0 tl (ox_kl (m_Rdr_takeDate.2.2.1 pc9) (ox_xl x9 [.inr (.inr (3, 0, 0)), .inr (.inr (4, v1, 0))])) st9 σ9)) rfl ?_
          refine ox_R_call (fc := (fun r : Int => ((.inl (some (.inl r)), (ox_up r3.2 4 v1 5 0 r3.1)) : ox_O))) (L_Rdr_peek (ox_up r3.2 4 v1 5 0 r3.1) (n + 0) tl) (fun r5 => ?_)
          refine ox_R_of (Y := ox_ev m_Rdr_takeDate (ox_zz ox_ms (n + 1)) 95 0 tl [.inr (.inr (3, 0, 0)), .inr (.inr (4, v1, 0))] [.inl (r5)] (ox_up r3.2 4 v1 5 0 r3.1)) rfl ?_
          refine ox_R_to 2 (Y := if r5 = 46 then ox_ev m_Rdr_takeDate (ox_zz ox_ms (n + 1)) 100 0 tl [.inr (.inr (3, 0, 0)), .inr (.inr (4, v1, 0))] [] (ox_up r3.2 4 v1 5 0 r3.1) else ox_ev m_Rdr_takeDate (ox_zz ox_ms (n + 1)) 118 0 tl [ox_d, .inr (.inr (4, v1, 0))] [] (ox_up r3.2 4 v1 5 0 r3.1)) rfl ?_
          refine ox_R_if (fun _ => ?_) (fun _ => ?_)
          · exact (L_Rdr_takeDate_100 v1 (ox_up r3.2 4 v1 5 0 r3.1) n tl)
          · exact (L_Rdr_takeDate_118 v1 (ox_up r3.2 4 v1 5 0 r3.1) n tl)
    · exact (L_Rdr_takeDate_61 (ox_up σ 4 s1 4 0 s0) n tl)
def F_Rdr_takeDate  (k1 : Nat) (σ : ox_H) : Option (Int × ox_H) := (F_Rdr_takeNumber (ox_up σ 3 0 5 0 (ox_w ((σ 3 0 5 0) + 1)))).bind fun r6 => ((F_Rdr_take 45 (ox_up r6.2 4 k1 3 0 r6.1)).bind fun r7 => (if r7.1 = 0 then (J_Rdr_takeDate_39 k1 (r7.2 4 k1 3 0) k1 r7.2) else ((F_Rdr_takeNumber r7.2).bind fun r8 => (J_Rdr_takeDate_39 k1 r8.1 k1 r8.2))))
theorem L_Rdr_takeDate  (k1 : Nat) (σ : ox_H) (n tl : Nat) : ox_R (fun r => some ((fun r : Int × ox_H => ((.inl (some (.inl r.1)), r.2) : ox_O)) r)) (F_Rdr_takeDate k1 σ) (ox_zz ox_ms (n + 2) 206 tl [.inr (.inr (3, 0, 0)), .inr (.inr (4, k1, 0))] σ) := by
  unfold F_Rdr_takeDate
  refine ox_R_of (Y := ox_ev m_Rdr_takeDate (ox_zz ox_ms (n + 1)) 0 0 tl [.inr (.inr (3, 0, 0)), .inr (.inr (4, k1, 0))] [] σ) rfl ?_
  refine ox_R_to 9 (Y := ox_back m_Rdr_takeDate 12 1 [.inr (.inr (4, k1, 0))] ((ox_zz ox_ms (n + 1)) 199 tl [.inr (.inr (3, 0, 0))] (ox_up σ 3 0 5 0 (ox_w ((σ 3 0 5 0) + 1)))) (fun pc9 x9 st9 σ9 => ox_ev m_Rdr_takeDate (ox_zz ox_ms (n + 1)) pc9 0 tl (ox_kl (m_Rdr_takeDate.2.2.1 pc9) (ox_xl x9 [.inr (.inr (3, 0, 0)), .inr (.inr (4, k1, 0))])) st9 σ9)) rfl ?_
  refine ox_R_call (fc := (fun r : Int × ox_H => ((.inl (some (.inl r.1)), r.2) : ox_O))) (L_Rdr_takeNumber (ox_up σ 3 0 5 0 (ox_w ((σ 3 0 5 0) + 1))) (n + 0) tl) (fun r6 => ?_)
  refine ox_R_of (Y := ox_ev m_Rdr_takeDate (ox_zz ox_ms (n + 1)) 15 0 tl [.inr (.inr (3, 0, 0)), .inr (.inr (4, k1, 0))] [.inl (r6.1), .inr (.inr (4, k1, 0))] r6.2) rfl ?_
  refine ox_R_to 5 (Y := ox_back m_Rdr_takeDate 22 1 [.inr (.inr (4, k1, 0))] ((ox_zz ox_ms (n + 1)) 196 tl [.inr (.inr (3, 0, 0)), .inl (45)] (ox_up r6.2 4 k1 3 0 r6.1)) (fun pc9 x9 st9 σ9 => ox_ev m_Rdr_takeDate (ox_zz ox_ms (n + 1)) pc9 0 tl (ox_kl (m_Rdr_takeDate.2.2.1 pc9) (ox_xl x9 [.inr (.inr (3, 0, 0)), .inr (.inr (4, k1, 0))])) st9 σ9)) rfl ?_
  refine ox_R_call (fc := (fun r : Int × ox_H => ((.inl (some (.inl r.1)), r.2) : ox_O))) (L_Rdr_take 45 (ox_up r6.2 4 k1 3 0 r6.1) (n + 0) tl) (fun r7 => ?_)
  refine ox_R_of (Y := ox_ev m_Rdr_takeDate (ox_zz ox_ms (n + 1)) 25 0 tl [.inr (.inr (3, 0, 0)), .inr (.inr (4, k1, 0))] [.inl (r7.1), .inr (.inr (4, k1, 0))] r7.2) rfl ?_
  refine ox_R_to 1 (Y := if r7.1 = 0 then ox_ev m_Rdr_takeDate (ox_zz ox_ms (n + 1)) 35 0 tl [.inr (.inr (3, 0, 0)), .inr (.inr (4, k1, 0))] [.inr (.inr (4, k1, 0))] r7.2 else ox_ev m_Rdr_takeDate (ox_zz ox_ms (n + 1)) 28 0 tl [.inr (.inr (3, 0, 0)), .inr (.inr (4, k1, 0))] [.inr (.inr (4, k1, 0))] r7.2) rfl ?_
  refine ox_R_if (fun _ => ?_) (fun _ => ?_)
  · refine ox_R_to 2 (Y := ox_ev m_Rdr_takeDate (ox_zz ox_ms (n + 1)) 39 0 tl [.inr (.inr (3, 0, 0)), .inr (.inr (4, k1, 0))] [.inl (r7.2 4 k1 3 0), .inr (.inr (4, k1, 0))] r7.2) rfl ?_
    exact (L_Rdr_takeDate_39 k1 (r7.2 4 k1 3 0) k1 r7.2 n tl)
  · refine ox_R_to 2 (Y := ox_back m_Rdr_takeDate 29 1 [.inr (.inr (4, k1, 0))] ((ox_zz ox_ms (n + 1)) 199 tl [.inr (.inr (3, 0, 0))] r7.2) (fun pc9 x9 st9 σ9 => ox_ev m_Rdr_takeDate (ox_zz ox_ms (n + 1)) pc9 0 tl (ox_kl (m_Rdr_takeDate.2.2.1 pc9) (ox_xl x9 [.inr (.inr (3, 0, 0)), .inr (.inr (4, k1, 0))])) st9 σ9)) rfl ?_
    refine ox_R_call (fc := (fun r : Int × ox_H => ((.inl (some (.inl r.1)), r.2) : ox_O))) (L_Rdr_takeNumber r7.2 (n + 0) tl) (fun r8 => ?_)
    refine ox_R_of (Y := ox_ev m_Rdr_takeDate (ox_zz ox_ms (n + 1)) 32 0 tl [.inr (.inr (3, 0, 0)), .inr (.inr (4, k1, 0))] [.inl (r8.1), .inr (.inr (4, k1, 0))] r8.2) rfl ?_
    refine ox_R_to 1 (Y := ox_ev m_Rdr_takeDate (ox_zz ox_ms (n + 1)) 39 0 tl [.inr (.inr (3, 0, 0)), .inr (.inr (4, k1, 0))] [.inl (r8.1), .inr (.inr (4, k1, 0))] r8.2) rfl ?_
    exact (L_Rdr_takeDate_39 k1 r8.1 k1 r8.2 n tl)
def J_Rdr_takeClock_35  (σ : ox_H) : Option (Int × ox_H) := some (0, σ)
theorem L_Rdr_takeClock_35  (σ : ox_H) (n tl : Nat) : ox_R (fun r => some ((fun r : Int × ox_H => ((.inl (some (.inl r.1)), r.2) : ox_O)) r)) (J_Rdr_takeClock_35 σ) (ox_ev m_Rdr_takeClock (ox_zz ox_ms (n + 1)) 35 0 tl [ox_d, ox_d] [] σ) := by
  unfold J_Rdr_takeClock_35
  refine ox_R_to 2 (Y := some (.inl (some (.inl (0))), σ)) rfl ?_
  exact ox_R_ret rfl
def J_Rdr_takeClock_74  (s0 : Int) (σ : ox_H) : Option (Int × ox_H) := some (s0 % 2, σ)
theorem L_Rdr_takeClock_74  (s0 : Int) (σ : ox_H) (n tl : Nat) : ox_R (fun r => some ((fun r : Int × ox_H => ((.inl (some (.inl r.1)), r.2) : ox_O)) r)) (J_Rdr_takeClock_74 s0 σ) (ox_ev m_Rdr_takeClock (ox_zz ox_ms (n + 1)) 74 0 tl [ox_d, ox_d] [.inl (s0)] σ) := by
  unfold J_Rdr_takeClock_74
  refine ox_R_to 1 (Y := some (.inl (some (.inl (s0 % 2))), σ)) rfl ?_
  exact ox_R_ret rfl
def F_Rdr_takeClock  (k1 : Nat) (σ : ox_H) : Option (Int × ox_H) := (F_Rdr_takeNumber (ox_up σ 3 0 5 0 (ox_w ((σ 3 0 5 0) + 1)))).bind fun r1 => (if ((ox_up r1.2 4 k1 3 0 r1.1) 4 k1 3 0) = (-1) then (J_Rdr_takeClock_35 (ox_up r1.2 4 k1 3 0 r1.1)) else ((F_Rdr_take 45 (ox_up r1.2 4 k1 3 0 r1.1)).bind fun r2 => (if r2.1 = 0 then (J_Rdr_takeClock_35 r2.2) else (if (r2.2 3 0 5 0) = (r2.2 3 0 4 0) then (some (1, r2.2)) else ((F_Rdr_takeNumber r2.2).bind fun r3 => (if ((ox_up r3.2 4 k1 4 0 r3.1) 4 k1 4 0) < (r3.2 4 k1 3 0) then (J_Rdr_takeClock_74 0 (ox_up r3.2 4 k1 4 0 r3.1)) else (J_Rdr_takeClock_74 1 (ox_up r3.2 4 k1 4 0 r3.1))))))))
theorem L_Rdr_takeClock  (k1 : Nat) (σ : ox_H) (n tl : Nat) : ox_R (fun r => some ((fun r : Int × ox_H => ((.inl (some (.inl r.1)), r.2) : ox_O)) r)) (F_Rdr_takeClock k1 σ) (ox_zz ox_ms (n + 2) 207 tl [.inr (.inr (3, 0, 0)), .inr (.inr (4, k1, 0))] σ) := by
  unfold F_Rdr_takeClock
  refine ox_R_of (Y := ox_ev m_Rdr_takeClock (ox_zz ox_ms (n + 1)) 0 0 tl [.inr (.inr (3, 0, 0)), .inr (.inr (4, k1, 0))] [] σ) rfl ?_
  refine ox_R_to 9 (Y := ox_back m_Rdr_takeClock 12 1 [.inr (.inr (4, k1, 0))] ((ox_zz ox_ms (n + 1)) 199 tl [.inr (.inr (3, 0, 0))] (ox_up σ 3 0 5 0 (ox_w ((σ 3 0 5 0) + 1)))) (fun pc9 x9 st9 σ9 => ox_ev m_Rdr_takeClock (ox_zz ox_ms (n + 1)) pc9 0 tl (ox_kl (m_Rdr_takeClock.2.2.1 pc9) (ox_xl x9 [.inr (.inr (3, 0, 0)), .inr (.inr (4, k1, 0))])) st9 σ9)) rfl ?_
  refine ox_R_call (fc := (fun r : Int × ox_H => ((.inl (some (.inl r.1)), r.2) : ox_O))) (L_Rdr_takeNumber (ox_up σ 3 0 5 0 (ox_w ((σ 3 0 5 0) + 1))) (n + 0) tl) (fun r1 => ?_)
  refine ox_R_of (Y := ox_ev m_Rdr_takeClock (ox_zz ox_ms (n + 1)) 15 0 tl [.inr (.inr (3, 0, 0)), .inr (.inr (4, k1, 0))] [.inl (r1.1), .inr (.inr (4, k1, 0))] r1.2) rfl ?_
  refine ox_R_to 5 (Y := if ((ox_up r1.2 4 k1 3 0 r1.1) 4 k1 3 0) = (-1) then ox_ev m_Rdr_takeClock (ox_zz ox_ms (n + 1)) 35 0 tl [ox_d, ox_d] [] (ox_up r1.2 4 k1 3 0 r1.1) else ox_ev m_Rdr_takeClock (ox_zz ox_ms (n + 1)) 26 0 tl [.inr (.inr (3, 0, 0)), .inr (.inr (4, k1, 0))] [] (ox_up r1.2 4 k1 3 0 r1.1)) rfl ?_
  refine ox_R_if (fun _ => ?_) (fun _ => ?_)
  · exact (L_Rdr_takeClock_35 (ox_up r1.2 4 k1 3 0 r1.1) n tl)
  · refine ox_R_to 3 (Y := ox_back m_Rdr_takeClock 29 1 [] ((ox_zz ox_ms (n + 1)) 196 tl [.inr (.inr (3, 0, 0)), .inl (45)] (ox_up r1.2 4 k1 3 0 r1.1)) (fun pc9 x9 st9 σ9 => ox_ev m_Rdr_takeClock (ox_zz ox_ms (n + 1)) pc9 0 tl (ox_kl (m_Rdr_takeClock.2.2.1 pc9) (ox_xl x9 [.inr (.inr (3, 0, 0)), .inr (.inr (4, k1, 0))])) st9 σ9)) rfl ?_
    refine ox_R_call (fc := (fun r : Int × ox_H => ((.inl (some (.inl r.1)), r.2) : ox_O))) (L_Rdr_take 45 (ox_up r1.2 4 k1 3 0 r1.1) (n + 0) tl) (fun r2 => ?_)
    refine ox_R_of (Y := ox_ev m_Rdr_takeClock (ox_zz ox_ms (n + 1)) 32 0 tl [.inr (.inr (3, 0, 0)), .inr (.inr (4, k1, 0))] [.inl (r2.1)] r2.2) rfl ?_
    refine ox_R_to 1 (Y := if r2.1 = 0 then ox_ev m_Rdr_takeClock (ox_zz ox_ms (n + 1)) 35 0 tl [ox_d, ox_d] [] r2.2 else ox_ev m_Rdr_takeClock (ox_zz ox_ms (n + 1)) 37 0 tl [.inr (.inr (3, 0, 0)), .inr (.inr (4, k1, 0))] [] r2.2) rfl ?_
    refine ox_R_if (fun _ => ?_) (fun _ => ?_)
    · exact (L_Rdr_takeClock_35 r2.2 n tl)
    · refine ox_R_to 5 (Y := if (r2.2 3 0 5 0) = (r2.2 3 0 4 0) then ox_ev m_Rdr_takeClock (ox_zz ox_ms (n + 1)) 48 0 tl [.inr (.inr (3, 0, 0)), .inr (.inr (4, k1, 0))] [] r2.2 else ox_ev m_Rdr_takeClock (ox_zz ox_ms (n + 1)) 50 0 tl [.inr (.inr (3, 0, 0)), .inr (.inr (4, k1, 0))] [] r2.2) rfl ?_
      refine ox_R_if (fun _ => ?_) (fun _ => ?_)
      · refine ox_R_to 2 (Y := some (.inl (some (.inl (1))), r2.2)) rfl ?_
        exact ox_R_ret rfl
      · refine ox_R_to 3 (Y := ox_back m_Rdr_takeClock 52 1 [.inr (.inr (4, k1, 0))] ((ox_zz ox_ms (n + 1)) 199 tl [.inr (.inr (3, 0, 0))] r2.2) (fun pc9 x9 st9 σ9 => ox_ev m_Rdr_takeClock (ox_zz ox_ms (n + 1)) pc9 0 tl (ox_kl (m_Rdr_takeClock.2.2.1 pc9) (ox_xl x9 [.inr (.inr (3, 0, 0)), .inr (.inr (4, k1, 0))])) st9 σ9)) rfl ?_
        refine ox_R_call (fc := (fun r : Int × ox_H => ((.inl (some (.inl r.1)), r.2) : ox_O))) (L_Rdr_takeNumber r2.2 (n + 0) tl) (fun r3 => ?_)
        refine ox_R_of (Y := ox_ev m_Rdr_takeClock (ox_zz ox_ms (n + 1)) 55 0 tl [.inr (.inr (3, 0, 0)), .inr (.inr (4, k1, 0))] [.inl (r3.1), .inr (.inr (4, k1, 0))] r3.2) rfl ?_
        refine ox_R_to 6 (Y := if ((ox_up r3.2 4 k1 4 0 r3.1) 4 k1 4 0) < (r3.2 4 k1 3 0) then ox_ev m_Rdr_takeClock (ox_zz ox_ms (n + 1)) 73 0 tl [.inr (.inr (3, 0, 0)), .inr (.inr (4, k1, 0))] [] (ox_up r3.2 4 k1 4 0 r3.1) else ox_ev m_Rdr_takeClock (ox_zz ox_ms (n + 1)) 69 0 tl [.inr (.inr (3, 0, 0)), .inr (.inr (4, k1, 0))] [] (ox_up r3.2 4 k1 4 0 r3.1)) rfl ?_
        refine ox_R_if (fun _ => ?_) (fun _ => ?_)
        · refine ox_R_to 1 (Y := ox_ev m_Rdr_takeClock (ox_zz ox_ms (n + 1)) 74 0 tl [ox_d, ox_d] [.inl (0)] (ox_up r3.2 4 k1 4 0 r3.1)) rfl ?_
          exact (L_Rdr_takeClock_74 0 (ox_up r3.2 4 k1 4 0 r3.1) n tl)
        · refine ox_R_to 2 (Y := ox_ev m_Rdr_takeClock (ox_zz ox_ms (n + 1)) 74 0 tl [ox_d, ox_d] [.inl (1)] (ox_up r3.2 4 k1 4 0 r3.1)) rfl ?_
          exact (L_Rdr_takeClock_74 1 (ox_up r3.2 4 k1 4 0 r3.1) n tl)
def J_Rdr_takeDigit_45  (σ : ox_H) : Option (Int × ox_H) := some ((-1), σ)
theorem L_Rdr_takeDigit_45  (σ : ox_H) (n tl : Nat) : ox_R (fun r => some ((fun r : Int × ox_H => ((.inl (some (.inl r.1)), r.2) : ox_O)) r)) (J_Rdr_takeDigit_45 σ) (ox_ev m_Rdr_takeDigit (ox_zz ox_ms (n + 0)) 45 0 tl [ox_d, ox_d] [] σ) := by
  unfold J_Rdr_takeDigit_45
  refine ox_R_to 2 (Y := some (.inl (some (.inl ((-1)))), σ)) rfl ?_
  exact ox_R_ret rfl
def F_Rdr_takeDigit  (a1 : Int) (σ : ox_H) : Option (Int × ox_H) := if (σ 3 0 5 0) < 0 then (J_Rdr_takeDigit_45 σ) else (if (σ 3 0 4 0) ≤ (σ 3 0 5 0) then (J_Rdr_takeDigit_45 σ) else (if 0 ≤ (σ 3 0 5 0) ∧ (σ 3 0 5 0).toNat < 24 then (if (σ 3 0 2 ((σ 3 0 5 0).toNat)) < a1 then (J_Rdr_takeDigit_45 σ) else (if 0 ≤ (σ 3 0 5 0) ∧ (σ 3 0 5 0).toNat < 24 then (if (σ 3 0 2 ((σ 3 0 5 0).toNat)) ≤ 57 then (if 0 ≤ (ox_w ((ox_w ((σ 3 0 5 0) + 1)) - 1)) ∧ (ox_w ((ox_w ((σ 3 0 5 0) + 1)) - 1)).toNat < 24 then (some (ox_w ((σ 3 0 2 ((ox_w ((ox_w ((σ 3 0 5 0) + 1)) - 1)).toNat)) - 48), (ox_up σ 3 0 5 0 (ox_w ((σ 3 0 5 0) + 1))))) else none) else (J_Rdr_takeDigit_45 σ)) else none)) else none))
theorem L_Rdr_takeDigit  (a1 : Int) (σ : ox_H) (n tl : Nat) : ox_R (fun r => some ((fun r : Int × ox_H => ((.inl (some (.inl r.1)), r.2) : ox_O)) r)) (F_Rdr_takeDigit a1 σ) (ox_zz ox_ms (n + 1) 198 tl [.inr (.inr (3, 0, 0)), .inl (a1)] σ) := by
  unfold F_Rdr_takeDigit
  refine ox_R_of (Y := ox_ev m_Rdr_takeDigit (ox_zz ox_ms (n + 0)) 0 0 tl [.inr (.inr (3, 0, 0)), .inl (a1)] [] σ) rfl ?_
  refine ox_R_to 3 (Y := if (σ 3 0 5 0) < 0 then ox_ev m_Rdr_takeDigit (ox_zz ox_ms (n + 0)) 45 0 tl [ox_d, ox_d] [] σ else ox_ev m_Rdr_takeDigit (ox_zz ox_ms (n + 0)) 7 0 tl [.inr (.inr (3, 0, 0)), .inl (a1)] [] σ) rfl ?_
  refine ox_R_if (fun _ => ?_) (fun _ => ?_)
  · exact (L_Rdr_takeDigit_45 σ n tl)
  · refine ox_R_to 5 (Y := if (σ 3 0 4 0) ≤ (σ 3 0 5 0) then ox_ev m_Rdr_takeDigit (ox_zz ox_ms (n + 0)) 45 0 tl [ox_d, ox_d] [] σ else ox_ev m_Rdr_takeDigit (ox_zz ox_ms (n + 0)) 18 0 tl [.inr (.inr (3, 0, 0)), .inl (a1)] [] σ) rfl ?_
    refine ox_R_if (fun _ => ?_) (fun _ => ?_)
    · exact (L_Rdr_takeDigit_45 σ n tl)
    · refine ox_R_to 5 (Y := if 0 ≤ (σ 3 0 5 0) ∧ (σ 3 0 5 0).toNat < 24 then ox_ev m_Rdr_takeDigit (ox_zz ox_ms (n + 0)) 27 0 tl [.inr (.inr (3, 0, 0)), .inl (a1)] [.inl (σ 3 0 2 ((σ 3 0 5 0).toNat))] σ else none) rfl ?_
      refine ox_R_if (fun _ => ?_) (fun _ => ox_R_none)
      refine ox_R_to 2 (Y := if (σ 3 0 2 ((σ 3 0 5 0).toNat)) < a1 then ox_ev m_Rdr_takeDigit (ox_zz ox_ms (n + 0)) 45 0 tl [ox_d, ox_d] [] σ else ox_ev m_Rdr_takeDigit (ox_zz ox_ms (n + 0)) 31 0 tl [.inr (.inr (3, 0, 0)), .inl (a1)] [] σ) rfl ?_
      refine ox_R_if (fun _ => ?_) (fun _ => ?_)
      · exact (L_Rdr_takeDigit_45 σ n tl)
      · refine ox_R_to 5 (Y := if 0 ≤ (σ 3 0 5 0) ∧ (σ 3 0 5 0).toNat < 24 then ox_ev m_Rdr_takeDigit (ox_zz ox_ms (n + 0)) 40 0 tl [.inr (.inr (3, 0, 0)), .inl (a1)] [.inl (σ 3 0 2 ((σ 3 0 5 0).toNat))] σ else none) rfl ?_
        refine ox_R_if (fun _ => ?_) (fun _ => ox_R_none)
        refine ox_R_to 2 (Y := if (σ 3 0 2 ((σ 3 0 5 0).toNat)) ≤ 57 then ox_ev m_Rdr_takeDigit (ox_zz ox_ms (n + 0)) 47 0 tl [.inr (.inr (3, 0, 0)), .inl (a1)] [] σ else ox_ev m_Rdr_takeDigit (ox_zz ox_ms (n + 0)) 45 0 tl [ox_d, ox_d] [] σ) rfl ?_
        refine ox_R_if (fun _ => ?_) (fun _ => ?_)
        · refine ox_R_to 13 (Y := if 0 ≤ (ox_w ((ox_w ((σ 3 0 5 0) + 1)) - 1)) ∧ (ox_w ((ox_w ((σ 3 0 5 0) + 1)) - 1)).toNat < 24 then ox_ev m_Rdr_takeDigit (ox_zz ox_ms (n + 0)) 68 0 tl [.inr (.inr (3, 0, 0)), .inl (a1)] [.inl (σ 3 0 2 ((ox_w ((ox_w ((σ 3 0 5 0) + 1)) - 1)).toNat))] (ox_up σ 3 0 5 0 (ox_w ((σ 3 0 5 0) + 1))) else none) rfl ?_
          refine ox_R_if (fun _ => ?_) (fun _ => ox_R_none)
          refine ox_R_to 3 (Y := some (.inl (some (.inl (ox_w ((σ 3 0 2 ((ox_w ((ox_w ((σ 3 0 5 0) + 1)) - 1)).toNat)) - 48)))), (ox_up σ 3 0 5 0 (ox_w ((σ 3 0 5 0) + 1))))) rfl ?_
          exact ox_R_ret rfl
        · exact (L_Rdr_takeDigit_45 σ n tl)
def J_Sum_addTerm_21  (σ : ox_H) : Option ox_H := some σ
theorem L_Sum_addTerm_21  (σ : ox_H) (n tl : Nat) : ox_R (fun r => some ((fun r : ox_H => ((.inl none, r) : ox_O)) r)) (J_Sum_addTerm_21 σ) (ox_ev m_Sum_addTerm (ox_zz ox_ms (n + 0)) 21 0 tl [ox_d, ox_d, ox_d, ox_d, ox_d, ox_d, ox_d] [] σ) := by
  unfold J_Sum_addTerm_21
  refine ox_R_to 1 (Y := some (.inl none, σ)) rfl ?_
  exact ox_R_ret rfl
def F_Sum_addTerm  (a1 : Int) (a2 : Int) (a3 : Int) (a4 : Int) (a5 : Int) (σ : ox_H) : Option (ox_H) := if a1 < 0 then (J_Sum_addTerm_21 σ) else (if 60 ≤ a1 then (J_Sum_addTerm_21 σ) else (if 0 ≤ a1 ∧ a1.toNat < 60 then (if (σ 6 0 1 a1.toNat) < 12 then (if 0 ≤ a1 ∧ a1.toNat < 60 then (if 0 ≤ (ox_w ((ox_w (a1 * 12)) + (σ 6 0 1 a1.toNat))) ∧ (ox_w ((ox_w (a1 * 12)) + (σ 6 0 1 a1.toNat))).toNat < 720 then (if 0 ≤ (ox_w ((ox_w (a1 * 12)) + (σ 6 0 1 a1.toNat))) ∧ (ox_w ((ox_w (a1 * 12)) + (σ 6 0 1 a1.toNat))).toNat < 720 then (if 0 ≤ (ox_w ((ox_w (a1 * 12)) + (σ 6 0 1 a1.toNat))) ∧ (ox_w ((ox_w (a1 * 12)) + (σ 6 0 1 a1.toNat))).toNat < 720 then (if 0 ≤ (ox_w ((ox_w (a1 * 12)) + (σ 6 0 1 a1.toNat))) ∧ (ox_w ((ox_w (a1 * 12)) + (σ 6 0 1 a1.toNat))).toNat < 720 then (if 0 ≤ a1 ∧ a1.toNat < 60 then (if 0 ≤ a1 ∧ a1.toNat < 60 then (some (ox_up (ox_up (ox_up (ox_up (ox_up σ 6 0 3 ((ox_w ((ox_w (a1 * 12)) + (σ 6 0 1 a1.toNat))).toNat) (a2 % 65536)) 6 0 4 ((ox_w ((ox_w (a1 * 12)) + (σ 6 0 1 a1.toNat))).toNat) a3) 6 0 5 ((ox_w ((ox_w (a1 * 12)) + (σ 6 0 1 a1.toNat))).toNat) a4) 6 0 6 ((ox_w ((ox_w (a1 * 12)) + (σ 6 0 1 a1.toNat))).toNat) a5) 6 0 1 a1.toNat (ox_w ((σ 6 0 1 a1.toNat) + 1)))) else none) else none) else none) else none) else none) else none) else none) else (J_Sum_addTerm_21 σ)) else none))
theorem L_Sum_addTerm  (a1 : Int) (a2 : Int) (a3 : Int) (a4 : Int) (a5 : Int) (σ : ox_H) (n tl : Nat) : ox_R (fun r => some ((fun r : ox_H => ((.inl none, r) : ox_O)) r)) (F_Sum_addTerm a1 a2 a3 a4 a5 σ) (ox_zz ox_ms (n + 1) 233 tl [.inr (.inr (6, 0, 0)), .inl (a1), .inl (a2), .inl (a3), .inl (a4), .inl (a5)] σ) := by
  unfold F_Sum_addTerm
  refine ox_R_of (Y := ox_ev m_Sum_addTerm (ox_zz ox_ms (n + 0)) 0 0 tl [.inr (.inr (6, 0, 0)), .inl (a1), .inl (a2), .inl (a3), .inl (a4), .inl (a5), ox_d] [] σ) rfl ?_
  refine ox_R_to 2 (Y := if a1 < 0 then ox_ev m_Sum_addTerm (ox_zz ox_ms (n + 0)) 21 0 tl [ox_d, ox_d, ox_d, ox_d, ox_d, ox_d, ox_d] [] σ else ox_ev m_Sum_addTerm (ox_zz ox_ms (n + 0)) 4 0 tl [.inr (.inr (6, 0, 0)), .inl (a1), .inl (a2), .inl (a3), .inl (a4), .inl (a5), ox_d] [] σ) rfl ?_
  refine ox_R_if (fun _ => ?_) (fun _ => ?_)
  · exact (L_Sum_addTerm_21 σ n tl)
  · refine ox_R_to 3 (Y := if 60 ≤ a1 then ox_ev m_Sum_addTerm (ox_zz ox_ms (n + 0)) 21 0 tl [ox_d, ox_d, ox_d, ox_d, ox_d, ox_d, ox_d] [] σ else ox_ev m_Sum_addTerm (ox_zz ox_ms (n + 0)) 10 0 tl [.inr (.inr (6, 0, 0)), .inl (a1), .inl (a2), .inl (a3), .inl (a4), .inl (a5), ox_d] [] σ) rfl ?_
    refine ox_R_if (fun _ => ?_) (fun _ => ?_)
    · exact (L_Sum_addTerm_21 σ n tl)
    · refine ox_R_to 4 (Y := if 0 ≤ a1 ∧ a1.toNat < 60 then ox_ev m_Sum_addTerm (ox_zz ox_ms (n + 0)) 16 0 tl [.inr (.inr (6, 0, 0)), .inl (a1), .inl (a2), .inl (a3), .inl (a4), .inl (a5), ox_d] [.inl (σ 6 0 1 a1.toNat)] σ else none) rfl ?_
      refine ox_R_if (fun _ => ?_) (fun _ => ox_R_none)
      refine ox_R_to 2 (Y := if (σ 6 0 1 a1.toNat) < 12 then ox_ev m_Sum_addTerm (ox_zz ox_ms (n + 0)) 22 0 tl [.inr (.inr (6, 0, 0)), .inl (a1), .inl (a2), .inl (a3), .inl (a4), .inl (a5), ox_d] [] σ else ox_ev m_Sum_addTerm (ox_zz ox_ms (n + 0)) 21 0 tl [ox_d, ox_d, ox_d, ox_d, ox_d, ox_d, ox_d] [] σ) rfl ?_
      refine ox_R_if (fun _ => ?_) (fun _ => ?_)
      · refine ox_R_to 7 (Y := if 0 ≤ a1 ∧ a1.toNat < 60 then ox_ev m_Sum_addTerm (ox_zz ox_ms (n + 0)) 32 0 tl [.inr (.inr (6, 0, 0)), .inl (a1), .inl (a2), .inl (a3), .inl (a4), .inl (a5), ox_d] [.inl (σ 6 0 1 a1.toNat), .inl (ox_w (a1 * 12))] σ else none) rfl ?_
        refine ox_R_if (fun _ => ?_) (fun _ => ox_R_none)
        refine ox_R_to 7 (Y := if 0 ≤ (ox_w ((ox_w (a1 * 12)) + (σ 6 0 1 a1.toNat))) ∧ (ox_w ((ox_w (a1 * 12)) + (σ 6 0 1 a1.toNat))).toNat < 720 then ox_ev m_Sum_addTerm (ox_zz ox_ms (n + 0)) 43 0 tl [.inr (.inr (6, 0, 0)), .inl (a1), .inl (a2), .inl (a3), .inl (a4), .inl (a5), .inl (ox_w ((ox_w (a1 * 12)) + (σ 6 0 1 a1.toNat)))] [] (ox_up σ 6 0 3 ((ox_w ((ox_w (a1 * 12)) + (σ 6 0 1 a1.toNat))).toNat) (a2 % 65536)) else none) rfl ?_
        refine ox_R_if (fun _ => ?_) (fun _ => ox_R_none)
        refine ox_R_to 5 (Y := if 0 ≤ (ox_w ((ox_w (a1 * 12)) + (σ 6 0 1 a1.toNat))) ∧ (ox_w ((ox_w (a1 * 12)) + (σ 6 0 1 a1.toNat))).toNat < 720 then ox_ev m_Sum_addTerm (ox_zz ox_ms (n + 0)) 51 0 tl [.inr (.inr (6, 0, 0)), .inl (a1), .inl (a2), .inl (a3), .inl (a4), .inl (a5), .inl (ox_w ((ox_w (a1 * 12)) + (σ 6 0 1 a1.toNat)))] [] (ox_up (ox_up σ 6 0 3 ((ox_w ((ox_w (a1 * 12)) + (σ 6 0 1 a1.toNat))).toNat) (a2 % 65536)) 6 0 4 ((ox_w ((ox_w (a1 * 12)) + (σ 6 0 1 a1.toNat))).toNat) a3) else none) rfl ?_
        refine ox_R_if (fun _ => ?_) (fun _ => ox_R_none)
        refine ox_R_to 5 (Y := if 0 ≤ (ox_w ((ox_w (a1 * 12)) + (σ 6 0 1 a1.toNat))) ∧ (ox_w ((ox_w (a1 * 12)) + (σ 6 0 1 a1.toNat))).toNat < 720 then ox_ev m_Sum_addTerm (ox_zz ox_ms (n + 0)) 60 0 tl [.inr (.inr (6, 0, 0)), .inl (a1), .inl (a2), .inl (a3), .inl (a4), .inl (a5), .inl (ox_w ((ox_w (a1 * 12)) + (σ 6 0 1 a1.toNat)))] [] (ox_up (ox_up (ox_up σ 6 0 3 ((ox_w ((ox_w (a1 * 12)) + (σ 6 0 1 a1.toNat))).toNat) (a2 % 65536)) 6 0 4 ((ox_w ((ox_w (a1 * 12)) + (σ 6 0 1 a1.toNat))).toNat) a3) 6 0 5 ((ox_w ((ox_w (a1 * 12)) + (σ 6 0 1 a1.toNat))).toNat) a4) else none) rfl ?_
        refine ox_R_if (fun _ => ?_) (fun _ => ox_R_none)
        refine ox_R_to 5 (Y := if 0 ≤ (ox_w ((ox_w (a1 * 12)) + (σ 6 0 1 a1.toNat))) ∧ (ox_w ((ox_w (a1 * 12)) + (σ 6 0 1 a1.toNat))).toNat < 720 then ox_ev m_Sum_addTerm (ox_zz ox_ms (n + 0)) 69 0 tl [.inr (.inr (6, 0, 0)), .inl (a1), .inl (a2), .inl (a3), .inl (a4), .inl (a5), .inl (ox_w ((ox_w (a1 * 12)) + (σ 6 0 1 a1.toNat)))] [] (ox_up (ox_up (ox_up (ox_up σ 6 0 3 ((ox_w ((ox_w (a1 * 12)) + (σ 6 0 1 a1.toNat))).toNat) (a2 % 65536)) 6 0 4 ((ox_w ((ox_w (a1 * 12)) + (σ 6 0 1 a1.toNat))).toNat) a3) 6 0 5 ((ox_w ((ox_w (a1 * 12)) + (σ 6 0 1 a1.toNat))).toNat) a4) 6 0 6 ((ox_w ((ox_w (a1 * 12)) + (σ 6 0 1 a1.toNat))).toNat) a5) else none) rfl ?_
        refine ox_R_if (fun _ => ?_) (fun _ => ox_R_none)
        refine ox_R_to 5 (Y := if 0 ≤ a1 ∧ a1.toNat < 60 then ox_ev m_Sum_addTerm (ox_zz ox_ms (n + 0)) 76 0 tl [.inr (.inr (6, 0, 0)), .inl (a1), .inl (a2), .inl (a3), .inl (a4), .inl (a5), .inl (ox_w ((ox_w (a1 * 12)) + (σ 6 0 1 a1.toNat)))] [.inl (σ 6 0 1 a1.toNat), .inl (a1), .inr (.inr (106, 0, 1))] (ox_up (ox_up (ox_up (ox_up σ 6 0 3 ((ox_w ((ox_w (a1 * 12)) + (σ 6 0 1 a1.toNat))).toNat) (a2 % 65536)) 6 0 4 ((ox_w ((ox_w (a1 * 12)) + (σ 6 0 1 a1.toNat))).toNat) a3) 6 0 5 ((ox_w ((ox_w (a1 * 12)) + (σ 6 0 1 a1.toNat))).toNat) a4) 6 0 6 ((ox_w ((ox_w (a1 * 12)) + (σ 6 0 1 a1.toNat))).toNat) a5) else none) rfl ?_
        refine ox_R_if (fun _ => ?_) (fun _ => ox_R_none)
        refine ox_R_to 3 (Y := if 0 ≤ a1 ∧ a1.toNat < 60 then ox_ev m_Sum_addTerm (ox_zz ox_ms (n + 0)) 79 0 tl [.inr (.inr (6, 0, 0)), .inl (a1), .inl (a2), .inl (a3), .inl (a4), .inl (a5), .inl (ox_w ((ox_w (a1 * 12)) + (σ 6 0 1 a1.toNat)))] [] (ox_up (ox_up (ox_up (ox_up (ox_up σ 6 0 3 ((ox_w ((ox_w (a1 * 12)) + (σ 6 0 1 a1.toNat))).toNat) (a2 % 65536)) 6 0 4 ((ox_w ((ox_w (a1 * 12)) + (σ 6 0 1 a1.toNat))).toNat) a3) 6 0 5 ((ox_w ((ox_w (a1 * 12)) + (σ 6 0 1 a1.toNat))).toNat) a4) 6 0 6 ((ox_w ((ox_w (a1 * 12)) + (σ 6 0 1 a1.toNat))).toNat) a5) 6 0 1 a1.toNat (ox_w ((σ 6 0 1 a1.toNat) + 1))) else none) rfl ?_
        refine ox_R_if (fun _ => ?_) (fun _ => ox_R_none)
        refine ox_R_to 1 (Y := some (.inl none, (ox_up (ox_up (ox_up (ox_up (ox_up σ 6 0 3 ((ox_w ((ox_w (a1 * 12)) + (σ 6 0 1 a1.toNat))).toNat) (a2 % 65536)) 6 0 4 ((ox_w ((ox_w (a1 * 12)) + (σ 6 0 1 a1.toNat))).toNat) a3) 6 0 5 ((ox_w ((ox_w (a1 * 12)) + (σ 6 0 1 a1.toNat))).toNat) a4) 6 0 6 ((ox_w ((ox_w (a1 * 12)) + (σ 6 0 1 a1.toNat))).toNat) a5) 6 0 1 a1.toNat (ox_w ((σ 6 0 1 a1.toNat) + 1))))) rfl ?_
        exact ox_R_ret rfl
      · exact (L_Sum_addTerm_21 σ n tl)
def J_Rdr_takeTerm_153  (s0 : Int) (σ : ox_H) : Option (Int × ox_H) := some (s0 % 2, σ)
theorem L_Rdr_takeTerm_153  (s0 : Int) (σ : ox_H) (n tl : Nat) : ox_R (fun r => some ((fun r : Int × ox_H => ((.inl (some (.inl r.1)), r.2) : ox_O)) r)) (J_Rdr_takeTerm_153 s0 σ) (ox_ev m_Rdr_takeTerm (ox_zz ox_ms (n + 1)) 153 0 tl [ox_d, ox_d, ox_d, ox_d, ox_d] [.inl (s0)] σ) := by
  unfold J_Rdr_takeTerm_153
  refine ox_R_to 1 (Y := some (.inl (some (.inl (s0 % 2))), σ)) rfl ?_
  exact ox_R_ret rfl
def J_Rdr_takeTerm_152  (σ : ox_H) : Option (Int × ox_H) := (J_Rdr_takeTerm_153 0 σ)
theorem L_Rdr_takeTerm_152  (σ : ox_H) (n tl : Nat) : ox_R (fun r => some ((fun r : Int × ox_H => ((.inl (some (.inl r.1)), r.2) : ox_O)) r)) (J_Rdr_takeTerm_152 σ) (ox_ev m_Rdr_takeTerm (ox_zz ox_ms (n + 1)) 152 0 tl [ox_d, ox_d, ox_d, ox_d, ox_d] [] σ) := by
  unfold J_Rdr_takeTerm_152
  refine ox_R_to 1 (Y := ox_ev m_Rdr_takeTerm (ox_zz ox_ms (n + 1)) 153 0 tl [ox_d, ox_d, ox_d, ox_d, ox_d] [.inl (0)] σ) rfl ?_
  exact (L_Rdr_takeTerm_153 0 σ n tl)
def J_Rdr_takeTerm_121  (v1 : Int) (v2 : Int) (v3 : Int) (v4 : Int) (σ : ox_H) : Option (Int × ox_H) := (F_Sum_addTerm (σ 3 0 3 0) v1 v2 v3 v4 σ).bind fun r1 => (if v3 = (-1) then (J_Rdr_takeTerm_152 r1) else (if v4 = (-1) then (J_Rdr_takeTerm_152 r1) else (J_Rdr_takeTerm_153 1 r1)))
theorem L_Rdr_takeTerm_121  (v1 : Int) (v2 : Int) (v3 : Int) (v4 : Int) (σ : ox_H) (n tl : Nat) : ox_R (fun r => some ((fun r : Int × ox_H => ((.inl (some (.inl r.1)), r.2) : ox_O)) r)) (J_Rdr_takeTerm_121 v1 v2 v3 v4 σ) (ox_ev m_Rdr_takeTerm (ox_zz ox_ms (n + 1)) 121 0 tl [.inr (.inr (3, 0, 0)), .inl (v1), .inl (v2), .inl (v3), .inl (v4)] [] σ) := by
  unfold J_Rdr_takeTerm_121
  refine ox_R_to 9 (Y := ox_back m_Rdr_takeTerm 134 2 [] ((ox_zz ox_ms (n + 1)) 233 tl [.inr (.inr (6, 0, 0)), .inl (σ 3 0 3 0), .inl (v1), .inl (v2), .inl (v3), .inl (v4)] σ) (fun pc9 x9 st9 σ9 => ox_ev m_Rdr_takeTerm (ox_zz ox_ms (n + 1)) pc9 0 tl (ox_kl (m_Rdr_takeTerm.2.2.1 pc9) (ox_xl x9 [.inr (.inr (3, 0, 0)), .inl (v1), .inl (v2), .inl (v3), .inl (v4)])) st9 σ9)) rfl ?_
  refine ox_R_call (fc := (fun r : ox_H => ((.inl none, r) : ox_O))) (L_Sum_addTerm (σ 3 0 3 0) v1 v2 v3 v4 σ (n + 0) tl) (fun r1 => ?_)
  refine ox_R_of (Y := ox_ev m_Rdr_takeTerm (ox_zz ox_ms (n + 1)) 137 0 tl [.inr (.inr (3, 0, 0)), .inl (v1), .inl (v2), .inl (v3), .inl (v4)] [] r1) rfl ?_
  refine ox_R_to 3 (Y := if v3 = (-1) then ox_ev m_Rdr_takeTerm (ox_zz ox_ms (n + 1)) 152 0 tl [ox_d, ox_d, ox_d, ox_d, ox_d] [] r1 else ox_ev m_Rdr_takeTerm (ox_zz ox_ms (n + 1)) 142 0 tl [.inr (.inr (3, 0, 0)), .inl (v1), .inl (v2), .inl (v3), .inl (v4)] [] r1) rfl ?_
  refine ox_R_if (fun _ => ?_) (fun _ => ?_)
  · exact (L_Rdr_takeTerm_152 r1 n tl)
  · refine ox_R_to 3 (Y := if v4 = (-1) then ox_ev m_Rdr_takeTerm (ox_zz ox_ms (n + 1)) 152 0 tl [ox_d, ox_d, ox_d, ox_d, ox_d] [] r1 else ox_ev m_Rdr_takeTerm (ox_zz ox_ms (n + 1)) 148 0 tl [.inr (.inr (3, 0, 0)), .inl (v1), .inl (v2), .inl (v3), .inl (v4)] [] r1) rfl ?_
    refine ox_R_if (fun _ => ?_) (fun _ => ?_)
    · exact (L_Rdr_takeTerm_152 r1 n tl)
    · refine ox_R_to 2 (Y := ox_ev m_Rdr_takeTerm (ox_zz ox_ms (n + 1)) 153 0 tl [ox_d, ox_d, ox_d, ox_d, ox_d] [.inl (1)] r1) rfl ?_
      exact (L_Rdr_takeTerm_153 1 r1 n tl)
def J_Rdr_takeTerm_60  (v1 : Int) (v2 : Int) (v3 : Int) (s0 : Int) (σ : ox_H) : Option (Int × ox_H) := (J_Rdr_takeTerm_121 v1 v2 v3 s0 σ)
theorem L_Rdr_takeTerm_60  (v1 : Int) (v2 : Int) (v3 : Int) (s0 : Int) (σ : ox_H) (n tl : Nat) : ox_R (fun r => some ((fun r : Int × ox_H => ((.inl (some (.inl r.1)), r.2) : ox_O)) r)) (J_Rdr_takeTerm_60 v1 v2 v3 s0 σ) (ox_ev m_Rdr_takeTerm (ox_zz ox_ms (n + 1)) 60 0 tl [.inr (.inr (3, 0, 0)), .inl (v1), .inl (v2), .inl (v3), ox_d] [.inl (s0)] σ) := by
  unfold J_Rdr_takeTerm_60
  refine ox_R_to 2 (Y := ox_ev m_Rdr_takeTerm (ox_zz ox_ms (n + 1)) 121 0 tl [.inr (.inr (3, 0, 0)), .inl (v1), .inl (v2), .inl (v3), .inl (s0)] [] σ) rfl ?_
  exact (L_Rdr_takeTerm_121 v1 v2 v3 s0 σ n tl)
def F_Rdr_takeTerm  (a1 : Int) (σ : ox_H) : Option (Int × ox_H) := (F_Rdr_take 83 σ).bind fun r2 => (if r2.1 = 0 then ((F_Rdr_take 40 r2.2).bind fun r3 => (if r3.1 = 0 then ((F_Rdr_take 58 r3.2).bind fun r4 => (if r4.1 = 0 then ((F_Rdr_peek r4.2).bind fun r5 => (if r5 < 97 then ((F_Rdr_takeNumber r4.2).bind fun r6 => (J_Rdr_takeTerm_121 a1 0 0 r6.1 r6.2)) else ((F_Rdr_takeLetter 101 r4.2).bind fun r7 => ((F_Rdr_takeDigit 49 r7.2).bind fun r8 => (J_Rdr_takeTerm_121 a1 1 r7.1 r8.1 r8.2))))) else ((F_Rdr_takeLetter 122 r4.2).bind fun r9 => (J_Rdr_takeTerm_121 a1 4 r9.1 0 r9.2)))) else ((F_Rdr_takeLetter 122 r3.2).bind fun r10 => ((F_Rdr_take 41 r10.2).bind fun r11 => (if r11.1 = 0 then (J_Rdr_takeTerm_60 a1 3 r10.1 (-1) r11.2) else (J_Rdr_takeTerm_60 a1 3 r10.1 0 r11.2)))))) else ((F_Rdr_takeLetter 101 r2.2).bind fun r12 => (J_Rdr_takeTerm_121 a1 2 r12.1 0 r12.2)))
theorem L_Rdr_takeTerm  (a1 : Int) (σ : ox_H) (n tl : Nat) : ox_R (fun r => some ((fun r : Int × ox_H => ((.inl (some (.inl r.1)), r.2) : ox_O)) r)) (F_Rdr_takeTerm a1 σ) (ox_zz ox_ms (n + 2) 213 tl [.inr (.inr (3, 0, 0)), .inl (a1)] σ) := by
  unfold F_Rdr_takeTerm
  refine ox_R_of (Y := ox_ev m_Rdr_takeTerm (ox_zz ox_ms (n + 1)) 0 0 tl [.inr (.inr (3, 0, 0)), .inl (a1), ox_d, ox_d, ox_d] [] σ) rfl ?_
  refine ox_R_to 9 (Y := ox_back m_Rdr_takeTerm 10 1 [] ((ox_zz ox_ms (n + 1)) 196 tl [.inr (.inr (3, 0, 0)), .inl (83)] σ) (fun pc9 x9 st9 σ9 => ox_ev m_Rdr_takeTerm (ox_zz ox_ms (n + 1)) pc9 0 tl (ox_kl (m_Rdr_takeTerm.2.2.1 pc9) (ox_xl x9 [.inr (.inr (3, 0, 0)), .inl (a1), .inl (0), .inl (0), .inl (0)])) st9 σ9)) rfl ?_
  refine ox_R_call (fc := (fun r : Int × ox_H => ((.inl (some (.inl r.1)), r.2) : ox_O))) (L_Rdr_take 83 σ (n + 0) tl) (fun r2 => ?_)
  refine ox_R_of (Y := ox_ev m_Rdr_takeTerm (ox_zz ox_ms (n + 1)) 13 0 tl [.inr (.inr (3, 0, 0)), .inl (a1), .inl (0), .inl (0), .inl (0)] [.inl (r2.1)] r2.2) rfl ?_
  refine ox_R_to 1 (Y := if r2.1 = 0 then ox_ev m_Rdr_takeTerm (ox_zz ox_ms (n + 1)) 28 0 tl [.inr (.inr (3, 0, 0)), .inl (a1), .inl (0), .inl (0), .inl (0)] [] r2.2 else ox_ev m_Rdr_takeTerm (ox_zz ox_ms (n + 1)) 16 0 tl [.inr (.inr (3, 0, 0)), .inl (a1), .inl (0), .inl (0), .inl (0)] [] r2.2) rfl ?_
  refine ox_R_if (fun _ => ?_) (fun _ => ?_)
  · refine ox_R_to 3 (Y := ox_back m_Rdr_takeTerm 31 1 [] ((ox_zz ox_ms (n + 1)) 196 tl [.inr (.inr (3, 0, 0)), .inl (40)] r2.2) (fun pc9 x9 st9 σ9 => ox_ev m_Rdr_takeTerm (ox_zz ox_ms (n + 1)) pc9 0 tl (ox_kl (m_Rdr_takeTerm.2.2.1 pc9) (ox_xl x9 [.inr (.inr (3, 0, 0)), .inl (a1), .inl (0), .inl (0), .inl (0)])) st9 σ9)) rfl ?_
    refine ox_R_call (fc := (fun r : Int × ox_H => ((.inl (some (.inl r.1)), r.2) : ox_O))) (L_Rdr_take 40 r2.2 (n + 0) tl) (fun r3 => ?_)
    refine ox_R_of (Y := ox_ev m_Rdr_takeTerm (ox_zz ox_ms (n + 1)) 34 0 tl [.inr (.inr (3, 0, 0)), .inl (a1), .inl (0), .inl (0), .inl (0)] [.inl (r3.1)] r3.2) rfl ?_
    refine ox_R_to 1 (Y := if r3.1 = 0 then ox_ev m_Rdr_takeTerm (ox_zz ox_ms (n + 1)) 65 0 tl [.inr (.inr (3, 0, 0)), .inl (a1), .inl (0), .inl (0), .inl (0)] [] r3.2 else ox_ev m_Rdr_takeTerm (ox_zz ox_ms (n + 1)) 37 0 tl [.inr (.inr (3, 0, 0)), .inl (a1), .inl (0), .inl (0), .inl (0)] [] r3.2) rfl ?_
    refine ox_R_if (fun _ => ?_) (fun _ => ?_)
    · refine ox_R_to 3 (Y := ox_back m_Rdr_takeTerm 68 1 [] ((ox_zz ox_ms (n + 1)) 196 tl [.inr (.inr (3, 0, 0)), .inl (58)] r3.2) (fun pc9 x9 st9 σ9 => ox_ev m_Rdr_takeTerm (ox_zz ox_ms (n + 1)) pc9 0 tl (ox_kl (m_Rdr_takeTerm.2.2.1 pc9) (ox_xl x9 [.inr (.inr (3, 0, 0)), .inl (a1), .inl (0), .inl (0), .inl (0)])) st9 σ9)) rfl ?_
      refine ox_R_call (fc := (fun r : Int × ox_H => ((.inl (some (.inl r.1)), r.2) : ox_O))) (L_Rdr_take 58 r3.2 (n + 0) tl) (fun r4 => ?_)
      refine ox_R_of (Y := ox_ev m_Rdr_takeTerm (ox_zz ox_ms (n + 1)) 71 0 tl [.inr (.inr (3, 0, 0)), .inl (a1), .inl (0), .inl (0), .inl (0)] [.inl (r4.1)] r4.2) rfl ?_
      refine ox_R_to 1 (Y := if r4.1 = 0 then ox_ev m_Rdr_takeTerm (ox_zz ox_ms (n + 1)) 86 0 tl [.inr (.inr (3, 0, 0)), .inl (a1), .inl (0), .inl (0), .inl (0)] [] r4.2 else ox_ev m_Rdr_takeTerm (ox_zz ox_ms (n + 1)) 74 0 tl [.inr (.inr (3, 0, 0)), .inl (a1), .inl (0), .inl (0), .inl (0)] [] r4.2) rfl ?_
      refine ox_R_if (fun _ => ?_) (fun _ => ?_)
      · refine ox_R_to 2 (Y := ox_back m_Rdr_takeTerm 87 1 [] ((ox_zz ox_ms (n + 1)) 195 tl [.inr (.inr (3, 0, 0))] r4.2) (fun pc9 x9 st9 σ9 => ox_ev m_Rdr_takeTerm (ox_zz ox_ms (n + 1)) pc9 0 tl (ox_kl (m_Rdr_takeTerm.2.2.1 pc9) (ox_xl x9 [.inr (.inr (3, 0, 0)), .inl (a1), .inl (0), .inl (0), .inl (0)])) st9 σ9)) rfl ?_
        refine ox_R_call (fc := (fun r : Int => ((.inl (some (.inl r)), r4.2) : ox_O))) (L_Rdr_peek r4.2 (n + 0) tl) (fun r5 => ?_)
        refine ox_R_of (Y := ox_ev m_Rdr_takeTerm (ox_zz ox_ms (n + 1)) 90 0 tl [.inr (.inr (3, 0, 0)), .inl (a1), .inl (0), .inl (0), .inl (0)] [.inl (r5)] r4.2) rfl ?_
        refine ox_R_to 2 (Y := if r5 < 97 then ox_ev m_Rdr_takeTerm (ox_zz ox_ms (n + 1)) 115 0 tl [.inr (.inr (3, 0, 0)), .inl (a1), .inl (0), .inl (0), .inl (0)] [] r4.2 else ox_ev m_Rdr_takeTerm (ox_zz ox_ms (n + 1)) 95 0 tl [.inr (.inr (3, 0, 0)), .inl (a1), .inl (0), .inl (0), .inl (0)] [] r4.2) rfl ?_
        refine ox_R_if (fun _ => ?_) (fun _ => ?_)
        · refine ox_R_to 2 (Y := ox_back m_Rdr_takeTerm 116 1 [] ((ox_zz ox_ms (n + 1)) 199 tl [.inr (.inr (3, 0, 0))] r4.2) (fun pc9 x9 st9 σ9 => ox_ev m_Rdr_takeTerm (ox_zz ox_ms (n + 1)) pc9 0 tl (ox_kl (m_Rdr_takeTerm.2.2.1 pc9) (ox_xl x9 [.inr (.inr (3, 0, 0)), .inl (a1), .inl (0), .inl (0), .inl (0)])) st9 σ9)) rfl ?_
          refine ox_R_call (fc := (fun r : Int × ox_H => ((.inl (some (.inl r.1)), r.2) : ox_O))) (L_Rdr_takeNumber r4.2 (n + 0) tl) (fun r6 => ?_)
          refine ox_R_of (Y := ox_ev m_Rdr_takeTerm (ox_zz ox_ms (n + 1)) 119 0 tl [.inr (.inr (3, 0, 0)), .inl (a1), .inl (0), .inl (0), .inl (0)] [.inl (r6.1)] r6.2) rfl ?_
          refine ox_R_to 1 (Y := ox_ev m_Rdr_takeTerm (ox_zz ox_ms (n + 1)) 121 0 tl [.inr (.inr (3, 0, 0)), .inl (a1), .inl (0), .inl (0), .inl (r6.1)] [] r6.2) rfl ?_
          exact (L_Rdr_takeTerm_121 a1 0 0 r6.1 r6.2 n tl)
        · refine ox_R_to 5 (Y := ox_back m_Rdr_takeTerm 100 1 [] ((ox_zz ox_ms (n + 1)) 197 tl [.inr (.inr (3, 0, 0)), .inl (101)] r4.2) (fun pc9 x9 st9 σ9 => ox_ev m_Rdr_takeTerm (ox_zz ox_ms (n + 1)) pc9 0 tl (ox_kl (m_Rdr_takeTerm.2.2.1 pc9) (ox_xl x9 [.inr (.inr (3, 0, 0)), .inl (a1), .inl (1), .inl (0), .inl (0)])) st9 σ9)) rfl ?_
          refine ox_R_call (fc := (fun r : Int × ox_H => ((.inl (some (.inl r.1)), r.2) : ox_O))) (L_Rdr_takeLetter 101 r4.2 (n + 0) tl) (fun r7 => ?_)
          refine ox_R_of (Y := ox_ev m_Rdr_takeTerm (ox_zz ox_ms (n + 1)) 103 0 tl [.inr (.inr (3, 0, 0)), .inl (a1), .inl (1), .inl (0), .inl (0)] [.inl (r7.1)] r7.2) rfl ?_
          refine ox_R_to 4 (Y := ox_back m_Rdr_takeTerm 107 1 [] ((ox_zz ox_ms (n + 1)) 198 tl [.inr (.inr (3, 0, 0)), .inl (49)] r7.2) (fun pc9 x9 st9 σ9 => ox_ev m_Rdr_takeTerm (ox_zz ox_ms (n + 1)) pc9 0 tl (ox_kl (m_Rdr_takeTerm.2.2.1 pc9) (ox_xl x9 [.inr (.inr (3, 0, 0)), .inl (a1), .inl (1), .inl (r7.1), .inl (0)])) st9 σ9)) rfl ?_
          refine ox_R_call (fc := (fun r : Int × ox_H => ((.inl (some (.inl r.1)), r.2) : ox_O))) (L_Rdr_takeDigit 49 r7.2 (n + 0) tl) (fun r8 => ?_)
          refine ox_R_of (Y := ox_ev m_Rdr_takeTerm (ox_zz ox_ms (n + 1)) 110 0 tl [.inr (.inr (3, 0, 0)), .inl (a1), .inl (1), .inl (r7.1), .inl (0)] [.inl (r8.1)] r8.2) rfl ?_
          refine ox_R_to 2 (Y := ox_ev m_Rdr_takeTerm (ox_zz ox_ms (n + 1)) 121 0 tl [.inr (.inr (3, 0, 0)), .inl (a1), .inl (1), .inl (r7.1), .inl (r8.1)] [] r8.2) rfl ?_
          exact (L_Rdr_takeTerm_121 a1 1 r7.1 r8.1 r8.2 n tl)
      · refine ox_R_to 5 (Y := ox_back m_Rdr_takeTerm 79 1 [] ((ox_zz ox_ms (n + 1)) 197 tl [.inr (.inr (3, 0, 0)), .inl (122)] r4.2) (fun pc9 x9 st9 σ9 => ox_ev m_Rdr_takeTerm (ox_zz ox_ms (n + 1)) pc9 0 tl (ox_kl (m_Rdr_takeTerm.2.2.1 pc9) (ox_xl x9 [.inr (.inr (3, 0, 0)), .inl (a1), .inl (4), .inl (0), .inl (0)])) st9 σ9)) rfl ?_
        refine ox_R_call (fc := (fun r : Int × ox_H => ((.inl (some (.inl r.1)), r.2) : ox_O))) (L_Rdr_takeLetter 122 r4.2 (n + 0) tl) (fun r9 => ?_)
        refine ox_R_of (Y := ox_ev m_Rdr_takeTerm (ox_zz ox_ms (n + 1)) 82 0 tl [.inr (.inr (3, 0, 0)), .inl (a1), .inl (4), .inl (0), .inl (0)] [.inl (r9.1)] r9.2) rfl ?_
        refine ox_R_to 2 (Y := ox_ev m_Rdr_takeTerm (ox_zz ox_ms (n + 1)) 121 0 tl [.inr (.inr (3, 0, 0)), .inl (a1), .inl (4), .inl (r9.1), .inl (0)] [] r9.2) rfl ?_
        exact (L_Rdr_takeTerm_121 a1 4 r9.1 0 r9.2 n tl)
    · refine ox_R_to 5 (Y := ox_back m_Rdr_takeTerm 42 1 [] ((ox_zz ox_ms (n + 1)) 197 tl [.inr (.inr (3, 0, 0)), .inl (122)] r3.2) (fun pc9 x9 st9 σ9 => ox_ev m_Rdr_takeTerm (ox_zz ox_ms (n + 1)) pc9 0 tl (ox_kl (m_Rdr_takeTerm.2.2.1 pc9) (ox_xl x9 [.inr (.inr (3, 0, 0)), .inl (a1), .inl (3), .inl (0), .inl (0)])) st9 σ9)) rfl ?_
      refine ox_R_call (fc := (fun r : Int × ox_H => ((.inl (some (.inl r.1)), r.2) : ox_O))) (L_Rdr_takeLetter 122 r3.2 (n + 0) tl) (fun r10 => ?_)
      refine ox_R_of (Y := ox_ev m_Rdr_takeTerm (ox_zz ox_ms (n + 1)) 45 0 tl [.inr (.inr (3, 0, 0)), .inl (a1), .inl (3), .inl (0), .inl (0)] [.inl (r10.1)] r10.2) rfl ?_
      refine ox_R_to 4 (Y := ox_back m_Rdr_takeTerm 49 1 [] ((ox_zz ox_ms (n + 1)) 196 tl [.inr (.inr (3, 0, 0)), .inl (41)] r10.2) (fun pc9 x9 st9 σ9 => ox_ev m_Rdr_takeTerm (ox_zz ox_ms (n + 1)) pc9 0 tl (ox_kl (m_Rdr_takeTerm.2.2.1 pc9) (ox_xl x9 [.inr (.inr (3, 0, 0)), .inl (a1), .inl (3), .inl (r10.1), .inl (0)])) st9 σ9)) rfl ?_
      refine ox_R_call (fc := (fun r : Int × ox_H => ((.inl (some (.inl r.1)), r.2) : ox_O))) (L_Rdr_take 41 r10.2 (n + 0) tl) (fun r11 => ?_)
      refine ox_R_of (Y := ox_ev m_Rdr_takeTerm (ox_zz ox_ms (n + 1)) 52 0 tl [.inr (.inr (3, 0, 0)), .inl (a1), .inl (3), .inl (r10.1), .inl (0)] [.inl (r11.1)] r11.2) rfl ?_
      refine ox_R_to 1 (Y := if r11.1 = 0 then ox_ev m_Rdr_takeTerm (ox_zz ox_ms (n + 1)) 59 0 tl [.inr (.inr (3, 0, 0)), .inl (a1), .inl (3), .inl (r10.1), .inl (0)] [] r11.2 else ox_ev m_Rdr_takeTerm (ox_zz ox_ms (n + 1)) 55 0 tl [.inr (.inr (3, 0, 0)), .inl (a1), .inl (3), .inl (r10.1), .inl (0)] [] r11.2) rfl ?_
      refine ox_R_if (fun _ => ?_) (fun _ => ?_)
      · refine ox_R_to 1 (Y := ox_ev m_Rdr_takeTerm (ox_zz ox_ms (n + 1)) 60 0 tl [.inr (.inr (3, 0, 0)), .inl (a1), .inl (3), .inl (r10.1), ox_d] [.inl ((-1))] r11.2) rfl ?_
        exact (L_Rdr_takeTerm_60 a1 3 r10.1 (-1) r11.2 n tl)
      · refine ox_R_to 2 (Y := ox_ev m_Rdr_takeTerm (ox_zz ox_ms (n + 1)) 60 0 tl [.inr (.inr (3, 0, 0)), .inl (a1), .inl (3), .inl (r10.1), ox_d] [.inl (0)] r11.2) rfl ?_
        exact (L_Rdr_takeTerm_60 a1 3 r10.1 0 r11.2 n tl)
  · refine ox_R_to 5 (Y := ox_back m_Rdr_takeTerm 21 1 [] ((ox_zz ox_ms (n + 1)) 197 tl [.inr (.inr (3, 0, 0)), .inl (101)] r2.2) (fun pc9 x9 st9 σ9 => ox_ev m_Rdr_takeTerm (ox_zz ox_ms (n + 1)) pc9 0 tl (ox_kl (m_Rdr_takeTerm.2.2.1 pc9) (ox_xl x9 [.inr (.inr (3, 0, 0)), .inl (a1), .inl (2), .inl (0), .inl (0)])) st9 σ9)) rfl ?_
    refine ox_R_call (fc := (fun r : Int × ox_H => ((.inl (some (.inl r.1)), r.2) : ox_O))) (L_Rdr_takeLetter 101 r2.2 (n + 0) tl) (fun r12 => ?_)
    refine ox_R_of (Y := ox_ev m_Rdr_takeTerm (ox_zz ox_ms (n + 1)) 24 0 tl [.inr (.inr (3, 0, 0)), .inl (a1), .inl (2), .inl (0), .inl (0)] [.inl (r12.1)] r12.2) rfl ?_
    refine ox_R_to 2 (Y := ox_ev m_Rdr_takeTerm (ox_zz ox_ms (n + 1)) 121 0 tl [.inr (.inr (3, 0, 0)), .inl (a1), .inl (2), .inl (r12.1), .inl (0)] [] r12.2) rfl ?_
    exact (L_Rdr_takeTerm_121 a1 2 r12.1 0 r12.2 n tl)
def J_Rdr_takeSum_62  (σ : ox_H) : Option (Int × ox_H) := some (0, σ)
theorem L_Rdr_takeSum_62  (σ : ox_H) (n tl : Nat) : ox_R (fun r => some ((fun r : Int × ox_H => ((.inl (some (.inl r.1)), r.2) : ox_O)) r)) (J_Rdr_takeSum_62 σ) (ox_ev m_Rdr_takeSum (ox_zz ox_ms (n + 2)) 62 0 tl [ox_d, ox_d, ox_d] [] σ) := by
  unfold J_Rdr_takeSum_62
  refine ox_R_to 2 (Y := some (.inl (some (.inl (0))), σ)) rfl ?_
  exact ox_R_ret rfl
def J_Rdr_takeSum_19  (σ : ox_H) : Option (Int × ox_H) := some (0, σ)
theorem L_Rdr_takeSum_19  (σ : ox_H) (n tl : Nat) : ox_R (fun r => some ((fun r : Int × ox_H => ((.inl (some (.inl r.1)), r.2) : ox_O)) r)) (J_Rdr_takeSum_19 σ) (ox_ev m_Rdr_takeSum (ox_zz ox_ms (n + 2)) 19 0 tl [ox_d, ox_d, ox_d] [] σ) := by
  unfold J_Rdr_takeSum_19
  refine ox_R_to 2 (Y := some (.inl (some (.inl (0))), σ)) rfl ?_
  exact ox_R_ret rfl
def J_Rdr_takeSum_46  (v1 : Int) (v2 : Int) (σ : ox_H) : Option (((Int × Int × ox_H) ⊕ Int × ox_H)) := some (.inl (v1, ox_w (v2 + 1), (ox_up σ 3 0 5 0 (ox_w ((σ 3 0 5 0) + 1)))))
theorem L_Rdr_takeSum_46  (v1 : Int) (v2 : Int) (σ : ox_H) (n tl : Nat) : ox_R (Sum.elim (fun (s : Int × Int × ox_H) => match s with | (v1, v2, σ) => ox_ev m_Rdr_takeSum (ox_zz ox_ms (n + 2)) 5 0 tl [.inr (.inr (3, 0, 0)), .inl (v1), .inl (v2)] [] σ) (fun r => some ((fun r : Int × ox_H => ((.inl (some (.inl r.1)), r.2) : ox_O)) r))) (J_Rdr_takeSum_46 v1 v2 σ) (ox_ev m_Rdr_takeSum (ox_zz ox_ms (n + 2)) 46 0 tl [.inr (.inr (3, 0, 0)), .inl (v1), .inl (v2)] [] σ) := by
  unfold J_Rdr_takeSum_46
  refine ox_R_to 8 (Y := ox_ev m_Rdr_takeSum (ox_zz ox_ms (n + 2)) 5 0 tl [.inr (.inr (3, 0, 0)), .inl (v1), .inl (ox_w (v2 + 1))] [] (ox_up σ 3 0 5 0 (ox_w ((σ 3 0 5 0) + 1)))) rfl ?_
  exact ox_R_ret rfl
def J_Rdr_takeSum_44  (σ : ox_H) : Option (Int × ox_H) := some (1, σ)
theorem L_Rdr_takeSum_44  (σ : ox_H) (n tl : Nat) : ox_R (fun r => some ((fun r : Int × ox_H => ((.inl (some (.inl r.1)), r.2) : ox_O)) r)) (J_Rdr_takeSum_44 σ) (ox_ev m_Rdr_takeSum (ox_zz ox_ms (n + 2)) 44 0 tl [ox_d, ox_d, ox_d] [] σ) := by
  unfold J_Rdr_takeSum_44
  refine ox_R_to 2 (Y := some (.inl (some (.inl (1))), σ)) rfl ?_
  exact ox_R_ret rfl
def B_Rdr_takeSum_5  : (Int × Int × ox_H) → Option (((Int × Int × ox_H) ⊕ Int × ox_H)) := fun (v1, v2, σ) => if 6 ≤ v2 then ((J_Rdr_takeSum_62 σ).map .inr) else ((F_Rdr_takeTerm v1 σ).bind fun r1 => (if r1.1 = 0 then ((J_Rdr_takeSum_19 r1.2).map .inr) else ((F_Rdr_peek r1.2).bind fun r2 => (if r2 = 43 then (J_Rdr_takeSum_46 r2 v2 r1.2) else (if r2 = 45 then (J_Rdr_takeSum_46 r2 v2 r1.2) else (if r2 = 42 then (J_Rdr_takeSum_46 r2 v2 r1.2) else ((J_Rdr_takeSum_44 r1.2).map .inr)))))))
def J_Rdr_takeSum_5  (v1 : Int) (v2 : Int) (σ : ox_H) : Option (Int × ox_H) := ox_lp (B_Rdr_takeSum_5) ox_fu (v1, v2, σ)
theorem L_Rdr_takeSum_5  (v1 : Int) (v2 : Int) (σ : ox_H) (n tl : Nat) : ox_R (fun r => some ((fun r : Int × ox_H => ((.inl (some (.inl r.1)), r.2) : ox_O)) r)) (J_Rdr_takeSum_5 v1 v2 σ) (ox_ev m_Rdr_takeSum (ox_zz ox_ms (n + 2)) 5 0 tl [.inr (.inr (3, 0, 0)), .inl (v1), .inl (v2)] [] σ) := by
  unfold J_Rdr_takeSum_5
  refine ox_R_lp (ψ := (fun (s : Int × Int × ox_H) => match s with | (v1, v2, σ) => ox_ev m_Rdr_takeSum (ox_zz ox_ms (n + 2)) 5 0 tl [.inr (.inr (3, 0, 0)), .inl (v1), .inl (v2)] [] σ)) ?_ ox_fu (v1, v2, σ)
  intro s
  obtain ⟨v1, v2, σ⟩ := s
  unfold B_Rdr_takeSum_5
  refine ox_R_to 3 (Y := if 6 ≤ v2 then ox_ev m_Rdr_takeSum (ox_zz ox_ms (n + 2)) 62 0 tl [ox_d, ox_d, ox_d] [] σ else ox_ev m_Rdr_takeSum (ox_zz ox_ms (n + 2)) 11 0 tl [.inr (.inr (3, 0, 0)), .inl (v1), .inl (v2)] [] σ) rfl ?_
  refine ox_R_if (fun _ => ?_) (fun _ => ?_)
  · exact ox_R_map ((L_Rdr_takeSum_62 σ n tl))
  · refine ox_R_to 3 (Y := ox_back m_Rdr_takeSum 13 1 [] ((ox_zz ox_ms (n + 2)) 213 tl [.inr (.inr (3, 0, 0)), .inl (v1)] σ) (fun pc9 x9 st9 σ9 => ox_ev m_Rdr_takeSum (ox_zz ox_ms (n + 2)) pc9 0 tl (ox_kl (m_Rdr_takeSum.2.2.1 pc9) (ox_xl x9 [.inr (.inr (3, 0, 0)), .inl (v1), .inl (v2)])) st9 σ9)) rfl ?_
    refine ox_R_call (fc := (fun r : Int × ox_H => ((.inl (some (.inl r.1)), r.2) : ox_O))) (L_Rdr_takeTerm v1 σ (n + 0) tl) (fun r1 => ?_)
    refine ox_R_of (Y := ox_ev m_Rdr_takeSum (ox_zz ox_ms (n + 2)) 16 0 tl [.inr (.inr (3, 0, 0)), .inl (v1), .inl (v2)] [.inl (r1.1)] r1.2) rfl ?_
    refine ox_R_to 1 (Y := if r1.1 = 0 then ox_ev m_Rdr_takeSum (ox_zz ox_ms (n + 2)) 19 0 tl [ox_d, ox_d, ox_d] [] r1.2 else ox_ev m_Rdr_takeSum (ox_zz ox_ms (n + 2)) 21 0 tl [.inr (.inr (3, 0, 0)), .inl (v1), .inl (v2)] [] r1.2) rfl ?_
    refine ox_R_if (fun _ => ?_) (fun _ => ?_)
    · exact ox_R_map ((L_Rdr_takeSum_19 r1.2 n tl))
    · refine ox_R_to 2 (Y := ox_back m_Rdr_takeSum 22 1 [] ((ox_zz ox_ms (n + 2)) 195 tl [.inr (.inr (3, 0, 0))] r1.2) (fun pc9 x9 st9 σ9 => ox_ev m_Rdr_takeSum (ox_zz ox_ms (n + 2)) pc9 0 tl (ox_kl (m_Rdr_takeSum.2.2.1 pc9) (ox_xl x9 [.inr (.inr (3, 0, 0)), .inl (v1), .inl (v2)])) st9 σ9)) rfl ?_
      refine ox_R_call (fc := (fun r : Int => ((.inl (some (.inl r)), r1.2) : ox_O))) (L_Rdr_peek r1.2 (n + 1) tl) (fun r2 => ?_)
      refine ox_R_of (Y := ox_ev m_Rdr_takeSum (ox_zz ox_ms (n + 2)) 25 0 tl [.inr (.inr (3, 0, 0)), .inl (v1), .inl (v2)] [.inl (r2)] r1.2) rfl ?_
      refine ox_R_to 4 (Y := if r2 = 43 then ox_ev m_Rdr_takeSum (ox_zz ox_ms (n + 2)) 46 0 tl [.inr (.inr (3, 0, 0)), .inl (r2), .inl (v2)] [] r1.2 else ox_ev m_Rdr_takeSum (ox_zz ox_ms (n + 2)) 32 0 tl [.inr (.inr (3, 0, 0)), .inl (r2), .inl (v2)] [] r1.2) rfl ?_
      refine ox_R_if (fun _ => ?_) (fun _ => ?_)
      · exact (L_Rdr_takeSum_46 r2 v2 r1.2 n tl)
      · refine ox_R_to 3 (Y := if r2 = 45 then ox_ev m_Rdr_takeSum (ox_zz ox_ms (n + 2)) 46 0 tl [.inr (.inr (3, 0, 0)), .inl (r2), .inl (v2)] [] r1.2 else ox_ev m_Rdr_takeSum (ox_zz ox_ms (n + 2)) 38 0 tl [.inr (.inr (3, 0, 0)), .inl (r2), .inl (v2)] [] r1.2) rfl ?_
        refine ox_R_if (fun _ => ?_) (fun _ => ?_)
        · exact (L_Rdr_takeSum_46 r2 v2 r1.2 n tl)
        · refine ox_R_to 3 (Y := if r2 = 42 then ox_ev m_Rdr_takeSum (ox_zz ox_ms (n + 2)) 46 0 tl [.inr (.inr (3, 0, 0)), .inl (r2), .inl (v2)] [] r1.2 else ox_ev m_Rdr_takeSum (ox_zz ox_ms (n + 2)) 44 0 tl [ox_d, ox_d, ox_d] [] r1.2) rfl ?_
          refine ox_R_if (fun _ => ?_) (fun _ => ?_)
          · exact (L_Rdr_takeSum_46 r2 v2 r1.2 n tl)
          · exact ox_R_map ((L_Rdr_takeSum_44 r1.2 n tl))
def F_Rdr_takeSum  (σ : ox_H) : Option (Int × ox_H) := (J_Rdr_takeSum_5 43 0 σ)
theorem L_Rdr_takeSum  (σ : ox_H) (n tl : Nat) : ox_R (fun r => some ((fun r : Int × ox_H => ((.inl (some (.inl r.1)), r.2) : ox_O)) r)) (F_Rdr_takeSum σ) (ox_zz ox_ms (n + 3) 212 tl [.inr (.inr (3, 0, 0))] σ) := by
  unfold F_Rdr_takeSum
  refine ox_R_of (Y := ox_ev m_Rdr_takeSum (ox_zz ox_ms (n + 2)) 0 0 tl [.inr (.inr (3, 0, 0)), ox_d, ox_d] [] σ) rfl ?_
  refine ox_R_to 4 (Y := ox_ev m_Rdr_takeSum (ox_zz ox_ms (n + 2)) 5 0 tl [.inr (.inr (3, 0, 0)), .inl (43), .inl (0)] [] σ) rfl ?_
  exact (L_Rdr_takeSum_5 43 0 σ n tl)
def J_Rdr_takeValue_47  (s0 : Int) (σ : ox_H) : Option (Int × ox_H) := some (s0 % 2, σ)
theorem L_Rdr_takeValue_47  (s0 : Int) (σ : ox_H) (n tl : Nat) : ox_R (fun r => some ((fun r : Int × ox_H => ((.inl (some (.inl r.1)), r.2) : ox_O)) r)) (J_Rdr_takeValue_47 s0 σ) (ox_ev m_Rdr_takeValue (ox_zz ox_ms (n + 1)) 47 0 tl [ox_d, ox_d, ox_d] [.inl (s0)] σ) := by
  unfold J_Rdr_takeValue_47
  refine ox_R_to 1 (Y := some (.inl (some (.inl (s0 % 2))), σ)) rfl ?_
  exact ox_R_ret rfl
def J_Rdr_takeValue_16  (s0 : Int) (σ : ox_H) : Option (Int × ox_H) := (F_Rdr_takeNumber σ).bind fun r1 => ((F_Sum_addTerm (r1.2 3 0 3 0) s0 0 0 r1.1 r1.2).bind fun r2 => (if r1.1 = (-1) then (J_Rdr_takeValue_47 0 r2) else (J_Rdr_takeValue_47 1 r2)))
theorem L_Rdr_takeValue_16  (s0 : Int) (σ : ox_H) (n tl : Nat) : ox_R (fun r => some ((fun r : Int × ox_H => ((.inl (some (.inl r.1)), r.2) : ox_O)) r)) (J_Rdr_takeValue_16 s0 σ) (ox_ev m_Rdr_takeValue (ox_zz ox_ms (n + 1)) 16 0 tl [.inr (.inr (3, 0, 0)), ox_d, ox_d] [.inl (s0)] σ) := by
  unfold J_Rdr_takeValue_16
  refine ox_R_to 3 (Y := ox_back m_Rdr_takeValue 18 1 [] ((ox_zz ox_ms (n + 1)) 199 tl [.inr (.inr (3, 0, 0))] σ) (fun pc9 x9 st9 σ9 => ox_ev m_Rdr_takeValue (ox_zz ox_ms (n + 1)) pc9 0 tl (ox_kl (m_Rdr_takeValue.2.2.1 pc9) (ox_xl x9 [.inr (.inr (3, 0, 0)), .inl (s0), ox_d])) st9 σ9)) rfl ?_
  refine ox_R_call (fc := (fun r : Int × ox_H => ((.inl (some (.inl r.1)), r.2) : ox_O))) (L_Rdr_takeNumber σ (n + 0) tl) (fun r1 => ?_)
  refine ox_R_of (Y := ox_ev m_Rdr_takeValue (ox_zz ox_ms (n + 1)) 21 0 tl [.inr (.inr (3, 0, 0)), .inl (s0), ox_d] [.inl (r1.1)] r1.2) rfl ?_
  refine ox_R_to 10 (Y := ox_back m_Rdr_takeValue 34 2 [] ((ox_zz ox_ms (n + 1)) 233 tl [.inr (.inr (6, 0, 0)), .inl (r1.2 3 0 3 0), .inl (s0), .inl (0), .inl (0), .inl (r1.1)] r1.2) (fun pc9 x9 st9 σ9 => ox_ev m_Rdr_takeValue (ox_zz ox_ms (n + 1)) pc9 0 tl (ox_kl (m_Rdr_takeValue.2.2.1 pc9) (ox_xl x9 [.inr (.inr (3, 0, 0)), .inl (s0), .inl (r1.1)])) st9 σ9)) rfl ?_
  refine ox_R_call (fc := (fun r : ox_H => ((.inl none, r) : ox_O))) (L_Sum_addTerm (r1.2 3 0 3 0) s0 0 0 r1.1 r1.2 (n + 0) tl) (fun r2 => ?_)
  refine ox_R_of (Y := ox_ev m_Rdr_takeValue (ox_zz ox_ms (n + 1)) 37 0 tl [.inr (.inr (3, 0, 0)), .inl (s0), .inl (r1.1)] [] r2) rfl ?_
  refine ox_R_to 3 (Y := if r1.1 = (-1) then ox_ev m_Rdr_takeValue (ox_zz ox_ms (n + 1)) 46 0 tl [.inr (.inr (3, 0, 0)), .inl (s0), .inl (r1.1)] [] r2 else ox_ev m_Rdr_takeValue (ox_zz ox_ms (n + 1)) 42 0 tl [.inr (.inr (3, 0, 0)), .inl (s0), .inl (r1.1)] [] r2) rfl ?_
  refine ox_R_if (fun _ => ?_) (fun _ => ?_)
  · refine ox_R_to 1 (Y := ox_ev m_Rdr_takeValue (ox_zz ox_ms (n + 1)) 47 0 tl [ox_d, ox_d, ox_d] [.inl (0)] r2) rfl ?_
    exact (L_Rdr_takeValue_47 0 r2 n tl)
  · refine ox_R_to 2 (Y := ox_ev m_Rdr_takeValue (ox_zz ox_ms (n + 1)) 47 0 tl [ox_d, ox_d, ox_d] [.inl (1)] r2) rfl ?_
    exact (L_Rdr_takeValue_47 1 r2 n tl)
def F_Rdr_takeValue  (σ : ox_H) : Option (Int × ox_H) := (F_Rdr_take 45 σ).bind fun r3 => (if r3.1 = 0 then (J_Rdr_takeValue_16 43 r3.2) else (J_Rdr_takeValue_16 45 r3.2))
theorem L_Rdr_takeValue  (σ : ox_H) (n tl : Nat) : ox_R (fun r => some ((fun r : Int × ox_H => ((.inl (some (.inl r.1)), r.2) : ox_O)) r)) (F_Rdr_takeValue σ) (ox_zz ox_ms (n + 2) 209 tl [.inr (.inr (3, 0, 0))] σ) := by
  unfold F_Rdr_takeValue
  refine ox_R_of (Y := ox_ev m_Rdr_takeValue (ox_zz ox_ms (n + 1)) 0 0 tl [.inr (.inr (3, 0, 0)), ox_d, ox_d] [] σ) rfl ?_
  refine ox_R_to 3 (Y := ox_back m_Rdr_takeValue 3 1 [] ((ox_zz ox_ms (n + 1)) 196 tl [.inr (.inr (3, 0, 0)), .inl (45)] σ) (fun pc9 x9 st9 σ9 => ox_ev m_Rdr_takeValue (ox_zz ox_ms (n + 1)) pc9 0 tl (ox_kl (m_Rdr_takeValue.2.2.1 pc9) (ox_xl x9 [.inr (.inr (3, 0, 0)), ox_d, ox_d])) st9 σ9)) rfl ?_
  refine ox_R_call (fc := (fun r : Int × ox_H => ((.inl (some (.inl r.1)), r.2) : ox_O))) (L_Rdr_take 45 σ (n + 0) tl) (fun r3 => ?_)
  refine ox_R_of (Y := ox_ev m_Rdr_takeValue (ox_zz ox_ms (n + 1)) 6 0 tl [.inr (.inr (3, 0, 0)), ox_d, ox_d] [.inl (r3.1)] r3.2) rfl ?_
  refine ox_R_to 1 (Y := if r3.1 = 0 then ox_ev m_Rdr_takeValue (ox_zz ox_ms (n + 1)) 14 0 tl [.inr (.inr (3, 0, 0)), ox_d, ox_d] [] r3.2 else ox_ev m_Rdr_takeValue (ox_zz ox_ms (n + 1)) 9 0 tl [.inr (.inr (3, 0, 0)), ox_d, ox_d] [] r3.2) rfl ?_
  refine ox_R_if (fun _ => ?_) (fun _ => ?_)
  · refine ox_R_to 1 (Y := ox_ev m_Rdr_takeValue (ox_zz ox_ms (n + 1)) 16 0 tl [.inr (.inr (3, 0, 0)), ox_d, ox_d] [.inl (43)] r3.2) rfl ?_
    exact (L_Rdr_takeValue_16 43 r3.2 n tl)
  · refine ox_R_to 2 (Y := ox_ev m_Rdr_takeValue (ox_zz ox_ms (n + 1)) 16 0 tl [.inr (.inr (3, 0, 0)), ox_d, ox_d] [.inl (45)] r3.2) rfl ?_
    exact (L_Rdr_takeValue_16 45 r3.2 n tl)
def J_Sum_endCell_21  (σ : ox_H) : Option ox_H := some σ
theorem L_Sum_endCell_21  (σ : ox_H) (n tl : Nat) : ox_R (fun r => some ((fun r : ox_H => ((.inl none, r) : ox_O)) r)) (J_Sum_endCell_21 σ) (ox_ev m_Sum_endCell (ox_zz ox_ms (n + 0)) 21 0 tl [ox_d, ox_d] [] σ) := by
  unfold J_Sum_endCell_21
  refine ox_R_to 1 (Y := some (.inl none, σ)) rfl ?_
  exact ox_R_ret rfl
def F_Sum_endCell  (a1 : Int) (σ : ox_H) : Option (ox_H) := if a1 < 0 then (J_Sum_endCell_21 σ) else (if 60 ≤ a1 then (J_Sum_endCell_21 σ) else (if 0 ≤ a1 ∧ a1.toNat < 60 then (if (σ 6 0 0 a1.toNat) < 12 then (if 0 ≤ a1 ∧ a1.toNat < 60 then (if 0 ≤ a1 ∧ a1.toNat < 60 then (if 0 ≤ (ox_w ((ox_w (a1 * 12)) + (σ 6 0 0 a1.toNat))) ∧ (ox_w ((ox_w (a1 * 12)) + (σ 6 0 0 a1.toNat))).toNat < 720 then (if 0 ≤ a1 ∧ a1.toNat < 60 then (if 0 ≤ a1 ∧ a1.toNat < 60 then (some (ox_up (ox_up σ 6 0 2 ((ox_w ((ox_w (a1 * 12)) + (σ 6 0 0 a1.toNat))).toNat) (ox_w ((ox_w (a1 * 12)) + (σ 6 0 1 a1.toNat)))) 6 0 0 a1.toNat (ox_w ((σ 6 0 0 a1.toNat) + 1)))) else none) else none) else none) else none) else none) else (J_Sum_endCell_21 σ)) else none))
theorem L_Sum_endCell  (a1 : Int) (σ : ox_H) (n tl : Nat) : ox_R (fun r => some ((fun r : ox_H => ((.inl none, r) : ox_O)) r)) (F_Sum_endCell a1 σ) (ox_zz ox_ms (n + 1) 235 tl [.inr (.inr (6, 0, 0)), .inl (a1)] σ) := by
  unfold F_Sum_endCell
  refine ox_R_of (Y := ox_ev m_Sum_endCell (ox_zz ox_ms (n + 0)) 0 0 tl [.inr (.inr (6, 0, 0)), .inl (a1)] [] σ) rfl ?_
  refine ox_R_to 2 (Y := if a1 < 0 then ox_ev m_Sum_endCell (ox_zz ox_ms (n + 0)) 21 0 tl [ox_d, ox_d] [] σ else ox_ev m_Sum_endCell (ox_zz ox_ms (n + 0)) 4 0 tl [.inr (.inr (6, 0, 0)), .inl (a1)] [] σ) rfl ?_
  refine ox_R_if (fun _ => ?_) (fun _ => ?_)
  · exact (L_Sum_endCell_21 σ n tl)
  · refine ox_R_to 3 (Y := if 60 ≤ a1 then ox_ev m_Sum_endCell (ox_zz ox_ms (n + 0)) 21 0 tl [ox_d, ox_d] [] σ else ox_ev m_Sum_endCell (ox_zz ox_ms (n + 0)) 10 0 tl [.inr (.inr (6, 0, 0)), .inl (a1)] [] σ) rfl ?_
    refine ox_R_if (fun _ => ?_) (fun _ => ?_)
    · exact (L_Sum_endCell_21 σ n tl)
    · refine ox_R_to 4 (Y := if 0 ≤ a1 ∧ a1.toNat < 60 then ox_ev m_Sum_endCell (ox_zz ox_ms (n + 0)) 16 0 tl [.inr (.inr (6, 0, 0)), .inl (a1)] [.inl (σ 6 0 0 a1.toNat)] σ else none) rfl ?_
      refine ox_R_if (fun _ => ?_) (fun _ => ox_R_none)
      refine ox_R_to 2 (Y := if (σ 6 0 0 a1.toNat) < 12 then ox_ev m_Sum_endCell (ox_zz ox_ms (n + 0)) 22 0 tl [.inr (.inr (6, 0, 0)), .inl (a1)] [] σ else ox_ev m_Sum_endCell (ox_zz ox_ms (n + 0)) 21 0 tl [ox_d, ox_d] [] σ) rfl ?_
      refine ox_R_if (fun _ => ?_) (fun _ => ?_)
      · refine ox_R_to 9 (Y := if 0 ≤ a1 ∧ a1.toNat < 60 then ox_ev m_Sum_endCell (ox_zz ox_ms (n + 0)) 36 0 tl [.inr (.inr (6, 0, 0)), .inl (a1)] [.inl (σ 6 0 0 a1.toNat), .inl (ox_w (a1 * 12)), .inr (.inr (106, 0, 2))] σ else none) rfl ?_
        refine ox_R_if (fun _ => ?_) (fun _ => ox_R_none)
        refine ox_R_to 8 (Y := if 0 ≤ a1 ∧ a1.toNat < 60 then ox_ev m_Sum_endCell (ox_zz ox_ms (n + 0)) 47 0 tl [.inr (.inr (6, 0, 0)), .inl (a1)] [.inl (σ 6 0 1 a1.toNat), .inl (ox_w (a1 * 12)), .inl (ox_w ((ox_w (a1 * 12)) + (σ 6 0 0 a1.toNat))), .inr (.inr (106, 0, 2))] σ else none) rfl ?_
        refine ox_R_if (fun _ => ?_) (fun _ => ox_R_none)
        refine ox_R_to 2 (Y := if 0 ≤ (ox_w ((ox_w (a1 * 12)) + (σ 6 0 0 a1.toNat))) ∧ (ox_w ((ox_w (a1 * 12)) + (σ 6 0 0 a1.toNat))).toNat < 720 then ox_ev m_Sum_endCell (ox_zz ox_ms (n + 0)) 49 0 tl [.inr (.inr (6, 0, 0)), .inl (a1)] [] (ox_up σ 6 0 2 ((ox_w ((ox_w (a1 * 12)) + (σ 6 0 0 a1.toNat))).toNat) (ox_w ((ox_w (a1 * 12)) + (σ 6 0 1 a1.toNat)))) else none) rfl ?_
        refine ox_R_if (fun _ => ?_) (fun _ => ox_R_none)
        refine ox_R_to 5 (Y := if 0 ≤ a1 ∧ a1.toNat < 60 then ox_ev m_Sum_endCell (ox_zz ox_ms (n + 0)) 56 0 tl [.inr (.inr (6, 0, 0)), .inl (a1)] [.inl (σ 6 0 0 a1.toNat), .inl (a1), .inr (.inr (106, 0, 0))] (ox_up σ 6 0 2 ((ox_w ((ox_w (a1 * 12)) + (σ 6 0 0 a1.toNat))).toNat) (ox_w ((ox_w (a1 * 12)) + (σ 6 0 1 a1.toNat)))) else none) rfl ?_
        refine ox_R_if (fun _ => ?_) (fun _ => ox_R_none)
        refine ox_R_to 3 (Y := if 0 ≤ a1 ∧ a1.toNat < 60 then ox_ev m_Sum_endCell (ox_zz ox_ms (n + 0)) 59 0 tl [.inr (.inr (6, 0, 0)), .inl (a1)] [] (ox_up (ox_up σ 6 0 2 ((ox_w ((ox_w (a1 * 12)) + (σ 6 0 0 a1.toNat))).toNat) (ox_w ((ox_w (a1 * 12)) + (σ 6 0 1 a1.toNat)))) 6 0 0 a1.toNat (ox_w ((σ 6 0 0 a1.toNat) + 1))) else none) rfl ?_
        refine ox_R_if (fun _ => ?_) (fun _ => ox_R_none)
        refine ox_R_to 1 (Y := some (.inl none, (ox_up (ox_up σ 6 0 2 ((ox_w ((ox_w (a1 * 12)) + (σ 6 0 0 a1.toNat))).toNat) (ox_w ((ox_w (a1 * 12)) + (σ 6 0 1 a1.toNat)))) 6 0 0 a1.toNat (ox_w ((σ 6 0 0 a1.toNat) + 1))))) rfl ?_
        exact ox_R_ret rfl
      · exact (L_Sum_endCell_21 σ n tl)
def J_Rdr_takeRow_61  (σ : ox_H) : Option (Int × ox_H) := some (1, σ)
theorem L_Rdr_takeRow_61  (σ : ox_H) (n tl : Nat) : ox_R (fun r => some ((fun r : Int × ox_H => ((.inl (some (.inl r.1)), r.2) : ox_O)) r)) (J_Rdr_takeRow_61 σ) (ox_ev m_Rdr_takeRow (ox_zz ox_ms (n + 3)) 61 0 tl [ox_d, ox_d, ox_d] [] σ) := by
  unfold J_Rdr_takeRow_61
  refine ox_R_to 2 (Y := some (.inl (some (.inl (1))), σ)) rfl ?_
  exact ox_R_ret rfl
def J_Rdr_takeRow_42  (σ : ox_H) : Option (Int × ox_H) := some (0, σ)
theorem L_Rdr_takeRow_42  (σ : ox_H) (n tl : Nat) : ox_R (fun r => some ((fun r : Int × ox_H => ((.inl (some (.inl r.1)), r.2) : ox_O)) r)) (J_Rdr_takeRow_42 σ) (ox_ev m_Rdr_takeRow (ox_zz ox_ms (n + 3)) 42 0 tl [ox_d, ox_d, ox_d] [] σ) := by
  unfold J_Rdr_takeRow_42
  refine ox_R_to 2 (Y := some (.inl (some (.inl (0))), σ)) rfl ?_
  exact ox_R_ret rfl
def J_Rdr_takeRow_37  (v1 : Int) (s0 : Int) (σ : ox_H) : Option (((Int × ox_H) ⊕ Int × ox_H)) := if s0 = 0 then ((J_Rdr_takeRow_42 σ).map .inr) else ((F_Sum_endCell (σ 3 0 3 0) σ).bind fun r1 => (some (.inl (ox_w (v1 + 1), r1))))
theorem L_Rdr_takeRow_37  (v1 : Int) (s0 : Int) (σ : ox_H) (n tl : Nat) : ox_R (Sum.elim (fun (s : Int × ox_H) => match s with | (v1, σ) => ox_ev m_Rdr_takeRow (ox_zz ox_ms (n + 3)) 2 0 tl [.inr (.inr (3, 0, 0)), .inl (v1), ox_d] [] σ) (fun r => some ((fun r : Int × ox_H => ((.inl (some (.inl r.1)), r.2) : ox_O)) r))) (J_Rdr_takeRow_37 v1 s0 σ) (ox_ev m_Rdr_takeRow (ox_zz ox_ms (n + 3)) 37 0 tl [.inr (.inr (3, 0, 0)), .inl (v1), ox_d] [.inl (s0)] σ) := by
  unfold J_Rdr_takeRow_37
  refine ox_R_to 3 (Y := if s0 = 0 then ox_ev m_Rdr_takeRow (ox_zz ox_ms (n + 3)) 42 0 tl [ox_d, ox_d, ox_d] [] σ else ox_ev m_Rdr_takeRow (ox_zz ox_ms (n + 3)) 44 0 tl [.inr (.inr (3, 0, 0)), .inl (v1), .inl (s0)] [] σ) rfl ?_
  refine ox_R_if (fun _ => ?_) (fun _ => ?_)
  · exact ox_R_map ((L_Rdr_takeRow_42 σ n tl))
  · refine ox_R_to 5 (Y := ox_back m_Rdr_takeRow 52 2 [] ((ox_zz ox_ms (n + 3)) 235 tl [.inr (.inr (6, 0, 0)), .inl (σ 3 0 3 0)] σ) (fun pc9 x9 st9 σ9 => ox_ev m_Rdr_takeRow (ox_zz ox_ms (n + 3)) pc9 0 tl (ox_kl (m_Rdr_takeRow.2.2.1 pc9) (ox_xl x9 [.inr (.inr (3, 0, 0)), .inl (v1), .inl (s0)])) st9 σ9)) rfl ?_
    refine ox_R_call (fc := (fun r : ox_H => ((.inl none, r) : ox_O))) (L_Sum_endCell (σ 3 0 3 0) σ (n + 2) tl) (fun r1 => ?_)
    refine ox_R_of (Y := ox_ev m_Rdr_takeRow (ox_zz ox_ms (n + 3)) 55 0 tl [.inr (.inr (3, 0, 0)), .inl (v1), .inl (s0)] [] r1) rfl ?_
    refine ox_R_to 2 (Y := ox_ev m_Rdr_takeRow (ox_zz ox_ms (n + 3)) 2 0 tl [.inr (.inr (3, 0, 0)), .inl (ox_w (v1 + 1)), ox_d] [] r1) rfl ?_
    exact ox_R_ret rfl
def B_Rdr_takeRow_2  : (Int × ox_H) → Option (((Int × ox_H) ⊕ Int × ox_H)) := fun (v1, σ) => if 12 ≤ v1 then ((J_Rdr_takeRow_61 σ).map .inr) else ((F_Rdr_take 124 σ).bind fun r2 => (if r2.1 = 0 then ((J_Rdr_takeRow_61 r2.2).map .inr) else ((F_Rdr_take 61 r2.2).bind fun r3 => (if r3.1 = 0 then ((F_Rdr_takeValue r3.2).bind fun r4 => (J_Rdr_takeRow_37 v1 r4.1 r4.2)) else ((F_Rdr_takeSum r3.2).bind fun r5 => (J_Rdr_takeRow_37 v1 r5.1 r5.2))))))
def J_Rdr_takeRow_2  (v1 : Int) (σ : ox_H) : Option (Int × ox_H) := ox_lp (B_Rdr_takeRow_2) ox_fu (v1, σ)
theorem L_Rdr_takeRow_2  (v1 : Int) (σ : ox_H) (n tl : Nat) : ox_R (fun r => some ((fun r : Int × ox_H => ((.inl (some (.inl r.1)), r.2) : ox_O)) r)) (J_Rdr_takeRow_2 v1 σ) (ox_ev m_Rdr_takeRow (ox_zz ox_ms (n + 3)) 2 0 tl [.inr (.inr (3, 0, 0)), .inl (v1), ox_d] [] σ) := by
  unfold J_Rdr_takeRow_2
  refine ox_R_lp (ψ := (fun (s : Int × ox_H) => match s with | (v1, σ) => ox_ev m_Rdr_takeRow (ox_zz ox_ms (n + 3)) 2 0 tl [.inr (.inr (3, 0, 0)), .inl (v1), ox_d] [] σ)) ?_ ox_fu (v1, σ)
  intro s
  obtain ⟨v1, σ⟩ := s
  unfold B_Rdr_takeRow_2
  refine ox_R_to 3 (Y := if 12 ≤ v1 then ox_ev m_Rdr_takeRow (ox_zz ox_ms (n + 3)) 61 0 tl [ox_d, ox_d, ox_d] [] σ else ox_ev m_Rdr_takeRow (ox_zz ox_ms (n + 3)) 8 0 tl [.inr (.inr (3, 0, 0)), .inl (v1), ox_d] [] σ) rfl ?_
  refine ox_R_if (fun _ => ?_) (fun _ => ?_)
  · exact ox_R_map ((L_Rdr_takeRow_61 σ n tl))
  · refine ox_R_to 3 (Y := ox_back m_Rdr_takeRow 11 1 [] ((ox_zz ox_ms (n + 3)) 196 tl [.inr (.inr (3, 0, 0)), .inl (124)] σ) (fun pc9 x9 st9 σ9 => ox_ev m_Rdr_takeRow (ox_zz ox_ms (n + 3)) pc9 0 tl (ox_kl (m_Rdr_takeRow.2.2.1 pc9) (ox_xl x9 [.inr (.inr (3, 0, 0)), .inl (v1), ox_d])) st9 σ9)) rfl ?_
    refine ox_R_call (fc := (fun r : Int × ox_H => ((.inl (some (.inl r.1)), r.2) : ox_O))) (L_Rdr_take 124 σ (n + 2) tl) (fun r2 => ?_)
    refine ox_R_of (Y := ox_ev m_Rdr_takeRow (ox_zz ox_ms (n + 3)) 14 0 tl [.inr (.inr (3, 0, 0)), .inl (v1), ox_d] [.inl (r2.1)] r2.2) rfl ?_
    refine ox_R_to 1 (Y := if r2.1 = 0 then ox_ev m_Rdr_takeRow (ox_zz ox_ms (n + 3)) 61 0 tl [ox_d, ox_d, ox_d] [] r2.2 else ox_ev m_Rdr_takeRow (ox_zz ox_ms (n + 3)) 17 0 tl [.inr (.inr (3, 0, 0)), .inl (v1), ox_d] [] r2.2) rfl ?_
    refine ox_R_if (fun _ => ?_) (fun _ => ?_)
    · exact ox_R_map ((L_Rdr_takeRow_61 r2.2 n tl))
    · refine ox_R_to 3 (Y := ox_back m_Rdr_takeRow 20 1 [] ((ox_zz ox_ms (n + 3)) 196 tl [.inr (.inr (3, 0, 0)), .inl (61)] r2.2) (fun pc9 x9 st9 σ9 => ox_ev m_Rdr_takeRow (ox_zz ox_ms (n + 3)) pc9 0 tl (ox_kl (m_Rdr_takeRow.2.2.1 pc9) (ox_xl x9 [.inr (.inr (3, 0, 0)), .inl (v1), ox_d])) st9 σ9)) rfl ?_
      refine ox_R_call (fc := (fun r : Int × ox_H => ((.inl (some (.inl r.1)), r.2) : ox_O))) (L_Rdr_take 61 r2.2 (n + 2) tl) (fun r3 => ?_)
      refine ox_R_of (Y := ox_ev m_Rdr_takeRow (ox_zz ox_ms (n + 3)) 23 0 tl [.inr (.inr (3, 0, 0)), .inl (v1), ox_d] [.inl (r3.1)] r3.2) rfl ?_
      refine ox_R_to 1 (Y := if r3.1 = 0 then ox_ev m_Rdr_takeRow (ox_zz ox_ms (n + 3)) 33 0 tl [.inr (.inr (3, 0, 0)), .inl (v1), ox_d] [] r3.2 else ox_ev m_Rdr_takeRow (ox_zz ox_ms (n + 3)) 26 0 tl [.inr (.inr (3, 0, 0)), .inl (v1), ox_d] [] r3.2) rfl ?_
      refine ox_R_if (fun _ => ?_) (fun _ => ?_)
      · refine ox_R_to 2 (Y := ox_back m_Rdr_takeRow 34 1 [] ((ox_zz ox_ms (n + 3)) 209 tl [.inr (.inr (3, 0, 0))] r3.2) (fun pc9 x9 st9 σ9 => ox_ev m_Rdr_takeRow (ox_zz ox_ms (n + 3)) pc9 0 tl (ox_kl (m_Rdr_takeRow.2.2.1 pc9) (ox_xl x9 [.inr (.inr (3, 0, 0)), .inl (v1), ox_d])) st9 σ9)) rfl ?_
        refine ox_R_call (fc := (fun r : Int × ox_H => ((.inl (some (.inl r.1)), r.2) : ox_O))) (L_Rdr_takeValue r3.2 (n + 1) tl) (fun r4 => ?_)
        refine ox_R_of (Y := ox_ev m_Rdr_takeRow (ox_zz ox_ms (n + 3)) 37 0 tl [.inr (.inr (3, 0, 0)), .inl (v1), ox_d] [.inl (r4.1)] r4.2) rfl ?_
        exact (L_Rdr_takeRow_37 v1 r4.1 r4.2 n tl)
      · refine ox_R_to 2 (Y := ox_back m_Rdr_takeRow 27 1 [] ((ox_zz ox_ms (n + 3)) 212 tl [.inr (.inr (3, 0, 0))] r3.2) (fun pc9 x9 st9 σ9 => ox_ev m_Rdr_takeRow (ox_zz ox_ms (n + 3)) pc9 0 tl (ox_kl (m_Rdr_takeRow.2.2.1 pc9) (ox_xl x9 [.inr (.inr (3, 0, 0)), .inl (v1), ox_d])) st9 σ9)) rfl ?_
        refine ox_R_call (fc := (fun r : Int × ox_H => ((.inl (some (.inl r.1)), r.2) : ox_O))) (L_Rdr_takeSum r3.2 (n + 0) tl) (fun r5 => ?_)
        refine ox_R_of (Y := ox_ev m_Rdr_takeRow (ox_zz ox_ms (n + 3)) 30 0 tl [.inr (.inr (3, 0, 0)), .inl (v1), ox_d] [.inl (r5.1)] r5.2) rfl ?_
        refine ox_R_to 1 (Y := ox_ev m_Rdr_takeRow (ox_zz ox_ms (n + 3)) 37 0 tl [.inr (.inr (3, 0, 0)), .inl (v1), ox_d] [.inl (r5.1)] r5.2) rfl ?_
        exact (L_Rdr_takeRow_37 v1 r5.1 r5.2 n tl)
def F_Rdr_takeRow  (σ : ox_H) : Option (Int × ox_H) := (J_Rdr_takeRow_2 0 σ)
theorem L_Rdr_takeRow  (σ : ox_H) (n tl : Nat) : ox_R (fun r => some ((fun r : Int × ox_H => ((.inl (some (.inl r.1)), r.2) : ox_O)) r)) (F_Rdr_takeRow σ) (ox_zz ox_ms (n + 4) 208 tl [.inr (.inr (3, 0, 0))] σ) := by
  unfold F_Rdr_takeRow
  refine ox_R_of (Y := ox_ev m_Rdr_takeRow (ox_zz ox_ms (n + 3)) 0 0 tl [.inr (.inr (3, 0, 0)), ox_d, ox_d] [] σ) rfl ?_
  refine ox_R_to 2 (Y := ox_ev m_Rdr_takeRow (ox_zz ox_ms (n + 3)) 2 0 tl [.inr (.inr (3, 0, 0)), .inl (0), ox_d] [] σ) rfl ?_
  exact (L_Rdr_takeRow_2 0 σ n tl)
def J_Rdr_takeCode_44  (σ : ox_H) : Option (Int × ox_H) := some (0, σ)
theorem L_Rdr_takeCode_44  (σ : ox_H) (n tl : Nat) : ox_R (fun r => some ((fun r : Int × ox_H => ((.inl (some (.inl r.1)), r.2) : ox_O)) r)) (J_Rdr_takeCode_44 σ) (ox_ev m_Rdr_takeCode (ox_zz ox_ms (n + 3)) 44 0 tl [ox_d, ox_d] [] σ) := by
  unfold J_Rdr_takeCode_44
  refine ox_R_to 2 (Y := some (.inl (some (.inl (0))), σ)) rfl ?_
  exact ox_R_ret rfl
def F_Rdr_takeCode  (k1 : Nat) (σ : ox_H) : Option (Int × ox_H) := (F_Rdr_takeLetter 122 (ox_up σ 3 0 5 0 (ox_w ((σ 3 0 5 0) + 1)))).bind fun r1 => (if ((ox_up r1.2 4 k1 1 0 r1.1) 4 k1 1 0) = (-1) then (J_Rdr_takeCode_44 (ox_up r1.2 4 k1 1 0 r1.1)) else ((F_Rdr_take 125 (ox_up r1.2 4 k1 1 0 r1.1)).bind fun r2 => (if r2.1 = 0 then (J_Rdr_takeCode_44 r2.2) else ((F_Rdr_takeSum r2.2).bind fun r3 => (if r3.1 = 0 then (J_Rdr_takeCode_44 r3.2) else ((F_Sum_endCell (r3.2 3 0 3 0) r3.2).bind fun r4 => (some (1, r4))))))))
theorem L_Rdr_takeCode  (k1 : Nat) (σ : ox_H) (n tl : Nat) : ox_R (fun r => some ((fun r : Int × ox_H => ((.inl (some (.inl r.1)), r.2) : ox_O)) r)) (F_Rdr_takeCode k1 σ) (ox_zz ox_ms (n + 4) 210 tl [.inr (.inr (3, 0, 0)), .inr (.inr (4, k1, 0))] σ) := by
  unfold F_Rdr_takeCode
  refine ox_R_of (Y := ox_ev m_Rdr_takeCode (ox_zz ox_ms (n + 3)) 0 0 tl [.inr (.inr (3, 0, 0)), .inr (.inr (4, k1, 0))] [] σ) rfl ?_
  refine ox_R_to 10 (Y := ox_back m_Rdr_takeCode 14 1 [.inr (.inr (4, k1, 0))] ((ox_zz ox_ms (n + 3)) 197 tl [.inr (.inr (3, 0, 0)), .inl (122)] (ox_up σ 3 0 5 0 (ox_w ((σ 3 0 5 0) + 1)))) (fun pc9 x9 st9 σ9 => ox_ev m_Rdr_takeCode (ox_zz ox_ms (n + 3)) pc9 0 tl (ox_kl (m_Rdr_takeCode.2.2.1 pc9) (ox_xl x9 [.inr (.inr (3, 0, 0)), .inr (.inr (4, k1, 0))])) st9 σ9)) rfl ?_
  refine ox_R_call (fc := (fun r : Int × ox_H => ((.inl (some (.inl r.1)), r.2) : ox_O))) (L_Rdr_takeLetter 122 (ox_up σ 3 0 5 0 (ox_w ((σ 3 0 5 0) + 1))) (n + 2) tl) (fun r1 => ?_)
  refine ox_R_of (Y := ox_ev m_Rdr_takeCode (ox_zz ox_ms (n + 3)) 17 0 tl [.inr (.inr (3, 0, 0)), .inr (.inr (4, k1, 0))] [.inl (r1.1), .inr (.inr (4, k1, 0))] r1.2) rfl ?_
  refine ox_R_to 5 (Y := if ((ox_up r1.2 4 k1 1 0 r1.1) 4 k1 1 0) = (-1) then ox_ev m_Rdr_takeCode (ox_zz ox_ms (n + 3)) 44 0 tl [ox_d, ox_d] [] (ox_up r1.2 4 k1 1 0 r1.1) else ox_ev m_Rdr_takeCode (ox_zz ox_ms (n + 3)) 28 0 tl [.inr (.inr (3, 0, 0)), .inr (.inr (4, k1, 0))] [] (ox_up r1.2 4 k1 1 0 r1.1)) rfl ?_
  refine ox_R_if (fun _ => ?_) (fun _ => ?_)
  · exact (L_Rdr_takeCode_44 (ox_up r1.2 4 k1 1 0 r1.1) n tl)
  · refine ox_R_to 3 (Y := ox_back m_Rdr_takeCode 31 1 [] ((ox_zz ox_ms (n + 3)) 196 tl [.inr (.inr (3, 0, 0)), .inl (125)] (ox_up r1.2 4 k1 1 0 r1.1)) (fun pc9 x9 st9 σ9 => ox_ev m_Rdr_takeCode (ox_zz ox_ms (n + 3)) pc9 0 tl (ox_kl (m_Rdr_takeCode.2.2.1 pc9) (ox_xl x9 [.inr (.inr (3, 0, 0)), .inr (.inr (4, k1, 0))])) st9 σ9)) rfl ?_
    refine ox_R_call (fc := (fun r : Int × ox_H => ((.inl (some (.inl r.1)), r.2) : ox_O))) (L_Rdr_take 125 (ox_up r1.2 4 k1 1 0 r1.1) (n + 2) tl) (fun r2 => ?_)
    refine ox_R_of (Y := ox_ev m_Rdr_takeCode (ox_zz ox_ms (n + 3)) 34 0 tl [.inr (.inr (3, 0, 0)), .inr (.inr (4, k1, 0))] [.inl (r2.1)] r2.2) rfl ?_
    refine ox_R_to 1 (Y := if r2.1 = 0 then ox_ev m_Rdr_takeCode (ox_zz ox_ms (n + 3)) 44 0 tl [ox_d, ox_d] [] r2.2 else ox_ev m_Rdr_takeCode (ox_zz ox_ms (n + 3)) 37 0 tl [.inr (.inr (3, 0, 0)), .inr (.inr (4, k1, 0))] [] r2.2) rfl ?_
    refine ox_R_if (fun _ => ?_) (fun _ => ?_)
    · exact (L_Rdr_takeCode_44 r2.2 n tl)
    · refine ox_R_to 2 (Y := ox_back m_Rdr_takeCode 38 1 [] ((ox_zz ox_ms (n + 3)) 212 tl [.inr (.inr (3, 0, 0))] r2.2) (fun pc9 x9 st9 σ9 => ox_ev m_Rdr_takeCode (ox_zz ox_ms (n + 3)) pc9 0 tl (ox_kl (m_Rdr_takeCode.2.2.1 pc9) (ox_xl x9 [.inr (.inr (3, 0, 0)), .inr (.inr (4, k1, 0))])) st9 σ9)) rfl ?_
      refine ox_R_call (fc := (fun r : Int × ox_H => ((.inl (some (.inl r.1)), r.2) : ox_O))) (L_Rdr_takeSum r2.2 (n + 0) tl) (fun r3 => ?_)
      refine ox_R_of (Y := ox_ev m_Rdr_takeCode (ox_zz ox_ms (n + 3)) 41 0 tl [.inr (.inr (3, 0, 0)), .inr (.inr (4, k1, 0))] [.inl (r3.1)] r3.2) rfl ?_
      refine ox_R_to 1 (Y := if r3.1 = 0 then ox_ev m_Rdr_takeCode (ox_zz ox_ms (n + 3)) 44 0 tl [ox_d, ox_d] [] r3.2 else ox_ev m_Rdr_takeCode (ox_zz ox_ms (n + 3)) 46 0 tl [.inr (.inr (3, 0, 0)), .inr (.inr (4, k1, 0))] [] r3.2) rfl ?_
      refine ox_R_if (fun _ => ?_) (fun _ => ?_)
      · exact (L_Rdr_takeCode_44 r3.2 n tl)
      · refine ox_R_to 5 (Y := ox_back m_Rdr_takeCode 54 2 [] ((ox_zz ox_ms (n + 3)) 235 tl [.inr (.inr (6, 0, 0)), .inl (r3.2 3 0 3 0)] r3.2) (fun pc9 x9 st9 σ9 => ox_ev m_Rdr_takeCode (ox_zz ox_ms (n + 3)) pc9 0 tl (ox_kl (m_Rdr_takeCode.2.2.1 pc9) (ox_xl x9 [.inr (.inr (3, 0, 0)), .inr (.inr (4, k1, 0))])) st9 σ9)) rfl ?_
        refine ox_R_call (fc := (fun r : ox_H => ((.inl none, r) : ox_O))) (L_Sum_endCell (r3.2 3 0 3 0) r3.2 (n + 2) tl) (fun r4 => ?_)
        refine ox_R_of (Y := ox_ev m_Rdr_takeCode (ox_zz ox_ms (n + 3)) 57 0 tl [.inr (.inr (3, 0, 0)), .inr (.inr (4, k1, 0))] [] r4) rfl ?_
        refine ox_R_to 2 (Y := some (.inl (some (.inl (1))), r4)) rfl ?_
        exact ox_R_ret rfl
def J_Rdr_takeInclude_33  (s0 : Int) (σ : ox_H) : Option (Int × ox_H) := some (s0 % 2, σ)
theorem L_Rdr_takeInclude_33  (s0 : Int) (σ : ox_H) (n tl : Nat) : ox_R (fun r => some ((fun r : Int × ox_H => ((.inl (some (.inl r.1)), r.2) : ox_O)) r)) (J_Rdr_takeInclude_33 s0 σ) (ox_ev m_Rdr_takeInclude (ox_zz ox_ms (n + 1)) 33 0 tl [ox_d, ox_d] [.inl (s0)] σ) := by
  unfold J_Rdr_takeInclude_33
  refine ox_R_to 1 (Y := some (.inl (some (.inl (s0 % 2))), σ)) rfl ?_
  exact ox_R_ret rfl
def F_Rdr_takeInclude  (k1 : Nat) (σ : ox_H) : Option (Int × ox_H) := (F_Rdr_takeLetter 122 (ox_up σ 3 0 5 0 (ox_w ((σ 3 0 5 0) + 1)))).bind fun r1 => (if ((ox_up r1.2 4 k1 1 0 r1.1) 4 k1 1 0) = (-1) then (J_Rdr_takeInclude_33 0 (ox_up r1.2 4 k1 1 0 r1.1)) else (J_Rdr_takeInclude_33 1 (ox_up r1.2 4 k1 1 0 r1.1)))
theorem L_Rdr_takeInclude  (k1 : Nat) (σ : ox_H) (n tl : Nat) : ox_R (fun r => some ((fun r : Int × ox_H => ((.inl (some (.inl r.1)), r.2) : ox_O)) r)) (F_Rdr_takeInclude k1 σ) (ox_zz ox_ms (n + 2) 211 tl [.inr (.inr (3, 0, 0)), .inr (.inr (4, k1, 0))] σ) := by
  unfold F_Rdr_takeInclude
  refine ox_R_of (Y := ox_ev m_Rdr_takeInclude (ox_zz ox_ms (n + 1)) 0 0 tl [.inr (.inr (3, 0, 0)), .inr (.inr (4, k1, 0))] [] σ) rfl ?_
  refine ox_R_to 10 (Y := ox_back m_Rdr_takeInclude 14 1 [.inr (.inr (4, k1, 0))] ((ox_zz ox_ms (n + 1)) 197 tl [.inr (.inr (3, 0, 0)), .inl (122)] (ox_up σ 3 0 5 0 (ox_w ((σ 3 0 5 0) + 1)))) (fun pc9 x9 st9 σ9 => ox_ev m_Rdr_takeInclude (ox_zz ox_ms (n + 1)) pc9 0 tl (ox_kl (m_Rdr_takeInclude.2.2.1 pc9) (ox_xl x9 [.inr (.inr (3, 0, 0)), .inr (.inr (4, k1, 0))])) st9 σ9)) rfl ?_
  refine ox_R_call (fc := (fun r : Int × ox_H => ((.inl (some (.inl r.1)), r.2) : ox_O))) (L_Rdr_takeLetter 122 (ox_up σ 3 0 5 0 (ox_w ((σ 3 0 5 0) + 1))) (n + 0) tl) (fun r1 => ?_)
  refine ox_R_of (Y := ox_ev m_Rdr_takeInclude (ox_zz ox_ms (n + 1)) 17 0 tl [.inr (.inr (3, 0, 0)), .inr (.inr (4, k1, 0))] [.inl (r1.1), .inr (.inr (4, k1, 0))] r1.2) rfl ?_
  refine ox_R_to 5 (Y := if ((ox_up r1.2 4 k1 1 0 r1.1) 4 k1 1 0) = (-1) then ox_ev m_Rdr_takeInclude (ox_zz ox_ms (n + 1)) 32 0 tl [.inr (.inr (3, 0, 0)), .inr (.inr (4, k1, 0))] [] (ox_up r1.2 4 k1 1 0 r1.1) else ox_ev m_Rdr_takeInclude (ox_zz ox_ms (n + 1)) 28 0 tl [.inr (.inr (3, 0, 0)), .inr (.inr (4, k1, 0))] [] (ox_up r1.2 4 k1 1 0 r1.1)) rfl ?_
  refine ox_R_if (fun _ => ?_) (fun _ => ?_)
  · refine ox_R_to 1 (Y := ox_ev m_Rdr_takeInclude (ox_zz ox_ms (n + 1)) 33 0 tl [ox_d, ox_d] [.inl (0)] (ox_up r1.2 4 k1 1 0 r1.1)) rfl ?_
    exact (L_Rdr_takeInclude_33 0 (ox_up r1.2 4 k1 1 0 r1.1) n tl)
  · refine ox_R_to 2 (Y := ox_ev m_Rdr_takeInclude (ox_zz ox_ms (n + 1)) 33 0 tl [ox_d, ox_d] [.inl (1)] (ox_up r1.2 4 k1 1 0 r1.1)) rfl ?_
    exact (L_Rdr_takeInclude_33 1 (ox_up r1.2 4 k1 1 0 r1.1) n tl)
def J_Rdr_read_207  (σ : ox_H) : Option ox_H := some σ
theorem L_Rdr_read_207  (σ : ox_H) (n tl : Nat) : ox_R (fun r => some ((fun r : ox_H => ((.inl none, r) : ox_O)) r)) (J_Rdr_read_207 σ) (ox_ev m_Rdr_read (ox_zz ox_ms (n + 4)) 207 0 tl [ox_d, ox_d, ox_d, ox_d] [] σ) := by
  unfold J_Rdr_read_207
  refine ox_R_to 1 (Y := some (.inl none, σ)) rfl ?_
  exact ox_R_ret rfl
def J_Rdr_read_193  (v1 : Int) (v2 : Nat) (σ : ox_H) : Option ox_H := (F_Sum_forget v1 (ox_up σ 4 v2 0 0 7)).bind fun r1 => (J_Rdr_read_207 r1)
theorem L_Rdr_read_193  (v1 : Int) (v2 : Nat) (σ : ox_H) (n tl : Nat) : ox_R (fun r => some ((fun r : ox_H => ((.inl none, r) : ox_O)) r)) (J_Rdr_read_193 v1 v2 σ) (ox_ev m_Rdr_read (ox_zz ox_ms (n + 4)) 193 0 tl [.inr (.inr (3, 0, 0)), .inl (v1), .inr (.inr (4, v2, 0)), ox_d] [] σ) := by
  unfold J_Rdr_read_193
  refine ox_R_to 7 (Y := ox_back m_Rdr_read 204 2 [] ((ox_zz ox_ms (n + 4)) 231 tl [.inr (.inr (6, 0, 0)), .inl (v1)] (ox_up σ 4 v2 0 0 7)) (fun pc9 x9 st9 σ9 => ox_ev m_Rdr_read (ox_zz ox_ms (n + 4)) pc9 0 tl (ox_kl (m_Rdr_read.2.2.1 pc9) (ox_xl x9 [.inr (.inr (3, 0, 0)), .inl (v1), .inr (.inr (4, v2, 0)), ox_d])) st9 σ9)) rfl ?_
  refine ox_R_call (fc := (fun r : ox_H => ((.inl none, r) : ox_O))) (L_Sum_forget v1 (ox_up σ 4 v2 0 0 7) (n + 3) tl) (fun r1 => ?_)
  refine ox_R_of (Y := ox_ev m_Rdr_read (ox_zz ox_ms (n + 4)) 207 0 tl [ox_d, ox_d, ox_d, ox_d] [] r1) rfl ?_
  exact (L_Rdr_read_207 r1 n tl)
def J_Rdr_read_178  (v1 : Int) (v2 : Nat) (v3 : Int) (σ : ox_H) : Option ox_H := if v3 = 0 then (J_Rdr_read_193 v1 v2 σ) else (if (σ 3 0 5 0) = (σ 3 0 4 0) then (J_Rdr_read_207 σ) else (J_Rdr_read_193 v1 v2 σ))
theorem L_Rdr_read_178  (v1 : Int) (v2 : Nat) (v3 : Int) (σ : ox_H) (n tl : Nat) : ox_R (fun r => some ((fun r : ox_H => ((.inl none, r) : ox_O)) r)) (J_Rdr_read_178 v1 v2 v3 σ) (ox_ev m_Rdr_read (ox_zz ox_ms (n + 4)) 178 0 tl [.inr (.inr (3, 0, 0)), .inl (v1), .inr (.inr (4, v2, 0)), .inl (v3)] [] σ) := by
  unfold J_Rdr_read_178
  refine ox_R_to 2 (Y := if v3 = 0 then ox_ev m_Rdr_read (ox_zz ox_ms (n + 4)) 193 0 tl [.inr (.inr (3, 0, 0)), .inl (v1), .inr (.inr (4, v2, 0)), ox_d] [] σ else ox_ev m_Rdr_read (ox_zz ox_ms (n + 4)) 182 0 tl [.inr (.inr (3, 0, 0)), .inl (v1), .inr (.inr (4, v2, 0)), .inl (v3)] [] σ) rfl ?_
  refine ox_R_if (fun _ => ?_) (fun _ => ?_)
  · exact (L_Rdr_read_193 v1 v2 σ n tl)
  · refine ox_R_to 5 (Y := if (σ 3 0 5 0) = (σ 3 0 4 0) then ox_ev m_Rdr_read (ox_zz ox_ms (n + 4)) 207 0 tl [ox_d, ox_d, ox_d, ox_d] [] σ else ox_ev m_Rdr_read (ox_zz ox_ms (n + 4)) 193 0 tl [.inr (.inr (3, 0, 0)), .inl (v1), .inr (.inr (4, v2, 0)), ox_d] [] σ) rfl ?_
    refine ox_R_if (fun _ => ?_) (fun _ => ?_)
    · exact (L_Rdr_read_207 σ n tl)
    · exact (L_Rdr_read_193 v1 v2 σ n tl)
def F_Rdr_read  (a1 : Int) (k2 : Nat) (σ : ox_H) : Option (ox_H) := (F_Rdr_begin a1 σ).bind fun r2 => ((F_Rdg_forget k2 r2).bind fun r3 => ((F_Rdr_peek r3).bind fun r4 => (if r4 = ((33 : Nat) : Int) then ((F_Rdr_takeInclude k2 (ox_up r3 4 k2 0 0 6)).bind fun r5 => (J_Rdr_read_178 a1 k2 r5.1 r5.2)) else if r4 = ((37 : Nat) : Int) then ((F_Rdr_takeClock k2 (ox_up r3 4 k2 0 0 3)).bind fun r6 => (J_Rdr_read_178 a1 k2 r6.1 r6.2)) else if r4 = ((42 : Nat) : Int) then ((F_Rdr_takeHeading k2 (ox_up r3 4 k2 0 0 0)).bind fun r7 => (J_Rdr_read_178 a1 k2 r7.1 r7.2)) else if r4 = ((58 : Nat) : Int) then ((F_Rdr_takeProperty k2 (ox_up r3 4 k2 0 0 1)).bind fun r8 => (J_Rdr_read_178 a1 k2 r8.1 r8.2)) else if r4 = ((64 : Nat) : Int) then ((F_Rdr_takeDate k2 (ox_up r3 4 k2 0 0 2)).bind fun r9 => (J_Rdr_read_178 a1 k2 r9.1 r9.2)) else if r4 = ((123 : Nat) : Int) then ((F_Rdr_takeCode k2 (ox_up r3 4 k2 0 0 5)).bind fun r10 => (J_Rdr_read_178 a1 k2 r10.1 r10.2)) else if r4 = ((124 : Nat) : Int) then ((F_Rdr_takeRow (ox_up r3 4 k2 0 0 4)).bind fun r11 => (J_Rdr_read_178 a1 k2 r11.1 r11.2)) else (J_Rdr_read_178 a1 k2 0 r3))))
theorem L_Rdr_read  (a1 : Int) (k2 : Nat) (σ : ox_H) (n tl : Nat) : ox_R (fun r => some ((fun r : ox_H => ((.inl none, r) : ox_O)) r)) (F_Rdr_read a1 k2 σ) (ox_zz ox_ms (n + 5) 193 tl [.inr (.inr (3, 0, 0)), .inl (a1), .inr (.inr (4, k2, 0))] σ) := by
  unfold F_Rdr_read
  refine ox_R_of (Y := ox_ev m_Rdr_read (ox_zz ox_ms (n + 4)) 0 0 tl [.inr (.inr (3, 0, 0)), .inl (a1), .inr (.inr (4, k2, 0)), ox_d] [] σ) rfl ?_
  refine ox_R_to 3 (Y := ox_back m_Rdr_read 2 0 [] ((ox_zz ox_ms (n + 4)) 194 tl [.inr (.inr (3, 0, 0)), .inl (a1)] σ) (fun pc9 x9 st9 σ9 => ox_ev m_Rdr_read (ox_zz ox_ms (n + 4)) pc9 0 tl (ox_kl (m_Rdr_read.2.2.1 pc9) (ox_xl x9 [.inr (.inr (3, 0, 0)), .inl (a1), .inr (.inr (4, k2, 0)), ox_d])) st9 σ9)) rfl ?_
  refine ox_R_call (fc := (fun r : ox_H => ((.inl none, r) : ox_O))) (L_Rdr_begin a1 σ (n + 2) tl) (fun r2 => ?_)
  refine ox_R_of (Y := ox_ev m_Rdr_read (ox_zz ox_ms (n + 4)) 5 0 tl [.inr (.inr (3, 0, 0)), .inl (a1), .inr (.inr (4, k2, 0)), ox_d] [] r2) rfl ?_
  refine ox_R_to 2 (Y := ox_back m_Rdr_read 6 2 [] ((ox_zz ox_ms (n + 4)) 214 tl [.inr (.inr (4, k2, 0))] r2) (fun pc9 x9 st9 σ9 => ox_ev m_Rdr_read (ox_zz ox_ms (n + 4)) pc9 0 tl (ox_kl (m_Rdr_read.2.2.1 pc9) (ox_xl x9 [.inr (.inr (3, 0, 0)), .inl (a1), .inr (.inr (4, k2, 0)), ox_d])) st9 σ9)) rfl ?_
  refine ox_R_call (fc := (fun r : ox_H => ((.inl none, r) : ox_O))) (L_Rdg_forget k2 r2 (n + 3) tl) (fun r3 => ?_)
  refine ox_R_of (Y := ox_ev m_Rdr_read (ox_zz ox_ms (n + 4)) 9 0 tl [.inr (.inr (3, 0, 0)), .inl (a1), .inr (.inr (4, k2, 0)), ox_d] [] r3) rfl ?_
  refine ox_R_to 4 (Y := ox_back m_Rdr_read 12 1 [] ((ox_zz ox_ms (n + 4)) 195 tl [.inr (.inr (3, 0, 0))] r3) (fun pc9 x9 st9 σ9 => ox_ev m_Rdr_read (ox_zz ox_ms (n + 4)) pc9 0 tl (ox_kl (m_Rdr_read.2.2.1 pc9) (ox_xl x9 [.inr (.inr (3, 0, 0)), .inl (a1), .inr (.inr (4, k2, 0)), .inl (0)])) st9 σ9)) rfl ?_
  refine ox_R_call (fc := (fun r : Int => ((.inl (some (.inl r)), r3) : ox_O))) (L_Rdr_peek r3 (n + 3) tl) (fun r4 => ?_)
  refine ox_R_of (Y := ox_ev m_Rdr_read (ox_zz ox_ms (n + 4)) 15 0 tl [.inr (.inr (3, 0, 0)), .inl (a1), .inr (.inr (4, k2, 0)), .inl (0)] [.inl (r4)] r3) rfl ?_
  refine ox_R_to 1 (Y := if r4 = ((33 : Nat) : Int) then ox_ev m_Rdr_read (ox_zz ox_ms (n + 4)) 163 0 tl [.inr (.inr (3, 0, 0)), .inl (a1), .inr (.inr (4, k2, 0)), .inl (0)] [] r3 else if r4 = ((37 : Nat) : Int) then ox_ev m_Rdr_read (ox_zz ox_ms (n + 4)) 122 0 tl [.inr (.inr (3, 0, 0)), .inl (a1), .inr (.inr (4, k2, 0)), .inl (0)] [] r3 else if r4 = ((42 : Nat) : Int) then ox_ev m_Rdr_read (ox_zz ox_ms (n + 4)) 80 0 tl [.inr (.inr (3, 0, 0)), .inl (a1), .inr (.inr (4, k2, 0)), .inl (0)] [] r3 else if r4 = ((58 : Nat) : Int) then ox_ev m_Rdr_read (ox_zz ox_ms (n + 4)) 94 0 tl [.inr (.inr (3, 0, 0)), .inl (a1), .inr (.inr (4, k2, 0)), .inl (0)] [] r3 else if r4 = ((64 : Nat) : Int) then ox_ev m_Rdr_read (ox_zz ox_ms (n + 4)) 108 0 tl [.inr (.inr (3, 0, 0)), .inl (a1), .inr (.inr (4, k2, 0)), .inl (0)] [] r3 else if r4 = ((123 : Nat) : Int) then ox_ev m_Rdr_read (ox_zz ox_ms (n + 4)) 149 0 tl [.inr (.inr (3, 0, 0)), .inl (a1), .inr (.inr (4, k2, 0)), .inl (0)] [] r3 else if r4 = ((124 : Nat) : Int) then ox_ev m_Rdr_read (ox_zz ox_ms (n + 4)) 136 0 tl [.inr (.inr (3, 0, 0)), .inl (a1), .inr (.inr (4, k2, 0)), .inl (0)] [] r3 else ox_ev m_Rdr_read (ox_zz ox_ms (n + 4)) 178 0 tl [.inr (.inr (3, 0, 0)), .inl (a1), .inr (.inr (4, k2, 0)), .inl (0)] [] r3) rfl ?_
  refine ox_R_if (fun _ => ?_) (fun _ => ?_)
  · refine ox_R_to 6 (Y := ox_back m_Rdr_read 171 1 [] ((ox_zz ox_ms (n + 4)) 211 tl [.inr (.inr (3, 0, 0)), .inr (.inr (4, k2, 0))] (ox_up r3 4 k2 0 0 6)) (fun pc9 x9 st9 σ9 => ox_ev m_Rdr_read (ox_zz ox_ms (n + 4)) pc9 0 tl (ox_kl (m_Rdr_read.2.2.1 pc9) (ox_xl x9 [.inr (.inr (3, 0, 0)), .inl (a1), .inr (.inr (4, k2, 0)), .inl (0)])) st9 σ9)) rfl ?_
    refine ox_R_call (fc := (fun r : Int × ox_H => ((.inl (some (.inl r.1)), r.2) : ox_O))) (L_Rdr_takeInclude k2 (ox_up r3 4 k2 0 0 6) (n + 2) tl) (fun r5 => ?_)
    refine ox_R_of (Y := ox_ev m_Rdr_read (ox_zz ox_ms (n + 4)) 174 0 tl [.inr (.inr (3, 0, 0)), .inl (a1), .inr (.inr (4, k2, 0)), .inl (0)] [.inl (r5.1)] r5.2) rfl ?_
    refine ox_R_to 2 (Y := ox_ev m_Rdr_read (ox_zz ox_ms (n + 4)) 178 0 tl [.inr (.inr (3, 0, 0)), .inl (a1), .inr (.inr (4, k2, 0)), .inl (r5.1)] [] r5.2) rfl ?_
    exact (L_Rdr_read_178 a1 k2 r5.1 r5.2 n tl)
  refine ox_R_if (fun _ => ?_) (fun _ => ?_)
  · refine ox_R_to 6 (Y := ox_back m_Rdr_read 129 1 [] ((ox_zz ox_ms (n + 4)) 207 tl [.inr (.inr (3, 0, 0)), .inr (.inr (4, k2, 0))] (ox_up r3 4 k2 0 0 3)) (fun pc9 x9 st9 σ9 => ox_ev m_Rdr_read (ox_zz ox_ms (n + 4)) pc9 0 tl (ox_kl (m_Rdr_read.2.2.1 pc9) (ox_xl x9 [.inr (.inr (3, 0, 0)), .inl (a1), .inr (.inr (4, k2, 0)), .inl (0)])) st9 σ9)) rfl ?_
    refine ox_R_call (fc := (fun r : Int × ox_H => ((.inl (some (.inl r.1)), r.2) : ox_O))) (L_Rdr_takeClock k2 (ox_up r3 4 k2 0 0 3) (n + 2) tl) (fun r6 => ?_)
    refine ox_R_of (Y := ox_ev m_Rdr_read (ox_zz ox_ms (n + 4)) 132 0 tl [.inr (.inr (3, 0, 0)), .inl (a1), .inr (.inr (4, k2, 0)), .inl (0)] [.inl (r6.1)] r6.2) rfl ?_
    refine ox_R_to 2 (Y := ox_ev m_Rdr_read (ox_zz ox_ms (n + 4)) 178 0 tl [.inr (.inr (3, 0, 0)), .inl (a1), .inr (.inr (4, k2, 0)), .inl (r6.1)] [] r6.2) rfl ?_
    exact (L_Rdr_read_178 a1 k2 r6.1 r6.2 n tl)
  refine ox_R_if (fun _ => ?_) (fun _ => ?_)
  · refine ox_R_to 6 (Y := ox_back m_Rdr_read 87 1 [] ((ox_zz ox_ms (n + 4)) 200 tl [.inr (.inr (3, 0, 0)), .inr (.inr (4, k2, 0))] (ox_up r3 4 k2 0 0 0)) (fun pc9 x9 st9 σ9 => ox_ev m_Rdr_read (ox_zz ox_ms (n + 4)) pc9 0 tl (ox_kl (m_Rdr_read.2.2.1 pc9) (ox_xl x9 [.inr (.inr (3, 0, 0)), .inl (a1), .inr (.inr (4, k2, 0)), .inl (0)])) st9 σ9)) rfl ?_
    refine ox_R_call (fc := (fun r : Int × ox_H => ((.inl (some (.inl r.1)), r.2) : ox_O))) (L_Rdr_takeHeading k2 (ox_up r3 4 k2 0 0 0) (n + 0) tl) (fun r7 => ?_)
    refine ox_R_of (Y := ox_ev m_Rdr_read (ox_zz ox_ms (n + 4)) 90 0 tl [.inr (.inr (3, 0, 0)), .inl (a1), .inr (.inr (4, k2, 0)), .inl (0)] [.inl (r7.1)] r7.2) rfl ?_
    refine ox_R_to 2 (Y := ox_ev m_Rdr_read (ox_zz ox_ms (n + 4)) 178 0 tl [.inr (.inr (3, 0, 0)), .inl (a1), .inr (.inr (4, k2, 0)), .inl (r7.1)] [] r7.2) rfl ?_
    exact (L_Rdr_read_178 a1 k2 r7.1 r7.2 n tl)
  refine ox_R_if (fun _ => ?_) (fun _ => ?_)
  · refine ox_R_to 6 (Y := ox_back m_Rdr_read 101 1 [] ((ox_zz ox_ms (n + 4)) 205 tl [.inr (.inr (3, 0, 0)), .inr (.inr (4, k2, 0))] (ox_up r3 4 k2 0 0 1)) (fun pc9 x9 st9 σ9 => ox_ev m_Rdr_read (ox_zz ox_ms (n + 4)) pc9 0 tl (ox_kl (m_Rdr_read.2.2.1 pc9) (ox_xl x9 [.inr (.inr (3, 0, 0)), .inl (a1), .inr (.inr (4, k2, 0)), .inl (0)])) st9 σ9)) rfl ?_
    refine ox_R_call (fc := (fun r : Int × ox_H => ((.inl (some (.inl r.1)), r.2) : ox_O))) (L_Rdr_takeProperty k2 (ox_up r3 4 k2 0 0 1) (n + 2) tl) (fun r8 => ?_)
    refine ox_R_of (Y := ox_ev m_Rdr_read (ox_zz ox_ms (n + 4)) 104 0 tl [.inr (.inr (3, 0, 0)), .inl (a1), .inr (.inr (4, k2, 0)), .inl (0)] [.inl (r8.1)] r8.2) rfl ?_
    refine ox_R_to 2 (Y := ox_ev m_Rdr_read (ox_zz ox_ms (n + 4)) 178 0 tl [.inr (.inr (3, 0, 0)), .inl (a1), .inr (.inr (4, k2, 0)), .inl (r8.1)] [] r8.2) rfl ?_
    exact (L_Rdr_read_178 a1 k2 r8.1 r8.2 n tl)
  refine ox_R_if (fun _ => ?_) (fun _ => ?_)
  · refine ox_R_to 6 (Y := ox_back m_Rdr_read 115 1 [] ((ox_zz ox_ms (n + 4)) 206 tl [.inr (.inr (3, 0, 0)), .inr (.inr (4, k2, 0))] (ox_up r3 4 k2 0 0 2)) (fun pc9 x9 st9 σ9 => ox_ev m_Rdr_read (ox_zz ox_ms (n + 4)) pc9 0 tl (ox_kl (m_Rdr_read.2.2.1 pc9) (ox_xl x9 [.inr (.inr (3, 0, 0)), .inl (a1), .inr (.inr (4, k2, 0)), .inl (0)])) st9 σ9)) rfl ?_
    refine ox_R_call (fc := (fun r : Int × ox_H => ((.inl (some (.inl r.1)), r.2) : ox_O))) (L_Rdr_takeDate k2 (ox_up r3 4 k2 0 0 2) (n + 2) tl) (fun r9 => ?_)
    refine ox_R_of (Y := ox_ev m_Rdr_read (ox_zz ox_ms (n + 4)) 118 0 tl [.inr (.inr (3, 0, 0)), .inl (a1), .inr (.inr (4, k2, 0)), .inl (0)] [.inl (r9.1)] r9.2) rfl ?_
    refine ox_R_to 2 (Y := ox_ev m_Rdr_read (ox_zz ox_ms (n + 4)) 178 0 tl [.inr (.inr (3, 0, 0)), .inl (a1), .inr (.inr (4, k2, 0)), .inl (r9.1)] [] r9.2) rfl ?_
    exact (L_Rdr_read_178 a1 k2 r9.1 r9.2 n tl)
  refine ox_R_if (fun _ => ?_) (fun _ => ?_)
  · refine ox_R_to 6 (Y := ox_back m_Rdr_read 156 1 [] ((ox_zz ox_ms (n + 4)) 210 tl [.inr (.inr (3, 0, 0)), .inr (.inr (4, k2, 0))] (ox_up r3 4 k2 0 0 5)) (fun pc9 x9 st9 σ9 => ox_ev m_Rdr_read (ox_zz ox_ms (n + 4)) pc9 0 tl (ox_kl (m_Rdr_read.2.2.1 pc9) (ox_xl x9 [.inr (.inr (3, 0, 0)), .inl (a1), .inr (.inr (4, k2, 0)), .inl (0)])) st9 σ9)) rfl ?_
    refine ox_R_call (fc := (fun r : Int × ox_H => ((.inl (some (.inl r.1)), r.2) : ox_O))) (L_Rdr_takeCode k2 (ox_up r3 4 k2 0 0 5) (n + 0) tl) (fun r10 => ?_)
    refine ox_R_of (Y := ox_ev m_Rdr_read (ox_zz ox_ms (n + 4)) 159 0 tl [.inr (.inr (3, 0, 0)), .inl (a1), .inr (.inr (4, k2, 0)), .inl (0)] [.inl (r10.1)] r10.2) rfl ?_
    refine ox_R_to 2 (Y := ox_ev m_Rdr_read (ox_zz ox_ms (n + 4)) 178 0 tl [.inr (.inr (3, 0, 0)), .inl (a1), .inr (.inr (4, k2, 0)), .inl (r10.1)] [] r10.2) rfl ?_
    exact (L_Rdr_read_178 a1 k2 r10.1 r10.2 n tl)
  refine ox_R_if (fun _ => ?_) (fun _ => ?_)
  · refine ox_R_to 5 (Y := ox_back m_Rdr_read 142 1 [] ((ox_zz ox_ms (n + 4)) 208 tl [.inr (.inr (3, 0, 0))] (ox_up r3 4 k2 0 0 4)) (fun pc9 x9 st9 σ9 => ox_ev m_Rdr_read (ox_zz ox_ms (n + 4)) pc9 0 tl (ox_kl (m_Rdr_read.2.2.1 pc9) (ox_xl x9 [.inr (.inr (3, 0, 0)), .inl (a1), .inr (.inr (4, k2, 0)), .inl (0)])) st9 σ9)) rfl ?_
    refine ox_R_call (fc := (fun r : Int × ox_H => ((.inl (some (.inl r.1)), r.2) : ox_O))) (L_Rdr_takeRow (ox_up r3 4 k2 0 0 4) (n + 0) tl) (fun r11 => ?_)
    refine ox_R_of (Y := ox_ev m_Rdr_read (ox_zz ox_ms (n + 4)) 145 0 tl [.inr (.inr (3, 0, 0)), .inl (a1), .inr (.inr (4, k2, 0)), .inl (0)] [.inl (r11.1)] r11.2) rfl ?_
    refine ox_R_to 2 (Y := ox_ev m_Rdr_read (ox_zz ox_ms (n + 4)) 178 0 tl [.inr (.inr (3, 0, 0)), .inl (a1), .inr (.inr (4, k2, 0)), .inl (r11.1)] [] r11.2) rfl ?_
    exact (L_Rdr_read_178 a1 k2 r11.1 r11.2 n tl)
  · exact (L_Rdr_read_178 a1 k2 0 r3 n tl)
def J_Otl_reading_21  (σ : ox_H) : Option Nat := some 60
theorem L_Otl_reading_21  (σ : ox_H) (n tl : Nat) : ox_R (fun r => some ((fun r : Nat => ((.inl (some (.inr (.inr (4, r, 0)))), σ) : ox_O)) r)) (J_Otl_reading_21 σ) (ox_ev m_Otl_reading (ox_zz ox_ms (n + 0)) 21 0 tl [.inr (.inr (2, 0, 0)), ox_d] [] σ) := by
  unfold J_Otl_reading_21
  refine ox_R_to 3 (Y := some (.inl (some (.inr (.inr (4, 60, 0)))), σ)) rfl ?_
  exact ox_R_ret rfl
def F_Otl_reading  (a1 : Int) (σ : ox_H) : Option (Nat) := if a1 < 0 then (J_Otl_reading_21 σ) else (if (σ 1 0 4 0) ≤ a1 then (J_Otl_reading_21 σ) else (if a1 < 60 then (if 0 ≤ a1 ∧ a1.toNat < 60 then (some a1.toNat) else none) else (J_Otl_reading_21 σ)))
theorem L_Otl_reading  (a1 : Int) (σ : ox_H) (n tl : Nat) : ox_R (fun r => some ((fun r : Nat => ((.inl (some (.inr (.inr (4, r, 0)))), σ) : ox_O)) r)) (F_Otl_reading a1 σ) (ox_zz ox_ms (n + 1) 172 tl [.inr (.inr (2, 0, 0)), .inl (a1)] σ) := by
  unfold F_Otl_reading
  refine ox_R_of (Y := ox_ev m_Otl_reading (ox_zz ox_ms (n + 0)) 0 0 tl [.inr (.inr (2, 0, 0)), .inl (a1)] [] σ) rfl ?_
  refine ox_R_to 2 (Y := if a1 < 0 then ox_ev m_Otl_reading (ox_zz ox_ms (n + 0)) 21 0 tl [.inr (.inr (2, 0, 0)), ox_d] [] σ else ox_ev m_Otl_reading (ox_zz ox_ms (n + 0)) 4 0 tl [.inr (.inr (2, 0, 0)), .inl (a1)] [] σ) rfl ?_
  refine ox_R_if (fun _ => ?_) (fun _ => ?_)
  · exact (L_Otl_reading_21 σ n tl)
  · refine ox_R_to 5 (Y := if (σ 1 0 4 0) ≤ a1 then ox_ev m_Otl_reading (ox_zz ox_ms (n + 0)) 21 0 tl [.inr (.inr (2, 0, 0)), ox_d] [] σ else ox_ev m_Otl_reading (ox_zz ox_ms (n + 0)) 15 0 tl [.inr (.inr (2, 0, 0)), .inl (a1)] [] σ) rfl ?_
    refine ox_R_if (fun _ => ?_) (fun _ => ?_)
    · exact (L_Otl_reading_21 σ n tl)
    · refine ox_R_to 3 (Y := if a1 < 60 then ox_ev m_Otl_reading (ox_zz ox_ms (n + 0)) 26 0 tl [.inr (.inr (2, 0, 0)), .inl (a1)] [] σ else ox_ev m_Otl_reading (ox_zz ox_ms (n + 0)) 21 0 tl [.inr (.inr (2, 0, 0)), ox_d] [] σ) rfl ?_
      refine ox_R_if (fun _ => ?_) (fun _ => ?_)
      · refine ox_R_to 4 (Y := if 0 ≤ a1 ∧ a1.toNat < 60 then ox_ev m_Otl_reading (ox_zz ox_ms (n + 0)) 32 0 tl [.inr (.inr (2, 0, 0)), .inl (a1)] [.inr (.inr (4, a1.toNat, 0))] σ else none) rfl ?_
        refine ox_R_if (fun _ => ?_) (fun _ => ox_R_none)
        refine ox_R_to 1 (Y := some (.inl (some (.inr (.inr (4, a1.toNat, 0)))), σ)) rfl ?_
        exact ox_R_ret rfl
      · exact (L_Otl_reading_21 σ n tl)
def J_Otl_levelOf_22  (s0 : Int) (σ : ox_H) : Option Int := some s0
theorem L_Otl_levelOf_22  (s0 : Int) (σ : ox_H) (n tl : Nat) : ox_R (fun r => some ((fun r : Int => ((.inl (some (.inl r)), σ) : ox_O)) r)) (J_Otl_levelOf_22 s0 σ) (ox_ev m_Otl_levelOf (ox_zz ox_ms (n + 0)) 22 0 tl [ox_d, ox_d] [.inl (s0)] σ) := by
  unfold J_Otl_levelOf_22
  refine ox_R_to 1 (Y := some (.inl (some (.inl (s0))), σ)) rfl ?_
  exact ox_R_ret rfl
def J_Otl_levelOf_21  (σ : ox_H) : Option Int := (J_Otl_levelOf_22 0 σ)
theorem L_Otl_levelOf_21  (σ : ox_H) (n tl : Nat) : ox_R (fun r => some ((fun r : Int => ((.inl (some (.inl r)), σ) : ox_O)) r)) (J_Otl_levelOf_21 σ) (ox_ev m_Otl_levelOf (ox_zz ox_ms (n + 0)) 21 0 tl [ox_d, ox_d] [] σ) := by
  unfold J_Otl_levelOf_21
  refine ox_R_to 1 (Y := ox_ev m_Otl_levelOf (ox_zz ox_ms (n + 0)) 22 0 tl [ox_d, ox_d] [.inl (0)] σ) rfl ?_
  exact (L_Otl_levelOf_22 0 σ n tl)
def F_Otl_levelOf  (a1 : Int) (σ : ox_H) : Option (Int) := if a1 < 0 then (J_Otl_levelOf_21 σ) else (if (σ 2 0 9 0) ≤ a1 then (J_Otl_levelOf_21 σ) else (if 0 ≤ a1 ∧ a1.toNat < 60 then (J_Otl_levelOf_22 (σ 2 0 6 a1.toNat) σ) else none))
theorem L_Otl_levelOf  (a1 : Int) (σ : ox_H) (n tl : Nat) : ox_R (fun r => some ((fun r : Int => ((.inl (some (.inl r)), σ) : ox_O)) r)) (F_Otl_levelOf a1 σ) (ox_zz ox_ms (n + 1) 177 tl [.inr (.inr (2, 0, 0)), .inl (a1)] σ) := by
  unfold F_Otl_levelOf
  refine ox_R_of (Y := ox_ev m_Otl_levelOf (ox_zz ox_ms (n + 0)) 0 0 tl [.inr (.inr (2, 0, 0)), .inl (a1)] [] σ) rfl ?_
  refine ox_R_to 2 (Y := if a1 < 0 then ox_ev m_Otl_levelOf (ox_zz ox_ms (n + 0)) 21 0 tl [ox_d, ox_d] [] σ else ox_ev m_Otl_levelOf (ox_zz ox_ms (n + 0)) 4 0 tl [.inr (.inr (2, 0, 0)), .inl (a1)] [] σ) rfl ?_
  refine ox_R_if (fun _ => ?_) (fun _ => ?_)
  · exact (L_Otl_levelOf_21 σ n tl)
  · refine ox_R_to 4 (Y := if (σ 2 0 9 0) ≤ a1 then ox_ev m_Otl_levelOf (ox_zz ox_ms (n + 0)) 21 0 tl [ox_d, ox_d] [] σ else ox_ev m_Otl_levelOf (ox_zz ox_ms (n + 0)) 12 0 tl [.inr (.inr (2, 0, 0)), .inl (a1)] [] σ) rfl ?_
    refine ox_R_if (fun _ => ?_) (fun _ => ?_)
    · exact (L_Otl_levelOf_21 σ n tl)
    · refine ox_R_to 4 (Y := if 0 ≤ a1 ∧ a1.toNat < 60 then ox_ev m_Otl_levelOf (ox_zz ox_ms (n + 0)) 18 0 tl [.inr (.inr (2, 0, 0)), .inl (a1)] [.inl (σ 2 0 6 a1.toNat)] σ else none) rfl ?_
      refine ox_R_if (fun _ => ?_) (fun _ => ox_R_none)
      refine ox_R_to 1 (Y := ox_ev m_Otl_levelOf (ox_zz ox_ms (n + 0)) 22 0 tl [ox_d, ox_d] [.inl (σ 2 0 6 a1.toNat)] σ) rfl ?_
      exact (L_Otl_levelOf_22 (σ 2 0 6 a1.toNat) σ n tl)
def J_Otl_tagsOf_22  (s0 : Int) (σ : ox_H) : Option Int := some s0
theorem L_Otl_tagsOf_22  (s0 : Int) (σ : ox_H) (n tl : Nat) : ox_R (fun r => some ((fun r : Int => ((.inl (some (.inl r)), σ) : ox_O)) r)) (J_Otl_tagsOf_22 s0 σ) (ox_ev m_Otl_tagsOf (ox_zz ox_ms (n + 0)) 22 0 tl [ox_d, ox_d] [.inl (s0)] σ) := by
  unfold J_Otl_tagsOf_22
  refine ox_R_to 1 (Y := some (.inl (some (.inl (s0))), σ)) rfl ?_
  exact ox_R_ret rfl
def J_Otl_tagsOf_21  (σ : ox_H) : Option Int := (J_Otl_tagsOf_22 0 σ)
theorem L_Otl_tagsOf_21  (σ : ox_H) (n tl : Nat) : ox_R (fun r => some ((fun r : Int => ((.inl (some (.inl r)), σ) : ox_O)) r)) (J_Otl_tagsOf_21 σ) (ox_ev m_Otl_tagsOf (ox_zz ox_ms (n + 0)) 21 0 tl [ox_d, ox_d] [] σ) := by
  unfold J_Otl_tagsOf_21
  refine ox_R_to 1 (Y := ox_ev m_Otl_tagsOf (ox_zz ox_ms (n + 0)) 22 0 tl [ox_d, ox_d] [.inl (0)] σ) rfl ?_
  exact (L_Otl_tagsOf_22 0 σ n tl)
def F_Otl_tagsOf  (a1 : Int) (σ : ox_H) : Option (Int) := if a1 < 0 then (J_Otl_tagsOf_21 σ) else (if (σ 2 0 9 0) ≤ a1 then (J_Otl_tagsOf_21 σ) else (if 0 ≤ a1 ∧ a1.toNat < 60 then (J_Otl_tagsOf_22 (σ 2 0 8 a1.toNat) σ) else none))
theorem L_Otl_tagsOf  (a1 : Int) (σ : ox_H) (n tl : Nat) : ox_R (fun r => some ((fun r : Int => ((.inl (some (.inl r)), σ) : ox_O)) r)) (F_Otl_tagsOf a1 σ) (ox_zz ox_ms (n + 1) 176 tl [.inr (.inr (2, 0, 0)), .inl (a1)] σ) := by
  unfold F_Otl_tagsOf
  refine ox_R_of (Y := ox_ev m_Otl_tagsOf (ox_zz ox_ms (n + 0)) 0 0 tl [.inr (.inr (2, 0, 0)), .inl (a1)] [] σ) rfl ?_
  refine ox_R_to 2 (Y := if a1 < 0 then ox_ev m_Otl_tagsOf (ox_zz ox_ms (n + 0)) 21 0 tl [ox_d, ox_d] [] σ else ox_ev m_Otl_tagsOf (ox_zz ox_ms (n + 0)) 4 0 tl [.inr (.inr (2, 0, 0)), .inl (a1)] [] σ) rfl ?_
  refine ox_R_if (fun _ => ?_) (fun _ => ?_)
  · exact (L_Otl_tagsOf_21 σ n tl)
  · refine ox_R_to 4 (Y := if (σ 2 0 9 0) ≤ a1 then ox_ev m_Otl_tagsOf (ox_zz ox_ms (n + 0)) 21 0 tl [ox_d, ox_d] [] σ else ox_ev m_Otl_tagsOf (ox_zz ox_ms (n + 0)) 12 0 tl [.inr (.inr (2, 0, 0)), .inl (a1)] [] σ) rfl ?_
    refine ox_R_if (fun _ => ?_) (fun _ => ?_)
    · exact (L_Otl_tagsOf_21 σ n tl)
    · refine ox_R_to 4 (Y := if 0 ≤ a1 ∧ a1.toNat < 60 then ox_ev m_Otl_tagsOf (ox_zz ox_ms (n + 0)) 18 0 tl [.inr (.inr (2, 0, 0)), .inl (a1)] [.inl (σ 2 0 8 a1.toNat)] σ else none) rfl ?_
      refine ox_R_if (fun _ => ?_) (fun _ => ox_R_none)
      refine ox_R_to 1 (Y := ox_ev m_Otl_tagsOf (ox_zz ox_ms (n + 0)) 22 0 tl [ox_d, ox_d] [.inl (σ 2 0 8 a1.toNat)] σ) rfl ?_
      exact (L_Otl_tagsOf_22 (σ 2 0 8 a1.toNat) σ n tl)
def J_Otl_addEntry_84  (v1 : Int) (v2 : Int) (v3 : Int) (s0 : Int) (s1 : Int) (σ : ox_H) : Option ox_H := if 0 ≤ s1 ∧ s1.toNat < 60 then ((F_Otl_reading v1 (ox_up σ 2 0 7 s1.toNat s0)).bind fun r1 => ((F_Otl_tagsOf v3 (ox_up σ 2 0 7 s1.toNat s0)).bind fun r2 => (if 0 ≤ v2 ∧ v2.toNat < 60 then (some (ox_up (ox_up σ 2 0 7 s1.toNat s0) 2 0 8 v2.toNat (ox_or (σ 4 r1 11 0) r2))) else none))) else none
theorem L_Otl_addEntry_84  (v1 : Int) (v2 : Int) (v3 : Int) (s0 : Int) (s1 : Int) (σ : ox_H) (n tl : Nat) : ox_R (fun r => some ((fun r : ox_H => ((.inl none, r) : ox_O)) r)) (J_Otl_addEntry_84 v1 v2 v3 s0 s1 σ) (ox_ev m_Otl_addEntry (ox_zz ox_ms (n + 1)) 84 0 tl [.inr (.inr (2, 0, 0)), .inl (v1), .inl (v2), .inl (v3)] [.inl (s0), .inl (s1), .inr (.inr (102, 0, 7))] σ) := by
  unfold J_Otl_addEntry_84
  refine ox_R_to 1 (Y := if 0 ≤ s1 ∧ s1.toNat < 60 then ox_ev m_Otl_addEntry (ox_zz ox_ms (n + 1)) 85 0 tl [.inr (.inr (2, 0, 0)), .inl (v1), .inl (v2), .inl (v3)] [] (ox_up σ 2 0 7 s1.toNat s0) else none) rfl ?_
  refine ox_R_if (fun _ => ?_) (fun _ => ox_R_none)
  refine ox_R_to 6 (Y := ox_back m_Otl_addEntry 92 1 [.inl (v2), .inr (.inr (102, 0, 8))] ((ox_zz ox_ms (n + 1)) 172 tl [.inr (.inr (2, 0, 0)), .inl (v1)] (ox_up σ 2 0 7 s1.toNat s0)) (fun pc9 x9 st9 σ9 => ox_ev m_Otl_addEntry (ox_zz ox_ms (n + 1)) pc9 0 tl (ox_kl (m_Otl_addEntry.2.2.1 pc9) (ox_xl x9 [.inr (.inr (2, 0, 0)), .inl (v1), .inl (v2), .inl (v3)])) st9 σ9)) rfl ?_
  refine ox_R_call (fc := (fun r : Nat => ((.inl (some (.inr (.inr (4, r, 0)))), (ox_up σ 2 0 7 s1.toNat s0)) : ox_O))) (L_Otl_reading v1 (ox_up σ 2 0 7 s1.toNat s0) (n + 0) tl) (fun r1 => ?_)
  refine ox_R_of (Y := ox_ev m_Otl_addEntry (ox_zz ox_ms (n + 1)) 95 0 tl [.inr (.inr (2, 0, 0)), .inl (v1), .inl (v2), .inl (v3)] [.inr (.inr (4, r1, 0)), .inl (v2), .inr (.inr (102, 0, 8))] (ox_up σ 2 0 7 s1.toNat s0)) rfl ?_
  refine ox_R_to 4 (Y := ox_back m_Otl_addEntry 100 1 [.inl (σ 4 r1 11 0), .inl (v2), .inr (.inr (102, 0, 8))] ((ox_zz ox_ms (n + 1)) 176 tl [.inr (.inr (2, 0, 0)), .inl (v3)] (ox_up σ 2 0 7 s1.toNat s0)) (fun pc9 x9 st9 σ9 => ox_ev m_Otl_addEntry (ox_zz ox_ms (n + 1)) pc9 0 tl (ox_kl (m_Otl_addEntry.2.2.1 pc9) (ox_xl x9 [.inr (.inr (2, 0, 0)), .inl (v1), .inl (v2), .inl (v3)])) st9 σ9)) rfl ?_
  refine ox_R_call (fc := (fun r : Int => ((.inl (some (.inl r)), (ox_up σ 2 0 7 s1.toNat s0)) : ox_O))) (L_Otl_tagsOf v3 (ox_up σ 2 0 7 s1.toNat s0) (n + 0) tl) (fun r2 => ?_)
  refine ox_R_of (Y := ox_ev m_Otl_addEntry (ox_zz ox_ms (n + 1)) 103 0 tl [.inr (.inr (2, 0, 0)), .inl (v1), .inl (v2), .inl (v3)] [.inl (r2), .inl (σ 4 r1 11 0), .inl (v2), .inr (.inr (102, 0, 8))] (ox_up σ 2 0 7 s1.toNat s0)) rfl ?_
  refine ox_R_to 2 (Y := if 0 ≤ v2 ∧ v2.toNat < 60 then ox_ev m_Otl_addEntry (ox_zz ox_ms (n + 1)) 105 0 tl [.inr (.inr (2, 0, 0)), .inl (v1), .inl (v2), .inl (v3)] [] (ox_up (ox_up σ 2 0 7 s1.toNat s0) 2 0 8 v2.toNat (ox_or (σ 4 r1 11 0) r2)) else none) rfl ?_
  refine ox_R_if (fun _ => ?_) (fun _ => ox_R_none)
  refine ox_R_to 1 (Y := some (.inl none, (ox_up (ox_up σ 2 0 7 s1.toNat s0) 2 0 8 v2.toNat (ox_or (σ 4 r1 11 0) r2)))) rfl ?_
  exact ox_R_ret rfl
def J_Otl_addEntry_70  (v1 : Int) (v2 : Int) (v3 : Int) (σ : ox_H) : Option ox_H := if v3 < 0 then (J_Otl_addEntry_84 v1 v2 v3 (-1) v2 σ) else (J_Otl_addEntry_84 v1 v2 v3 v3 v2 σ)
theorem L_Otl_addEntry_70  (v1 : Int) (v2 : Int) (v3 : Int) (σ : ox_H) (n tl : Nat) : ox_R (fun r => some ((fun r : ox_H => ((.inl none, r) : ox_O)) r)) (J_Otl_addEntry_70 v1 v2 v3 σ) (ox_ev m_Otl_addEntry (ox_zz ox_ms (n + 1)) 70 0 tl [.inr (.inr (2, 0, 0)), .inl (v1), .inl (v2), .inl (v3)] [] σ) := by
  unfold J_Otl_addEntry_70
  refine ox_R_to 5 (Y := if v3 < 0 then ox_ev m_Otl_addEntry (ox_zz ox_ms (n + 1)) 83 0 tl [.inr (.inr (2, 0, 0)), .inl (v1), .inl (v2), .inl (v3)] [.inl (v2), .inr (.inr (102, 0, 7))] σ else ox_ev m_Otl_addEntry (ox_zz ox_ms (n + 1)) 79 0 tl [.inr (.inr (2, 0, 0)), .inl (v1), .inl (v2), .inl (v3)] [.inl (v2), .inr (.inr (102, 0, 7))] σ) rfl ?_
  refine ox_R_if (fun _ => ?_) (fun _ => ?_)
  · refine ox_R_to 1 (Y := ox_ev m_Otl_addEntry (ox_zz ox_ms (n + 1)) 84 0 tl [.inr (.inr (2, 0, 0)), .inl (v1), .inl (v2), .inl (v3)] [.inl ((-1)), .inl (v2), .inr (.inr (102, 0, 7))] σ) rfl ?_
    exact (L_Otl_addEntry_84 v1 v2 v3 (-1) v2 σ n tl)
  · refine ox_R_to 2 (Y := ox_ev m_Otl_addEntry (ox_zz ox_ms (n + 1)) 84 0 tl [.inr (.inr (2, 0, 0)), .inl (v1), .inl (v2), .inl (v3)] [.inl (v3), .inl (v2), .inr (.inr (102, 0, 7))] σ) rfl ?_
    exact (L_Otl_addEntry_84 v1 v2 v3 v3 v2 σ n tl)
def B_Otl_addEntry_47  (v1 : Int) (v2 : Int) (σ : ox_H) : (Int) → Option (((Int) ⊕ ox_H)) := fun v3 => if v3 < 0 then ((J_Otl_addEntry_70 v1 v2 v3 σ).map .inr) else ((F_Otl_levelOf v3 σ).bind fun r3 => ((F_Otl_levelOf v2 σ).bind fun r4 => (if r3 < r4 then ((J_Otl_addEntry_70 v1 v2 v3 σ).map .inr) else (some (.inl (ox_w (v3 + (-1))))))))
def J_Otl_addEntry_47  (v1 : Int) (v2 : Int) (v3 : Int) (σ : ox_H) : Option (ox_H) := ox_lp (B_Otl_addEntry_47 v1 v2 σ) ox_fu v3
theorem L_Otl_addEntry_47  (v1 : Int) (v2 : Int) (v3 : Int) (σ : ox_H) (n tl : Nat) : ox_R (fun r => some ((fun r : ox_H => ((.inl none, r) : ox_O)) r)) (J_Otl_addEntry_47 v1 v2 v3 σ) (ox_ev m_Otl_addEntry (ox_zz ox_ms (n + 1)) 47 0 tl [.inr (.inr (2, 0, 0)), .inl (v1), .inl (v2), .inl (v3)] [] σ) := by
  unfold J_Otl_addEntry_47
  refine ox_R_lp (ψ := (fun (v3 : Int) => ox_ev m_Otl_addEntry (ox_zz ox_ms (n + 1)) 47 0 tl [.inr (.inr (2, 0, 0)), .inl (v1), .inl (v2), .inl (v3)] [] σ)) ?_ ox_fu v3
  intro s
  revert s; intro v3
  unfold B_Otl_addEntry_47
  refine ox_R_to 2 (Y := if v3 < 0 then ox_ev m_Otl_addEntry (ox_zz ox_ms (n + 1)) 70 0 tl [.inr (.inr (2, 0, 0)), .inl (v1), .inl (v2), .inl (v3)] [] σ else ox_ev m_Otl_addEntry (ox_zz ox_ms (n + 1)) 51 0 tl [.inr (.inr (2, 0, 0)), .inl (v1), .inl (v2), .inl (v3)] [] σ) rfl ?_
  refine ox_R_if (fun _ => ?_) (fun _ => ?_)
  · exact ox_R_map ((L_Otl_addEntry_70 v1 v2 v3 σ n tl))
  · refine ox_R_to 3 (Y := ox_back m_Otl_addEntry 53 1 [] ((ox_zz ox_ms (n + 1)) 177 tl [.inr (.inr (2, 0, 0)), .inl (v3)] σ) (fun pc9 x9 st9 σ9 => ox_ev m_Otl_addEntry (ox_zz ox_ms (n + 1)) pc9 0 tl (ox_kl (m_Otl_addEntry.2.2.1 pc9) (ox_xl x9 [.inr (.inr (2, 0, 0)), .inl (v1), .inl (v2), .inl (v3)])) st9 σ9)) rfl ?_
    refine ox_R_call (fc := (fun r : Int => ((.inl (some (.inl r)), σ) : ox_O))) (L_Otl_levelOf v3 σ (n + 0) tl) (fun r3 => ?_)
    refine ox_R_of (Y := ox_ev m_Otl_addEntry (ox_zz ox_ms (n + 1)) 56 0 tl [.inr (.inr (2, 0, 0)), .inl (v1), .inl (v2), .inl (v3)] [.inl (r3)] σ) rfl ?_
    refine ox_R_to 3 (Y := ox_back m_Otl_addEntry 58 1 [.inl (r3)] ((ox_zz ox_ms (n + 1)) 177 tl [.inr (.inr (2, 0, 0)), .inl (v2)] σ) (fun pc9 x9 st9 σ9 => ox_ev m_Otl_addEntry (ox_zz ox_ms (n + 1)) pc9 0 tl (ox_kl (m_Otl_addEntry.2.2.1 pc9) (ox_xl x9 [.inr (.inr (2, 0, 0)), .inl (v1), .inl (v2), .inl (v3)])) st9 σ9)) rfl ?_
    refine ox_R_call (fc := (fun r : Int => ((.inl (some (.inl r)), σ) : ox_O))) (L_Otl_levelOf v2 σ (n + 0) tl) (fun r4 => ?_)
    refine ox_R_of (Y := ox_ev m_Otl_addEntry (ox_zz ox_ms (n + 1)) 61 0 tl [.inr (.inr (2, 0, 0)), .inl (v1), .inl (v2), .inl (v3)] [.inl (r4), .inl (r3)] σ) rfl ?_
    refine ox_R_to 1 (Y := if r3 < r4 then ox_ev m_Otl_addEntry (ox_zz ox_ms (n + 1)) 70 0 tl [.inr (.inr (2, 0, 0)), .inl (v1), .inl (v2), .inl (v3)] [] σ else ox_ev m_Otl_addEntry (ox_zz ox_ms (n + 1)) 64 0 tl [.inr (.inr (2, 0, 0)), .inl (v1), .inl (v2), .inl (v3)] [] σ) rfl ?_
    refine ox_R_if (fun _ => ?_) (fun _ => ?_)
    · exact ox_R_map ((L_Otl_addEntry_70 v1 v2 v3 σ n tl))
    · refine ox_R_to 2 (Y := ox_ev m_Otl_addEntry (ox_zz ox_ms (n + 1)) 47 0 tl [.inr (.inr (2, 0, 0)), .inl (v1), .inl (v2), .inl (ox_w (v3 + (-1)))] [] σ) rfl ?_
      exact ox_R_ret rfl
def F_Otl_addEntry  (a1 : Int) (σ : ox_H) : Option (ox_H) := if (σ 2 0 9 0) < 60 then (if 0 ≤ (σ 2 0 9 0) ∧ (σ 2 0 9 0).toNat < 60 then ((F_Otl_reading a1 (ox_up σ 2 0 5 ((σ 2 0 9 0).toNat) a1)).bind fun r5 => (if 0 ≤ (σ 2 0 9 0) ∧ (σ 2 0 9 0).toNat < 60 then (J_Otl_addEntry_47 a1 (σ 2 0 9 0) (ox_w ((σ 2 0 9 0) - 1)) (ox_up (ox_up (ox_up σ 2 0 5 ((σ 2 0 9 0).toNat) a1) 2 0 6 ((σ 2 0 9 0).toNat) (σ 4 r5 7 0)) 2 0 9 0 (ox_w ((σ 2 0 9 0) + 1)))) else none)) else none) else (some σ)
theorem L_Otl_addEntry  (a1 : Int) (σ : ox_H) (n tl : Nat) : ox_R (fun r => some ((fun r : ox_H => ((.inl none, r) : ox_O)) r)) (F_Otl_addEntry a1 σ) (ox_zz ox_ms (n + 2) 170 tl [.inr (.inr (2, 0, 0)), .inl (a1)] σ) := by
  unfold F_Otl_addEntry
  refine ox_R_of (Y := ox_ev m_Otl_addEntry (ox_zz ox_ms (n + 1)) 0 0 tl [.inr (.inr (2, 0, 0)), .inl (a1), ox_d, ox_d] [] σ) rfl ?_
  refine ox_R_to 6 (Y := if (σ 2 0 9 0) < 60 then ox_ev m_Otl_addEntry (ox_zz ox_ms (n + 1)) 12 0 tl [.inr (.inr (2, 0, 0)), .inl (a1), .inl (σ 2 0 9 0), ox_d] [] σ else ox_ev m_Otl_addEntry (ox_zz ox_ms (n + 1)) 11 0 tl [.inr (.inr (2, 0, 0)), .inl (a1), .inl (σ 2 0 9 0), ox_d] [] σ) rfl ?_
  refine ox_R_if (fun _ => ?_) (fun _ => ?_)
  · refine ox_R_to 5 (Y := if 0 ≤ (σ 2 0 9 0) ∧ (σ 2 0 9 0).toNat < 60 then ox_ev m_Otl_addEntry (ox_zz ox_ms (n + 1)) 19 0 tl [.inr (.inr (2, 0, 0)), .inl (a1), .inl (σ 2 0 9 0), ox_d] [] (ox_up σ 2 0 5 ((σ 2 0 9 0).toNat) a1) else none) rfl ?_
    refine ox_R_if (fun _ => ?_) (fun _ => ox_R_none)
    refine ox_R_to 6 (Y := ox_back m_Otl_addEntry 26 1 [.inl (σ 2 0 9 0), .inr (.inr (102, 0, 6))] ((ox_zz ox_ms (n + 1)) 172 tl [.inr (.inr (2, 0, 0)), .inl (a1)] (ox_up σ 2 0 5 ((σ 2 0 9 0).toNat) a1)) (fun pc9 x9 st9 σ9 => ox_ev m_Otl_addEntry (ox_zz ox_ms (n + 1)) pc9 0 tl (ox_kl (m_Otl_addEntry.2.2.1 pc9) (ox_xl x9 [.inr (.inr (2, 0, 0)), .inl (a1), .inl (σ 2 0 9 0), ox_d])) st9 σ9)) rfl ?_
    refine ox_R_call (fc := (fun r : Nat => ((.inl (some (.inr (.inr (4, r, 0)))), (ox_up σ 2 0 5 ((σ 2 0 9 0).toNat) a1)) : ox_O))) (L_Otl_reading a1 (ox_up σ 2 0 5 ((σ 2 0 9 0).toNat) a1) (n + 0) tl) (fun r5 => ?_)
    refine ox_R_of (Y := ox_ev m_Otl_addEntry (ox_zz ox_ms (n + 1)) 29 0 tl [.inr (.inr (2, 0, 0)), .inl (a1), .inl (σ 2 0 9 0), ox_d] [.inr (.inr (4, r5, 0)), .inl (σ 2 0 9 0), .inr (.inr (102, 0, 6))] (ox_up σ 2 0 5 ((σ 2 0 9 0).toNat) a1)) rfl ?_
    refine ox_R_to 2 (Y := if 0 ≤ (σ 2 0 9 0) ∧ (σ 2 0 9 0).toNat < 60 then ox_ev m_Otl_addEntry (ox_zz ox_ms (n + 1)) 33 0 tl [.inr (.inr (2, 0, 0)), .inl (a1), .inl (σ 2 0 9 0), ox_d] [] (ox_up (ox_up σ 2 0 5 ((σ 2 0 9 0).toNat) a1) 2 0 6 ((σ 2 0 9 0).toNat) (σ 4 r5 7 0)) else none) rfl ?_
    refine ox_R_if (fun _ => ?_) (fun _ => ox_R_none)
    refine ox_R_to 10 (Y := ox_ev m_Otl_addEntry (ox_zz ox_ms (n + 1)) 47 0 tl [.inr (.inr (2, 0, 0)), .inl (a1), .inl (σ 2 0 9 0), .inl (ox_w ((σ 2 0 9 0) - 1))] [] (ox_up (ox_up (ox_up σ 2 0 5 ((σ 2 0 9 0).toNat) a1) 2 0 6 ((σ 2 0 9 0).toNat) (σ 4 r5 7 0)) 2 0 9 0 (ox_w ((σ 2 0 9 0) + 1)))) rfl ?_
    exact (L_Otl_addEntry_47 a1 (σ 2 0 9 0) (ox_w ((σ 2 0 9 0) - 1)) (ox_up (ox_up (ox_up σ 2 0 5 ((σ 2 0 9 0).toNat) a1) 2 0 6 ((σ 2 0 9 0).toNat) (σ 4 r5 7 0)) 2 0 9 0 (ox_w ((σ 2 0 9 0) + 1))) n tl)
  · refine ox_R_to 1 (Y := some (.inl none, σ)) rfl ?_
    exact ox_R_ret rfl
def J_Otl_refresh_99  (σ : ox_H) : Option ox_H := some σ
theorem L_Otl_refresh_99  (σ : ox_H) (n tl : Nat) : ox_R (fun r => some ((fun r : ox_H => ((.inl none, r) : ox_O)) r)) (J_Otl_refresh_99 σ) (ox_ev m_Otl_refresh (ox_zz ox_ms (n + 5)) 99 0 tl [ox_d, ox_d] [] σ) := by
  unfold J_Otl_refresh_99
  refine ox_R_to 1 (Y := some (.inl none, σ)) rfl ?_
  exact ox_R_ret rfl
def J_Otl_refresh_81  (v1 : Int) (σ : ox_H) : Option (((Int × ox_H) ⊕ ox_H)) := if 0 ≤ v1 ∧ v1.toNat < 60 then (some (.inl (ox_w (v1 + 1), (ox_up σ 2 0 4 v1.toNat (ox_w ((σ 2 0 9 0) - 1)))))) else none
theorem L_Otl_refresh_81  (v1 : Int) (σ : ox_H) (n tl : Nat) : ox_R (Sum.elim (fun (s : Int × ox_H) => match s with | (v1, σ) => ox_ev m_Otl_refresh (ox_zz ox_ms (n + 5)) 33 0 tl [.inr (.inr (2, 0, 0)), .inl (v1)] [] σ) (fun r => some ((fun r : ox_H => ((.inl none, r) : ox_O)) r))) (J_Otl_refresh_81 v1 σ) (ox_ev m_Otl_refresh (ox_zz ox_ms (n + 5)) 81 0 tl [.inr (.inr (2, 0, 0)), .inl (v1)] [] σ) := by
  unfold J_Otl_refresh_81
  refine ox_R_to 8 (Y := if 0 ≤ v1 ∧ v1.toNat < 60 then ox_ev m_Otl_refresh (ox_zz ox_ms (n + 5)) 93 0 tl [.inr (.inr (2, 0, 0)), .inl (v1)] [] (ox_up σ 2 0 4 v1.toNat (ox_w ((σ 2 0 9 0) - 1))) else none) rfl ?_
  refine ox_R_if (fun _ => ?_) (fun _ => ox_R_none)
  refine ox_R_to 2 (Y := ox_ev m_Otl_refresh (ox_zz ox_ms (n + 5)) 33 0 tl [.inr (.inr (2, 0, 0)), .inl (ox_w (v1 + 1))] [] (ox_up σ 2 0 4 v1.toNat (ox_w ((σ 2 0 9 0) - 1)))) rfl ?_
  exact ox_R_ret rfl
def B_Otl_refresh_33  : (Int × ox_H) → Option (((Int × ox_H) ⊕ ox_H)) := fun (v1, σ) => if (σ 1 0 4 0) ≤ v1 then ((J_Otl_refresh_99 σ).map .inr) else (if 60 ≤ v1 then ((J_Otl_refresh_99 σ).map .inr) else (if 0 ≤ v1 ∧ v1.toNat < 60 then ((F_Rdr_read v1 v1.toNat σ).bind fun r1 => (if 0 ≤ v1 ∧ v1.toNat < 60 then (if (r1 4 v1.toNat 0 0) = 0 then ((F_Otl_addEntry v1 r1).bind fun r2 => (J_Otl_refresh_81 v1 r2)) else (J_Otl_refresh_81 v1 r1)) else none)) else none))
def J_Otl_refresh_33  (v1 : Int) (σ : ox_H) : Option (ox_H) := ox_lp (B_Otl_refresh_33) ox_fu (v1, σ)
theorem L_Otl_refresh_33  (v1 : Int) (σ : ox_H) (n tl : Nat) : ox_R (fun r => some ((fun r : ox_H => ((.inl none, r) : ox_O)) r)) (J_Otl_refresh_33 v1 σ) (ox_ev m_Otl_refresh (ox_zz ox_ms (n + 5)) 33 0 tl [.inr (.inr (2, 0, 0)), .inl (v1)] [] σ) := by
  unfold J_Otl_refresh_33
  refine ox_R_lp (ψ := (fun (s : Int × ox_H) => match s with | (v1, σ) => ox_ev m_Otl_refresh (ox_zz ox_ms (n + 5)) 33 0 tl [.inr (.inr (2, 0, 0)), .inl (v1)] [] σ)) ?_ ox_fu (v1, σ)
  intro s
  obtain ⟨v1, σ⟩ := s
  unfold B_Otl_refresh_33
  refine ox_R_to 5 (Y := if (σ 1 0 4 0) ≤ v1 then ox_ev m_Otl_refresh (ox_zz ox_ms (n + 5)) 99 0 tl [ox_d, ox_d] [] σ else ox_ev m_Otl_refresh (ox_zz ox_ms (n + 5)) 44 0 tl [.inr (.inr (2, 0, 0)), .inl (v1)] [] σ) rfl ?_
  refine ox_R_if (fun _ => ?_) (fun _ => ?_)
  · exact ox_R_map ((L_Otl_refresh_99 σ n tl))
  · refine ox_R_to 3 (Y := if 60 ≤ v1 then ox_ev m_Otl_refresh (ox_zz ox_ms (n + 5)) 99 0 tl [ox_d, ox_d] [] σ else ox_ev m_Otl_refresh (ox_zz ox_ms (n + 5)) 50 0 tl [.inr (.inr (2, 0, 0)), .inl (v1)] [] σ) rfl ?_
    refine ox_R_if (fun _ => ?_) (fun _ => ?_)
    · exact ox_R_map ((L_Otl_refresh_99 σ n tl))
    · refine ox_R_to 7 (Y := if 0 ≤ v1 ∧ v1.toNat < 60 then ox_ev m_Otl_refresh (ox_zz ox_ms (n + 5)) 61 0 tl [.inr (.inr (2, 0, 0)), .inl (v1)] [.inr (.inr (4, v1.toNat, 0)), .inl (v1), .inr (.inr (3, 0, 0))] σ else none) rfl ?_
      refine ox_R_if (fun _ => ?_) (fun _ => ox_R_none)
      refine ox_R_to 1 (Y := ox_back m_Otl_refresh 61 2 [] ((ox_zz ox_ms (n + 5)) 193 tl [.inr (.inr (3, 0, 0)), .inl (v1), .inr (.inr (4, v1.toNat, 0))] σ) (fun pc9 x9 st9 σ9 => ox_ev m_Otl_refresh (ox_zz ox_ms (n + 5)) pc9 0 tl (ox_kl (m_Otl_refresh.2.2.1 pc9) (ox_xl x9 [.inr (.inr (2, 0, 0)), .inl (v1)])) st9 σ9)) rfl ?_
      refine ox_R_call (fc := (fun r : ox_H => ((.inl none, r) : ox_O))) (L_Rdr_read v1 v1.toNat σ (n + 0) tl) (fun r1 => ?_)
      refine ox_R_of (Y := ox_ev m_Otl_refresh (ox_zz ox_ms (n + 5)) 64 0 tl [.inr (.inr (2, 0, 0)), .inl (v1)] [] r1) rfl ?_
      refine ox_R_to 4 (Y := if 0 ≤ v1 ∧ v1.toNat < 60 then ox_ev m_Otl_refresh (ox_zz ox_ms (n + 5)) 70 0 tl [.inr (.inr (2, 0, 0)), .inl (v1)] [.inr (.inr (4, v1.toNat, 0))] r1 else none) rfl ?_
      refine ox_R_if (fun _ => ?_) (fun _ => ox_R_none)
      refine ox_R_to 2 (Y := if (r1 4 v1.toNat 0 0) = 0 then ox_ev m_Otl_refresh (ox_zz ox_ms (n + 5)) 76 0 tl [.inr (.inr (2, 0, 0)), .inl (v1)] [] r1 else ox_ev m_Otl_refresh (ox_zz ox_ms (n + 5)) 81 0 tl [.inr (.inr (2, 0, 0)), .inl (v1)] [] r1) rfl ?_
      refine ox_R_if (fun _ => ?_) (fun _ => ?_)
      · refine ox_R_to 3 (Y := ox_back m_Otl_refresh 78 0 [] ((ox_zz ox_ms (n + 5)) 170 tl [.inr (.inr (2, 0, 0)), .inl (v1)] r1) (fun pc9 x9 st9 σ9 => ox_ev m_Otl_refresh (ox_zz ox_ms (n + 5)) pc9 0 tl (ox_kl (m_Otl_refresh.2.2.1 pc9) (ox_xl x9 [.inr (.inr (2, 0, 0)), .inl (v1)])) st9 σ9)) rfl ?_
        refine ox_R_call (fc := (fun r : ox_H => ((.inl none, r) : ox_O))) (L_Otl_addEntry v1 r1 (n + 3) tl) (fun r2 => ?_)
        refine ox_R_of (Y := ox_ev m_Otl_refresh (ox_zz ox_ms (n + 5)) 81 0 tl [.inr (.inr (2, 0, 0)), .inl (v1)] [] r2) rfl ?_
        exact (L_Otl_refresh_81 v1 r2 n tl)
      · exact (L_Otl_refresh_81 v1 r1 n tl)
def F_Otl_refresh  (σ : ox_H) : Option (ox_H) := if (σ 2 0 10 0) = (σ 1 0 5 0) then (some σ) else (J_Otl_refresh_33 0 (ox_up (ox_up σ 2 0 10 0 (σ 1 0 5 0)) 2 0 9 0 0))
theorem L_Otl_refresh  (σ : ox_H) (n tl : Nat) : ox_R (fun r => some ((fun r : ox_H => ((.inl none, r) : ox_O)) r)) (F_Otl_refresh σ) (ox_zz ox_ms (n + 6) 169 tl [.inr (.inr (2, 0, 0))] σ) := by
  unfold F_Otl_refresh
  refine ox_R_of (Y := ox_ev m_Otl_refresh (ox_zz ox_ms (n + 5)) 0 0 tl [.inr (.inr (2, 0, 0)), ox_d] [] σ) rfl ?_
  refine ox_R_to 6 (Y := if (σ 2 0 10 0) = (σ 1 0 5 0) then ox_ev m_Otl_refresh (ox_zz ox_ms (n + 5)) 14 0 tl [.inr (.inr (2, 0, 0)), ox_d] [] σ else ox_ev m_Otl_refresh (ox_zz ox_ms (n + 5)) 15 0 tl [.inr (.inr (2, 0, 0)), ox_d] [] σ) rfl ?_
  refine ox_R_if (fun _ => ?_) (fun _ => ?_)
  · refine ox_R_to 1 (Y := some (.inl none, σ)) rfl ?_
    exact ox_R_ret rfl
  · refine ox_R_to 10 (Y := ox_ev m_Otl_refresh (ox_zz ox_ms (n + 5)) 33 0 tl [.inr (.inr (2, 0, 0)), .inl (0)] [] (ox_up (ox_up σ 2 0 10 0 (σ 1 0 5 0)) 2 0 9 0 0)) rfl ?_
    exact (L_Otl_refresh_33 0 (ox_up (ox_up σ 2 0 10 0 (σ 1 0 5 0)) 2 0 9 0 0) n tl)
def F_Out_kind  (a1 : Int) (σ : ox_H) : Option ((Nat ⊕ Int) × ox_H) := (F_Out_checkLine 0 a1 σ).bind fun r1 => match r1 with | .inl e5 => (some (.inl e5, σ)) | .inr x2 => ((F_Otl_refresh σ).bind fun r3 => ((F_Otl_reading a1 r3).bind fun r4 => (some (.inr (r3 4 r4 0 0), r3))))
theorem L_Out_kind  (a1 : Int) (σ : ox_H) (n tl : Nat) : ox_R (fun r => some ((fun r : (Nat ⊕ Int) × ox_H => (((Sum.elim (fun e : Nat => (.inr e : Option ox_V ⊕ Nat)) (fun v : Int => .inl (some (.inl v))) r.1), r.2) : ox_O)) r)) (F_Out_kind a1 σ) (ox_zz ox_ms (n + 7) 5 tl [.inr (.inr (0, 0, 0)), .inl (a1)] σ) := by
  unfold F_Out_kind
  refine ox_R_of (Y := ox_ev m_Out_kind (ox_zz ox_ms (n + 6)) 0 1 tl [.inr (.inr (0, 0, 0)), .inl (a1)] [] σ) rfl ?_
  refine ox_R_to 4 (Y := ox_back m_Out_kind 5 0 [] ((ox_zz ox_ms (n + 6)) 6 tl [.inr (.inr (1, 0, 0)), .inl (a1)] σ) (fun pc9 x9 st9 σ9 => ox_ev m_Out_kind (ox_zz ox_ms (n + 6)) pc9 0 tl (ox_kl (m_Out_kind.2.2.1 pc9) (ox_xl x9 [.inr (.inr (0, 0, 0)), .inl (a1)])) st9 σ9)) rfl ?_
  refine ox_R_call (fc := (fun r : (Nat ⊕ Unit) => (((Sum.elim (fun e : Nat => (.inr e : Option ox_V ⊕ Nat)) (fun v : Unit => .inl none) r), σ) : ox_O))) (L_Out_checkLine 0 a1 σ (n + 4) tl) (fun r1 => ?_)
  rcases r1 with e5 | x2
  · refine ox_R_of (Y := some (.inr e5, σ)) rfl ?_
    exact ox_R_ret rfl
  · refine ox_R_of (Y := ox_ev m_Out_kind (ox_zz ox_ms (n + 6)) 8 0 tl [.inr (.inr (0, 0, 0)), .inl (a1)] [] σ) rfl ?_
    refine ox_R_to 3 (Y := ox_back m_Out_kind 12 2 [] ((ox_zz ox_ms (n + 6)) 169 tl [.inr (.inr (2, 0, 0))] σ) (fun pc9 x9 st9 σ9 => ox_ev m_Out_kind (ox_zz ox_ms (n + 6)) pc9 0 tl (ox_kl (m_Out_kind.2.2.1 pc9) (ox_xl x9 [.inr (.inr (0, 0, 0)), .inl (a1)])) st9 σ9)) rfl ?_
    refine ox_R_call (fc := (fun r : ox_H => ((.inl none, r) : ox_O))) (L_Otl_refresh σ (n + 0) tl) (fun r3 => ?_)
    refine ox_R_of (Y := ox_ev m_Out_kind (ox_zz ox_ms (n + 6)) 15 0 tl [.inr (.inr (0, 0, 0)), .inl (a1)] [] r3) rfl ?_
    refine ox_R_to 4 (Y := ox_back m_Out_kind 20 3 [] ((ox_zz ox_ms (n + 6)) 172 tl [.inr (.inr (2, 0, 0)), .inl (a1)] r3) (fun pc9 x9 st9 σ9 => ox_ev m_Out_kind (ox_zz ox_ms (n + 6)) pc9 0 tl (ox_kl (m_Out_kind.2.2.1 pc9) (ox_xl x9 [.inr (.inr (0, 0, 0)), .inl (a1)])) st9 σ9)) rfl ?_
    refine ox_R_call (fc := (fun r : Nat => ((.inl (some (.inr (.inr (4, r, 0)))), r3) : ox_O))) (L_Otl_reading a1 r3 (n + 5) tl) (fun r4 => ?_)
    refine ox_R_of (Y := ox_ev m_Out_kind (ox_zz ox_ms (n + 6)) 23 0 tl [.inr (.inr (0, 0, 0)), .inl (a1)] [.inr (.inr (4, r4, 0))] r3) rfl ?_
    refine ox_R_to 2 (Y := some (.inl (some (.inl (r3 4 r4 0 0))), r3)) rfl ?_
    exact ox_R_ret rfl
def F_Out_entries  (σ : ox_H) : Option (Int × ox_H) := (F_Otl_refresh σ).bind fun r1 => (some (r1 2 0 9 0, r1))
theorem L_Out_entries  (σ : ox_H) (n tl : Nat) : ox_R (fun r => some ((fun r : Int × ox_H => ((.inl (some (.inl r.1)), r.2) : ox_O)) r)) (F_Out_entries σ) (ox_zz ox_ms (n + 7) 9 tl [.inr (.inr (0, 0, 0))] σ) := by
  unfold F_Out_entries
  refine ox_R_of (Y := ox_ev m_Out_entries (ox_zz ox_ms (n + 6)) 0 0 tl [.inr (.inr (0, 0, 0))] [] σ) rfl ?_
  refine ox_R_to 3 (Y := ox_back m_Out_entries 4 2 [] ((ox_zz ox_ms (n + 6)) 169 tl [.inr (.inr (2, 0, 0))] σ) (fun pc9 x9 st9 σ9 => ox_ev m_Out_entries (ox_zz ox_ms (n + 6)) pc9 0 tl (ox_kl (m_Out_entries.2.2.1 pc9) (ox_xl x9 [.inr (.inr (0, 0, 0))])) st9 σ9)) rfl ?_
  refine ox_R_call (fc := (fun r : ox_H => ((.inl none, r) : ox_O))) (L_Otl_refresh σ (n + 0) tl) (fun r1 => ?_)
  refine ox_R_of (Y := ox_ev m_Out_entries (ox_zz ox_ms (n + 6)) 7 0 tl [.inr (.inr (0, 0, 0))] [] r1) rfl ?_
  refine ox_R_to 4 (Y := some (.inl (some (.inl (r1 2 0 9 0))), r1)) rfl ?_
  exact ox_R_ret rfl
def J_Otl_has_17  (s0 : Int) (σ : ox_H) : Option Int := some (s0 % 2)
theorem L_Otl_has_17  (s0 : Int) (σ : ox_H) (n tl : Nat) : ox_R (fun r => some ((fun r : Int => ((.inl (some (.inl r)), σ) : ox_O)) r)) (J_Otl_has_17 s0 σ) (ox_ev m_Otl_has (ox_zz ox_ms (n + 0)) 17 0 tl [ox_d, ox_d] [.inl (s0)] σ) := by
  unfold J_Otl_has_17
  refine ox_R_to 1 (Y := some (.inl (some (.inl (s0 % 2))), σ)) rfl ?_
  exact ox_R_ret rfl
def J_Otl_has_16  (σ : ox_H) : Option Int := (J_Otl_has_17 0 σ)
theorem L_Otl_has_16  (σ : ox_H) (n tl : Nat) : ox_R (fun r => some ((fun r : Int => ((.inl (some (.inl r)), σ) : ox_O)) r)) (J_Otl_has_16 σ) (ox_ev m_Otl_has (ox_zz ox_ms (n + 0)) 16 0 tl [ox_d, ox_d] [] σ) := by
  unfold J_Otl_has_16
  refine ox_R_to 1 (Y := ox_ev m_Otl_has (ox_zz ox_ms (n + 0)) 17 0 tl [ox_d, ox_d] [.inl (0)] σ) rfl ?_
  exact (L_Otl_has_17 0 σ n tl)
def F_Otl_has  (a1 : Int) (σ : ox_H) : Option (Int) := if a1 < 0 then (J_Otl_has_16 σ) else (if (σ 2 0 9 0) ≤ a1 then (J_Otl_has_16 σ) else (J_Otl_has_17 1 σ))
theorem L_Otl_has  (a1 : Int) (σ : ox_H) (n tl : Nat) : ox_R (fun r => some ((fun r : Int => ((.inl (some (.inl r)), σ) : ox_O)) r)) (F_Otl_has a1 σ) (ox_zz ox_ms (n + 1) 171 tl [.inr (.inr (2, 0, 0)), .inl (a1)] σ) := by
  unfold F_Otl_has
  refine ox_R_of (Y := ox_ev m_Otl_has (ox_zz ox_ms (n + 0)) 0 0 tl [.inr (.inr (2, 0, 0)), .inl (a1)] [] σ) rfl ?_
  refine ox_R_to 2 (Y := if a1 < 0 then ox_ev m_Otl_has (ox_zz ox_ms (n + 0)) 16 0 tl [ox_d, ox_d] [] σ else ox_ev m_Otl_has (ox_zz ox_ms (n + 0)) 4 0 tl [.inr (.inr (2, 0, 0)), .inl (a1)] [] σ) rfl ?_
  refine ox_R_if (fun _ => ?_) (fun _ => ?_)
  · exact (L_Otl_has_16 σ n tl)
  · refine ox_R_to 4 (Y := if (σ 2 0 9 0) ≤ a1 then ox_ev m_Otl_has (ox_zz ox_ms (n + 0)) 16 0 tl [ox_d, ox_d] [] σ else ox_ev m_Otl_has (ox_zz ox_ms (n + 0)) 12 0 tl [.inr (.inr (2, 0, 0)), .inl (a1)] [] σ) rfl ?_
    refine ox_R_if (fun _ => ?_) (fun _ => ?_)
    · exact (L_Otl_has_16 σ n tl)
    · refine ox_R_to 2 (Y := ox_ev m_Otl_has (ox_zz ox_ms (n + 0)) 17 0 tl [ox_d, ox_d] [.inl (1)] σ) rfl ?_
      exact (L_Otl_has_17 1 σ n tl)
def F_Out_checkEntry  (a1 : Int) (σ : ox_H) : Option ((Nat ⊕ Unit)) := (F_Otl_has a1 σ).bind fun r1 => (if r1 = 0 then (some (.inl 1)) else (some (.inr ())))
theorem L_Out_checkEntry  (a1 : Int) (σ : ox_H) (n tl : Nat) : ox_R (fun r => some ((fun r : (Nat ⊕ Unit) => (((Sum.elim (fun e : Nat => (.inr e : Option ox_V ⊕ Nat)) (fun v : Unit => .inl none) r), σ) : ox_O)) r)) (F_Out_checkEntry a1 σ) (ox_zz ox_ms (n + 2) 18 tl [.inr (.inr (0, 0, 0)), .inl (a1)] σ) := by
  unfold F_Out_checkEntry
  refine ox_R_of (Y := ox_ev m_Out_checkEntry (ox_zz ox_ms (n + 1)) 0 1 tl [.inr (.inr (0, 0, 0)), .inl (a1)] [] σ) rfl ?_
  refine ox_R_to 4 (Y := ox_back m_Out_checkEntry 5 3 [] ((ox_zz ox_ms (n + 1)) 171 tl [.inr (.inr (2, 0, 0)), .inl (a1)] σ) (fun pc9 x9 st9 σ9 => ox_ev m_Out_checkEntry (ox_zz ox_ms (n + 1)) pc9 1 tl (ox_kl (m_Out_checkEntry.2.2.1 pc9) (ox_xl x9 [.inr (.inr (0, 0, 0)), .inl (a1)])) st9 σ9)) rfl ?_
  refine ox_R_call (fc := (fun r : Int => ((.inl (some (.inl r)), σ) : ox_O))) (L_Otl_has a1 σ (n + 0) tl) (fun r1 => ?_)
  refine ox_R_of (Y := ox_ev m_Out_checkEntry (ox_zz ox_ms (n + 1)) 8 1 tl [.inr (.inr (0, 0, 0)), .inl (a1)] [.inl (r1)] σ) rfl ?_
  refine ox_R_to 1 (Y := if r1 = 0 then ox_ev m_Out_checkEntry (ox_zz ox_ms (n + 1)) 11 1 tl [.inr (.inr (0, 0, 0)), .inl (a1)] [] σ else ox_ev m_Out_checkEntry (ox_zz ox_ms (n + 1)) 22 1 tl [.inr (.inr (0, 0, 0)), .inl (a1)] [] σ) rfl ?_
  refine ox_R_if (fun _ => ?_) (fun _ => ?_)
  · refine ox_R_to 1 (Y := some (.inr 1, σ)) rfl ?_
    exact ox_R_ret rfl
  · refine ox_R_to 1 (Y := some (.inl none, σ)) rfl ?_
    exact ox_R_ret rfl
def J_Otl_lineOf_22  (s0 : Int) (σ : ox_H) : Option Int := some s0
theorem L_Otl_lineOf_22  (s0 : Int) (σ : ox_H) (n tl : Nat) : ox_R (fun r => some ((fun r : Int => ((.inl (some (.inl r)), σ) : ox_O)) r)) (J_Otl_lineOf_22 s0 σ) (ox_ev m_Otl_lineOf (ox_zz ox_ms (n + 0)) 22 0 tl [ox_d, ox_d] [.inl (s0)] σ) := by
  unfold J_Otl_lineOf_22
  refine ox_R_to 1 (Y := some (.inl (some (.inl (s0))), σ)) rfl ?_
  exact ox_R_ret rfl
def J_Otl_lineOf_21  (σ : ox_H) : Option Int := (J_Otl_lineOf_22 (-1) σ)
theorem L_Otl_lineOf_21  (σ : ox_H) (n tl : Nat) : ox_R (fun r => some ((fun r : Int => ((.inl (some (.inl r)), σ) : ox_O)) r)) (J_Otl_lineOf_21 σ) (ox_ev m_Otl_lineOf (ox_zz ox_ms (n + 0)) 21 0 tl [ox_d, ox_d] [] σ) := by
  unfold J_Otl_lineOf_21
  refine ox_R_to 1 (Y := ox_ev m_Otl_lineOf (ox_zz ox_ms (n + 0)) 22 0 tl [ox_d, ox_d] [.inl ((-1))] σ) rfl ?_
  exact (L_Otl_lineOf_22 (-1) σ n tl)
def F_Otl_lineOf  (a1 : Int) (σ : ox_H) : Option (Int) := if a1 < 0 then (J_Otl_lineOf_21 σ) else (if (σ 2 0 9 0) ≤ a1 then (J_Otl_lineOf_21 σ) else (if 0 ≤ a1 ∧ a1.toNat < 60 then (J_Otl_lineOf_22 (σ 2 0 5 a1.toNat) σ) else none))
theorem L_Otl_lineOf  (a1 : Int) (σ : ox_H) (n tl : Nat) : ox_R (fun r => some ((fun r : Int => ((.inl (some (.inl r)), σ) : ox_O)) r)) (F_Otl_lineOf a1 σ) (ox_zz ox_ms (n + 1) 174 tl [.inr (.inr (2, 0, 0)), .inl (a1)] σ) := by
  unfold F_Otl_lineOf
  refine ox_R_of (Y := ox_ev m_Otl_lineOf (ox_zz ox_ms (n + 0)) 0 0 tl [.inr (.inr (2, 0, 0)), .inl (a1)] [] σ) rfl ?_
  refine ox_R_to 2 (Y := if a1 < 0 then ox_ev m_Otl_lineOf (ox_zz ox_ms (n + 0)) 21 0 tl [ox_d, ox_d] [] σ else ox_ev m_Otl_lineOf (ox_zz ox_ms (n + 0)) 4 0 tl [.inr (.inr (2, 0, 0)), .inl (a1)] [] σ) rfl ?_
  refine ox_R_if (fun _ => ?_) (fun _ => ?_)
  · exact (L_Otl_lineOf_21 σ n tl)
  · refine ox_R_to 4 (Y := if (σ 2 0 9 0) ≤ a1 then ox_ev m_Otl_lineOf (ox_zz ox_ms (n + 0)) 21 0 tl [ox_d, ox_d] [] σ else ox_ev m_Otl_lineOf (ox_zz ox_ms (n + 0)) 12 0 tl [.inr (.inr (2, 0, 0)), .inl (a1)] [] σ) rfl ?_
    refine ox_R_if (fun _ => ?_) (fun _ => ?_)
    · exact (L_Otl_lineOf_21 σ n tl)
    · refine ox_R_to 4 (Y := if 0 ≤ a1 ∧ a1.toNat < 60 then ox_ev m_Otl_lineOf (ox_zz ox_ms (n + 0)) 18 0 tl [.inr (.inr (2, 0, 0)), .inl (a1)] [.inl (σ 2 0 5 a1.toNat)] σ else none) rfl ?_
      refine ox_R_if (fun _ => ?_) (fun _ => ox_R_none)
      refine ox_R_to 1 (Y := ox_ev m_Otl_lineOf (ox_zz ox_ms (n + 0)) 22 0 tl [ox_d, ox_d] [.inl (σ 2 0 5 a1.toNat)] σ) rfl ?_
      exact (L_Otl_lineOf_22 (σ 2 0 5 a1.toNat) σ n tl)
def J_Otl_parentOf_22  (s0 : Int) (σ : ox_H) : Option Int := some s0
theorem L_Otl_parentOf_22  (s0 : Int) (σ : ox_H) (n tl : Nat) : ox_R (fun r => some ((fun r : Int => ((.inl (some (.inl r)), σ) : ox_O)) r)) (J_Otl_parentOf_22 s0 σ) (ox_ev m_Otl_parentOf (ox_zz ox_ms (n + 0)) 22 0 tl [ox_d, ox_d] [.inl (s0)] σ) := by
  unfold J_Otl_parentOf_22
  refine ox_R_to 1 (Y := some (.inl (some (.inl (s0))), σ)) rfl ?_
  exact ox_R_ret rfl
def J_Otl_parentOf_21  (σ : ox_H) : Option Int := (J_Otl_parentOf_22 (-1) σ)
theorem L_Otl_parentOf_21  (σ : ox_H) (n tl : Nat) : ox_R (fun r => some ((fun r : Int => ((.inl (some (.inl r)), σ) : ox_O)) r)) (J_Otl_parentOf_21 σ) (ox_ev m_Otl_parentOf (ox_zz ox_ms (n + 0)) 21 0 tl [ox_d, ox_d] [] σ) := by
  unfold J_Otl_parentOf_21
  refine ox_R_to 1 (Y := ox_ev m_Otl_parentOf (ox_zz ox_ms (n + 0)) 22 0 tl [ox_d, ox_d] [.inl ((-1))] σ) rfl ?_
  exact (L_Otl_parentOf_22 (-1) σ n tl)
def F_Otl_parentOf  (a1 : Int) (σ : ox_H) : Option (Int) := if a1 < 0 then (J_Otl_parentOf_21 σ) else (if (σ 2 0 9 0) ≤ a1 then (J_Otl_parentOf_21 σ) else (if 0 ≤ a1 ∧ a1.toNat < 60 then (J_Otl_parentOf_22 (σ 2 0 7 a1.toNat) σ) else none))
theorem L_Otl_parentOf  (a1 : Int) (σ : ox_H) (n tl : Nat) : ox_R (fun r => some ((fun r : Int => ((.inl (some (.inl r)), σ) : ox_O)) r)) (F_Otl_parentOf a1 σ) (ox_zz ox_ms (n + 1) 175 tl [.inr (.inr (2, 0, 0)), .inl (a1)] σ) := by
  unfold F_Otl_parentOf
  refine ox_R_of (Y := ox_ev m_Otl_parentOf (ox_zz ox_ms (n + 0)) 0 0 tl [.inr (.inr (2, 0, 0)), .inl (a1)] [] σ) rfl ?_
  refine ox_R_to 2 (Y := if a1 < 0 then ox_ev m_Otl_parentOf (ox_zz ox_ms (n + 0)) 21 0 tl [ox_d, ox_d] [] σ else ox_ev m_Otl_parentOf (ox_zz ox_ms (n + 0)) 4 0 tl [.inr (.inr (2, 0, 0)), .inl (a1)] [] σ) rfl ?_
  refine ox_R_if (fun _ => ?_) (fun _ => ?_)
  · exact (L_Otl_parentOf_21 σ n tl)
  · refine ox_R_to 4 (Y := if (σ 2 0 9 0) ≤ a1 then ox_ev m_Otl_parentOf (ox_zz ox_ms (n + 0)) 21 0 tl [ox_d, ox_d] [] σ else ox_ev m_Otl_parentOf (ox_zz ox_ms (n + 0)) 12 0 tl [.inr (.inr (2, 0, 0)), .inl (a1)] [] σ) rfl ?_
    refine ox_R_if (fun _ => ?_) (fun _ => ?_)
    · exact (L_Otl_parentOf_21 σ n tl)
    · refine ox_R_to 4 (Y := if 0 ≤ a1 ∧ a1.toNat < 60 then ox_ev m_Otl_parentOf (ox_zz ox_ms (n + 0)) 18 0 tl [.inr (.inr (2, 0, 0)), .inl (a1)] [.inl (σ 2 0 7 a1.toNat)] σ else none) rfl ?_
      refine ox_R_if (fun _ => ?_) (fun _ => ox_R_none)
      refine ox_R_to 1 (Y := ox_ev m_Otl_parentOf (ox_zz ox_ms (n + 0)) 22 0 tl [ox_d, ox_d] [.inl (σ 2 0 7 a1.toNat)] σ) rfl ?_
      exact (L_Otl_parentOf_22 (σ 2 0 7 a1.toNat) σ n tl)
def F_Otl_stateOf  (a1 : Int) (σ : ox_H) : Option (Int) := (F_Otl_lineOf a1 σ).bind fun r1 => ((F_Otl_reading r1 σ).bind fun r2 => (some (σ 4 r2 8 0)))
theorem L_Otl_stateOf  (a1 : Int) (σ : ox_H) (n tl : Nat) : ox_R (fun r => some ((fun r : Int => ((.inl (some (.inl r)), σ) : ox_O)) r)) (F_Otl_stateOf a1 σ) (ox_zz ox_ms (n + 2) 178 tl [.inr (.inr (2, 0, 0)), .inl (a1)] σ) := by
  unfold F_Otl_stateOf
  refine ox_R_of (Y := ox_ev m_Otl_stateOf (ox_zz ox_ms (n + 1)) 0 0 tl [.inr (.inr (2, 0, 0)), .inl (a1)] [] σ) rfl ?_
  refine ox_R_to 4 (Y := ox_back m_Otl_stateOf 3 1 [.inr (.inr (2, 0, 0))] ((ox_zz ox_ms (n + 1)) 174 tl [.inr (.inr (2, 0, 0)), .inl (a1)] σ) (fun pc9 x9 st9 σ9 => ox_ev m_Otl_stateOf (ox_zz ox_ms (n + 1)) pc9 0 tl (ox_kl (m_Otl_stateOf.2.2.1 pc9) (ox_xl x9 [.inr (.inr (2, 0, 0)), .inl (a1)])) st9 σ9)) rfl ?_
  refine ox_R_call (fc := (fun r : Int => ((.inl (some (.inl r)), σ) : ox_O))) (L_Otl_lineOf a1 σ (n + 0) tl) (fun r1 => ?_)
  refine ox_R_of (Y := ox_ev m_Otl_stateOf (ox_zz ox_ms (n + 1)) 6 0 tl [.inr (.inr (2, 0, 0)), .inl (a1)] [.inl (r1), .inr (.inr (2, 0, 0))] σ) rfl ?_
  refine ox_R_to 1 (Y := ox_back m_Otl_stateOf 6 1 [] ((ox_zz ox_ms (n + 1)) 172 tl [.inr (.inr (2, 0, 0)), .inl (r1)] σ) (fun pc9 x9 st9 σ9 => ox_ev m_Otl_stateOf (ox_zz ox_ms (n + 1)) pc9 0 tl (ox_kl (m_Otl_stateOf.2.2.1 pc9) (ox_xl x9 [.inr (.inr (2, 0, 0)), .inl (a1)])) st9 σ9)) rfl ?_
  refine ox_R_call (fc := (fun r : Nat => ((.inl (some (.inr (.inr (4, r, 0)))), σ) : ox_O))) (L_Otl_reading r1 σ (n + 0) tl) (fun r2 => ?_)
  refine ox_R_of (Y := ox_ev m_Otl_stateOf (ox_zz ox_ms (n + 1)) 9 0 tl [.inr (.inr (2, 0, 0)), .inl (a1)] [.inr (.inr (4, r2, 0))] σ) rfl ?_
  refine ox_R_to 2 (Y := some (.inl (some (.inl (σ 4 r2 8 0))), σ)) rfl ?_
  exact ox_R_ret rfl
def J_Otl_below_33  (v1 : Int) (v3 : Int) (σ : ox_H) : Option Int := some (ox_w ((ox_w (v3 - v1)) - 1))
theorem L_Otl_below_33  (v1 : Int) (v3 : Int) (σ : ox_H) (n tl : Nat) : ox_R (fun r => some ((fun r : Int => ((.inl (some (.inl r)), σ) : ox_O)) r)) (J_Otl_below_33 v1 v3 σ) (ox_ev m_Otl_below (ox_zz ox_ms (n + 1)) 33 0 tl [ox_d, .inl (v1), ox_d, .inl (v3)] [] σ) := by
  unfold J_Otl_below_33
  refine ox_R_to 6 (Y := some (.inl (some (.inl (ox_w ((ox_w (v3 - v1)) - 1)))), σ)) rfl ?_
  exact ox_R_ret rfl
def B_Otl_below_10  (v1 : Int) (v2 : Int) (σ : ox_H) : (Int) → Option (((Int) ⊕ Int)) := fun v3 => if (σ 2 0 9 0) ≤ v3 then ((J_Otl_below_33 v1 v3 σ).map .inr) else ((F_Otl_levelOf v3 σ).bind fun r1 => (if r1 ≤ v2 then ((J_Otl_below_33 v1 v3 σ).map .inr) else (some (.inl (ox_w (v3 + 1))))))
def J_Otl_below_10  (v1 : Int) (v2 : Int) (v3 : Int) (σ : ox_H) : Option (Int) := ox_lp (B_Otl_below_10 v1 v2 σ) ox_fu v3
theorem L_Otl_below_10  (v1 : Int) (v2 : Int) (v3 : Int) (σ : ox_H) (n tl : Nat) : ox_R (fun r => some ((fun r : Int => ((.inl (some (.inl r)), σ) : ox_O)) r)) (J_Otl_below_10 v1 v2 v3 σ) (ox_ev m_Otl_below (ox_zz ox_ms (n + 1)) 10 0 tl [.inr (.inr (2, 0, 0)), .inl (v1), .inl (v2), .inl (v3)] [] σ) := by
  unfold J_Otl_below_10
  refine ox_R_lp (ψ := (fun (v3 : Int) => ox_ev m_Otl_below (ox_zz ox_ms (n + 1)) 10 0 tl [.inr (.inr (2, 0, 0)), .inl (v1), .inl (v2), .inl (v3)] [] σ)) ?_ ox_fu v3
  intro s
  revert s; intro v3
  unfold B_Otl_below_10
  refine ox_R_to 4 (Y := if (σ 2 0 9 0) ≤ v3 then ox_ev m_Otl_below (ox_zz ox_ms (n + 1)) 33 0 tl [ox_d, .inl (v1), ox_d, .inl (v3)] [] σ else ox_ev m_Otl_below (ox_zz ox_ms (n + 1)) 18 0 tl [.inr (.inr (2, 0, 0)), .inl (v1), .inl (v2), .inl (v3)] [] σ) rfl ?_
  refine ox_R_if (fun _ => ?_) (fun _ => ?_)
  · exact ox_R_map ((L_Otl_below_33 v1 v3 σ n tl))
  · refine ox_R_to 3 (Y := ox_back m_Otl_below 20 1 [] ((ox_zz ox_ms (n + 1)) 177 tl [.inr (.inr (2, 0, 0)), .inl (v3)] σ) (fun pc9 x9 st9 σ9 => ox_ev m_Otl_below (ox_zz ox_ms (n + 1)) pc9 0 tl (ox_kl (m_Otl_below.2.2.1 pc9) (ox_xl x9 [.inr (.inr (2, 0, 0)), .inl (v1), .inl (v2), .inl (v3)])) st9 σ9)) rfl ?_
    refine ox_R_call (fc := (fun r : Int => ((.inl (some (.inl r)), σ) : ox_O))) (L_Otl_levelOf v3 σ (n + 0) tl) (fun r1 => ?_)
    refine ox_R_of (Y := ox_ev m_Otl_below (ox_zz ox_ms (n + 1)) 23 0 tl [.inr (.inr (2, 0, 0)), .inl (v1), .inl (v2), .inl (v3)] [.inl (r1)] σ) rfl ?_
    refine ox_R_to 2 (Y := if r1 ≤ v2 then ox_ev m_Otl_below (ox_zz ox_ms (n + 1)) 33 0 tl [ox_d, .inl (v1), ox_d, .inl (v3)] [] σ else ox_ev m_Otl_below (ox_zz ox_ms (n + 1)) 27 0 tl [.inr (.inr (2, 0, 0)), .inl (v1), .inl (v2), .inl (v3)] [] σ) rfl ?_
    refine ox_R_if (fun _ => ?_) (fun _ => ?_)
    · exact ox_R_map ((L_Otl_below_33 v1 v3 σ n tl))
    · refine ox_R_to 2 (Y := ox_ev m_Otl_below (ox_zz ox_ms (n + 1)) 10 0 tl [.inr (.inr (2, 0, 0)), .inl (v1), .inl (v2), .inl (ox_w (v3 + 1))] [] σ) rfl ?_
      exact ox_R_ret rfl
def F_Otl_below  (a1 : Int) (σ : ox_H) : Option (Int) := (F_Otl_levelOf a1 σ).bind fun r2 => (J_Otl_below_10 a1 r2 (ox_w (a1 + 1)) σ)
theorem L_Otl_below  (a1 : Int) (σ : ox_H) (n tl : Nat) : ox_R (fun r => some ((fun r : Int => ((.inl (some (.inl r)), σ) : ox_O)) r)) (F_Otl_below a1 σ) (ox_zz ox_ms (n + 2) 182 tl [.inr (.inr (2, 0, 0)), .inl (a1)] σ) := by
  unfold F_Otl_below
  refine ox_R_of (Y := ox_ev m_Otl_below (ox_zz ox_ms (n + 1)) 0 0 tl [.inr (.inr (2, 0, 0)), .inl (a1), ox_d, ox_d] [] σ) rfl ?_
  refine ox_R_to 3 (Y := ox_back m_Otl_below 2 1 [] ((ox_zz ox_ms (n + 1)) 177 tl [.inr (.inr (2, 0, 0)), .inl (a1)] σ) (fun pc9 x9 st9 σ9 => ox_ev m_Otl_below (ox_zz ox_ms (n + 1)) pc9 0 tl (ox_kl (m_Otl_below.2.2.1 pc9) (ox_xl x9 [.inr (.inr (2, 0, 0)), .inl (a1), ox_d, ox_d])) st9 σ9)) rfl ?_
  refine ox_R_call (fc := (fun r : Int => ((.inl (some (.inl r)), σ) : ox_O))) (L_Otl_levelOf a1 σ (n + 0) tl) (fun r2 => ?_)
  refine ox_R_of (Y := ox_ev m_Otl_below (ox_zz ox_ms (n + 1)) 5 0 tl [.inr (.inr (2, 0, 0)), .inl (a1), ox_d, ox_d] [.inl (r2)] σ) rfl ?_
  refine ox_R_to 5 (Y := ox_ev m_Otl_below (ox_zz ox_ms (n + 1)) 10 0 tl [.inr (.inr (2, 0, 0)), .inl (a1), .inl (r2), .inl (ox_w (a1 + 1))] [] σ) rfl ?_
  exact (L_Otl_below_10 a1 r2 (ox_w (a1 + 1)) σ n tl)
def J_Otl_ownEnd_32  (s0 : Int) (σ : ox_H) : Option Int := some s0
theorem L_Otl_ownEnd_32  (s0 : Int) (σ : ox_H) (n tl : Nat) : ox_R (fun r => some ((fun r : Int => ((.inl (some (.inl r)), σ) : ox_O)) r)) (J_Otl_ownEnd_32 s0 σ) (ox_ev m_Otl_ownEnd (ox_zz ox_ms (n + 0)) 32 0 tl [ox_d, ox_d, ox_d] [.inl (s0)] σ) := by
  unfold J_Otl_ownEnd_32
  refine ox_R_to 1 (Y := some (.inl (some (.inl (s0))), σ)) rfl ?_
  exact ox_R_ret rfl
def J_Otl_ownEnd_25  (σ : ox_H) : Option Int := (J_Otl_ownEnd_32 (σ 1 0 4 0) σ)
theorem L_Otl_ownEnd_25  (σ : ox_H) (n tl : Nat) : ox_R (fun r => some ((fun r : Int => ((.inl (some (.inl r)), σ) : ox_O)) r)) (J_Otl_ownEnd_25 σ) (ox_ev m_Otl_ownEnd (ox_zz ox_ms (n + 0)) 25 0 tl [.inr (.inr (2, 0, 0)), ox_d, ox_d] [] σ) := by
  unfold J_Otl_ownEnd_25
  refine ox_R_to 3 (Y := ox_ev m_Otl_ownEnd (ox_zz ox_ms (n + 0)) 32 0 tl [ox_d, ox_d, ox_d] [.inl (σ 1 0 4 0)] σ) rfl ?_
  exact (L_Otl_ownEnd_32 (σ 1 0 4 0) σ n tl)
def F_Otl_ownEnd  (a1 : Int) (σ : ox_H) : Option (Int) := if (ox_w (a1 + 1)) < 0 then (J_Otl_ownEnd_25 σ) else (if (σ 2 0 9 0) ≤ (ox_w (a1 + 1)) then (J_Otl_ownEnd_25 σ) else (if 0 ≤ (ox_w (a1 + 1)) ∧ (ox_w (a1 + 1)).toNat < 60 then (J_Otl_ownEnd_32 (σ 2 0 5 ((ox_w (a1 + 1)).toNat)) σ) else none))
theorem L_Otl_ownEnd  (a1 : Int) (σ : ox_H) (n tl : Nat) : ox_R (fun r => some ((fun r : Int => ((.inl (some (.inl r)), σ) : ox_O)) r)) (F_Otl_ownEnd a1 σ) (ox_zz ox_ms (n + 1) 184 tl [.inr (.inr (2, 0, 0)), .inl (a1)] σ) := by
  unfold F_Otl_ownEnd
  refine ox_R_of (Y := ox_ev m_Otl_ownEnd (ox_zz ox_ms (n + 0)) 0 0 tl [.inr (.inr (2, 0, 0)), .inl (a1), ox_d] [] σ) rfl ?_
  refine ox_R_to 6 (Y := if (ox_w (a1 + 1)) < 0 then ox_ev m_Otl_ownEnd (ox_zz ox_ms (n + 0)) 25 0 tl [.inr (.inr (2, 0, 0)), ox_d, ox_d] [] σ else ox_ev m_Otl_ownEnd (ox_zz ox_ms (n + 0)) 8 0 tl [.inr (.inr (2, 0, 0)), .inl (a1), .inl (ox_w (a1 + 1))] [] σ) rfl ?_
  refine ox_R_if (fun _ => ?_) (fun _ => ?_)
  · exact (L_Otl_ownEnd_25 σ n tl)
  · refine ox_R_to 4 (Y := if (σ 2 0 9 0) ≤ (ox_w (a1 + 1)) then ox_ev m_Otl_ownEnd (ox_zz ox_ms (n + 0)) 25 0 tl [.inr (.inr (2, 0, 0)), ox_d, ox_d] [] σ else ox_ev m_Otl_ownEnd (ox_zz ox_ms (n + 0)) 16 0 tl [.inr (.inr (2, 0, 0)), .inl (a1), .inl (ox_w (a1 + 1))] [] σ) rfl ?_
    refine ox_R_if (fun _ => ?_) (fun _ => ?_)
    · exact (L_Otl_ownEnd_25 σ n tl)
    · refine ox_R_to 4 (Y := if 0 ≤ (ox_w (a1 + 1)) ∧ (ox_w (a1 + 1)).toNat < 60 then ox_ev m_Otl_ownEnd (ox_zz ox_ms (n + 0)) 22 0 tl [.inr (.inr (2, 0, 0)), .inl (a1), .inl (ox_w (a1 + 1))] [.inl (σ 2 0 5 ((ox_w (a1 + 1)).toNat))] σ else none) rfl ?_
      refine ox_R_if (fun _ => ?_) (fun _ => ox_R_none)
      refine ox_R_to 1 (Y := ox_ev m_Otl_ownEnd (ox_zz ox_ms (n + 0)) 32 0 tl [ox_d, ox_d, ox_d] [.inl (σ 2 0 5 ((ox_w (a1 + 1)).toNat))] σ) rfl ?_
      exact (L_Otl_ownEnd_32 (σ 2 0 5 ((ox_w (a1 + 1)).toNat)) σ n tl)
def F_Otl_partEnd  (a1 : Int) (σ : ox_H) : Option (Int) := (F_Otl_below a1 σ).bind fun r1 => ((F_Otl_ownEnd (ox_w (a1 + r1)) σ).bind fun r2 => (some r2))
theorem L_Otl_partEnd  (a1 : Int) (σ : ox_H) (n tl : Nat) : ox_R (fun r => some ((fun r : Int => ((.inl (some (.inl r)), σ) : ox_O)) r)) (F_Otl_partEnd a1 σ) (ox_zz ox_ms (n + 3) 185 tl [.inr (.inr (2, 0, 0)), .inl (a1)] σ) := by
  unfold F_Otl_partEnd
  refine ox_R_of (Y := ox_ev m_Otl_partEnd (ox_zz ox_ms (n + 2)) 0 0 tl [.inr (.inr (2, 0, 0)), .inl (a1)] [] σ) rfl ?_
  refine ox_R_to 5 (Y := ox_back m_Otl_partEnd 4 1 [.inl (a1), .inr (.inr (2, 0, 0))] ((ox_zz ox_ms (n + 2)) 182 tl [.inr (.inr (2, 0, 0)), .inl (a1)] σ) (fun pc9 x9 st9 σ9 => ox_ev m_Otl_partEnd (ox_zz ox_ms (n + 2)) pc9 0 tl (ox_kl (m_Otl_partEnd.2.2.1 pc9) (ox_xl x9 [.inr (.inr (2, 0, 0)), .inl (a1)])) st9 σ9)) rfl ?_
  refine ox_R_call (fc := (fun r : Int => ((.inl (some (.inl r)), σ) : ox_O))) (L_Otl_below a1 σ (n + 0) tl) (fun r1 => ?_)
  refine ox_R_of (Y := ox_ev m_Otl_partEnd (ox_zz ox_ms (n + 2)) 7 0 tl [.inr (.inr (2, 0, 0)), .inl (a1)] [.inl (r1), .inl (a1), .inr (.inr (2, 0, 0))] σ) rfl ?_
  refine ox_R_to 2 (Y := ox_back m_Otl_partEnd 8 1 [] ((ox_zz ox_ms (n + 2)) 184 tl [.inr (.inr (2, 0, 0)), .inl (ox_w (a1 + r1))] σ) (fun pc9 x9 st9 σ9 => ox_ev m_Otl_partEnd (ox_zz ox_ms (n + 2)) pc9 0 tl (ox_kl (m_Otl_partEnd.2.2.1 pc9) (ox_xl x9 [.inr (.inr (2, 0, 0)), .inl (a1)])) st9 σ9)) rfl ?_
  refine ox_R_call (fc := (fun r : Int => ((.inl (some (.inl r)), σ) : ox_O))) (L_Otl_ownEnd (ox_w (a1 + r1)) σ (n + 1) tl) (fun r2 => ?_)
  refine ox_R_of (Y := ox_ev m_Otl_partEnd (ox_zz ox_ms (n + 2)) 11 0 tl [.inr (.inr (2, 0, 0)), .inl (a1)] [.inl (r2)] σ) rfl ?_
  refine ox_R_to 1 (Y := some (.inl (some (.inl (r2))), σ)) rfl ?_
  exact ox_R_ret rfl
def J_Otl_dateLine_39  (σ : ox_H) : Option Int := some (-1)
theorem L_Otl_dateLine_39  (σ : ox_H) (n tl : Nat) : ox_R (fun r => some ((fun r : Int => ((.inl (some (.inl r)), σ) : ox_O)) r)) (J_Otl_dateLine_39 σ) (ox_ev m_Otl_dateLine (ox_zz ox_ms (n + 1)) 39 0 tl [ox_d, ox_d, ox_d, ox_d] [] σ) := by
  unfold J_Otl_dateLine_39
  refine ox_R_to 2 (Y := some (.inl (some (.inl ((-1)))), σ)) rfl ?_
  exact ox_R_ret rfl
def J_Otl_dateLine_31  (v3 : Int) (σ : ox_H) : Option Int := some v3
theorem L_Otl_dateLine_31  (v3 : Int) (σ : ox_H) (n tl : Nat) : ox_R (fun r => some ((fun r : Int => ((.inl (some (.inl r)), σ) : ox_O)) r)) (J_Otl_dateLine_31 v3 σ) (ox_ev m_Otl_dateLine (ox_zz ox_ms (n + 1)) 31 0 tl [ox_d, ox_d, ox_d, .inl (v3)] [] σ) := by
  unfold J_Otl_dateLine_31
  refine ox_R_to 2 (Y := some (.inl (some (.inl (v3))), σ)) rfl ?_
  exact ox_R_ret rfl
def B_Otl_dateLine_14  (v2 : Int) (σ : ox_H) : (Int) → Option (((Int) ⊕ Int)) := fun v3 => if v2 ≤ v3 then ((J_Otl_dateLine_39 σ).map .inr) else ((F_Otl_reading v3 σ).bind fun r1 => (if (σ 4 r1 0 0) = 2 then ((J_Otl_dateLine_31 v3 σ).map .inr) else (some (.inl (ox_w (v3 + 1))))))
def J_Otl_dateLine_14  (v2 : Int) (v3 : Int) (σ : ox_H) : Option (Int) := ox_lp (B_Otl_dateLine_14 v2 σ) ox_fu v3
theorem L_Otl_dateLine_14  (v2 : Int) (v3 : Int) (σ : ox_H) (n tl : Nat) : ox_R (fun r => some ((fun r : Int => ((.inl (some (.inl r)), σ) : ox_O)) r)) (J_Otl_dateLine_14 v2 v3 σ) (ox_ev m_Otl_dateLine (ox_zz ox_ms (n + 1)) 14 0 tl [.inr (.inr (2, 0, 0)), ox_d, .inl (v2), .inl (v3)] [] σ) := by
  unfold J_Otl_dateLine_14
  refine ox_R_lp (ψ := (fun (v3 : Int) => ox_ev m_Otl_dateLine (ox_zz ox_ms (n + 1)) 14 0 tl [.inr (.inr (2, 0, 0)), ox_d, .inl (v2), .inl (v3)] [] σ)) ?_ ox_fu v3
  intro s
  revert s; intro v3
  unfold B_Otl_dateLine_14
  refine ox_R_to 3 (Y := if v2 ≤ v3 then ox_ev m_Otl_dateLine (ox_zz ox_ms (n + 1)) 39 0 tl [ox_d, ox_d, ox_d, ox_d] [] σ else ox_ev m_Otl_dateLine (ox_zz ox_ms (n + 1)) 19 0 tl [.inr (.inr (2, 0, 0)), ox_d, .inl (v2), .inl (v3)] [] σ) rfl ?_
  refine ox_R_if (fun _ => ?_) (fun _ => ?_)
  · exact ox_R_map ((L_Otl_dateLine_39 σ n tl))
  · refine ox_R_to 3 (Y := ox_back m_Otl_dateLine 21 1 [] ((ox_zz ox_ms (n + 1)) 172 tl [.inr (.inr (2, 0, 0)), .inl (v3)] σ) (fun pc9 x9 st9 σ9 => ox_ev m_Otl_dateLine (ox_zz ox_ms (n + 1)) pc9 0 tl (ox_kl (m_Otl_dateLine.2.2.1 pc9) (ox_xl x9 [.inr (.inr (2, 0, 0)), ox_d, .inl (v2), .inl (v3)])) st9 σ9)) rfl ?_
    refine ox_R_call (fc := (fun r : Nat => ((.inl (some (.inr (.inr (4, r, 0)))), σ) : ox_O))) (L_Otl_reading v3 σ (n + 0) tl) (fun r1 => ?_)
    refine ox_R_of (Y := ox_ev m_Otl_dateLine (ox_zz ox_ms (n + 1)) 24 0 tl [.inr (.inr (2, 0, 0)), ox_d, .inl (v2), .inl (v3)] [.inr (.inr (4, r1, 0))] σ) rfl ?_
    refine ox_R_to 3 (Y := if (σ 4 r1 0 0) = 2 then ox_ev m_Otl_dateLine (ox_zz ox_ms (n + 1)) 31 0 tl [ox_d, ox_d, ox_d, .inl (v3)] [] σ else ox_ev m_Otl_dateLine (ox_zz ox_ms (n + 1)) 33 0 tl [.inr (.inr (2, 0, 0)), ox_d, .inl (v2), .inl (v3)] [] σ) rfl ?_
    refine ox_R_if (fun _ => ?_) (fun _ => ?_)
    · exact ox_R_map ((L_Otl_dateLine_31 v3 σ n tl))
    · refine ox_R_to 2 (Y := ox_ev m_Otl_dateLine (ox_zz ox_ms (n + 1)) 14 0 tl [.inr (.inr (2, 0, 0)), ox_d, .inl (v2), .inl (ox_w (v3 + 1))] [] σ) rfl ?_
      exact ox_R_ret rfl
def F_Otl_dateLine  (a1 : Int) (σ : ox_H) : Option (Int) := (F_Otl_ownEnd a1 σ).bind fun r2 => ((F_Otl_lineOf a1 σ).bind fun r3 => (J_Otl_dateLine_14 r2 (ox_w (r3 + 1)) σ))
theorem L_Otl_dateLine  (a1 : Int) (σ : ox_H) (n tl : Nat) : ox_R (fun r => some ((fun r : Int => ((.inl (some (.inl r)), σ) : ox_O)) r)) (F_Otl_dateLine a1 σ) (ox_zz ox_ms (n + 2) 190 tl [.inr (.inr (2, 0, 0)), .inl (a1)] σ) := by
  unfold F_Otl_dateLine
  refine ox_R_of (Y := ox_ev m_Otl_dateLine (ox_zz ox_ms (n + 1)) 0 0 tl [.inr (.inr (2, 0, 0)), .inl (a1), ox_d, ox_d] [] σ) rfl ?_
  refine ox_R_to 3 (Y := ox_back m_Otl_dateLine 2 1 [] ((ox_zz ox_ms (n + 1)) 184 tl [.inr (.inr (2, 0, 0)), .inl (a1)] σ) (fun pc9 x9 st9 σ9 => ox_ev m_Otl_dateLine (ox_zz ox_ms (n + 1)) pc9 0 tl (ox_kl (m_Otl_dateLine.2.2.1 pc9) (ox_xl x9 [.inr (.inr (2, 0, 0)), .inl (a1), ox_d, ox_d])) st9 σ9)) rfl ?_
  refine ox_R_call (fc := (fun r : Int => ((.inl (some (.inl r)), σ) : ox_O))) (L_Otl_ownEnd a1 σ (n + 0) tl) (fun r2 => ?_)
  refine ox_R_of (Y := ox_ev m_Otl_dateLine (ox_zz ox_ms (n + 1)) 5 0 tl [.inr (.inr (2, 0, 0)), .inl (a1), ox_d, ox_d] [.inl (r2)] σ) rfl ?_
  refine ox_R_to 4 (Y := ox_back m_Otl_dateLine 8 1 [] ((ox_zz ox_ms (n + 1)) 174 tl [.inr (.inr (2, 0, 0)), .inl (a1)] σ) (fun pc9 x9 st9 σ9 => ox_ev m_Otl_dateLine (ox_zz ox_ms (n + 1)) pc9 0 tl (ox_kl (m_Otl_dateLine.2.2.1 pc9) (ox_xl x9 [.inr (.inr (2, 0, 0)), .inl (a1), .inl (r2), ox_d])) st9 σ9)) rfl ?_
  refine ox_R_call (fc := (fun r : Int => ((.inl (some (.inl r)), σ) : ox_O))) (L_Otl_lineOf a1 σ (n + 0) tl) (fun r3 => ?_)
  refine ox_R_of (Y := ox_ev m_Otl_dateLine (ox_zz ox_ms (n + 1)) 11 0 tl [.inr (.inr (2, 0, 0)), .inl (a1), .inl (r2), ox_d] [.inl (r3)] σ) rfl ?_
  refine ox_R_to 3 (Y := ox_ev m_Otl_dateLine (ox_zz ox_ms (n + 1)) 14 0 tl [.inr (.inr (2, 0, 0)), ox_d, .inl (r2), .inl (ox_w (r3 + 1))] [] σ) rfl ?_
  exact (L_Otl_dateLine_14 r2 (ox_w (r3 + 1)) σ n tl)
def J_Otl_rankOf_36  (v2 : Int) (σ : ox_H) : Option Int := some v2
theorem L_Otl_rankOf_36  (v2 : Int) (σ : ox_H) (n tl : Nat) : ox_R (fun r => some ((fun r : Int => ((.inl (some (.inl r)), σ) : ox_O)) r)) (J_Otl_rankOf_36 v2 σ) (ox_ev m_Otl_rankOf (ox_zz ox_ms (n + 1)) 36 0 tl [ox_d, ox_d, .inl (v2), ox_d] [] σ) := by
  unfold J_Otl_rankOf_36
  refine ox_R_to 2 (Y := some (.inl (some (.inl (v2))), σ)) rfl ?_
  exact ox_R_ret rfl
def J_Otl_rankOf_28  (v1 : Int) (v3 : Int) (s0 : Int) (s1 : Int) (σ : ox_H) : Option (((Int × Int) ⊕ Int)) := some (.inl (ox_w (s1 + s0), ox_w (v3 + 1)))
theorem L_Otl_rankOf_28  (v1 : Int) (v3 : Int) (s0 : Int) (s1 : Int) (σ : ox_H) (n tl : Nat) : ox_R (Sum.elim (fun (s : Int × Int) => match s with | (v2, v3) => ox_ev m_Otl_rankOf (ox_zz ox_ms (n + 1)) 4 0 tl [.inr (.inr (2, 0, 0)), .inl (v1), .inl (v2), .inl (v3)] [] σ) (fun r => some ((fun r : Int => ((.inl (some (.inl r)), σ) : ox_O)) r))) (J_Otl_rankOf_28 v1 v3 s0 s1 σ) (ox_ev m_Otl_rankOf (ox_zz ox_ms (n + 1)) 28 0 tl [.inr (.inr (2, 0, 0)), .inl (v1), ox_d, .inl (v3)] [.inl (s0), .inl (s1)] σ) := by
  unfold J_Otl_rankOf_28
  refine ox_R_to 4 (Y := ox_ev m_Otl_rankOf (ox_zz ox_ms (n + 1)) 4 0 tl [.inr (.inr (2, 0, 0)), .inl (v1), .inl (ox_w (s1 + s0)), .inl (ox_w (v3 + 1))] [] σ) rfl ?_
  exact ox_R_ret rfl
def B_Otl_rankOf_4  (v1 : Int) (σ : ox_H) : (Int × Int) → Option (((Int × Int) ⊕ Int)) := fun (v2, v3) => if v1 ≤ v3 then ((J_Otl_rankOf_36 v2 σ).map .inr) else ((F_Otl_parentOf v3 σ).bind fun r1 => ((F_Otl_parentOf v1 σ).bind fun r2 => (if r1 = r2 then (J_Otl_rankOf_28 v1 v3 1 v2 σ) else (J_Otl_rankOf_28 v1 v3 0 v2 σ))))
def J_Otl_rankOf_4  (v1 : Int) (v2 : Int) (v3 : Int) (σ : ox_H) : Option (Int) := ox_lp (B_Otl_rankOf_4 v1 σ) ox_fu (v2, v3)
theorem L_Otl_rankOf_4  (v1 : Int) (v2 : Int) (v3 : Int) (σ : ox_H) (n tl : Nat) : ox_R (fun r => some ((fun r : Int => ((.inl (some (.inl r)), σ) : ox_O)) r)) (J_Otl_rankOf_4 v1 v2 v3 σ) (ox_ev m_Otl_rankOf (ox_zz ox_ms (n + 1)) 4 0 tl [.inr (.inr (2, 0, 0)), .inl (v1), .inl (v2), .inl (v3)] [] σ) := by
  unfold J_Otl_rankOf_4
  refine ox_R_lp (ψ := (fun (s : Int × Int) => match s with | (v2, v3) => ox_ev m_Otl_rankOf (ox_zz ox_ms (n + 1)) 4 0 tl [.inr (.inr (2, 0, 0)), .inl (v1), .inl (v2), .inl (v3)] [] σ)) ?_ ox_fu (v2, v3)
  intro s
  obtain ⟨v2, v3⟩ := s
  unfold B_Otl_rankOf_4
  refine ox_R_to 3 (Y := if v1 ≤ v3 then ox_ev m_Otl_rankOf (ox_zz ox_ms (n + 1)) 36 0 tl [ox_d, ox_d, .inl (v2), ox_d] [] σ else ox_ev m_Otl_rankOf (ox_zz ox_ms (n + 1)) 9 0 tl [.inr (.inr (2, 0, 0)), .inl (v1), .inl (v2), .inl (v3)] [] σ) rfl ?_
  refine ox_R_if (fun _ => ?_) (fun _ => ?_)
  · exact ox_R_map ((L_Otl_rankOf_36 v2 σ n tl))
  · refine ox_R_to 4 (Y := ox_back m_Otl_rankOf 12 1 [.inl (v2)] ((ox_zz ox_ms (n + 1)) 175 tl [.inr (.inr (2, 0, 0)), .inl (v3)] σ) (fun pc9 x9 st9 σ9 => ox_ev m_Otl_rankOf (ox_zz ox_ms (n + 1)) pc9 0 tl (ox_kl (m_Otl_rankOf.2.2.1 pc9) (ox_xl x9 [.inr (.inr (2, 0, 0)), .inl (v1), .inl (v2), .inl (v3)])) st9 σ9)) rfl ?_
    refine ox_R_call (fc := (fun r : Int => ((.inl (some (.inl r)), σ) : ox_O))) (L_Otl_parentOf v3 σ (n + 0) tl) (fun r1 => ?_)
    refine ox_R_of (Y := ox_ev m_Otl_rankOf (ox_zz ox_ms (n + 1)) 15 0 tl [.inr (.inr (2, 0, 0)), .inl (v1), .inl (v2), .inl (v3)] [.inl (r1), .inl (v2)] σ) rfl ?_
    refine ox_R_to 3 (Y := ox_back m_Otl_rankOf 17 1 [.inl (r1), .inl (v2)] ((ox_zz ox_ms (n + 1)) 175 tl [.inr (.inr (2, 0, 0)), .inl (v1)] σ) (fun pc9 x9 st9 σ9 => ox_ev m_Otl_rankOf (ox_zz ox_ms (n + 1)) pc9 0 tl (ox_kl (m_Otl_rankOf.2.2.1 pc9) (ox_xl x9 [.inr (.inr (2, 0, 0)), .inl (v1), .inl (v2), .inl (v3)])) st9 σ9)) rfl ?_
    refine ox_R_call (fc := (fun r : Int => ((.inl (some (.inl r)), σ) : ox_O))) (L_Otl_parentOf v1 σ (n + 0) tl) (fun r2 => ?_)
    refine ox_R_of (Y := ox_ev m_Otl_rankOf (ox_zz ox_ms (n + 1)) 20 0 tl [.inr (.inr (2, 0, 0)), .inl (v1), .inl (v2), .inl (v3)] [.inl (r2), .inl (r1), .inl (v2)] σ) rfl ?_
    refine ox_R_to 1 (Y := if r1 = r2 then ox_ev m_Otl_rankOf (ox_zz ox_ms (n + 1)) 23 0 tl [.inr (.inr (2, 0, 0)), .inl (v1), .inl (v2), .inl (v3)] [.inl (v2)] σ else ox_ev m_Otl_rankOf (ox_zz ox_ms (n + 1)) 27 0 tl [.inr (.inr (2, 0, 0)), .inl (v1), .inl (v2), .inl (v3)] [.inl (v2)] σ) rfl ?_
    refine ox_R_if (fun _ => ?_) (fun _ => ?_)
    · refine ox_R_to 2 (Y := ox_ev m_Otl_rankOf (ox_zz ox_ms (n + 1)) 28 0 tl [.inr (.inr (2, 0, 0)), .inl (v1), ox_d, .inl (v3)] [.inl (1), .inl (v2)] σ) rfl ?_
      exact (L_Otl_rankOf_28 v1 v3 1 v2 σ n tl)
    · refine ox_R_to 1 (Y := ox_ev m_Otl_rankOf (ox_zz ox_ms (n + 1)) 28 0 tl [.inr (.inr (2, 0, 0)), .inl (v1), ox_d, .inl (v3)] [.inl (0), .inl (v2)] σ) rfl ?_
      exact (L_Otl_rankOf_28 v1 v3 0 v2 σ n tl)
def F_Otl_rankOf  (a1 : Int) (σ : ox_H) : Option (Int) := (J_Otl_rankOf_4 a1 1 0 σ)
theorem L_Otl_rankOf  (a1 : Int) (σ : ox_H) (n tl : Nat) : ox_R (fun r => some ((fun r : Int => ((.inl (some (.inl r)), σ) : ox_O)) r)) (F_Otl_rankOf a1 σ) (ox_zz ox_ms (n + 2) 183 tl [.inr (.inr (2, 0, 0)), .inl (a1)] σ) := by
  unfold F_Otl_rankOf
  refine ox_R_of (Y := ox_ev m_Otl_rankOf (ox_zz ox_ms (n + 1)) 0 0 tl [.inr (.inr (2, 0, 0)), .inl (a1), ox_d, ox_d] [] σ) rfl ?_
  refine ox_R_to 4 (Y := ox_ev m_Otl_rankOf (ox_zz ox_ms (n + 1)) 4 0 tl [.inr (.inr (2, 0, 0)), .inl (a1), .inl (1), .inl (0)] [] σ) rfl ?_
  exact (L_Otl_rankOf_4 a1 1 0 σ n tl)
def F_Out_entry  (a1 : Int) (a2 : Int) (σ : ox_H) : Option ((Nat ⊕ Int) × ox_H) := (F_Otl_refresh σ).bind fun r1 => ((F_Out_checkEntry a1 r1).bind fun r2 => match r2 with | .inl e15 => (some (.inl e15, r1)) | .inr x3 => (if a2 = ((0 : Nat) : Int) then ((F_Otl_lineOf a1 r1).bind fun r4 => (some (.inr r4, r1))) else if a2 = ((1 : Nat) : Int) then ((F_Otl_levelOf a1 r1).bind fun r5 => (some (.inr r5, r1))) else if a2 = ((2 : Nat) : Int) then ((F_Otl_parentOf a1 r1).bind fun r6 => (some (.inr r6, r1))) else if a2 = ((3 : Nat) : Int) then ((F_Otl_stateOf a1 r1).bind fun r7 => (some (.inr r7, r1))) else if a2 = ((4 : Nat) : Int) then ((F_Otl_below a1 r1).bind fun r8 => (some (.inr r8, r1))) else if a2 = ((5 : Nat) : Int) then ((F_Otl_partEnd a1 r1).bind fun r9 => ((F_Otl_lineOf a1 r1).bind fun r10 => (some (.inr (ox_w (r9 - r10)), r1)))) else if a2 = ((6 : Nat) : Int) then ((F_Otl_tagsOf a1 r1).bind fun r11 => (some (.inr r11, r1))) else if a2 = ((7 : Nat) : Int) then ((F_Otl_dateLine a1 r1).bind fun r12 => ((F_Otl_reading r12 r1).bind fun r13 => (some (.inr (r1 4 r13 3 0), r1)))) else if a2 = ((8 : Nat) : Int) then ((F_Otl_rankOf a1 r1).bind fun r14 => (some (.inr r14, r1))) else (some (.inl 2, r1))))
theorem L_Out_entry  (a1 : Int) (a2 : Int) (σ : ox_H) (n tl : Nat) : ox_R (fun r => some ((fun r : (Nat ⊕ Int) × ox_H => (((Sum.elim (fun e : Nat => (.inr e : Option ox_V ⊕ Nat)) (fun v : Int => .inl (some (.inl v))) r.1), r.2) : ox_O)) r)) (F_Out_entry a1 a2 σ) (ox_zz ox_ms (n + 7) 10 tl [.inr (.inr (0, 0, 0)), .inl (a1), .inl (a2)] σ) := by
  unfold F_Out_entry
  refine ox_R_of (Y := ox_ev m_Out_entry (ox_zz ox_ms (n + 6)) 0 2 tl [.inr (.inr (0, 0, 0)), .inl (a1), .inl (a2)] [] σ) rfl ?_
  refine ox_R_to 3 (Y := ox_back m_Out_entry 4 2 [] ((ox_zz ox_ms (n + 6)) 169 tl [.inr (.inr (2, 0, 0))] σ) (fun pc9 x9 st9 σ9 => ox_ev m_Out_entry (ox_zz ox_ms (n + 6)) pc9 2 tl (ox_kl (m_Out_entry.2.2.1 pc9) (ox_xl x9 [.inr (.inr (0, 0, 0)), .inl (a1), .inl (a2)])) st9 σ9)) rfl ?_
  refine ox_R_call (fc := (fun r : ox_H => ((.inl none, r) : ox_O))) (L_Otl_refresh σ (n + 0) tl) (fun r1 => ?_)
  refine ox_R_of (Y := ox_ev m_Out_entry (ox_zz ox_ms (n + 6)) 7 2 tl [.inr (.inr (0, 0, 0)), .inl (a1), .inl (a2)] [] r1) rfl ?_
  refine ox_R_to 3 (Y := ox_back m_Out_entry 9 0 [] ((ox_zz ox_ms (n + 6)) 18 tl [.inr (.inr (0, 0, 0)), .inl (a1)] r1) (fun pc9 x9 st9 σ9 => ox_ev m_Out_entry (ox_zz ox_ms (n + 6)) pc9 1 tl (ox_kl (m_Out_entry.2.2.1 pc9) (ox_xl x9 [.inr (.inr (0, 0, 0)), .inl (a1), .inl (a2)])) st9 σ9)) rfl ?_
  refine ox_R_call (fc := (fun r : (Nat ⊕ Unit) => (((Sum.elim (fun e : Nat => (.inr e : Option ox_V ⊕ Nat)) (fun v : Unit => .inl none) r), r1) : ox_O))) (L_Out_checkEntry a1 r1 (n + 4) tl) (fun r2 => ?_)
  rcases r2 with e15 | x3
  · refine ox_R_of (Y := some (.inr e15, r1)) rfl ?_
    exact ox_R_ret rfl
  · refine ox_R_of (Y := ox_ev m_Out_entry (ox_zz ox_ms (n + 6)) 12 1 tl [.inr (.inr (0, 0, 0)), .inl (a1), .inl (a2)] [] r1) rfl ?_
    refine ox_R_to 2 (Y := if a2 = ((0 : Nat) : Int) then ox_ev m_Out_entry (ox_zz ox_ms (n + 6)) 64 1 tl [.inr (.inr (0, 0, 0)), .inl (a1), .inl (a2)] [] r1 else if a2 = ((1 : Nat) : Int) then ox_ev m_Out_entry (ox_zz ox_ms (n + 6)) 73 1 tl [.inr (.inr (0, 0, 0)), .inl (a1), .inl (a2)] [] r1 else if a2 = ((2 : Nat) : Int) then ox_ev m_Out_entry (ox_zz ox_ms (n + 6)) 82 1 tl [.inr (.inr (0, 0, 0)), .inl (a1), .inl (a2)] [] r1 else if a2 = ((3 : Nat) : Int) then ox_ev m_Out_entry (ox_zz ox_ms (n + 6)) 91 1 tl [.inr (.inr (0, 0, 0)), .inl (a1), .inl (a2)] [] r1 else if a2 = ((4 : Nat) : Int) then ox_ev m_Out_entry (ox_zz ox_ms (n + 6)) 100 1 tl [.inr (.inr (0, 0, 0)), .inl (a1), .inl (a2)] [] r1 else if a2 = ((5 : Nat) : Int) then ox_ev m_Out_entry (ox_zz ox_ms (n + 6)) 109 1 tl [.inr (.inr (0, 0, 0)), .inl (a1), .inl (a2)] [] r1 else if a2 = ((6 : Nat) : Int) then ox_ev m_Out_entry (ox_zz ox_ms (n + 6)) 127 1 tl [.inr (.inr (0, 0, 0)), .inl (a1), .inl (a2)] [] r1 else if a2 = ((7 : Nat) : Int) then ox_ev m_Out_entry (ox_zz ox_ms (n + 6)) 136 1 tl [.inr (.inr (0, 0, 0)), .inl (a1), .inl (a2)] [] r1 else if a2 = ((8 : Nat) : Int) then ox_ev m_Out_entry (ox_zz ox_ms (n + 6)) 155 1 tl [.inr (.inr (0, 0, 0)), .inl (a1), .inl (a2)] [] r1 else ox_ev m_Out_entry (ox_zz ox_ms (n + 6)) 164 1 tl [.inr (.inr (0, 0, 0)), .inl (a1), .inl (a2)] [] r1) rfl ?_
    refine ox_R_if (fun _ => ?_) (fun _ => ?_)
    · refine ox_R_to 4 (Y := ox_back m_Out_entry 69 3 [] ((ox_zz ox_ms (n + 6)) 174 tl [.inr (.inr (2, 0, 0)), .inl (a1)] r1) (fun pc9 x9 st9 σ9 => ox_ev m_Out_entry (ox_zz ox_ms (n + 6)) pc9 1 tl (ox_kl (m_Out_entry.2.2.1 pc9) (ox_xl x9 [.inr (.inr (0, 0, 0)), .inl (a1), .inl (a2)])) st9 σ9)) rfl ?_
      refine ox_R_call (fc := (fun r : Int => ((.inl (some (.inl r)), r1) : ox_O))) (L_Otl_lineOf a1 r1 (n + 5) tl) (fun r4 => ?_)
      refine ox_R_of (Y := ox_ev m_Out_entry (ox_zz ox_ms (n + 6)) 72 1 tl [.inr (.inr (0, 0, 0)), .inl (a1), .inl (a2)] [.inl (r4)] r1) rfl ?_
      refine ox_R_to 1 (Y := some (.inl (some (.inl (r4))), r1)) rfl ?_
      exact ox_R_ret rfl
    refine ox_R_if (fun _ => ?_) (fun _ => ?_)
    · refine ox_R_to 4 (Y := ox_back m_Out_entry 78 3 [] ((ox_zz ox_ms (n + 6)) 177 tl [.inr (.inr (2, 0, 0)), .inl (a1)] r1) (fun pc9 x9 st9 σ9 => ox_ev m_Out_entry (ox_zz ox_ms (n + 6)) pc9 1 tl (ox_kl (m_Out_entry.2.2.1 pc9) (ox_xl x9 [.inr (.inr (0, 0, 0)), .inl (a1), .inl (a2)])) st9 σ9)) rfl ?_
      refine ox_R_call (fc := (fun r : Int => ((.inl (some (.inl r)), r1) : ox_O))) (L_Otl_levelOf a1 r1 (n + 5) tl) (fun r5 => ?_)
      refine ox_R_of (Y := ox_ev m_Out_entry (ox_zz ox_ms (n + 6)) 81 1 tl [.inr (.inr (0, 0, 0)), .inl (a1), .inl (a2)] [.inl (r5)] r1) rfl ?_
      refine ox_R_to 1 (Y := some (.inl (some (.inl (r5))), r1)) rfl ?_
      exact ox_R_ret rfl
    refine ox_R_if (fun _ => ?_) (fun _ => ?_)
    · refine ox_R_to 4 (Y := ox_back m_Out_entry 87 3 [] ((ox_zz ox_ms (n + 6)) 175 tl [.inr (.inr (2, 0, 0)), .inl (a1)] r1) (fun pc9 x9 st9 σ9 => ox_ev m_Out_entry (ox_zz ox_ms (n + 6)) pc9 1 tl (ox_kl (m_Out_entry.2.2.1 pc9) (ox_xl x9 [.inr (.inr (0, 0, 0)), .inl (a1), .inl (a2)])) st9 σ9)) rfl ?_
      refine ox_R_call (fc := (fun r : Int => ((.inl (some (.inl r)), r1) : ox_O))) (L_Otl_parentOf a1 r1 (n + 5) tl) (fun r6 => ?_)
      refine ox_R_of (Y := ox_ev m_Out_entry (ox_zz ox_ms (n + 6)) 90 1 tl [.inr (.inr (0, 0, 0)), .inl (a1), .inl (a2)] [.inl (r6)] r1) rfl ?_
      refine ox_R_to 1 (Y := some (.inl (some (.inl (r6))), r1)) rfl ?_
      exact ox_R_ret rfl
    refine ox_R_if (fun _ => ?_) (fun _ => ?_)
    · refine ox_R_to 4 (Y := ox_back m_Out_entry 96 3 [] ((ox_zz ox_ms (n + 6)) 178 tl [.inr (.inr (2, 0, 0)), .inl (a1)] r1) (fun pc9 x9 st9 σ9 => ox_ev m_Out_entry (ox_zz ox_ms (n + 6)) pc9 1 tl (ox_kl (m_Out_entry.2.2.1 pc9) (ox_xl x9 [.inr (.inr (0, 0, 0)), .inl (a1), .inl (a2)])) st9 σ9)) rfl ?_
      refine ox_R_call (fc := (fun r : Int => ((.inl (some (.inl r)), r1) : ox_O))) (L_Otl_stateOf a1 r1 (n + 4) tl) (fun r7 => ?_)
      refine ox_R_of (Y := ox_ev m_Out_entry (ox_zz ox_ms (n + 6)) 99 1 tl [.inr (.inr (0, 0, 0)), .inl (a1), .inl (a2)] [.inl (r7)] r1) rfl ?_
      refine ox_R_to 1 (Y := some (.inl (some (.inl (r7))), r1)) rfl ?_
      exact ox_R_ret rfl
    refine ox_R_if (fun _ => ?_) (fun _ => ?_)
    · refine ox_R_to 4 (Y := ox_back m_Out_entry 105 3 [] ((ox_zz ox_ms (n + 6)) 182 tl [.inr (.inr (2, 0, 0)), .inl (a1)] r1) (fun pc9 x9 st9 σ9 => ox_ev m_Out_entry (ox_zz ox_ms (n + 6)) pc9 1 tl (ox_kl (m_Out_entry.2.2.1 pc9) (ox_xl x9 [.inr (.inr (0, 0, 0)), .inl (a1), .inl (a2)])) st9 σ9)) rfl ?_
      refine ox_R_call (fc := (fun r : Int => ((.inl (some (.inl r)), r1) : ox_O))) (L_Otl_below a1 r1 (n + 4) tl) (fun r8 => ?_)
      refine ox_R_of (Y := ox_ev m_Out_entry (ox_zz ox_ms (n + 6)) 108 1 tl [.inr (.inr (0, 0, 0)), .inl (a1), .inl (a2)] [.inl (r8)] r1) rfl ?_
      refine ox_R_to 1 (Y := some (.inl (some (.inl (r8))), r1)) rfl ?_
      exact ox_R_ret rfl
    refine ox_R_if (fun _ => ?_) (fun _ => ?_)
    · refine ox_R_to 4 (Y := ox_back m_Out_entry 114 3 [] ((ox_zz ox_ms (n + 6)) 185 tl [.inr (.inr (2, 0, 0)), .inl (a1)] r1) (fun pc9 x9 st9 σ9 => ox_ev m_Out_entry (ox_zz ox_ms (n + 6)) pc9 1 tl (ox_kl (m_Out_entry.2.2.1 pc9) (ox_xl x9 [.inr (.inr (0, 0, 0)), .inl (a1), .inl (a2)])) st9 σ9)) rfl ?_
      refine ox_R_call (fc := (fun r : Int => ((.inl (some (.inl r)), r1) : ox_O))) (L_Otl_partEnd a1 r1 (n + 3) tl) (fun r9 => ?_)
      refine ox_R_of (Y := ox_ev m_Out_entry (ox_zz ox_ms (n + 6)) 117 1 tl [.inr (.inr (0, 0, 0)), .inl (a1), .inl (a2)] [.inl (r9)] r1) rfl ?_
      refine ox_R_to 4 (Y := ox_back m_Out_entry 122 3 [.inl (r9)] ((ox_zz ox_ms (n + 6)) 174 tl [.inr (.inr (2, 0, 0)), .inl (a1)] r1) (fun pc9 x9 st9 σ9 => ox_ev m_Out_entry (ox_zz ox_ms (n + 6)) pc9 1 tl (ox_kl (m_Out_entry.2.2.1 pc9) (ox_xl x9 [.inr (.inr (0, 0, 0)), .inl (a1), .inl (a2)])) st9 σ9)) rfl ?_
      refine ox_R_call (fc := (fun r : Int => ((.inl (some (.inl r)), r1) : ox_O))) (L_Otl_lineOf a1 r1 (n + 5) tl) (fun r10 => ?_)
      refine ox_R_of (Y := ox_ev m_Out_entry (ox_zz ox_ms (n + 6)) 125 1 tl [.inr (.inr (0, 0, 0)), .inl (a1), .inl (a2)] [.inl (r10), .inl (r9)] r1) rfl ?_
      refine ox_R_to 2 (Y := some (.inl (some (.inl (ox_w (r9 - r10)))), r1)) rfl ?_
      exact ox_R_ret rfl
    refine ox_R_if (fun _ => ?_) (fun _ => ?_)
    · refine ox_R_to 4 (Y := ox_back m_Out_entry 132 3 [] ((ox_zz ox_ms (n + 6)) 176 tl [.inr (.inr (2, 0, 0)), .inl (a1)] r1) (fun pc9 x9 st9 σ9 => ox_ev m_Out_entry (ox_zz ox_ms (n + 6)) pc9 1 tl (ox_kl (m_Out_entry.2.2.1 pc9) (ox_xl x9 [.inr (.inr (0, 0, 0)), .inl (a1), .inl (a2)])) st9 σ9)) rfl ?_
      refine ox_R_call (fc := (fun r : Int => ((.inl (some (.inl r)), r1) : ox_O))) (L_Otl_tagsOf a1 r1 (n + 5) tl) (fun r11 => ?_)
      refine ox_R_of (Y := ox_ev m_Out_entry (ox_zz ox_ms (n + 6)) 135 1 tl [.inr (.inr (0, 0, 0)), .inl (a1), .inl (a2)] [.inl (r11)] r1) rfl ?_
      refine ox_R_to 1 (Y := some (.inl (some (.inl (r11))), r1)) rfl ?_
      exact ox_R_ret rfl
    refine ox_R_if (fun _ => ?_) (fun _ => ?_)
    · refine ox_R_to 6 (Y := ox_back m_Out_entry 145 3 [.inr (.inr (2, 0, 0))] ((ox_zz ox_ms (n + 6)) 190 tl [.inr (.inr (2, 0, 0)), .inl (a1)] r1) (fun pc9 x9 st9 σ9 => ox_ev m_Out_entry (ox_zz ox_ms (n + 6)) pc9 1 tl (ox_kl (m_Out_entry.2.2.1 pc9) (ox_xl x9 [.inr (.inr (0, 0, 0)), .inl (a1), .inl (a2)])) st9 σ9)) rfl ?_
      refine ox_R_call (fc := (fun r : Int => ((.inl (some (.inl r)), r1) : ox_O))) (L_Otl_dateLine a1 r1 (n + 4) tl) (fun r12 => ?_)
      refine ox_R_of (Y := ox_ev m_Out_entry (ox_zz ox_ms (n + 6)) 148 1 tl [.inr (.inr (0, 0, 0)), .inl (a1), .inl (a2)] [.inl (r12), .inr (.inr (2, 0, 0))] r1) rfl ?_
      refine ox_R_to 1 (Y := ox_back m_Out_entry 148 3 [] ((ox_zz ox_ms (n + 6)) 172 tl [.inr (.inr (2, 0, 0)), .inl (r12)] r1) (fun pc9 x9 st9 σ9 => ox_ev m_Out_entry (ox_zz ox_ms (n + 6)) pc9 1 tl (ox_kl (m_Out_entry.2.2.1 pc9) (ox_xl x9 [.inr (.inr (0, 0, 0)), .inl (a1), .inl (a2)])) st9 σ9)) rfl ?_
      refine ox_R_call (fc := (fun r : Nat => ((.inl (some (.inr (.inr (4, r, 0)))), r1) : ox_O))) (L_Otl_reading r12 r1 (n + 5) tl) (fun r13 => ?_)
      refine ox_R_of (Y := ox_ev m_Out_entry (ox_zz ox_ms (n + 6)) 151 1 tl [.inr (.inr (0, 0, 0)), .inl (a1), .inl (a2)] [.inr (.inr (4, r13, 0))] r1) rfl ?_
      refine ox_R_to 2 (Y := some (.inl (some (.inl (r1 4 r13 3 0))), r1)) rfl ?_
      exact ox_R_ret rfl
    refine ox_R_if (fun _ => ?_) (fun _ => ?_)
    · refine ox_R_to 4 (Y := ox_back m_Out_entry 160 3 [] ((ox_zz ox_ms (n + 6)) 183 tl [.inr (.inr (2, 0, 0)), .inl (a1)] r1) (fun pc9 x9 st9 σ9 => ox_ev m_Out_entry (ox_zz ox_ms (n + 6)) pc9 1 tl (ox_kl (m_Out_entry.2.2.1 pc9) (ox_xl x9 [.inr (.inr (0, 0, 0)), .inl (a1), .inl (a2)])) st9 σ9)) rfl ?_
      refine ox_R_call (fc := (fun r : Int => ((.inl (some (.inl r)), r1) : ox_O))) (L_Otl_rankOf a1 r1 (n + 4) tl) (fun r14 => ?_)
      refine ox_R_of (Y := ox_ev m_Out_entry (ox_zz ox_ms (n + 6)) 163 1 tl [.inr (.inr (0, 0, 0)), .inl (a1), .inl (a2)] [.inl (r14)] r1) rfl ?_
      refine ox_R_to 1 (Y := some (.inl (some (.inl (r14))), r1)) rfl ?_
      exact ox_R_ret rfl
    · refine ox_R_to 1 (Y := some (.inr 2, r1)) rfl ?_
      exact ox_R_ret rfl
def J_Out_checkLetter_10  (σ : ox_H) : Option ((Nat ⊕ Unit)) := some (.inl 2)
theorem L_Out_checkLetter_10  (σ : ox_H) (n tl : Nat) : ox_R (fun r => some ((fun r : (Nat ⊕ Unit) => (((Sum.elim (fun e : Nat => (.inr e : Option ox_V ⊕ Nat)) (fun v : Unit => .inl none) r), σ) : ox_O)) r)) (J_Out_checkLetter_10 σ) (ox_ev m_Out_checkLetter (ox_zz ox_ms (n + 0)) 10 1 tl [ox_d] [] σ) := by
  unfold J_Out_checkLetter_10
  refine ox_R_to 1 (Y := some (.inr 2, σ)) rfl ?_
  exact ox_R_ret rfl
def F_Out_checkLetter  (a1 : Int) (σ : ox_H) : Option ((Nat ⊕ Unit)) := if a1 < 0 then (J_Out_checkLetter_10 σ) else (if a1 < 26 then (some (.inr ())) else (J_Out_checkLetter_10 σ))
theorem L_Out_checkLetter  (a1 : Int) (σ : ox_H) (n tl : Nat) : ox_R (fun r => some ((fun r : (Nat ⊕ Unit) => (((Sum.elim (fun e : Nat => (.inr e : Option ox_V ⊕ Nat)) (fun v : Unit => .inl none) r), σ) : ox_O)) r)) (F_Out_checkLetter a1 σ) (ox_zz ox_ms (n + 1) 19 tl [.inl (a1)] σ) := by
  unfold F_Out_checkLetter
  refine ox_R_of (Y := ox_ev m_Out_checkLetter (ox_zz ox_ms (n + 0)) 0 1 tl [.inl (a1)] [] σ) rfl ?_
  refine ox_R_to 2 (Y := if a1 < 0 then ox_ev m_Out_checkLetter (ox_zz ox_ms (n + 0)) 10 1 tl [ox_d] [] σ else ox_ev m_Out_checkLetter (ox_zz ox_ms (n + 0)) 4 1 tl [.inl (a1)] [] σ) rfl ?_
  refine ox_R_if (fun _ => ?_) (fun _ => ?_)
  · exact (L_Out_checkLetter_10 σ n tl)
  · refine ox_R_to 3 (Y := if a1 < 26 then ox_ev m_Out_checkLetter (ox_zz ox_ms (n + 0)) 21 1 tl [.inl (a1)] [] σ else ox_ev m_Out_checkLetter (ox_zz ox_ms (n + 0)) 10 1 tl [ox_d] [] σ) rfl ?_
    refine ox_R_if (fun _ => ?_) (fun _ => ?_)
    · refine ox_R_to 1 (Y := some (.inl none, σ)) rfl ?_
      exact ox_R_ret rfl
    · exact (L_Out_checkLetter_10 σ n tl)
def J_Otl_own_59  (σ : ox_H) : Option Int := some (-1)
theorem L_Otl_own_59  (σ : ox_H) (n tl : Nat) : ox_R (fun r => some ((fun r : Int => ((.inl (some (.inl r)), σ) : ox_O)) r)) (J_Otl_own_59 σ) (ox_ev m_Otl_own (ox_zz ox_ms (n + 1)) 59 0 tl [ox_d, ox_d, ox_d, ox_d, ox_d, ox_d] [] σ) := by
  unfold J_Otl_own_59
  refine ox_R_to 2 (Y := some (.inl (some (.inl ((-1)))), σ)) rfl ?_
  exact ox_R_ret rfl
def J_Otl_own_47  (v5 : Nat) (σ : ox_H) : Option Int := some (σ 4 v5 2 0)
theorem L_Otl_own_47  (v5 : Nat) (σ : ox_H) (n tl : Nat) : ox_R (fun r => some ((fun r : Int => ((.inl (some (.inl r)), σ) : ox_O)) r)) (J_Otl_own_47 v5 σ) (ox_ev m_Otl_own (ox_zz ox_ms (n + 1)) 47 0 tl [ox_d, ox_d, ox_d, ox_d, ox_d, .inr (.inr (4, v5, 0))] [] σ) := by
  unfold J_Otl_own_47
  refine ox_R_to 3 (Y := some (.inl (some (.inl (σ 4 v5 2 0))), σ)) rfl ?_
  exact ox_R_ret rfl
def J_Otl_own_53  (v2 : Int) (v3 : Int) (v4 : Int) (σ : ox_H) : Option (((Int) ⊕ Int)) := some (.inl (ox_w (v4 + 1)))
theorem L_Otl_own_53  (v2 : Int) (v3 : Int) (v4 : Int) (σ : ox_H) (n tl : Nat) : ox_R (Sum.elim (fun (v4 : Int) => ox_ev m_Otl_own (ox_zz ox_ms (n + 1)) 15 0 tl [.inr (.inr (2, 0, 0)), ox_d, .inl (v2), .inl (v3), .inl (v4), ox_d] [] σ) (fun r => some ((fun r : Int => ((.inl (some (.inl r)), σ) : ox_O)) r))) (J_Otl_own_53 v2 v3 v4 σ) (ox_ev m_Otl_own (ox_zz ox_ms (n + 1)) 53 0 tl [.inr (.inr (2, 0, 0)), ox_d, .inl (v2), .inl (v3), .inl (v4), ox_d] [] σ) := by
  unfold J_Otl_own_53
  refine ox_R_to 2 (Y := ox_ev m_Otl_own (ox_zz ox_ms (n + 1)) 15 0 tl [.inr (.inr (2, 0, 0)), ox_d, .inl (v2), .inl (v3), .inl (ox_w (v4 + 1)), ox_d] [] σ) rfl ?_
  exact ox_R_ret rfl
def B_Otl_own_15  (v2 : Int) (v3 : Int) (σ : ox_H) : (Int) → Option (((Int) ⊕ Int)) := fun v4 => if v3 ≤ v4 then ((J_Otl_own_59 σ).map .inr) else ((F_Otl_reading v4 σ).bind fun r1 => (if (σ 4 r1 0 0) = 1 then (if (σ 4 r1 1 0) = v2 then ((J_Otl_own_47 r1 σ).map .inr) else (J_Otl_own_53 v2 v3 v4 σ)) else (J_Otl_own_53 v2 v3 v4 σ)))
def J_Otl_own_15  (v2 : Int) (v3 : Int) (v4 : Int) (σ : ox_H) : Option (Int) := ox_lp (B_Otl_own_15 v2 v3 σ) ox_fu v4
theorem L_Otl_own_15  (v2 : Int) (v3 : Int) (v4 : Int) (σ : ox_H) (n tl : Nat) : ox_R (fun r => some ((fun r : Int => ((.inl (some (.inl r)), σ) : ox_O)) r)) (J_Otl_own_15 v2 v3 v4 σ) (ox_ev m_Otl_own (ox_zz ox_ms (n + 1)) 15 0 tl [.inr (.inr (2, 0, 0)), ox_d, .inl (v2), .inl (v3), .inl (v4), ox_d] [] σ) := by
  unfold J_Otl_own_15
  refine ox_R_lp (ψ := (fun (v4 : Int) => ox_ev m_Otl_own (ox_zz ox_ms (n + 1)) 15 0 tl [.inr (.inr (2, 0, 0)), ox_d, .inl (v2), .inl (v3), .inl (v4), ox_d] [] σ)) ?_ ox_fu v4
  intro s
  revert s; intro v4
  unfold B_Otl_own_15
  refine ox_R_to 3 (Y := if v3 ≤ v4 then ox_ev m_Otl_own (ox_zz ox_ms (n + 1)) 59 0 tl [ox_d, ox_d, ox_d, ox_d, ox_d, ox_d] [] σ else ox_ev m_Otl_own (ox_zz ox_ms (n + 1)) 21 0 tl [.inr (.inr (2, 0, 0)), ox_d, .inl (v2), .inl (v3), .inl (v4), ox_d] [] σ) rfl ?_
  refine ox_R_if (fun _ => ?_) (fun _ => ?_)
  · exact ox_R_map ((L_Otl_own_59 σ n tl))
  · refine ox_R_to 3 (Y := ox_back m_Otl_own 24 1 [] ((ox_zz ox_ms (n + 1)) 172 tl [.inr (.inr (2, 0, 0)), .inl (v4)] σ) (fun pc9 x9 st9 σ9 => ox_ev m_Otl_own (ox_zz ox_ms (n + 1)) pc9 0 tl (ox_kl (m_Otl_own.2.2.1 pc9) (ox_xl x9 [.inr (.inr (2, 0, 0)), ox_d, .inl (v2), .inl (v3), .inl (v4), ox_d])) st9 σ9)) rfl ?_
    refine ox_R_call (fc := (fun r : Nat => ((.inl (some (.inr (.inr (4, r, 0)))), σ) : ox_O))) (L_Otl_reading v4 σ (n + 0) tl) (fun r1 => ?_)
    refine ox_R_of (Y := ox_ev m_Otl_own (ox_zz ox_ms (n + 1)) 27 0 tl [.inr (.inr (2, 0, 0)), ox_d, .inl (v2), .inl (v3), .inl (v4), ox_d] [.inr (.inr (4, r1, 0))] σ) rfl ?_
    refine ox_R_to 5 (Y := if (σ 4 r1 0 0) = 1 then ox_ev m_Otl_own (ox_zz ox_ms (n + 1)) 38 0 tl [.inr (.inr (2, 0, 0)), ox_d, .inl (v2), .inl (v3), .inl (v4), .inr (.inr (4, r1, 0))] [] σ else ox_ev m_Otl_own (ox_zz ox_ms (n + 1)) 53 0 tl [.inr (.inr (2, 0, 0)), ox_d, .inl (v2), .inl (v3), .inl (v4), ox_d] [] σ) rfl ?_
    refine ox_R_if (fun _ => ?_) (fun _ => ?_)
    · refine ox_R_to 4 (Y := if (σ 4 r1 1 0) = v2 then ox_ev m_Otl_own (ox_zz ox_ms (n + 1)) 47 0 tl [ox_d, ox_d, ox_d, ox_d, ox_d, .inr (.inr (4, r1, 0))] [] σ else ox_ev m_Otl_own (ox_zz ox_ms (n + 1)) 53 0 tl [.inr (.inr (2, 0, 0)), ox_d, .inl (v2), .inl (v3), .inl (v4), ox_d] [] σ) rfl ?_
      refine ox_R_if (fun _ => ?_) (fun _ => ?_)
      · exact ox_R_map ((L_Otl_own_47 r1 σ n tl))
      · exact (L_Otl_own_53 v2 v3 v4 σ n tl)
    · exact (L_Otl_own_53 v2 v3 v4 σ n tl)
def F_Otl_own  (a1 : Int) (a2 : Int) (σ : ox_H) : Option (Int) := (F_Otl_ownEnd a1 σ).bind fun r2 => ((F_Otl_lineOf a1 σ).bind fun r3 => (J_Otl_own_15 a2 r2 (ox_w (r3 + 1)) σ))
theorem L_Otl_own  (a1 : Int) (a2 : Int) (σ : ox_H) (n tl : Nat) : ox_R (fun r => some ((fun r : Int => ((.inl (some (.inl r)), σ) : ox_O)) r)) (F_Otl_own a1 a2 σ) (ox_zz ox_ms (n + 2) 187 tl [.inr (.inr (2, 0, 0)), .inl (a1), .inl (a2)] σ) := by
  unfold F_Otl_own
  refine ox_R_of (Y := ox_ev m_Otl_own (ox_zz ox_ms (n + 1)) 0 0 tl [.inr (.inr (2, 0, 0)), .inl (a1), .inl (a2), ox_d, ox_d, ox_d] [] σ) rfl ?_
  refine ox_R_to 3 (Y := ox_back m_Otl_own 2 1 [] ((ox_zz ox_ms (n + 1)) 184 tl [.inr (.inr (2, 0, 0)), .inl (a1)] σ) (fun pc9 x9 st9 σ9 => ox_ev m_Otl_own (ox_zz ox_ms (n + 1)) pc9 0 tl (ox_kl (m_Otl_own.2.2.1 pc9) (ox_xl x9 [.inr (.inr (2, 0, 0)), .inl (a1), .inl (a2), ox_d, ox_d, ox_d])) st9 σ9)) rfl ?_
  refine ox_R_call (fc := (fun r : Int => ((.inl (some (.inl r)), σ) : ox_O))) (L_Otl_ownEnd a1 σ (n + 0) tl) (fun r2 => ?_)
  refine ox_R_of (Y := ox_ev m_Otl_own (ox_zz ox_ms (n + 1)) 5 0 tl [.inr (.inr (2, 0, 0)), .inl (a1), .inl (a2), ox_d, ox_d, ox_d] [.inl (r2)] σ) rfl ?_
  refine ox_R_to 4 (Y := ox_back m_Otl_own 8 1 [] ((ox_zz ox_ms (n + 1)) 174 tl [.inr (.inr (2, 0, 0)), .inl (a1)] σ) (fun pc9 x9 st9 σ9 => ox_ev m_Otl_own (ox_zz ox_ms (n + 1)) pc9 0 tl (ox_kl (m_Otl_own.2.2.1 pc9) (ox_xl x9 [.inr (.inr (2, 0, 0)), .inl (a1), .inl (a2), .inl (r2), ox_d, ox_d])) st9 σ9)) rfl ?_
  refine ox_R_call (fc := (fun r : Int => ((.inl (some (.inl r)), σ) : ox_O))) (L_Otl_lineOf a1 σ (n + 0) tl) (fun r3 => ?_)
  refine ox_R_of (Y := ox_ev m_Otl_own (ox_zz ox_ms (n + 1)) 11 0 tl [.inr (.inr (2, 0, 0)), .inl (a1), .inl (a2), .inl (r2), ox_d, ox_d] [.inl (r3)] σ) rfl ?_
  refine ox_R_to 3 (Y := ox_ev m_Otl_own (ox_zz ox_ms (n + 1)) 15 0 tl [.inr (.inr (2, 0, 0)), ox_d, .inl (a2), .inl (r2), .inl (ox_w (r3 + 1)), ox_d] [] σ) rfl ?_
  exact (L_Otl_own_15 a2 r2 (ox_w (r3 + 1)) σ n tl)
def J_Otl_summed_41  (v3 : Int) (σ : ox_H) : Option Int := some v3
theorem L_Otl_summed_41  (v3 : Int) (σ : ox_H) (n tl : Nat) : ox_R (fun r => some ((fun r : Int => ((.inl (some (.inl r)), σ) : ox_O)) r)) (J_Otl_summed_41 v3 σ) (ox_ev m_Otl_summed (ox_zz ox_ms (n + 2)) 41 0 tl [ox_d, ox_d, ox_d, .inl (v3), ox_d, ox_d] [] σ) := by
  unfold J_Otl_summed_41
  refine ox_R_to 2 (Y := some (.inl (some (.inl (v3))), σ)) rfl ?_
  exact ox_R_ret rfl
def B_Otl_summed_14  (v2 : Int) (v4 : Int) (σ : ox_H) : (Int × Int) → Option (((Int × Int) ⊕ Int)) := fun (v3, v5) => if v4 < v5 then ((J_Otl_summed_41 v3 σ).map .inr) else ((F_Otl_own v5 v2 σ).bind fun r1 => (some (.inl (ox_w (v3 + (if 0 < r1 then r1 else 0)), ox_w (v5 + 1)))))
def J_Otl_summed_14  (v2 : Int) (v3 : Int) (v4 : Int) (v5 : Int) (σ : ox_H) : Option (Int) := ox_lp (B_Otl_summed_14 v2 v4 σ) ox_fu (v3, v5)
theorem L_Otl_summed_14  (v2 : Int) (v3 : Int) (v4 : Int) (v5 : Int) (σ : ox_H) (n tl : Nat) : ox_R (fun r => some ((fun r : Int => ((.inl (some (.inl r)), σ) : ox_O)) r)) (J_Otl_summed_14 v2 v3 v4 v5 σ) (ox_ev m_Otl_summed (ox_zz ox_ms (n + 2)) 14 0 tl [.inr (.inr (2, 0, 0)), ox_d, .inl (v2), .inl (v3), .inl (v4), .inl (v5)] [] σ) := by
  unfold J_Otl_summed_14
  refine ox_R_lp (ψ := (fun (s : Int × Int) => match s with | (v3, v5) => ox_ev m_Otl_summed (ox_zz ox_ms (n + 2)) 14 0 tl [.inr (.inr (2, 0, 0)), ox_d, .inl (v2), .inl (v3), .inl (v4), .inl (v5)] [] σ)) ?_ ox_fu (v3, v5)
  intro s
  obtain ⟨v3, v5⟩ := s
  unfold B_Otl_summed_14
  refine ox_R_to 3 (Y := if v4 < v5 then ox_ev m_Otl_summed (ox_zz ox_ms (n + 2)) 41 0 tl [ox_d, ox_d, ox_d, .inl (v3), ox_d, ox_d] [] σ else ox_ev m_Otl_summed (ox_zz ox_ms (n + 2)) 21 0 tl [.inr (.inr (2, 0, 0)), ox_d, .inl (v2), .inl (v3), .inl (v4), .inl (v5)] [] σ) rfl ?_
  refine ox_R_if (fun _ => ?_) (fun _ => ?_)
  · exact ox_R_map ((L_Otl_summed_41 v3 σ n tl))
  · refine ox_R_to 6 (Y := ox_back m_Otl_summed 27 1 [.inl (0), .inl (v3)] ((ox_zz ox_ms (n + 2)) 187 tl [.inr (.inr (2, 0, 0)), .inl (v5), .inl (v2)] σ) (fun pc9 x9 st9 σ9 => ox_ev m_Otl_summed (ox_zz ox_ms (n + 2)) pc9 0 tl (ox_kl (m_Otl_summed.2.2.1 pc9) (ox_xl x9 [.inr (.inr (2, 0, 0)), ox_d, .inl (v2), .inl (v3), .inl (v4), .inl (v5)])) st9 σ9)) rfl ?_
    refine ox_R_call (fc := (fun r : Int => ((.inl (some (.inl r)), σ) : ox_O))) (L_Otl_own v5 v2 σ (n + 0) tl) (fun r1 => ?_)
    refine ox_R_of (Y := ox_ev m_Otl_summed (ox_zz ox_ms (n + 2)) 30 0 tl [.inr (.inr (2, 0, 0)), ox_d, .inl (v2), .inl (v3), .inl (v4), .inl (v5)] [.inl (r1), .inl (0), .inl (v3)] σ) rfl ?_
    refine ox_R_to 5 (Y := ox_ev m_Otl_summed (ox_zz ox_ms (n + 2)) 14 0 tl [.inr (.inr (2, 0, 0)), ox_d, .inl (v2), .inl (ox_w (v3 + (if 0 < r1 then r1 else 0))), .inl (v4), .inl (ox_w (v5 + 1))] [] σ) rfl ?_
    exact ox_R_ret rfl
def F_Otl_summed  (a1 : Int) (a2 : Int) (σ : ox_H) : Option (Int) := (F_Otl_below a1 σ).bind fun r2 => (J_Otl_summed_14 a2 0 (ox_w (a1 + r2)) a1 σ)
theorem L_Otl_summed  (a1 : Int) (a2 : Int) (σ : ox_H) (n tl : Nat) : ox_R (fun r => some ((fun r : Int => ((.inl (some (.inl r)), σ) : ox_O)) r)) (F_Otl_summed a1 a2 σ) (ox_zz ox_ms (n + 3) 189 tl [.inr (.inr (2, 0, 0)), .inl (a1), .inl (a2)] σ) := by
  unfold F_Otl_summed
  refine ox_R_of (Y := ox_ev m_Otl_summed (ox_zz ox_ms (n + 2)) 0 0 tl [.inr (.inr (2, 0, 0)), .inl (a1), .inl (a2), ox_d, ox_d, ox_d] [] σ) rfl ?_
  refine ox_R_to 6 (Y := ox_back m_Otl_summed 5 1 [.inl (a1)] ((ox_zz ox_ms (n + 2)) 182 tl [.inr (.inr (2, 0, 0)), .inl (a1)] σ) (fun pc9 x9 st9 σ9 => ox_ev m_Otl_summed (ox_zz ox_ms (n + 2)) pc9 0 tl (ox_kl (m_Otl_summed.2.2.1 pc9) (ox_xl x9 [.inr (.inr (2, 0, 0)), .inl (a1), .inl (a2), .inl (0), ox_d, ox_d])) st9 σ9)) rfl ?_
  refine ox_R_call (fc := (fun r : Int => ((.inl (some (.inl r)), σ) : ox_O))) (L_Otl_below a1 σ (n + 0) tl) (fun r2 => ?_)
  refine ox_R_of (Y := ox_ev m_Otl_summed (ox_zz ox_ms (n + 2)) 8 0 tl [.inr (.inr (2, 0, 0)), .inl (a1), .inl (a2), .inl (0), ox_d, ox_d] [.inl (r2), .inl (a1)] σ) rfl ?_
  refine ox_R_to 4 (Y := ox_ev m_Otl_summed (ox_zz ox_ms (n + 2)) 14 0 tl [.inr (.inr (2, 0, 0)), ox_d, .inl (a2), .inl (0), .inl (ox_w (a1 + r2)), .inl (a1)] [] σ) rfl ?_
  exact (L_Otl_summed_14 a2 0 (ox_w (a1 + r2)) a1 σ n tl)
def J_Otl_inherited_45  (σ : ox_H) : Option Int := some (-1)
theorem L_Otl_inherited_45  (σ : ox_H) (n tl : Nat) : ox_R (fun r => some ((fun r : Int => ((.inl (some (.inl r)), σ) : ox_O)) r)) (J_Otl_inherited_45 σ) (ox_ev m_Otl_inherited (ox_zz ox_ms (n + 2)) 45 0 tl [ox_d, ox_d, ox_d, ox_d, ox_d, ox_d] [] σ) := by
  unfold J_Otl_inherited_45
  refine ox_R_to 2 (Y := some (.inl (some (.inl ((-1)))), σ)) rfl ?_
  exact ox_R_ret rfl
def J_Otl_inherited_30  (v5 : Int) (σ : ox_H) : Option Int := some v5
theorem L_Otl_inherited_30  (v5 : Int) (σ : ox_H) (n tl : Nat) : ox_R (fun r => some ((fun r : Int => ((.inl (some (.inl r)), σ) : ox_O)) r)) (J_Otl_inherited_30 v5 σ) (ox_ev m_Otl_inherited (ox_zz ox_ms (n + 2)) 30 0 tl [ox_d, ox_d, ox_d, ox_d, ox_d, .inl (v5)] [] σ) := by
  unfold J_Otl_inherited_30
  refine ox_R_to 2 (Y := some (.inl (some (.inl (v5))), σ)) rfl ?_
  exact ox_R_ret rfl
def B_Otl_inherited_5  (v2 : Int) (σ : ox_H) : (Int × Int) → Option (((Int × Int) ⊕ Int)) := fun (v3, v4) => if 5 ≤ v4 then ((J_Otl_inherited_45 σ).map .inr) else (if v3 = (-1) then ((J_Otl_inherited_45 σ).map .inr) else ((F_Otl_own v3 v2 σ).bind fun r1 => (if r1 = (-1) then ((F_Otl_parentOf v3 σ).bind fun r2 => (some (.inl (r2, ox_w (v4 + 1))))) else ((J_Otl_inherited_30 r1 σ).map .inr))))
def J_Otl_inherited_5  (v2 : Int) (v3 : Int) (v4 : Int) (σ : ox_H) : Option (Int) := ox_lp (B_Otl_inherited_5 v2 σ) ox_fu (v3, v4)
theorem L_Otl_inherited_5  (v2 : Int) (v3 : Int) (v4 : Int) (σ : ox_H) (n tl : Nat) : ox_R (fun r => some ((fun r : Int => ((.inl (some (.inl r)), σ) : ox_O)) r)) (J_Otl_inherited_5 v2 v3 v4 σ) (ox_ev m_Otl_inherited (ox_zz ox_ms (n + 2)) 5 0 tl [.inr (.inr (2, 0, 0)), ox_d, .inl (v2), .inl (v3), .inl (v4), ox_d] [] σ) := by
  unfold J_Otl_inherited_5
  refine ox_R_lp (ψ := (fun (s : Int × Int) => match s with | (v3, v4) => ox_ev m_Otl_inherited (ox_zz ox_ms (n + 2)) 5 0 tl [.inr (.inr (2, 0, 0)), ox_d, .inl (v2), .inl (v3), .inl (v4), ox_d] [] σ)) ?_ ox_fu (v3, v4)
  intro s
  obtain ⟨v3, v4⟩ := s
  unfold B_Otl_inherited_5
  refine ox_R_to 3 (Y := if 5 ≤ v4 then ox_ev m_Otl_inherited (ox_zz ox_ms (n + 2)) 45 0 tl [ox_d, ox_d, ox_d, ox_d, ox_d, ox_d] [] σ else ox_ev m_Otl_inherited (ox_zz ox_ms (n + 2)) 11 0 tl [.inr (.inr (2, 0, 0)), ox_d, .inl (v2), .inl (v3), .inl (v4), ox_d] [] σ) rfl ?_
  refine ox_R_if (fun _ => ?_) (fun _ => ?_)
  · exact ox_R_map ((L_Otl_inherited_45 σ n tl))
  · refine ox_R_to 3 (Y := if v3 = (-1) then ox_ev m_Otl_inherited (ox_zz ox_ms (n + 2)) 45 0 tl [ox_d, ox_d, ox_d, ox_d, ox_d, ox_d] [] σ else ox_ev m_Otl_inherited (ox_zz ox_ms (n + 2)) 16 0 tl [.inr (.inr (2, 0, 0)), ox_d, .inl (v2), .inl (v3), .inl (v4), ox_d] [] σ) rfl ?_
    refine ox_R_if (fun _ => ?_) (fun _ => ?_)
    · exact ox_R_map ((L_Otl_inherited_45 σ n tl))
    · refine ox_R_to 4 (Y := ox_back m_Otl_inherited 19 1 [] ((ox_zz ox_ms (n + 2)) 187 tl [.inr (.inr (2, 0, 0)), .inl (v3), .inl (v2)] σ) (fun pc9 x9 st9 σ9 => ox_ev m_Otl_inherited (ox_zz ox_ms (n + 2)) pc9 0 tl (ox_kl (m_Otl_inherited.2.2.1 pc9) (ox_xl x9 [.inr (.inr (2, 0, 0)), ox_d, .inl (v2), .inl (v3), .inl (v4), ox_d])) st9 σ9)) rfl ?_
      refine ox_R_call (fc := (fun r : Int => ((.inl (some (.inl r)), σ) : ox_O))) (L_Otl_own v3 v2 σ (n + 0) tl) (fun r1 => ?_)
      refine ox_R_of (Y := ox_ev m_Otl_inherited (ox_zz ox_ms (n + 2)) 22 0 tl [.inr (.inr (2, 0, 0)), ox_d, .inl (v2), .inl (v3), .inl (v4), ox_d] [.inl (r1)] σ) rfl ?_
      refine ox_R_to 4 (Y := if r1 = (-1) then ox_ev m_Otl_inherited (ox_zz ox_ms (n + 2)) 33 0 tl [.inr (.inr (2, 0, 0)), ox_d, .inl (v2), .inl (v3), .inl (v4), .inl (r1)] [] σ else ox_ev m_Otl_inherited (ox_zz ox_ms (n + 2)) 30 0 tl [ox_d, ox_d, ox_d, ox_d, ox_d, .inl (r1)] [] σ) rfl ?_
      refine ox_R_if (fun _ => ?_) (fun _ => ?_)
      · refine ox_R_to 3 (Y := ox_back m_Otl_inherited 35 1 [] ((ox_zz ox_ms (n + 2)) 175 tl [.inr (.inr (2, 0, 0)), .inl (v3)] σ) (fun pc9 x9 st9 σ9 => ox_ev m_Otl_inherited (ox_zz ox_ms (n + 2)) pc9 0 tl (ox_kl (m_Otl_inherited.2.2.1 pc9) (ox_xl x9 [.inr (.inr (2, 0, 0)), ox_d, .inl (v2), .inl (v3), .inl (v4), .inl (r1)])) st9 σ9)) rfl ?_
        refine ox_R_call (fc := (fun r : Int => ((.inl (some (.inl r)), σ) : ox_O))) (L_Otl_parentOf v3 σ (n + 1) tl) (fun r2 => ?_)
        refine ox_R_of (Y := ox_ev m_Otl_inherited (ox_zz ox_ms (n + 2)) 38 0 tl [.inr (.inr (2, 0, 0)), ox_d, .inl (v2), .inl (v3), .inl (v4), .inl (r1)] [.inl (r2)] σ) rfl ?_
        refine ox_R_to 3 (Y := ox_ev m_Otl_inherited (ox_zz ox_ms (n + 2)) 5 0 tl [.inr (.inr (2, 0, 0)), ox_d, .inl (v2), .inl (r2), .inl (ox_w (v4 + 1)), ox_d] [] σ) rfl ?_
        exact ox_R_ret rfl
      · exact ox_R_map ((L_Otl_inherited_30 r1 σ n tl))
def F_Otl_inherited  (a1 : Int) (a2 : Int) (σ : ox_H) : Option (Int) := (J_Otl_inherited_5 a2 a1 0 σ)
theorem L_Otl_inherited  (a1 : Int) (a2 : Int) (σ : ox_H) (n tl : Nat) : ox_R (fun r => some ((fun r : Int => ((.inl (some (.inl r)), σ) : ox_O)) r)) (F_Otl_inherited a1 a2 σ) (ox_zz ox_ms (n + 3) 188 tl [.inr (.inr (2, 0, 0)), .inl (a1), .inl (a2)] σ) := by
  unfold F_Otl_inherited
  refine ox_R_of (Y := ox_ev m_Otl_inherited (ox_zz ox_ms (n + 2)) 0 0 tl [.inr (.inr (2, 0, 0)), .inl (a1), .inl (a2), ox_d, ox_d, ox_d] [] σ) rfl ?_
  refine ox_R_to 4 (Y := ox_ev m_Otl_inherited (ox_zz ox_ms (n + 2)) 5 0 tl [.inr (.inr (2, 0, 0)), ox_d, .inl (a2), .inl (a1), .inl (0), ox_d] [] σ) rfl ?_
  exact (L_Otl_inherited_5 a2 a1 0 σ n tl)
def J_Out_property_41  (s0 : Int) (σ : ox_H) : Option ((Nat ⊕ Int) × ox_H) := some (.inr s0, σ)
theorem L_Out_property_41  (s0 : Int) (σ : ox_H) (n tl : Nat) : ox_R (fun r => some ((fun r : (Nat ⊕ Int) × ox_H => (((Sum.elim (fun e : Nat => (.inr e : Option ox_V ⊕ Nat)) (fun v : Int => .inl (some (.inl v))) r.1), r.2) : ox_O)) r)) (J_Out_property_41 s0 σ) (ox_ev m_Out_property (ox_zz ox_ms (n + 6)) 41 0 tl [ox_d, ox_d, ox_d, ox_d] [.inl (s0)] σ) := by
  unfold J_Out_property_41
  refine ox_R_to 1 (Y := some (.inl (some (.inl (s0))), σ)) rfl ?_
  exact ox_R_ret rfl
def F_Out_property  (a1 : Int) (a2 : Int) (a3 : Int) (σ : ox_H) : Option ((Nat ⊕ Int) × ox_H) := (F_Otl_refresh σ).bind fun r1 => ((F_Out_checkEntry a1 r1).bind fun r2 => match r2 with | .inl e9 => (some (.inl e9, r1)) | .inr x3 => ((F_Out_checkLetter a2 r1).bind fun r4 => match r4 with | .inl e8 => (some (.inl e8, r1)) | .inr x5 => (if a3 = 0 then ((F_Otl_inherited a1 a2 r1).bind fun r6 => (J_Out_property_41 r6 r1)) else ((F_Otl_summed a1 a2 r1).bind fun r7 => (J_Out_property_41 r7 r1)))))
theorem L_Out_property  (a1 : Int) (a2 : Int) (a3 : Int) (σ : ox_H) (n tl : Nat) : ox_R (fun r => some ((fun r : (Nat ⊕ Int) × ox_H => (((Sum.elim (fun e : Nat => (.inr e : Option ox_V ⊕ Nat)) (fun v : Int => .inl (some (.inl v))) r.1), r.2) : ox_O)) r)) (F_Out_property a1 a2 a3 σ) (ox_zz ox_ms (n + 7) 11 tl [.inr (.inr (0, 0, 0)), .inl (a1), .inl (a2), .inl (a3)] σ) := by
  unfold F_Out_property
  refine ox_R_of (Y := ox_ev m_Out_property (ox_zz ox_ms (n + 6)) 0 2 tl [.inr (.inr (0, 0, 0)), .inl (a1), .inl (a2), .inl (a3)] [] σ) rfl ?_
  refine ox_R_to 3 (Y := ox_back m_Out_property 4 2 [] ((ox_zz ox_ms (n + 6)) 169 tl [.inr (.inr (2, 0, 0))] σ) (fun pc9 x9 st9 σ9 => ox_ev m_Out_property (ox_zz ox_ms (n + 6)) pc9 2 tl (ox_kl (m_Out_property.2.2.1 pc9) (ox_xl x9 [.inr (.inr (0, 0, 0)), .inl (a1), .inl (a2), .inl (a3)])) st9 σ9)) rfl ?_
  refine ox_R_call (fc := (fun r : ox_H => ((.inl none, r) : ox_O))) (L_Otl_refresh σ (n + 0) tl) (fun r1 => ?_)
  refine ox_R_of (Y := ox_ev m_Out_property (ox_zz ox_ms (n + 6)) 7 2 tl [.inr (.inr (0, 0, 0)), .inl (a1), .inl (a2), .inl (a3)] [] r1) rfl ?_
  refine ox_R_to 3 (Y := ox_back m_Out_property 9 0 [] ((ox_zz ox_ms (n + 6)) 18 tl [.inr (.inr (0, 0, 0)), .inl (a1)] r1) (fun pc9 x9 st9 σ9 => ox_ev m_Out_property (ox_zz ox_ms (n + 6)) pc9 1 tl (ox_kl (m_Out_property.2.2.1 pc9) (ox_xl x9 [.inr (.inr (0, 0, 0)), .inl (a1), .inl (a2), .inl (a3)])) st9 σ9)) rfl ?_
  refine ox_R_call (fc := (fun r : (Nat ⊕ Unit) => (((Sum.elim (fun e : Nat => (.inr e : Option ox_V ⊕ Nat)) (fun v : Unit => .inl none) r), r1) : ox_O))) (L_Out_checkEntry a1 r1 (n + 4) tl) (fun r2 => ?_)
  rcases r2 with e9 | x3
  · refine ox_R_of (Y := some (.inr e9, r1)) rfl ?_
    exact ox_R_ret rfl
  · refine ox_R_of (Y := ox_ev m_Out_property (ox_zz ox_ms (n + 6)) 12 1 tl [.inr (.inr (0, 0, 0)), .inl (a1), .inl (a2), .inl (a3)] [] r1) rfl ?_
    refine ox_R_to 2 (Y := ox_back m_Out_property 13 0 [] ((ox_zz ox_ms (n + 6)) 19 tl [.inl (a2)] r1) (fun pc9 x9 st9 σ9 => ox_ev m_Out_property (ox_zz ox_ms (n + 6)) pc9 0 tl (ox_kl (m_Out_property.2.2.1 pc9) (ox_xl x9 [.inr (.inr (0, 0, 0)), .inl (a1), .inl (a2), .inl (a3)])) st9 σ9)) rfl ?_
    refine ox_R_call (fc := (fun r : (Nat ⊕ Unit) => (((Sum.elim (fun e : Nat => (.inr e : Option ox_V ⊕ Nat)) (fun v : Unit => .inl none) r), r1) : ox_O))) (L_Out_checkLetter a2 r1 (n + 5) tl) (fun r4 => ?_)
    rcases r4 with e8 | x5
    · refine ox_R_of (Y := some (.inr e8, r1)) rfl ?_
      exact ox_R_ret rfl
    · refine ox_R_of (Y := ox_ev m_Out_property (ox_zz ox_ms (n + 6)) 16 0 tl [.inr (.inr (0, 0, 0)), .inl (a1), .inl (a2), .inl (a3)] [] r1) rfl ?_
      refine ox_R_to 2 (Y := if a3 = 0 then ox_ev m_Out_property (ox_zz ox_ms (n + 6)) 32 0 tl [.inr (.inr (0, 0, 0)), .inl (a1), .inl (a2), .inl (a3)] [] r1 else ox_ev m_Out_property (ox_zz ox_ms (n + 6)) 20 0 tl [.inr (.inr (0, 0, 0)), .inl (a1), .inl (a2), .inl (a3)] [] r1) rfl ?_
      refine ox_R_if (fun _ => ?_) (fun _ => ?_)
      · refine ox_R_to 5 (Y := ox_back m_Out_property 38 3 [] ((ox_zz ox_ms (n + 6)) 188 tl [.inr (.inr (2, 0, 0)), .inl (a1), .inl (a2)] r1) (fun pc9 x9 st9 σ9 => ox_ev m_Out_property (ox_zz ox_ms (n + 6)) pc9 0 tl (ox_kl (m_Out_property.2.2.1 pc9) (ox_xl x9 [.inr (.inr (0, 0, 0)), .inl (a1), .inl (a2), .inl (a3)])) st9 σ9)) rfl ?_
        refine ox_R_call (fc := (fun r : Int => ((.inl (some (.inl r)), r1) : ox_O))) (L_Otl_inherited a1 a2 r1 (n + 3) tl) (fun r6 => ?_)
        refine ox_R_of (Y := ox_ev m_Out_property (ox_zz ox_ms (n + 6)) 41 0 tl [ox_d, ox_d, ox_d, ox_d] [.inl (r6)] r1) rfl ?_
        exact (L_Out_property_41 r6 r1 n tl)
      · refine ox_R_to 5 (Y := ox_back m_Out_property 26 3 [] ((ox_zz ox_ms (n + 6)) 189 tl [.inr (.inr (2, 0, 0)), .inl (a1), .inl (a2)] r1) (fun pc9 x9 st9 σ9 => ox_ev m_Out_property (ox_zz ox_ms (n + 6)) pc9 0 tl (ox_kl (m_Out_property.2.2.1 pc9) (ox_xl x9 [.inr (.inr (0, 0, 0)), .inl (a1), .inl (a2), .inl (a3)])) st9 σ9)) rfl ?_
        refine ox_R_call (fc := (fun r : Int => ((.inl (some (.inl r)), r1) : ox_O))) (L_Otl_summed a1 a2 r1 (n + 3) tl) (fun r7 => ?_)
        refine ox_R_of (Y := ox_ev m_Out_property (ox_zz ox_ms (n + 6)) 29 0 tl [.inr (.inr (0, 0, 0)), .inl (a1), .inl (a2), .inl (a3)] [.inl (r7)] r1) rfl ?_
        refine ox_R_to 1 (Y := ox_ev m_Out_property (ox_zz ox_ms (n + 6)) 41 0 tl [ox_d, ox_d, ox_d, ox_d] [.inl (r7)] r1) rfl ?_
        exact (L_Out_property_41 r7 r1 n tl)
def J_Out_checkStars_96  (σ : ox_H) : Option ((Nat ⊕ Unit)) := some (.inr ())
theorem L_Out_checkStars_96  (σ : ox_H) (n tl : Nat) : ox_R (fun r => some ((fun r : (Nat ⊕ Unit) => (((Sum.elim (fun e : Nat => (.inr e : Option ox_V ⊕ Nat)) (fun v : Unit => .inl none) r), σ) : ox_O)) r)) (J_Out_checkStars_96 σ) (ox_ev m_Out_checkStars (ox_zz ox_ms (n + 2)) 96 1 tl [ox_d, ox_d, ox_d, ox_d, ox_d, ox_d] [] σ) := by
  unfold J_Out_checkStars_96
  refine ox_R_to 1 (Y := some (.inl none, σ)) rfl ?_
  exact ox_R_ret rfl
def J_Out_checkStars_45  (σ : ox_H) : Option ((Nat ⊕ Unit)) := some (.inl 3)
theorem L_Out_checkStars_45  (σ : ox_H) (n tl : Nat) : ox_R (fun r => some ((fun r : (Nat ⊕ Unit) => (((Sum.elim (fun e : Nat => (.inr e : Option ox_V ⊕ Nat)) (fun v : Unit => .inl none) r), σ) : ox_O)) r)) (J_Out_checkStars_45 σ) (ox_ev m_Out_checkStars (ox_zz ox_ms (n + 2)) 45 1 tl [ox_d, ox_d, ox_d, ox_d, ox_d, ox_d] [] σ) := by
  unfold J_Out_checkStars_45
  refine ox_R_to 1 (Y := some (.inr 3, σ)) rfl ?_
  exact ox_R_ret rfl
def J_Out_checkStars_79  (σ : ox_H) : Option ((Nat ⊕ Unit)) := some (.inl 3)
theorem L_Out_checkStars_79  (σ : ox_H) (n tl : Nat) : ox_R (fun r => some ((fun r : (Nat ⊕ Unit) => (((Sum.elim (fun e : Nat => (.inr e : Option ox_V ⊕ Nat)) (fun v : Unit => .inl none) r), σ) : ox_O)) r)) (J_Out_checkStars_79 σ) (ox_ev m_Out_checkStars (ox_zz ox_ms (n + 2)) 79 1 tl [ox_d, ox_d, ox_d, ox_d, ox_d, ox_d] [] σ) := by
  unfold J_Out_checkStars_79
  refine ox_R_to 1 (Y := some (.inr 3, σ)) rfl ?_
  exact ox_R_ret rfl
def B_Out_checkStars_14  (v2 : Int) (v3 : Int) (σ : ox_H) : (Int) → Option (((Int) ⊕ (Nat ⊕ Unit))) := fun v4 => if v3 < v4 then ((J_Out_checkStars_96 σ).map .inr) else ((F_Otl_levelOf v4 σ).bind fun r1 => (if (ox_w (r1 + v2)) < 1 then ((J_Out_checkStars_45 σ).map .inr) else (if (ox_w (r1 + v2)) ≤ 5 then ((F_Otl_lineOf v4 σ).bind fun r2 => ((F_Lin_size 0 r2 σ).bind fun r3 => (if (ox_w (r3 + v2)) ≤ 24 then (some (.inl (ox_w (v4 + 1)))) else ((J_Out_checkStars_79 σ).map .inr)))) else ((J_Out_checkStars_45 σ).map .inr))))
def J_Out_checkStars_14  (v2 : Int) (v3 : Int) (v4 : Int) (σ : ox_H) : Option ((Nat ⊕ Unit)) := ox_lp (B_Out_checkStars_14 v2 v3 σ) ox_fu v4
theorem L_Out_checkStars_14  (v2 : Int) (v3 : Int) (v4 : Int) (σ : ox_H) (n tl : Nat) : ox_R (fun r => some ((fun r : (Nat ⊕ Unit) => (((Sum.elim (fun e : Nat => (.inr e : Option ox_V ⊕ Nat)) (fun v : Unit => .inl none) r), σ) : ox_O)) r)) (J_Out_checkStars_14 v2 v3 v4 σ) (ox_ev m_Out_checkStars (ox_zz ox_ms (n + 2)) 14 1 tl [.inr (.inr (0, 0, 0)), ox_d, .inl (v2), .inl (v3), .inl (v4), ox_d] [] σ) := by
  unfold J_Out_checkStars_14
  refine ox_R_lp (ψ := (fun (v4 : Int) => ox_ev m_Out_checkStars (ox_zz ox_ms (n + 2)) 14 1 tl [.inr (.inr (0, 0, 0)), ox_d, .inl (v2), .inl (v3), .inl (v4), ox_d] [] σ)) ?_ ox_fu v4
  intro s
  revert s; intro v4
  unfold B_Out_checkStars_14
  refine ox_R_to 3 (Y := if v3 < v4 then ox_ev m_Out_checkStars (ox_zz ox_ms (n + 2)) 96 1 tl [ox_d, ox_d, ox_d, ox_d, ox_d, ox_d] [] σ else ox_ev m_Out_checkStars (ox_zz ox_ms (n + 2)) 20 1 tl [.inr (.inr (0, 0, 0)), ox_d, .inl (v2), .inl (v3), .inl (v4), ox_d] [] σ) rfl ?_
  refine ox_R_if (fun _ => ?_) (fun _ => ?_)
  · exact ox_R_map ((L_Out_checkStars_96 σ n tl))
  · refine ox_R_to 4 (Y := ox_back m_Out_checkStars 26 3 [] ((ox_zz ox_ms (n + 2)) 177 tl [.inr (.inr (2, 0, 0)), .inl (v4)] σ) (fun pc9 x9 st9 σ9 => ox_ev m_Out_checkStars (ox_zz ox_ms (n + 2)) pc9 1 tl (ox_kl (m_Out_checkStars.2.2.1 pc9) (ox_xl x9 [.inr (.inr (0, 0, 0)), ox_d, .inl (v2), .inl (v3), .inl (v4), ox_d])) st9 σ9)) rfl ?_
    refine ox_R_call (fc := (fun r : Int => ((.inl (some (.inl r)), σ) : ox_O))) (L_Otl_levelOf v4 σ (n + 1) tl) (fun r1 => ?_)
    refine ox_R_of (Y := ox_ev m_Out_checkStars (ox_zz ox_ms (n + 2)) 29 1 tl [.inr (.inr (0, 0, 0)), ox_d, .inl (v2), .inl (v3), .inl (v4), ox_d] [.inl (r1)] σ) rfl ?_
    refine ox_R_to 6 (Y := if (ox_w (r1 + v2)) < 1 then ox_ev m_Out_checkStars (ox_zz ox_ms (n + 2)) 45 1 tl [ox_d, ox_d, ox_d, ox_d, ox_d, ox_d] [] σ else ox_ev m_Out_checkStars (ox_zz ox_ms (n + 2)) 39 1 tl [.inr (.inr (0, 0, 0)), ox_d, .inl (v2), .inl (v3), .inl (v4), .inl (ox_w (r1 + v2))] [] σ) rfl ?_
    refine ox_R_if (fun _ => ?_) (fun _ => ?_)
    · exact ox_R_map ((L_Out_checkStars_45 σ n tl))
    · refine ox_R_to 3 (Y := if (ox_w (r1 + v2)) ≤ 5 then ox_ev m_Out_checkStars (ox_zz ox_ms (n + 2)) 56 1 tl [.inr (.inr (0, 0, 0)), ox_d, .inl (v2), .inl (v3), .inl (v4), .inl (ox_w (r1 + v2))] [] σ else ox_ev m_Out_checkStars (ox_zz ox_ms (n + 2)) 45 1 tl [ox_d, ox_d, ox_d, ox_d, ox_d, ox_d] [] σ) rfl ?_
      refine ox_R_if (fun _ => ?_) (fun _ => ?_)
      · refine ox_R_to 6 (Y := ox_back m_Out_checkStars 66 3 [.inr (.inr (1, 0, 0))] ((ox_zz ox_ms (n + 2)) 174 tl [.inr (.inr (2, 0, 0)), .inl (v4)] σ) (fun pc9 x9 st9 σ9 => ox_ev m_Out_checkStars (ox_zz ox_ms (n + 2)) pc9 1 tl (ox_kl (m_Out_checkStars.2.2.1 pc9) (ox_xl x9 [.inr (.inr (0, 0, 0)), ox_d, .inl (v2), .inl (v3), .inl (v4), .inl (ox_w (r1 + v2))])) st9 σ9)) rfl ?_
        refine ox_R_call (fc := (fun r : Int => ((.inl (some (.inl r)), σ) : ox_O))) (L_Otl_lineOf v4 σ (n + 1) tl) (fun r2 => ?_)
        refine ox_R_of (Y := ox_ev m_Out_checkStars (ox_zz ox_ms (n + 2)) 69 1 tl [.inr (.inr (0, 0, 0)), ox_d, .inl (v2), .inl (v3), .inl (v4), .inl (ox_w (r1 + v2))] [.inl (r2), .inr (.inr (1, 0, 0))] σ) rfl ?_
        refine ox_R_to 1 (Y := ox_back m_Out_checkStars 69 3 [] ((ox_zz ox_ms (n + 2)) 156 tl [.inr (.inr (1, 0, 0)), .inl (r2)] σ) (fun pc9 x9 st9 σ9 => ox_ev m_Out_checkStars (ox_zz ox_ms (n + 2)) pc9 1 tl (ox_kl (m_Out_checkStars.2.2.1 pc9) (ox_xl x9 [.inr (.inr (0, 0, 0)), ox_d, .inl (v2), .inl (v3), .inl (v4), .inl (ox_w (r1 + v2))])) st9 σ9)) rfl ?_
        refine ox_R_call (fc := (fun r : Int => ((.inl (some (.inl r)), σ) : ox_O))) (L_Lin_size 0 r2 σ (n + 1) tl) (fun r3 => ?_)
        refine ox_R_of (Y := ox_ev m_Out_checkStars (ox_zz ox_ms (n + 2)) 72 1 tl [.inr (.inr (0, 0, 0)), ox_d, .inl (v2), .inl (v3), .inl (v4), .inl (ox_w (r1 + v2))] [.inl (r3)] σ) rfl ?_
        refine ox_R_to 4 (Y := if (ox_w (r3 + v2)) ≤ 24 then ox_ev m_Out_checkStars (ox_zz ox_ms (n + 2)) 90 1 tl [.inr (.inr (0, 0, 0)), ox_d, .inl (v2), .inl (v3), .inl (v4), .inl (ox_w (r1 + v2))] [] σ else ox_ev m_Out_checkStars (ox_zz ox_ms (n + 2)) 79 1 tl [ox_d, ox_d, ox_d, ox_d, ox_d, ox_d] [] σ) rfl ?_
        refine ox_R_if (fun _ => ?_) (fun _ => ?_)
        · refine ox_R_to 2 (Y := ox_ev m_Out_checkStars (ox_zz ox_ms (n + 2)) 14 1 tl [.inr (.inr (0, 0, 0)), ox_d, .inl (v2), .inl (v3), .inl (ox_w (v4 + 1)), ox_d] [] σ) rfl ?_
          exact ox_R_ret rfl
        · exact ox_R_map ((L_Out_checkStars_79 σ n tl))
      · exact ox_R_map ((L_Out_checkStars_45 σ n tl))
def F_Out_checkStars  (a1 : Int) (a2 : Int) (σ : ox_H) : Option ((Nat ⊕ Unit)) := (F_Otl_below a1 σ).bind fun r4 => (J_Out_checkStars_14 a2 (ox_w (a1 + r4)) a1 σ)
theorem L_Out_checkStars  (a1 : Int) (a2 : Int) (σ : ox_H) (n tl : Nat) : ox_R (fun r => some ((fun r : (Nat ⊕ Unit) => (((Sum.elim (fun e : Nat => (.inr e : Option ox_V ⊕ Nat)) (fun v : Unit => .inl none) r), σ) : ox_O)) r)) (F_Out_checkStars a1 a2 σ) (ox_zz ox_ms (n + 3) 20 tl [.inr (.inr (0, 0, 0)), .inl (a1), .inl (a2)] σ) := by
  unfold F_Out_checkStars
  refine ox_R_of (Y := ox_ev m_Out_checkStars (ox_zz ox_ms (n + 2)) 0 1 tl [.inr (.inr (0, 0, 0)), .inl (a1), .inl (a2), ox_d, ox_d, ox_d] [] σ) rfl ?_
  refine ox_R_to 5 (Y := ox_back m_Out_checkStars 6 3 [.inl (a1)] ((ox_zz ox_ms (n + 2)) 182 tl [.inr (.inr (2, 0, 0)), .inl (a1)] σ) (fun pc9 x9 st9 σ9 => ox_ev m_Out_checkStars (ox_zz ox_ms (n + 2)) pc9 1 tl (ox_kl (m_Out_checkStars.2.2.1 pc9) (ox_xl x9 [.inr (.inr (0, 0, 0)), .inl (a1), .inl (a2), ox_d, ox_d, ox_d])) st9 σ9)) rfl ?_
  refine ox_R_call (fc := (fun r : Int => ((.inl (some (.inl r)), σ) : ox_O))) (L_Otl_below a1 σ (n + 0) tl) (fun r4 => ?_)
  refine ox_R_of (Y := ox_ev m_Out_checkStars (ox_zz ox_ms (n + 2)) 9 1 tl [.inr (.inr (0, 0, 0)), .inl (a1), .inl (a2), ox_d, ox_d, ox_d] [.inl (r4), .inl (a1)] σ) rfl ?_
  refine ox_R_to 4 (Y := ox_ev m_Out_checkStars (ox_zz ox_ms (n + 2)) 14 1 tl [.inr (.inr (0, 0, 0)), ox_d, .inl (a2), .inl (ox_w (a1 + r4)), .inl (a1), ox_d] [] σ) rfl ?_
  exact (L_Out_checkStars_14 a2 (ox_w (a1 + r4)) a1 σ n tl)
def J_Lin_putIn_39  (σ : ox_H) : Option ox_H := some σ
theorem L_Lin_putIn_39  (σ : ox_H) (n tl : Nat) : ox_R (fun r => some ((fun r : ox_H => ((.inl none, r) : ox_O)) r)) (J_Lin_putIn_39 σ) (ox_ev m_Lin_putIn (ox_zz ox_ms (n + 0)) 39 0 tl [ox_d, ox_d, ox_d, ox_d, ox_d] [] σ) := by
  unfold J_Lin_putIn_39
  refine ox_R_to 1 (Y := some (.inl none, σ)) rfl ?_
  exact ox_R_ret rfl
def F_Lin_putIn  (k : Nat) (a1 : Int) (a2 : Int) (a3 : Int) (σ : ox_H) : Option (ox_H) := if a1 < 0 then (J_Lin_putIn_39 σ) else (if (σ 1 k 4 0) ≤ a1 then (J_Lin_putIn_39 σ) else (if a2 < 0 then (J_Lin_putIn_39 σ) else (if 0 ≤ a1 ∧ a1.toNat < (ox_ln k) then (if (σ 1 k 3 a1.toNat) < a2 then (J_Lin_putIn_39 σ) else (if 0 ≤ a1 ∧ a1.toNat < (ox_ln k) then (if (σ 1 k 3 a1.toNat) < (σ 1 k 1 0) then (if 0 ≤ a1 ∧ a1.toNat < (ox_ln k) then (if 0 ≤ (ox_w ((σ 1 k 3 a1.toNat) - a2)) ∧ 0 ≤ (ox_w ((ox_w ((ox_w (a1 * (σ 1 k 1 0))) + a2)) + 1)) ∧ 0 ≤ (ox_w ((ox_w (a1 * (σ 1 k 1 0))) + a2)) ∧ (ox_w ((ox_w (a1 * (σ 1 k 1 0))) + a2)) + (ox_w ((σ 1 k 3 a1.toNat) - a2)) ≤ (ox_ln k * ox_wd k) ∧ (ox_w ((ox_w ((ox_w (a1 * (σ 1 k 1 0))) + a2)) + 1)) + (ox_w ((σ 1 k 3 a1.toNat) - a2)) ≤ (ox_ln k * ox_wd k) then (if 0 ≤ (ox_w ((ox_w (a1 * (σ 1 k 1 0))) + a2)) ∧ (ox_w ((ox_w (a1 * (σ 1 k 1 0))) + a2)).toNat < (ox_ln k * ox_wd k) then (if 0 ≤ a1 ∧ a1.toNat < (ox_ln k) then (if 0 ≤ a1 ∧ a1.toNat < (ox_ln k) then (some (ox_up (ox_up (ox_up (ox_cp σ 1 k 2 (ox_w ((ox_w (a1 * (σ 1 k 1 0))) + a2)).toNat 1 k 2 (ox_w ((ox_w ((ox_w (a1 * (σ 1 k 1 0))) + a2)) + 1)).toNat (ox_w ((σ 1 k 3 a1.toNat) - a2)).toNat) 1 k 2 ((ox_w ((ox_w (a1 * (σ 1 k 1 0))) + a2)).toNat) (a3 % 65536)) 1 k 3 a1.toNat (ox_w ((σ 1 k 3 a1.toNat) + 1))) 1 k 5 0 (ox_w ((σ 1 k 5 0) + 1)))) else none) else none) else none) else none) else none) else (J_Lin_putIn_39 σ)) else none)) else none)))
theorem L_Lin_putIn  (k : Nat) (a1 : Int) (a2 : Int) (a3 : Int) (σ : ox_H) (n tl : Nat) : ox_R (fun r => some ((fun r : ox_H => ((.inl none, r) : ox_O)) r)) (F_Lin_putIn k a1 a2 a3 σ) (ox_zz ox_ms (n + 1) 167 tl [.inr (.inr (1, k, 0)), .inl (a1), .inl (a2), .inl (a3)] σ) := by
  unfold F_Lin_putIn
  refine ox_R_of (Y := ox_ev m_Lin_putIn (ox_zz ox_ms (n + 0)) 0 0 tl [.inr (.inr (1, k, 0)), .inl (a1), .inl (a2), .inl (a3), ox_d] [] σ) rfl ?_
  refine ox_R_to 2 (Y := if a1 < 0 then ox_ev m_Lin_putIn (ox_zz ox_ms (n + 0)) 39 0 tl [ox_d, ox_d, ox_d, ox_d, ox_d] [] σ else ox_ev m_Lin_putIn (ox_zz ox_ms (n + 0)) 4 0 tl [.inr (.inr (1, k, 0)), .inl (a1), .inl (a2), .inl (a3), ox_d] [] σ) rfl ?_
  refine ox_R_if (fun _ => ?_) (fun _ => ?_)
  · exact (L_Lin_putIn_39 σ n tl)
  · refine ox_R_to 4 (Y := if (σ 1 k 4 0) ≤ a1 then ox_ev m_Lin_putIn (ox_zz ox_ms (n + 0)) 39 0 tl [ox_d, ox_d, ox_d, ox_d, ox_d] [] σ else ox_ev m_Lin_putIn (ox_zz ox_ms (n + 0)) 12 0 tl [.inr (.inr (1, k, 0)), .inl (a1), .inl (a2), .inl (a3), ox_d] [] σ) rfl ?_
    refine ox_R_if (fun _ => ?_) (fun _ => ?_)
    · exact (L_Lin_putIn_39 σ n tl)
    · refine ox_R_to 2 (Y := if a2 < 0 then ox_ev m_Lin_putIn (ox_zz ox_ms (n + 0)) 39 0 tl [ox_d, ox_d, ox_d, ox_d, ox_d] [] σ else ox_ev m_Lin_putIn (ox_zz ox_ms (n + 0)) 16 0 tl [.inr (.inr (1, k, 0)), .inl (a1), .inl (a2), .inl (a3), ox_d] [] σ) rfl ?_
      refine ox_R_if (fun _ => ?_) (fun _ => ?_)
      · exact (L_Lin_putIn_39 σ n tl)
      · refine ox_R_to 5 (Y := if 0 ≤ a1 ∧ a1.toNat < (ox_ln k) then ox_ev m_Lin_putIn (ox_zz ox_ms (n + 0)) 23 0 tl [.inr (.inr (1, k, 0)), .inl (a1), .inl (a2), .inl (a3), ox_d] [.inl (σ 1 k 3 a1.toNat), .inl (a2)] σ else none) rfl ?_
        refine ox_R_if (fun _ => ?_) (fun _ => ox_R_none)
        refine ox_R_to 1 (Y := if (σ 1 k 3 a1.toNat) < a2 then ox_ev m_Lin_putIn (ox_zz ox_ms (n + 0)) 39 0 tl [ox_d, ox_d, ox_d, ox_d, ox_d] [] σ else ox_ev m_Lin_putIn (ox_zz ox_ms (n + 0)) 26 0 tl [.inr (.inr (1, k, 0)), .inl (a1), .inl (a2), .inl (a3), ox_d] [] σ) rfl ?_
        refine ox_R_if (fun _ => ?_) (fun _ => ?_)
        · exact (L_Lin_putIn_39 σ n tl)
        · refine ox_R_to 4 (Y := if 0 ≤ a1 ∧ a1.toNat < (ox_ln k) then ox_ev m_Lin_putIn (ox_zz ox_ms (n + 0)) 32 0 tl [.inr (.inr (1, k, 0)), .inl (a1), .inl (a2), .inl (a3), ox_d] [.inl (σ 1 k 3 a1.toNat)] σ else none) rfl ?_
          refine ox_R_if (fun _ => ?_) (fun _ => ox_R_none)
          refine ox_R_to 3 (Y := if (σ 1 k 3 a1.toNat) < (σ 1 k 1 0) then ox_ev m_Lin_putIn (ox_zz ox_ms (n + 0)) 40 0 tl [.inr (.inr (1, k, 0)), .inl (a1), .inl (a2), .inl (a3), ox_d] [] σ else ox_ev m_Lin_putIn (ox_zz ox_ms (n + 0)) 39 0 tl [ox_d, ox_d, ox_d, ox_d, ox_d] [] σ) rfl ?_
          refine ox_R_if (fun _ => ?_) (fun _ => ?_)
          · refine ox_R_to 19 (Y := if 0 ≤ a1 ∧ a1.toNat < (ox_ln k) then ox_ev m_Lin_putIn (ox_zz ox_ms (n + 0)) 70 0 tl [.inr (.inr (1, k, 0)), .inl (a1), .inl (a2), .inl (a3), .inl (ox_w ((ox_w (a1 * (σ 1 k 1 0))) + a2))] [.inl (σ 1 k 3 a1.toNat), .inl (ox_w ((ox_w ((ox_w (a1 * (σ 1 k 1 0))) + a2)) + 1)), .inr (.inr (101, k, 2)), .inl (ox_w ((ox_w (a1 * (σ 1 k 1 0))) + a2)), .inr (.inr (101, k, 2))] σ else none) rfl ?_
            refine ox_R_if (fun _ => ?_) (fun _ => ox_R_none)
            refine ox_R_to 3 (Y := if 0 ≤ (ox_w ((σ 1 k 3 a1.toNat) - a2)) ∧ 0 ≤ (ox_w ((ox_w ((ox_w (a1 * (σ 1 k 1 0))) + a2)) + 1)) ∧ 0 ≤ (ox_w ((ox_w (a1 * (σ 1 k 1 0))) + a2)) ∧ (ox_w ((ox_w (a1 * (σ 1 k 1 0))) + a2)) + (ox_w ((σ 1 k 3 a1.toNat) - a2)) ≤ (ox_ln k * ox_wd k) ∧ (ox_w ((ox_w ((ox_w (a1 * (σ 1 k 1 0))) + a2)) + 1)) + (ox_w ((σ 1 k 3 a1.toNat) - a2)) ≤ (ox_ln k * ox_wd k) then ox_ev m_Lin_putIn (ox_zz ox_ms (n + 0)) 75 0 tl [.inr (.inr (1, k, 0)), .inl (a1), .inl (a2), .inl (a3), .inl (ox_w ((ox_w (a1 * (σ 1 k 1 0))) + a2))] [] (ox_cp σ 1 k 2 (ox_w ((ox_w (a1 * (σ 1 k 1 0))) + a2)).toNat 1 k 2 (ox_w ((ox_w ((ox_w (a1 * (σ 1 k 1 0))) + a2)) + 1)).toNat (ox_w ((σ 1 k 3 a1.toNat) - a2)).toNat) else none) rfl ?_
            refine ox_R_if (fun _ => ?_) (fun _ => ox_R_none)
            refine ox_R_to 5 (Y := if 0 ≤ (ox_w ((ox_w (a1 * (σ 1 k 1 0))) + a2)) ∧ (ox_w ((ox_w (a1 * (σ 1 k 1 0))) + a2)).toNat < (ox_ln k * ox_wd k) then ox_ev m_Lin_putIn (ox_zz ox_ms (n + 0)) 83 0 tl [.inr (.inr (1, k, 0)), .inl (a1), .inl (a2), .inl (a3), .inl (ox_w ((ox_w (a1 * (σ 1 k 1 0))) + a2))] [] (ox_up (ox_cp σ 1 k 2 (ox_w ((ox_w (a1 * (σ 1 k 1 0))) + a2)).toNat 1 k 2 (ox_w ((ox_w ((ox_w (a1 * (σ 1 k 1 0))) + a2)) + 1)).toNat (ox_w ((σ 1 k 3 a1.toNat) - a2)).toNat) 1 k 2 ((ox_w ((ox_w (a1 * (σ 1 k 1 0))) + a2)).toNat) (a3 % 65536)) else none) rfl ?_
            refine ox_R_if (fun _ => ?_) (fun _ => ox_R_none)
            refine ox_R_to 5 (Y := if 0 ≤ a1 ∧ a1.toNat < (ox_ln k) then ox_ev m_Lin_putIn (ox_zz ox_ms (n + 0)) 90 0 tl [.inr (.inr (1, k, 0)), .inl (a1), .inl (a2), .inl (a3), .inl (ox_w ((ox_w (a1 * (σ 1 k 1 0))) + a2))] [.inl (σ 1 k 3 a1.toNat), .inl (a1), .inr (.inr (101, k, 3))] (ox_up (ox_cp σ 1 k 2 (ox_w ((ox_w (a1 * (σ 1 k 1 0))) + a2)).toNat 1 k 2 (ox_w ((ox_w ((ox_w (a1 * (σ 1 k 1 0))) + a2)) + 1)).toNat (ox_w ((σ 1 k 3 a1.toNat) - a2)).toNat) 1 k 2 ((ox_w ((ox_w (a1 * (σ 1 k 1 0))) + a2)).toNat) (a3 % 65536)) else none) rfl ?_
            refine ox_R_if (fun _ => ?_) (fun _ => ox_R_none)
            refine ox_R_to 3 (Y := if 0 ≤ a1 ∧ a1.toNat < (ox_ln k) then ox_ev m_Lin_putIn (ox_zz ox_ms (n + 0)) 93 0 tl [.inr (.inr (1, k, 0)), .inl (a1), .inl (a2), .inl (a3), .inl (ox_w ((ox_w (a1 * (σ 1 k 1 0))) + a2))] [] (ox_up (ox_up (ox_cp σ 1 k 2 (ox_w ((ox_w (a1 * (σ 1 k 1 0))) + a2)).toNat 1 k 2 (ox_w ((ox_w ((ox_w (a1 * (σ 1 k 1 0))) + a2)) + 1)).toNat (ox_w ((σ 1 k 3 a1.toNat) - a2)).toNat) 1 k 2 ((ox_w ((ox_w (a1 * (σ 1 k 1 0))) + a2)).toNat) (a3 % 65536)) 1 k 3 a1.toNat (ox_w ((σ 1 k 3 a1.toNat) + 1))) else none) rfl ?_
            refine ox_R_if (fun _ => ?_) (fun _ => ox_R_none)
            refine ox_R_to 7 (Y := some (.inl none, (ox_up (ox_up (ox_up (ox_cp σ 1 k 2 (ox_w ((ox_w (a1 * (σ 1 k 1 0))) + a2)).toNat 1 k 2 (ox_w ((ox_w ((ox_w (a1 * (σ 1 k 1 0))) + a2)) + 1)).toNat (ox_w ((σ 1 k 3 a1.toNat) - a2)).toNat) 1 k 2 ((ox_w ((ox_w (a1 * (σ 1 k 1 0))) + a2)).toNat) (a3 % 65536)) 1 k 3 a1.toNat (ox_w ((σ 1 k 3 a1.toNat) + 1))) 1 k 5 0 (ox_w ((σ 1 k 5 0) + 1))))) rfl ?_
            exact ox_R_ret rfl
          · exact (L_Lin_putIn_39 σ n tl)
def J_Out_giveStars_75  (σ : ox_H) : Option ox_H := some σ
theorem L_Out_giveStars_75  (σ : ox_H) (n tl : Nat) : ox_R (fun r => some ((fun r : ox_H => ((.inl none, r) : ox_O)) r)) (J_Out_giveStars_75 σ) (ox_ev m_Out_giveStars (ox_zz ox_ms (n + 2)) 75 0 tl [ox_d, ox_d, ox_d, ox_d, ox_d, ox_d, ox_d, ox_d, ox_d] [] σ) := by
  unfold J_Out_giveStars_75
  refine ox_R_to 1 (Y := some (.inl none, σ)) rfl ?_
  exact ox_R_ret rfl
def J_Out_giveStars_69  (v2 : Int) (v3 : Nat) (v4 : Int) (v5 : Int) (v6 : Int) (σ : ox_H) : Option (((Int × ox_H) ⊕ ox_H)) := some (.inl (ox_w (v6 + 1), σ))
theorem L_Out_giveStars_69  (v2 : Int) (v3 : Nat) (v4 : Int) (v5 : Int) (v6 : Int) (σ : ox_H) (n tl : Nat) : ox_R (Sum.elim (fun (s : Int × ox_H) => match s with | (v6, σ) => ox_ev m_Out_giveStars (ox_zz ox_ms (n + 2)) 15 0 tl [.inr (.inr (0, 0, 0)), ox_d, .inl (v2), .inr (.inr (1, v3, 0)), .inl (v4), .inl (v5), .inl (v6), ox_d, ox_d] [] σ) (fun r => some ((fun r : ox_H => ((.inl none, r) : ox_O)) r))) (J_Out_giveStars_69 v2 v3 v4 v5 v6 σ) (ox_ev m_Out_giveStars (ox_zz ox_ms (n + 2)) 69 0 tl [.inr (.inr (0, 0, 0)), ox_d, .inl (v2), .inr (.inr (1, v3, 0)), .inl (v4), .inl (v5), .inl (v6), ox_d, ox_d] [] σ) := by
  unfold J_Out_giveStars_69
  refine ox_R_to 2 (Y := ox_ev m_Out_giveStars (ox_zz ox_ms (n + 2)) 15 0 tl [.inr (.inr (0, 0, 0)), ox_d, .inl (v2), .inr (.inr (1, v3, 0)), .inl (v4), .inl (v5), .inl (ox_w (v6 + 1)), ox_d, ox_d] [] σ) rfl ?_
  exact ox_R_ret rfl
def B_Out_giveStars_48  (v2 : Int) (v3 : Nat) (v4 : Int) (v5 : Int) (v6 : Int) (v7 : Int) : (Int × ox_H) → Option (((Int × ox_H) ⊕ ((Int × ox_H) ⊕ ox_H))) := fun (v8, σ) => if v2 ≤ v8 then ((J_Out_giveStars_69 v2 v3 v4 v5 v6 σ).map .inr) else ((F_Lin_putIn v3 v7 0 42 σ).bind fun r1 => (some (.inl (ox_w (v8 + 1), r1))))
def J_Out_giveStars_48  (v2 : Int) (v3 : Nat) (v4 : Int) (v5 : Int) (v6 : Int) (v7 : Int) (v8 : Int) (σ : ox_H) : Option (((Int × ox_H) ⊕ ox_H)) := ox_lp (B_Out_giveStars_48 v2 v3 v4 v5 v6 v7) ox_fu (v8, σ)
theorem L_Out_giveStars_48  (v2 : Int) (v3 : Nat) (v4 : Int) (v5 : Int) (v6 : Int) (v7 : Int) (v8 : Int) (σ : ox_H) (n tl : Nat) : ox_R (Sum.elim (fun (s : Int × ox_H) => match s with | (v6, σ) => ox_ev m_Out_giveStars (ox_zz ox_ms (n + 2)) 15 0 tl [.inr (.inr (0, 0, 0)), ox_d, .inl (v2), .inr (.inr (1, v3, 0)), .inl (v4), .inl (v5), .inl (v6), ox_d, ox_d] [] σ) (fun r => some ((fun r : ox_H => ((.inl none, r) : ox_O)) r))) (J_Out_giveStars_48 v2 v3 v4 v5 v6 v7 v8 σ) (ox_ev m_Out_giveStars (ox_zz ox_ms (n + 2)) 48 0 tl [.inr (.inr (0, 0, 0)), ox_d, .inl (v2), .inr (.inr (1, v3, 0)), .inl (v4), .inl (v5), .inl (v6), .inl (v7), .inl (v8)] [] σ) := by
  unfold J_Out_giveStars_48
  refine ox_R_lp (ψ := (fun (s : Int × ox_H) => match s with | (v8, σ) => ox_ev m_Out_giveStars (ox_zz ox_ms (n + 2)) 48 0 tl [.inr (.inr (0, 0, 0)), ox_d, .inl (v2), .inr (.inr (1, v3, 0)), .inl (v4), .inl (v5), .inl (v6), .inl (v7), .inl (v8)] [] σ)) ?_ ox_fu (v8, σ)
  intro s
  obtain ⟨v8, σ⟩ := s
  unfold B_Out_giveStars_48
  refine ox_R_to 3 (Y := if v2 ≤ v8 then ox_ev m_Out_giveStars (ox_zz ox_ms (n + 2)) 69 0 tl [.inr (.inr (0, 0, 0)), ox_d, .inl (v2), .inr (.inr (1, v3, 0)), .inl (v4), .inl (v5), .inl (v6), ox_d, ox_d] [] σ else ox_ev m_Out_giveStars (ox_zz ox_ms (n + 2)) 54 0 tl [.inr (.inr (0, 0, 0)), ox_d, .inl (v2), .inr (.inr (1, v3, 0)), .inl (v4), .inl (v5), .inl (v6), .inl (v7), .inl (v8)] [] σ) rfl ?_
  refine ox_R_if (fun _ => ?_) (fun _ => ?_)
  · exact ox_R_map ((L_Out_giveStars_69 v2 v3 v4 v5 v6 σ n tl))
  · refine ox_R_to 5 (Y := ox_back m_Out_giveStars 60 2 [] ((ox_zz ox_ms (n + 2)) 167 tl [.inr (.inr (1, v3, 0)), .inl (v7), .inl (0), .inl (42)] σ) (fun pc9 x9 st9 σ9 => ox_ev m_Out_giveStars (ox_zz ox_ms (n + 2)) pc9 0 tl (ox_kl (m_Out_giveStars.2.2.1 pc9) (ox_xl x9 [.inr (.inr (0, 0, 0)), ox_d, .inl (v2), .inr (.inr (1, v3, 0)), .inl (v4), .inl (v5), .inl (v6), .inl (v7), .inl (v8)])) st9 σ9)) rfl ?_
    refine ox_R_call (fc := (fun r : ox_H => ((.inl none, r) : ox_O))) (L_Lin_putIn v3 v7 0 42 σ (n + 1) tl) (fun r1 => ?_)
    refine ox_R_of (Y := ox_ev m_Out_giveStars (ox_zz ox_ms (n + 2)) 63 0 tl [.inr (.inr (0, 0, 0)), ox_d, .inl (v2), .inr (.inr (1, v3, 0)), .inl (v4), .inl (v5), .inl (v6), .inl (v7), .inl (v8)] [] r1) rfl ?_
    refine ox_R_to 2 (Y := ox_ev m_Out_giveStars (ox_zz ox_ms (n + 2)) 48 0 tl [.inr (.inr (0, 0, 0)), ox_d, .inl (v2), .inr (.inr (1, v3, 0)), .inl (v4), .inl (v5), .inl (v6), .inl (v7), .inl (ox_w (v8 + 1))] [] r1) rfl ?_
    exact ox_R_ret rfl
def B_Out_giveStars_15  (v2 : Int) (v3 : Nat) (v4 : Int) (v5 : Int) : (Int × ox_H) → Option (((Int × ox_H) ⊕ ox_H)) := fun (v6, σ) => if v5 < v6 then ((J_Out_giveStars_75 σ).map .inr) else ((F_Otl_lineOf v6 σ).bind fun r2 => ((F_Lin_takeOut v3 (ox_w (r2 - v4)) 0 (ox_w (-v2)) σ).bind fun r3 => (J_Out_giveStars_48 v2 v3 v4 v5 v6 (ox_w (r2 - v4)) 0 r3)))
def J_Out_giveStars_15  (v2 : Int) (v3 : Nat) (v4 : Int) (v5 : Int) (v6 : Int) (σ : ox_H) : Option (ox_H) := ox_lp (B_Out_giveStars_15 v2 v3 v4 v5) ox_fu (v6, σ)
theorem L_Out_giveStars_15  (v2 : Int) (v3 : Nat) (v4 : Int) (v5 : Int) (v6 : Int) (σ : ox_H) (n tl : Nat) : ox_R (fun r => some ((fun r : ox_H => ((.inl none, r) : ox_O)) r)) (J_Out_giveStars_15 v2 v3 v4 v5 v6 σ) (ox_ev m_Out_giveStars (ox_zz ox_ms (n + 2)) 15 0 tl [.inr (.inr (0, 0, 0)), ox_d, .inl (v2), .inr (.inr (1, v3, 0)), .inl (v4), .inl (v5), .inl (v6), ox_d, ox_d] [] σ) := by
  unfold J_Out_giveStars_15
  refine ox_R_lp (ψ := (fun (s : Int × ox_H) => match s with | (v6, σ) => ox_ev m_Out_giveStars (ox_zz ox_ms (n + 2)) 15 0 tl [.inr (.inr (0, 0, 0)), ox_d, .inl (v2), .inr (.inr (1, v3, 0)), .inl (v4), .inl (v5), .inl (v6), ox_d, ox_d] [] σ)) ?_ ox_fu (v6, σ)
  intro s
  obtain ⟨v6, σ⟩ := s
  unfold B_Out_giveStars_15
  refine ox_R_to 3 (Y := if v5 < v6 then ox_ev m_Out_giveStars (ox_zz ox_ms (n + 2)) 75 0 tl [ox_d, ox_d, ox_d, ox_d, ox_d, ox_d, ox_d, ox_d, ox_d] [] σ else ox_ev m_Out_giveStars (ox_zz ox_ms (n + 2)) 22 0 tl [.inr (.inr (0, 0, 0)), ox_d, .inl (v2), .inr (.inr (1, v3, 0)), .inl (v4), .inl (v5), .inl (v6), ox_d, ox_d] [] σ) rfl ?_
  refine ox_R_if (fun _ => ?_) (fun _ => ?_)
  · exact ox_R_map ((L_Out_giveStars_75 σ n tl))
  · refine ox_R_to 4 (Y := ox_back m_Out_giveStars 28 3 [] ((ox_zz ox_ms (n + 2)) 174 tl [.inr (.inr (2, 0, 0)), .inl (v6)] σ) (fun pc9 x9 st9 σ9 => ox_ev m_Out_giveStars (ox_zz ox_ms (n + 2)) pc9 0 tl (ox_kl (m_Out_giveStars.2.2.1 pc9) (ox_xl x9 [.inr (.inr (0, 0, 0)), ox_d, .inl (v2), .inr (.inr (1, v3, 0)), .inl (v4), .inl (v5), .inl (v6), ox_d, ox_d])) st9 σ9)) rfl ?_
    refine ox_R_call (fc := (fun r : Int => ((.inl (some (.inl r)), σ) : ox_O))) (L_Otl_lineOf v6 σ (n + 1) tl) (fun r2 => ?_)
    refine ox_R_of (Y := ox_ev m_Out_giveStars (ox_zz ox_ms (n + 2)) 31 0 tl [.inr (.inr (0, 0, 0)), ox_d, .inl (v2), .inr (.inr (1, v3, 0)), .inl (v4), .inl (v5), .inl (v6), ox_d, ox_d] [.inl (r2)] σ) rfl ?_
    refine ox_R_to 9 (Y := ox_back m_Out_giveStars 42 2 [] ((ox_zz ox_ms (n + 2)) 168 tl [.inr (.inr (1, v3, 0)), .inl (ox_w (r2 - v4)), .inl (0), .inl (ox_w (-v2))] σ) (fun pc9 x9 st9 σ9 => ox_ev m_Out_giveStars (ox_zz ox_ms (n + 2)) pc9 0 tl (ox_kl (m_Out_giveStars.2.2.1 pc9) (ox_xl x9 [.inr (.inr (0, 0, 0)), ox_d, .inl (v2), .inr (.inr (1, v3, 0)), .inl (v4), .inl (v5), .inl (v6), .inl (ox_w (r2 - v4)), ox_d])) st9 σ9)) rfl ?_
    refine ox_R_call (fc := (fun r : ox_H => ((.inl none, r) : ox_O))) (L_Lin_takeOut v3 (ox_w (r2 - v4)) 0 (ox_w (-v2)) σ (n + 1) tl) (fun r3 => ?_)
    refine ox_R_of (Y := ox_ev m_Out_giveStars (ox_zz ox_ms (n + 2)) 45 0 tl [.inr (.inr (0, 0, 0)), ox_d, .inl (v2), .inr (.inr (1, v3, 0)), .inl (v4), .inl (v5), .inl (v6), .inl (ox_w (r2 - v4)), ox_d] [] r3) rfl ?_
    refine ox_R_to 2 (Y := ox_ev m_Out_giveStars (ox_zz ox_ms (n + 2)) 48 0 tl [.inr (.inr (0, 0, 0)), ox_d, .inl (v2), .inr (.inr (1, v3, 0)), .inl (v4), .inl (v5), .inl (v6), .inl (ox_w (r2 - v4)), .inl (0)] [] r3) rfl ?_
    exact (L_Out_giveStars_48 v2 v3 v4 v5 v6 (ox_w (r2 - v4)) 0 r3 n tl)
def F_Out_giveStars  (a1 : Int) (a2 : Int) (k3 : Nat) (a4 : Int) (σ : ox_H) : Option (ox_H) := (F_Otl_below a1 σ).bind fun r4 => (J_Out_giveStars_15 a2 k3 a4 (ox_w (a1 + r4)) a1 σ)
theorem L_Out_giveStars  (a1 : Int) (a2 : Int) (k3 : Nat) (a4 : Int) (σ : ox_H) (n tl : Nat) : ox_R (fun r => some ((fun r : ox_H => ((.inl none, r) : ox_O)) r)) (F_Out_giveStars a1 a2 k3 a4 σ) (ox_zz ox_ms (n + 3) 21 tl [.inr (.inr (0, 0, 0)), .inl (a1), .inl (a2), .inr (.inr (1, k3, 0)), .inl (a4)] σ) := by
  unfold F_Out_giveStars
  refine ox_R_of (Y := ox_ev m_Out_giveStars (ox_zz ox_ms (n + 2)) 0 0 tl [.inr (.inr (0, 0, 0)), .inl (a1), .inl (a2), .inr (.inr (1, k3, 0)), .inl (a4), ox_d, ox_d, ox_d, ox_d] [] σ) rfl ?_
  refine ox_R_to 5 (Y := ox_back m_Out_giveStars 6 3 [.inl (a1)] ((ox_zz ox_ms (n + 2)) 182 tl [.inr (.inr (2, 0, 0)), .inl (a1)] σ) (fun pc9 x9 st9 σ9 => ox_ev m_Out_giveStars (ox_zz ox_ms (n + 2)) pc9 0 tl (ox_kl (m_Out_giveStars.2.2.1 pc9) (ox_xl x9 [.inr (.inr (0, 0, 0)), .inl (a1), .inl (a2), .inr (.inr (1, k3, 0)), .inl (a4), ox_d, ox_d, ox_d, ox_d])) st9 σ9)) rfl ?_
  refine ox_R_call (fc := (fun r : Int => ((.inl (some (.inl r)), σ) : ox_O))) (L_Otl_below a1 σ (n + 0) tl) (fun r4 => ?_)
  refine ox_R_of (Y := ox_ev m_Out_giveStars (ox_zz ox_ms (n + 2)) 9 0 tl [.inr (.inr (0, 0, 0)), .inl (a1), .inl (a2), .inr (.inr (1, k3, 0)), .inl (a4), ox_d, ox_d, ox_d, ox_d] [.inl (r4), .inl (a1)] σ) rfl ?_
  refine ox_R_to 4 (Y := ox_ev m_Out_giveStars (ox_zz ox_ms (n + 2)) 15 0 tl [.inr (.inr (0, 0, 0)), ox_d, .inl (a2), .inr (.inr (1, k3, 0)), .inl (a4), .inl (ox_w (a1 + r4)), .inl (a1), ox_d, ox_d] [] σ) rfl ?_
  exact (L_Out_giveStars_15 a2 k3 a4 (ox_w (a1 + r4)) a1 σ n tl)
def J_Out_shift_21  (v1 : Int) (s0 : Int) (σ : ox_H) : Option ((Nat ⊕ Int) × ox_H) := (F_Out_checkStars v1 s0 σ).bind fun r1 => match r1 with | .inl e6 => (some (.inl e6, σ)) | .inr x2 => ((F_Out_giveStars v1 s0 0 0 σ).bind fun r3 => ((F_Otl_refresh r3).bind fun r4 => ((F_Otl_levelOf v1 r4).bind fun r5 => (some (.inr r5, r4)))))
theorem L_Out_shift_21  (v1 : Int) (s0 : Int) (σ : ox_H) (n tl : Nat) : ox_R (fun r => some ((fun r : (Nat ⊕ Int) × ox_H => (((Sum.elim (fun e : Nat => (.inr e : Option ox_V ⊕ Nat)) (fun v : Int => .inl (some (.inl v))) r.1), r.2) : ox_O)) r)) (J_Out_shift_21 v1 s0 σ) (ox_ev m_Out_shift (ox_zz ox_ms (n + 6)) 21 1 tl [.inr (.inr (0, 0, 0)), .inl (v1), ox_d, ox_d] [.inl (s0)] σ) := by
  unfold J_Out_shift_21
  refine ox_R_to 5 (Y := ox_back m_Out_shift 25 0 [] ((ox_zz ox_ms (n + 6)) 20 tl [.inr (.inr (0, 0, 0)), .inl (v1), .inl (s0)] σ) (fun pc9 x9 st9 σ9 => ox_ev m_Out_shift (ox_zz ox_ms (n + 6)) pc9 0 tl (ox_kl (m_Out_shift.2.2.1 pc9) (ox_xl x9 [.inr (.inr (0, 0, 0)), .inl (v1), ox_d, .inl (s0)])) st9 σ9)) rfl ?_
  refine ox_R_call (fc := (fun r : (Nat ⊕ Unit) => (((Sum.elim (fun e : Nat => (.inr e : Option ox_V ⊕ Nat)) (fun v : Unit => .inl none) r), σ) : ox_O))) (L_Out_checkStars v1 s0 σ (n + 3) tl) (fun r1 => ?_)
  rcases r1 with e6 | x2
  · refine ox_R_of (Y := some (.inr e6, σ)) rfl ?_
    exact ox_R_ret rfl
  · refine ox_R_of (Y := ox_ev m_Out_shift (ox_zz ox_ms (n + 6)) 28 0 tl [.inr (.inr (0, 0, 0)), .inl (v1), ox_d, .inl (s0)] [] σ) rfl ?_
    refine ox_R_to 7 (Y := ox_back m_Out_shift 36 0 [] ((ox_zz ox_ms (n + 6)) 21 tl [.inr (.inr (0, 0, 0)), .inl (v1), .inl (s0), .inr (.inr (1, 0, 0)), .inl (0)] σ) (fun pc9 x9 st9 σ9 => ox_ev m_Out_shift (ox_zz ox_ms (n + 6)) pc9 0 tl (ox_kl (m_Out_shift.2.2.1 pc9) (ox_xl x9 [.inr (.inr (0, 0, 0)), .inl (v1), ox_d, .inl (s0)])) st9 σ9)) rfl ?_
    refine ox_R_call (fc := (fun r : ox_H => ((.inl none, r) : ox_O))) (L_Out_giveStars v1 s0 0 0 σ (n + 3) tl) (fun r3 => ?_)
    refine ox_R_of (Y := ox_ev m_Out_shift (ox_zz ox_ms (n + 6)) 39 0 tl [.inr (.inr (0, 0, 0)), .inl (v1), ox_d, .inl (s0)] [] r3) rfl ?_
    refine ox_R_to 3 (Y := ox_back m_Out_shift 43 2 [] ((ox_zz ox_ms (n + 6)) 169 tl [.inr (.inr (2, 0, 0))] r3) (fun pc9 x9 st9 σ9 => ox_ev m_Out_shift (ox_zz ox_ms (n + 6)) pc9 0 tl (ox_kl (m_Out_shift.2.2.1 pc9) (ox_xl x9 [.inr (.inr (0, 0, 0)), .inl (v1), ox_d, .inl (s0)])) st9 σ9)) rfl ?_
    refine ox_R_call (fc := (fun r : ox_H => ((.inl none, r) : ox_O))) (L_Otl_refresh r3 (n + 0) tl) (fun r4 => ?_)
    refine ox_R_of (Y := ox_ev m_Out_shift (ox_zz ox_ms (n + 6)) 46 0 tl [.inr (.inr (0, 0, 0)), .inl (v1), ox_d, .inl (s0)] [] r4) rfl ?_
    refine ox_R_to 4 (Y := ox_back m_Out_shift 51 3 [] ((ox_zz ox_ms (n + 6)) 177 tl [.inr (.inr (2, 0, 0)), .inl (v1)] r4) (fun pc9 x9 st9 σ9 => ox_ev m_Out_shift (ox_zz ox_ms (n + 6)) pc9 0 tl (ox_kl (m_Out_shift.2.2.1 pc9) (ox_xl x9 [.inr (.inr (0, 0, 0)), .inl (v1), ox_d, .inl (s0)])) st9 σ9)) rfl ?_
    refine ox_R_call (fc := (fun r : Int => ((.inl (some (.inl r)), r4) : ox_O))) (L_Otl_levelOf v1 r4 (n + 5) tl) (fun r5 => ?_)
    refine ox_R_of (Y := ox_ev m_Out_shift (ox_zz ox_ms (n + 6)) 54 0 tl [.inr (.inr (0, 0, 0)), .inl (v1), ox_d, .inl (s0)] [.inl (r5)] r4) rfl ?_
    refine ox_R_to 1 (Y := some (.inl (some (.inl (r5))), r4)) rfl ?_
    exact ox_R_ret rfl
def F_Out_shift  (a1 : Int) (a2 : Int) (σ : ox_H) : Option ((Nat ⊕ Int) × ox_H) := (F_Otl_refresh σ).bind fun r7 => ((F_Out_checkEntry a1 r7).bind fun r8 => match r8 with | .inl e10 => (some (.inl e10, r7)) | .inr x9 => (if a2 = 0 then (J_Out_shift_21 a1 (-1) r7) else (J_Out_shift_21 a1 1 r7)))
theorem L_Out_shift  (a1 : Int) (a2 : Int) (σ : ox_H) (n tl : Nat) : ox_R (fun r => some ((fun r : (Nat ⊕ Int) × ox_H => (((Sum.elim (fun e : Nat => (.inr e : Option ox_V ⊕ Nat)) (fun v : Int => .inl (some (.inl v))) r.1), r.2) : ox_O)) r)) (F_Out_shift a1 a2 σ) (ox_zz ox_ms (n + 7) 12 tl [.inr (.inr (0, 0, 0)), .inl (a1), .inl (a2)] σ) := by
  unfold F_Out_shift
  refine ox_R_of (Y := ox_ev m_Out_shift (ox_zz ox_ms (n + 6)) 0 2 tl [.inr (.inr (0, 0, 0)), .inl (a1), .inl (a2), ox_d] [] σ) rfl ?_
  refine ox_R_to 3 (Y := ox_back m_Out_shift 4 2 [] ((ox_zz ox_ms (n + 6)) 169 tl [.inr (.inr (2, 0, 0))] σ) (fun pc9 x9 st9 σ9 => ox_ev m_Out_shift (ox_zz ox_ms (n + 6)) pc9 2 tl (ox_kl (m_Out_shift.2.2.1 pc9) (ox_xl x9 [.inr (.inr (0, 0, 0)), .inl (a1), .inl (a2), ox_d])) st9 σ9)) rfl ?_
  refine ox_R_call (fc := (fun r : ox_H => ((.inl none, r) : ox_O))) (L_Otl_refresh σ (n + 0) tl) (fun r7 => ?_)
  refine ox_R_of (Y := ox_ev m_Out_shift (ox_zz ox_ms (n + 6)) 7 2 tl [.inr (.inr (0, 0, 0)), .inl (a1), .inl (a2), ox_d] [] r7) rfl ?_
  refine ox_R_to 3 (Y := ox_back m_Out_shift 9 0 [] ((ox_zz ox_ms (n + 6)) 18 tl [.inr (.inr (0, 0, 0)), .inl (a1)] r7) (fun pc9 x9 st9 σ9 => ox_ev m_Out_shift (ox_zz ox_ms (n + 6)) pc9 1 tl (ox_kl (m_Out_shift.2.2.1 pc9) (ox_xl x9 [.inr (.inr (0, 0, 0)), .inl (a1), .inl (a2), ox_d])) st9 σ9)) rfl ?_
  refine ox_R_call (fc := (fun r : (Nat ⊕ Unit) => (((Sum.elim (fun e : Nat => (.inr e : Option ox_V ⊕ Nat)) (fun v : Unit => .inl none) r), r7) : ox_O))) (L_Out_checkEntry a1 r7 (n + 4) tl) (fun r8 => ?_)
  rcases r8 with e10 | x9
  · refine ox_R_of (Y := some (.inr e10, r7)) rfl ?_
    exact ox_R_ret rfl
  · refine ox_R_of (Y := ox_ev m_Out_shift (ox_zz ox_ms (n + 6)) 12 1 tl [.inr (.inr (0, 0, 0)), .inl (a1), .inl (a2), ox_d] [] r7) rfl ?_
    refine ox_R_to 2 (Y := if a2 = 0 then ox_ev m_Out_shift (ox_zz ox_ms (n + 6)) 20 1 tl [.inr (.inr (0, 0, 0)), .inl (a1), .inl (a2), ox_d] [] r7 else ox_ev m_Out_shift (ox_zz ox_ms (n + 6)) 16 1 tl [.inr (.inr (0, 0, 0)), .inl (a1), .inl (a2), ox_d] [] r7) rfl ?_
    refine ox_R_if (fun _ => ?_) (fun _ => ?_)
    · refine ox_R_to 1 (Y := ox_ev m_Out_shift (ox_zz ox_ms (n + 6)) 21 1 tl [.inr (.inr (0, 0, 0)), .inl (a1), ox_d, ox_d] [.inl ((-1))] r7) rfl ?_
      exact (L_Out_shift_21 a1 (-1) r7 n tl)
    · refine ox_R_to 2 (Y := ox_ev m_Out_shift (ox_zz ox_ms (n + 6)) 21 1 tl [.inr (.inr (0, 0, 0)), .inl (a1), ox_d, ox_d] [.inl (1)] r7) rfl ?_
      exact (L_Out_shift_21 a1 1 r7 n tl)
def J_Lin_copy_85  (σ : ox_H) : Option ox_H := some σ
theorem L_Lin_copy_85  (σ : ox_H) (n tl : Nat) : ox_R (fun r => some ((fun r : ox_H => ((.inl none, r) : ox_O)) r)) (J_Lin_copy_85 σ) (ox_ev m_Lin_copy (ox_zz ox_ms (n + 1)) 85 0 tl [ox_d, ox_d, ox_d, ox_d, ox_d, ox_d, ox_d] [] σ) := by
  unfold J_Lin_copy_85
  refine ox_R_to 1 (Y := some (.inl none, σ)) rfl ?_
  exact ox_R_ret rfl
def J_Lin_copy_68  (v0 : Nat) (v1 : Nat) (v2 : Int) (v3 : Int) (v4 : Int) (v5 : Int) (s0 : Int) (σ : ox_H) : Option ox_H := if v5 = 0 then (J_Lin_copy_85 σ) else (if s0 = 0 then (J_Lin_copy_85 σ) else (if v1 = v0 then (J_Lin_copy_85 σ) else ((F_Lin_open v0 v4 v3 σ).bind fun r1 => (if 0 ≤ (ox_w (v3 * (r1 1 v0 1 0))) ∧ 0 ≤ (ox_w (v4 * (r1 1 v0 1 0))) ∧ 0 ≤ (ox_w (v2 * (r1 1 v0 1 0))) ∧ (ox_w (v2 * (r1 1 v0 1 0))) + (ox_w (v3 * (r1 1 v0 1 0))) ≤ (ox_ln v1 * ox_wd v1) ∧ (ox_w (v4 * (r1 1 v0 1 0))) + (ox_w (v3 * (r1 1 v0 1 0))) ≤ (ox_ln v0 * ox_wd v0) then (if 0 ≤ v3 ∧ 0 ≤ v4 ∧ 0 ≤ v2 ∧ v2 + v3 ≤ (ox_ln v1) ∧ v4 + v3 ≤ (ox_ln v0) then (some (ox_cp (ox_cp r1 1 v1 2 (ox_w (v2 * (r1 1 v0 1 0))).toNat 1 v0 2 (ox_w (v4 * (r1 1 v0 1 0))).toNat (ox_w (v3 * (r1 1 v0 1 0))).toNat) 1 v1 3 v2.toNat 1 v0 3 v4.toNat v3.toNat)) else none) else none))))
theorem L_Lin_copy_68  (v0 : Nat) (v1 : Nat) (v2 : Int) (v3 : Int) (v4 : Int) (v5 : Int) (s0 : Int) (σ : ox_H) (n tl : Nat) : ox_R (fun r => some ((fun r : ox_H => ((.inl none, r) : ox_O)) r)) (J_Lin_copy_68 v0 v1 v2 v3 v4 v5 s0 σ) (ox_ev m_Lin_copy (ox_zz ox_ms (n + 1)) 68 0 tl [.inr (.inr (1, v0, 0)), .inr (.inr (1, v1, 0)), .inl (v2), .inl (v3), .inl (v4), .inl (v5), ox_d] [.inl (s0)] σ) := by
  unfold J_Lin_copy_68
  refine ox_R_to 3 (Y := if v5 = 0 then ox_ev m_Lin_copy (ox_zz ox_ms (n + 1)) 85 0 tl [ox_d, ox_d, ox_d, ox_d, ox_d, ox_d, ox_d] [] σ else ox_ev m_Lin_copy (ox_zz ox_ms (n + 1)) 75 0 tl [.inr (.inr (1, v0, 0)), .inr (.inr (1, v1, 0)), .inl (v2), .inl (v3), .inl (v4), .inl (v5), .inl (s0)] [] σ) rfl ?_
  refine ox_R_if (fun _ => ?_) (fun _ => ?_)
  · exact (L_Lin_copy_85 σ n tl)
  · refine ox_R_to 2 (Y := if s0 = 0 then ox_ev m_Lin_copy (ox_zz ox_ms (n + 1)) 85 0 tl [ox_d, ox_d, ox_d, ox_d, ox_d, ox_d, ox_d] [] σ else ox_ev m_Lin_copy (ox_zz ox_ms (n + 1)) 80 0 tl [.inr (.inr (1, v0, 0)), .inr (.inr (1, v1, 0)), .inl (v2), .inl (v3), .inl (v4), .inl (v5), .inl (s0)] [] σ) rfl ?_
    refine ox_R_if (fun _ => ?_) (fun _ => ?_)
    · exact (L_Lin_copy_85 σ n tl)
    · refine ox_R_to 3 (Y := if v1 = v0 then ox_ev m_Lin_copy (ox_zz ox_ms (n + 1)) 85 0 tl [ox_d, ox_d, ox_d, ox_d, ox_d, ox_d, ox_d] [] σ else ox_ev m_Lin_copy (ox_zz ox_ms (n + 1)) 86 0 tl [.inr (.inr (1, v0, 0)), .inr (.inr (1, v1, 0)), .inl (v2), .inl (v3), .inl (v4), .inl (v5), .inl (s0)] [] σ) rfl ?_
      refine ox_R_if (fun _ => ?_) (fun _ => ?_)
      · exact (L_Lin_copy_85 σ n tl)
      · refine ox_R_to 4 (Y := ox_back m_Lin_copy 90 0 [] ((ox_zz ox_ms (n + 1)) 158 tl [.inr (.inr (1, v0, 0)), .inl (v4), .inl (v3)] σ) (fun pc9 x9 st9 σ9 => ox_ev m_Lin_copy (ox_zz ox_ms (n + 1)) pc9 0 tl (ox_kl (m_Lin_copy.2.2.1 pc9) (ox_xl x9 [.inr (.inr (1, v0, 0)), .inr (.inr (1, v1, 0)), .inl (v2), .inl (v3), .inl (v4), .inl (v5), .inl (s0)])) st9 σ9)) rfl ?_
        refine ox_R_call (fc := (fun r : ox_H => ((.inl none, r) : ox_O))) (L_Lin_open v0 v4 v3 σ (n + 0) tl) (fun r1 => ?_)
        refine ox_R_of (Y := ox_ev m_Lin_copy (ox_zz ox_ms (n + 1)) 93 0 tl [.inr (.inr (1, v0, 0)), .inr (.inr (1, v1, 0)), .inl (v2), .inl (v3), .inl (v4), .inl (v5), .inl (s0)] [] r1) rfl ?_
        refine ox_R_to 17 (Y := if 0 ≤ (ox_w (v3 * (r1 1 v0 1 0))) ∧ 0 ≤ (ox_w (v4 * (r1 1 v0 1 0))) ∧ 0 ≤ (ox_w (v2 * (r1 1 v0 1 0))) ∧ (ox_w (v2 * (r1 1 v0 1 0))) + (ox_w (v3 * (r1 1 v0 1 0))) ≤ (ox_ln v1 * ox_wd v1) ∧ (ox_w (v4 * (r1 1 v0 1 0))) + (ox_w (v3 * (r1 1 v0 1 0))) ≤ (ox_ln v0 * ox_wd v0) then ox_ev m_Lin_copy (ox_zz ox_ms (n + 1)) 123 0 tl [.inr (.inr (1, v0, 0)), .inr (.inr (1, v1, 0)), .inl (v2), .inl (v3), .inl (v4), .inl (v5), .inl (s0)] [] (ox_cp r1 1 v1 2 (ox_w (v2 * (r1 1 v0 1 0))).toNat 1 v0 2 (ox_w (v4 * (r1 1 v0 1 0))).toNat (ox_w (v3 * (r1 1 v0 1 0))).toNat) else none) rfl ?_
        refine ox_R_if (fun _ => ?_) (fun _ => ox_R_none)
        refine ox_R_to 8 (Y := if 0 ≤ v3 ∧ 0 ≤ v4 ∧ 0 ≤ v2 ∧ v2 + v3 ≤ (ox_ln v1) ∧ v4 + v3 ≤ (ox_ln v0) then ox_ev m_Lin_copy (ox_zz ox_ms (n + 1)) 138 0 tl [.inr (.inr (1, v0, 0)), .inr (.inr (1, v1, 0)), .inl (v2), .inl (v3), .inl (v4), .inl (v5), .inl (s0)] [] (ox_cp (ox_cp r1 1 v1 2 (ox_w (v2 * (r1 1 v0 1 0))).toNat 1 v0 2 (ox_w (v4 * (r1 1 v0 1 0))).toNat (ox_w (v3 * (r1 1 v0 1 0))).toNat) 1 v1 3 v2.toNat 1 v0 3 v4.toNat v3.toNat) else none) rfl ?_
        refine ox_R_if (fun _ => ?_) (fun _ => ox_R_none)
        refine ox_R_to 1 (Y := some (.inl none, (ox_cp (ox_cp r1 1 v1 2 (ox_w (v2 * (r1 1 v0 1 0))).toNat 1 v0 2 (ox_w (v4 * (r1 1 v0 1 0))).toNat (ox_w (v3 * (r1 1 v0 1 0))).toNat) 1 v1 3 v2.toNat 1 v0 3 v4.toNat v3.toNat))) rfl ?_
        exact ox_R_ret rfl
def J_Lin_copy_67  (v0 : Nat) (v1 : Nat) (v2 : Int) (v3 : Int) (v4 : Int) (v5 : Int) (σ : ox_H) : Option ox_H := (J_Lin_copy_68 v0 v1 v2 v3 v4 v5 0 σ)
theorem L_Lin_copy_67  (v0 : Nat) (v1 : Nat) (v2 : Int) (v3 : Int) (v4 : Int) (v5 : Int) (σ : ox_H) (n tl : Nat) : ox_R (fun r => some ((fun r : ox_H => ((.inl none, r) : ox_O)) r)) (J_Lin_copy_67 v0 v1 v2 v3 v4 v5 σ) (ox_ev m_Lin_copy (ox_zz ox_ms (n + 1)) 67 0 tl [.inr (.inr (1, v0, 0)), .inr (.inr (1, v1, 0)), .inl (v2), .inl (v3), .inl (v4), .inl (v5), ox_d] [] σ) := by
  unfold J_Lin_copy_67
  refine ox_R_to 1 (Y := ox_ev m_Lin_copy (ox_zz ox_ms (n + 1)) 68 0 tl [.inr (.inr (1, v0, 0)), .inr (.inr (1, v1, 0)), .inl (v2), .inl (v3), .inl (v4), .inl (v5), ox_d] [.inl (0)] σ) rfl ?_
  exact (L_Lin_copy_68 v0 v1 v2 v3 v4 v5 0 σ n tl)
def J_Lin_copy_34  (v0 : Nat) (v1 : Nat) (v2 : Int) (v3 : Int) (v4 : Int) (s0 : Int) (σ : ox_H) : Option ox_H := if v4 < 0 then (J_Lin_copy_67 v0 v1 v2 v3 v4 s0 σ) else (if (σ 1 v0 4 0) < v4 then (J_Lin_copy_67 v0 v1 v2 v3 v4 s0 σ) else (if (ox_w ((σ 1 v0 0 0) - (σ 1 v0 4 0))) < v3 then (J_Lin_copy_67 v0 v1 v2 v3 v4 s0 σ) else (J_Lin_copy_68 v0 v1 v2 v3 v4 s0 1 σ)))
theorem L_Lin_copy_34  (v0 : Nat) (v1 : Nat) (v2 : Int) (v3 : Int) (v4 : Int) (s0 : Int) (σ : ox_H) (n tl : Nat) : ox_R (fun r => some ((fun r : ox_H => ((.inl none, r) : ox_O)) r)) (J_Lin_copy_34 v0 v1 v2 v3 v4 s0 σ) (ox_ev m_Lin_copy (ox_zz ox_ms (n + 1)) 34 0 tl [.inr (.inr (1, v0, 0)), .inr (.inr (1, v1, 0)), .inl (v2), .inl (v3), .inl (v4), ox_d, ox_d] [.inl (s0)] σ) := by
  unfold J_Lin_copy_34
  refine ox_R_to 3 (Y := if v4 < 0 then ox_ev m_Lin_copy (ox_zz ox_ms (n + 1)) 67 0 tl [.inr (.inr (1, v0, 0)), .inr (.inr (1, v1, 0)), .inl (v2), .inl (v3), .inl (v4), .inl (s0), ox_d] [] σ else ox_ev m_Lin_copy (ox_zz ox_ms (n + 1)) 41 0 tl [.inr (.inr (1, v0, 0)), .inr (.inr (1, v1, 0)), .inl (v2), .inl (v3), .inl (v4), .inl (s0), ox_d] [] σ) rfl ?_
  refine ox_R_if (fun _ => ?_) (fun _ => ?_)
  · exact (L_Lin_copy_67 v0 v1 v2 v3 v4 s0 σ n tl)
  · refine ox_R_to 4 (Y := if (σ 1 v0 4 0) < v4 then ox_ev m_Lin_copy (ox_zz ox_ms (n + 1)) 67 0 tl [.inr (.inr (1, v0, 0)), .inr (.inr (1, v1, 0)), .inl (v2), .inl (v3), .inl (v4), .inl (s0), ox_d] [] σ else ox_ev m_Lin_copy (ox_zz ox_ms (n + 1)) 50 0 tl [.inr (.inr (1, v0, 0)), .inr (.inr (1, v1, 0)), .inl (v2), .inl (v3), .inl (v4), .inl (s0), ox_d] [] σ) rfl ?_
    refine ox_R_if (fun _ => ?_) (fun _ => ?_)
    · exact (L_Lin_copy_67 v0 v1 v2 v3 v4 s0 σ n tl)
    · refine ox_R_to 7 (Y := if (ox_w ((σ 1 v0 0 0) - (σ 1 v0 4 0))) < v3 then ox_ev m_Lin_copy (ox_zz ox_ms (n + 1)) 67 0 tl [.inr (.inr (1, v0, 0)), .inr (.inr (1, v1, 0)), .inl (v2), .inl (v3), .inl (v4), .inl (s0), ox_d] [] σ else ox_ev m_Lin_copy (ox_zz ox_ms (n + 1)) 63 0 tl [.inr (.inr (1, v0, 0)), .inr (.inr (1, v1, 0)), .inl (v2), .inl (v3), .inl (v4), .inl (s0), ox_d] [] σ) rfl ?_
      refine ox_R_if (fun _ => ?_) (fun _ => ?_)
      · exact (L_Lin_copy_67 v0 v1 v2 v3 v4 s0 σ n tl)
      · refine ox_R_to 2 (Y := ox_ev m_Lin_copy (ox_zz ox_ms (n + 1)) 68 0 tl [.inr (.inr (1, v0, 0)), .inr (.inr (1, v1, 0)), .inl (v2), .inl (v3), .inl (v4), .inl (s0), ox_d] [.inl (1)] σ) rfl ?_
        exact (L_Lin_copy_68 v0 v1 v2 v3 v4 s0 1 σ n tl)
def J_Lin_copy_33  (v0 : Nat) (v1 : Nat) (v2 : Int) (v3 : Int) (v4 : Int) (σ : ox_H) : Option ox_H := (J_Lin_copy_34 v0 v1 v2 v3 v4 0 σ)
theorem L_Lin_copy_33  (v0 : Nat) (v1 : Nat) (v2 : Int) (v3 : Int) (v4 : Int) (σ : ox_H) (n tl : Nat) : ox_R (fun r => some ((fun r : ox_H => ((.inl none, r) : ox_O)) r)) (J_Lin_copy_33 v0 v1 v2 v3 v4 σ) (ox_ev m_Lin_copy (ox_zz ox_ms (n + 1)) 33 0 tl [.inr (.inr (1, v0, 0)), .inr (.inr (1, v1, 0)), .inl (v2), .inl (v3), .inl (v4), ox_d, ox_d] [] σ) := by
  unfold J_Lin_copy_33
  refine ox_R_to 1 (Y := ox_ev m_Lin_copy (ox_zz ox_ms (n + 1)) 34 0 tl [.inr (.inr (1, v0, 0)), .inr (.inr (1, v1, 0)), .inl (v2), .inl (v3), .inl (v4), ox_d, ox_d] [.inl (0)] σ) rfl ?_
  exact (L_Lin_copy_34 v0 v1 v2 v3 v4 0 σ n tl)
def F_Lin_copy  (k : Nat) (k1 : Nat) (a2 : Int) (a3 : Int) (a4 : Int) (σ : ox_H) : Option (ox_H) := if a2 < 0 then (J_Lin_copy_33 k k1 a2 a3 a4 σ) else (if a3 ≤ 0 then (J_Lin_copy_33 k k1 a2 a3 a4 σ) else (if (ox_w ((σ 1 k1 4 0) - a2)) < a3 then (J_Lin_copy_33 k k1 a2 a3 a4 σ) else (if (σ 1 k1 1 0) = (σ 1 k 1 0) then (J_Lin_copy_34 k k1 a2 a3 a4 1 σ) else (J_Lin_copy_33 k k1 a2 a3 a4 σ))))
theorem L_Lin_copy  (k : Nat) (k1 : Nat) (a2 : Int) (a3 : Int) (a4 : Int) (σ : ox_H) (n tl : Nat) : ox_R (fun r => some ((fun r : ox_H => ((.inl none, r) : ox_O)) r)) (F_Lin_copy k k1 a2 a3 a4 σ) (ox_zz ox_ms (n + 2) 160 tl [.inr (.inr (1, k, 0)), .inr (.inr (1, k1, 0)), .inl (a2), .inl (a3), .inl (a4)] σ) := by
  unfold F_Lin_copy
  refine ox_R_of (Y := ox_ev m_Lin_copy (ox_zz ox_ms (n + 1)) 0 0 tl [.inr (.inr (1, k, 0)), .inr (.inr (1, k1, 0)), .inl (a2), .inl (a3), .inl (a4), ox_d, ox_d] [] σ) rfl ?_
  refine ox_R_to 2 (Y := if a2 < 0 then ox_ev m_Lin_copy (ox_zz ox_ms (n + 1)) 33 0 tl [.inr (.inr (1, k, 0)), .inr (.inr (1, k1, 0)), .inl (a2), .inl (a3), .inl (a4), ox_d, ox_d] [] σ else ox_ev m_Lin_copy (ox_zz ox_ms (n + 1)) 4 0 tl [.inr (.inr (1, k, 0)), .inr (.inr (1, k1, 0)), .inl (a2), .inl (a3), .inl (a4), ox_d, ox_d] [] σ) rfl ?_
  refine ox_R_if (fun _ => ?_) (fun _ => ?_)
  · exact (L_Lin_copy_33 k k1 a2 a3 a4 σ n tl)
  · refine ox_R_to 2 (Y := if a3 ≤ 0 then ox_ev m_Lin_copy (ox_zz ox_ms (n + 1)) 33 0 tl [.inr (.inr (1, k, 0)), .inr (.inr (1, k1, 0)), .inl (a2), .inl (a3), .inl (a4), ox_d, ox_d] [] σ else ox_ev m_Lin_copy (ox_zz ox_ms (n + 1)) 8 0 tl [.inr (.inr (1, k, 0)), .inr (.inr (1, k1, 0)), .inl (a2), .inl (a3), .inl (a4), ox_d, ox_d] [] σ) rfl ?_
    refine ox_R_if (fun _ => ?_) (fun _ => ?_)
    · exact (L_Lin_copy_33 k k1 a2 a3 a4 σ n tl)
    · refine ox_R_to 6 (Y := if (ox_w ((σ 1 k1 4 0) - a2)) < a3 then ox_ev m_Lin_copy (ox_zz ox_ms (n + 1)) 33 0 tl [.inr (.inr (1, k, 0)), .inr (.inr (1, k1, 0)), .inl (a2), .inl (a3), .inl (a4), ox_d, ox_d] [] σ else ox_ev m_Lin_copy (ox_zz ox_ms (n + 1)) 18 0 tl [.inr (.inr (1, k, 0)), .inr (.inr (1, k1, 0)), .inl (a2), .inl (a3), .inl (a4), ox_d, ox_d] [] σ) rfl ?_
      refine ox_R_if (fun _ => ?_) (fun _ => ?_)
      · exact (L_Lin_copy_33 k k1 a2 a3 a4 σ n tl)
      · refine ox_R_to 5 (Y := if (σ 1 k1 1 0) = (σ 1 k 1 0) then ox_ev m_Lin_copy (ox_zz ox_ms (n + 1)) 29 0 tl [.inr (.inr (1, k, 0)), .inr (.inr (1, k1, 0)), .inl (a2), .inl (a3), .inl (a4), ox_d, ox_d] [] σ else ox_ev m_Lin_copy (ox_zz ox_ms (n + 1)) 33 0 tl [.inr (.inr (1, k, 0)), .inr (.inr (1, k1, 0)), .inl (a2), .inl (a3), .inl (a4), ox_d, ox_d] [] σ) rfl ?_
        refine ox_R_if (fun _ => ?_) (fun _ => ?_)
        · refine ox_R_to 2 (Y := ox_ev m_Lin_copy (ox_zz ox_ms (n + 1)) 34 0 tl [.inr (.inr (1, k, 0)), .inr (.inr (1, k1, 0)), .inl (a2), .inl (a3), .inl (a4), ox_d, ox_d] [.inl (1)] σ) rfl ?_
          exact (L_Lin_copy_34 k k1 a2 a3 a4 1 σ n tl)
        · exact (L_Lin_copy_33 k k1 a2 a3 a4 σ n tl)
def J_Otl_ownerOf_31  (s0 : Int) (σ : ox_H) : Option Int := some s0
theorem L_Otl_ownerOf_31  (s0 : Int) (σ : ox_H) (n tl : Nat) : ox_R (fun r => some ((fun r : Int => ((.inl (some (.inl r)), σ) : ox_O)) r)) (J_Otl_ownerOf_31 s0 σ) (ox_ev m_Otl_ownerOf (ox_zz ox_ms (n + 0)) 31 0 tl [ox_d, ox_d] [.inl (s0)] σ) := by
  unfold J_Otl_ownerOf_31
  refine ox_R_to 1 (Y := some (.inl (some (.inl (s0))), σ)) rfl ?_
  exact ox_R_ret rfl
def J_Otl_ownerOf_30  (σ : ox_H) : Option Int := (J_Otl_ownerOf_31 (-1) σ)
theorem L_Otl_ownerOf_30  (σ : ox_H) (n tl : Nat) : ox_R (fun r => some ((fun r : Int => ((.inl (some (.inl r)), σ) : ox_O)) r)) (J_Otl_ownerOf_30 σ) (ox_ev m_Otl_ownerOf (ox_zz ox_ms (n + 0)) 30 0 tl [ox_d, ox_d] [] σ) := by
  unfold J_Otl_ownerOf_30
  refine ox_R_to 1 (Y := ox_ev m_Otl_ownerOf (ox_zz ox_ms (n + 0)) 31 0 tl [ox_d, ox_d] [.inl ((-1))] σ) rfl ?_
  exact (L_Otl_ownerOf_31 (-1) σ n tl)
def F_Otl_ownerOf  (a1 : Int) (σ : ox_H) : Option (Int) := if a1 < 0 then (J_Otl_ownerOf_30 σ) else (if (σ 1 0 4 0) ≤ a1 then (J_Otl_ownerOf_30 σ) else (if 60 ≤ a1 then (J_Otl_ownerOf_30 σ) else (if 0 ≤ a1 ∧ a1.toNat < 60 then (J_Otl_ownerOf_31 (σ 2 0 4 a1.toNat) σ) else none)))
theorem L_Otl_ownerOf  (a1 : Int) (σ : ox_H) (n tl : Nat) : ox_R (fun r => some ((fun r : Int => ((.inl (some (.inl r)), σ) : ox_O)) r)) (F_Otl_ownerOf a1 σ) (ox_zz ox_ms (n + 1) 173 tl [.inr (.inr (2, 0, 0)), .inl (a1)] σ) := by
  unfold F_Otl_ownerOf
  refine ox_R_of (Y := ox_ev m_Otl_ownerOf (ox_zz ox_ms (n + 0)) 0 0 tl [.inr (.inr (2, 0, 0)), .inl (a1)] [] σ) rfl ?_
  refine ox_R_to 2 (Y := if a1 < 0 then ox_ev m_Otl_ownerOf (ox_zz ox_ms (n + 0)) 30 0 tl [ox_d, ox_d] [] σ else ox_ev m_Otl_ownerOf (ox_zz ox_ms (n + 0)) 4 0 tl [.inr (.inr (2, 0, 0)), .inl (a1)] [] σ) rfl ?_
  refine ox_R_if (fun _ => ?_) (fun _ => ?_)
  · exact (L_Otl_ownerOf_30 σ n tl)
  · refine ox_R_to 5 (Y := if (σ 1 0 4 0) ≤ a1 then ox_ev m_Otl_ownerOf (ox_zz ox_ms (n + 0)) 30 0 tl [ox_d, ox_d] [] σ else ox_ev m_Otl_ownerOf (ox_zz ox_ms (n + 0)) 15 0 tl [.inr (.inr (2, 0, 0)), .inl (a1)] [] σ) rfl ?_
    refine ox_R_if (fun _ => ?_) (fun _ => ?_)
    · exact (L_Otl_ownerOf_30 σ n tl)
    · refine ox_R_to 3 (Y := if 60 ≤ a1 then ox_ev m_Otl_ownerOf (ox_zz ox_ms (n + 0)) 30 0 tl [ox_d, ox_d] [] σ else ox_ev m_Otl_ownerOf (ox_zz ox_ms (n + 0)) 21 0 tl [.inr (.inr (2, 0, 0)), .inl (a1)] [] σ) rfl ?_
      refine ox_R_if (fun _ => ?_) (fun _ => ?_)
      · exact (L_Otl_ownerOf_30 σ n tl)
      · refine ox_R_to 4 (Y := if 0 ≤ a1 ∧ a1.toNat < 60 then ox_ev m_Otl_ownerOf (ox_zz ox_ms (n + 0)) 27 0 tl [.inr (.inr (2, 0, 0)), .inl (a1)] [.inl (σ 2 0 4 a1.toNat)] σ else none) rfl ?_
        refine ox_R_if (fun _ => ?_) (fun _ => ox_R_none)
        refine ox_R_to 1 (Y := ox_ev m_Otl_ownerOf (ox_zz ox_ms (n + 0)) 31 0 tl [ox_d, ox_d] [.inl (σ 2 0 4 a1.toNat)] σ) rfl ?_
        exact (L_Otl_ownerOf_31 (σ 2 0 4 a1.toNat) σ n tl)
def J_Out_refile_199  (v6 : Int) (v7 : Int) (σ : ox_H) : Option ((Nat ⊕ Int) × ox_H) := (F_Lin_copy 0 1 0 v6 v7 σ).bind fun r1 => ((F_Otl_refresh r1).bind fun r2 => ((F_Otl_ownerOf v7 r2).bind fun r3 => (some (.inr r3, r2))))
theorem L_Out_refile_199  (v6 : Int) (v7 : Int) (σ : ox_H) (n tl : Nat) : ox_R (fun r => some ((fun r : (Nat ⊕ Int) × ox_H => (((Sum.elim (fun e : Nat => (.inr e : Option ox_V ⊕ Nat)) (fun v : Int => .inl (some (.inl v))) r.1), r.2) : ox_O)) r)) (J_Out_refile_199 v6 v7 σ) (ox_ev m_Out_refile (ox_zz ox_ms (n + 6)) 199 1 tl [.inr (.inr (0, 0, 0)), ox_d, ox_d, ox_d, ox_d, ox_d, .inl (v6), .inl (v7)] [] σ) := by
  unfold J_Out_refile_199
  refine ox_R_to 8 (Y := ox_back m_Out_refile 212 2 [] ((ox_zz ox_ms (n + 6)) 160 tl [.inr (.inr (1, 0, 0)), .inr (.inr (1, 1, 0)), .inl (0), .inl (v6), .inl (v7)] σ) (fun pc9 x9 st9 σ9 => ox_ev m_Out_refile (ox_zz ox_ms (n + 6)) pc9 1 tl (ox_kl (m_Out_refile.2.2.1 pc9) (ox_xl x9 [.inr (.inr (0, 0, 0)), ox_d, ox_d, ox_d, ox_d, ox_d, .inl (v6), .inl (v7)])) st9 σ9)) rfl ?_
  refine ox_R_call (fc := (fun r : ox_H => ((.inl none, r) : ox_O))) (L_Lin_copy 0 1 0 v6 v7 σ (n + 4) tl) (fun r1 => ?_)
  refine ox_R_of (Y := ox_ev m_Out_refile (ox_zz ox_ms (n + 6)) 215 1 tl [.inr (.inr (0, 0, 0)), ox_d, ox_d, ox_d, ox_d, ox_d, .inl (v6), .inl (v7)] [] r1) rfl ?_
  refine ox_R_to 3 (Y := ox_back m_Out_refile 219 2 [] ((ox_zz ox_ms (n + 6)) 169 tl [.inr (.inr (2, 0, 0))] r1) (fun pc9 x9 st9 σ9 => ox_ev m_Out_refile (ox_zz ox_ms (n + 6)) pc9 1 tl (ox_kl (m_Out_refile.2.2.1 pc9) (ox_xl x9 [.inr (.inr (0, 0, 0)), ox_d, ox_d, ox_d, ox_d, ox_d, .inl (v6), .inl (v7)])) st9 σ9)) rfl ?_
  refine ox_R_call (fc := (fun r : ox_H => ((.inl none, r) : ox_O))) (L_Otl_refresh r1 (n + 0) tl) (fun r2 => ?_)
  refine ox_R_of (Y := ox_ev m_Out_refile (ox_zz ox_ms (n + 6)) 222 1 tl [.inr (.inr (0, 0, 0)), ox_d, ox_d, ox_d, ox_d, ox_d, .inl (v6), .inl (v7)] [] r2) rfl ?_
  refine ox_R_to 4 (Y := ox_back m_Out_refile 228 3 [] ((ox_zz ox_ms (n + 6)) 173 tl [.inr (.inr (2, 0, 0)), .inl (v7)] r2) (fun pc9 x9 st9 σ9 => ox_ev m_Out_refile (ox_zz ox_ms (n + 6)) pc9 1 tl (ox_kl (m_Out_refile.2.2.1 pc9) (ox_xl x9 [.inr (.inr (0, 0, 0)), ox_d, ox_d, ox_d, ox_d, ox_d, .inl (v6), .inl (v7)])) st9 σ9)) rfl ?_
  refine ox_R_call (fc := (fun r : Int => ((.inl (some (.inl r)), r2) : ox_O))) (L_Otl_ownerOf v7 r2 (n + 5) tl) (fun r3 => ?_)
  refine ox_R_of (Y := ox_ev m_Out_refile (ox_zz ox_ms (n + 6)) 231 1 tl [.inr (.inr (0, 0, 0)), ox_d, ox_d, ox_d, ox_d, ox_d, .inl (v6), .inl (v7)] [.inl (r3)] r2) rfl ?_
  refine ox_R_to 1 (Y := some (.inl (some (.inl (r3))), r2)) rfl ?_
  exact ox_R_ret rfl
def J_Out_refile_197  (v6 : Int) (s0 : Int) (σ : ox_H) : Option ((Nat ⊕ Int) × ox_H) := (J_Out_refile_199 v6 s0 σ)
theorem L_Out_refile_197  (v6 : Int) (s0 : Int) (σ : ox_H) (n tl : Nat) : ox_R (fun r => some ((fun r : (Nat ⊕ Int) × ox_H => (((Sum.elim (fun e : Nat => (.inr e : Option ox_V ⊕ Nat)) (fun v : Int => .inl (some (.inl v))) r.1), r.2) : ox_O)) r)) (J_Out_refile_197 v6 s0 σ) (ox_ev m_Out_refile (ox_zz ox_ms (n + 6)) 197 1 tl [.inr (.inr (0, 0, 0)), ox_d, ox_d, ox_d, ox_d, ox_d, .inl (v6), ox_d] [.inl (s0)] σ) := by
  unfold J_Out_refile_197
  refine ox_R_to 1 (Y := ox_ev m_Out_refile (ox_zz ox_ms (n + 6)) 199 1 tl [.inr (.inr (0, 0, 0)), ox_d, ox_d, ox_d, ox_d, ox_d, .inl (v6), .inl (s0)] [] σ) rfl ?_
  exact (L_Out_refile_199 v6 s0 σ n tl)
def J_Out_refile_108  (v1 : Int) (v2 : Int) (v3 : Int) (v4 : Int) (v5 : Int) (v6 : Int) (s0 : Int) (σ : ox_H) : Option ((Nat ⊕ Int) × ox_H) := (F_Out_checkRoom s0 σ).bind fun r4 => match r4 with | .inl e11 => (some (.inl e11, σ)) | .inr x5 => ((F_Otl_partEnd v2 σ).bind fun r6 => ((F_Lin_close 1 0 (σ 1 1 4 0) σ).bind fun r7 => ((F_Lin_copy 1 0 v5 v6 0 r7).bind fun r8 => ((F_Out_giveStars v1 v4 1 v5 r8).bind fun r9 => (if v3 = 0 then ((F_Lin_close 0 v5 v6 r9).bind fun r10 => (if r6 ≤ v5 then (J_Out_refile_197 v6 r6 r10) else (J_Out_refile_197 v6 (ox_w (r6 - v6)) r10))) else (J_Out_refile_199 v6 r6 r9))))))
theorem L_Out_refile_108  (v1 : Int) (v2 : Int) (v3 : Int) (v4 : Int) (v5 : Int) (v6 : Int) (s0 : Int) (σ : ox_H) (n tl : Nat) : ox_R (fun r => some ((fun r : (Nat ⊕ Int) × ox_H => (((Sum.elim (fun e : Nat => (.inr e : Option ox_V ⊕ Nat)) (fun v : Int => .inl (some (.inl v))) r.1), r.2) : ox_O)) r)) (J_Out_refile_108 v1 v2 v3 v4 v5 v6 s0 σ) (ox_ev m_Out_refile (ox_zz ox_ms (n + 6)) 108 2 tl [.inr (.inr (0, 0, 0)), .inl (v1), .inl (v2), .inl (v3), .inl (v4), .inl (v5), .inl (v6), ox_d] [.inl (s0), .inr (.inr (0, 0, 0))] σ) := by
  unfold J_Out_refile_108
  refine ox_R_to 1 (Y := ox_back m_Out_refile 108 0 [] ((ox_zz ox_ms (n + 6)) 8 tl [.inr (.inr (0, 0, 0)), .inl (s0)] σ) (fun pc9 x9 st9 σ9 => ox_ev m_Out_refile (ox_zz ox_ms (n + 6)) pc9 1 tl (ox_kl (m_Out_refile.2.2.1 pc9) (ox_xl x9 [.inr (.inr (0, 0, 0)), .inl (v1), .inl (v2), .inl (v3), .inl (v4), .inl (v5), .inl (v6), ox_d])) st9 σ9)) rfl ?_
  refine ox_R_call (fc := (fun r : (Nat ⊕ Unit) => (((Sum.elim (fun e : Nat => (.inr e : Option ox_V ⊕ Nat)) (fun v : Unit => .inl none) r), σ) : ox_O))) (L_Out_checkRoom s0 σ (n + 4) tl) (fun r4 => ?_)
  rcases r4 with e11 | x5
  · refine ox_R_of (Y := some (.inr e11, σ)) rfl ?_
    exact ox_R_ret rfl
  · refine ox_R_of (Y := ox_ev m_Out_refile (ox_zz ox_ms (n + 6)) 111 1 tl [.inr (.inr (0, 0, 0)), .inl (v1), .inl (v2), .inl (v3), .inl (v4), .inl (v5), .inl (v6), ox_d] [] σ) rfl ?_
    refine ox_R_to 4 (Y := ox_back m_Out_refile 116 3 [] ((ox_zz ox_ms (n + 6)) 185 tl [.inr (.inr (2, 0, 0)), .inl (v2)] σ) (fun pc9 x9 st9 σ9 => ox_ev m_Out_refile (ox_zz ox_ms (n + 6)) pc9 1 tl (ox_kl (m_Out_refile.2.2.1 pc9) (ox_xl x9 [.inr (.inr (0, 0, 0)), .inl (v1), .inl (v2), .inl (v3), .inl (v4), .inl (v5), .inl (v6), ox_d])) st9 σ9)) rfl ?_
    refine ox_R_call (fc := (fun r : Int => ((.inl (some (.inl r)), σ) : ox_O))) (L_Otl_partEnd v2 σ (n + 3) tl) (fun r6 => ?_)
    refine ox_R_of (Y := ox_ev m_Out_refile (ox_zz ox_ms (n + 6)) 119 1 tl [.inr (.inr (0, 0, 0)), .inl (v1), .inl (v2), .inl (v3), .inl (v4), .inl (v5), .inl (v6), ox_d] [.inl (r6)] σ) rfl ?_
    refine ox_R_to 8 (Y := ox_back m_Out_refile 133 2 [] ((ox_zz ox_ms (n + 6)) 159 tl [.inr (.inr (1, 1, 0)), .inl (0), .inl (σ 1 1 4 0)] σ) (fun pc9 x9 st9 σ9 => ox_ev m_Out_refile (ox_zz ox_ms (n + 6)) pc9 1 tl (ox_kl (m_Out_refile.2.2.1 pc9) (ox_xl x9 [.inr (.inr (0, 0, 0)), .inl (v1), .inl (v2), .inl (v3), .inl (v4), .inl (v5), .inl (v6), .inl (r6)])) st9 σ9)) rfl ?_
    refine ox_R_call (fc := (fun r : ox_H => ((.inl none, r) : ox_O))) (L_Lin_close 1 0 (σ 1 1 4 0) σ (n + 5) tl) (fun r7 => ?_)
    refine ox_R_of (Y := ox_ev m_Out_refile (ox_zz ox_ms (n + 6)) 136 1 tl [.inr (.inr (0, 0, 0)), .inl (v1), .inl (v2), .inl (v3), .inl (v4), .inl (v5), .inl (v6), .inl (r6)] [] r7) rfl ?_
    refine ox_R_to 8 (Y := ox_back m_Out_refile 149 2 [] ((ox_zz ox_ms (n + 6)) 160 tl [.inr (.inr (1, 1, 0)), .inr (.inr (1, 0, 0)), .inl (v5), .inl (v6), .inl (0)] r7) (fun pc9 x9 st9 σ9 => ox_ev m_Out_refile (ox_zz ox_ms (n + 6)) pc9 1 tl (ox_kl (m_Out_refile.2.2.1 pc9) (ox_xl x9 [.inr (.inr (0, 0, 0)), .inl (v1), .inl (v2), .inl (v3), .inl (v4), .inl (v5), .inl (v6), .inl (r6)])) st9 σ9)) rfl ?_
    refine ox_R_call (fc := (fun r : ox_H => ((.inl none, r) : ox_O))) (L_Lin_copy 1 0 v5 v6 0 r7 (n + 4) tl) (fun r8 => ?_)
    refine ox_R_of (Y := ox_ev m_Out_refile (ox_zz ox_ms (n + 6)) 152 1 tl [.inr (.inr (0, 0, 0)), .inl (v1), .inl (v2), .inl (v3), .inl (v4), .inl (v5), .inl (v6), .inl (r6)] [] r8) rfl ?_
    refine ox_R_to 7 (Y := ox_back m_Out_refile 162 0 [] ((ox_zz ox_ms (n + 6)) 21 tl [.inr (.inr (0, 0, 0)), .inl (v1), .inl (v4), .inr (.inr (1, 1, 0)), .inl (v5)] r8) (fun pc9 x9 st9 σ9 => ox_ev m_Out_refile (ox_zz ox_ms (n + 6)) pc9 1 tl (ox_kl (m_Out_refile.2.2.1 pc9) (ox_xl x9 [.inr (.inr (0, 0, 0)), .inl (v1), .inl (v2), .inl (v3), .inl (v4), .inl (v5), .inl (v6), .inl (r6)])) st9 σ9)) rfl ?_
    refine ox_R_call (fc := (fun r : ox_H => ((.inl none, r) : ox_O))) (L_Out_giveStars v1 v4 1 v5 r8 (n + 3) tl) (fun r9 => ?_)
    refine ox_R_of (Y := ox_ev m_Out_refile (ox_zz ox_ms (n + 6)) 165 1 tl [.inr (.inr (0, 0, 0)), .inl (v1), .inl (v2), .inl (v3), .inl (v4), .inl (v5), .inl (v6), .inl (r6)] [] r9) rfl ?_
    refine ox_R_to 2 (Y := if v3 = 0 then ox_ev m_Out_refile (ox_zz ox_ms (n + 6)) 169 1 tl [.inr (.inr (0, 0, 0)), .inl (v1), .inl (v2), .inl (v3), .inl (v4), .inl (v5), .inl (v6), .inl (r6)] [] r9 else ox_ev m_Out_refile (ox_zz ox_ms (n + 6)) 199 1 tl [.inr (.inr (0, 0, 0)), ox_d, ox_d, ox_d, ox_d, ox_d, .inl (v6), .inl (r6)] [] r9) rfl ?_
    refine ox_R_if (fun _ => ?_) (fun _ => ?_)
    · refine ox_R_to 5 (Y := ox_back m_Out_refile 177 2 [] ((ox_zz ox_ms (n + 6)) 159 tl [.inr (.inr (1, 0, 0)), .inl (v5), .inl (v6)] r9) (fun pc9 x9 st9 σ9 => ox_ev m_Out_refile (ox_zz ox_ms (n + 6)) pc9 1 tl (ox_kl (m_Out_refile.2.2.1 pc9) (ox_xl x9 [.inr (.inr (0, 0, 0)), .inl (v1), .inl (v2), .inl (v3), .inl (v4), .inl (v5), .inl (v6), .inl (r6)])) st9 σ9)) rfl ?_
      refine ox_R_call (fc := (fun r : ox_H => ((.inl none, r) : ox_O))) (L_Lin_close 0 v5 v6 r9 (n + 5) tl) (fun r10 => ?_)
      refine ox_R_of (Y := ox_ev m_Out_refile (ox_zz ox_ms (n + 6)) 180 1 tl [.inr (.inr (0, 0, 0)), .inl (v1), .inl (v2), .inl (v3), .inl (v4), .inl (v5), .inl (v6), .inl (r6)] [] r10) rfl ?_
      refine ox_R_to 3 (Y := if r6 ≤ v5 then ox_ev m_Out_refile (ox_zz ox_ms (n + 6)) 195 1 tl [.inr (.inr (0, 0, 0)), .inl (v1), .inl (v2), .inl (v3), .inl (v4), .inl (v5), .inl (v6), .inl (r6)] [] r10 else ox_ev m_Out_refile (ox_zz ox_ms (n + 6)) 187 1 tl [.inr (.inr (0, 0, 0)), .inl (v1), .inl (v2), .inl (v3), .inl (v4), .inl (v5), .inl (v6), .inl (r6)] [] r10) rfl ?_
      refine ox_R_if (fun _ => ?_) (fun _ => ?_)
      · refine ox_R_to 1 (Y := ox_ev m_Out_refile (ox_zz ox_ms (n + 6)) 197 1 tl [.inr (.inr (0, 0, 0)), ox_d, ox_d, ox_d, ox_d, ox_d, .inl (v6), ox_d] [.inl (r6)] r10) rfl ?_
        exact (L_Out_refile_197 v6 r6 r10 n tl)
      · refine ox_R_to 4 (Y := ox_ev m_Out_refile (ox_zz ox_ms (n + 6)) 197 1 tl [.inr (.inr (0, 0, 0)), ox_d, ox_d, ox_d, ox_d, ox_d, .inl (v6), ox_d] [.inl (ox_w (r6 - v6))] r10) rfl ?_
        exact (L_Out_refile_197 v6 (ox_w (r6 - v6)) r10 n tl)
    · exact (L_Out_refile_199 v6 r6 r9 n tl)
def J_Out_refile_46  (v1 : Int) (v2 : Int) (v3 : Int) (σ : ox_H) : Option ((Nat ⊕ Int) × ox_H) := (F_Otl_levelOf v2 σ).bind fun r12 => ((F_Otl_levelOf v1 σ).bind fun r13 => ((F_Out_checkStars v1 (ox_w ((ox_w (r12 + 1)) - r13)) σ).bind fun r14 => match r14 with | .inl e18 => (some (.inl e18, σ)) | .inr x15 => ((F_Otl_lineOf v1 σ).bind fun r16 => ((F_Otl_partEnd v1 σ).bind fun r17 => (if v3 = 0 then (J_Out_refile_108 v1 v2 v3 (ox_w ((ox_w (r12 + 1)) - r13)) r16 (ox_w (r17 - r16)) 0 σ) else (J_Out_refile_108 v1 v2 v3 (ox_w ((ox_w (r12 + 1)) - r13)) r16 (ox_w (r17 - r16)) (ox_w (r17 - r16)) σ))))))
theorem L_Out_refile_46  (v1 : Int) (v2 : Int) (v3 : Int) (σ : ox_H) (n tl : Nat) : ox_R (fun r => some ((fun r : (Nat ⊕ Int) × ox_H => (((Sum.elim (fun e : Nat => (.inr e : Option ox_V ⊕ Nat)) (fun v : Int => .inl (some (.inl v))) r.1), r.2) : ox_O)) r)) (J_Out_refile_46 v1 v2 v3 σ) (ox_ev m_Out_refile (ox_zz ox_ms (n + 6)) 46 3 tl [.inr (.inr (0, 0, 0)), .inl (v1), .inl (v2), .inl (v3), ox_d, ox_d, ox_d, ox_d] [] σ) := by
  unfold J_Out_refile_46
  refine ox_R_to 4 (Y := ox_back m_Out_refile 51 3 [] ((ox_zz ox_ms (n + 6)) 177 tl [.inr (.inr (2, 0, 0)), .inl (v2)] σ) (fun pc9 x9 st9 σ9 => ox_ev m_Out_refile (ox_zz ox_ms (n + 6)) pc9 3 tl (ox_kl (m_Out_refile.2.2.1 pc9) (ox_xl x9 [.inr (.inr (0, 0, 0)), .inl (v1), .inl (v2), .inl (v3), ox_d, ox_d, ox_d, ox_d])) st9 σ9)) rfl ?_
  refine ox_R_call (fc := (fun r : Int => ((.inl (some (.inl r)), σ) : ox_O))) (L_Otl_levelOf v2 σ (n + 5) tl) (fun r12 => ?_)
  refine ox_R_of (Y := ox_ev m_Out_refile (ox_zz ox_ms (n + 6)) 54 3 tl [.inr (.inr (0, 0, 0)), .inl (v1), .inl (v2), .inl (v3), ox_d, ox_d, ox_d, ox_d] [.inl (r12)] σ) rfl ?_
  refine ox_R_to 6 (Y := ox_back m_Out_refile 61 3 [.inl (ox_w (r12 + 1))] ((ox_zz ox_ms (n + 6)) 177 tl [.inr (.inr (2, 0, 0)), .inl (v1)] σ) (fun pc9 x9 st9 σ9 => ox_ev m_Out_refile (ox_zz ox_ms (n + 6)) pc9 3 tl (ox_kl (m_Out_refile.2.2.1 pc9) (ox_xl x9 [.inr (.inr (0, 0, 0)), .inl (v1), .inl (v2), .inl (v3), ox_d, ox_d, ox_d, ox_d])) st9 σ9)) rfl ?_
  refine ox_R_call (fc := (fun r : Int => ((.inl (some (.inl r)), σ) : ox_O))) (L_Otl_levelOf v1 σ (n + 5) tl) (fun r13 => ?_)
  refine ox_R_of (Y := ox_ev m_Out_refile (ox_zz ox_ms (n + 6)) 64 3 tl [.inr (.inr (0, 0, 0)), .inl (v1), .inl (v2), .inl (v3), ox_d, ox_d, ox_d, ox_d] [.inl (r13), .inl (ox_w (r12 + 1))] σ) rfl ?_
  refine ox_R_to 6 (Y := ox_back m_Out_refile 71 0 [] ((ox_zz ox_ms (n + 6)) 20 tl [.inr (.inr (0, 0, 0)), .inl (v1), .inl (ox_w ((ox_w (r12 + 1)) - r13))] σ) (fun pc9 x9 st9 σ9 => ox_ev m_Out_refile (ox_zz ox_ms (n + 6)) pc9 2 tl (ox_kl (m_Out_refile.2.2.1 pc9) (ox_xl x9 [.inr (.inr (0, 0, 0)), .inl (v1), .inl (v2), .inl (v3), .inl (ox_w ((ox_w (r12 + 1)) - r13)), ox_d, ox_d, ox_d])) st9 σ9)) rfl ?_
  refine ox_R_call (fc := (fun r : (Nat ⊕ Unit) => (((Sum.elim (fun e : Nat => (.inr e : Option ox_V ⊕ Nat)) (fun v : Unit => .inl none) r), σ) : ox_O))) (L_Out_checkStars v1 (ox_w ((ox_w (r12 + 1)) - r13)) σ (n + 3) tl) (fun r14 => ?_)
  rcases r14 with e18 | x15
  · refine ox_R_of (Y := some (.inr e18, σ)) rfl ?_
    exact ox_R_ret rfl
  · refine ox_R_of (Y := ox_ev m_Out_refile (ox_zz ox_ms (n + 6)) 74 2 tl [.inr (.inr (0, 0, 0)), .inl (v1), .inl (v2), .inl (v3), .inl (ox_w ((ox_w (r12 + 1)) - r13)), ox_d, ox_d, ox_d] [] σ) rfl ?_
    refine ox_R_to 4 (Y := ox_back m_Out_refile 79 3 [] ((ox_zz ox_ms (n + 6)) 174 tl [.inr (.inr (2, 0, 0)), .inl (v1)] σ) (fun pc9 x9 st9 σ9 => ox_ev m_Out_refile (ox_zz ox_ms (n + 6)) pc9 2 tl (ox_kl (m_Out_refile.2.2.1 pc9) (ox_xl x9 [.inr (.inr (0, 0, 0)), .inl (v1), .inl (v2), .inl (v3), .inl (ox_w ((ox_w (r12 + 1)) - r13)), ox_d, ox_d, ox_d])) st9 σ9)) rfl ?_
    refine ox_R_call (fc := (fun r : Int => ((.inl (some (.inl r)), σ) : ox_O))) (L_Otl_lineOf v1 σ (n + 5) tl) (fun r16 => ?_)
    refine ox_R_of (Y := ox_ev m_Out_refile (ox_zz ox_ms (n + 6)) 82 2 tl [.inr (.inr (0, 0, 0)), .inl (v1), .inl (v2), .inl (v3), .inl (ox_w ((ox_w (r12 + 1)) - r13)), ox_d, ox_d, ox_d] [.inl (r16)] σ) rfl ?_
    refine ox_R_to 5 (Y := ox_back m_Out_refile 89 3 [] ((ox_zz ox_ms (n + 6)) 185 tl [.inr (.inr (2, 0, 0)), .inl (v1)] σ) (fun pc9 x9 st9 σ9 => ox_ev m_Out_refile (ox_zz ox_ms (n + 6)) pc9 2 tl (ox_kl (m_Out_refile.2.2.1 pc9) (ox_xl x9 [.inr (.inr (0, 0, 0)), .inl (v1), .inl (v2), .inl (v3), .inl (ox_w ((ox_w (r12 + 1)) - r13)), .inl (r16), ox_d, ox_d])) st9 σ9)) rfl ?_
    refine ox_R_call (fc := (fun r : Int => ((.inl (some (.inl r)), σ) : ox_O))) (L_Otl_partEnd v1 σ (n + 3) tl) (fun r17 => ?_)
    refine ox_R_of (Y := ox_ev m_Out_refile (ox_zz ox_ms (n + 6)) 92 2 tl [.inr (.inr (0, 0, 0)), .inl (v1), .inl (v2), .inl (v3), .inl (ox_w ((ox_w (r12 + 1)) - r13)), .inl (r16), ox_d, ox_d] [.inl (r17)] σ) rfl ?_
    refine ox_R_to 6 (Y := if v3 = 0 then ox_ev m_Out_refile (ox_zz ox_ms (n + 6)) 107 2 tl [.inr (.inr (0, 0, 0)), .inl (v1), .inl (v2), .inl (v3), .inl (ox_w ((ox_w (r12 + 1)) - r13)), .inl (r16), .inl (ox_w (r17 - r16)), ox_d] [.inr (.inr (0, 0, 0))] σ else ox_ev m_Out_refile (ox_zz ox_ms (n + 6)) 102 2 tl [.inr (.inr (0, 0, 0)), .inl (v1), .inl (v2), .inl (v3), .inl (ox_w ((ox_w (r12 + 1)) - r13)), .inl (r16), .inl (ox_w (r17 - r16)), ox_d] [.inr (.inr (0, 0, 0))] σ) rfl ?_
    refine ox_R_if (fun _ => ?_) (fun _ => ?_)
    · refine ox_R_to 1 (Y := ox_ev m_Out_refile (ox_zz ox_ms (n + 6)) 108 2 tl [.inr (.inr (0, 0, 0)), .inl (v1), .inl (v2), .inl (v3), .inl (ox_w ((ox_w (r12 + 1)) - r13)), .inl (r16), .inl (ox_w (r17 - r16)), ox_d] [.inl (0), .inr (.inr (0, 0, 0))] σ) rfl ?_
      exact (L_Out_refile_108 v1 v2 v3 (ox_w ((ox_w (r12 + 1)) - r13)) r16 (ox_w (r17 - r16)) 0 σ n tl)
    · refine ox_R_to 2 (Y := ox_ev m_Out_refile (ox_zz ox_ms (n + 6)) 108 2 tl [.inr (.inr (0, 0, 0)), .inl (v1), .inl (v2), .inl (v3), .inl (ox_w ((ox_w (r12 + 1)) - r13)), .inl (r16), .inl (ox_w (r17 - r16)), ox_d] [.inl (ox_w (r17 - r16)), .inr (.inr (0, 0, 0))] σ) rfl ?_
      exact (L_Out_refile_108 v1 v2 v3 (ox_w ((ox_w (r12 + 1)) - r13)) r16 (ox_w (r17 - r16)) (ox_w (r17 - r16)) σ n tl)
def F_Out_refile  (a1 : Int) (a2 : Int) (a3 : Int) (σ : ox_H) : Option ((Nat ⊕ Int) × ox_H) := (F_Otl_refresh σ).bind fun r19 => ((F_Out_checkEntry a1 r19).bind fun r20 => match r20 with | .inl e26 => (some (.inl e26, r19)) | .inr x21 => ((F_Out_checkEntry a2 r19).bind fun r22 => match r22 with | .inl e25 => (some (.inl e25, r19)) | .inr x23 => (if a2 < a1 then (J_Out_refile_46 a1 a2 a3 r19) else ((F_Otl_below a1 r19).bind fun r24 => (if (ox_w (a1 + r24)) < a2 then (J_Out_refile_46 a1 a2 a3 r19) else (some (.inl 3, r19)))))))
theorem L_Out_refile  (a1 : Int) (a2 : Int) (a3 : Int) (σ : ox_H) (n tl : Nat) : ox_R (fun r => some ((fun r : (Nat ⊕ Int) × ox_H => (((Sum.elim (fun e : Nat => (.inr e : Option ox_V ⊕ Nat)) (fun v : Int => .inl (some (.inl v))) r.1), r.2) : ox_O)) r)) (F_Out_refile a1 a2 a3 σ) (ox_zz ox_ms (n + 7) 13 tl [.inr (.inr (0, 0, 0)), .inl (a1), .inl (a2), .inl (a3)] σ) := by
  unfold F_Out_refile
  refine ox_R_of (Y := ox_ev m_Out_refile (ox_zz ox_ms (n + 6)) 0 5 tl [.inr (.inr (0, 0, 0)), .inl (a1), .inl (a2), .inl (a3), ox_d, ox_d, ox_d, ox_d] [] σ) rfl ?_
  refine ox_R_to 3 (Y := ox_back m_Out_refile 4 2 [] ((ox_zz ox_ms (n + 6)) 169 tl [.inr (.inr (2, 0, 0))] σ) (fun pc9 x9 st9 σ9 => ox_ev m_Out_refile (ox_zz ox_ms (n + 6)) pc9 5 tl (ox_kl (m_Out_refile.2.2.1 pc9) (ox_xl x9 [.inr (.inr (0, 0, 0)), .inl (a1), .inl (a2), .inl (a3), ox_d, ox_d, ox_d, ox_d])) st9 σ9)) rfl ?_
  refine ox_R_call (fc := (fun r : ox_H => ((.inl none, r) : ox_O))) (L_Otl_refresh σ (n + 0) tl) (fun r19 => ?_)
  refine ox_R_of (Y := ox_ev m_Out_refile (ox_zz ox_ms (n + 6)) 7 5 tl [.inr (.inr (0, 0, 0)), .inl (a1), .inl (a2), .inl (a3), ox_d, ox_d, ox_d, ox_d] [] r19) rfl ?_
  refine ox_R_to 3 (Y := ox_back m_Out_refile 9 0 [] ((ox_zz ox_ms (n + 6)) 18 tl [.inr (.inr (0, 0, 0)), .inl (a1)] r19) (fun pc9 x9 st9 σ9 => ox_ev m_Out_refile (ox_zz ox_ms (n + 6)) pc9 4 tl (ox_kl (m_Out_refile.2.2.1 pc9) (ox_xl x9 [.inr (.inr (0, 0, 0)), .inl (a1), .inl (a2), .inl (a3), ox_d, ox_d, ox_d, ox_d])) st9 σ9)) rfl ?_
  refine ox_R_call (fc := (fun r : (Nat ⊕ Unit) => (((Sum.elim (fun e : Nat => (.inr e : Option ox_V ⊕ Nat)) (fun v : Unit => .inl none) r), r19) : ox_O))) (L_Out_checkEntry a1 r19 (n + 4) tl) (fun r20 => ?_)
  rcases r20 with e26 | x21
  · refine ox_R_of (Y := some (.inr e26, r19)) rfl ?_
    exact ox_R_ret rfl
  · refine ox_R_of (Y := ox_ev m_Out_refile (ox_zz ox_ms (n + 6)) 12 4 tl [.inr (.inr (0, 0, 0)), .inl (a1), .inl (a2), .inl (a3), ox_d, ox_d, ox_d, ox_d] [] r19) rfl ?_
    refine ox_R_to 3 (Y := ox_back m_Out_refile 14 0 [] ((ox_zz ox_ms (n + 6)) 18 tl [.inr (.inr (0, 0, 0)), .inl (a2)] r19) (fun pc9 x9 st9 σ9 => ox_ev m_Out_refile (ox_zz ox_ms (n + 6)) pc9 3 tl (ox_kl (m_Out_refile.2.2.1 pc9) (ox_xl x9 [.inr (.inr (0, 0, 0)), .inl (a1), .inl (a2), .inl (a3), ox_d, ox_d, ox_d, ox_d])) st9 σ9)) rfl ?_
    refine ox_R_call (fc := (fun r : (Nat ⊕ Unit) => (((Sum.elim (fun e : Nat => (.inr e : Option ox_V ⊕ Nat)) (fun v : Unit => .inl none) r), r19) : ox_O))) (L_Out_checkEntry a2 r19 (n + 4) tl) (fun r22 => ?_)
    rcases r22 with e25 | x23
    · refine ox_R_of (Y := some (.inr e25, r19)) rfl ?_
      exact ox_R_ret rfl
    · refine ox_R_of (Y := ox_ev m_Out_refile (ox_zz ox_ms (n + 6)) 17 3 tl [.inr (.inr (0, 0, 0)), .inl (a1), .inl (a2), .inl (a3), ox_d, ox_d, ox_d, ox_d] [] r19) rfl ?_
      refine ox_R_to 3 (Y := if a2 < a1 then ox_ev m_Out_refile (ox_zz ox_ms (n + 6)) 46 3 tl [.inr (.inr (0, 0, 0)), .inl (a1), .inl (a2), .inl (a3), ox_d, ox_d, ox_d, ox_d] [] r19 else ox_ev m_Out_refile (ox_zz ox_ms (n + 6)) 22 3 tl [.inr (.inr (0, 0, 0)), .inl (a1), .inl (a2), .inl (a3), ox_d, ox_d, ox_d, ox_d] [] r19) rfl ?_
      refine ox_R_if (fun _ => ?_) (fun _ => ?_)
      · exact (L_Out_refile_46 a1 a2 a3 r19 n tl)
      · refine ox_R_to 6 (Y := ox_back m_Out_refile 29 3 [.inl (a1), .inl (a2)] ((ox_zz ox_ms (n + 6)) 182 tl [.inr (.inr (2, 0, 0)), .inl (a1)] r19) (fun pc9 x9 st9 σ9 => ox_ev m_Out_refile (ox_zz ox_ms (n + 6)) pc9 3 tl (ox_kl (m_Out_refile.2.2.1 pc9) (ox_xl x9 [.inr (.inr (0, 0, 0)), .inl (a1), .inl (a2), .inl (a3), ox_d, ox_d, ox_d, ox_d])) st9 σ9)) rfl ?_
        refine ox_R_call (fc := (fun r : Int => ((.inl (some (.inl r)), r19) : ox_O))) (L_Otl_below a1 r19 (n + 4) tl) (fun r24 => ?_)
        refine ox_R_of (Y := ox_ev m_Out_refile (ox_zz ox_ms (n + 6)) 32 3 tl [.inr (.inr (0, 0, 0)), .inl (a1), .inl (a2), .inl (a3), ox_d, ox_d, ox_d, ox_d] [.inl (r24), .inl (a1), .inl (a2)] r19) rfl ?_
        refine ox_R_to 2 (Y := if (ox_w (a1 + r24)) < a2 then ox_ev m_Out_refile (ox_zz ox_ms (n + 6)) 46 3 tl [.inr (.inr (0, 0, 0)), .inl (a1), .inl (a2), .inl (a3), ox_d, ox_d, ox_d, ox_d] [] r19 else ox_ev m_Out_refile (ox_zz ox_ms (n + 6)) 36 3 tl [.inr (.inr (0, 0, 0)), .inl (a1), .inl (a2), .inl (a3), ox_d, ox_d, ox_d, ox_d] [] r19) rfl ?_
        refine ox_R_if (fun _ => ?_) (fun _ => ?_)
        · exact (L_Out_refile_46 a1 a2 a3 r19 n tl)
        · refine ox_R_to 1 (Y := some (.inr 3, r19)) rfl ?_
          exact ox_R_ret rfl
def J_Otl_isOpen_20  (s0 : Int) (σ : ox_H) : Option Int := some (s0 % 2)
theorem L_Otl_isOpen_20  (s0 : Int) (σ : ox_H) (n tl : Nat) : ox_R (fun r => some ((fun r : Int => ((.inl (some (.inl r)), σ) : ox_O)) r)) (J_Otl_isOpen_20 s0 σ) (ox_ev m_Otl_isOpen (ox_zz ox_ms (n + 2)) 20 0 tl [ox_d, ox_d, ox_d] [.inl (s0)] σ) := by
  unfold J_Otl_isOpen_20
  refine ox_R_to 1 (Y := some (.inl (some (.inl (s0 % 2))), σ)) rfl ?_
  exact ox_R_ret rfl
def J_Otl_isOpen_15  (σ : ox_H) : Option Int := (J_Otl_isOpen_20 1 σ)
theorem L_Otl_isOpen_15  (σ : ox_H) (n tl : Nat) : ox_R (fun r => some ((fun r : Int => ((.inl (some (.inl r)), σ) : ox_O)) r)) (J_Otl_isOpen_15 σ) (ox_ev m_Otl_isOpen (ox_zz ox_ms (n + 2)) 15 0 tl [ox_d, ox_d, ox_d] [] σ) := by
  unfold J_Otl_isOpen_15
  refine ox_R_to 2 (Y := ox_ev m_Otl_isOpen (ox_zz ox_ms (n + 2)) 20 0 tl [ox_d, ox_d, ox_d] [.inl (1)] σ) rfl ?_
  exact (L_Otl_isOpen_20 1 σ n tl)
def F_Otl_isOpen  (a1 : Int) (σ : ox_H) : Option (Int) := (F_Otl_stateOf a1 σ).bind fun r1 => (if r1 = 0 then (J_Otl_isOpen_15 σ) else (if r1 = 1 then (J_Otl_isOpen_15 σ) else (J_Otl_isOpen_20 0 σ)))
theorem L_Otl_isOpen  (a1 : Int) (σ : ox_H) (n tl : Nat) : ox_R (fun r => some ((fun r : Int => ((.inl (some (.inl r)), σ) : ox_O)) r)) (F_Otl_isOpen a1 σ) (ox_zz ox_ms (n + 3) 179 tl [.inr (.inr (2, 0, 0)), .inl (a1)] σ) := by
  unfold F_Otl_isOpen
  refine ox_R_of (Y := ox_ev m_Otl_isOpen (ox_zz ox_ms (n + 2)) 0 0 tl [.inr (.inr (2, 0, 0)), .inl (a1), ox_d] [] σ) rfl ?_
  refine ox_R_to 3 (Y := ox_back m_Otl_isOpen 2 1 [] ((ox_zz ox_ms (n + 2)) 178 tl [.inr (.inr (2, 0, 0)), .inl (a1)] σ) (fun pc9 x9 st9 σ9 => ox_ev m_Otl_isOpen (ox_zz ox_ms (n + 2)) pc9 0 tl (ox_kl (m_Otl_isOpen.2.2.1 pc9) (ox_xl x9 [.inr (.inr (2, 0, 0)), .inl (a1), ox_d])) st9 σ9)) rfl ?_
  refine ox_R_call (fc := (fun r : Int => ((.inl (some (.inl r)), σ) : ox_O))) (L_Otl_stateOf a1 σ (n + 0) tl) (fun r1 => ?_)
  refine ox_R_of (Y := ox_ev m_Otl_isOpen (ox_zz ox_ms (n + 2)) 5 0 tl [.inr (.inr (2, 0, 0)), .inl (a1), ox_d] [.inl (r1)] σ) rfl ?_
  refine ox_R_to 3 (Y := if r1 = 0 then ox_ev m_Otl_isOpen (ox_zz ox_ms (n + 2)) 15 0 tl [ox_d, ox_d, ox_d] [] σ else ox_ev m_Otl_isOpen (ox_zz ox_ms (n + 2)) 10 0 tl [.inr (.inr (2, 0, 0)), .inl (a1), .inl (r1)] [] σ) rfl ?_
  refine ox_R_if (fun _ => ?_) (fun _ => ?_)
  · exact (L_Otl_isOpen_15 σ n tl)
  · refine ox_R_to 3 (Y := if r1 = 1 then ox_ev m_Otl_isOpen (ox_zz ox_ms (n + 2)) 15 0 tl [ox_d, ox_d, ox_d] [] σ else ox_ev m_Otl_isOpen (ox_zz ox_ms (n + 2)) 19 0 tl [.inr (.inr (2, 0, 0)), .inl (a1), .inl (r1)] [] σ) rfl ?_
    refine ox_R_if (fun _ => ?_) (fun _ => ?_)
    · exact (L_Otl_isOpen_15 σ n tl)
    · refine ox_R_to 1 (Y := ox_ev m_Otl_isOpen (ox_zz ox_ms (n + 2)) 20 0 tl [ox_d, ox_d, ox_d] [.inl (0)] σ) rfl ?_
      exact (L_Otl_isOpen_20 0 σ n tl)
def J_Otl_mayBeDone_90  (σ : ox_H) : Option Int := some 1
theorem L_Otl_mayBeDone_90  (σ : ox_H) (n tl : Nat) : ox_R (fun r => some ((fun r : Int => ((.inl (some (.inl r)), σ) : ox_O)) r)) (J_Otl_mayBeDone_90 σ) (ox_ev m_Otl_mayBeDone (ox_zz ox_ms (n + 3)) 90 0 tl [ox_d, ox_d, ox_d, ox_d, ox_d] [] σ) := by
  unfold J_Otl_mayBeDone_90
  refine ox_R_to 2 (Y := some (.inl (some (.inl (1))), σ)) rfl ?_
  exact ox_R_ret rfl
def J_Otl_mayBeDone_84  (v1 : Int) (v3 : Int) (v4 : Int) (σ : ox_H) : Option (((Int) ⊕ Int)) := some (.inl (ox_w (v4 + 1)))
theorem L_Otl_mayBeDone_84  (v1 : Int) (v3 : Int) (v4 : Int) (σ : ox_H) (n tl : Nat) : ox_R (Sum.elim (fun (v4 : Int) => ox_ev m_Otl_mayBeDone (ox_zz ox_ms (n + 3)) 57 0 tl [.inr (.inr (2, 0, 0)), .inl (v1), ox_d, .inl (v3), .inl (v4)] [] σ) (fun r => some ((fun r : Int => ((.inl (some (.inl r)), σ) : ox_O)) r))) (J_Otl_mayBeDone_84 v1 v3 v4 σ) (ox_ev m_Otl_mayBeDone (ox_zz ox_ms (n + 3)) 84 0 tl [.inr (.inr (2, 0, 0)), .inl (v1), ox_d, .inl (v3), .inl (v4)] [] σ) := by
  unfold J_Otl_mayBeDone_84
  refine ox_R_to 2 (Y := ox_ev m_Otl_mayBeDone (ox_zz ox_ms (n + 3)) 57 0 tl [.inr (.inr (2, 0, 0)), .inl (v1), ox_d, .inl (v3), .inl (ox_w (v4 + 1))] [] σ) rfl ?_
  exact ox_R_ret rfl
def J_Otl_mayBeDone_82  (σ : ox_H) : Option Int := some 0
theorem L_Otl_mayBeDone_82  (σ : ox_H) (n tl : Nat) : ox_R (fun r => some ((fun r : Int => ((.inl (some (.inl r)), σ) : ox_O)) r)) (J_Otl_mayBeDone_82 σ) (ox_ev m_Otl_mayBeDone (ox_zz ox_ms (n + 3)) 82 0 tl [ox_d, ox_d, ox_d, ox_d, ox_d] [] σ) := by
  unfold J_Otl_mayBeDone_82
  refine ox_R_to 2 (Y := some (.inl (some (.inl (0))), σ)) rfl ?_
  exact ox_R_ret rfl
def B_Otl_mayBeDone_57  (v1 : Int) (v3 : Int) (σ : ox_H) : (Int) → Option (((Int) ⊕ Int)) := fun v4 => if v1 ≤ v4 then ((J_Otl_mayBeDone_90 σ).map .inr) else ((F_Otl_parentOf v4 σ).bind fun r1 => (if r1 = v3 then ((F_Otl_isOpen v4 σ).bind fun r2 => (if r2 = 0 then (J_Otl_mayBeDone_84 v1 v3 v4 σ) else ((J_Otl_mayBeDone_82 σ).map .inr))) else (J_Otl_mayBeDone_84 v1 v3 v4 σ)))
def J_Otl_mayBeDone_57  (v1 : Int) (v3 : Int) (v4 : Int) (σ : ox_H) : Option (Int) := ox_lp (B_Otl_mayBeDone_57 v1 v3 σ) ox_fu v4
theorem L_Otl_mayBeDone_57  (v1 : Int) (v3 : Int) (v4 : Int) (σ : ox_H) (n tl : Nat) : ox_R (fun r => some ((fun r : Int => ((.inl (some (.inl r)), σ) : ox_O)) r)) (J_Otl_mayBeDone_57 v1 v3 v4 σ) (ox_ev m_Otl_mayBeDone (ox_zz ox_ms (n + 3)) 57 0 tl [.inr (.inr (2, 0, 0)), .inl (v1), ox_d, .inl (v3), .inl (v4)] [] σ) := by
  unfold J_Otl_mayBeDone_57
  refine ox_R_lp (ψ := (fun (v4 : Int) => ox_ev m_Otl_mayBeDone (ox_zz ox_ms (n + 3)) 57 0 tl [.inr (.inr (2, 0, 0)), .inl (v1), ox_d, .inl (v3), .inl (v4)] [] σ)) ?_ ox_fu v4
  intro s
  revert s; intro v4
  unfold B_Otl_mayBeDone_57
  refine ox_R_to 3 (Y := if v1 ≤ v4 then ox_ev m_Otl_mayBeDone (ox_zz ox_ms (n + 3)) 90 0 tl [ox_d, ox_d, ox_d, ox_d, ox_d] [] σ else ox_ev m_Otl_mayBeDone (ox_zz ox_ms (n + 3)) 63 0 tl [.inr (.inr (2, 0, 0)), .inl (v1), ox_d, .inl (v3), .inl (v4)] [] σ) rfl ?_
  refine ox_R_if (fun _ => ?_) (fun _ => ?_)
  · exact ox_R_map ((L_Otl_mayBeDone_90 σ n tl))
  · refine ox_R_to 3 (Y := ox_back m_Otl_mayBeDone 66 1 [] ((ox_zz ox_ms (n + 3)) 175 tl [.inr (.inr (2, 0, 0)), .inl (v4)] σ) (fun pc9 x9 st9 σ9 => ox_ev m_Otl_mayBeDone (ox_zz ox_ms (n + 3)) pc9 0 tl (ox_kl (m_Otl_mayBeDone.2.2.1 pc9) (ox_xl x9 [.inr (.inr (2, 0, 0)), .inl (v1), ox_d, .inl (v3), .inl (v4)])) st9 σ9)) rfl ?_
    refine ox_R_call (fc := (fun r : Int => ((.inl (some (.inl r)), σ) : ox_O))) (L_Otl_parentOf v4 σ (n + 2) tl) (fun r1 => ?_)
    refine ox_R_of (Y := ox_ev m_Otl_mayBeDone (ox_zz ox_ms (n + 3)) 69 0 tl [.inr (.inr (2, 0, 0)), .inl (v1), ox_d, .inl (v3), .inl (v4)] [.inl (r1)] σ) rfl ?_
    refine ox_R_to 2 (Y := if r1 = v3 then ox_ev m_Otl_mayBeDone (ox_zz ox_ms (n + 3)) 73 0 tl [.inr (.inr (2, 0, 0)), .inl (v1), ox_d, .inl (v3), .inl (v4)] [] σ else ox_ev m_Otl_mayBeDone (ox_zz ox_ms (n + 3)) 84 0 tl [.inr (.inr (2, 0, 0)), .inl (v1), ox_d, .inl (v3), .inl (v4)] [] σ) rfl ?_
    refine ox_R_if (fun _ => ?_) (fun _ => ?_)
    · refine ox_R_to 3 (Y := ox_back m_Otl_mayBeDone 76 1 [] ((ox_zz ox_ms (n + 3)) 179 tl [.inr (.inr (2, 0, 0)), .inl (v4)] σ) (fun pc9 x9 st9 σ9 => ox_ev m_Otl_mayBeDone (ox_zz ox_ms (n + 3)) pc9 0 tl (ox_kl (m_Otl_mayBeDone.2.2.1 pc9) (ox_xl x9 [.inr (.inr (2, 0, 0)), .inl (v1), ox_d, .inl (v3), .inl (v4)])) st9 σ9)) rfl ?_
      refine ox_R_call (fc := (fun r : Int => ((.inl (some (.inl r)), σ) : ox_O))) (L_Otl_isOpen v4 σ (n + 0) tl) (fun r2 => ?_)
      refine ox_R_of (Y := ox_ev m_Otl_mayBeDone (ox_zz ox_ms (n + 3)) 79 0 tl [.inr (.inr (2, 0, 0)), .inl (v1), ox_d, .inl (v3), .inl (v4)] [.inl (r2)] σ) rfl ?_
      refine ox_R_to 1 (Y := if r2 = 0 then ox_ev m_Otl_mayBeDone (ox_zz ox_ms (n + 3)) 84 0 tl [.inr (.inr (2, 0, 0)), .inl (v1), ox_d, .inl (v3), .inl (v4)] [] σ else ox_ev m_Otl_mayBeDone (ox_zz ox_ms (n + 3)) 82 0 tl [ox_d, ox_d, ox_d, ox_d, ox_d] [] σ) rfl ?_
      refine ox_R_if (fun _ => ?_) (fun _ => ?_)
      · exact (L_Otl_mayBeDone_84 v1 v3 v4 σ n tl)
      · exact ox_R_map ((L_Otl_mayBeDone_82 σ n tl))
    · exact (L_Otl_mayBeDone_84 v1 v3 v4 σ n tl)
def J_Otl_mayBeDone_33  (v1 : Int) (σ : ox_H) : Option Int := (F_Otl_parentOf v1 σ).bind fun r3 => ((F_Otl_inherited r3 14 σ).bind fun r4 => (if r4 = 1 then (J_Otl_mayBeDone_57 v1 r3 (ox_w (r3 + 1)) σ) else (some 1)))
theorem L_Otl_mayBeDone_33  (v1 : Int) (σ : ox_H) (n tl : Nat) : ox_R (fun r => some ((fun r : Int => ((.inl (some (.inl r)), σ) : ox_O)) r)) (J_Otl_mayBeDone_33 v1 σ) (ox_ev m_Otl_mayBeDone (ox_zz ox_ms (n + 3)) 33 0 tl [.inr (.inr (2, 0, 0)), .inl (v1), ox_d, ox_d, ox_d] [] σ) := by
  unfold J_Otl_mayBeDone_33
  refine ox_R_to 3 (Y := ox_back m_Otl_mayBeDone 35 1 [] ((ox_zz ox_ms (n + 3)) 175 tl [.inr (.inr (2, 0, 0)), .inl (v1)] σ) (fun pc9 x9 st9 σ9 => ox_ev m_Otl_mayBeDone (ox_zz ox_ms (n + 3)) pc9 0 tl (ox_kl (m_Otl_mayBeDone.2.2.1 pc9) (ox_xl x9 [.inr (.inr (2, 0, 0)), .inl (v1), ox_d, ox_d, ox_d])) st9 σ9)) rfl ?_
  refine ox_R_call (fc := (fun r : Int => ((.inl (some (.inl r)), σ) : ox_O))) (L_Otl_parentOf v1 σ (n + 2) tl) (fun r3 => ?_)
  refine ox_R_of (Y := ox_ev m_Otl_mayBeDone (ox_zz ox_ms (n + 3)) 38 0 tl [.inr (.inr (2, 0, 0)), .inl (v1), ox_d, ox_d, ox_d] [.inl (r3)] σ) rfl ?_
  refine ox_R_to 5 (Y := ox_back m_Otl_mayBeDone 43 1 [] ((ox_zz ox_ms (n + 3)) 188 tl [.inr (.inr (2, 0, 0)), .inl (r3), .inl (14)] σ) (fun pc9 x9 st9 σ9 => ox_ev m_Otl_mayBeDone (ox_zz ox_ms (n + 3)) pc9 0 tl (ox_kl (m_Otl_mayBeDone.2.2.1 pc9) (ox_xl x9 [.inr (.inr (2, 0, 0)), .inl (v1), ox_d, .inl (r3), ox_d])) st9 σ9)) rfl ?_
  refine ox_R_call (fc := (fun r : Int => ((.inl (some (.inl r)), σ) : ox_O))) (L_Otl_inherited r3 14 σ (n + 0) tl) (fun r4 => ?_)
  refine ox_R_of (Y := ox_ev m_Otl_mayBeDone (ox_zz ox_ms (n + 3)) 46 0 tl [.inr (.inr (2, 0, 0)), .inl (v1), ox_d, .inl (r3), ox_d] [.inl (r4)] σ) rfl ?_
  refine ox_R_to 2 (Y := if r4 = 1 then ox_ev m_Otl_mayBeDone (ox_zz ox_ms (n + 3)) 52 0 tl [.inr (.inr (2, 0, 0)), .inl (v1), ox_d, .inl (r3), ox_d] [] σ else ox_ev m_Otl_mayBeDone (ox_zz ox_ms (n + 3)) 50 0 tl [.inr (.inr (2, 0, 0)), .inl (v1), ox_d, .inl (r3), ox_d] [] σ) rfl ?_
  refine ox_R_if (fun _ => ?_) (fun _ => ?_)
  · refine ox_R_to 4 (Y := ox_ev m_Otl_mayBeDone (ox_zz ox_ms (n + 3)) 57 0 tl [.inr (.inr (2, 0, 0)), .inl (v1), ox_d, .inl (r3), .inl (ox_w (r3 + 1))] [] σ) rfl ?_
    exact (L_Otl_mayBeDone_57 v1 r3 (ox_w (r3 + 1)) σ n tl)
  · refine ox_R_to 2 (Y := some (.inl (some (.inl (1))), σ)) rfl ?_
    exact ox_R_ret rfl
def J_Otl_mayBeDone_25  (σ : ox_H) : Option Int := some 0
theorem L_Otl_mayBeDone_25  (σ : ox_H) (n tl : Nat) : ox_R (fun r => some ((fun r : Int => ((.inl (some (.inl r)), σ) : ox_O)) r)) (J_Otl_mayBeDone_25 σ) (ox_ev m_Otl_mayBeDone (ox_zz ox_ms (n + 3)) 25 0 tl [ox_d, ox_d, ox_d, ox_d, ox_d] [] σ) := by
  unfold J_Otl_mayBeDone_25
  refine ox_R_to 2 (Y := some (.inl (some (.inl (0))), σ)) rfl ?_
  exact ox_R_ret rfl
def B_Otl_mayBeDone_12  (v1 : Int) (v2 : Int) (σ : ox_H) : (Int) → Option (((Int) ⊕ Int)) := fun v3 => if v2 < v3 then ((J_Otl_mayBeDone_33 v1 σ).map .inr) else ((F_Otl_isOpen v3 σ).bind fun r5 => (if r5 = 0 then (some (.inl (ox_w (v3 + 1)))) else ((J_Otl_mayBeDone_25 σ).map .inr)))
def J_Otl_mayBeDone_12  (v1 : Int) (v2 : Int) (v3 : Int) (σ : ox_H) : Option (Int) := ox_lp (B_Otl_mayBeDone_12 v1 v2 σ) ox_fu v3
theorem L_Otl_mayBeDone_12  (v1 : Int) (v2 : Int) (v3 : Int) (σ : ox_H) (n tl : Nat) : ox_R (fun r => some ((fun r : Int => ((.inl (some (.inl r)), σ) : ox_O)) r)) (J_Otl_mayBeDone_12 v1 v2 v3 σ) (ox_ev m_Otl_mayBeDone (ox_zz ox_ms (n + 3)) 12 0 tl [.inr (.inr (2, 0, 0)), .inl (v1), .inl (v2), .inl (v3), ox_d] [] σ) := by
  unfold J_Otl_mayBeDone_12
  refine ox_R_lp (ψ := (fun (v3 : Int) => ox_ev m_Otl_mayBeDone (ox_zz ox_ms (n + 3)) 12 0 tl [.inr (.inr (2, 0, 0)), .inl (v1), .inl (v2), .inl (v3), ox_d] [] σ)) ?_ ox_fu v3
  intro s
  revert s; intro v3
  unfold B_Otl_mayBeDone_12
  refine ox_R_to 3 (Y := if v2 < v3 then ox_ev m_Otl_mayBeDone (ox_zz ox_ms (n + 3)) 33 0 tl [.inr (.inr (2, 0, 0)), .inl (v1), ox_d, ox_d, ox_d] [] σ else ox_ev m_Otl_mayBeDone (ox_zz ox_ms (n + 3)) 17 0 tl [.inr (.inr (2, 0, 0)), .inl (v1), .inl (v2), .inl (v3), ox_d] [] σ) rfl ?_
  refine ox_R_if (fun _ => ?_) (fun _ => ?_)
  · exact ox_R_map ((L_Otl_mayBeDone_33 v1 σ n tl))
  · refine ox_R_to 3 (Y := ox_back m_Otl_mayBeDone 19 1 [] ((ox_zz ox_ms (n + 3)) 179 tl [.inr (.inr (2, 0, 0)), .inl (v3)] σ) (fun pc9 x9 st9 σ9 => ox_ev m_Otl_mayBeDone (ox_zz ox_ms (n + 3)) pc9 0 tl (ox_kl (m_Otl_mayBeDone.2.2.1 pc9) (ox_xl x9 [.inr (.inr (2, 0, 0)), .inl (v1), .inl (v2), .inl (v3), ox_d])) st9 σ9)) rfl ?_
    refine ox_R_call (fc := (fun r : Int => ((.inl (some (.inl r)), σ) : ox_O))) (L_Otl_isOpen v3 σ (n + 0) tl) (fun r5 => ?_)
    refine ox_R_of (Y := ox_ev m_Otl_mayBeDone (ox_zz ox_ms (n + 3)) 22 0 tl [.inr (.inr (2, 0, 0)), .inl (v1), .inl (v2), .inl (v3), ox_d] [.inl (r5)] σ) rfl ?_
    refine ox_R_to 1 (Y := if r5 = 0 then ox_ev m_Otl_mayBeDone (ox_zz ox_ms (n + 3)) 27 0 tl [.inr (.inr (2, 0, 0)), .inl (v1), .inl (v2), .inl (v3), ox_d] [] σ else ox_ev m_Otl_mayBeDone (ox_zz ox_ms (n + 3)) 25 0 tl [ox_d, ox_d, ox_d, ox_d, ox_d] [] σ) rfl ?_
    refine ox_R_if (fun _ => ?_) (fun _ => ?_)
    · refine ox_R_to 2 (Y := ox_ev m_Otl_mayBeDone (ox_zz ox_ms (n + 3)) 12 0 tl [.inr (.inr (2, 0, 0)), .inl (v1), .inl (v2), .inl (ox_w (v3 + 1)), ox_d] [] σ) rfl ?_
      exact ox_R_ret rfl
    · exact ox_R_map ((L_Otl_mayBeDone_25 σ n tl))
def F_Otl_mayBeDone  (a1 : Int) (σ : ox_H) : Option (Int) := (F_Otl_below a1 σ).bind fun r6 => (J_Otl_mayBeDone_12 a1 (ox_w (a1 + r6)) (ox_w (a1 + 1)) σ)
theorem L_Otl_mayBeDone  (a1 : Int) (σ : ox_H) (n tl : Nat) : ox_R (fun r => some ((fun r : Int => ((.inl (some (.inl r)), σ) : ox_O)) r)) (F_Otl_mayBeDone a1 σ) (ox_zz ox_ms (n + 4) 192 tl [.inr (.inr (2, 0, 0)), .inl (a1)] σ) := by
  unfold F_Otl_mayBeDone
  refine ox_R_of (Y := ox_ev m_Otl_mayBeDone (ox_zz ox_ms (n + 3)) 0 0 tl [.inr (.inr (2, 0, 0)), .inl (a1), ox_d, ox_d, ox_d] [] σ) rfl ?_
  refine ox_R_to 4 (Y := ox_back m_Otl_mayBeDone 3 1 [.inl (a1)] ((ox_zz ox_ms (n + 3)) 182 tl [.inr (.inr (2, 0, 0)), .inl (a1)] σ) (fun pc9 x9 st9 σ9 => ox_ev m_Otl_mayBeDone (ox_zz ox_ms (n + 3)) pc9 0 tl (ox_kl (m_Otl_mayBeDone.2.2.1 pc9) (ox_xl x9 [.inr (.inr (2, 0, 0)), .inl (a1), ox_d, ox_d, ox_d])) st9 σ9)) rfl ?_
  refine ox_R_call (fc := (fun r : Int => ((.inl (some (.inl r)), σ) : ox_O))) (L_Otl_below a1 σ (n + 1) tl) (fun r6 => ?_)
  refine ox_R_of (Y := ox_ev m_Otl_mayBeDone (ox_zz ox_ms (n + 3)) 6 0 tl [.inr (.inr (2, 0, 0)), .inl (a1), ox_d, ox_d, ox_d] [.inl (r6), .inl (a1)] σ) rfl ?_
  refine ox_R_to 6 (Y := ox_ev m_Otl_mayBeDone (ox_zz ox_ms (n + 3)) 12 0 tl [.inr (.inr (2, 0, 0)), .inl (a1), .inl (ox_w (a1 + r6)), .inl (ox_w (a1 + 1)), ox_d] [] σ) rfl ?_
  exact (L_Otl_mayBeDone_12 a1 (ox_w (a1 + r6)) (ox_w (a1 + 1)) σ n tl)
def J_Out_putState_130  (σ : ox_H) : Option ((Nat ⊕ Unit) × ox_H) := some (.inr (), σ)
theorem L_Out_putState_130  (σ : ox_H) (n tl : Nat) : ox_R (fun r => some ((fun r : (Nat ⊕ Unit) × ox_H => (((Sum.elim (fun e : Nat => (.inr e : Option ox_V ⊕ Nat)) (fun v : Unit => .inl none) r.1), r.2) : ox_O)) r)) (J_Out_putState_130 σ) (ox_ev m_Out_putState (ox_zz ox_ms (n + 2)) 130 1 tl [ox_d, ox_d, ox_d, ox_d, ox_d, ox_d, ox_d, ox_d] [] σ) := by
  unfold J_Out_putState_130
  refine ox_R_to 1 (Y := some (.inl none, σ)) rfl ?_
  exact ox_R_ret rfl
def B_Out_putState_94  (v3 : Int) (v5 : Nat) (v6 : Int) : (Int × ox_H) → Option (((Int × ox_H) ⊕ (Nat ⊕ Unit) × ox_H)) := fun (v7, σ) => if (ox_sl v5 : Nat) ≤ v7 then ((J_Out_putState_130 σ).map .inr) else (if 0 ≤ v7 ∧ v7.toNat < ox_sl v5 then ((F_Lin_putIn 0 v3 (ox_w (v6 + v7)) (ox_sa v5 v7.toNat) σ).bind fun r1 => (some (.inl (ox_w (v7 + 1), r1)))) else none)
def J_Out_putState_94  (v3 : Int) (v5 : Nat) (v6 : Int) (v7 : Int) (σ : ox_H) : Option ((Nat ⊕ Unit) × ox_H) := ox_lp (B_Out_putState_94 v3 v5 v6) ox_fu (v7, σ)
theorem L_Out_putState_94  (v3 : Int) (v5 : Nat) (v6 : Int) (v7 : Int) (σ : ox_H) (n tl : Nat) : ox_R (fun r => some ((fun r : (Nat ⊕ Unit) × ox_H => (((Sum.elim (fun e : Nat => (.inr e : Option ox_V ⊕ Nat)) (fun v : Unit => .inl none) r.1), r.2) : ox_O)) r)) (J_Out_putState_94 v3 v5 v6 v7 σ) (ox_ev m_Out_putState (ox_zz ox_ms (n + 2)) 94 1 tl [.inr (.inr (0, 0, 0)), ox_d, ox_d, .inl (v3), ox_d, .inr (.inr (200, v5, 0)), .inl (v6), .inl (v7)] [] σ) := by
  unfold J_Out_putState_94
  refine ox_R_lp (ψ := (fun (s : Int × ox_H) => match s with | (v7, σ) => ox_ev m_Out_putState (ox_zz ox_ms (n + 2)) 94 1 tl [.inr (.inr (0, 0, 0)), ox_d, ox_d, .inl (v3), ox_d, .inr (.inr (200, v5, 0)), .inl (v6), .inl (v7)] [] σ)) ?_ ox_fu (v7, σ)
  intro s
  obtain ⟨v7, σ⟩ := s
  unfold B_Out_putState_94
  refine ox_R_to 4 (Y := if (ox_sl v5 : Nat) ≤ v7 then ox_ev m_Out_putState (ox_zz ox_ms (n + 2)) 130 1 tl [ox_d, ox_d, ox_d, ox_d, ox_d, ox_d, ox_d, ox_d] [] σ else ox_ev m_Out_putState (ox_zz ox_ms (n + 2)) 104 1 tl [.inr (.inr (0, 0, 0)), ox_d, ox_d, .inl (v3), ox_d, .inr (.inr (200, v5, 0)), .inl (v6), .inl (v7)] [] σ) rfl ?_
  refine ox_R_if (fun _ => ?_) (fun _ => ?_)
  · exact ox_R_map ((L_Out_putState_130 σ n tl))
  · refine ox_R_to 9 (Y := if 0 ≤ v7 ∧ v7.toNat < ox_sl v5 then ox_ev m_Out_putState (ox_zz ox_ms (n + 2)) 121 1 tl [.inr (.inr (0, 0, 0)), ox_d, ox_d, .inl (v3), ox_d, .inr (.inr (200, v5, 0)), .inl (v6), .inl (v7)] [.inl (ox_sa v5 v7.toNat), .inl (ox_w (v6 + v7)), .inl (v3), .inr (.inr (1, 0, 0))] σ else none) rfl ?_
    refine ox_R_if (fun _ => ?_) (fun _ => ox_R_none)
    refine ox_R_to 1 (Y := ox_back m_Out_putState 121 2 [] ((ox_zz ox_ms (n + 2)) 167 tl [.inr (.inr (1, 0, 0)), .inl (v3), .inl (ox_w (v6 + v7)), .inl (ox_sa v5 v7.toNat)] σ) (fun pc9 x9 st9 σ9 => ox_ev m_Out_putState (ox_zz ox_ms (n + 2)) pc9 1 tl (ox_kl (m_Out_putState.2.2.1 pc9) (ox_xl x9 [.inr (.inr (0, 0, 0)), ox_d, ox_d, .inl (v3), ox_d, .inr (.inr (200, v5, 0)), .inl (v6), .inl (v7)])) st9 σ9)) rfl ?_
    refine ox_R_call (fc := (fun r : ox_H => ((.inl none, r) : ox_O))) (L_Lin_putIn 0 v3 (ox_w (v6 + v7)) (ox_sa v5 v7.toNat) σ (n + 1) tl) (fun r1 => ?_)
    refine ox_R_of (Y := ox_ev m_Out_putState (ox_zz ox_ms (n + 2)) 124 1 tl [.inr (.inr (0, 0, 0)), ox_d, ox_d, .inl (v3), ox_d, .inr (.inr (200, v5, 0)), .inl (v6), .inl (v7)] [] r1) rfl ?_
    refine ox_R_to 2 (Y := ox_ev m_Out_putState (ox_zz ox_ms (n + 2)) 94 1 tl [.inr (.inr (0, 0, 0)), ox_d, ox_d, .inl (v3), ox_d, .inr (.inr (200, v5, 0)), .inl (v6), .inl (ox_w (v7 + 1))] [] r1) rfl ?_
    exact ox_R_ret rfl
def J_Out_putState_26  (v1 : Int) (v2 : Int) (v3 : Int) (s0 : Int) (σ : ox_H) : Option ((Nat ⊕ Unit) × ox_H) := (F_Out_stateWord v2 σ).bind fun r2 => ((F_Lin_size 0 v3 σ).bind fun r3 => (if (ox_w ((ox_w (r3 - s0)) + (ox_sl r2 : Nat))) ≤ 24 then ((F_Otl_levelOf v1 σ).bind fun r4 => ((F_Lin_takeOut 0 v3 (ox_w (r4 + 1)) s0 σ).bind fun r5 => (J_Out_putState_94 v3 r2 (ox_w (r4 + 1)) 0 r5))) else (some (.inl 3, σ))))
theorem L_Out_putState_26  (v1 : Int) (v2 : Int) (v3 : Int) (s0 : Int) (σ : ox_H) (n tl : Nat) : ox_R (fun r => some ((fun r : (Nat ⊕ Unit) × ox_H => (((Sum.elim (fun e : Nat => (.inr e : Option ox_V ⊕ Nat)) (fun v : Unit => .inl none) r.1), r.2) : ox_O)) r)) (J_Out_putState_26 v1 v2 v3 s0 σ) (ox_ev m_Out_putState (ox_zz ox_ms (n + 2)) 26 1 tl [.inr (.inr (0, 0, 0)), .inl (v1), .inl (v2), .inl (v3), ox_d, ox_d, ox_d, ox_d] [.inl (s0)] σ) := by
  unfold J_Out_putState_26
  refine ox_R_to 3 (Y := ox_back m_Out_putState 29 1 [] ((ox_zz ox_ms (n + 2)) 25 tl [.inl (v2)] σ) (fun pc9 x9 st9 σ9 => ox_ev m_Out_putState (ox_zz ox_ms (n + 2)) pc9 1 tl (ox_kl (m_Out_putState.2.2.1 pc9) (ox_xl x9 [.inr (.inr (0, 0, 0)), .inl (v1), .inl (v2), .inl (v3), .inl (s0), ox_d, ox_d, ox_d])) st9 σ9)) rfl ?_
  refine ox_R_call (fc := (fun r : Nat => ((.inl (some (.inr (.inr (200, r, 0)))), σ) : ox_O))) (L_Out_stateWord v2 σ (n + 1) tl) (fun r2 => ?_)
  refine ox_R_of (Y := ox_ev m_Out_putState (ox_zz ox_ms (n + 2)) 32 1 tl [.inr (.inr (0, 0, 0)), .inl (v1), .inl (v2), .inl (v3), .inl (s0), ox_d, ox_d, ox_d] [.inr (.inr (200, r2, 0))] σ) rfl ?_
  refine ox_R_to 5 (Y := ox_back m_Out_putState 39 3 [] ((ox_zz ox_ms (n + 2)) 156 tl [.inr (.inr (1, 0, 0)), .inl (v3)] σ) (fun pc9 x9 st9 σ9 => ox_ev m_Out_putState (ox_zz ox_ms (n + 2)) pc9 1 tl (ox_kl (m_Out_putState.2.2.1 pc9) (ox_xl x9 [.inr (.inr (0, 0, 0)), .inl (v1), .inl (v2), .inl (v3), .inl (s0), .inr (.inr (200, r2, 0)), ox_d, ox_d])) st9 σ9)) rfl ?_
  refine ox_R_call (fc := (fun r : Int => ((.inl (some (.inl r)), σ) : ox_O))) (L_Lin_size 0 v3 σ (n + 1) tl) (fun r3 => ?_)
  refine ox_R_of (Y := ox_ev m_Out_putState (ox_zz ox_ms (n + 2)) 42 1 tl [.inr (.inr (0, 0, 0)), .inl (v1), .inl (v2), .inl (v3), .inl (s0), .inr (.inr (200, r2, 0)), ox_d, ox_d] [.inl (r3)] σ) rfl ?_
  refine ox_R_to 7 (Y := if (ox_w ((ox_w (r3 - s0)) + (ox_sl r2 : Nat))) ≤ 24 then ox_ev m_Out_putState (ox_zz ox_ms (n + 2)) 67 1 tl [.inr (.inr (0, 0, 0)), .inl (v1), .inl (v2), .inl (v3), .inl (s0), .inr (.inr (200, r2, 0)), ox_d, ox_d] [] σ else ox_ev m_Out_putState (ox_zz ox_ms (n + 2)) 56 1 tl [.inr (.inr (0, 0, 0)), .inl (v1), .inl (v2), .inl (v3), .inl (s0), .inr (.inr (200, r2, 0)), ox_d, ox_d] [] σ) rfl ?_
  refine ox_R_if (fun _ => ?_) (fun _ => ?_)
  · refine ox_R_to 4 (Y := ox_back m_Out_putState 72 3 [] ((ox_zz ox_ms (n + 2)) 177 tl [.inr (.inr (2, 0, 0)), .inl (v1)] σ) (fun pc9 x9 st9 σ9 => ox_ev m_Out_putState (ox_zz ox_ms (n + 2)) pc9 1 tl (ox_kl (m_Out_putState.2.2.1 pc9) (ox_xl x9 [.inr (.inr (0, 0, 0)), .inl (v1), .inl (v2), .inl (v3), .inl (s0), .inr (.inr (200, r2, 0)), ox_d, ox_d])) st9 σ9)) rfl ?_
    refine ox_R_call (fc := (fun r : Int => ((.inl (some (.inl r)), σ) : ox_O))) (L_Otl_levelOf v1 σ (n + 1) tl) (fun r4 => ?_)
    refine ox_R_of (Y := ox_ev m_Out_putState (ox_zz ox_ms (n + 2)) 75 1 tl [.inr (.inr (0, 0, 0)), .inl (v1), .inl (v2), .inl (v3), .inl (s0), .inr (.inr (200, r2, 0)), ox_d, ox_d] [.inl (r4)] σ) rfl ?_
    refine ox_R_to 9 (Y := ox_back m_Out_putState 88 2 [] ((ox_zz ox_ms (n + 2)) 168 tl [.inr (.inr (1, 0, 0)), .inl (v3), .inl (ox_w (r4 + 1)), .inl (s0)] σ) (fun pc9 x9 st9 σ9 => ox_ev m_Out_putState (ox_zz ox_ms (n + 2)) pc9 1 tl (ox_kl (m_Out_putState.2.2.1 pc9) (ox_xl x9 [.inr (.inr (0, 0, 0)), .inl (v1), .inl (v2), .inl (v3), .inl (s0), .inr (.inr (200, r2, 0)), .inl (ox_w (r4 + 1)), ox_d])) st9 σ9)) rfl ?_
    refine ox_R_call (fc := (fun r : ox_H => ((.inl none, r) : ox_O))) (L_Lin_takeOut 0 v3 (ox_w (r4 + 1)) s0 σ (n + 1) tl) (fun r5 => ?_)
    refine ox_R_of (Y := ox_ev m_Out_putState (ox_zz ox_ms (n + 2)) 91 1 tl [.inr (.inr (0, 0, 0)), .inl (v1), .inl (v2), .inl (v3), .inl (s0), .inr (.inr (200, r2, 0)), .inl (ox_w (r4 + 1)), ox_d] [] r5) rfl ?_
    refine ox_R_to 2 (Y := ox_ev m_Out_putState (ox_zz ox_ms (n + 2)) 94 1 tl [.inr (.inr (0, 0, 0)), ox_d, ox_d, .inl (v3), ox_d, .inr (.inr (200, r2, 0)), .inl (ox_w (r4 + 1)), .inl (0)] [] r5) rfl ?_
    exact (L_Out_putState_94 v3 r2 (ox_w (r4 + 1)) 0 r5 n tl)
  · refine ox_R_to 1 (Y := some (.inr 3, σ)) rfl ?_
    exact ox_R_ret rfl
def F_Out_putState  (a1 : Int) (a2 : Int) (σ : ox_H) : Option ((Nat ⊕ Unit) × ox_H) := (F_Otl_lineOf a1 σ).bind fun r6 => ((F_Otl_stateOf a1 σ).bind fun r7 => (if r7 = (-1) then (J_Out_putState_26 a1 a2 r6 0 σ) else (J_Out_putState_26 a1 a2 r6 5 σ)))
theorem L_Out_putState  (a1 : Int) (a2 : Int) (σ : ox_H) (n tl : Nat) : ox_R (fun r => some ((fun r : (Nat ⊕ Unit) × ox_H => (((Sum.elim (fun e : Nat => (.inr e : Option ox_V ⊕ Nat)) (fun v : Unit => .inl none) r.1), r.2) : ox_O)) r)) (F_Out_putState a1 a2 σ) (ox_zz ox_ms (n + 3) 23 tl [.inr (.inr (0, 0, 0)), .inl (a1), .inl (a2)] σ) := by
  unfold F_Out_putState
  refine ox_R_of (Y := ox_ev m_Out_putState (ox_zz ox_ms (n + 2)) 0 1 tl [.inr (.inr (0, 0, 0)), .inl (a1), .inl (a2), ox_d, ox_d, ox_d, ox_d, ox_d] [] σ) rfl ?_
  refine ox_R_to 4 (Y := ox_back m_Out_putState 5 3 [] ((ox_zz ox_ms (n + 2)) 174 tl [.inr (.inr (2, 0, 0)), .inl (a1)] σ) (fun pc9 x9 st9 σ9 => ox_ev m_Out_putState (ox_zz ox_ms (n + 2)) pc9 1 tl (ox_kl (m_Out_putState.2.2.1 pc9) (ox_xl x9 [.inr (.inr (0, 0, 0)), .inl (a1), .inl (a2), ox_d, ox_d, ox_d, ox_d, ox_d])) st9 σ9)) rfl ?_
  refine ox_R_call (fc := (fun r : Int => ((.inl (some (.inl r)), σ) : ox_O))) (L_Otl_lineOf a1 σ (n + 1) tl) (fun r6 => ?_)
  refine ox_R_of (Y := ox_ev m_Out_putState (ox_zz ox_ms (n + 2)) 8 1 tl [.inr (.inr (0, 0, 0)), .inl (a1), .inl (a2), ox_d, ox_d, ox_d, ox_d, ox_d] [.inl (r6)] σ) rfl ?_
  refine ox_R_to 5 (Y := ox_back m_Out_putState 14 3 [] ((ox_zz ox_ms (n + 2)) 178 tl [.inr (.inr (2, 0, 0)), .inl (a1)] σ) (fun pc9 x9 st9 σ9 => ox_ev m_Out_putState (ox_zz ox_ms (n + 2)) pc9 1 tl (ox_kl (m_Out_putState.2.2.1 pc9) (ox_xl x9 [.inr (.inr (0, 0, 0)), .inl (a1), .inl (a2), .inl (r6), ox_d, ox_d, ox_d, ox_d])) st9 σ9)) rfl ?_
  refine ox_R_call (fc := (fun r : Int => ((.inl (some (.inl r)), σ) : ox_O))) (L_Otl_stateOf a1 σ (n + 0) tl) (fun r7 => ?_)
  refine ox_R_of (Y := ox_ev m_Out_putState (ox_zz ox_ms (n + 2)) 17 1 tl [.inr (.inr (0, 0, 0)), .inl (a1), .inl (a2), .inl (r6), ox_d, ox_d, ox_d, ox_d] [.inl (r7)] σ) rfl ?_
  refine ox_R_to 2 (Y := if r7 = (-1) then ox_ev m_Out_putState (ox_zz ox_ms (n + 2)) 21 1 tl [.inr (.inr (0, 0, 0)), .inl (a1), .inl (a2), .inl (r6), ox_d, ox_d, ox_d, ox_d] [] σ else ox_ev m_Out_putState (ox_zz ox_ms (n + 2)) 25 1 tl [.inr (.inr (0, 0, 0)), .inl (a1), .inl (a2), .inl (r6), ox_d, ox_d, ox_d, ox_d] [] σ) rfl ?_
  refine ox_R_if (fun _ => ?_) (fun _ => ?_)
  · refine ox_R_to 2 (Y := ox_ev m_Out_putState (ox_zz ox_ms (n + 2)) 26 1 tl [.inr (.inr (0, 0, 0)), .inl (a1), .inl (a2), .inl (r6), ox_d, ox_d, ox_d, ox_d] [.inl (0)] σ) rfl ?_
    exact (L_Out_putState_26 a1 a2 r6 0 σ n tl)
  · refine ox_R_to 1 (Y := ox_ev m_Out_putState (ox_zz ox_ms (n + 2)) 26 1 tl [.inr (.inr (0, 0, 0)), .inl (a1), .inl (a2), .inl (r6), ox_d, ox_d, ox_d, ox_d] [.inl (5)] σ) rfl ?_
    exact (L_Out_putState_26 a1 a2 r6 5 σ n tl)
def J_Rdg_nextDay_64  (v0 : Nat) (σ : ox_H) : Option Int := some (ox_w ((σ 4 v0 3 0) + (σ 4 v0 5 0)))
theorem L_Rdg_nextDay_64  (v0 : Nat) (σ : ox_H) (n tl : Nat) : ox_R (fun r => some ((fun r : Int => ((.inl (some (.inl r)), σ) : ox_O)) r)) (J_Rdg_nextDay_64 v0 σ) (ox_ev m_Rdg_nextDay (ox_zz ox_ms (n + 0)) 64 0 tl [.inr (.inr (4, v0, 0)), ox_d] [] σ) := by
  unfold J_Rdg_nextDay_64
  refine ox_R_to 6 (Y := some (.inl (some (.inl (ox_w ((σ 4 v0 3 0) + (σ 4 v0 5 0))))), σ)) rfl ?_
  exact ox_R_ret rfl
def F_Rdg_nextDay  (k : Nat) (a1 : Int) (σ : ox_H) : Option (Int) := if (σ 4 k 6 0) = 46 then (some (ox_w (a1 + (σ 4 k 5 0)))) else (if (σ 4 k 6 0) = 43 then (if (σ 4 k 5 0) ≤ 0 then (J_Rdg_nextDay_64 k σ) else (if a1 < (σ 4 k 3 0) then (J_Rdg_nextDay_64 k σ) else (if (σ 4 k 5 0) = 0 then none else (some (ox_w ((σ 4 k 3 0) + (ox_w ((σ 4 k 5 0) * (ox_w ((ox_w (Int.tdiv (ox_w (a1 - (σ 4 k 3 0))) (σ 4 k 5 0))) + 1)))))))))) else (J_Rdg_nextDay_64 k σ))
theorem L_Rdg_nextDay  (k : Nat) (a1 : Int) (σ : ox_H) (n tl : Nat) : ox_R (fun r => some ((fun r : Int => ((.inl (some (.inl r)), σ) : ox_O)) r)) (F_Rdg_nextDay k a1 σ) (ox_zz ox_ms (n + 1) 216 tl [.inr (.inr (4, k, 0)), .inl (a1)] σ) := by
  unfold F_Rdg_nextDay
  refine ox_R_of (Y := ox_ev m_Rdg_nextDay (ox_zz ox_ms (n + 0)) 0 0 tl [.inr (.inr (4, k, 0)), .inl (a1)] [] σ) rfl ?_
  refine ox_R_to 4 (Y := if (σ 4 k 6 0) = 46 then ox_ev m_Rdg_nextDay (ox_zz ox_ms (n + 0)) 9 0 tl [.inr (.inr (4, k, 0)), .inl (a1)] [] σ else ox_ev m_Rdg_nextDay (ox_zz ox_ms (n + 0)) 16 0 tl [.inr (.inr (4, k, 0)), .inl (a1)] [] σ) rfl ?_
  refine ox_R_if (fun _ => ?_) (fun _ => ?_)
  · refine ox_R_to 5 (Y := some (.inl (some (.inl (ox_w (a1 + (σ 4 k 5 0))))), σ)) rfl ?_
    exact ox_R_ret rfl
  · refine ox_R_to 4 (Y := if (σ 4 k 6 0) = 43 then ox_ev m_Rdg_nextDay (ox_zz ox_ms (n + 0)) 25 0 tl [.inr (.inr (4, k, 0)), .inl (a1)] [] σ else ox_ev m_Rdg_nextDay (ox_zz ox_ms (n + 0)) 64 0 tl [.inr (.inr (4, k, 0)), ox_d] [] σ) rfl ?_
    refine ox_R_if (fun _ => ?_) (fun _ => ?_)
    · refine ox_R_to 3 (Y := if (σ 4 k 5 0) ≤ 0 then ox_ev m_Rdg_nextDay (ox_zz ox_ms (n + 0)) 64 0 tl [.inr (.inr (4, k, 0)), ox_d] [] σ else ox_ev m_Rdg_nextDay (ox_zz ox_ms (n + 0)) 32 0 tl [.inr (.inr (4, k, 0)), .inl (a1)] [] σ) rfl ?_
      refine ox_R_if (fun _ => ?_) (fun _ => ?_)
      · exact (L_Rdg_nextDay_64 k σ n tl)
      · refine ox_R_to 4 (Y := if a1 < (σ 4 k 3 0) then ox_ev m_Rdg_nextDay (ox_zz ox_ms (n + 0)) 64 0 tl [.inr (.inr (4, k, 0)), ox_d] [] σ else ox_ev m_Rdg_nextDay (ox_zz ox_ms (n + 0)) 40 0 tl [.inr (.inr (4, k, 0)), .inl (a1)] [] σ) rfl ?_
        refine ox_R_if (fun _ => ?_) (fun _ => ?_)
        · exact (L_Rdg_nextDay_64 k σ n tl)
        · refine ox_R_to 11 (Y := if (σ 4 k 5 0) = 0 then none else ox_ev m_Rdg_nextDay (ox_zz ox_ms (n + 0)) 59 0 tl [.inr (.inr (4, k, 0)), .inl (a1)] [.inl (ox_w (Int.tdiv (ox_w (a1 - (σ 4 k 3 0))) (σ 4 k 5 0))), .inl (σ 4 k 5 0), .inl (σ 4 k 3 0)] σ) rfl ?_
          refine ox_R_if (fun _ => ox_R_none) (fun _ => ?_)
          refine ox_R_to 5 (Y := some (.inl (some (.inl (ox_w ((σ 4 k 3 0) + (ox_w ((σ 4 k 5 0) * (ox_w ((ox_w (Int.tdiv (ox_w (a1 - (σ 4 k 3 0))) (σ 4 k 5 0))) + 1)))))))), σ)) rfl ?_
          exact ox_R_ret rfl
    · exact (L_Rdg_nextDay_64 k σ n tl)
def F_Lin_clear  (k : Nat) (a1 : Int) (σ : ox_H) : Option (ox_H) := (F_Lin_size k a1 σ).bind fun r1 => ((F_Lin_takeOut k a1 0 r1 σ).bind fun r2 => (some r2))
theorem L_Lin_clear  (k : Nat) (a1 : Int) (σ : ox_H) (n tl : Nat) : ox_R (fun r => some ((fun r : ox_H => ((.inl none, r) : ox_O)) r)) (F_Lin_clear k a1 σ) (ox_zz ox_ms (n + 2) 162 tl [.inr (.inr (1, k, 0)), .inl (a1)] σ) := by
  unfold F_Lin_clear
  refine ox_R_of (Y := ox_ev m_Lin_clear (ox_zz ox_ms (n + 1)) 0 0 tl [.inr (.inr (1, k, 0)), .inl (a1)] [] σ) rfl ?_
  refine ox_R_to 6 (Y := ox_back m_Lin_clear 5 1 [.inl (0), .inl (a1), .inr (.inr (1, k, 0))] ((ox_zz ox_ms (n + 1)) 156 tl [.inr (.inr (1, k, 0)), .inl (a1)] σ) (fun pc9 x9 st9 σ9 => ox_ev m_Lin_clear (ox_zz ox_ms (n + 1)) pc9 0 tl (ox_kl (m_Lin_clear.2.2.1 pc9) (ox_xl x9 [.inr (.inr (1, k, 0)), .inl (a1)])) st9 σ9)) rfl ?_
  refine ox_R_call (fc := (fun r : Int => ((.inl (some (.inl r)), σ) : ox_O))) (L_Lin_size k a1 σ (n + 0) tl) (fun r1 => ?_)
  refine ox_R_of (Y := ox_ev m_Lin_clear (ox_zz ox_ms (n + 1)) 8 0 tl [.inr (.inr (1, k, 0)), .inl (a1)] [.inl (r1), .inl (0), .inl (a1), .inr (.inr (1, k, 0))] σ) rfl ?_
  refine ox_R_to 1 (Y := ox_back m_Lin_clear 8 0 [] ((ox_zz ox_ms (n + 1)) 168 tl [.inr (.inr (1, k, 0)), .inl (a1), .inl (0), .inl (r1)] σ) (fun pc9 x9 st9 σ9 => ox_ev m_Lin_clear (ox_zz ox_ms (n + 1)) pc9 0 tl (ox_kl (m_Lin_clear.2.2.1 pc9) (ox_xl x9 [.inr (.inr (1, k, 0)), .inl (a1)])) st9 σ9)) rfl ?_
  refine ox_R_call (fc := (fun r : ox_H => ((.inl none, r) : ox_O))) (L_Lin_takeOut k a1 0 r1 σ (n + 0) tl) (fun r2 => ?_)
  refine ox_R_of (Y := ox_ev m_Lin_clear (ox_zz ox_ms (n + 1)) 11 0 tl [.inr (.inr (1, k, 0)), .inl (a1)] [] r2) rfl ?_
  refine ox_R_to 1 (Y := some (.inl none, r2)) rfl ?_
  exact ox_R_ret rfl
def J_Lin_addNumber_63  (σ : ox_H) : Option ox_H := some σ
theorem L_Lin_addNumber_63  (σ : ox_H) (n tl : Nat) : ox_R (fun r => some ((fun r : ox_H => ((.inl none, r) : ox_O)) r)) (J_Lin_addNumber_63 σ) (ox_ev m_Lin_addNumber (ox_zz ox_ms (n + 1)) 63 0 tl [ox_d, ox_d, ox_d, ox_d, ox_d] [] σ) := by
  unfold J_Lin_addNumber_63
  refine ox_R_to 1 (Y := some (.inl none, σ)) rfl ?_
  exact ox_R_ret rfl
def J_Lin_addNumber_53  (v0 : Nat) (v1 : Int) (v3 : Int) (v4 : Int) (σ : ox_H) : Option (((Int × ox_H) ⊕ ox_H)) := some (.inl (ox_w (Int.tdiv v4 10), σ))
theorem L_Lin_addNumber_53  (v0 : Nat) (v1 : Int) (v3 : Int) (v4 : Int) (σ : ox_H) (n tl : Nat) : ox_R (Sum.elim (fun (s : Int × ox_H) => match s with | (v4, σ) => ox_ev m_Lin_addNumber (ox_zz ox_ms (n + 1)) 20 0 tl [.inr (.inr (1, v0, 0)), .inl (v1), ox_d, .inl (v3), .inl (v4)] [] σ) (fun r => some ((fun r : ox_H => ((.inl none, r) : ox_O)) r))) (J_Lin_addNumber_53 v0 v1 v3 v4 σ) (ox_ev m_Lin_addNumber (ox_zz ox_ms (n + 1)) 53 0 tl [.inr (.inr (1, v0, 0)), .inl (v1), ox_d, .inl (v3), .inl (v4)] [] σ) := by
  unfold J_Lin_addNumber_53
  refine ox_R_to 5 (Y := ox_ev m_Lin_addNumber (ox_zz ox_ms (n + 1)) 20 0 tl [.inr (.inr (1, v0, 0)), .inl (v1), ox_d, .inl (v3), .inl (ox_w (Int.tdiv v4 10))] [] σ) rfl ?_
  exact ox_R_ret rfl
def J_Lin_addNumber_37  (v0 : Nat) (v1 : Int) (v3 : Int) (v4 : Int) (σ : ox_H) : Option (((Int × ox_H) ⊕ ox_H)) := if v4 = 0 then none else ((F_Lin_add v0 v1 ((ox_w (48 + (Int.tmod (ox_w (Int.tdiv v3 v4)) 10))) % 65536) σ).bind fun r1 => (J_Lin_addNumber_53 v0 v1 v3 v4 r1))
theorem L_Lin_addNumber_37  (v0 : Nat) (v1 : Int) (v3 : Int) (v4 : Int) (σ : ox_H) (n tl : Nat) : ox_R (Sum.elim (fun (s : Int × ox_H) => match s with | (v4, σ) => ox_ev m_Lin_addNumber (ox_zz ox_ms (n + 1)) 20 0 tl [.inr (.inr (1, v0, 0)), .inl (v1), ox_d, .inl (v3), .inl (v4)] [] σ) (fun r => some ((fun r : ox_H => ((.inl none, r) : ox_O)) r))) (J_Lin_addNumber_37 v0 v1 v3 v4 σ) (ox_ev m_Lin_addNumber (ox_zz ox_ms (n + 1)) 37 0 tl [.inr (.inr (1, v0, 0)), .inl (v1), ox_d, .inl (v3), .inl (v4)] [] σ) := by
  unfold J_Lin_addNumber_37
  refine ox_R_to 6 (Y := if v4 = 0 then none else ox_ev m_Lin_addNumber (ox_zz ox_ms (n + 1)) 45 0 tl [.inr (.inr (1, v0, 0)), .inl (v1), ox_d, .inl (v3), .inl (v4)] [.inl (ox_w (Int.tdiv v3 v4)), .inl (48), .inl (v1), .inr (.inr (1, v0, 0))] σ) rfl ?_
  refine ox_R_if (fun _ => ox_R_none) (fun _ => ?_)
  refine ox_R_to 5 (Y := ox_back m_Lin_addNumber 50 0 [] ((ox_zz ox_ms (n + 1)) 163 tl [.inr (.inr (1, v0, 0)), .inl (v1), .inl ((ox_w (48 + (Int.tmod (ox_w (Int.tdiv v3 v4)) 10))) % 65536)] σ) (fun pc9 x9 st9 σ9 => ox_ev m_Lin_addNumber (ox_zz ox_ms (n + 1)) pc9 0 tl (ox_kl (m_Lin_addNumber.2.2.1 pc9) (ox_xl x9 [.inr (.inr (1, v0, 0)), .inl (v1), ox_d, .inl (v3), .inl (v4)])) st9 σ9)) rfl ?_
  refine ox_R_call (fc := (fun r : ox_H => ((.inl none, r) : ox_O))) (L_Lin_add v0 v1 ((ox_w (48 + (Int.tmod (ox_w (Int.tdiv v3 v4)) 10))) % 65536) σ (n + 0) tl) (fun r1 => ?_)
  refine ox_R_of (Y := ox_ev m_Lin_addNumber (ox_zz ox_ms (n + 1)) 53 0 tl [.inr (.inr (1, v0, 0)), .inl (v1), ox_d, .inl (v3), .inl (v4)] [] r1) rfl ?_
  exact (L_Lin_addNumber_53 v0 v1 v3 v4 r1 n tl)
def B_Lin_addNumber_20  (v0 : Nat) (v1 : Int) (v3 : Int) : (Int × ox_H) → Option (((Int × ox_H) ⊕ ox_H)) := fun (v4, σ) => if v4 ≤ 0 then ((J_Lin_addNumber_63 σ).map .inr) else (if v4 ≤ v3 then (J_Lin_addNumber_37 v0 v1 v3 v4 σ) else (if v4 = 1 then (J_Lin_addNumber_37 v0 v1 v3 v4 σ) else (J_Lin_addNumber_53 v0 v1 v3 v4 σ)))
def J_Lin_addNumber_20  (v0 : Nat) (v1 : Int) (v3 : Int) (v4 : Int) (σ : ox_H) : Option (ox_H) := ox_lp (B_Lin_addNumber_20 v0 v1 v3) ox_fu (v4, σ)
theorem L_Lin_addNumber_20  (v0 : Nat) (v1 : Int) (v3 : Int) (v4 : Int) (σ : ox_H) (n tl : Nat) : ox_R (fun r => some ((fun r : ox_H => ((.inl none, r) : ox_O)) r)) (J_Lin_addNumber_20 v0 v1 v3 v4 σ) (ox_ev m_Lin_addNumber (ox_zz ox_ms (n + 1)) 20 0 tl [.inr (.inr (1, v0, 0)), .inl (v1), ox_d, .inl (v3), .inl (v4)] [] σ) := by
  unfold J_Lin_addNumber_20
  refine ox_R_lp (ψ := (fun (s : Int × ox_H) => match s with | (v4, σ) => ox_ev m_Lin_addNumber (ox_zz ox_ms (n + 1)) 20 0 tl [.inr (.inr (1, v0, 0)), .inl (v1), ox_d, .inl (v3), .inl (v4)] [] σ)) ?_ ox_fu (v4, σ)
  intro s
  obtain ⟨v4, σ⟩ := s
  unfold B_Lin_addNumber_20
  refine ox_R_to 2 (Y := if v4 ≤ 0 then ox_ev m_Lin_addNumber (ox_zz ox_ms (n + 1)) 63 0 tl [ox_d, ox_d, ox_d, ox_d, ox_d] [] σ else ox_ev m_Lin_addNumber (ox_zz ox_ms (n + 1)) 25 0 tl [.inr (.inr (1, v0, 0)), .inl (v1), ox_d, .inl (v3), .inl (v4)] [] σ) rfl ?_
  refine ox_R_if (fun _ => ?_) (fun _ => ?_)
  · exact ox_R_map ((L_Lin_addNumber_63 σ n tl))
  · refine ox_R_to 3 (Y := if v4 ≤ v3 then ox_ev m_Lin_addNumber (ox_zz ox_ms (n + 1)) 37 0 tl [.inr (.inr (1, v0, 0)), .inl (v1), ox_d, .inl (v3), .inl (v4)] [] σ else ox_ev m_Lin_addNumber (ox_zz ox_ms (n + 1)) 31 0 tl [.inr (.inr (1, v0, 0)), .inl (v1), ox_d, .inl (v3), .inl (v4)] [] σ) rfl ?_
    refine ox_R_if (fun _ => ?_) (fun _ => ?_)
    · exact (L_Lin_addNumber_37 v0 v1 v3 v4 σ n tl)
    · refine ox_R_to 3 (Y := if v4 = 1 then ox_ev m_Lin_addNumber (ox_zz ox_ms (n + 1)) 37 0 tl [.inr (.inr (1, v0, 0)), .inl (v1), ox_d, .inl (v3), .inl (v4)] [] σ else ox_ev m_Lin_addNumber (ox_zz ox_ms (n + 1)) 53 0 tl [.inr (.inr (1, v0, 0)), .inl (v1), ox_d, .inl (v3), .inl (v4)] [] σ) rfl ?_
      refine ox_R_if (fun _ => ?_) (fun _ => ?_)
      · exact (L_Lin_addNumber_37 v0 v1 v3 v4 σ n tl)
      · exact (L_Lin_addNumber_53 v0 v1 v3 v4 σ n tl)
def J_Lin_addNumber_11  (v0 : Nat) (v1 : Int) (v2 : Int) (σ : ox_H) : Option ox_H := (J_Lin_addNumber_20 v0 v1 (if 0 ≤ v2 then v2 else ox_w (0 - v2)) (ox_c 1000000 0) σ)
theorem L_Lin_addNumber_11  (v0 : Nat) (v1 : Int) (v2 : Int) (σ : ox_H) (n tl : Nat) : ox_R (fun r => some ((fun r : ox_H => ((.inl none, r) : ox_O)) r)) (J_Lin_addNumber_11 v0 v1 v2 σ) (ox_ev m_Lin_addNumber (ox_zz ox_ms (n + 1)) 11 0 tl [.inr (.inr (1, v0, 0)), .inl (v1), .inl (v2), ox_d, ox_d] [] σ) := by
  unfold J_Lin_addNumber_11
  refine ox_R_to 5 (Y := ox_ev m_Lin_addNumber (ox_zz ox_ms (n + 1)) 20 0 tl [.inr (.inr (1, v0, 0)), .inl (v1), ox_d, .inl (if 0 ≤ v2 then v2 else ox_w (0 - v2)), .inl (ox_c 1000000 0)] [] σ) rfl ?_
  exact (L_Lin_addNumber_20 v0 v1 (if 0 ≤ v2 then v2 else ox_w (0 - v2)) (ox_c 1000000 0) σ n tl)
def F_Lin_addNumber  (k : Nat) (a1 : Int) (a2 : Int) (σ : ox_H) : Option (ox_H) := if 0 ≤ a2 then (J_Lin_addNumber_11 k a1 a2 σ) else ((F_Lin_add k a1 45 σ).bind fun r2 => (J_Lin_addNumber_11 k a1 a2 r2))
theorem L_Lin_addNumber  (k : Nat) (a1 : Int) (a2 : Int) (σ : ox_H) (n tl : Nat) : ox_R (fun r => some ((fun r : ox_H => ((.inl none, r) : ox_O)) r)) (F_Lin_addNumber k a1 a2 σ) (ox_zz ox_ms (n + 2) 165 tl [.inr (.inr (1, k, 0)), .inl (a1), .inl (a2)] σ) := by
  unfold F_Lin_addNumber
  refine ox_R_of (Y := ox_ev m_Lin_addNumber (ox_zz ox_ms (n + 1)) 0 0 tl [.inr (.inr (1, k, 0)), .inl (a1), .inl (a2), ox_d, ox_d] [] σ) rfl ?_
  refine ox_R_to 2 (Y := if 0 ≤ a2 then ox_ev m_Lin_addNumber (ox_zz ox_ms (n + 1)) 11 0 tl [.inr (.inr (1, k, 0)), .inl (a1), .inl (a2), ox_d, ox_d] [] σ else ox_ev m_Lin_addNumber (ox_zz ox_ms (n + 1)) 4 0 tl [.inr (.inr (1, k, 0)), .inl (a1), .inl (a2), ox_d, ox_d] [] σ) rfl ?_
  refine ox_R_if (fun _ => ?_) (fun _ => ?_)
  · exact (L_Lin_addNumber_11 k a1 a2 σ n tl)
  · refine ox_R_to 4 (Y := ox_back m_Lin_addNumber 8 0 [] ((ox_zz ox_ms (n + 1)) 163 tl [.inr (.inr (1, k, 0)), .inl (a1), .inl (45)] σ) (fun pc9 x9 st9 σ9 => ox_ev m_Lin_addNumber (ox_zz ox_ms (n + 1)) pc9 0 tl (ox_kl (m_Lin_addNumber.2.2.1 pc9) (ox_xl x9 [.inr (.inr (1, k, 0)), .inl (a1), .inl (a2), ox_d, ox_d])) st9 σ9)) rfl ?_
    refine ox_R_call (fc := (fun r : ox_H => ((.inl none, r) : ox_O))) (L_Lin_add k a1 45 σ (n + 0) tl) (fun r2 => ?_)
    refine ox_R_of (Y := ox_ev m_Lin_addNumber (ox_zz ox_ms (n + 1)) 11 0 tl [.inr (.inr (1, k, 0)), .inl (a1), .inl (a2), ox_d, ox_d] [] r2) rfl ?_
    exact (L_Lin_addNumber_11 k a1 a2 r2 n tl)
def J_Out_writeDate_95  (σ : ox_H) : Option ox_H := some σ
theorem L_Out_writeDate_95  (σ : ox_H) (n tl : Nat) : ox_R (fun r => some ((fun r : ox_H => ((.inl none, r) : ox_O)) r)) (J_Out_writeDate_95 σ) (ox_ev m_Out_writeDate (ox_zz ox_ms (n + 2)) 95 0 tl [ox_d, ox_d, ox_d, ox_d, ox_d] [] σ) := by
  unfold J_Out_writeDate_95
  refine ox_R_to 1 (Y := some (.inl none, σ)) rfl ?_
  exact ox_R_ret rfl
def J_Out_writeDate_51  (v1 : Int) (v4 : Nat) (σ : ox_H) : Option ox_H := (F_Lin_add 0 v1 43 σ).bind fun r1 => ((F_Lin_addNumber 0 v1 (r1 4 v4 5 0) r1).bind fun r2 => (if (r2 4 v4 6 0) = 0 then (J_Out_writeDate_95 r2) else ((F_Lin_add 0 v1 (r2 4 v4 6 0) r2).bind fun r3 => (J_Out_writeDate_95 r3))))
theorem L_Out_writeDate_51  (v1 : Int) (v4 : Nat) (σ : ox_H) (n tl : Nat) : ox_R (fun r => some ((fun r : ox_H => ((.inl none, r) : ox_O)) r)) (J_Out_writeDate_51 v1 v4 σ) (ox_ev m_Out_writeDate (ox_zz ox_ms (n + 2)) 51 0 tl [.inr (.inr (0, 0, 0)), .inl (v1), ox_d, ox_d, .inr (.inr (4, v4, 0))] [] σ) := by
  unfold J_Out_writeDate_51
  refine ox_R_to 5 (Y := ox_back m_Out_writeDate 58 2 [] ((ox_zz ox_ms (n + 2)) 163 tl [.inr (.inr (1, 0, 0)), .inl (v1), .inl (43)] σ) (fun pc9 x9 st9 σ9 => ox_ev m_Out_writeDate (ox_zz ox_ms (n + 2)) pc9 0 tl (ox_kl (m_Out_writeDate.2.2.1 pc9) (ox_xl x9 [.inr (.inr (0, 0, 0)), .inl (v1), ox_d, ox_d, .inr (.inr (4, v4, 0))])) st9 σ9)) rfl ?_
  refine ox_R_call (fc := (fun r : ox_H => ((.inl none, r) : ox_O))) (L_Lin_add 0 v1 43 σ (n + 1) tl) (fun r1 => ?_)
  refine ox_R_of (Y := ox_ev m_Out_writeDate (ox_zz ox_ms (n + 2)) 61 0 tl [.inr (.inr (0, 0, 0)), .inl (v1), ox_d, ox_d, .inr (.inr (4, v4, 0))] [] r1) rfl ?_
  refine ox_R_to 6 (Y := ox_back m_Out_writeDate 71 2 [] ((ox_zz ox_ms (n + 2)) 165 tl [.inr (.inr (1, 0, 0)), .inl (v1), .inl (r1 4 v4 5 0)] r1) (fun pc9 x9 st9 σ9 => ox_ev m_Out_writeDate (ox_zz ox_ms (n + 2)) pc9 0 tl (ox_kl (m_Out_writeDate.2.2.1 pc9) (ox_xl x9 [.inr (.inr (0, 0, 0)), .inl (v1), ox_d, ox_d, .inr (.inr (4, v4, 0))])) st9 σ9)) rfl ?_
  refine ox_R_call (fc := (fun r : ox_H => ((.inl none, r) : ox_O))) (L_Lin_addNumber 0 v1 (r1 4 v4 5 0) r1 (n + 0) tl) (fun r2 => ?_)
  refine ox_R_of (Y := ox_ev m_Out_writeDate (ox_zz ox_ms (n + 2)) 74 0 tl [.inr (.inr (0, 0, 0)), .inl (v1), ox_d, ox_d, .inr (.inr (4, v4, 0))] [] r2) rfl ?_
  refine ox_R_to 3 (Y := if (r2 4 v4 6 0) = 0 then ox_ev m_Out_writeDate (ox_zz ox_ms (n + 2)) 95 0 tl [ox_d, ox_d, ox_d, ox_d, ox_d] [] r2 else ox_ev m_Out_writeDate (ox_zz ox_ms (n + 2)) 82 0 tl [.inr (.inr (0, 0, 0)), .inl (v1), ox_d, ox_d, .inr (.inr (4, v4, 0))] [] r2) rfl ?_
  refine ox_R_if (fun _ => ?_) (fun _ => ?_)
  · exact (L_Out_writeDate_95 r2 n tl)
  · refine ox_R_to 6 (Y := ox_back m_Out_writeDate 92 2 [] ((ox_zz ox_ms (n + 2)) 163 tl [.inr (.inr (1, 0, 0)), .inl (v1), .inl (r2 4 v4 6 0)] r2) (fun pc9 x9 st9 σ9 => ox_ev m_Out_writeDate (ox_zz ox_ms (n + 2)) pc9 0 tl (ox_kl (m_Out_writeDate.2.2.1 pc9) (ox_xl x9 [.inr (.inr (0, 0, 0)), .inl (v1), ox_d, ox_d, .inr (.inr (4, v4, 0))])) st9 σ9)) rfl ?_
    refine ox_R_call (fc := (fun r : ox_H => ((.inl none, r) : ox_O))) (L_Lin_add 0 v1 (r2 4 v4 6 0) r2 (n + 1) tl) (fun r3 => ?_)
    refine ox_R_of (Y := ox_ev m_Out_writeDate (ox_zz ox_ms (n + 2)) 95 0 tl [ox_d, ox_d, ox_d, ox_d, ox_d] [] r3) rfl ?_
    exact (L_Out_writeDate_95 r3 n tl)
def F_Out_writeDate  (a1 : Int) (a2 : Int) (a3 : Int) (k4 : Nat) (σ : ox_H) : Option (ox_H) := (F_Lin_clear 0 a1 σ).bind fun r4 => ((F_Lin_add 0 a1 64 r4).bind fun r5 => ((F_Lin_addNumber 0 a1 a2 r5).bind fun r6 => (if a3 = a2 then (J_Out_writeDate_51 a1 k4 r6) else ((F_Lin_add 0 a1 45 r6).bind fun r7 => ((F_Lin_addNumber 0 a1 a3 r7).bind fun r8 => (J_Out_writeDate_51 a1 k4 r8))))))
theorem L_Out_writeDate  (a1 : Int) (a2 : Int) (a3 : Int) (k4 : Nat) (σ : ox_H) (n tl : Nat) : ox_R (fun r => some ((fun r : ox_H => ((.inl none, r) : ox_O)) r)) (F_Out_writeDate a1 a2 a3 k4 σ) (ox_zz ox_ms (n + 3) 24 tl [.inr (.inr (0, 0, 0)), .inl (a1), .inl (a2), .inl (a3), .inr (.inr (4, k4, 0))] σ) := by
  unfold F_Out_writeDate
  refine ox_R_of (Y := ox_ev m_Out_writeDate (ox_zz ox_ms (n + 2)) 0 0 tl [.inr (.inr (0, 0, 0)), .inl (a1), .inl (a2), .inl (a3), .inr (.inr (4, k4, 0))] [] σ) rfl ?_
  refine ox_R_to 4 (Y := ox_back m_Out_writeDate 5 2 [] ((ox_zz ox_ms (n + 2)) 162 tl [.inr (.inr (1, 0, 0)), .inl (a1)] σ) (fun pc9 x9 st9 σ9 => ox_ev m_Out_writeDate (ox_zz ox_ms (n + 2)) pc9 0 tl (ox_kl (m_Out_writeDate.2.2.1 pc9) (ox_xl x9 [.inr (.inr (0, 0, 0)), .inl (a1), .inl (a2), .inl (a3), .inr (.inr (4, k4, 0))])) st9 σ9)) rfl ?_
  refine ox_R_call (fc := (fun r : ox_H => ((.inl none, r) : ox_O))) (L_Lin_clear 0 a1 σ (n + 0) tl) (fun r4 => ?_)
  refine ox_R_of (Y := ox_ev m_Out_writeDate (ox_zz ox_ms (n + 2)) 8 0 tl [.inr (.inr (0, 0, 0)), .inl (a1), .inl (a2), .inl (a3), .inr (.inr (4, k4, 0))] [] r4) rfl ?_
  refine ox_R_to 5 (Y := ox_back m_Out_writeDate 15 2 [] ((ox_zz ox_ms (n + 2)) 163 tl [.inr (.inr (1, 0, 0)), .inl (a1), .inl (64)] r4) (fun pc9 x9 st9 σ9 => ox_ev m_Out_writeDate (ox_zz ox_ms (n + 2)) pc9 0 tl (ox_kl (m_Out_writeDate.2.2.1 pc9) (ox_xl x9 [.inr (.inr (0, 0, 0)), .inl (a1), .inl (a2), .inl (a3), .inr (.inr (4, k4, 0))])) st9 σ9)) rfl ?_
  refine ox_R_call (fc := (fun r : ox_H => ((.inl none, r) : ox_O))) (L_Lin_add 0 a1 64 r4 (n + 1) tl) (fun r5 => ?_)
  refine ox_R_of (Y := ox_ev m_Out_writeDate (ox_zz ox_ms (n + 2)) 18 0 tl [.inr (.inr (0, 0, 0)), .inl (a1), .inl (a2), .inl (a3), .inr (.inr (4, k4, 0))] [] r5) rfl ?_
  refine ox_R_to 5 (Y := ox_back m_Out_writeDate 24 2 [] ((ox_zz ox_ms (n + 2)) 165 tl [.inr (.inr (1, 0, 0)), .inl (a1), .inl (a2)] r5) (fun pc9 x9 st9 σ9 => ox_ev m_Out_writeDate (ox_zz ox_ms (n + 2)) pc9 0 tl (ox_kl (m_Out_writeDate.2.2.1 pc9) (ox_xl x9 [.inr (.inr (0, 0, 0)), .inl (a1), .inl (a2), .inl (a3), .inr (.inr (4, k4, 0))])) st9 σ9)) rfl ?_
  refine ox_R_call (fc := (fun r : ox_H => ((.inl none, r) : ox_O))) (L_Lin_addNumber 0 a1 a2 r5 (n + 0) tl) (fun r6 => ?_)
  refine ox_R_of (Y := ox_ev m_Out_writeDate (ox_zz ox_ms (n + 2)) 27 0 tl [.inr (.inr (0, 0, 0)), .inl (a1), .inl (a2), .inl (a3), .inr (.inr (4, k4, 0))] [] r6) rfl ?_
  refine ox_R_to 3 (Y := if a3 = a2 then ox_ev m_Out_writeDate (ox_zz ox_ms (n + 2)) 51 0 tl [.inr (.inr (0, 0, 0)), .inl (a1), ox_d, ox_d, .inr (.inr (4, k4, 0))] [] r6 else ox_ev m_Out_writeDate (ox_zz ox_ms (n + 2)) 32 0 tl [.inr (.inr (0, 0, 0)), .inl (a1), .inl (a2), .inl (a3), .inr (.inr (4, k4, 0))] [] r6) rfl ?_
  refine ox_R_if (fun _ => ?_) (fun _ => ?_)
  · exact (L_Out_writeDate_51 a1 k4 r6 n tl)
  · refine ox_R_to 5 (Y := ox_back m_Out_writeDate 39 2 [] ((ox_zz ox_ms (n + 2)) 163 tl [.inr (.inr (1, 0, 0)), .inl (a1), .inl (45)] r6) (fun pc9 x9 st9 σ9 => ox_ev m_Out_writeDate (ox_zz ox_ms (n + 2)) pc9 0 tl (ox_kl (m_Out_writeDate.2.2.1 pc9) (ox_xl x9 [.inr (.inr (0, 0, 0)), .inl (a1), .inl (a2), .inl (a3), .inr (.inr (4, k4, 0))])) st9 σ9)) rfl ?_
    refine ox_R_call (fc := (fun r : ox_H => ((.inl none, r) : ox_O))) (L_Lin_add 0 a1 45 r6 (n + 1) tl) (fun r7 => ?_)
    refine ox_R_of (Y := ox_ev m_Out_writeDate (ox_zz ox_ms (n + 2)) 42 0 tl [.inr (.inr (0, 0, 0)), .inl (a1), .inl (a2), .inl (a3), .inr (.inr (4, k4, 0))] [] r7) rfl ?_
    refine ox_R_to 5 (Y := ox_back m_Out_writeDate 48 2 [] ((ox_zz ox_ms (n + 2)) 165 tl [.inr (.inr (1, 0, 0)), .inl (a1), .inl (a3)] r7) (fun pc9 x9 st9 σ9 => ox_ev m_Out_writeDate (ox_zz ox_ms (n + 2)) pc9 0 tl (ox_kl (m_Out_writeDate.2.2.1 pc9) (ox_xl x9 [.inr (.inr (0, 0, 0)), .inl (a1), .inl (a2), .inl (a3), .inr (.inr (4, k4, 0))])) st9 σ9)) rfl ?_
    refine ox_R_call (fc := (fun r : ox_H => ((.inl none, r) : ox_O))) (L_Lin_addNumber 0 a1 a3 r7 (n + 0) tl) (fun r8 => ?_)
    refine ox_R_of (Y := ox_ev m_Out_writeDate (ox_zz ox_ms (n + 2)) 51 0 tl [.inr (.inr (0, 0, 0)), .inl (a1), ox_d, ox_d, .inr (.inr (4, k4, 0))] [] r8) rfl ?_
    exact (L_Out_writeDate_51 a1 k4 r8 n tl)
def F_Out_makeDone  (a1 : Int) (σ : ox_H) : Option ((Nat ⊕ Unit) × ox_H) := (F_Otl_mayBeDone a1 σ).bind fun r1 => (if r1 = 0 then (some (.inl 3, σ)) else ((F_Otl_dateLine a1 σ).bind fun r2 => ((F_Otl_reading r2 σ).bind fun r3 => (if (σ 4 r3 5 0) = (-1) then ((F_Out_putState a1 2 σ).bind fun r4 => match r4.1 with | .inl e6 => (some (.inl e6, r4.2)) | .inr x5 => (some (.inr (), r4.2))) else ((F_Rdg_nextDay r3 (σ 0 0 7 0) σ).bind fun r7 => (if (ox_w ((ox_w (r7 + (σ 4 r3 4 0))) - (σ 4 r3 3 0))) ≤ 9999 then ((F_Out_putState a1 0 σ).bind fun r8 => match r8.1 with | .inl e11 => (some (.inl e11, r8.2)) | .inr x9 => ((F_Out_writeDate r2 r7 (ox_w ((ox_w (r7 + (σ 4 r3 4 0))) - (σ 4 r3 3 0))) r3 r8.2).bind fun r10 => (some (.inr (), r10)))) else (some (.inl 3, σ))))))))
theorem L_Out_makeDone  (a1 : Int) (σ : ox_H) (n tl : Nat) : ox_R (fun r => some ((fun r : (Nat ⊕ Unit) × ox_H => (((Sum.elim (fun e : Nat => (.inr e : Option ox_V ⊕ Nat)) (fun v : Unit => .inl none) r.1), r.2) : ox_O)) r)) (F_Out_makeDone a1 σ) (ox_zz ox_ms (n + 5) 22 tl [.inr (.inr (0, 0, 0)), .inl (a1)] σ) := by
  unfold F_Out_makeDone
  refine ox_R_of (Y := ox_ev m_Out_makeDone (ox_zz ox_ms (n + 4)) 0 3 tl [.inr (.inr (0, 0, 0)), .inl (a1), ox_d, ox_d, ox_d, ox_d] [] σ) rfl ?_
  refine ox_R_to 4 (Y := ox_back m_Out_makeDone 5 3 [] ((ox_zz ox_ms (n + 4)) 192 tl [.inr (.inr (2, 0, 0)), .inl (a1)] σ) (fun pc9 x9 st9 σ9 => ox_ev m_Out_makeDone (ox_zz ox_ms (n + 4)) pc9 3 tl (ox_kl (m_Out_makeDone.2.2.1 pc9) (ox_xl x9 [.inr (.inr (0, 0, 0)), .inl (a1), ox_d, ox_d, ox_d, ox_d])) st9 σ9)) rfl ?_
  refine ox_R_call (fc := (fun r : Int => ((.inl (some (.inl r)), σ) : ox_O))) (L_Otl_mayBeDone a1 σ (n + 0) tl) (fun r1 => ?_)
  refine ox_R_of (Y := ox_ev m_Out_makeDone (ox_zz ox_ms (n + 4)) 8 3 tl [.inr (.inr (0, 0, 0)), .inl (a1), ox_d, ox_d, ox_d, ox_d] [.inl (r1)] σ) rfl ?_
  refine ox_R_to 1 (Y := if r1 = 0 then ox_ev m_Out_makeDone (ox_zz ox_ms (n + 4)) 11 3 tl [.inr (.inr (0, 0, 0)), .inl (a1), ox_d, ox_d, ox_d, ox_d] [] σ else ox_ev m_Out_makeDone (ox_zz ox_ms (n + 4)) 22 3 tl [.inr (.inr (0, 0, 0)), .inl (a1), ox_d, ox_d, ox_d, ox_d] [] σ) rfl ?_
  refine ox_R_if (fun _ => ?_) (fun _ => ?_)
  · refine ox_R_to 1 (Y := some (.inr 3, σ)) rfl ?_
    exact ox_R_ret rfl
  · refine ox_R_to 4 (Y := ox_back m_Out_makeDone 27 3 [] ((ox_zz ox_ms (n + 4)) 190 tl [.inr (.inr (2, 0, 0)), .inl (a1)] σ) (fun pc9 x9 st9 σ9 => ox_ev m_Out_makeDone (ox_zz ox_ms (n + 4)) pc9 3 tl (ox_kl (m_Out_makeDone.2.2.1 pc9) (ox_xl x9 [.inr (.inr (0, 0, 0)), .inl (a1), ox_d, ox_d, ox_d, ox_d])) st9 σ9)) rfl ?_
    refine ox_R_call (fc := (fun r : Int => ((.inl (some (.inl r)), σ) : ox_O))) (L_Otl_dateLine a1 σ (n + 2) tl) (fun r2 => ?_)
    refine ox_R_of (Y := ox_ev m_Out_makeDone (ox_zz ox_ms (n + 4)) 30 3 tl [.inr (.inr (0, 0, 0)), .inl (a1), ox_d, ox_d, ox_d, ox_d] [.inl (r2)] σ) rfl ?_
    refine ox_R_to 5 (Y := ox_back m_Out_makeDone 36 3 [] ((ox_zz ox_ms (n + 4)) 172 tl [.inr (.inr (2, 0, 0)), .inl (r2)] σ) (fun pc9 x9 st9 σ9 => ox_ev m_Out_makeDone (ox_zz ox_ms (n + 4)) pc9 3 tl (ox_kl (m_Out_makeDone.2.2.1 pc9) (ox_xl x9 [.inr (.inr (0, 0, 0)), .inl (a1), .inl (r2), ox_d, ox_d, ox_d])) st9 σ9)) rfl ?_
    refine ox_R_call (fc := (fun r : Nat => ((.inl (some (.inr (.inr (4, r, 0)))), σ) : ox_O))) (L_Otl_reading r2 σ (n + 3) tl) (fun r3 => ?_)
    refine ox_R_of (Y := ox_ev m_Out_makeDone (ox_zz ox_ms (n + 4)) 39 3 tl [.inr (.inr (0, 0, 0)), .inl (a1), .inl (r2), ox_d, ox_d, ox_d] [.inr (.inr (4, r3, 0))] σ) rfl ?_
    refine ox_R_to 5 (Y := if (σ 4 r3 5 0) = (-1) then ox_ev m_Out_makeDone (ox_zz ox_ms (n + 4)) 48 3 tl [.inr (.inr (0, 0, 0)), .inl (a1), .inl (r2), .inr (.inr (4, r3, 0)), ox_d, ox_d] [] σ else ox_ev m_Out_makeDone (ox_zz ox_ms (n + 4)) 55 3 tl [.inr (.inr (0, 0, 0)), .inl (a1), .inl (r2), .inr (.inr (4, r3, 0)), ox_d, ox_d] [] σ) rfl ?_
    refine ox_R_if (fun _ => ?_) (fun _ => ?_)
    · refine ox_R_to 4 (Y := ox_back m_Out_makeDone 51 0 [] ((ox_zz ox_ms (n + 4)) 23 tl [.inr (.inr (0, 0, 0)), .inl (a1), .inl (2)] σ) (fun pc9 x9 st9 σ9 => ox_ev m_Out_makeDone (ox_zz ox_ms (n + 4)) pc9 2 tl (ox_kl (m_Out_makeDone.2.2.1 pc9) (ox_xl x9 [.inr (.inr (0, 0, 0)), .inl (a1), .inl (r2), .inr (.inr (4, r3, 0)), ox_d, ox_d])) st9 σ9)) rfl ?_
      refine ox_R_call (fc := (fun r : (Nat ⊕ Unit) × ox_H => (((Sum.elim (fun e : Nat => (.inr e : Option ox_V ⊕ Nat)) (fun v : Unit => .inl none) r.1), r.2) : ox_O))) (L_Out_putState a1 2 σ (n + 1) tl) (fun r4 => ?_)
      rcases r4 with ⟨e6 | x5, r49⟩
      · refine ox_R_of (Y := some (.inr e6, r49)) rfl ?_
        exact ox_R_ret rfl
      · refine ox_R_of (Y := ox_ev m_Out_makeDone (ox_zz ox_ms (n + 4)) 54 2 tl [.inr (.inr (0, 0, 0)), .inl (a1), .inl (r2), .inr (.inr (4, r3, 0)), ox_d, ox_d] [] r49) rfl ?_
        refine ox_R_to 1 (Y := some (.inl none, r49)) rfl ?_
        exact ox_R_ret rfl
    · refine ox_R_to 4 (Y := ox_back m_Out_makeDone 60 3 [] ((ox_zz ox_ms (n + 4)) 216 tl [.inr (.inr (4, r3, 0)), .inl (σ 0 0 7 0)] σ) (fun pc9 x9 st9 σ9 => ox_ev m_Out_makeDone (ox_zz ox_ms (n + 4)) pc9 3 tl (ox_kl (m_Out_makeDone.2.2.1 pc9) (ox_xl x9 [.inr (.inr (0, 0, 0)), .inl (a1), .inl (r2), .inr (.inr (4, r3, 0)), ox_d, ox_d])) st9 σ9)) rfl ?_
      refine ox_R_call (fc := (fun r : Int => ((.inl (some (.inl r)), σ) : ox_O))) (L_Rdg_nextDay r3 (σ 0 0 7 0) σ (n + 3) tl) (fun r7 => ?_)
      refine ox_R_of (Y := ox_ev m_Out_makeDone (ox_zz ox_ms (n + 4)) 63 3 tl [.inr (.inr (0, 0, 0)), .inl (a1), .inl (r2), .inr (.inr (4, r3, 0)), ox_d, ox_d] [.inl (r7)] σ) rfl ?_
      refine ox_R_to 12 (Y := if (ox_w ((ox_w (r7 + (σ 4 r3 4 0))) - (σ 4 r3 3 0))) ≤ 9999 then ox_ev m_Out_makeDone (ox_zz ox_ms (n + 4)) 98 3 tl [.inr (.inr (0, 0, 0)), .inl (a1), .inl (r2), .inr (.inr (4, r3, 0)), .inl (r7), .inl (ox_w ((ox_w (r7 + (σ 4 r3 4 0))) - (σ 4 r3 3 0)))] [] σ else ox_ev m_Out_makeDone (ox_zz ox_ms (n + 4)) 87 3 tl [.inr (.inr (0, 0, 0)), .inl (a1), .inl (r2), .inr (.inr (4, r3, 0)), .inl (r7), .inl (ox_w ((ox_w (r7 + (σ 4 r3 4 0))) - (σ 4 r3 3 0)))] [] σ) rfl ?_
      refine ox_R_if (fun _ => ?_) (fun _ => ?_)
      · refine ox_R_to 4 (Y := ox_back m_Out_makeDone 101 0 [] ((ox_zz ox_ms (n + 4)) 23 tl [.inr (.inr (0, 0, 0)), .inl (a1), .inl (0)] σ) (fun pc9 x9 st9 σ9 => ox_ev m_Out_makeDone (ox_zz ox_ms (n + 4)) pc9 2 tl (ox_kl (m_Out_makeDone.2.2.1 pc9) (ox_xl x9 [.inr (.inr (0, 0, 0)), .inl (a1), .inl (r2), .inr (.inr (4, r3, 0)), .inl (r7), .inl (ox_w ((ox_w (r7 + (σ 4 r3 4 0))) - (σ 4 r3 3 0)))])) st9 σ9)) rfl ?_
        refine ox_R_call (fc := (fun r : (Nat ⊕ Unit) × ox_H => (((Sum.elim (fun e : Nat => (.inr e : Option ox_V ⊕ Nat)) (fun v : Unit => .inl none) r.1), r.2) : ox_O))) (L_Out_putState a1 0 σ (n + 1) tl) (fun r8 => ?_)
        rcases r8 with ⟨e11 | x9, r89⟩
        · refine ox_R_of (Y := some (.inr e11, r89)) rfl ?_
          exact ox_R_ret rfl
        · refine ox_R_of (Y := ox_ev m_Out_makeDone (ox_zz ox_ms (n + 4)) 104 2 tl [.inr (.inr (0, 0, 0)), .inl (a1), .inl (r2), .inr (.inr (4, r3, 0)), .inl (r7), .inl (ox_w ((ox_w (r7 + (σ 4 r3 4 0))) - (σ 4 r3 3 0)))] [] r89) rfl ?_
          refine ox_R_to 6 (Y := ox_back m_Out_makeDone 111 0 [] ((ox_zz ox_ms (n + 4)) 24 tl [.inr (.inr (0, 0, 0)), .inl (r2), .inl (r7), .inl (ox_w ((ox_w (r7 + (σ 4 r3 4 0))) - (σ 4 r3 3 0))), .inr (.inr (4, r3, 0))] r89) (fun pc9 x9 st9 σ9 => ox_ev m_Out_makeDone (ox_zz ox_ms (n + 4)) pc9 2 tl (ox_kl (m_Out_makeDone.2.2.1 pc9) (ox_xl x9 [.inr (.inr (0, 0, 0)), .inl (a1), .inl (r2), .inr (.inr (4, r3, 0)), .inl (r7), .inl (ox_w ((ox_w (r7 + (σ 4 r3 4 0))) - (σ 4 r3 3 0)))])) st9 σ9)) rfl ?_
          refine ox_R_call (fc := (fun r : ox_H => ((.inl none, r) : ox_O))) (L_Out_writeDate r2 r7 (ox_w ((ox_w (r7 + (σ 4 r3 4 0))) - (σ 4 r3 3 0))) r3 r89 (n + 1) tl) (fun r10 => ?_)
          refine ox_R_of (Y := ox_ev m_Out_makeDone (ox_zz ox_ms (n + 4)) 114 2 tl [.inr (.inr (0, 0, 0)), .inl (a1), .inl (r2), .inr (.inr (4, r3, 0)), .inl (r7), .inl (ox_w ((ox_w (r7 + (σ 4 r3 4 0))) - (σ 4 r3 3 0)))] [] r10) rfl ?_
          refine ox_R_to 1 (Y := some (.inl none, r10)) rfl ?_
          exact ox_R_ret rfl
      · refine ox_R_to 1 (Y := some (.inr 3, σ)) rfl ?_
        exact ox_R_ret rfl
def J_Out_state_22  (σ : ox_H) : Option ((Nat ⊕ Int) × ox_H) := some (.inl 2, σ)
theorem L_Out_state_22  (σ : ox_H) (n tl : Nat) : ox_R (fun r => some ((fun r : (Nat ⊕ Int) × ox_H => (((Sum.elim (fun e : Nat => (.inr e : Option ox_V ⊕ Nat)) (fun v : Int => .inl (some (.inl v))) r.1), r.2) : ox_O)) r)) (J_Out_state_22 σ) (ox_ev m_Out_state (ox_zz ox_ms (n + 6)) 22 5 tl [ox_d, ox_d, ox_d] [] σ) := by
  unfold J_Out_state_22
  refine ox_R_to 1 (Y := some (.inr 2, σ)) rfl ?_
  exact ox_R_ret rfl
def J_Out_state_51  (v1 : Int) (σ : ox_H) : Option ((Nat ⊕ Int) × ox_H) := (F_Otl_refresh σ).bind fun r1 => ((F_Otl_stateOf v1 r1).bind fun r2 => (some (.inr r2, r1)))
theorem L_Out_state_51  (v1 : Int) (σ : ox_H) (n tl : Nat) : ox_R (fun r => some ((fun r : (Nat ⊕ Int) × ox_H => (((Sum.elim (fun e : Nat => (.inr e : Option ox_V ⊕ Nat)) (fun v : Int => .inl (some (.inl v))) r.1), r.2) : ox_O)) r)) (J_Out_state_51 v1 σ) (ox_ev m_Out_state (ox_zz ox_ms (n + 6)) 51 2 tl [.inr (.inr (0, 0, 0)), .inl (v1), ox_d] [] σ) := by
  unfold J_Out_state_51
  refine ox_R_to 3 (Y := ox_back m_Out_state 55 2 [] ((ox_zz ox_ms (n + 6)) 169 tl [.inr (.inr (2, 0, 0))] σ) (fun pc9 x9 st9 σ9 => ox_ev m_Out_state (ox_zz ox_ms (n + 6)) pc9 2 tl (ox_kl (m_Out_state.2.2.1 pc9) (ox_xl x9 [.inr (.inr (0, 0, 0)), .inl (v1), ox_d])) st9 σ9)) rfl ?_
  refine ox_R_call (fc := (fun r : ox_H => ((.inl none, r) : ox_O))) (L_Otl_refresh σ (n + 0) tl) (fun r1 => ?_)
  refine ox_R_of (Y := ox_ev m_Out_state (ox_zz ox_ms (n + 6)) 58 2 tl [.inr (.inr (0, 0, 0)), .inl (v1), ox_d] [] r1) rfl ?_
  refine ox_R_to 4 (Y := ox_back m_Out_state 63 3 [] ((ox_zz ox_ms (n + 6)) 178 tl [.inr (.inr (2, 0, 0)), .inl (v1)] r1) (fun pc9 x9 st9 σ9 => ox_ev m_Out_state (ox_zz ox_ms (n + 6)) pc9 2 tl (ox_kl (m_Out_state.2.2.1 pc9) (ox_xl x9 [.inr (.inr (0, 0, 0)), .inl (v1), ox_d])) st9 σ9)) rfl ?_
  refine ox_R_call (fc := (fun r : Int => ((.inl (some (.inl r)), r1) : ox_O))) (L_Otl_stateOf v1 r1 (n + 4) tl) (fun r2 => ?_)
  refine ox_R_of (Y := ox_ev m_Out_state (ox_zz ox_ms (n + 6)) 66 2 tl [.inr (.inr (0, 0, 0)), .inl (v1), ox_d] [.inl (r2)] r1) rfl ?_
  refine ox_R_to 1 (Y := some (.inl (some (.inl (r2))), r1)) rfl ?_
  exact ox_R_ret rfl
def F_Out_state  (a1 : Int) (a2 : Int) (σ : ox_H) : Option ((Nat ⊕ Int) × ox_H) := (F_Otl_refresh σ).bind fun r3 => ((F_Out_checkEntry a1 r3).bind fun r4 => match r4 with | .inl e12 => (some (.inl e12, r3)) | .inr x5 => (if a2 < (-1) then (J_Out_state_22 r3) else (if a2 ≤ 3 then (if a2 = 2 then ((F_Out_makeDone a1 r3).bind fun r6 => match r6.1 with | .inl e8 => (some (.inl e8, r6.2)) | .inr x7 => (J_Out_state_51 a1 r6.2)) else ((F_Out_putState a1 a2 r3).bind fun r9 => match r9.1 with | .inl e11 => (some (.inl e11, r9.2)) | .inr x10 => (J_Out_state_51 a1 r9.2))) else (J_Out_state_22 r3))))
theorem L_Out_state  (a1 : Int) (a2 : Int) (σ : ox_H) (n tl : Nat) : ox_R (fun r => some ((fun r : (Nat ⊕ Int) × ox_H => (((Sum.elim (fun e : Nat => (.inr e : Option ox_V ⊕ Nat)) (fun v : Int => .inl (some (.inl v))) r.1), r.2) : ox_O)) r)) (F_Out_state a1 a2 σ) (ox_zz ox_ms (n + 7) 14 tl [.inr (.inr (0, 0, 0)), .inl (a1), .inl (a2)] σ) := by
  unfold F_Out_state
  refine ox_R_of (Y := ox_ev m_Out_state (ox_zz ox_ms (n + 6)) 0 6 tl [.inr (.inr (0, 0, 0)), .inl (a1), .inl (a2)] [] σ) rfl ?_
  refine ox_R_to 3 (Y := ox_back m_Out_state 4 2 [] ((ox_zz ox_ms (n + 6)) 169 tl [.inr (.inr (2, 0, 0))] σ) (fun pc9 x9 st9 σ9 => ox_ev m_Out_state (ox_zz ox_ms (n + 6)) pc9 6 tl (ox_kl (m_Out_state.2.2.1 pc9) (ox_xl x9 [.inr (.inr (0, 0, 0)), .inl (a1), .inl (a2)])) st9 σ9)) rfl ?_
  refine ox_R_call (fc := (fun r : ox_H => ((.inl none, r) : ox_O))) (L_Otl_refresh σ (n + 0) tl) (fun r3 => ?_)
  refine ox_R_of (Y := ox_ev m_Out_state (ox_zz ox_ms (n + 6)) 7 6 tl [.inr (.inr (0, 0, 0)), .inl (a1), .inl (a2)] [] r3) rfl ?_
  refine ox_R_to 3 (Y := ox_back m_Out_state 9 0 [] ((ox_zz ox_ms (n + 6)) 18 tl [.inr (.inr (0, 0, 0)), .inl (a1)] r3) (fun pc9 x9 st9 σ9 => ox_ev m_Out_state (ox_zz ox_ms (n + 6)) pc9 5 tl (ox_kl (m_Out_state.2.2.1 pc9) (ox_xl x9 [.inr (.inr (0, 0, 0)), .inl (a1), .inl (a2)])) st9 σ9)) rfl ?_
  refine ox_R_call (fc := (fun r : (Nat ⊕ Unit) => (((Sum.elim (fun e : Nat => (.inr e : Option ox_V ⊕ Nat)) (fun v : Unit => .inl none) r), r3) : ox_O))) (L_Out_checkEntry a1 r3 (n + 4) tl) (fun r4 => ?_)
  rcases r4 with e12 | x5
  · refine ox_R_of (Y := some (.inr e12, r3)) rfl ?_
    exact ox_R_ret rfl
  · refine ox_R_of (Y := ox_ev m_Out_state (ox_zz ox_ms (n + 6)) 12 5 tl [.inr (.inr (0, 0, 0)), .inl (a1), .inl (a2)] [] r3) rfl ?_
    refine ox_R_to 3 (Y := if a2 < (-1) then ox_ev m_Out_state (ox_zz ox_ms (n + 6)) 22 5 tl [ox_d, ox_d, ox_d] [] r3 else ox_ev m_Out_state (ox_zz ox_ms (n + 6)) 17 5 tl [.inr (.inr (0, 0, 0)), .inl (a1), .inl (a2)] [] r3) rfl ?_
    refine ox_R_if (fun _ => ?_) (fun _ => ?_)
    · exact (L_Out_state_22 r3 n tl)
    · refine ox_R_to 3 (Y := if a2 ≤ 3 then ox_ev m_Out_state (ox_zz ox_ms (n + 6)) 32 5 tl [.inr (.inr (0, 0, 0)), .inl (a1), .inl (a2)] [] r3 else ox_ev m_Out_state (ox_zz ox_ms (n + 6)) 22 5 tl [ox_d, ox_d, ox_d] [] r3) rfl ?_
      refine ox_R_if (fun _ => ?_) (fun _ => ?_)
      · refine ox_R_to 3 (Y := if a2 = 2 then ox_ev m_Out_state (ox_zz ox_ms (n + 6)) 37 5 tl [.inr (.inr (0, 0, 0)), .inl (a1), .inl (a2)] [] r3 else ox_ev m_Out_state (ox_zz ox_ms (n + 6)) 45 5 tl [.inr (.inr (0, 0, 0)), .inl (a1), .inl (a2)] [] r3) rfl ?_
        refine ox_R_if (fun _ => ?_) (fun _ => ?_)
        · refine ox_R_to 3 (Y := ox_back m_Out_state 39 0 [] ((ox_zz ox_ms (n + 6)) 22 tl [.inr (.inr (0, 0, 0)), .inl (a1)] r3) (fun pc9 x9 st9 σ9 => ox_ev m_Out_state (ox_zz ox_ms (n + 6)) pc9 2 tl (ox_kl (m_Out_state.2.2.1 pc9) (ox_xl x9 [.inr (.inr (0, 0, 0)), .inl (a1), .inl (a2)])) st9 σ9)) rfl ?_
          refine ox_R_call (fc := (fun r : (Nat ⊕ Unit) × ox_H => (((Sum.elim (fun e : Nat => (.inr e : Option ox_V ⊕ Nat)) (fun v : Unit => .inl none) r.1), r.2) : ox_O))) (L_Out_makeDone a1 r3 (n + 1) tl) (fun r6 => ?_)
          rcases r6 with ⟨e8 | x7, r69⟩
          · refine ox_R_of (Y := some (.inr e8, r69)) rfl ?_
            exact ox_R_ret rfl
          · refine ox_R_of (Y := ox_ev m_Out_state (ox_zz ox_ms (n + 6)) 42 2 tl [.inr (.inr (0, 0, 0)), .inl (a1), .inl (a2)] [] r69) rfl ?_
            refine ox_R_to 1 (Y := ox_ev m_Out_state (ox_zz ox_ms (n + 6)) 51 2 tl [.inr (.inr (0, 0, 0)), .inl (a1), ox_d] [] r69) rfl ?_
            exact (L_Out_state_51 a1 r69 n tl)
        · refine ox_R_to 4 (Y := ox_back m_Out_state 48 0 [] ((ox_zz ox_ms (n + 6)) 23 tl [.inr (.inr (0, 0, 0)), .inl (a1), .inl (a2)] r3) (fun pc9 x9 st9 σ9 => ox_ev m_Out_state (ox_zz ox_ms (n + 6)) pc9 2 tl (ox_kl (m_Out_state.2.2.1 pc9) (ox_xl x9 [.inr (.inr (0, 0, 0)), .inl (a1), .inl (a2)])) st9 σ9)) rfl ?_
          refine ox_R_call (fc := (fun r : (Nat ⊕ Unit) × ox_H => (((Sum.elim (fun e : Nat => (.inr e : Option ox_V ⊕ Nat)) (fun v : Unit => .inl none) r.1), r.2) : ox_O))) (L_Out_putState a1 a2 r3 (n + 3) tl) (fun r9 => ?_)
          rcases r9 with ⟨e11 | x10, r99⟩
          · refine ox_R_of (Y := some (.inr e11, r99)) rfl ?_
            exact ox_R_ret rfl
          · refine ox_R_of (Y := ox_ev m_Out_state (ox_zz ox_ms (n + 6)) 51 2 tl [.inr (.inr (0, 0, 0)), .inl (a1), ox_d] [] r99) rfl ?_
            exact (L_Out_state_51 a1 r99 n tl)
      · exact (L_Out_state_22 r3 n tl)
def J_Otl_firstSign_41  (s0 : Int) (σ : ox_H) : Option Int := some (s0 % 65536)
theorem L_Otl_firstSign_41  (s0 : Int) (σ : ox_H) (n tl : Nat) : ox_R (fun r => some ((fun r : Int => ((.inl (some (.inl r)), σ) : ox_O)) r)) (J_Otl_firstSign_41 s0 σ) (ox_ev m_Otl_firstSign (ox_zz ox_ms (n + 1)) 41 0 tl [ox_d, ox_d, ox_d] [.inl (s0)] σ) := by
  unfold J_Otl_firstSign_41
  refine ox_R_to 1 (Y := some (.inl (some (.inl (s0 % 65536))), σ)) rfl ?_
  exact ox_R_ret rfl
def F_Otl_firstSign  (a1 : Int) (σ : ox_H) : Option (Int) := (F_Otl_lineOf a1 σ).bind fun r1 => ((F_Otl_reading r1 σ).bind fun r2 => (if (σ 4 r2 10 0) ≤ (σ 4 r2 9 0) then (J_Otl_firstSign_41 0 σ) else ((F_Otl_lineOf a1 σ).bind fun r3 => ((F_Lin_at 0 r3 (σ 4 r2 9 0) σ).bind fun r4 => (J_Otl_firstSign_41 r4 σ)))))
theorem L_Otl_firstSign  (a1 : Int) (σ : ox_H) (n tl : Nat) : ox_R (fun r => some ((fun r : Int => ((.inl (some (.inl r)), σ) : ox_O)) r)) (F_Otl_firstSign a1 σ) (ox_zz ox_ms (n + 2) 180 tl [.inr (.inr (2, 0, 0)), .inl (a1)] σ) := by
  unfold F_Otl_firstSign
  refine ox_R_of (Y := ox_ev m_Otl_firstSign (ox_zz ox_ms (n + 1)) 0 0 tl [.inr (.inr (2, 0, 0)), .inl (a1), ox_d] [] σ) rfl ?_
  refine ox_R_to 4 (Y := ox_back m_Otl_firstSign 3 1 [.inr (.inr (2, 0, 0))] ((ox_zz ox_ms (n + 1)) 174 tl [.inr (.inr (2, 0, 0)), .inl (a1)] σ) (fun pc9 x9 st9 σ9 => ox_ev m_Otl_firstSign (ox_zz ox_ms (n + 1)) pc9 0 tl (ox_kl (m_Otl_firstSign.2.2.1 pc9) (ox_xl x9 [.inr (.inr (2, 0, 0)), .inl (a1), ox_d])) st9 σ9)) rfl ?_
  refine ox_R_call (fc := (fun r : Int => ((.inl (some (.inl r)), σ) : ox_O))) (L_Otl_lineOf a1 σ (n + 0) tl) (fun r1 => ?_)
  refine ox_R_of (Y := ox_ev m_Otl_firstSign (ox_zz ox_ms (n + 1)) 6 0 tl [.inr (.inr (2, 0, 0)), .inl (a1), ox_d] [.inl (r1), .inr (.inr (2, 0, 0))] σ) rfl ?_
  refine ox_R_to 1 (Y := ox_back m_Otl_firstSign 6 1 [] ((ox_zz ox_ms (n + 1)) 172 tl [.inr (.inr (2, 0, 0)), .inl (r1)] σ) (fun pc9 x9 st9 σ9 => ox_ev m_Otl_firstSign (ox_zz ox_ms (n + 1)) pc9 0 tl (ox_kl (m_Otl_firstSign.2.2.1 pc9) (ox_xl x9 [.inr (.inr (2, 0, 0)), .inl (a1), ox_d])) st9 σ9)) rfl ?_
  refine ox_R_call (fc := (fun r : Nat => ((.inl (some (.inr (.inr (4, r, 0)))), σ) : ox_O))) (L_Otl_reading r1 σ (n + 0) tl) (fun r2 => ?_)
  refine ox_R_of (Y := ox_ev m_Otl_firstSign (ox_zz ox_ms (n + 1)) 9 0 tl [.inr (.inr (2, 0, 0)), .inl (a1), ox_d] [.inr (.inr (4, r2, 0))] σ) rfl ?_
  refine ox_R_to 6 (Y := if (σ 4 r2 10 0) ≤ (σ 4 r2 9 0) then ox_ev m_Otl_firstSign (ox_zz ox_ms (n + 1)) 40 0 tl [.inr (.inr (2, 0, 0)), .inl (a1), .inr (.inr (4, r2, 0))] [] σ else ox_ev m_Otl_firstSign (ox_zz ox_ms (n + 1)) 21 0 tl [.inr (.inr (2, 0, 0)), .inl (a1), .inr (.inr (4, r2, 0))] [] σ) rfl ?_
  refine ox_R_if (fun _ => ?_) (fun _ => ?_)
  · refine ox_R_to 1 (Y := ox_ev m_Otl_firstSign (ox_zz ox_ms (n + 1)) 41 0 tl [ox_d, ox_d, ox_d] [.inl (0)] σ) rfl ?_
    exact (L_Otl_firstSign_41 0 σ n tl)
  · refine ox_R_to 5 (Y := ox_back m_Otl_firstSign 27 1 [.inr (.inr (1, 0, 0))] ((ox_zz ox_ms (n + 1)) 174 tl [.inr (.inr (2, 0, 0)), .inl (a1)] σ) (fun pc9 x9 st9 σ9 => ox_ev m_Otl_firstSign (ox_zz ox_ms (n + 1)) pc9 0 tl (ox_kl (m_Otl_firstSign.2.2.1 pc9) (ox_xl x9 [.inr (.inr (2, 0, 0)), .inl (a1), .inr (.inr (4, r2, 0))])) st9 σ9)) rfl ?_
    refine ox_R_call (fc := (fun r : Int => ((.inl (some (.inl r)), σ) : ox_O))) (L_Otl_lineOf a1 σ (n + 0) tl) (fun r3 => ?_)
    refine ox_R_of (Y := ox_ev m_Otl_firstSign (ox_zz ox_ms (n + 1)) 30 0 tl [.inr (.inr (2, 0, 0)), .inl (a1), .inr (.inr (4, r2, 0))] [.inl (r3), .inr (.inr (1, 0, 0))] σ) rfl ?_
    refine ox_R_to 3 (Y := ox_back m_Otl_firstSign 34 3 [] ((ox_zz ox_ms (n + 1)) 157 tl [.inr (.inr (1, 0, 0)), .inl (r3), .inl (σ 4 r2 9 0)] σ) (fun pc9 x9 st9 σ9 => ox_ev m_Otl_firstSign (ox_zz ox_ms (n + 1)) pc9 0 tl (ox_kl (m_Otl_firstSign.2.2.1 pc9) (ox_xl x9 [.inr (.inr (2, 0, 0)), .inl (a1), .inr (.inr (4, r2, 0))])) st9 σ9)) rfl ?_
    refine ox_R_call (fc := (fun r : Int => ((.inl (some (.inl r)), σ) : ox_O))) (L_Lin_at 0 r3 (σ 4 r2 9 0) σ (n + 0) tl) (fun r4 => ?_)
    refine ox_R_of (Y := ox_ev m_Otl_firstSign (ox_zz ox_ms (n + 1)) 37 0 tl [.inr (.inr (2, 0, 0)), .inl (a1), .inr (.inr (4, r2, 0))] [.inl (r4)] σ) rfl ?_
    refine ox_R_to 1 (Y := ox_ev m_Otl_firstSign (ox_zz ox_ms (n + 1)) 41 0 tl [ox_d, ox_d, ox_d] [.inl (r4)] σ) rfl ?_
    exact (L_Otl_firstSign_41 r4 σ n tl)
def J_Otl_titled_31  (σ : ox_H) : Option Int := some (-1)
theorem L_Otl_titled_31  (σ : ox_H) (n tl : Nat) : ox_R (fun r => some ((fun r : Int => ((.inl (some (.inl r)), σ) : ox_O)) r)) (J_Otl_titled_31 σ) (ox_ev m_Otl_titled (ox_zz ox_ms (n + 2)) 31 0 tl [ox_d, ox_d, ox_d] [] σ) := by
  unfold J_Otl_titled_31
  refine ox_R_to 2 (Y := some (.inl (some (.inl ((-1)))), σ)) rfl ?_
  exact ox_R_ret rfl
def J_Otl_titled_23  (v2 : Int) (σ : ox_H) : Option Int := some v2
theorem L_Otl_titled_23  (v2 : Int) (σ : ox_H) (n tl : Nat) : ox_R (fun r => some ((fun r : Int => ((.inl (some (.inl r)), σ) : ox_O)) r)) (J_Otl_titled_23 v2 σ) (ox_ev m_Otl_titled (ox_zz ox_ms (n + 2)) 23 0 tl [ox_d, ox_d, .inl (v2)] [] σ) := by
  unfold J_Otl_titled_23
  refine ox_R_to 2 (Y := some (.inl (some (.inl (v2))), σ)) rfl ?_
  exact ox_R_ret rfl
def B_Otl_titled_2  (v1 : Int) (σ : ox_H) : (Int) → Option (((Int) ⊕ Int)) := fun v2 => if (σ 2 0 9 0) ≤ v2 then ((J_Otl_titled_31 σ).map .inr) else (if v1 = 0 then ((J_Otl_titled_31 σ).map .inr) else ((F_Otl_firstSign v2 σ).bind fun r1 => (if r1 = v1 then ((J_Otl_titled_23 v2 σ).map .inr) else (some (.inl (ox_w (v2 + 1)))))))
def J_Otl_titled_2  (v1 : Int) (v2 : Int) (σ : ox_H) : Option (Int) := ox_lp (B_Otl_titled_2 v1 σ) ox_fu v2
theorem L_Otl_titled_2  (v1 : Int) (v2 : Int) (σ : ox_H) (n tl : Nat) : ox_R (fun r => some ((fun r : Int => ((.inl (some (.inl r)), σ) : ox_O)) r)) (J_Otl_titled_2 v1 v2 σ) (ox_ev m_Otl_titled (ox_zz ox_ms (n + 2)) 2 0 tl [.inr (.inr (2, 0, 0)), .inl (v1), .inl (v2)] [] σ) := by
  unfold J_Otl_titled_2
  refine ox_R_lp (ψ := (fun (v2 : Int) => ox_ev m_Otl_titled (ox_zz ox_ms (n + 2)) 2 0 tl [.inr (.inr (2, 0, 0)), .inl (v1), .inl (v2)] [] σ)) ?_ ox_fu v2
  intro s
  revert s; intro v2
  unfold B_Otl_titled_2
  refine ox_R_to 4 (Y := if (σ 2 0 9 0) ≤ v2 then ox_ev m_Otl_titled (ox_zz ox_ms (n + 2)) 31 0 tl [ox_d, ox_d, ox_d] [] σ else ox_ev m_Otl_titled (ox_zz ox_ms (n + 2)) 10 0 tl [.inr (.inr (2, 0, 0)), .inl (v1), .inl (v2)] [] σ) rfl ?_
  refine ox_R_if (fun _ => ?_) (fun _ => ?_)
  · exact ox_R_map ((L_Otl_titled_31 σ n tl))
  · refine ox_R_to 2 (Y := if v1 = 0 then ox_ev m_Otl_titled (ox_zz ox_ms (n + 2)) 31 0 tl [ox_d, ox_d, ox_d] [] σ else ox_ev m_Otl_titled (ox_zz ox_ms (n + 2)) 14 0 tl [.inr (.inr (2, 0, 0)), .inl (v1), .inl (v2)] [] σ) rfl ?_
    refine ox_R_if (fun _ => ?_) (fun _ => ?_)
    · exact ox_R_map ((L_Otl_titled_31 σ n tl))
    · refine ox_R_to 3 (Y := ox_back m_Otl_titled 16 1 [] ((ox_zz ox_ms (n + 2)) 180 tl [.inr (.inr (2, 0, 0)), .inl (v2)] σ) (fun pc9 x9 st9 σ9 => ox_ev m_Otl_titled (ox_zz ox_ms (n + 2)) pc9 0 tl (ox_kl (m_Otl_titled.2.2.1 pc9) (ox_xl x9 [.inr (.inr (2, 0, 0)), .inl (v1), .inl (v2)])) st9 σ9)) rfl ?_
      refine ox_R_call (fc := (fun r : Int => ((.inl (some (.inl r)), σ) : ox_O))) (L_Otl_firstSign v2 σ (n + 0) tl) (fun r1 => ?_)
      refine ox_R_of (Y := ox_ev m_Otl_titled (ox_zz ox_ms (n + 2)) 19 0 tl [.inr (.inr (2, 0, 0)), .inl (v1), .inl (v2)] [.inl (r1)] σ) rfl ?_
      refine ox_R_to 2 (Y := if r1 = v1 then ox_ev m_Otl_titled (ox_zz ox_ms (n + 2)) 23 0 tl [ox_d, ox_d, .inl (v2)] [] σ else ox_ev m_Otl_titled (ox_zz ox_ms (n + 2)) 25 0 tl [.inr (.inr (2, 0, 0)), .inl (v1), .inl (v2)] [] σ) rfl ?_
      refine ox_R_if (fun _ => ?_) (fun _ => ?_)
      · exact ox_R_map ((L_Otl_titled_23 v2 σ n tl))
      · refine ox_R_to 2 (Y := ox_ev m_Otl_titled (ox_zz ox_ms (n + 2)) 2 0 tl [.inr (.inr (2, 0, 0)), .inl (v1), .inl (ox_w (v2 + 1))] [] σ) rfl ?_
        exact ox_R_ret rfl
def F_Otl_titled  (a1 : Int) (σ : ox_H) : Option (Int) := (J_Otl_titled_2 a1 0 σ)
theorem L_Otl_titled  (a1 : Int) (σ : ox_H) (n tl : Nat) : ox_R (fun r => some ((fun r : Int => ((.inl (some (.inl r)), σ) : ox_O)) r)) (F_Otl_titled a1 σ) (ox_zz ox_ms (n + 3) 181 tl [.inr (.inr (2, 0, 0)), .inl (a1)] σ) := by
  unfold F_Otl_titled
  refine ox_R_of (Y := ox_ev m_Otl_titled (ox_zz ox_ms (n + 2)) 0 0 tl [.inr (.inr (2, 0, 0)), .inl (a1), ox_d] [] σ) rfl ?_
  refine ox_R_to 2 (Y := ox_ev m_Otl_titled (ox_zz ox_ms (n + 2)) 2 0 tl [.inr (.inr (2, 0, 0)), .inl (a1), .inl (0)] [] σ) rfl ?_
  exact (L_Otl_titled_2 a1 0 σ n tl)
def J_Otl_endUnder_20  (s0 : Int) (σ : ox_H) : Option Int := some s0
theorem L_Otl_endUnder_20  (s0 : Int) (σ : ox_H) (n tl : Nat) : ox_R (fun r => some ((fun r : Int => ((.inl (some (.inl r)), σ) : ox_O)) r)) (J_Otl_endUnder_20 s0 σ) (ox_ev m_Otl_endUnder (ox_zz ox_ms (n + 3)) 20 0 tl [ox_d, ox_d] [.inl (s0)] σ) := by
  unfold J_Otl_endUnder_20
  refine ox_R_to 1 (Y := some (.inl (some (.inl (s0))), σ)) rfl ?_
  exact ox_R_ret rfl
def F_Otl_endUnder  (a1 : Int) (σ : ox_H) : Option (Int) := if a1 = (-1) then (J_Otl_endUnder_20 (σ 1 0 4 0) σ) else ((F_Otl_partEnd a1 σ).bind fun r1 => (J_Otl_endUnder_20 r1 σ))
theorem L_Otl_endUnder  (a1 : Int) (σ : ox_H) (n tl : Nat) : ox_R (fun r => some ((fun r : Int => ((.inl (some (.inl r)), σ) : ox_O)) r)) (F_Otl_endUnder a1 σ) (ox_zz ox_ms (n + 4) 186 tl [.inr (.inr (2, 0, 0)), .inl (a1)] σ) := by
  unfold F_Otl_endUnder
  refine ox_R_of (Y := ox_ev m_Otl_endUnder (ox_zz ox_ms (n + 3)) 0 0 tl [.inr (.inr (2, 0, 0)), .inl (a1)] [] σ) rfl ?_
  refine ox_R_to 3 (Y := if a1 = (-1) then ox_ev m_Otl_endUnder (ox_zz ox_ms (n + 3)) 5 0 tl [.inr (.inr (2, 0, 0)), .inl (a1)] [] σ else ox_ev m_Otl_endUnder (ox_zz ox_ms (n + 3)) 15 0 tl [.inr (.inr (2, 0, 0)), .inl (a1)] [] σ) rfl ?_
  refine ox_R_if (fun _ => ?_) (fun _ => ?_)
  · refine ox_R_to 4 (Y := ox_ev m_Otl_endUnder (ox_zz ox_ms (n + 3)) 20 0 tl [ox_d, ox_d] [.inl (σ 1 0 4 0)] σ) rfl ?_
    exact (L_Otl_endUnder_20 (σ 1 0 4 0) σ n tl)
  · refine ox_R_to 3 (Y := ox_back m_Otl_endUnder 17 1 [] ((ox_zz ox_ms (n + 3)) 185 tl [.inr (.inr (2, 0, 0)), .inl (a1)] σ) (fun pc9 x9 st9 σ9 => ox_ev m_Otl_endUnder (ox_zz ox_ms (n + 3)) pc9 0 tl (ox_kl (m_Otl_endUnder.2.2.1 pc9) (ox_xl x9 [.inr (.inr (2, 0, 0)), .inl (a1)])) st9 σ9)) rfl ?_
    refine ox_R_call (fc := (fun r : Int => ((.inl (some (.inl r)), σ) : ox_O))) (L_Otl_partEnd a1 σ (n + 0) tl) (fun r1 => ?_)
    refine ox_R_of (Y := ox_ev m_Otl_endUnder (ox_zz ox_ms (n + 3)) 20 0 tl [ox_d, ox_d] [.inl (r1)] σ) rfl ?_
    exact (L_Otl_endUnder_20 r1 σ n tl)
def J_Lin_addWord_26  (σ : ox_H) : Option ox_H := some σ
theorem L_Lin_addWord_26  (σ : ox_H) (n tl : Nat) : ox_R (fun r => some ((fun r : ox_H => ((.inl none, r) : ox_O)) r)) (J_Lin_addWord_26 σ) (ox_ev m_Lin_addWord (ox_zz ox_ms (n + 1)) 26 0 tl [ox_d, ox_d, ox_d, ox_d] [] σ) := by
  unfold J_Lin_addWord_26
  refine ox_R_to 1 (Y := some (.inl none, σ)) rfl ?_
  exact ox_R_ret rfl
def B_Lin_addWord_2  (v0 : Nat) (v1 : Int) (v2 : Nat) : (Int × ox_H) → Option (((Int × ox_H) ⊕ ox_H)) := fun (v3, σ) => if (ox_sl v2 : Nat) ≤ v3 then ((J_Lin_addWord_26 σ).map .inr) else (if 0 ≤ v3 ∧ v3.toNat < ox_sl v2 then ((F_Lin_add v0 v1 (ox_sa v2 v3.toNat) σ).bind fun r1 => (some (.inl (ox_w (v3 + 1), r1)))) else none)
def J_Lin_addWord_2  (v0 : Nat) (v1 : Int) (v2 : Nat) (v3 : Int) (σ : ox_H) : Option (ox_H) := ox_lp (B_Lin_addWord_2 v0 v1 v2) ox_fu (v3, σ)
theorem L_Lin_addWord_2  (v0 : Nat) (v1 : Int) (v2 : Nat) (v3 : Int) (σ : ox_H) (n tl : Nat) : ox_R (fun r => some ((fun r : ox_H => ((.inl none, r) : ox_O)) r)) (J_Lin_addWord_2 v0 v1 v2 v3 σ) (ox_ev m_Lin_addWord (ox_zz ox_ms (n + 1)) 2 0 tl [.inr (.inr (1, v0, 0)), .inl (v1), .inr (.inr (200, v2, 0)), .inl (v3)] [] σ) := by
  unfold J_Lin_addWord_2
  refine ox_R_lp (ψ := (fun (s : Int × ox_H) => match s with | (v3, σ) => ox_ev m_Lin_addWord (ox_zz ox_ms (n + 1)) 2 0 tl [.inr (.inr (1, v0, 0)), .inl (v1), .inr (.inr (200, v2, 0)), .inl (v3)] [] σ)) ?_ ox_fu (v3, σ)
  intro s
  obtain ⟨v3, σ⟩ := s
  unfold B_Lin_addWord_2
  refine ox_R_to 4 (Y := if (ox_sl v2 : Nat) ≤ v3 then ox_ev m_Lin_addWord (ox_zz ox_ms (n + 1)) 26 0 tl [ox_d, ox_d, ox_d, ox_d] [] σ else ox_ev m_Lin_addWord (ox_zz ox_ms (n + 1)) 10 0 tl [.inr (.inr (1, v0, 0)), .inl (v1), .inr (.inr (200, v2, 0)), .inl (v3)] [] σ) rfl ?_
  refine ox_R_if (fun _ => ?_) (fun _ => ?_)
  · exact ox_R_map ((L_Lin_addWord_26 σ n tl))
  · refine ox_R_to 5 (Y := if 0 ≤ v3 ∧ v3.toNat < ox_sl v2 then ox_ev m_Lin_addWord (ox_zz ox_ms (n + 1)) 17 0 tl [.inr (.inr (1, v0, 0)), .inl (v1), .inr (.inr (200, v2, 0)), .inl (v3)] [.inl (ox_sa v2 v3.toNat), .inl (v1), .inr (.inr (1, v0, 0))] σ else none) rfl ?_
    refine ox_R_if (fun _ => ?_) (fun _ => ox_R_none)
    refine ox_R_to 1 (Y := ox_back m_Lin_addWord 17 0 [] ((ox_zz ox_ms (n + 1)) 163 tl [.inr (.inr (1, v0, 0)), .inl (v1), .inl (ox_sa v2 v3.toNat)] σ) (fun pc9 x9 st9 σ9 => ox_ev m_Lin_addWord (ox_zz ox_ms (n + 1)) pc9 0 tl (ox_kl (m_Lin_addWord.2.2.1 pc9) (ox_xl x9 [.inr (.inr (1, v0, 0)), .inl (v1), .inr (.inr (200, v2, 0)), .inl (v3)])) st9 σ9)) rfl ?_
    refine ox_R_call (fc := (fun r : ox_H => ((.inl none, r) : ox_O))) (L_Lin_add v0 v1 (ox_sa v2 v3.toNat) σ (n + 0) tl) (fun r1 => ?_)
    refine ox_R_of (Y := ox_ev m_Lin_addWord (ox_zz ox_ms (n + 1)) 20 0 tl [.inr (.inr (1, v0, 0)), .inl (v1), .inr (.inr (200, v2, 0)), .inl (v3)] [] r1) rfl ?_
    refine ox_R_to 2 (Y := ox_ev m_Lin_addWord (ox_zz ox_ms (n + 1)) 2 0 tl [.inr (.inr (1, v0, 0)), .inl (v1), .inr (.inr (200, v2, 0)), .inl (ox_w (v3 + 1))] [] r1) rfl ?_
    exact ox_R_ret rfl
def F_Lin_addWord  (k : Nat) (a1 : Int) (w2 : Nat) (σ : ox_H) : Option (ox_H) := (J_Lin_addWord_2 k a1 w2 0 σ)
theorem L_Lin_addWord  (k : Nat) (a1 : Int) (w2 : Nat) (σ : ox_H) (n tl : Nat) : ox_R (fun r => some ((fun r : ox_H => ((.inl none, r) : ox_O)) r)) (F_Lin_addWord k a1 w2 σ) (ox_zz ox_ms (n + 2) 164 tl [.inr (.inr (1, k, 0)), .inl (a1), .inr (.inr (200, w2, 0))] σ) := by
  unfold F_Lin_addWord
  refine ox_R_of (Y := ox_ev m_Lin_addWord (ox_zz ox_ms (n + 1)) 0 0 tl [.inr (.inr (1, k, 0)), .inl (a1), .inr (.inr (200, w2, 0)), ox_d] [] σ) rfl ?_
  refine ox_R_to 2 (Y := ox_ev m_Lin_addWord (ox_zz ox_ms (n + 1)) 2 0 tl [.inr (.inr (1, k, 0)), .inl (a1), .inr (.inr (200, w2, 0)), .inl (0)] [] σ) rfl ?_
  exact (L_Lin_addWord_2 k a1 w2 0 σ n tl)
def J_Out_capture_117  (v2 : Int) (v5 : Int) (σ : ox_H) : Option ((Nat ⊕ Int) × ox_H) := (F_Lin_addWord 0 v5 5 σ).bind fun r1 => ((F_Lin_add 0 v5 ((ox_w (97 + v2)) % 65536) r1).bind fun r2 => ((F_Otl_refresh r2).bind fun r3 => ((F_Otl_ownerOf v5 r3).bind fun r4 => (some (.inr r4, r3)))))
theorem L_Out_capture_117  (v2 : Int) (v5 : Int) (σ : ox_H) (n tl : Nat) : ox_R (fun r => some ((fun r : (Nat ⊕ Int) × ox_H => (((Sum.elim (fun e : Nat => (.inr e : Option ox_V ⊕ Nat)) (fun v : Int => .inl (some (.inl v))) r.1), r.2) : ox_O)) r)) (J_Out_capture_117 v2 v5 σ) (ox_ev m_Out_capture (ox_zz ox_ms (n + 6)) 117 1 tl [.inr (.inr (0, 0, 0)), ox_d, .inl (v2), ox_d, ox_d, .inl (v5), ox_d] [] σ) := by
  unfold J_Out_capture_117
  refine ox_R_to 5 (Y := ox_back m_Out_capture 125 2 [] ((ox_zz ox_ms (n + 6)) 164 tl [.inr (.inr (1, 0, 0)), .inl (v5), .inr (.inr (200, 5, 0))] σ) (fun pc9 x9 st9 σ9 => ox_ev m_Out_capture (ox_zz ox_ms (n + 6)) pc9 1 tl (ox_kl (m_Out_capture.2.2.1 pc9) (ox_xl x9 [.inr (.inr (0, 0, 0)), ox_d, .inl (v2), ox_d, ox_d, .inl (v5), ox_d])) st9 σ9)) rfl ?_
  refine ox_R_call (fc := (fun r : ox_H => ((.inl none, r) : ox_O))) (L_Lin_addWord 0 v5 5 σ (n + 4) tl) (fun r1 => ?_)
  refine ox_R_of (Y := ox_ev m_Out_capture (ox_zz ox_ms (n + 6)) 128 1 tl [.inr (.inr (0, 0, 0)), ox_d, .inl (v2), ox_d, ox_d, .inl (v5), ox_d] [] r1) rfl ?_
  refine ox_R_to 8 (Y := ox_back m_Out_capture 139 2 [] ((ox_zz ox_ms (n + 6)) 163 tl [.inr (.inr (1, 0, 0)), .inl (v5), .inl ((ox_w (97 + v2)) % 65536)] r1) (fun pc9 x9 st9 σ9 => ox_ev m_Out_capture (ox_zz ox_ms (n + 6)) pc9 1 tl (ox_kl (m_Out_capture.2.2.1 pc9) (ox_xl x9 [.inr (.inr (0, 0, 0)), ox_d, .inl (v2), ox_d, ox_d, .inl (v5), ox_d])) st9 σ9)) rfl ?_
  refine ox_R_call (fc := (fun r : ox_H => ((.inl none, r) : ox_O))) (L_Lin_add 0 v5 ((ox_w (97 + v2)) % 65536) r1 (n + 5) tl) (fun r2 => ?_)
  refine ox_R_of (Y := ox_ev m_Out_capture (ox_zz ox_ms (n + 6)) 142 1 tl [.inr (.inr (0, 0, 0)), ox_d, .inl (v2), ox_d, ox_d, .inl (v5), ox_d] [] r2) rfl ?_
  refine ox_R_to 3 (Y := ox_back m_Out_capture 146 2 [] ((ox_zz ox_ms (n + 6)) 169 tl [.inr (.inr (2, 0, 0))] r2) (fun pc9 x9 st9 σ9 => ox_ev m_Out_capture (ox_zz ox_ms (n + 6)) pc9 1 tl (ox_kl (m_Out_capture.2.2.1 pc9) (ox_xl x9 [.inr (.inr (0, 0, 0)), ox_d, .inl (v2), ox_d, ox_d, .inl (v5), ox_d])) st9 σ9)) rfl ?_
  refine ox_R_call (fc := (fun r : ox_H => ((.inl none, r) : ox_O))) (L_Otl_refresh r2 (n + 0) tl) (fun r3 => ?_)
  refine ox_R_of (Y := ox_ev m_Out_capture (ox_zz ox_ms (n + 6)) 149 1 tl [.inr (.inr (0, 0, 0)), ox_d, .inl (v2), ox_d, ox_d, .inl (v5), ox_d] [] r3) rfl ?_
  refine ox_R_to 4 (Y := ox_back m_Out_capture 155 3 [] ((ox_zz ox_ms (n + 6)) 173 tl [.inr (.inr (2, 0, 0)), .inl (v5)] r3) (fun pc9 x9 st9 σ9 => ox_ev m_Out_capture (ox_zz ox_ms (n + 6)) pc9 1 tl (ox_kl (m_Out_capture.2.2.1 pc9) (ox_xl x9 [.inr (.inr (0, 0, 0)), ox_d, .inl (v2), ox_d, ox_d, .inl (v5), ox_d])) st9 σ9)) rfl ?_
  refine ox_R_call (fc := (fun r : Int => ((.inl (some (.inl r)), r3) : ox_O))) (L_Otl_ownerOf v5 r3 (n + 5) tl) (fun r4 => ?_)
  refine ox_R_of (Y := ox_ev m_Out_capture (ox_zz ox_ms (n + 6)) 158 1 tl [.inr (.inr (0, 0, 0)), ox_d, .inl (v2), ox_d, ox_d, .inl (v5), ox_d] [.inl (r4)] r3) rfl ?_
  refine ox_R_to 1 (Y := some (.inl (some (.inl (r4))), r3)) rfl ?_
  exact ox_R_ret rfl
def B_Out_capture_93  (v2 : Int) (v4 : Int) (v5 : Int) : (Int × ox_H) → Option (((Int × ox_H) ⊕ (Nat ⊕ Int) × ox_H)) := fun (v6, σ) => if v4 ≤ v6 then ((J_Out_capture_117 v2 v5 σ).map .inr) else ((F_Lin_add 0 v5 42 σ).bind fun r5 => (some (.inl (ox_w (v6 + 1), r5))))
def J_Out_capture_93  (v2 : Int) (v4 : Int) (v5 : Int) (v6 : Int) (σ : ox_H) : Option ((Nat ⊕ Int) × ox_H) := ox_lp (B_Out_capture_93 v2 v4 v5) ox_fu (v6, σ)
theorem L_Out_capture_93  (v2 : Int) (v4 : Int) (v5 : Int) (v6 : Int) (σ : ox_H) (n tl : Nat) : ox_R (fun r => some ((fun r : (Nat ⊕ Int) × ox_H => (((Sum.elim (fun e : Nat => (.inr e : Option ox_V ⊕ Nat)) (fun v : Int => .inl (some (.inl v))) r.1), r.2) : ox_O)) r)) (J_Out_capture_93 v2 v4 v5 v6 σ) (ox_ev m_Out_capture (ox_zz ox_ms (n + 6)) 93 1 tl [.inr (.inr (0, 0, 0)), ox_d, .inl (v2), ox_d, .inl (v4), .inl (v5), .inl (v6)] [] σ) := by
  unfold J_Out_capture_93
  refine ox_R_lp (ψ := (fun (s : Int × ox_H) => match s with | (v6, σ) => ox_ev m_Out_capture (ox_zz ox_ms (n + 6)) 93 1 tl [.inr (.inr (0, 0, 0)), ox_d, .inl (v2), ox_d, .inl (v4), .inl (v5), .inl (v6)] [] σ)) ?_ ox_fu (v6, σ)
  intro s
  obtain ⟨v6, σ⟩ := s
  unfold B_Out_capture_93
  refine ox_R_to 3 (Y := if v4 ≤ v6 then ox_ev m_Out_capture (ox_zz ox_ms (n + 6)) 117 1 tl [.inr (.inr (0, 0, 0)), ox_d, .inl (v2), ox_d, ox_d, .inl (v5), ox_d] [] σ else ox_ev m_Out_capture (ox_zz ox_ms (n + 6)) 100 1 tl [.inr (.inr (0, 0, 0)), ox_d, .inl (v2), ox_d, .inl (v4), .inl (v5), .inl (v6)] [] σ) rfl ?_
  refine ox_R_if (fun _ => ?_) (fun _ => ?_)
  · exact ox_R_map ((L_Out_capture_117 v2 v5 σ n tl))
  · refine ox_R_to 5 (Y := ox_back m_Out_capture 108 2 [] ((ox_zz ox_ms (n + 6)) 163 tl [.inr (.inr (1, 0, 0)), .inl (v5), .inl (42)] σ) (fun pc9 x9 st9 σ9 => ox_ev m_Out_capture (ox_zz ox_ms (n + 6)) pc9 1 tl (ox_kl (m_Out_capture.2.2.1 pc9) (ox_xl x9 [.inr (.inr (0, 0, 0)), ox_d, .inl (v2), ox_d, .inl (v4), .inl (v5), .inl (v6)])) st9 σ9)) rfl ?_
    refine ox_R_call (fc := (fun r : ox_H => ((.inl none, r) : ox_O))) (L_Lin_add 0 v5 42 σ (n + 5) tl) (fun r5 => ?_)
    refine ox_R_of (Y := ox_ev m_Out_capture (ox_zz ox_ms (n + 6)) 111 1 tl [.inr (.inr (0, 0, 0)), ox_d, .inl (v2), ox_d, .inl (v4), .inl (v5), .inl (v6)] [] r5) rfl ?_
    refine ox_R_to 2 (Y := ox_ev m_Out_capture (ox_zz ox_ms (n + 6)) 93 1 tl [.inr (.inr (0, 0, 0)), ox_d, .inl (v2), ox_d, .inl (v4), .inl (v5), .inl (ox_w (v6 + 1))] [] r5) rfl ?_
    exact ox_R_ret rfl
def J_Out_capture_47  (v2 : Int) (v3 : Int) (s0 : Int) (σ : ox_H) : Option ((Nat ⊕ Int) × ox_H) := if s0 ≤ 5 then ((F_Out_checkRoom 1 σ).bind fun r6 => match r6 with | .inl e10 => (some (.inl e10, σ)) | .inr x7 => ((F_Otl_endUnder v3 σ).bind fun r8 => ((F_Lin_open 0 r8 1 σ).bind fun r9 => (J_Out_capture_93 v2 s0 r8 0 r9)))) else (some (.inl 3, σ))
theorem L_Out_capture_47  (v2 : Int) (v3 : Int) (s0 : Int) (σ : ox_H) (n tl : Nat) : ox_R (fun r => some ((fun r : (Nat ⊕ Int) × ox_H => (((Sum.elim (fun e : Nat => (.inr e : Option ox_V ⊕ Nat)) (fun v : Int => .inl (some (.inl v))) r.1), r.2) : ox_O)) r)) (J_Out_capture_47 v2 v3 s0 σ) (ox_ev m_Out_capture (ox_zz ox_ms (n + 6)) 47 2 tl [.inr (.inr (0, 0, 0)), ox_d, .inl (v2), .inl (v3), ox_d, ox_d, ox_d] [.inl (s0)] σ) := by
  unfold J_Out_capture_47
  refine ox_R_to 4 (Y := if s0 ≤ 5 then ox_ev m_Out_capture (ox_zz ox_ms (n + 6)) 65 2 tl [.inr (.inr (0, 0, 0)), ox_d, .inl (v2), .inl (v3), .inl (s0), ox_d, ox_d] [] σ else ox_ev m_Out_capture (ox_zz ox_ms (n + 6)) 55 2 tl [.inr (.inr (0, 0, 0)), ox_d, .inl (v2), .inl (v3), .inl (s0), ox_d, ox_d] [] σ) rfl ?_
  refine ox_R_if (fun _ => ?_) (fun _ => ?_)
  · refine ox_R_to 3 (Y := ox_back m_Out_capture 67 0 [] ((ox_zz ox_ms (n + 6)) 8 tl [.inr (.inr (0, 0, 0)), .inl (1)] σ) (fun pc9 x9 st9 σ9 => ox_ev m_Out_capture (ox_zz ox_ms (n + 6)) pc9 1 tl (ox_kl (m_Out_capture.2.2.1 pc9) (ox_xl x9 [.inr (.inr (0, 0, 0)), ox_d, .inl (v2), .inl (v3), .inl (s0), ox_d, ox_d])) st9 σ9)) rfl ?_
    refine ox_R_call (fc := (fun r : (Nat ⊕ Unit) => (((Sum.elim (fun e : Nat => (.inr e : Option ox_V ⊕ Nat)) (fun v : Unit => .inl none) r), σ) : ox_O))) (L_Out_checkRoom 1 σ (n + 4) tl) (fun r6 => ?_)
    rcases r6 with e10 | x7
    · refine ox_R_of (Y := some (.inr e10, σ)) rfl ?_
      exact ox_R_ret rfl
    · refine ox_R_of (Y := ox_ev m_Out_capture (ox_zz ox_ms (n + 6)) 70 1 tl [.inr (.inr (0, 0, 0)), ox_d, .inl (v2), .inl (v3), .inl (s0), ox_d, ox_d] [] σ) rfl ?_
      refine ox_R_to 4 (Y := ox_back m_Out_capture 75 3 [] ((ox_zz ox_ms (n + 6)) 186 tl [.inr (.inr (2, 0, 0)), .inl (v3)] σ) (fun pc9 x9 st9 σ9 => ox_ev m_Out_capture (ox_zz ox_ms (n + 6)) pc9 1 tl (ox_kl (m_Out_capture.2.2.1 pc9) (ox_xl x9 [.inr (.inr (0, 0, 0)), ox_d, .inl (v2), .inl (v3), .inl (s0), ox_d, ox_d])) st9 σ9)) rfl ?_
      refine ox_R_call (fc := (fun r : Int => ((.inl (some (.inl r)), σ) : ox_O))) (L_Otl_endUnder v3 σ (n + 2) tl) (fun r8 => ?_)
      refine ox_R_of (Y := ox_ev m_Out_capture (ox_zz ox_ms (n + 6)) 78 1 tl [.inr (.inr (0, 0, 0)), ox_d, .inl (v2), .inl (v3), .inl (s0), ox_d, ox_d] [.inl (r8)] σ) rfl ?_
      refine ox_R_to 6 (Y := ox_back m_Out_capture 87 2 [] ((ox_zz ox_ms (n + 6)) 158 tl [.inr (.inr (1, 0, 0)), .inl (r8), .inl (1)] σ) (fun pc9 x9 st9 σ9 => ox_ev m_Out_capture (ox_zz ox_ms (n + 6)) pc9 1 tl (ox_kl (m_Out_capture.2.2.1 pc9) (ox_xl x9 [.inr (.inr (0, 0, 0)), ox_d, .inl (v2), .inl (v3), .inl (s0), .inl (r8), ox_d])) st9 σ9)) rfl ?_
      refine ox_R_call (fc := (fun r : ox_H => ((.inl none, r) : ox_O))) (L_Lin_open 0 r8 1 σ (n + 5) tl) (fun r9 => ?_)
      refine ox_R_of (Y := ox_ev m_Out_capture (ox_zz ox_ms (n + 6)) 90 1 tl [.inr (.inr (0, 0, 0)), ox_d, .inl (v2), .inl (v3), .inl (s0), .inl (r8), ox_d] [] r9) rfl ?_
      refine ox_R_to 2 (Y := ox_ev m_Out_capture (ox_zz ox_ms (n + 6)) 93 1 tl [.inr (.inr (0, 0, 0)), ox_d, .inl (v2), ox_d, .inl (s0), .inl (r8), .inl (0)] [] r9) rfl ?_
      exact (L_Out_capture_93 v2 s0 r8 0 r9 n tl)
  · refine ox_R_to 1 (Y := some (.inr 3, σ)) rfl ?_
    exact ox_R_ret rfl
def F_Out_capture  (a1 : Int) (a2 : Int) (σ : ox_H) : Option ((Nat ⊕ Int) × ox_H) := (F_Out_checkLetter a1 σ).bind fun r11 => match r11 with | .inl e19 => (some (.inl e19, σ)) | .inr x12 => ((F_Out_checkLetter a2 σ).bind fun r13 => match r13 with | .inl e18 => (some (.inl e18, σ)) | .inr x14 => ((F_Otl_refresh σ).bind fun r15 => ((F_Otl_titled ((ox_w (97 + a1)) % 65536) r15).bind fun r16 => (if r16 = (-1) then (J_Out_capture_47 a2 r16 1 r15) else ((F_Otl_levelOf r16 r15).bind fun r17 => (J_Out_capture_47 a2 r16 (ox_w (r17 + 1)) r15))))))
theorem L_Out_capture  (a1 : Int) (a2 : Int) (σ : ox_H) (n tl : Nat) : ox_R (fun r => some ((fun r : (Nat ⊕ Int) × ox_H => (((Sum.elim (fun e : Nat => (.inr e : Option ox_V ⊕ Nat)) (fun v : Int => .inl (some (.inl v))) r.1), r.2) : ox_O)) r)) (F_Out_capture a1 a2 σ) (ox_zz ox_ms (n + 7) 15 tl [.inr (.inr (0, 0, 0)), .inl (a1), .inl (a2)] σ) := by
  unfold F_Out_capture
  refine ox_R_of (Y := ox_ev m_Out_capture (ox_zz ox_ms (n + 6)) 0 4 tl [.inr (.inr (0, 0, 0)), .inl (a1), .inl (a2), ox_d, ox_d, ox_d, ox_d] [] σ) rfl ?_
  refine ox_R_to 2 (Y := ox_back m_Out_capture 1 0 [] ((ox_zz ox_ms (n + 6)) 19 tl [.inl (a1)] σ) (fun pc9 x9 st9 σ9 => ox_ev m_Out_capture (ox_zz ox_ms (n + 6)) pc9 3 tl (ox_kl (m_Out_capture.2.2.1 pc9) (ox_xl x9 [.inr (.inr (0, 0, 0)), .inl (a1), .inl (a2), ox_d, ox_d, ox_d, ox_d])) st9 σ9)) rfl ?_
  refine ox_R_call (fc := (fun r : (Nat ⊕ Unit) => (((Sum.elim (fun e : Nat => (.inr e : Option ox_V ⊕ Nat)) (fun v : Unit => .inl none) r), σ) : ox_O))) (L_Out_checkLetter a1 σ (n + 5) tl) (fun r11 => ?_)
  rcases r11 with e19 | x12
  · refine ox_R_of (Y := some (.inr e19, σ)) rfl ?_
    exact ox_R_ret rfl
  · refine ox_R_of (Y := ox_ev m_Out_capture (ox_zz ox_ms (n + 6)) 4 3 tl [.inr (.inr (0, 0, 0)), .inl (a1), .inl (a2), ox_d, ox_d, ox_d, ox_d] [] σ) rfl ?_
    refine ox_R_to 2 (Y := ox_back m_Out_capture 5 0 [] ((ox_zz ox_ms (n + 6)) 19 tl [.inl (a2)] σ) (fun pc9 x9 st9 σ9 => ox_ev m_Out_capture (ox_zz ox_ms (n + 6)) pc9 2 tl (ox_kl (m_Out_capture.2.2.1 pc9) (ox_xl x9 [.inr (.inr (0, 0, 0)), .inl (a1), .inl (a2), ox_d, ox_d, ox_d, ox_d])) st9 σ9)) rfl ?_
    refine ox_R_call (fc := (fun r : (Nat ⊕ Unit) => (((Sum.elim (fun e : Nat => (.inr e : Option ox_V ⊕ Nat)) (fun v : Unit => .inl none) r), σ) : ox_O))) (L_Out_checkLetter a2 σ (n + 5) tl) (fun r13 => ?_)
    rcases r13 with e18 | x14
    · refine ox_R_of (Y := some (.inr e18, σ)) rfl ?_
      exact ox_R_ret rfl
    · refine ox_R_of (Y := ox_ev m_Out_capture (ox_zz ox_ms (n + 6)) 8 2 tl [.inr (.inr (0, 0, 0)), .inl (a1), .inl (a2), ox_d, ox_d, ox_d, ox_d] [] σ) rfl ?_
      refine ox_R_to 3 (Y := ox_back m_Out_capture 12 2 [] ((ox_zz ox_ms (n + 6)) 169 tl [.inr (.inr (2, 0, 0))] σ) (fun pc9 x9 st9 σ9 => ox_ev m_Out_capture (ox_zz ox_ms (n + 6)) pc9 2 tl (ox_kl (m_Out_capture.2.2.1 pc9) (ox_xl x9 [.inr (.inr (0, 0, 0)), .inl (a1), .inl (a2), ox_d, ox_d, ox_d, ox_d])) st9 σ9)) rfl ?_
      refine ox_R_call (fc := (fun r : ox_H => ((.inl none, r) : ox_O))) (L_Otl_refresh σ (n + 0) tl) (fun r15 => ?_)
      refine ox_R_of (Y := ox_ev m_Out_capture (ox_zz ox_ms (n + 6)) 15 2 tl [.inr (.inr (0, 0, 0)), .inl (a1), .inl (a2), ox_d, ox_d, ox_d, ox_d] [] r15) rfl ?_
      refine ox_R_to 7 (Y := ox_back m_Out_capture 24 3 [] ((ox_zz ox_ms (n + 6)) 181 tl [.inr (.inr (2, 0, 0)), .inl ((ox_w (97 + a1)) % 65536)] r15) (fun pc9 x9 st9 σ9 => ox_ev m_Out_capture (ox_zz ox_ms (n + 6)) pc9 2 tl (ox_kl (m_Out_capture.2.2.1 pc9) (ox_xl x9 [.inr (.inr (0, 0, 0)), .inl (a1), .inl (a2), ox_d, ox_d, ox_d, ox_d])) st9 σ9)) rfl ?_
      refine ox_R_call (fc := (fun r : Int => ((.inl (some (.inl r)), r15) : ox_O))) (L_Otl_titled ((ox_w (97 + a1)) % 65536) r15 (n + 3) tl) (fun r16 => ?_)
      refine ox_R_of (Y := ox_ev m_Out_capture (ox_zz ox_ms (n + 6)) 27 2 tl [.inr (.inr (0, 0, 0)), .inl (a1), .inl (a2), ox_d, ox_d, ox_d, ox_d] [.inl (r16)] r15) rfl ?_
      refine ox_R_to 4 (Y := if r16 = (-1) then ox_ev m_Out_capture (ox_zz ox_ms (n + 6)) 33 2 tl [.inr (.inr (0, 0, 0)), .inl (a1), .inl (a2), .inl (r16), ox_d, ox_d, ox_d] [] r15 else ox_ev m_Out_capture (ox_zz ox_ms (n + 6)) 37 2 tl [.inr (.inr (0, 0, 0)), .inl (a1), .inl (a2), .inl (r16), ox_d, ox_d, ox_d] [] r15) rfl ?_
      refine ox_R_if (fun _ => ?_) (fun _ => ?_)
      · refine ox_R_to 2 (Y := ox_ev m_Out_capture (ox_zz ox_ms (n + 6)) 47 2 tl [.inr (.inr (0, 0, 0)), ox_d, .inl (a2), .inl (r16), ox_d, ox_d, ox_d] [.inl (1)] r15) rfl ?_
        exact (L_Out_capture_47 a2 r16 1 r15 n tl)
      · refine ox_R_to 4 (Y := ox_back m_Out_capture 42 3 [] ((ox_zz ox_ms (n + 6)) 177 tl [.inr (.inr (2, 0, 0)), .inl (r16)] r15) (fun pc9 x9 st9 σ9 => ox_ev m_Out_capture (ox_zz ox_ms (n + 6)) pc9 2 tl (ox_kl (m_Out_capture.2.2.1 pc9) (ox_xl x9 [.inr (.inr (0, 0, 0)), .inl (a1), .inl (a2), .inl (r16), ox_d, ox_d, ox_d])) st9 σ9)) rfl ?_
        refine ox_R_call (fc := (fun r : Int => ((.inl (some (.inl r)), r15) : ox_O))) (L_Otl_levelOf r16 r15 (n + 5) tl) (fun r17 => ?_)
        refine ox_R_of (Y := ox_ev m_Out_capture (ox_zz ox_ms (n + 6)) 45 2 tl [.inr (.inr (0, 0, 0)), .inl (a1), .inl (a2), .inl (r16), ox_d, ox_d, ox_d] [.inl (r17)] r15) rfl ?_
        refine ox_R_to 2 (Y := ox_ev m_Out_capture (ox_zz ox_ms (n + 6)) 47 2 tl [.inr (.inr (0, 0, 0)), ox_d, .inl (a2), .inl (r16), ox_d, ox_d, ox_d] [.inl (ox_w (r17 + 1))] r15) rfl ?_
        exact (L_Out_capture_47 a2 r16 (ox_w (r17 + 1)) r15 n tl)
def J_Arc_put_15  (σ : ox_H) : Option ox_H := some σ
theorem L_Arc_put_15  (σ : ox_H) (n tl : Nat) : ox_R (fun r => some ((fun r : ox_H => ((.inl none, r) : ox_O)) r)) (J_Arc_put_15 σ) (ox_ev m_Arc_put (ox_zz ox_ms (n + 2)) 15 0 tl [ox_d, ox_d, ox_d, ox_d, ox_d] [] σ) := by
  unfold J_Arc_put_15
  refine ox_R_to 1 (Y := some (.inl none, σ)) rfl ?_
  exact ox_R_ret rfl
def F_Arc_put  (k1 : Nat) (a2 : Int) (a3 : Int) (a4 : Int) (σ : ox_H) : Option (ox_H) := if (σ 9 0 3 0) < 0 then (J_Arc_put_15 σ) else (if (σ 9 0 3 0) < 5 then ((F_Lin_copy 4 k1 a2 a3 (σ 1 4 4 0) σ).bind fun r1 => (if 0 ≤ (r1 9 0 3 0) ∧ (r1 9 0 3 0).toNat < 5 then (if 0 ≤ (r1 9 0 3 0) ∧ (r1 9 0 3 0).toNat < 5 then (some (ox_up (ox_up (ox_up r1 9 0 1 ((r1 9 0 3 0).toNat) a3) 9 0 2 ((r1 9 0 3 0).toNat) (a4 % 65536)) 9 0 3 0 (ox_w ((r1 9 0 3 0) + 1)))) else none) else none)) else (J_Arc_put_15 σ))
theorem L_Arc_put  (k1 : Nat) (a2 : Int) (a3 : Int) (a4 : Int) (σ : ox_H) (n tl : Nat) : ox_R (fun r => some ((fun r : ox_H => ((.inl none, r) : ox_O)) r)) (F_Arc_put k1 a2 a3 a4 σ) (ox_zz ox_ms (n + 3) 139 tl [.inr (.inr (9, 0, 0)), .inr (.inr (1, k1, 0)), .inl (a2), .inl (a3), .inl (a4)] σ) := by
  unfold F_Arc_put
  refine ox_R_of (Y := ox_ev m_Arc_put (ox_zz ox_ms (n + 2)) 0 0 tl [.inr (.inr (9, 0, 0)), .inr (.inr (1, k1, 0)), .inl (a2), .inl (a3), .inl (a4)] [] σ) rfl ?_
  refine ox_R_to 3 (Y := if (σ 9 0 3 0) < 0 then ox_ev m_Arc_put (ox_zz ox_ms (n + 2)) 15 0 tl [ox_d, ox_d, ox_d, ox_d, ox_d] [] σ else ox_ev m_Arc_put (ox_zz ox_ms (n + 2)) 7 0 tl [.inr (.inr (9, 0, 0)), .inr (.inr (1, k1, 0)), .inl (a2), .inl (a3), .inl (a4)] [] σ) rfl ?_
  refine ox_R_if (fun _ => ?_) (fun _ => ?_)
  · exact (L_Arc_put_15 σ n tl)
  · refine ox_R_to 4 (Y := if (σ 9 0 3 0) < 5 then ox_ev m_Arc_put (ox_zz ox_ms (n + 2)) 16 0 tl [.inr (.inr (9, 0, 0)), .inr (.inr (1, k1, 0)), .inl (a2), .inl (a3), .inl (a4)] [] σ else ox_ev m_Arc_put (ox_zz ox_ms (n + 2)) 15 0 tl [ox_d, ox_d, ox_d, ox_d, ox_d] [] σ) rfl ?_
    refine ox_R_if (fun _ => ?_) (fun _ => ?_)
    · refine ox_R_to 9 (Y := ox_back m_Arc_put 30 2 [] ((ox_zz ox_ms (n + 2)) 160 tl [.inr (.inr (1, 4, 0)), .inr (.inr (1, k1, 0)), .inl (a2), .inl (a3), .inl (σ 1 4 4 0)] σ) (fun pc9 x9 st9 σ9 => ox_ev m_Arc_put (ox_zz ox_ms (n + 2)) pc9 0 tl (ox_kl (m_Arc_put.2.2.1 pc9) (ox_xl x9 [.inr (.inr (9, 0, 0)), .inr (.inr (1, k1, 0)), .inl (a2), .inl (a3), .inl (a4)])) st9 σ9)) rfl ?_
      refine ox_R_call (fc := (fun r : ox_H => ((.inl none, r) : ox_O))) (L_Lin_copy 4 k1 a2 a3 (σ 1 4 4 0) σ (n + 0) tl) (fun r1 => ?_)
      refine ox_R_of (Y := ox_ev m_Arc_put (ox_zz ox_ms (n + 2)) 33 0 tl [.inr (.inr (9, 0, 0)), .inr (.inr (1, k1, 0)), .inl (a2), .inl (a3), .inl (a4)] [] r1) rfl ?_
      refine ox_R_to 6 (Y := if 0 ≤ (r1 9 0 3 0) ∧ (r1 9 0 3 0).toNat < 5 then ox_ev m_Arc_put (ox_zz ox_ms (n + 2)) 43 0 tl [.inr (.inr (9, 0, 0)), .inr (.inr (1, k1, 0)), .inl (a2), .inl (a3), .inl (a4)] [] (ox_up r1 9 0 1 ((r1 9 0 3 0).toNat) a3) else none) rfl ?_
      refine ox_R_if (fun _ => ?_) (fun _ => ox_R_none)
      refine ox_R_to 6 (Y := if 0 ≤ (r1 9 0 3 0) ∧ (r1 9 0 3 0).toNat < 5 then ox_ev m_Arc_put (ox_zz ox_ms (n + 2)) 54 0 tl [.inr (.inr (9, 0, 0)), .inr (.inr (1, k1, 0)), .inl (a2), .inl (a3), .inl (a4)] [] (ox_up (ox_up r1 9 0 1 ((r1 9 0 3 0).toNat) a3) 9 0 2 ((r1 9 0 3 0).toNat) (a4 % 65536)) else none) rfl ?_
      refine ox_R_if (fun _ => ?_) (fun _ => ox_R_none)
      refine ox_R_to 7 (Y := some (.inl none, (ox_up (ox_up (ox_up r1 9 0 1 ((r1 9 0 3 0).toNat) a3) 9 0 2 ((r1 9 0 3 0).toNat) (a4 % 65536)) 9 0 3 0 (ox_w ((r1 9 0 3 0) + 1))))) rfl ?_
      exact ox_R_ret rfl
    · exact (L_Arc_put_15 σ n tl)
def F_Out_archive  (a1 : Int) (σ : ox_H) : Option ((Nat ⊕ Int) × ox_H) := (F_Otl_refresh σ).bind fun r1 => ((F_Out_checkEntry a1 r1).bind fun r2 => match r2 with | .inl e10 => (some (.inl e10, r1)) | .inr x3 => (if (r1 9 0 3 0) < 5 then ((F_Otl_lineOf a1 r1).bind fun r4 => ((F_Otl_partEnd a1 r1).bind fun r5 => ((F_Otl_parentOf a1 r1).bind fun r6 => ((F_Otl_firstSign r6 r1).bind fun r7 => ((F_Arc_put 0 r4 (ox_w (r5 - r4)) r7 r1).bind fun r8 => ((F_Lin_close 0 r4 (ox_w (r5 - r4)) r8).bind fun r9 => (some (.inr (r9 9 0 3 0), r9)))))))) else (some (.inl 3, r1))))
theorem L_Out_archive  (a1 : Int) (σ : ox_H) (n tl : Nat) : ox_R (fun r => some ((fun r : (Nat ⊕ Int) × ox_H => (((Sum.elim (fun e : Nat => (.inr e : Option ox_V ⊕ Nat)) (fun v : Int => .inl (some (.inl v))) r.1), r.2) : ox_O)) r)) (F_Out_archive a1 σ) (ox_zz ox_ms (n + 7) 16 tl [.inr (.inr (0, 0, 0)), .inl (a1)] σ) := by
  unfold F_Out_archive
  refine ox_R_of (Y := ox_ev m_Out_archive (ox_zz ox_ms (n + 6)) 0 2 tl [.inr (.inr (0, 0, 0)), .inl (a1), ox_d, ox_d] [] σ) rfl ?_
  refine ox_R_to 3 (Y := ox_back m_Out_archive 4 2 [] ((ox_zz ox_ms (n + 6)) 169 tl [.inr (.inr (2, 0, 0))] σ) (fun pc9 x9 st9 σ9 => ox_ev m_Out_archive (ox_zz ox_ms (n + 6)) pc9 2 tl (ox_kl (m_Out_archive.2.2.1 pc9) (ox_xl x9 [.inr (.inr (0, 0, 0)), .inl (a1), ox_d, ox_d])) st9 σ9)) rfl ?_
  refine ox_R_call (fc := (fun r : ox_H => ((.inl none, r) : ox_O))) (L_Otl_refresh σ (n + 0) tl) (fun r1 => ?_)
  refine ox_R_of (Y := ox_ev m_Out_archive (ox_zz ox_ms (n + 6)) 7 2 tl [.inr (.inr (0, 0, 0)), .inl (a1), ox_d, ox_d] [] r1) rfl ?_
  refine ox_R_to 3 (Y := ox_back m_Out_archive 9 0 [] ((ox_zz ox_ms (n + 6)) 18 tl [.inr (.inr (0, 0, 0)), .inl (a1)] r1) (fun pc9 x9 st9 σ9 => ox_ev m_Out_archive (ox_zz ox_ms (n + 6)) pc9 1 tl (ox_kl (m_Out_archive.2.2.1 pc9) (ox_xl x9 [.inr (.inr (0, 0, 0)), .inl (a1), ox_d, ox_d])) st9 σ9)) rfl ?_
  refine ox_R_call (fc := (fun r : (Nat ⊕ Unit) => (((Sum.elim (fun e : Nat => (.inr e : Option ox_V ⊕ Nat)) (fun v : Unit => .inl none) r), r1) : ox_O))) (L_Out_checkEntry a1 r1 (n + 4) tl) (fun r2 => ?_)
  rcases r2 with e10 | x3
  · refine ox_R_of (Y := some (.inr e10, r1)) rfl ?_
    exact ox_R_ret rfl
  · refine ox_R_of (Y := ox_ev m_Out_archive (ox_zz ox_ms (n + 6)) 12 1 tl [.inr (.inr (0, 0, 0)), .inl (a1), ox_d, ox_d] [] r1) rfl ?_
    refine ox_R_to 5 (Y := if (r1 9 0 3 0) < 5 then ox_ev m_Out_archive (ox_zz ox_ms (n + 6)) 33 1 tl [.inr (.inr (0, 0, 0)), .inl (a1), ox_d, ox_d] [] r1 else ox_ev m_Out_archive (ox_zz ox_ms (n + 6)) 23 1 tl [.inr (.inr (0, 0, 0)), .inl (a1), ox_d, ox_d] [] r1) rfl ?_
    refine ox_R_if (fun _ => ?_) (fun _ => ?_)
    · refine ox_R_to 4 (Y := ox_back m_Out_archive 38 3 [] ((ox_zz ox_ms (n + 6)) 174 tl [.inr (.inr (2, 0, 0)), .inl (a1)] r1) (fun pc9 x9 st9 σ9 => ox_ev m_Out_archive (ox_zz ox_ms (n + 6)) pc9 1 tl (ox_kl (m_Out_archive.2.2.1 pc9) (ox_xl x9 [.inr (.inr (0, 0, 0)), .inl (a1), ox_d, ox_d])) st9 σ9)) rfl ?_
      refine ox_R_call (fc := (fun r : Int => ((.inl (some (.inl r)), r1) : ox_O))) (L_Otl_lineOf a1 r1 (n + 5) tl) (fun r4 => ?_)
      refine ox_R_of (Y := ox_ev m_Out_archive (ox_zz ox_ms (n + 6)) 41 1 tl [.inr (.inr (0, 0, 0)), .inl (a1), ox_d, ox_d] [.inl (r4)] r1) rfl ?_
      refine ox_R_to 5 (Y := ox_back m_Out_archive 47 3 [] ((ox_zz ox_ms (n + 6)) 185 tl [.inr (.inr (2, 0, 0)), .inl (a1)] r1) (fun pc9 x9 st9 σ9 => ox_ev m_Out_archive (ox_zz ox_ms (n + 6)) pc9 1 tl (ox_kl (m_Out_archive.2.2.1 pc9) (ox_xl x9 [.inr (.inr (0, 0, 0)), .inl (a1), .inl (r4), ox_d])) st9 σ9)) rfl ?_
      refine ox_R_call (fc := (fun r : Int => ((.inl (some (.inl r)), r1) : ox_O))) (L_Otl_partEnd a1 r1 (n + 3) tl) (fun r5 => ?_)
      refine ox_R_of (Y := ox_ev m_Out_archive (ox_zz ox_ms (n + 6)) 50 1 tl [.inr (.inr (0, 0, 0)), .inl (a1), .inl (r4), ox_d] [.inl (r5)] r1) rfl ?_
      refine ox_R_to 15 (Y := ox_back m_Out_archive 72 3 [.inr (.inr (2, 0, 0)), .inl (ox_w (r5 - r4)), .inl (r4), .inr (.inr (1, 0, 0)), .inr (.inr (9, 0, 0))] ((ox_zz ox_ms (n + 6)) 175 tl [.inr (.inr (2, 0, 0)), .inl (a1)] r1) (fun pc9 x9 st9 σ9 => ox_ev m_Out_archive (ox_zz ox_ms (n + 6)) pc9 1 tl (ox_kl (m_Out_archive.2.2.1 pc9) (ox_xl x9 [.inr (.inr (0, 0, 0)), .inl (a1), .inl (r4), .inl (ox_w (r5 - r4))])) st9 σ9)) rfl ?_
      refine ox_R_call (fc := (fun r : Int => ((.inl (some (.inl r)), r1) : ox_O))) (L_Otl_parentOf a1 r1 (n + 5) tl) (fun r6 => ?_)
      refine ox_R_of (Y := ox_ev m_Out_archive (ox_zz ox_ms (n + 6)) 75 1 tl [.inr (.inr (0, 0, 0)), .inl (a1), .inl (r4), .inl (ox_w (r5 - r4))] [.inl (r6), .inr (.inr (2, 0, 0)), .inl (ox_w (r5 - r4)), .inl (r4), .inr (.inr (1, 0, 0)), .inr (.inr (9, 0, 0))] r1) rfl ?_
      refine ox_R_to 1 (Y := ox_back m_Out_archive 75 3 [.inl (ox_w (r5 - r4)), .inl (r4), .inr (.inr (1, 0, 0)), .inr (.inr (9, 0, 0))] ((ox_zz ox_ms (n + 6)) 180 tl [.inr (.inr (2, 0, 0)), .inl (r6)] r1) (fun pc9 x9 st9 σ9 => ox_ev m_Out_archive (ox_zz ox_ms (n + 6)) pc9 1 tl (ox_kl (m_Out_archive.2.2.1 pc9) (ox_xl x9 [.inr (.inr (0, 0, 0)), .inl (a1), .inl (r4), .inl (ox_w (r5 - r4))])) st9 σ9)) rfl ?_
      refine ox_R_call (fc := (fun r : Int => ((.inl (some (.inl r)), r1) : ox_O))) (L_Otl_firstSign r6 r1 (n + 4) tl) (fun r7 => ?_)
      refine ox_R_of (Y := ox_ev m_Out_archive (ox_zz ox_ms (n + 6)) 78 1 tl [.inr (.inr (0, 0, 0)), .inl (a1), .inl (r4), .inl (ox_w (r5 - r4))] [.inl (r7), .inl (ox_w (r5 - r4)), .inl (r4), .inr (.inr (1, 0, 0)), .inr (.inr (9, 0, 0))] r1) rfl ?_
      refine ox_R_to 1 (Y := ox_back m_Out_archive 78 2 [] ((ox_zz ox_ms (n + 6)) 139 tl [.inr (.inr (9, 0, 0)), .inr (.inr (1, 0, 0)), .inl (r4), .inl (ox_w (r5 - r4)), .inl (r7)] r1) (fun pc9 x9 st9 σ9 => ox_ev m_Out_archive (ox_zz ox_ms (n + 6)) pc9 1 tl (ox_kl (m_Out_archive.2.2.1 pc9) (ox_xl x9 [.inr (.inr (0, 0, 0)), .inl (a1), .inl (r4), .inl (ox_w (r5 - r4))])) st9 σ9)) rfl ?_
      refine ox_R_call (fc := (fun r : ox_H => ((.inl none, r) : ox_O))) (L_Arc_put 0 r4 (ox_w (r5 - r4)) r7 r1 (n + 3) tl) (fun r8 => ?_)
      refine ox_R_of (Y := ox_ev m_Out_archive (ox_zz ox_ms (n + 6)) 81 1 tl [.inr (.inr (0, 0, 0)), .inl (a1), .inl (r4), .inl (ox_w (r5 - r4))] [] r8) rfl ?_
      refine ox_R_to 5 (Y := ox_back m_Out_archive 87 2 [] ((ox_zz ox_ms (n + 6)) 159 tl [.inr (.inr (1, 0, 0)), .inl (r4), .inl (ox_w (r5 - r4))] r8) (fun pc9 x9 st9 σ9 => ox_ev m_Out_archive (ox_zz ox_ms (n + 6)) pc9 1 tl (ox_kl (m_Out_archive.2.2.1 pc9) (ox_xl x9 [.inr (.inr (0, 0, 0)), .inl (a1), .inl (r4), .inl (ox_w (r5 - r4))])) st9 σ9)) rfl ?_
      refine ox_R_call (fc := (fun r : ox_H => ((.inl none, r) : ox_O))) (L_Lin_close 0 r4 (ox_w (r5 - r4)) r8 (n + 5) tl) (fun r9 => ?_)
      refine ox_R_of (Y := ox_ev m_Out_archive (ox_zz ox_ms (n + 6)) 90 1 tl [.inr (.inr (0, 0, 0)), .inl (a1), .inl (r4), .inl (ox_w (r5 - r4))] [] r9) rfl ?_
      refine ox_R_to 4 (Y := some (.inl (some (.inl (r9 9 0 3 0))), r9)) rfl ?_
      exact ox_R_ret rfl
    · refine ox_R_to 1 (Y := some (.inr 3, r1)) rfl ?_
      exact ox_R_ret rfl
def J_Arc_latestSize_30  (s0 : Int) (σ : ox_H) : Option Int := some s0
theorem L_Arc_latestSize_30  (s0 : Int) (σ : ox_H) (n tl : Nat) : ox_R (fun r => some ((fun r : Int => ((.inl (some (.inl r)), σ) : ox_O)) r)) (J_Arc_latestSize_30 s0 σ) (ox_ev m_Arc_latestSize (ox_zz ox_ms (n + 0)) 30 0 tl [ox_d] [.inl (s0)] σ) := by
  unfold J_Arc_latestSize_30
  refine ox_R_to 1 (Y := some (.inl (some (.inl (s0))), σ)) rfl ?_
  exact ox_R_ret rfl
def J_Arc_latestSize_29  (σ : ox_H) : Option Int := (J_Arc_latestSize_30 0 σ)
theorem L_Arc_latestSize_29  (σ : ox_H) (n tl : Nat) : ox_R (fun r => some ((fun r : Int => ((.inl (some (.inl r)), σ) : ox_O)) r)) (J_Arc_latestSize_29 σ) (ox_ev m_Arc_latestSize (ox_zz ox_ms (n + 0)) 29 0 tl [ox_d] [] σ) := by
  unfold J_Arc_latestSize_29
  refine ox_R_to 1 (Y := ox_ev m_Arc_latestSize (ox_zz ox_ms (n + 0)) 30 0 tl [ox_d] [.inl (0)] σ) rfl ?_
  exact (L_Arc_latestSize_30 0 σ n tl)
def F_Arc_latestSize  (σ : ox_H) : Option (Int) := if (σ 9 0 3 0) ≤ 0 then (J_Arc_latestSize_29 σ) else (if 5 < (σ 9 0 3 0) then (J_Arc_latestSize_29 σ) else (if 0 ≤ (ox_w ((σ 9 0 3 0) - 1)) ∧ (ox_w ((σ 9 0 3 0) - 1)).toNat < 5 then (J_Arc_latestSize_30 (σ 9 0 1 ((ox_w ((σ 9 0 3 0) - 1)).toNat)) σ) else none))
theorem L_Arc_latestSize  (σ : ox_H) (n tl : Nat) : ox_R (fun r => some ((fun r : Int => ((.inl (some (.inl r)), σ) : ox_O)) r)) (F_Arc_latestSize σ) (ox_zz ox_ms (n + 1) 141 tl [.inr (.inr (9, 0, 0))] σ) := by
  unfold F_Arc_latestSize
  refine ox_R_of (Y := ox_ev m_Arc_latestSize (ox_zz ox_ms (n + 0)) 0 0 tl [.inr (.inr (9, 0, 0))] [] σ) rfl ?_
  refine ox_R_to 3 (Y := if (σ 9 0 3 0) ≤ 0 then ox_ev m_Arc_latestSize (ox_zz ox_ms (n + 0)) 29 0 tl [ox_d] [] σ else ox_ev m_Arc_latestSize (ox_zz ox_ms (n + 0)) 7 0 tl [.inr (.inr (9, 0, 0))] [] σ) rfl ?_
  refine ox_R_if (fun _ => ?_) (fun _ => ?_)
  · exact (L_Arc_latestSize_29 σ n tl)
  · refine ox_R_to 4 (Y := if 5 < (σ 9 0 3 0) then ox_ev m_Arc_latestSize (ox_zz ox_ms (n + 0)) 29 0 tl [ox_d] [] σ else ox_ev m_Arc_latestSize (ox_zz ox_ms (n + 0)) 15 0 tl [.inr (.inr (9, 0, 0))] [] σ) rfl ?_
    refine ox_R_if (fun _ => ?_) (fun _ => ?_)
    · exact (L_Arc_latestSize_29 σ n tl)
    · refine ox_R_to 7 (Y := if 0 ≤ (ox_w ((σ 9 0 3 0) - 1)) ∧ (ox_w ((σ 9 0 3 0) - 1)).toNat < 5 then ox_ev m_Arc_latestSize (ox_zz ox_ms (n + 0)) 26 0 tl [.inr (.inr (9, 0, 0))] [.inl (σ 9 0 1 ((ox_w ((σ 9 0 3 0) - 1)).toNat))] σ else none) rfl ?_
      refine ox_R_if (fun _ => ?_) (fun _ => ox_R_none)
      refine ox_R_to 1 (Y := ox_ev m_Arc_latestSize (ox_zz ox_ms (n + 0)) 30 0 tl [ox_d] [.inl (σ 9 0 1 ((ox_w ((σ 9 0 3 0) - 1)).toNat))] σ) rfl ?_
      exact (L_Arc_latestSize_30 (σ 9 0 1 ((ox_w ((σ 9 0 3 0) - 1)).toNat)) σ n tl)
def J_Arc_latestSign_30  (s0 : Int) (σ : ox_H) : Option Int := some (s0 % 65536)
theorem L_Arc_latestSign_30  (s0 : Int) (σ : ox_H) (n tl : Nat) : ox_R (fun r => some ((fun r : Int => ((.inl (some (.inl r)), σ) : ox_O)) r)) (J_Arc_latestSign_30 s0 σ) (ox_ev m_Arc_latestSign (ox_zz ox_ms (n + 0)) 30 0 tl [ox_d] [.inl (s0)] σ) := by
  unfold J_Arc_latestSign_30
  refine ox_R_to 1 (Y := some (.inl (some (.inl (s0 % 65536))), σ)) rfl ?_
  exact ox_R_ret rfl
def J_Arc_latestSign_29  (σ : ox_H) : Option Int := (J_Arc_latestSign_30 0 σ)
theorem L_Arc_latestSign_29  (σ : ox_H) (n tl : Nat) : ox_R (fun r => some ((fun r : Int => ((.inl (some (.inl r)), σ) : ox_O)) r)) (J_Arc_latestSign_29 σ) (ox_ev m_Arc_latestSign (ox_zz ox_ms (n + 0)) 29 0 tl [ox_d] [] σ) := by
  unfold J_Arc_latestSign_29
  refine ox_R_to 1 (Y := ox_ev m_Arc_latestSign (ox_zz ox_ms (n + 0)) 30 0 tl [ox_d] [.inl (0)] σ) rfl ?_
  exact (L_Arc_latestSign_30 0 σ n tl)
def F_Arc_latestSign  (σ : ox_H) : Option (Int) := if (σ 9 0 3 0) ≤ 0 then (J_Arc_latestSign_29 σ) else (if 5 < (σ 9 0 3 0) then (J_Arc_latestSign_29 σ) else (if 0 ≤ (ox_w ((σ 9 0 3 0) - 1)) ∧ (ox_w ((σ 9 0 3 0) - 1)).toNat < 5 then (J_Arc_latestSign_30 (σ 9 0 2 ((ox_w ((σ 9 0 3 0) - 1)).toNat)) σ) else none))
theorem L_Arc_latestSign  (σ : ox_H) (n tl : Nat) : ox_R (fun r => some ((fun r : Int => ((.inl (some (.inl r)), σ) : ox_O)) r)) (F_Arc_latestSign σ) (ox_zz ox_ms (n + 1) 142 tl [.inr (.inr (9, 0, 0))] σ) := by
  unfold F_Arc_latestSign
  refine ox_R_of (Y := ox_ev m_Arc_latestSign (ox_zz ox_ms (n + 0)) 0 0 tl [.inr (.inr (9, 0, 0))] [] σ) rfl ?_
  refine ox_R_to 3 (Y := if (σ 9 0 3 0) ≤ 0 then ox_ev m_Arc_latestSign (ox_zz ox_ms (n + 0)) 29 0 tl [ox_d] [] σ else ox_ev m_Arc_latestSign (ox_zz ox_ms (n + 0)) 7 0 tl [.inr (.inr (9, 0, 0))] [] σ) rfl ?_
  refine ox_R_if (fun _ => ?_) (fun _ => ?_)
  · exact (L_Arc_latestSign_29 σ n tl)
  · refine ox_R_to 4 (Y := if 5 < (σ 9 0 3 0) then ox_ev m_Arc_latestSign (ox_zz ox_ms (n + 0)) 29 0 tl [ox_d] [] σ else ox_ev m_Arc_latestSign (ox_zz ox_ms (n + 0)) 15 0 tl [.inr (.inr (9, 0, 0))] [] σ) rfl ?_
    refine ox_R_if (fun _ => ?_) (fun _ => ?_)
    · exact (L_Arc_latestSign_29 σ n tl)
    · refine ox_R_to 7 (Y := if 0 ≤ (ox_w ((σ 9 0 3 0) - 1)) ∧ (ox_w ((σ 9 0 3 0) - 1)).toNat < 5 then ox_ev m_Arc_latestSign (ox_zz ox_ms (n + 0)) 26 0 tl [.inr (.inr (9, 0, 0))] [.inl (σ 9 0 2 ((ox_w ((σ 9 0 3 0) - 1)).toNat))] σ else none) rfl ?_
      refine ox_R_if (fun _ => ?_) (fun _ => ox_R_none)
      refine ox_R_to 1 (Y := ox_ev m_Arc_latestSign (ox_zz ox_ms (n + 0)) 30 0 tl [ox_d] [.inl (σ 9 0 2 ((ox_w ((σ 9 0 3 0) - 1)).toNat))] σ) rfl ?_
      exact (L_Arc_latestSign_30 (σ 9 0 2 ((ox_w ((σ 9 0 3 0) - 1)).toNat)) σ n tl)
def F_Arc_take  (k1 : Nat) (a2 : Int) (σ : ox_H) : Option (ox_H) := (F_Arc_latestSize σ).bind fun r1 => ((F_Lin_copy k1 4 (ox_w ((σ 1 4 4 0) - r1)) r1 a2 σ).bind fun r2 => ((F_Lin_close 4 (ox_w ((σ 1 4 4 0) - r1)) r1 r2).bind fun r3 => (some (ox_up r3 9 0 3 0 (ox_w ((r3 9 0 3 0) - 1))))))
theorem L_Arc_take  (k1 : Nat) (a2 : Int) (σ : ox_H) (n tl : Nat) : ox_R (fun r => some ((fun r : ox_H => ((.inl none, r) : ox_O)) r)) (F_Arc_take k1 a2 σ) (ox_zz ox_ms (n + 3) 140 tl [.inr (.inr (9, 0, 0)), .inr (.inr (1, k1, 0)), .inl (a2)] σ) := by
  unfold F_Arc_take
  refine ox_R_of (Y := ox_ev m_Arc_take (ox_zz ox_ms (n + 2)) 0 0 tl [.inr (.inr (9, 0, 0)), .inr (.inr (1, k1, 0)), .inl (a2), ox_d, ox_d] [] σ) rfl ?_
  refine ox_R_to 2 (Y := ox_back m_Arc_take 1 1 [] ((ox_zz ox_ms (n + 2)) 141 tl [.inr (.inr (9, 0, 0))] σ) (fun pc9 x9 st9 σ9 => ox_ev m_Arc_take (ox_zz ox_ms (n + 2)) pc9 0 tl (ox_kl (m_Arc_take.2.2.1 pc9) (ox_xl x9 [.inr (.inr (9, 0, 0)), .inr (.inr (1, k1, 0)), .inl (a2), ox_d, ox_d])) st9 σ9)) rfl ?_
  refine ox_R_call (fc := (fun r : Int => ((.inl (some (.inl r)), σ) : ox_O))) (L_Arc_latestSize σ (n + 1) tl) (fun r1 => ?_)
  refine ox_R_of (Y := ox_ev m_Arc_take (ox_zz ox_ms (n + 2)) 4 0 tl [.inr (.inr (9, 0, 0)), .inr (.inr (1, k1, 0)), .inl (a2), ox_d, ox_d] [.inl (r1)] σ) rfl ?_
  refine ox_R_to 14 (Y := ox_back m_Arc_take 25 2 [] ((ox_zz ox_ms (n + 2)) 160 tl [.inr (.inr (1, k1, 0)), .inr (.inr (1, 4, 0)), .inl (ox_w ((σ 1 4 4 0) - r1)), .inl (r1), .inl (a2)] σ) (fun pc9 x9 st9 σ9 => ox_ev m_Arc_take (ox_zz ox_ms (n + 2)) pc9 0 tl (ox_kl (m_Arc_take.2.2.1 pc9) (ox_xl x9 [.inr (.inr (9, 0, 0)), .inr (.inr (1, k1, 0)), .inl (a2), .inl (r1), .inl (ox_w ((σ 1 4 4 0) - r1))])) st9 σ9)) rfl ?_
  refine ox_R_call (fc := (fun r : ox_H => ((.inl none, r) : ox_O))) (L_Lin_copy k1 4 (ox_w ((σ 1 4 4 0) - r1)) r1 a2 σ (n + 0) tl) (fun r2 => ?_)
  refine ox_R_of (Y := ox_ev m_Arc_take (ox_zz ox_ms (n + 2)) 28 0 tl [.inr (.inr (9, 0, 0)), .inr (.inr (1, k1, 0)), .inl (a2), .inl (r1), .inl (ox_w ((σ 1 4 4 0) - r1))] [] r2) rfl ?_
  refine ox_R_to 5 (Y := ox_back m_Arc_take 35 2 [] ((ox_zz ox_ms (n + 2)) 159 tl [.inr (.inr (1, 4, 0)), .inl (ox_w ((σ 1 4 4 0) - r1)), .inl (r1)] r2) (fun pc9 x9 st9 σ9 => ox_ev m_Arc_take (ox_zz ox_ms (n + 2)) pc9 0 tl (ox_kl (m_Arc_take.2.2.1 pc9) (ox_xl x9 [.inr (.inr (9, 0, 0)), .inr (.inr (1, k1, 0)), .inl (a2), .inl (r1), .inl (ox_w ((σ 1 4 4 0) - r1))])) st9 σ9)) rfl ?_
  refine ox_R_call (fc := (fun r : ox_H => ((.inl none, r) : ox_O))) (L_Lin_close 4 (ox_w ((σ 1 4 4 0) - r1)) r1 r2 (n + 1) tl) (fun r3 => ?_)
  refine ox_R_of (Y := ox_ev m_Arc_take (ox_zz ox_ms (n + 2)) 38 0 tl [.inr (.inr (9, 0, 0)), .inr (.inr (1, k1, 0)), .inl (a2), .inl (r1), .inl (ox_w ((σ 1 4 4 0) - r1))] [] r3) rfl ?_
  refine ox_R_to 7 (Y := some (.inl none, (ox_up r3 9 0 3 0 (ox_w ((r3 9 0 3 0) - 1))))) rfl ?_
  exact ox_R_ret rfl
def F_Out_bringBack  (σ : ox_H) : Option ((Nat ⊕ Int) × ox_H) := if 1 ≤ (σ 9 0 3 0) then ((F_Arc_latestSize σ).bind fun r1 => ((F_Out_checkRoom r1 σ).bind fun r2 => match r2 with | .inl e9 => (some (.inl e9, σ)) | .inr x3 => ((F_Otl_refresh σ).bind fun r4 => ((F_Arc_latestSign r4).bind fun r5 => ((F_Otl_titled r5 r4).bind fun r6 => ((F_Otl_endUnder r6 r4).bind fun r7 => ((F_Arc_take 0 r7 r4).bind fun r8 => (some (.inr (r8 9 0 3 0), r8))))))))) else (some (.inl 3, σ))
theorem L_Out_bringBack  (σ : ox_H) (n tl : Nat) : ox_R (fun r => some ((fun r : (Nat ⊕ Int) × ox_H => (((Sum.elim (fun e : Nat => (.inr e : Option ox_V ⊕ Nat)) (fun v : Int => .inl (some (.inl v))) r.1), r.2) : ox_O)) r)) (F_Out_bringBack σ) (ox_zz ox_ms (n + 7) 17 tl [.inr (.inr (0, 0, 0))] σ) := by
  unfold F_Out_bringBack
  refine ox_R_of (Y := ox_ev m_Out_bringBack (ox_zz ox_ms (n + 6)) 0 2 tl [.inr (.inr (0, 0, 0)), ox_d] [] σ) rfl ?_
  refine ox_R_to 5 (Y := if 1 ≤ (σ 9 0 3 0) then ox_ev m_Out_bringBack (ox_zz ox_ms (n + 6)) 21 2 tl [.inr (.inr (0, 0, 0)), ox_d] [] σ else ox_ev m_Out_bringBack (ox_zz ox_ms (n + 6)) 11 2 tl [.inr (.inr (0, 0, 0)), ox_d] [] σ) rfl ?_
  refine ox_R_if (fun _ => ?_) (fun _ => ?_)
  · refine ox_R_to 4 (Y := ox_back m_Out_bringBack 26 3 [.inr (.inr (0, 0, 0))] ((ox_zz ox_ms (n + 6)) 141 tl [.inr (.inr (9, 0, 0))] σ) (fun pc9 x9 st9 σ9 => ox_ev m_Out_bringBack (ox_zz ox_ms (n + 6)) pc9 2 tl (ox_kl (m_Out_bringBack.2.2.1 pc9) (ox_xl x9 [.inr (.inr (0, 0, 0)), ox_d])) st9 σ9)) rfl ?_
    refine ox_R_call (fc := (fun r : Int => ((.inl (some (.inl r)), σ) : ox_O))) (L_Arc_latestSize σ (n + 5) tl) (fun r1 => ?_)
    refine ox_R_of (Y := ox_ev m_Out_bringBack (ox_zz ox_ms (n + 6)) 29 2 tl [.inr (.inr (0, 0, 0)), ox_d] [.inl (r1), .inr (.inr (0, 0, 0))] σ) rfl ?_
    refine ox_R_to 1 (Y := ox_back m_Out_bringBack 29 0 [] ((ox_zz ox_ms (n + 6)) 8 tl [.inr (.inr (0, 0, 0)), .inl (r1)] σ) (fun pc9 x9 st9 σ9 => ox_ev m_Out_bringBack (ox_zz ox_ms (n + 6)) pc9 1 tl (ox_kl (m_Out_bringBack.2.2.1 pc9) (ox_xl x9 [.inr (.inr (0, 0, 0)), ox_d])) st9 σ9)) rfl ?_
    refine ox_R_call (fc := (fun r : (Nat ⊕ Unit) => (((Sum.elim (fun e : Nat => (.inr e : Option ox_V ⊕ Nat)) (fun v : Unit => .inl none) r), σ) : ox_O))) (L_Out_checkRoom r1 σ (n + 4) tl) (fun r2 => ?_)
    rcases r2 with e9 | x3
    · refine ox_R_of (Y := some (.inr e9, σ)) rfl ?_
      exact ox_R_ret rfl
    · refine ox_R_of (Y := ox_ev m_Out_bringBack (ox_zz ox_ms (n + 6)) 32 1 tl [.inr (.inr (0, 0, 0)), ox_d] [] σ) rfl ?_
      refine ox_R_to 3 (Y := ox_back m_Out_bringBack 36 2 [] ((ox_zz ox_ms (n + 6)) 169 tl [.inr (.inr (2, 0, 0))] σ) (fun pc9 x9 st9 σ9 => ox_ev m_Out_bringBack (ox_zz ox_ms (n + 6)) pc9 1 tl (ox_kl (m_Out_bringBack.2.2.1 pc9) (ox_xl x9 [.inr (.inr (0, 0, 0)), ox_d])) st9 σ9)) rfl ?_
      refine ox_R_call (fc := (fun r : ox_H => ((.inl none, r) : ox_O))) (L_Otl_refresh σ (n + 0) tl) (fun r4 => ?_)
      refine ox_R_of (Y := ox_ev m_Out_bringBack (ox_zz ox_ms (n + 6)) 39 1 tl [.inr (.inr (0, 0, 0)), ox_d] [] r4) rfl ?_
      refine ox_R_to 5 (Y := ox_back m_Out_bringBack 47 3 [.inr (.inr (2, 0, 0))] ((ox_zz ox_ms (n + 6)) 142 tl [.inr (.inr (9, 0, 0))] r4) (fun pc9 x9 st9 σ9 => ox_ev m_Out_bringBack (ox_zz ox_ms (n + 6)) pc9 1 tl (ox_kl (m_Out_bringBack.2.2.1 pc9) (ox_xl x9 [.inr (.inr (0, 0, 0)), ox_d])) st9 σ9)) rfl ?_
      refine ox_R_call (fc := (fun r : Int => ((.inl (some (.inl r)), r4) : ox_O))) (L_Arc_latestSign r4 (n + 5) tl) (fun r5 => ?_)
      refine ox_R_of (Y := ox_ev m_Out_bringBack (ox_zz ox_ms (n + 6)) 50 1 tl [.inr (.inr (0, 0, 0)), ox_d] [.inl (r5), .inr (.inr (2, 0, 0))] r4) rfl ?_
      refine ox_R_to 1 (Y := ox_back m_Out_bringBack 50 3 [] ((ox_zz ox_ms (n + 6)) 181 tl [.inr (.inr (2, 0, 0)), .inl (r5)] r4) (fun pc9 x9 st9 σ9 => ox_ev m_Out_bringBack (ox_zz ox_ms (n + 6)) pc9 1 tl (ox_kl (m_Out_bringBack.2.2.1 pc9) (ox_xl x9 [.inr (.inr (0, 0, 0)), ox_d])) st9 σ9)) rfl ?_
      refine ox_R_call (fc := (fun r : Int => ((.inl (some (.inl r)), r4) : ox_O))) (L_Otl_titled r5 r4 (n + 3) tl) (fun r6 => ?_)
      refine ox_R_of (Y := ox_ev m_Out_bringBack (ox_zz ox_ms (n + 6)) 53 1 tl [.inr (.inr (0, 0, 0)), ox_d] [.inl (r6)] r4) rfl ?_
      refine ox_R_to 9 (Y := ox_back m_Out_bringBack 67 3 [.inr (.inr (1, 0, 0)), .inr (.inr (9, 0, 0))] ((ox_zz ox_ms (n + 6)) 186 tl [.inr (.inr (2, 0, 0)), .inl (r6)] r4) (fun pc9 x9 st9 σ9 => ox_ev m_Out_bringBack (ox_zz ox_ms (n + 6)) pc9 1 tl (ox_kl (m_Out_bringBack.2.2.1 pc9) (ox_xl x9 [.inr (.inr (0, 0, 0)), .inl (r6)])) st9 σ9)) rfl ?_
      refine ox_R_call (fc := (fun r : Int => ((.inl (some (.inl r)), r4) : ox_O))) (L_Otl_endUnder r6 r4 (n + 2) tl) (fun r7 => ?_)
      refine ox_R_of (Y := ox_ev m_Out_bringBack (ox_zz ox_ms (n + 6)) 70 1 tl [.inr (.inr (0, 0, 0)), .inl (r6)] [.inl (r7), .inr (.inr (1, 0, 0)), .inr (.inr (9, 0, 0))] r4) rfl ?_
      refine ox_R_to 1 (Y := ox_back m_Out_bringBack 70 2 [] ((ox_zz ox_ms (n + 6)) 140 tl [.inr (.inr (9, 0, 0)), .inr (.inr (1, 0, 0)), .inl (r7)] r4) (fun pc9 x9 st9 σ9 => ox_ev m_Out_bringBack (ox_zz ox_ms (n + 6)) pc9 1 tl (ox_kl (m_Out_bringBack.2.2.1 pc9) (ox_xl x9 [.inr (.inr (0, 0, 0)), .inl (r6)])) st9 σ9)) rfl ?_
      refine ox_R_call (fc := (fun r : ox_H => ((.inl none, r) : ox_O))) (L_Arc_take 0 r7 r4 (n + 3) tl) (fun r8 => ?_)
      refine ox_R_of (Y := ox_ev m_Out_bringBack (ox_zz ox_ms (n + 6)) 73 1 tl [.inr (.inr (0, 0, 0)), .inl (r6)] [] r8) rfl ?_
      refine ox_R_to 4 (Y := some (.inl (some (.inl (r8 9 0 3 0))), r8)) rfl ?_
      exact ox_R_ret rfl
  · refine ox_R_to 1 (Y := some (.inr 3, σ)) rfl ?_
    exact ox_R_ret rfl
def J_Out_checkDay_11  (σ : ox_H) : Option ((Nat ⊕ Unit)) := some (.inl 2)
theorem L_Out_checkDay_11  (σ : ox_H) (n tl : Nat) : ox_R (fun r => some ((fun r : (Nat ⊕ Unit) => (((Sum.elim (fun e : Nat => (.inr e : Option ox_V ⊕ Nat)) (fun v : Unit => .inl none) r), σ) : ox_O)) r)) (J_Out_checkDay_11 σ) (ox_ev m_Out_checkDay (ox_zz ox_ms (n + 0)) 11 1 tl [ox_d] [] σ) := by
  unfold J_Out_checkDay_11
  refine ox_R_to 1 (Y := some (.inr 2, σ)) rfl ?_
  exact ox_R_ret rfl
def F_Out_checkDay  (a1 : Int) (σ : ox_H) : Option ((Nat ⊕ Unit)) := if a1 < 0 then (J_Out_checkDay_11 σ) else (if a1 ≤ 9999 then (some (.inr ())) else (J_Out_checkDay_11 σ))
theorem L_Out_checkDay  (a1 : Int) (σ : ox_H) (n tl : Nat) : ox_R (fun r => some ((fun r : (Nat ⊕ Unit) => (((Sum.elim (fun e : Nat => (.inr e : Option ox_V ⊕ Nat)) (fun v : Unit => .inl none) r), σ) : ox_O)) r)) (F_Out_checkDay a1 σ) (ox_zz ox_ms (n + 1) 32 tl [.inl (a1)] σ) := by
  unfold F_Out_checkDay
  refine ox_R_of (Y := ox_ev m_Out_checkDay (ox_zz ox_ms (n + 0)) 0 1 tl [.inl (a1)] [] σ) rfl ?_
  refine ox_R_to 2 (Y := if a1 < 0 then ox_ev m_Out_checkDay (ox_zz ox_ms (n + 0)) 11 1 tl [ox_d] [] σ else ox_ev m_Out_checkDay (ox_zz ox_ms (n + 0)) 4 1 tl [.inl (a1)] [] σ) rfl ?_
  refine ox_R_if (fun _ => ?_) (fun _ => ?_)
  · exact (L_Out_checkDay_11 σ n tl)
  · refine ox_R_to 3 (Y := if a1 ≤ 9999 then ox_ev m_Out_checkDay (ox_zz ox_ms (n + 0)) 22 1 tl [.inl (a1)] [] σ else ox_ev m_Out_checkDay (ox_zz ox_ms (n + 0)) 11 1 tl [ox_d] [] σ) rfl ?_
    refine ox_R_if (fun _ => ?_) (fun _ => ?_)
    · refine ox_R_to 1 (Y := some (.inl none, σ)) rfl ?_
      exact ox_R_ret rfl
    · exact (L_Out_checkDay_11 σ n tl)
def F_Out_today  (a1 : Int) (σ : ox_H) : Option ((Nat ⊕ Int) × ox_H) := (F_Out_checkDay a1 σ).bind fun r1 => match r1 with | .inl e3 => (some (.inl e3, σ)) | .inr x2 => (some (.inr (σ 0 0 7 0), (ox_up σ 0 0 7 0 a1)))
theorem L_Out_today  (a1 : Int) (σ : ox_H) (n tl : Nat) : ox_R (fun r => some ((fun r : (Nat ⊕ Int) × ox_H => (((Sum.elim (fun e : Nat => (.inr e : Option ox_V ⊕ Nat)) (fun v : Int => .inl (some (.inl v))) r.1), r.2) : ox_O)) r)) (F_Out_today a1 σ) (ox_zz ox_ms (n + 2) 26 tl [.inr (.inr (0, 0, 0)), .inl (a1)] σ) := by
  unfold F_Out_today
  refine ox_R_of (Y := ox_ev m_Out_today (ox_zz ox_ms (n + 1)) 0 1 tl [.inr (.inr (0, 0, 0)), .inl (a1), ox_d] [] σ) rfl ?_
  refine ox_R_to 2 (Y := ox_back m_Out_today 1 0 [] ((ox_zz ox_ms (n + 1)) 32 tl [.inl (a1)] σ) (fun pc9 x9 st9 σ9 => ox_ev m_Out_today (ox_zz ox_ms (n + 1)) pc9 0 tl (ox_kl (m_Out_today.2.2.1 pc9) (ox_xl x9 [.inr (.inr (0, 0, 0)), .inl (a1), ox_d])) st9 σ9)) rfl ?_
  refine ox_R_call (fc := (fun r : (Nat ⊕ Unit) => (((Sum.elim (fun e : Nat => (.inr e : Option ox_V ⊕ Nat)) (fun v : Unit => .inl none) r), σ) : ox_O))) (L_Out_checkDay a1 σ (n + 0) tl) (fun r1 => ?_)
  rcases r1 with e3 | x2
  · refine ox_R_of (Y := some (.inr e3, σ)) rfl ?_
    exact ox_R_ret rfl
  · refine ox_R_of (Y := ox_ev m_Out_today (ox_zz ox_ms (n + 1)) 4 0 tl [.inr (.inr (0, 0, 0)), .inl (a1), ox_d] [] σ) rfl ?_
    refine ox_R_to 8 (Y := some (.inl (some (.inl (σ 0 0 7 0))), (ox_up σ 0 0 7 0 a1))) rfl ?_
    exact ox_R_ret rfl
def J_Out_checkTags_11  (σ : ox_H) : Option ((Nat ⊕ Unit)) := some (.inl 2)
theorem L_Out_checkTags_11  (σ : ox_H) (n tl : Nat) : ox_R (fun r => some ((fun r : (Nat ⊕ Unit) => (((Sum.elim (fun e : Nat => (.inr e : Option ox_V ⊕ Nat)) (fun v : Unit => .inl none) r), σ) : ox_O)) r)) (J_Out_checkTags_11 σ) (ox_ev m_Out_checkTags (ox_zz ox_ms (n + 0)) 11 1 tl [ox_d] [] σ) := by
  unfold J_Out_checkTags_11
  refine ox_R_to 1 (Y := some (.inr 2, σ)) rfl ?_
  exact ox_R_ret rfl
def F_Out_checkTags  (a1 : Int) (σ : ox_H) : Option ((Nat ⊕ Unit)) := if a1 < 0 then (J_Out_checkTags_11 σ) else (if a1 ≤ (ox_c 67108863 0) then (some (.inr ())) else (J_Out_checkTags_11 σ))
theorem L_Out_checkTags  (a1 : Int) (σ : ox_H) (n tl : Nat) : ox_R (fun r => some ((fun r : (Nat ⊕ Unit) => (((Sum.elim (fun e : Nat => (.inr e : Option ox_V ⊕ Nat)) (fun v : Unit => .inl none) r), σ) : ox_O)) r)) (F_Out_checkTags a1 σ) (ox_zz ox_ms (n + 1) 33 tl [.inl (a1)] σ) := by
  unfold F_Out_checkTags
  refine ox_R_of (Y := ox_ev m_Out_checkTags (ox_zz ox_ms (n + 0)) 0 1 tl [.inl (a1)] [] σ) rfl ?_
  refine ox_R_to 2 (Y := if a1 < 0 then ox_ev m_Out_checkTags (ox_zz ox_ms (n + 0)) 11 1 tl [ox_d] [] σ else ox_ev m_Out_checkTags (ox_zz ox_ms (n + 0)) 4 1 tl [.inl (a1)] [] σ) rfl ?_
  refine ox_R_if (fun _ => ?_) (fun _ => ?_)
  · exact (L_Out_checkTags_11 σ n tl)
  · refine ox_R_to 3 (Y := if a1 ≤ (ox_c 67108863 0) then ox_ev m_Out_checkTags (ox_zz ox_ms (n + 0)) 22 1 tl [.inl (a1)] [] σ else ox_ev m_Out_checkTags (ox_zz ox_ms (n + 0)) 11 1 tl [ox_d] [] σ) rfl ?_
    refine ox_R_if (fun _ => ?_) (fun _ => ?_)
    · refine ox_R_to 1 (Y := some (.inl none, σ)) rfl ?_
      exact ox_R_ret rfl
    · exact (L_Out_checkTags_11 σ n tl)
def J_Rdg_isDayOf_19  (σ : ox_H) : Option Int := some 0
theorem L_Rdg_isDayOf_19  (σ : ox_H) (n tl : Nat) : ox_R (fun r => some ((fun r : Int => ((.inl (some (.inl r)), σ) : ox_O)) r)) (J_Rdg_isDayOf_19 σ) (ox_ev m_Rdg_isDayOf (ox_zz ox_ms (n + 0)) 19 0 tl [ox_d, ox_d, ox_d] [] σ) := by
  unfold J_Rdg_isDayOf_19
  refine ox_R_to 2 (Y := some (.inl (some (.inl (0))), σ)) rfl ?_
  exact ox_R_ret rfl
def J_Rdg_isDayOf_56  (s0 : Int) (σ : ox_H) : Option Int := some (s0 % 2)
theorem L_Rdg_isDayOf_56  (s0 : Int) (σ : ox_H) (n tl : Nat) : ox_R (fun r => some ((fun r : Int => ((.inl (some (.inl r)), σ) : ox_O)) r)) (J_Rdg_isDayOf_56 s0 σ) (ox_ev m_Rdg_isDayOf (ox_zz ox_ms (n + 0)) 56 0 tl [ox_d, ox_d, ox_d] [.inl (s0)] σ) := by
  unfold J_Rdg_isDayOf_56
  refine ox_R_to 1 (Y := some (.inl (some (.inl (s0 % 2))), σ)) rfl ?_
  exact ox_R_ret rfl
def J_Rdg_isDayOf_39  (v0 : Nat) (s0 : Int) (σ : ox_H) : Option Int := if (ox_w ((σ 4 v0 4 0) - (σ 4 v0 3 0))) < s0 then (J_Rdg_isDayOf_56 0 σ) else (J_Rdg_isDayOf_56 1 σ)
theorem L_Rdg_isDayOf_39  (v0 : Nat) (s0 : Int) (σ : ox_H) (n tl : Nat) : ox_R (fun r => some ((fun r : Int => ((.inl (some (.inl r)), σ) : ox_O)) r)) (J_Rdg_isDayOf_39 v0 s0 σ) (ox_ev m_Rdg_isDayOf (ox_zz ox_ms (n + 0)) 39 0 tl [.inr (.inr (4, v0, 0)), ox_d, ox_d] [.inl (s0)] σ) := by
  unfold J_Rdg_isDayOf_39
  refine ox_R_to 6 (Y := if (ox_w ((σ 4 v0 4 0) - (σ 4 v0 3 0))) < s0 then ox_ev m_Rdg_isDayOf (ox_zz ox_ms (n + 0)) 55 0 tl [.inr (.inr (4, v0, 0)), ox_d, ox_d] [] σ else ox_ev m_Rdg_isDayOf (ox_zz ox_ms (n + 0)) 51 0 tl [.inr (.inr (4, v0, 0)), ox_d, ox_d] [] σ) rfl ?_
  refine ox_R_if (fun _ => ?_) (fun _ => ?_)
  · refine ox_R_to 1 (Y := ox_ev m_Rdg_isDayOf (ox_zz ox_ms (n + 0)) 56 0 tl [ox_d, ox_d, ox_d] [.inl (0)] σ) rfl ?_
    exact (L_Rdg_isDayOf_56 0 σ n tl)
  · refine ox_R_to 2 (Y := ox_ev m_Rdg_isDayOf (ox_zz ox_ms (n + 0)) 56 0 tl [ox_d, ox_d, ox_d] [.inl (1)] σ) rfl ?_
    exact (L_Rdg_isDayOf_56 1 σ n tl)
def F_Rdg_isDayOf  (k : Nat) (a1 : Int) (σ : ox_H) : Option (Int) := if (σ 4 k 3 0) = (-1) then (J_Rdg_isDayOf_19 σ) else (if 0 ≤ (ox_w (a1 - (σ 4 k 3 0))) then (if 1 ≤ (σ 4 k 5 0) then (if (σ 4 k 5 0) = 0 then none else (J_Rdg_isDayOf_39 k (Int.tmod (ox_w (a1 - (σ 4 k 3 0))) (σ 4 k 5 0)) σ)) else (J_Rdg_isDayOf_39 k (ox_w (a1 - (σ 4 k 3 0))) σ)) else (J_Rdg_isDayOf_19 σ))
theorem L_Rdg_isDayOf  (k : Nat) (a1 : Int) (σ : ox_H) (n tl : Nat) : ox_R (fun r => some ((fun r : Int => ((.inl (some (.inl r)), σ) : ox_O)) r)) (F_Rdg_isDayOf k a1 σ) (ox_zz ox_ms (n + 1) 215 tl [.inr (.inr (4, k, 0)), .inl (a1)] σ) := by
  unfold F_Rdg_isDayOf
  refine ox_R_of (Y := ox_ev m_Rdg_isDayOf (ox_zz ox_ms (n + 0)) 0 0 tl [.inr (.inr (4, k, 0)), .inl (a1), ox_d] [] σ) rfl ?_
  refine ox_R_to 9 (Y := if (σ 4 k 3 0) = (-1) then ox_ev m_Rdg_isDayOf (ox_zz ox_ms (n + 0)) 19 0 tl [ox_d, ox_d, ox_d] [] σ else ox_ev m_Rdg_isDayOf (ox_zz ox_ms (n + 0)) 15 0 tl [.inr (.inr (4, k, 0)), .inl (a1), .inl (ox_w (a1 - (σ 4 k 3 0)))] [] σ) rfl ?_
  refine ox_R_if (fun _ => ?_) (fun _ => ?_)
  · exact (L_Rdg_isDayOf_19 σ n tl)
  · refine ox_R_to 2 (Y := if 0 ≤ (ox_w (a1 - (σ 4 k 3 0))) then ox_ev m_Rdg_isDayOf (ox_zz ox_ms (n + 0)) 21 0 tl [.inr (.inr (4, k, 0)), .inl (a1), .inl (ox_w (a1 - (σ 4 k 3 0)))] [] σ else ox_ev m_Rdg_isDayOf (ox_zz ox_ms (n + 0)) 19 0 tl [ox_d, ox_d, ox_d] [] σ) rfl ?_
    refine ox_R_if (fun _ => ?_) (fun _ => ?_)
    · refine ox_R_to 4 (Y := if 1 ≤ (σ 4 k 5 0) then ox_ev m_Rdg_isDayOf (ox_zz ox_ms (n + 0)) 33 0 tl [.inr (.inr (4, k, 0)), .inl (a1), .inl (ox_w (a1 - (σ 4 k 3 0)))] [] σ else ox_ev m_Rdg_isDayOf (ox_zz ox_ms (n + 0)) 29 0 tl [.inr (.inr (4, k, 0)), .inl (a1), .inl (ox_w (a1 - (σ 4 k 3 0)))] [] σ) rfl ?_
      refine ox_R_if (fun _ => ?_) (fun _ => ?_)
      · refine ox_R_to 4 (Y := if (σ 4 k 5 0) = 0 then none else ox_ev m_Rdg_isDayOf (ox_zz ox_ms (n + 0)) 39 0 tl [.inr (.inr (4, k, 0)), ox_d, ox_d] [.inl (Int.tmod (ox_w (a1 - (σ 4 k 3 0))) (σ 4 k 5 0))] σ) rfl ?_
        refine ox_R_if (fun _ => ox_R_none) (fun _ => ?_)
        exact (L_Rdg_isDayOf_39 k (Int.tmod (ox_w (a1 - (σ 4 k 3 0))) (σ 4 k 5 0)) σ n tl)
      · refine ox_R_to 2 (Y := ox_ev m_Rdg_isDayOf (ox_zz ox_ms (n + 0)) 39 0 tl [.inr (.inr (4, k, 0)), ox_d, ox_d] [.inl (ox_w (a1 - (σ 4 k 3 0)))] σ) rfl ?_
        exact (L_Rdg_isDayOf_39 k (ox_w (a1 - (σ 4 k 3 0))) σ n tl)
    · exact (L_Rdg_isDayOf_19 σ n tl)
def J_Otl_isOn_37  (s0 : Int) (σ : ox_H) : Option Int := some (s0 % 2)
theorem L_Otl_isOn_37  (s0 : Int) (σ : ox_H) (n tl : Nat) : ox_R (fun r => some ((fun r : Int => ((.inl (some (.inl r)), σ) : ox_O)) r)) (J_Otl_isOn_37 s0 σ) (ox_ev m_Otl_isOn (ox_zz ox_ms (n + 2)) 37 0 tl [ox_d, ox_d, ox_d, ox_d] [.inl (s0)] σ) := by
  unfold J_Otl_isOn_37
  refine ox_R_to 1 (Y := some (.inl (some (.inl (s0 % 2))), σ)) rfl ?_
  exact ox_R_ret rfl
def J_Otl_isOn_36  (σ : ox_H) : Option Int := (J_Otl_isOn_37 0 σ)
theorem L_Otl_isOn_36  (σ : ox_H) (n tl : Nat) : ox_R (fun r => some ((fun r : Int => ((.inl (some (.inl r)), σ) : ox_O)) r)) (J_Otl_isOn_36 σ) (ox_ev m_Otl_isOn (ox_zz ox_ms (n + 2)) 36 0 tl [ox_d, ox_d, ox_d, ox_d] [] σ) := by
  unfold J_Otl_isOn_36
  refine ox_R_to 1 (Y := ox_ev m_Otl_isOn (ox_zz ox_ms (n + 2)) 37 0 tl [ox_d, ox_d, ox_d, ox_d] [.inl (0)] σ) rfl ?_
  exact (L_Otl_isOn_37 0 σ n tl)
def F_Otl_isOn  (a1 : Int) (a2 : Int) (σ : ox_H) : Option (Int) := (F_Otl_stateOf a1 σ).bind fun r1 => (if r1 = 2 then (J_Otl_isOn_36 σ) else (if r1 = 3 then (J_Otl_isOn_36 σ) else ((F_Otl_dateLine a1 σ).bind fun r2 => ((F_Otl_reading r2 σ).bind fun r3 => ((F_Rdg_isDayOf r3 a2 σ).bind fun r4 => (if r4 = 0 then (J_Otl_isOn_36 σ) else (J_Otl_isOn_37 1 σ)))))))
theorem L_Otl_isOn  (a1 : Int) (a2 : Int) (σ : ox_H) (n tl : Nat) : ox_R (fun r => some ((fun r : Int => ((.inl (some (.inl r)), σ) : ox_O)) r)) (F_Otl_isOn a1 a2 σ) (ox_zz ox_ms (n + 3) 191 tl [.inr (.inr (2, 0, 0)), .inl (a1), .inl (a2)] σ) := by
  unfold F_Otl_isOn
  refine ox_R_of (Y := ox_ev m_Otl_isOn (ox_zz ox_ms (n + 2)) 0 0 tl [.inr (.inr (2, 0, 0)), .inl (a1), .inl (a2), ox_d] [] σ) rfl ?_
  refine ox_R_to 3 (Y := ox_back m_Otl_isOn 2 1 [] ((ox_zz ox_ms (n + 2)) 178 tl [.inr (.inr (2, 0, 0)), .inl (a1)] σ) (fun pc9 x9 st9 σ9 => ox_ev m_Otl_isOn (ox_zz ox_ms (n + 2)) pc9 0 tl (ox_kl (m_Otl_isOn.2.2.1 pc9) (ox_xl x9 [.inr (.inr (2, 0, 0)), .inl (a1), .inl (a2), ox_d])) st9 σ9)) rfl ?_
  refine ox_R_call (fc := (fun r : Int => ((.inl (some (.inl r)), σ) : ox_O))) (L_Otl_stateOf a1 σ (n + 0) tl) (fun r1 => ?_)
  refine ox_R_of (Y := ox_ev m_Otl_isOn (ox_zz ox_ms (n + 2)) 5 0 tl [.inr (.inr (2, 0, 0)), .inl (a1), .inl (a2), ox_d] [.inl (r1)] σ) rfl ?_
  refine ox_R_to 4 (Y := if r1 = 2 then ox_ev m_Otl_isOn (ox_zz ox_ms (n + 2)) 36 0 tl [ox_d, ox_d, ox_d, ox_d] [] σ else ox_ev m_Otl_isOn (ox_zz ox_ms (n + 2)) 11 0 tl [.inr (.inr (2, 0, 0)), .inl (a1), .inl (a2), .inl (r1)] [] σ) rfl ?_
  refine ox_R_if (fun _ => ?_) (fun _ => ?_)
  · exact (L_Otl_isOn_36 σ n tl)
  · refine ox_R_to 3 (Y := if r1 = 3 then ox_ev m_Otl_isOn (ox_zz ox_ms (n + 2)) 36 0 tl [ox_d, ox_d, ox_d, ox_d] [] σ else ox_ev m_Otl_isOn (ox_zz ox_ms (n + 2)) 16 0 tl [.inr (.inr (2, 0, 0)), .inl (a1), .inl (a2), .inl (r1)] [] σ) rfl ?_
    refine ox_R_if (fun _ => ?_) (fun _ => ?_)
    · exact (L_Otl_isOn_36 σ n tl)
    · refine ox_R_to 4 (Y := ox_back m_Otl_isOn 19 1 [.inr (.inr (2, 0, 0))] ((ox_zz ox_ms (n + 2)) 190 tl [.inr (.inr (2, 0, 0)), .inl (a1)] σ) (fun pc9 x9 st9 σ9 => ox_ev m_Otl_isOn (ox_zz ox_ms (n + 2)) pc9 0 tl (ox_kl (m_Otl_isOn.2.2.1 pc9) (ox_xl x9 [.inr (.inr (2, 0, 0)), .inl (a1), .inl (a2), .inl (r1)])) st9 σ9)) rfl ?_
      refine ox_R_call (fc := (fun r : Int => ((.inl (some (.inl r)), σ) : ox_O))) (L_Otl_dateLine a1 σ (n + 0) tl) (fun r2 => ?_)
      refine ox_R_of (Y := ox_ev m_Otl_isOn (ox_zz ox_ms (n + 2)) 22 0 tl [.inr (.inr (2, 0, 0)), .inl (a1), .inl (a2), .inl (r1)] [.inl (r2), .inr (.inr (2, 0, 0))] σ) rfl ?_
      refine ox_R_to 1 (Y := ox_back m_Otl_isOn 22 1 [] ((ox_zz ox_ms (n + 2)) 172 tl [.inr (.inr (2, 0, 0)), .inl (r2)] σ) (fun pc9 x9 st9 σ9 => ox_ev m_Otl_isOn (ox_zz ox_ms (n + 2)) pc9 0 tl (ox_kl (m_Otl_isOn.2.2.1 pc9) (ox_xl x9 [.inr (.inr (2, 0, 0)), .inl (a1), .inl (a2), .inl (r1)])) st9 σ9)) rfl ?_
      refine ox_R_call (fc := (fun r : Nat => ((.inl (some (.inr (.inr (4, r, 0)))), σ) : ox_O))) (L_Otl_reading r2 σ (n + 1) tl) (fun r3 => ?_)
      refine ox_R_of (Y := ox_ev m_Otl_isOn (ox_zz ox_ms (n + 2)) 25 0 tl [.inr (.inr (2, 0, 0)), .inl (a1), .inl (a2), .inl (r1)] [.inr (.inr (4, r3, 0))] σ) rfl ?_
      refine ox_R_to 2 (Y := ox_back m_Otl_isOn 26 3 [] ((ox_zz ox_ms (n + 2)) 215 tl [.inr (.inr (4, r3, 0)), .inl (a2)] σ) (fun pc9 x9 st9 σ9 => ox_ev m_Otl_isOn (ox_zz ox_ms (n + 2)) pc9 0 tl (ox_kl (m_Otl_isOn.2.2.1 pc9) (ox_xl x9 [.inr (.inr (2, 0, 0)), .inl (a1), .inl (a2), .inl (r1)])) st9 σ9)) rfl ?_
      refine ox_R_call (fc := (fun r : Int => ((.inl (some (.inl r)), σ) : ox_O))) (L_Rdg_isDayOf r3 a2 σ (n + 1) tl) (fun r4 => ?_)
      refine ox_R_of (Y := ox_ev m_Otl_isOn (ox_zz ox_ms (n + 2)) 29 0 tl [.inr (.inr (2, 0, 0)), .inl (a1), .inl (a2), .inl (r1)] [.inl (r4)] σ) rfl ?_
      refine ox_R_to 1 (Y := if r4 = 0 then ox_ev m_Otl_isOn (ox_zz ox_ms (n + 2)) 36 0 tl [ox_d, ox_d, ox_d, ox_d] [] σ else ox_ev m_Otl_isOn (ox_zz ox_ms (n + 2)) 32 0 tl [.inr (.inr (2, 0, 0)), .inl (a1), .inl (a2), .inl (r1)] [] σ) rfl ?_
      refine ox_R_if (fun _ => ?_) (fun _ => ?_)
      · exact (L_Otl_isOn_36 σ n tl)
      · refine ox_R_to 2 (Y := ox_ev m_Otl_isOn (ox_zz ox_ms (n + 2)) 37 0 tl [ox_d, ox_d, ox_d, ox_d] [.inl (1)] σ) rfl ?_
        exact (L_Otl_isOn_37 1 σ n tl)
def J_Out_agenda_112  (σ : ox_H) : Option ((Nat ⊕ Int) × ox_H) := some (.inr (-1), σ)
theorem L_Out_agenda_112  (σ : ox_H) (n tl : Nat) : ox_R (fun r => some ((fun r : (Nat ⊕ Int) × ox_H => (((Sum.elim (fun e : Nat => (.inr e : Option ox_V ⊕ Nat)) (fun v : Int => .inl (some (.inl v))) r.1), r.2) : ox_O)) r)) (J_Out_agenda_112 σ) (ox_ev m_Out_agenda (ox_zz ox_ms (n + 6)) 112 1 tl [ox_d, ox_d, ox_d, ox_d, ox_d, ox_d, ox_d, ox_d] [] σ) := by
  unfold J_Out_agenda_112
  refine ox_R_to 2 (Y := some (.inl (some (.inl ((-1)))), σ)) rfl ?_
  exact ox_R_ret rfl
def J_Out_agenda_106  (v1 : Int) (v2 : Int) (v3 : Int) (v5 : Int) (v6 : Int) (σ : ox_H) : Option (((Int × Int) ⊕ (Nat ⊕ Int) × ox_H)) := some (.inl (v5, ox_w (v6 + 1)))
theorem L_Out_agenda_106  (v1 : Int) (v2 : Int) (v3 : Int) (v5 : Int) (v6 : Int) (σ : ox_H) (n tl : Nat) : ox_R (Sum.elim (fun (s : Int × Int) => match s with | (v5, v6) => ox_ev m_Out_agenda (ox_zz ox_ms (n + 6)) 41 1 tl [.inr (.inr (0, 0, 0)), .inl (v1), .inl (v2), .inl (v3), ox_d, .inl (v5), .inl (v6), ox_d] [] σ) (fun r => some ((fun r : (Nat ⊕ Int) × ox_H => (((Sum.elim (fun e : Nat => (.inr e : Option ox_V ⊕ Nat)) (fun v : Int => .inl (some (.inl v))) r.1), r.2) : ox_O)) r))) (J_Out_agenda_106 v1 v2 v3 v5 v6 σ) (ox_ev m_Out_agenda (ox_zz ox_ms (n + 6)) 106 1 tl [.inr (.inr (0, 0, 0)), .inl (v1), .inl (v2), .inl (v3), ox_d, .inl (v5), .inl (v6), ox_d] [] σ) := by
  unfold J_Out_agenda_106
  refine ox_R_to 2 (Y := ox_ev m_Out_agenda (ox_zz ox_ms (n + 6)) 41 1 tl [.inr (.inr (0, 0, 0)), .inl (v1), .inl (v2), .inl (v3), ox_d, .inl (v5), .inl (ox_w (v6 + 1)), ox_d] [] σ) rfl ?_
  exact ox_R_ret rfl
def J_Out_agenda_100  (v6 : Int) (σ : ox_H) : Option ((Nat ⊕ Int) × ox_H) := some (.inr v6, σ)
theorem L_Out_agenda_100  (v6 : Int) (σ : ox_H) (n tl : Nat) : ox_R (fun r => some ((fun r : (Nat ⊕ Int) × ox_H => (((Sum.elim (fun e : Nat => (.inr e : Option ox_V ⊕ Nat)) (fun v : Int => .inl (some (.inl v))) r.1), r.2) : ox_O)) r)) (J_Out_agenda_100 v6 σ) (ox_ev m_Out_agenda (ox_zz ox_ms (n + 6)) 100 1 tl [ox_d, ox_d, ox_d, ox_d, ox_d, ox_d, .inl (v6), ox_d] [] σ) := by
  unfold J_Out_agenda_100
  refine ox_R_to 2 (Y := some (.inl (some (.inl (v6))), σ)) rfl ?_
  exact ox_R_ret rfl
def B_Out_agenda_41  (v1 : Int) (v2 : Int) (v3 : Int) (σ : ox_H) : (Int × Int) → Option (((Int × Int) ⊕ (Nat ⊕ Int) × ox_H)) := fun (v5, v6) => if (σ 2 0 9 0) ≤ v6 then ((J_Out_agenda_112 σ).map .inr) else ((F_Otl_tagsOf v6 σ).bind fun r1 => (if (ox_and r1 v2) = v2 then (if (ox_and r1 v3) = 0 then ((F_Otl_isOn v6 v1 σ).bind fun r2 => (if r2 = 0 then (J_Out_agenda_106 v1 v2 v3 v5 v6 σ) else (if v5 = 0 then ((J_Out_agenda_100 v6 σ).map .inr) else (J_Out_agenda_106 v1 v2 v3 (ox_w (v5 + (-1))) v6 σ)))) else (J_Out_agenda_106 v1 v2 v3 v5 v6 σ)) else (J_Out_agenda_106 v1 v2 v3 v5 v6 σ)))
def J_Out_agenda_41  (v1 : Int) (v2 : Int) (v3 : Int) (v5 : Int) (v6 : Int) (σ : ox_H) : Option ((Nat ⊕ Int) × ox_H) := ox_lp (B_Out_agenda_41 v1 v2 v3 σ) ox_fu (v5, v6)
theorem L_Out_agenda_41  (v1 : Int) (v2 : Int) (v3 : Int) (v5 : Int) (v6 : Int) (σ : ox_H) (n tl : Nat) : ox_R (fun r => some ((fun r : (Nat ⊕ Int) × ox_H => (((Sum.elim (fun e : Nat => (.inr e : Option ox_V ⊕ Nat)) (fun v : Int => .inl (some (.inl v))) r.1), r.2) : ox_O)) r)) (J_Out_agenda_41 v1 v2 v3 v5 v6 σ) (ox_ev m_Out_agenda (ox_zz ox_ms (n + 6)) 41 1 tl [.inr (.inr (0, 0, 0)), .inl (v1), .inl (v2), .inl (v3), ox_d, .inl (v5), .inl (v6), ox_d] [] σ) := by
  unfold J_Out_agenda_41
  refine ox_R_lp (ψ := (fun (s : Int × Int) => match s with | (v5, v6) => ox_ev m_Out_agenda (ox_zz ox_ms (n + 6)) 41 1 tl [.inr (.inr (0, 0, 0)), .inl (v1), .inl (v2), .inl (v3), ox_d, .inl (v5), .inl (v6), ox_d] [] σ)) ?_ ox_fu (v5, v6)
  intro s
  obtain ⟨v5, v6⟩ := s
  unfold B_Out_agenda_41
  refine ox_R_to 5 (Y := if (σ 2 0 9 0) ≤ v6 then ox_ev m_Out_agenda (ox_zz ox_ms (n + 6)) 112 1 tl [ox_d, ox_d, ox_d, ox_d, ox_d, ox_d, ox_d, ox_d] [] σ else ox_ev m_Out_agenda (ox_zz ox_ms (n + 6)) 53 1 tl [.inr (.inr (0, 0, 0)), .inl (v1), .inl (v2), .inl (v3), ox_d, .inl (v5), .inl (v6), ox_d] [] σ) rfl ?_
  refine ox_R_if (fun _ => ?_) (fun _ => ?_)
  · exact ox_R_map ((L_Out_agenda_112 σ n tl))
  · refine ox_R_to 4 (Y := ox_back m_Out_agenda 59 3 [] ((ox_zz ox_ms (n + 6)) 176 tl [.inr (.inr (2, 0, 0)), .inl (v6)] σ) (fun pc9 x9 st9 σ9 => ox_ev m_Out_agenda (ox_zz ox_ms (n + 6)) pc9 1 tl (ox_kl (m_Out_agenda.2.2.1 pc9) (ox_xl x9 [.inr (.inr (0, 0, 0)), .inl (v1), .inl (v2), .inl (v3), ox_d, .inl (v5), .inl (v6), ox_d])) st9 σ9)) rfl ?_
    refine ox_R_call (fc := (fun r : Int => ((.inl (some (.inl r)), σ) : ox_O))) (L_Otl_tagsOf v6 σ (n + 5) tl) (fun r1 => ?_)
    refine ox_R_of (Y := ox_ev m_Out_agenda (ox_zz ox_ms (n + 6)) 62 1 tl [.inr (.inr (0, 0, 0)), .inl (v1), .inl (v2), .inl (v3), ox_d, .inl (v5), .inl (v6), ox_d] [.inl (r1)] σ) rfl ?_
    refine ox_R_to 6 (Y := if (ox_and r1 v2) = v2 then ox_ev m_Out_agenda (ox_zz ox_ms (n + 6)) 72 1 tl [.inr (.inr (0, 0, 0)), .inl (v1), .inl (v2), .inl (v3), ox_d, .inl (v5), .inl (v6), .inl (r1)] [] σ else ox_ev m_Out_agenda (ox_zz ox_ms (n + 6)) 106 1 tl [.inr (.inr (0, 0, 0)), .inl (v1), .inl (v2), .inl (v3), ox_d, .inl (v5), .inl (v6), ox_d] [] σ) rfl ?_
    refine ox_R_if (fun _ => ?_) (fun _ => ?_)
    · refine ox_R_to 4 (Y := if (ox_and r1 v3) = 0 then ox_ev m_Out_agenda (ox_zz ox_ms (n + 6)) 79 1 tl [.inr (.inr (0, 0, 0)), .inl (v1), .inl (v2), .inl (v3), ox_d, .inl (v5), .inl (v6), .inl (r1)] [] σ else ox_ev m_Out_agenda (ox_zz ox_ms (n + 6)) 106 1 tl [.inr (.inr (0, 0, 0)), .inl (v1), .inl (v2), .inl (v3), ox_d, .inl (v5), .inl (v6), ox_d] [] σ) rfl ?_
      refine ox_R_if (fun _ => ?_) (fun _ => ?_)
      · refine ox_R_to 5 (Y := ox_back m_Out_agenda 86 3 [] ((ox_zz ox_ms (n + 6)) 191 tl [.inr (.inr (2, 0, 0)), .inl (v6), .inl (v1)] σ) (fun pc9 x9 st9 σ9 => ox_ev m_Out_agenda (ox_zz ox_ms (n + 6)) pc9 1 tl (ox_kl (m_Out_agenda.2.2.1 pc9) (ox_xl x9 [.inr (.inr (0, 0, 0)), .inl (v1), .inl (v2), .inl (v3), ox_d, .inl (v5), .inl (v6), .inl (r1)])) st9 σ9)) rfl ?_
        refine ox_R_call (fc := (fun r : Int => ((.inl (some (.inl r)), σ) : ox_O))) (L_Otl_isOn v6 v1 σ (n + 3) tl) (fun r2 => ?_)
        refine ox_R_of (Y := ox_ev m_Out_agenda (ox_zz ox_ms (n + 6)) 89 1 tl [.inr (.inr (0, 0, 0)), .inl (v1), .inl (v2), .inl (v3), ox_d, .inl (v5), .inl (v6), .inl (r1)] [.inl (r2)] σ) rfl ?_
        refine ox_R_to 1 (Y := if r2 = 0 then ox_ev m_Out_agenda (ox_zz ox_ms (n + 6)) 92 1 tl [.inr (.inr (0, 0, 0)), .inl (v1), .inl (v2), .inl (v3), ox_d, .inl (v5), .inl (v6), .inl (r1)] [] σ else ox_ev m_Out_agenda (ox_zz ox_ms (n + 6)) 95 1 tl [.inr (.inr (0, 0, 0)), .inl (v1), .inl (v2), .inl (v3), ox_d, .inl (v5), .inl (v6), .inl (r1)] [] σ) rfl ?_
        refine ox_R_if (fun _ => ?_) (fun _ => ?_)
        · refine ox_R_to 1 (Y := ox_ev m_Out_agenda (ox_zz ox_ms (n + 6)) 106 1 tl [.inr (.inr (0, 0, 0)), .inl (v1), .inl (v2), .inl (v3), ox_d, .inl (v5), .inl (v6), ox_d] [] σ) rfl ?_
          exact (L_Out_agenda_106 v1 v2 v3 v5 v6 σ n tl)
        · refine ox_R_to 2 (Y := if v5 = 0 then ox_ev m_Out_agenda (ox_zz ox_ms (n + 6)) 100 1 tl [ox_d, ox_d, ox_d, ox_d, ox_d, ox_d, .inl (v6), ox_d] [] σ else ox_ev m_Out_agenda (ox_zz ox_ms (n + 6)) 103 1 tl [.inr (.inr (0, 0, 0)), .inl (v1), .inl (v2), .inl (v3), ox_d, .inl (v5), .inl (v6), .inl (r1)] [] σ) rfl ?_
          refine ox_R_if (fun _ => ?_) (fun _ => ?_)
          · exact ox_R_map ((L_Out_agenda_100 v6 σ n tl))
          · refine ox_R_to 1 (Y := ox_ev m_Out_agenda (ox_zz ox_ms (n + 6)) 106 1 tl [.inr (.inr (0, 0, 0)), .inl (v1), .inl (v2), .inl (v3), ox_d, .inl (ox_w (v5 + (-1))), .inl (v6), ox_d] [] σ) rfl ?_
            exact (L_Out_agenda_106 v1 v2 v3 (ox_w (v5 + (-1))) v6 σ n tl)
      · exact (L_Out_agenda_106 v1 v2 v3 v5 v6 σ n tl)
    · exact (L_Out_agenda_106 v1 v2 v3 v5 v6 σ n tl)
def F_Out_agenda  (a1 : Int) (a2 : Int) (a3 : Int) (a4 : Int) (σ : ox_H) : Option ((Nat ⊕ Int) × ox_H) := if 0 ≤ a4 then ((F_Out_checkDay a1 σ).bind fun r3 => match r3 with | .inl e12 => (some (.inl e12, σ)) | .inr x4 => ((F_Out_checkTags a2 σ).bind fun r5 => match r5 with | .inl e11 => (some (.inl e11, σ)) | .inr x6 => ((F_Out_checkTags a3 σ).bind fun r7 => match r7 with | .inl e10 => (some (.inl e10, σ)) | .inr x8 => ((F_Otl_refresh σ).bind fun r9 => (J_Out_agenda_41 a1 a2 a3 a4 0 r9))))) else (some (.inl 1, σ))
theorem L_Out_agenda  (a1 : Int) (a2 : Int) (a3 : Int) (a4 : Int) (σ : ox_H) (n tl : Nat) : ox_R (fun r => some ((fun r : (Nat ⊕ Int) × ox_H => (((Sum.elim (fun e : Nat => (.inr e : Option ox_V ⊕ Nat)) (fun v : Int => .inl (some (.inl v))) r.1), r.2) : ox_O)) r)) (F_Out_agenda a1 a2 a3 a4 σ) (ox_zz ox_ms (n + 7) 27 tl [.inr (.inr (0, 0, 0)), .inl (a1), .inl (a2), .inl (a3), .inl (a4)] σ) := by
  unfold F_Out_agenda
  refine ox_R_of (Y := ox_ev m_Out_agenda (ox_zz ox_ms (n + 6)) 0 4 tl [.inr (.inr (0, 0, 0)), .inl (a1), .inl (a2), .inl (a3), .inl (a4), ox_d, ox_d, ox_d] [] σ) rfl ?_
  refine ox_R_to 2 (Y := if 0 ≤ a4 then ox_ev m_Out_agenda (ox_zz ox_ms (n + 6)) 15 4 tl [.inr (.inr (0, 0, 0)), .inl (a1), .inl (a2), .inl (a3), .inl (a4), ox_d, ox_d, ox_d] [] σ else ox_ev m_Out_agenda (ox_zz ox_ms (n + 6)) 5 4 tl [.inr (.inr (0, 0, 0)), .inl (a1), .inl (a2), .inl (a3), .inl (a4), ox_d, ox_d, ox_d] [] σ) rfl ?_
  refine ox_R_if (fun _ => ?_) (fun _ => ?_)
  · refine ox_R_to 2 (Y := ox_back m_Out_agenda 16 0 [] ((ox_zz ox_ms (n + 6)) 32 tl [.inl (a1)] σ) (fun pc9 x9 st9 σ9 => ox_ev m_Out_agenda (ox_zz ox_ms (n + 6)) pc9 3 tl (ox_kl (m_Out_agenda.2.2.1 pc9) (ox_xl x9 [.inr (.inr (0, 0, 0)), .inl (a1), .inl (a2), .inl (a3), .inl (a4), ox_d, ox_d, ox_d])) st9 σ9)) rfl ?_
    refine ox_R_call (fc := (fun r : (Nat ⊕ Unit) => (((Sum.elim (fun e : Nat => (.inr e : Option ox_V ⊕ Nat)) (fun v : Unit => .inl none) r), σ) : ox_O))) (L_Out_checkDay a1 σ (n + 5) tl) (fun r3 => ?_)
    rcases r3 with e12 | x4
    · refine ox_R_of (Y := some (.inr e12, σ)) rfl ?_
      exact ox_R_ret rfl
    · refine ox_R_of (Y := ox_ev m_Out_agenda (ox_zz ox_ms (n + 6)) 19 3 tl [.inr (.inr (0, 0, 0)), .inl (a1), .inl (a2), .inl (a3), .inl (a4), ox_d, ox_d, ox_d] [] σ) rfl ?_
      refine ox_R_to 2 (Y := ox_back m_Out_agenda 20 0 [] ((ox_zz ox_ms (n + 6)) 33 tl [.inl (a2)] σ) (fun pc9 x9 st9 σ9 => ox_ev m_Out_agenda (ox_zz ox_ms (n + 6)) pc9 2 tl (ox_kl (m_Out_agenda.2.2.1 pc9) (ox_xl x9 [.inr (.inr (0, 0, 0)), .inl (a1), .inl (a2), .inl (a3), .inl (a4), ox_d, ox_d, ox_d])) st9 σ9)) rfl ?_
      refine ox_R_call (fc := (fun r : (Nat ⊕ Unit) => (((Sum.elim (fun e : Nat => (.inr e : Option ox_V ⊕ Nat)) (fun v : Unit => .inl none) r), σ) : ox_O))) (L_Out_checkTags a2 σ (n + 5) tl) (fun r5 => ?_)
      rcases r5 with e11 | x6
      · refine ox_R_of (Y := some (.inr e11, σ)) rfl ?_
        exact ox_R_ret rfl
      · refine ox_R_of (Y := ox_ev m_Out_agenda (ox_zz ox_ms (n + 6)) 23 2 tl [.inr (.inr (0, 0, 0)), .inl (a1), .inl (a2), .inl (a3), .inl (a4), ox_d, ox_d, ox_d] [] σ) rfl ?_
        refine ox_R_to 2 (Y := ox_back m_Out_agenda 24 0 [] ((ox_zz ox_ms (n + 6)) 33 tl [.inl (a3)] σ) (fun pc9 x9 st9 σ9 => ox_ev m_Out_agenda (ox_zz ox_ms (n + 6)) pc9 1 tl (ox_kl (m_Out_agenda.2.2.1 pc9) (ox_xl x9 [.inr (.inr (0, 0, 0)), .inl (a1), .inl (a2), .inl (a3), .inl (a4), ox_d, ox_d, ox_d])) st9 σ9)) rfl ?_
        refine ox_R_call (fc := (fun r : (Nat ⊕ Unit) => (((Sum.elim (fun e : Nat => (.inr e : Option ox_V ⊕ Nat)) (fun v : Unit => .inl none) r), σ) : ox_O))) (L_Out_checkTags a3 σ (n + 5) tl) (fun r7 => ?_)
        rcases r7 with e10 | x8
        · refine ox_R_of (Y := some (.inr e10, σ)) rfl ?_
          exact ox_R_ret rfl
        · refine ox_R_of (Y := ox_ev m_Out_agenda (ox_zz ox_ms (n + 6)) 27 1 tl [.inr (.inr (0, 0, 0)), .inl (a1), .inl (a2), .inl (a3), .inl (a4), ox_d, ox_d, ox_d] [] σ) rfl ?_
          refine ox_R_to 3 (Y := ox_back m_Out_agenda 31 2 [] ((ox_zz ox_ms (n + 6)) 169 tl [.inr (.inr (2, 0, 0))] σ) (fun pc9 x9 st9 σ9 => ox_ev m_Out_agenda (ox_zz ox_ms (n + 6)) pc9 1 tl (ox_kl (m_Out_agenda.2.2.1 pc9) (ox_xl x9 [.inr (.inr (0, 0, 0)), .inl (a1), .inl (a2), .inl (a3), .inl (a4), ox_d, ox_d, ox_d])) st9 σ9)) rfl ?_
          refine ox_R_call (fc := (fun r : ox_H => ((.inl none, r) : ox_O))) (L_Otl_refresh σ (n + 0) tl) (fun r9 => ?_)
          refine ox_R_of (Y := ox_ev m_Out_agenda (ox_zz ox_ms (n + 6)) 34 1 tl [.inr (.inr (0, 0, 0)), .inl (a1), .inl (a2), .inl (a3), .inl (a4), ox_d, ox_d, ox_d] [] r9) rfl ?_
          refine ox_R_to 4 (Y := ox_ev m_Out_agenda (ox_zz ox_ms (n + 6)) 41 1 tl [.inr (.inr (0, 0, 0)), .inl (a1), .inl (a2), .inl (a3), ox_d, .inl (a4), .inl (0), ox_d] [] r9) rfl ?_
          exact (L_Out_agenda_41 a1 a2 a3 a4 0 r9 n tl)
  · refine ox_R_to 1 (Y := some (.inr 1, σ)) rfl ?_
    exact ox_R_ret rfl
def J_Out_pass_12  (σ : ox_H) : Option ((Nat ⊕ Int) × ox_H) := some (.inl 2, σ)
theorem L_Out_pass_12  (σ : ox_H) (n tl : Nat) : ox_R (fun r => some ((fun r : (Nat ⊕ Int) × ox_H => (((Sum.elim (fun e : Nat => (.inr e : Option ox_V ⊕ Nat)) (fun v : Int => .inl (some (.inl v))) r.1), r.2) : ox_O)) r)) (J_Out_pass_12 σ) (ox_ev m_Out_pass (ox_zz ox_ms (n + 0)) 12 1 tl [ox_d, ox_d] [] σ) := by
  unfold J_Out_pass_12
  refine ox_R_to 1 (Y := some (.inr 2, σ)) rfl ?_
  exact ox_R_ret rfl
def F_Out_pass  (a1 : Int) (σ : ox_H) : Option ((Nat ⊕ Int) × ox_H) := if a1 < 1 then (J_Out_pass_12 σ) else (if a1 ≤ 500 then (if (ox_w ((σ 0 0 8 0) + a1)) ≤ 9999 then (some (.inr (ox_w ((σ 0 0 8 0) + a1)), (ox_up σ 0 0 8 0 (ox_w ((σ 0 0 8 0) + a1))))) else (some (.inl 3, σ))) else (J_Out_pass_12 σ))
theorem L_Out_pass  (a1 : Int) (σ : ox_H) (n tl : Nat) : ox_R (fun r => some ((fun r : (Nat ⊕ Int) × ox_H => (((Sum.elim (fun e : Nat => (.inr e : Option ox_V ⊕ Nat)) (fun v : Int => .inl (some (.inl v))) r.1), r.2) : ox_O)) r)) (F_Out_pass a1 σ) (ox_zz ox_ms (n + 1) 28 tl [.inr (.inr (0, 0, 0)), .inl (a1)] σ) := by
  unfold F_Out_pass
  refine ox_R_of (Y := ox_ev m_Out_pass (ox_zz ox_ms (n + 0)) 0 1 tl [.inr (.inr (0, 0, 0)), .inl (a1)] [] σ) rfl ?_
  refine ox_R_to 3 (Y := if a1 < 1 then ox_ev m_Out_pass (ox_zz ox_ms (n + 0)) 12 1 tl [ox_d, ox_d] [] σ else ox_ev m_Out_pass (ox_zz ox_ms (n + 0)) 5 1 tl [.inr (.inr (0, 0, 0)), .inl (a1)] [] σ) rfl ?_
  refine ox_R_if (fun _ => ?_) (fun _ => ?_)
  · exact (L_Out_pass_12 σ n tl)
  · refine ox_R_to 3 (Y := if a1 ≤ 500 then ox_ev m_Out_pass (ox_zz ox_ms (n + 0)) 23 1 tl [.inr (.inr (0, 0, 0)), .inl (a1)] [] σ else ox_ev m_Out_pass (ox_zz ox_ms (n + 0)) 12 1 tl [ox_d, ox_d] [] σ) rfl ?_
    refine ox_R_if (fun _ => ?_) (fun _ => ?_)
    · refine ox_R_to 6 (Y := if (ox_w ((σ 0 0 8 0) + a1)) ≤ 9999 then ox_ev m_Out_pass (ox_zz ox_ms (n + 0)) 46 1 tl [.inr (.inr (0, 0, 0)), .inl (a1)] [] σ else ox_ev m_Out_pass (ox_zz ox_ms (n + 0)) 35 1 tl [.inr (.inr (0, 0, 0)), .inl (a1)] [] σ) rfl ?_
      refine ox_R_if (fun _ => ?_) (fun _ => ?_)
      · refine ox_R_to 9 (Y := some (.inl (some (.inl (ox_w ((σ 0 0 8 0) + a1)))), (ox_up σ 0 0 8 0 (ox_w ((σ 0 0 8 0) + a1))))) rfl ?_
        exact ox_R_ret rfl
      · refine ox_R_to 1 (Y := some (.inr 3, σ)) rfl ?_
        exact ox_R_ret rfl
    · exact (L_Out_pass_12 σ n tl)
def J_Out_endClocks_69  (v2 : Int) (σ : ox_H) : Option (Int × ox_H) := some (v2, σ)
theorem L_Out_endClocks_69  (v2 : Int) (σ : ox_H) (n tl : Nat) : ox_R (fun r => some ((fun r : Int × ox_H => ((.inl (some (.inl r.1)), r.2) : ox_O)) r)) (J_Out_endClocks_69 v2 σ) (ox_ev m_Out_endClocks (ox_zz ox_ms (n + 2)) 69 0 tl [ox_d, ox_d, .inl (v2), ox_d, ox_d] [] σ) := by
  unfold J_Out_endClocks_69
  refine ox_R_to 2 (Y := some (.inl (some (.inl (v2))), σ)) rfl ?_
  exact ox_R_ret rfl
def J_Out_endClocks_63  (v1 : Int) (v2 : Int) (v3 : Int) (σ : ox_H) : Option (((Int × Int × ox_H) ⊕ Int × ox_H)) := some (.inl (v2, ox_w (v3 + 1), σ))
theorem L_Out_endClocks_63  (v1 : Int) (v2 : Int) (v3 : Int) (σ : ox_H) (n tl : Nat) : ox_R (Sum.elim (fun (s : Int × Int × ox_H) => match s with | (v2, v3, σ) => ox_ev m_Out_endClocks (ox_zz ox_ms (n + 2)) 4 0 tl [.inr (.inr (0, 0, 0)), .inl (v1), .inl (v2), .inl (v3), ox_d] [] σ) (fun r => some ((fun r : Int × ox_H => ((.inl (some (.inl r.1)), r.2) : ox_O)) r))) (J_Out_endClocks_63 v1 v2 v3 σ) (ox_ev m_Out_endClocks (ox_zz ox_ms (n + 2)) 63 0 tl [.inr (.inr (0, 0, 0)), .inl (v1), .inl (v2), .inl (v3), ox_d] [] σ) := by
  unfold J_Out_endClocks_63
  refine ox_R_to 2 (Y := ox_ev m_Out_endClocks (ox_zz ox_ms (n + 2)) 4 0 tl [.inr (.inr (0, 0, 0)), .inl (v1), .inl (v2), .inl (ox_w (v3 + 1)), ox_d] [] σ) rfl ?_
  exact ox_R_ret rfl
def B_Out_endClocks_4  (v1 : Int) : (Int × Int × ox_H) → Option (((Int × Int × ox_H) ⊕ Int × ox_H)) := fun (v2, v3, σ) => if (σ 1 0 4 0) ≤ v3 then ((J_Out_endClocks_69 v2 σ).map .inr) else ((F_Otl_reading v3 σ).bind fun r1 => (if (σ 4 r1 0 0) = 3 then (if (σ 4 r1 4 0) = (-1) then ((F_Lin_addNumber 0 v3 (if (σ 4 r1 3 0) < v1 then v1 else (σ 4 r1 3 0)) σ).bind fun r2 => (J_Out_endClocks_63 v1 (ox_w (v2 + 1)) v3 r2)) else (J_Out_endClocks_63 v1 v2 v3 σ)) else (J_Out_endClocks_63 v1 v2 v3 σ)))
def J_Out_endClocks_4  (v1 : Int) (v2 : Int) (v3 : Int) (σ : ox_H) : Option (Int × ox_H) := ox_lp (B_Out_endClocks_4 v1) ox_fu (v2, v3, σ)
theorem L_Out_endClocks_4  (v1 : Int) (v2 : Int) (v3 : Int) (σ : ox_H) (n tl : Nat) : ox_R (fun r => some ((fun r : Int × ox_H => ((.inl (some (.inl r.1)), r.2) : ox_O)) r)) (J_Out_endClocks_4 v1 v2 v3 σ) (ox_ev m_Out_endClocks (ox_zz ox_ms (n + 2)) 4 0 tl [.inr (.inr (0, 0, 0)), .inl (v1), .inl (v2), .inl (v3), ox_d] [] σ) := by
  unfold J_Out_endClocks_4
  refine ox_R_lp (ψ := (fun (s : Int × Int × ox_H) => match s with | (v2, v3, σ) => ox_ev m_Out_endClocks (ox_zz ox_ms (n + 2)) 4 0 tl [.inr (.inr (0, 0, 0)), .inl (v1), .inl (v2), .inl (v3), ox_d] [] σ)) ?_ ox_fu (v2, v3, σ)
  intro s
  obtain ⟨v2, v3, σ⟩ := s
  unfold B_Out_endClocks_4
  refine ox_R_to 5 (Y := if (σ 1 0 4 0) ≤ v3 then ox_ev m_Out_endClocks (ox_zz ox_ms (n + 2)) 69 0 tl [ox_d, ox_d, .inl (v2), ox_d, ox_d] [] σ else ox_ev m_Out_endClocks (ox_zz ox_ms (n + 2)) 15 0 tl [.inr (.inr (0, 0, 0)), .inl (v1), .inl (v2), .inl (v3), ox_d] [] σ) rfl ?_
  refine ox_R_if (fun _ => ?_) (fun _ => ?_)
  · exact ox_R_map ((L_Out_endClocks_69 v2 σ n tl))
  · refine ox_R_to 4 (Y := ox_back m_Out_endClocks 20 3 [] ((ox_zz ox_ms (n + 2)) 172 tl [.inr (.inr (2, 0, 0)), .inl (v3)] σ) (fun pc9 x9 st9 σ9 => ox_ev m_Out_endClocks (ox_zz ox_ms (n + 2)) pc9 0 tl (ox_kl (m_Out_endClocks.2.2.1 pc9) (ox_xl x9 [.inr (.inr (0, 0, 0)), .inl (v1), .inl (v2), .inl (v3), ox_d])) st9 σ9)) rfl ?_
    refine ox_R_call (fc := (fun r : Nat => ((.inl (some (.inr (.inr (4, r, 0)))), σ) : ox_O))) (L_Otl_reading v3 σ (n + 1) tl) (fun r1 => ?_)
    refine ox_R_of (Y := ox_ev m_Out_endClocks (ox_zz ox_ms (n + 2)) 23 0 tl [.inr (.inr (0, 0, 0)), .inl (v1), .inl (v2), .inl (v3), ox_d] [.inr (.inr (4, r1, 0))] σ) rfl ?_
    refine ox_R_to 5 (Y := if (σ 4 r1 0 0) = 3 then ox_ev m_Out_endClocks (ox_zz ox_ms (n + 2)) 34 0 tl [.inr (.inr (0, 0, 0)), .inl (v1), .inl (v2), .inl (v3), .inr (.inr (4, r1, 0))] [] σ else ox_ev m_Out_endClocks (ox_zz ox_ms (n + 2)) 63 0 tl [.inr (.inr (0, 0, 0)), .inl (v1), .inl (v2), .inl (v3), ox_d] [] σ) rfl ?_
    refine ox_R_if (fun _ => ?_) (fun _ => ?_)
    · refine ox_R_to 4 (Y := if (σ 4 r1 4 0) = (-1) then ox_ev m_Out_endClocks (ox_zz ox_ms (n + 2)) 43 0 tl [.inr (.inr (0, 0, 0)), .inl (v1), .inl (v2), .inl (v3), .inr (.inr (4, r1, 0))] [] σ else ox_ev m_Out_endClocks (ox_zz ox_ms (n + 2)) 63 0 tl [.inr (.inr (0, 0, 0)), .inl (v1), .inl (v2), .inl (v3), ox_d] [] σ) rfl ?_
      refine ox_R_if (fun _ => ?_) (fun _ => ?_)
      · refine ox_R_to 8 (Y := ox_back m_Out_endClocks 57 2 [] ((ox_zz ox_ms (n + 2)) 165 tl [.inr (.inr (1, 0, 0)), .inl (v3), .inl (if (σ 4 r1 3 0) < v1 then v1 else (σ 4 r1 3 0))] σ) (fun pc9 x9 st9 σ9 => ox_ev m_Out_endClocks (ox_zz ox_ms (n + 2)) pc9 0 tl (ox_kl (m_Out_endClocks.2.2.1 pc9) (ox_xl x9 [.inr (.inr (0, 0, 0)), .inl (v1), .inl (v2), .inl (v3), .inr (.inr (4, r1, 0))])) st9 σ9)) rfl ?_
        refine ox_R_call (fc := (fun r : ox_H => ((.inl none, r) : ox_O))) (L_Lin_addNumber 0 v3 (if (σ 4 r1 3 0) < v1 then v1 else (σ 4 r1 3 0)) σ (n + 0) tl) (fun r2 => ?_)
        refine ox_R_of (Y := ox_ev m_Out_endClocks (ox_zz ox_ms (n + 2)) 60 0 tl [.inr (.inr (0, 0, 0)), .inl (v1), .inl (v2), .inl (v3), .inr (.inr (4, r1, 0))] [] r2) rfl ?_
        refine ox_R_to 1 (Y := ox_ev m_Out_endClocks (ox_zz ox_ms (n + 2)) 63 0 tl [.inr (.inr (0, 0, 0)), .inl (v1), .inl (ox_w (v2 + 1)), .inl (v3), ox_d] [] r2) rfl ?_
        exact (L_Out_endClocks_63 v1 (ox_w (v2 + 1)) v3 r2 n tl)
      · exact (L_Out_endClocks_63 v1 v2 v3 σ n tl)
    · exact (L_Out_endClocks_63 v1 v2 v3 σ n tl)
def F_Out_endClocks  (a1 : Int) (σ : ox_H) : Option (Int × ox_H) := (J_Out_endClocks_4 a1 0 0 σ)
theorem L_Out_endClocks  (a1 : Int) (σ : ox_H) (n tl : Nat) : ox_R (fun r => some ((fun r : Int × ox_H => ((.inl (some (.inl r.1)), r.2) : ox_O)) r)) (F_Out_endClocks a1 σ) (ox_zz ox_ms (n + 3) 34 tl [.inr (.inr (0, 0, 0)), .inl (a1)] σ) := by
  unfold F_Out_endClocks
  refine ox_R_of (Y := ox_ev m_Out_endClocks (ox_zz ox_ms (n + 2)) 0 0 tl [.inr (.inr (0, 0, 0)), .inl (a1), ox_d, ox_d, ox_d] [] σ) rfl ?_
  refine ox_R_to 4 (Y := ox_ev m_Out_endClocks (ox_zz ox_ms (n + 2)) 4 0 tl [.inr (.inr (0, 0, 0)), .inl (a1), .inl (0), .inl (0), ox_d] [] σ) rfl ?_
  exact (L_Out_endClocks_4 a1 0 0 σ n tl)
def F_Out_clockIn  (a1 : Int) (σ : ox_H) : Option ((Nat ⊕ Int) × ox_H) := (F_Otl_refresh σ).bind fun r1 => ((F_Out_checkEntry a1 r1).bind fun r2 => match r2 with | .inl e13 => (some (.inl e13, r1)) | .inr x3 => ((F_Out_checkRoom 1 r1).bind fun r4 => match r4 with | .inl e12 => (some (.inl e12, r1)) | .inr x5 => ((F_Otl_lineOf a1 r1).bind fun r6 => ((F_Out_endClocks (r1 0 0 8 0) r1).bind fun r7 => ((F_Lin_open 0 (ox_w (r6 + 1)) 1 r7.2).bind fun r8 => ((F_Lin_add 0 (ox_w (r6 + 1)) 37 r8).bind fun r9 => ((F_Lin_addNumber 0 (ox_w (r6 + 1)) (r9 0 0 8 0) r9).bind fun r10 => ((F_Lin_add 0 (ox_w (r6 + 1)) 45 r10).bind fun r11 => (some (.inr r7.1, r11))))))))))
theorem L_Out_clockIn  (a1 : Int) (σ : ox_H) (n tl : Nat) : ox_R (fun r => some ((fun r : (Nat ⊕ Int) × ox_H => (((Sum.elim (fun e : Nat => (.inr e : Option ox_V ⊕ Nat)) (fun v : Int => .inl (some (.inl v))) r.1), r.2) : ox_O)) r)) (F_Out_clockIn a1 σ) (ox_zz ox_ms (n + 7) 29 tl [.inr (.inr (0, 0, 0)), .inl (a1)] σ) := by
  unfold F_Out_clockIn
  refine ox_R_of (Y := ox_ev m_Out_clockIn (ox_zz ox_ms (n + 6)) 0 2 tl [.inr (.inr (0, 0, 0)), .inl (a1), ox_d, ox_d] [] σ) rfl ?_
  refine ox_R_to 3 (Y := ox_back m_Out_clockIn 4 2 [] ((ox_zz ox_ms (n + 6)) 169 tl [.inr (.inr (2, 0, 0))] σ) (fun pc9 x9 st9 σ9 => ox_ev m_Out_clockIn (ox_zz ox_ms (n + 6)) pc9 2 tl (ox_kl (m_Out_clockIn.2.2.1 pc9) (ox_xl x9 [.inr (.inr (0, 0, 0)), .inl (a1), ox_d, ox_d])) st9 σ9)) rfl ?_
  refine ox_R_call (fc := (fun r : ox_H => ((.inl none, r) : ox_O))) (L_Otl_refresh σ (n + 0) tl) (fun r1 => ?_)
  refine ox_R_of (Y := ox_ev m_Out_clockIn (ox_zz ox_ms (n + 6)) 7 2 tl [.inr (.inr (0, 0, 0)), .inl (a1), ox_d, ox_d] [] r1) rfl ?_
  refine ox_R_to 3 (Y := ox_back m_Out_clockIn 9 0 [] ((ox_zz ox_ms (n + 6)) 18 tl [.inr (.inr (0, 0, 0)), .inl (a1)] r1) (fun pc9 x9 st9 σ9 => ox_ev m_Out_clockIn (ox_zz ox_ms (n + 6)) pc9 1 tl (ox_kl (m_Out_clockIn.2.2.1 pc9) (ox_xl x9 [.inr (.inr (0, 0, 0)), .inl (a1), ox_d, ox_d])) st9 σ9)) rfl ?_
  refine ox_R_call (fc := (fun r : (Nat ⊕ Unit) => (((Sum.elim (fun e : Nat => (.inr e : Option ox_V ⊕ Nat)) (fun v : Unit => .inl none) r), r1) : ox_O))) (L_Out_checkEntry a1 r1 (n + 4) tl) (fun r2 => ?_)
  rcases r2 with e13 | x3
  · refine ox_R_of (Y := some (.inr e13, r1)) rfl ?_
    exact ox_R_ret rfl
  · refine ox_R_of (Y := ox_ev m_Out_clockIn (ox_zz ox_ms (n + 6)) 12 1 tl [.inr (.inr (0, 0, 0)), .inl (a1), ox_d, ox_d] [] r1) rfl ?_
    refine ox_R_to 3 (Y := ox_back m_Out_clockIn 14 0 [] ((ox_zz ox_ms (n + 6)) 8 tl [.inr (.inr (0, 0, 0)), .inl (1)] r1) (fun pc9 x9 st9 σ9 => ox_ev m_Out_clockIn (ox_zz ox_ms (n + 6)) pc9 0 tl (ox_kl (m_Out_clockIn.2.2.1 pc9) (ox_xl x9 [.inr (.inr (0, 0, 0)), .inl (a1), ox_d, ox_d])) st9 σ9)) rfl ?_
    refine ox_R_call (fc := (fun r : (Nat ⊕ Unit) => (((Sum.elim (fun e : Nat => (.inr e : Option ox_V ⊕ Nat)) (fun v : Unit => .inl none) r), r1) : ox_O))) (L_Out_checkRoom 1 r1 (n + 4) tl) (fun r4 => ?_)
    rcases r4 with e12 | x5
    · refine ox_R_of (Y := some (.inr e12, r1)) rfl ?_
      exact ox_R_ret rfl
    · refine ox_R_of (Y := ox_ev m_Out_clockIn (ox_zz ox_ms (n + 6)) 17 0 tl [.inr (.inr (0, 0, 0)), .inl (a1), ox_d, ox_d] [] r1) rfl ?_
      refine ox_R_to 4 (Y := ox_back m_Out_clockIn 22 3 [] ((ox_zz ox_ms (n + 6)) 174 tl [.inr (.inr (2, 0, 0)), .inl (a1)] r1) (fun pc9 x9 st9 σ9 => ox_ev m_Out_clockIn (ox_zz ox_ms (n + 6)) pc9 0 tl (ox_kl (m_Out_clockIn.2.2.1 pc9) (ox_xl x9 [.inr (.inr (0, 0, 0)), .inl (a1), ox_d, ox_d])) st9 σ9)) rfl ?_
      refine ox_R_call (fc := (fun r : Int => ((.inl (some (.inl r)), r1) : ox_O))) (L_Otl_lineOf a1 r1 (n + 5) tl) (fun r6 => ?_)
      refine ox_R_of (Y := ox_ev m_Out_clockIn (ox_zz ox_ms (n + 6)) 25 0 tl [.inr (.inr (0, 0, 0)), .inl (a1), ox_d, ox_d] [.inl (r6)] r1) rfl ?_
      refine ox_R_to 7 (Y := ox_back m_Out_clockIn 33 1 [] ((ox_zz ox_ms (n + 6)) 34 tl [.inr (.inr (0, 0, 0)), .inl (r1 0 0 8 0)] r1) (fun pc9 x9 st9 σ9 => ox_ev m_Out_clockIn (ox_zz ox_ms (n + 6)) pc9 0 tl (ox_kl (m_Out_clockIn.2.2.1 pc9) (ox_xl x9 [.inr (.inr (0, 0, 0)), .inl (a1), .inl (ox_w (r6 + 1)), ox_d])) st9 σ9)) rfl ?_
      refine ox_R_call (fc := (fun r : Int × ox_H => ((.inl (some (.inl r.1)), r.2) : ox_O))) (L_Out_endClocks (r1 0 0 8 0) r1 (n + 3) tl) (fun r7 => ?_)
      refine ox_R_of (Y := ox_ev m_Out_clockIn (ox_zz ox_ms (n + 6)) 36 0 tl [.inr (.inr (0, 0, 0)), .inl (a1), .inl (ox_w (r6 + 1)), ox_d] [.inl (r7.1)] r7.2) rfl ?_
      refine ox_R_to 6 (Y := ox_back m_Out_clockIn 43 2 [] ((ox_zz ox_ms (n + 6)) 158 tl [.inr (.inr (1, 0, 0)), .inl (ox_w (r6 + 1)), .inl (1)] r7.2) (fun pc9 x9 st9 σ9 => ox_ev m_Out_clockIn (ox_zz ox_ms (n + 6)) pc9 0 tl (ox_kl (m_Out_clockIn.2.2.1 pc9) (ox_xl x9 [.inr (.inr (0, 0, 0)), .inl (a1), .inl (ox_w (r6 + 1)), .inl (r7.1)])) st9 σ9)) rfl ?_
      refine ox_R_call (fc := (fun r : ox_H => ((.inl none, r) : ox_O))) (L_Lin_open 0 (ox_w (r6 + 1)) 1 r7.2 (n + 5) tl) (fun r8 => ?_)
      refine ox_R_of (Y := ox_ev m_Out_clockIn (ox_zz ox_ms (n + 6)) 46 0 tl [.inr (.inr (0, 0, 0)), .inl (a1), .inl (ox_w (r6 + 1)), .inl (r7.1)] [] r8) rfl ?_
      refine ox_R_to 5 (Y := ox_back m_Out_clockIn 53 2 [] ((ox_zz ox_ms (n + 6)) 163 tl [.inr (.inr (1, 0, 0)), .inl (ox_w (r6 + 1)), .inl (37)] r8) (fun pc9 x9 st9 σ9 => ox_ev m_Out_clockIn (ox_zz ox_ms (n + 6)) pc9 0 tl (ox_kl (m_Out_clockIn.2.2.1 pc9) (ox_xl x9 [.inr (.inr (0, 0, 0)), .inl (a1), .inl (ox_w (r6 + 1)), .inl (r7.1)])) st9 σ9)) rfl ?_
      refine ox_R_call (fc := (fun r : ox_H => ((.inl none, r) : ox_O))) (L_Lin_add 0 (ox_w (r6 + 1)) 37 r8 (n + 5) tl) (fun r9 => ?_)
      refine ox_R_of (Y := ox_ev m_Out_clockIn (ox_zz ox_ms (n + 6)) 56 0 tl [.inr (.inr (0, 0, 0)), .inl (a1), .inl (ox_w (r6 + 1)), .inl (r7.1)] [] r9) rfl ?_
      refine ox_R_to 6 (Y := ox_back m_Out_clockIn 65 2 [] ((ox_zz ox_ms (n + 6)) 165 tl [.inr (.inr (1, 0, 0)), .inl (ox_w (r6 + 1)), .inl (r9 0 0 8 0)] r9) (fun pc9 x9 st9 σ9 => ox_ev m_Out_clockIn (ox_zz ox_ms (n + 6)) pc9 0 tl (ox_kl (m_Out_clockIn.2.2.1 pc9) (ox_xl x9 [.inr (.inr (0, 0, 0)), .inl (a1), .inl (ox_w (r6 + 1)), .inl (r7.1)])) st9 σ9)) rfl ?_
      refine ox_R_call (fc := (fun r : ox_H => ((.inl none, r) : ox_O))) (L_Lin_addNumber 0 (ox_w (r6 + 1)) (r9 0 0 8 0) r9 (n + 4) tl) (fun r10 => ?_)
      refine ox_R_of (Y := ox_ev m_Out_clockIn (ox_zz ox_ms (n + 6)) 68 0 tl [.inr (.inr (0, 0, 0)), .inl (a1), .inl (ox_w (r6 + 1)), .inl (r7.1)] [] r10) rfl ?_
      refine ox_R_to 5 (Y := ox_back m_Out_clockIn 75 2 [] ((ox_zz ox_ms (n + 6)) 163 tl [.inr (.inr (1, 0, 0)), .inl (ox_w (r6 + 1)), .inl (45)] r10) (fun pc9 x9 st9 σ9 => ox_ev m_Out_clockIn (ox_zz ox_ms (n + 6)) pc9 0 tl (ox_kl (m_Out_clockIn.2.2.1 pc9) (ox_xl x9 [.inr (.inr (0, 0, 0)), .inl (a1), .inl (ox_w (r6 + 1)), .inl (r7.1)])) st9 σ9)) rfl ?_
      refine ox_R_call (fc := (fun r : ox_H => ((.inl none, r) : ox_O))) (L_Lin_add 0 (ox_w (r6 + 1)) 45 r10 (n + 5) tl) (fun r11 => ?_)
      refine ox_R_of (Y := ox_ev m_Out_clockIn (ox_zz ox_ms (n + 6)) 78 0 tl [.inr (.inr (0, 0, 0)), .inl (a1), .inl (ox_w (r6 + 1)), .inl (r7.1)] [] r11) rfl ?_
      refine ox_R_to 2 (Y := some (.inl (some (.inl (r7.1))), r11)) rfl ?_
      exact ox_R_ret rfl
def J_Out_clockOut_11  (σ : ox_H) : Option ((Nat ⊕ Int) × ox_H) := some (.inl 2, σ)
theorem L_Out_clockOut_11  (σ : ox_H) (n tl : Nat) : ox_R (fun r => some ((fun r : (Nat ⊕ Int) × ox_H => (((Sum.elim (fun e : Nat => (.inr e : Option ox_V ⊕ Nat)) (fun v : Int => .inl (some (.inl v))) r.1), r.2) : ox_O)) r)) (J_Out_clockOut_11 σ) (ox_ev m_Out_clockOut (ox_zz ox_ms (n + 6)) 11 1 tl [ox_d, ox_d] [] σ) := by
  unfold J_Out_clockOut_11
  refine ox_R_to 1 (Y := some (.inr 2, σ)) rfl ?_
  exact ox_R_ret rfl
def F_Out_clockOut  (a1 : Int) (σ : ox_H) : Option ((Nat ⊕ Int) × ox_H) := if a1 < 0 then (J_Out_clockOut_11 σ) else (if a1 ≤ 9999 then ((F_Otl_refresh σ).bind fun r1 => ((F_Out_endClocks (ox_w ((r1 0 0 8 0) - a1)) r1).bind fun r2 => (some (.inr r2.1, r2.2)))) else (J_Out_clockOut_11 σ))
theorem L_Out_clockOut  (a1 : Int) (σ : ox_H) (n tl : Nat) : ox_R (fun r => some ((fun r : (Nat ⊕ Int) × ox_H => (((Sum.elim (fun e : Nat => (.inr e : Option ox_V ⊕ Nat)) (fun v : Int => .inl (some (.inl v))) r.1), r.2) : ox_O)) r)) (F_Out_clockOut a1 σ) (ox_zz ox_ms (n + 7) 30 tl [.inr (.inr (0, 0, 0)), .inl (a1)] σ) := by
  unfold F_Out_clockOut
  refine ox_R_of (Y := ox_ev m_Out_clockOut (ox_zz ox_ms (n + 6)) 0 1 tl [.inr (.inr (0, 0, 0)), .inl (a1)] [] σ) rfl ?_
  refine ox_R_to 2 (Y := if a1 < 0 then ox_ev m_Out_clockOut (ox_zz ox_ms (n + 6)) 11 1 tl [ox_d, ox_d] [] σ else ox_ev m_Out_clockOut (ox_zz ox_ms (n + 6)) 4 1 tl [.inr (.inr (0, 0, 0)), .inl (a1)] [] σ) rfl ?_
  refine ox_R_if (fun _ => ?_) (fun _ => ?_)
  · exact (L_Out_clockOut_11 σ n tl)
  · refine ox_R_to 3 (Y := if a1 ≤ 9999 then ox_ev m_Out_clockOut (ox_zz ox_ms (n + 6)) 22 1 tl [.inr (.inr (0, 0, 0)), .inl (a1)] [] σ else ox_ev m_Out_clockOut (ox_zz ox_ms (n + 6)) 11 1 tl [ox_d, ox_d] [] σ) rfl ?_
    refine ox_R_if (fun _ => ?_) (fun _ => ?_)
    · refine ox_R_to 3 (Y := ox_back m_Out_clockOut 26 2 [] ((ox_zz ox_ms (n + 6)) 169 tl [.inr (.inr (2, 0, 0))] σ) (fun pc9 x9 st9 σ9 => ox_ev m_Out_clockOut (ox_zz ox_ms (n + 6)) pc9 1 tl (ox_kl (m_Out_clockOut.2.2.1 pc9) (ox_xl x9 [.inr (.inr (0, 0, 0)), .inl (a1)])) st9 σ9)) rfl ?_
      refine ox_R_call (fc := (fun r : ox_H => ((.inl none, r) : ox_O))) (L_Otl_refresh σ (n + 0) tl) (fun r1 => ?_)
      refine ox_R_of (Y := ox_ev m_Out_clockOut (ox_zz ox_ms (n + 6)) 29 1 tl [.inr (.inr (0, 0, 0)), .inl (a1)] [] r1) rfl ?_
      refine ox_R_to 6 (Y := ox_back m_Out_clockOut 36 1 [] ((ox_zz ox_ms (n + 6)) 34 tl [.inr (.inr (0, 0, 0)), .inl (ox_w ((r1 0 0 8 0) - a1))] r1) (fun pc9 x9 st9 σ9 => ox_ev m_Out_clockOut (ox_zz ox_ms (n + 6)) pc9 1 tl (ox_kl (m_Out_clockOut.2.2.1 pc9) (ox_xl x9 [.inr (.inr (0, 0, 0)), .inl (a1)])) st9 σ9)) rfl ?_
      refine ox_R_call (fc := (fun r : Int × ox_H => ((.inl (some (.inl r.1)), r.2) : ox_O))) (L_Out_endClocks (ox_w ((r1 0 0 8 0) - a1)) r1 (n + 3) tl) (fun r2 => ?_)
      refine ox_R_of (Y := ox_ev m_Out_clockOut (ox_zz ox_ms (n + 6)) 39 1 tl [.inr (.inr (0, 0, 0)), .inl (a1)] [.inl (r2.1)] r2.2) rfl ?_
      refine ox_R_to 1 (Y := some (.inl (some (.inl (r2.1))), r2.2)) rfl ?_
      exact ox_R_ret rfl
    · exact (L_Out_clockOut_11 σ n tl)
def J_Out_clocked_88  (v2 : Int) (σ : ox_H) : Option ((Nat ⊕ Int) × ox_H) := some (.inr v2, σ)
theorem L_Out_clocked_88  (v2 : Int) (σ : ox_H) (n tl : Nat) : ox_R (fun r => some ((fun r : (Nat ⊕ Int) × ox_H => (((Sum.elim (fun e : Nat => (.inr e : Option ox_V ⊕ Nat)) (fun v : Int => .inl (some (.inl v))) r.1), r.2) : ox_O)) r)) (J_Out_clocked_88 v2 σ) (ox_ev m_Out_clocked (ox_zz ox_ms (n + 6)) 88 0 tl [ox_d, ox_d, .inl (v2), ox_d, ox_d, ox_d] [] σ) := by
  unfold J_Out_clocked_88
  refine ox_R_to 2 (Y := some (.inl (some (.inl (v2))), σ)) rfl ?_
  exact ox_R_ret rfl
def J_Out_clocked_82  (v2 : Int) (v3 : Int) (v4 : Int) (σ : ox_H) : Option (((Int × Int) ⊕ (Nat ⊕ Int) × ox_H)) := some (.inl (v2, ox_w (v4 + 1)))
theorem L_Out_clocked_82  (v2 : Int) (v3 : Int) (v4 : Int) (σ : ox_H) (n tl : Nat) : ox_R (Sum.elim (fun (s : Int × Int) => match s with | (v2, v4) => ox_ev m_Out_clocked (ox_zz ox_ms (n + 6)) 33 0 tl [.inr (.inr (0, 0, 0)), ox_d, .inl (v2), .inl (v3), .inl (v4), ox_d] [] σ) (fun r => some ((fun r : (Nat ⊕ Int) × ox_H => (((Sum.elim (fun e : Nat => (.inr e : Option ox_V ⊕ Nat)) (fun v : Int => .inl (some (.inl v))) r.1), r.2) : ox_O)) r))) (J_Out_clocked_82 v2 v3 v4 σ) (ox_ev m_Out_clocked (ox_zz ox_ms (n + 6)) 82 0 tl [.inr (.inr (0, 0, 0)), ox_d, .inl (v2), .inl (v3), .inl (v4), ox_d] [] σ) := by
  unfold J_Out_clocked_82
  refine ox_R_to 2 (Y := ox_ev m_Out_clocked (ox_zz ox_ms (n + 6)) 33 0 tl [.inr (.inr (0, 0, 0)), ox_d, .inl (v2), .inl (v3), .inl (ox_w (v4 + 1)), ox_d] [] σ) rfl ?_
  exact ox_R_ret rfl
def B_Out_clocked_33  (v3 : Int) (σ : ox_H) : (Int × Int) → Option (((Int × Int) ⊕ (Nat ⊕ Int) × ox_H)) := fun (v2, v4) => if v3 ≤ v4 then ((J_Out_clocked_88 v2 σ).map .inr) else ((F_Otl_reading v4 σ).bind fun r1 => (if (σ 4 r1 0 0) = 3 then (if (σ 4 r1 4 0) = (-1) then (J_Out_clocked_82 v2 v3 v4 σ) else (J_Out_clocked_82 (ox_w (v2 + (ox_w ((σ 4 r1 4 0) - (σ 4 r1 3 0))))) v3 v4 σ)) else (J_Out_clocked_82 v2 v3 v4 σ)))
def J_Out_clocked_33  (v2 : Int) (v3 : Int) (v4 : Int) (σ : ox_H) : Option ((Nat ⊕ Int) × ox_H) := ox_lp (B_Out_clocked_33 v3 σ) ox_fu (v2, v4)
theorem L_Out_clocked_33  (v2 : Int) (v3 : Int) (v4 : Int) (σ : ox_H) (n tl : Nat) : ox_R (fun r => some ((fun r : (Nat ⊕ Int) × ox_H => (((Sum.elim (fun e : Nat => (.inr e : Option ox_V ⊕ Nat)) (fun v : Int => .inl (some (.inl v))) r.1), r.2) : ox_O)) r)) (J_Out_clocked_33 v2 v3 v4 σ) (ox_ev m_Out_clocked (ox_zz ox_ms (n + 6)) 33 0 tl [.inr (.inr (0, 0, 0)), ox_d, .inl (v2), .inl (v3), .inl (v4), ox_d] [] σ) := by
  unfold J_Out_clocked_33
  refine ox_R_lp (ψ := (fun (s : Int × Int) => match s with | (v2, v4) => ox_ev m_Out_clocked (ox_zz ox_ms (n + 6)) 33 0 tl [.inr (.inr (0, 0, 0)), ox_d, .inl (v2), .inl (v3), .inl (v4), ox_d] [] σ)) ?_ ox_fu (v2, v4)
  intro s
  obtain ⟨v2, v4⟩ := s
  unfold B_Out_clocked_33
  refine ox_R_to 3 (Y := if v3 ≤ v4 then ox_ev m_Out_clocked (ox_zz ox_ms (n + 6)) 88 0 tl [ox_d, ox_d, .inl (v2), ox_d, ox_d, ox_d] [] σ else ox_ev m_Out_clocked (ox_zz ox_ms (n + 6)) 39 0 tl [.inr (.inr (0, 0, 0)), ox_d, .inl (v2), .inl (v3), .inl (v4), ox_d] [] σ) rfl ?_
  refine ox_R_if (fun _ => ?_) (fun _ => ?_)
  · exact ox_R_map ((L_Out_clocked_88 v2 σ n tl))
  · refine ox_R_to 4 (Y := ox_back m_Out_clocked 45 3 [] ((ox_zz ox_ms (n + 6)) 172 tl [.inr (.inr (2, 0, 0)), .inl (v4)] σ) (fun pc9 x9 st9 σ9 => ox_ev m_Out_clocked (ox_zz ox_ms (n + 6)) pc9 0 tl (ox_kl (m_Out_clocked.2.2.1 pc9) (ox_xl x9 [.inr (.inr (0, 0, 0)), ox_d, .inl (v2), .inl (v3), .inl (v4), ox_d])) st9 σ9)) rfl ?_
    refine ox_R_call (fc := (fun r : Nat => ((.inl (some (.inr (.inr (4, r, 0)))), σ) : ox_O))) (L_Otl_reading v4 σ (n + 5) tl) (fun r1 => ?_)
    refine ox_R_of (Y := ox_ev m_Out_clocked (ox_zz ox_ms (n + 6)) 48 0 tl [.inr (.inr (0, 0, 0)), ox_d, .inl (v2), .inl (v3), .inl (v4), ox_d] [.inr (.inr (4, r1, 0))] σ) rfl ?_
    refine ox_R_to 5 (Y := if (σ 4 r1 0 0) = 3 then ox_ev m_Out_clocked (ox_zz ox_ms (n + 6)) 59 0 tl [.inr (.inr (0, 0, 0)), ox_d, .inl (v2), .inl (v3), .inl (v4), .inr (.inr (4, r1, 0))] [] σ else ox_ev m_Out_clocked (ox_zz ox_ms (n + 6)) 82 0 tl [.inr (.inr (0, 0, 0)), ox_d, .inl (v2), .inl (v3), .inl (v4), ox_d] [] σ) rfl ?_
    refine ox_R_if (fun _ => ?_) (fun _ => ?_)
    · refine ox_R_to 4 (Y := if (σ 4 r1 4 0) = (-1) then ox_ev m_Out_clocked (ox_zz ox_ms (n + 6)) 82 0 tl [.inr (.inr (0, 0, 0)), ox_d, .inl (v2), .inl (v3), .inl (v4), ox_d] [] σ else ox_ev m_Out_clocked (ox_zz ox_ms (n + 6)) 68 0 tl [.inr (.inr (0, 0, 0)), ox_d, .inl (v2), .inl (v3), .inl (v4), .inr (.inr (4, r1, 0))] [] σ) rfl ?_
      refine ox_R_if (fun _ => ?_) (fun _ => ?_)
      · exact (L_Out_clocked_82 v2 v3 v4 σ n tl)
      · refine ox_R_to 8 (Y := ox_ev m_Out_clocked (ox_zz ox_ms (n + 6)) 82 0 tl [.inr (.inr (0, 0, 0)), ox_d, .inl (ox_w (v2 + (ox_w ((σ 4 r1 4 0) - (σ 4 r1 3 0))))), .inl (v3), .inl (v4), ox_d] [] σ) rfl ?_
        exact (L_Out_clocked_82 (ox_w (v2 + (ox_w ((σ 4 r1 4 0) - (σ 4 r1 3 0))))) v3 v4 σ n tl)
    · exact (L_Out_clocked_82 v2 v3 v4 σ n tl)
def F_Out_clocked  (a1 : Int) (σ : ox_H) : Option ((Nat ⊕ Int) × ox_H) := (F_Otl_refresh σ).bind fun r2 => ((F_Out_checkEntry a1 r2).bind fun r3 => match r3 with | .inl e7 => (some (.inl e7, r2)) | .inr x4 => ((F_Otl_partEnd a1 r2).bind fun r5 => ((F_Otl_lineOf a1 r2).bind fun r6 => (J_Out_clocked_33 0 r5 r6 r2))))
theorem L_Out_clocked  (a1 : Int) (σ : ox_H) (n tl : Nat) : ox_R (fun r => some ((fun r : (Nat ⊕ Int) × ox_H => (((Sum.elim (fun e : Nat => (.inr e : Option ox_V ⊕ Nat)) (fun v : Int => .inl (some (.inl v))) r.1), r.2) : ox_O)) r)) (F_Out_clocked a1 σ) (ox_zz ox_ms (n + 7) 31 tl [.inr (.inr (0, 0, 0)), .inl (a1)] σ) := by
  unfold F_Out_clocked
  refine ox_R_of (Y := ox_ev m_Out_clocked (ox_zz ox_ms (n + 6)) 0 1 tl [.inr (.inr (0, 0, 0)), .inl (a1), ox_d, ox_d, ox_d, ox_d] [] σ) rfl ?_
  refine ox_R_to 3 (Y := ox_back m_Out_clocked 4 2 [] ((ox_zz ox_ms (n + 6)) 169 tl [.inr (.inr (2, 0, 0))] σ) (fun pc9 x9 st9 σ9 => ox_ev m_Out_clocked (ox_zz ox_ms (n + 6)) pc9 1 tl (ox_kl (m_Out_clocked.2.2.1 pc9) (ox_xl x9 [.inr (.inr (0, 0, 0)), .inl (a1), ox_d, ox_d, ox_d, ox_d])) st9 σ9)) rfl ?_
  refine ox_R_call (fc := (fun r : ox_H => ((.inl none, r) : ox_O))) (L_Otl_refresh σ (n + 0) tl) (fun r2 => ?_)
  refine ox_R_of (Y := ox_ev m_Out_clocked (ox_zz ox_ms (n + 6)) 7 1 tl [.inr (.inr (0, 0, 0)), .inl (a1), ox_d, ox_d, ox_d, ox_d] [] r2) rfl ?_
  refine ox_R_to 3 (Y := ox_back m_Out_clocked 9 0 [] ((ox_zz ox_ms (n + 6)) 18 tl [.inr (.inr (0, 0, 0)), .inl (a1)] r2) (fun pc9 x9 st9 σ9 => ox_ev m_Out_clocked (ox_zz ox_ms (n + 6)) pc9 0 tl (ox_kl (m_Out_clocked.2.2.1 pc9) (ox_xl x9 [.inr (.inr (0, 0, 0)), .inl (a1), ox_d, ox_d, ox_d, ox_d])) st9 σ9)) rfl ?_
  refine ox_R_call (fc := (fun r : (Nat ⊕ Unit) => (((Sum.elim (fun e : Nat => (.inr e : Option ox_V ⊕ Nat)) (fun v : Unit => .inl none) r), r2) : ox_O))) (L_Out_checkEntry a1 r2 (n + 4) tl) (fun r3 => ?_)
  rcases r3 with e7 | x4
  · refine ox_R_of (Y := some (.inr e7, r2)) rfl ?_
    exact ox_R_ret rfl
  · refine ox_R_of (Y := ox_ev m_Out_clocked (ox_zz ox_ms (n + 6)) 12 0 tl [.inr (.inr (0, 0, 0)), .inl (a1), ox_d, ox_d, ox_d, ox_d] [] r2) rfl ?_
    refine ox_R_to 6 (Y := ox_back m_Out_clocked 19 3 [] ((ox_zz ox_ms (n + 6)) 185 tl [.inr (.inr (2, 0, 0)), .inl (a1)] r2) (fun pc9 x9 st9 σ9 => ox_ev m_Out_clocked (ox_zz ox_ms (n + 6)) pc9 0 tl (ox_kl (m_Out_clocked.2.2.1 pc9) (ox_xl x9 [.inr (.inr (0, 0, 0)), .inl (a1), .inl (0), ox_d, ox_d, ox_d])) st9 σ9)) rfl ?_
    refine ox_R_call (fc := (fun r : Int => ((.inl (some (.inl r)), r2) : ox_O))) (L_Otl_partEnd a1 r2 (n + 3) tl) (fun r5 => ?_)
    refine ox_R_of (Y := ox_ev m_Out_clocked (ox_zz ox_ms (n + 6)) 22 0 tl [.inr (.inr (0, 0, 0)), .inl (a1), .inl (0), ox_d, ox_d, ox_d] [.inl (r5)] r2) rfl ?_
    refine ox_R_to 5 (Y := ox_back m_Out_clocked 28 3 [] ((ox_zz ox_ms (n + 6)) 174 tl [.inr (.inr (2, 0, 0)), .inl (a1)] r2) (fun pc9 x9 st9 σ9 => ox_ev m_Out_clocked (ox_zz ox_ms (n + 6)) pc9 0 tl (ox_kl (m_Out_clocked.2.2.1 pc9) (ox_xl x9 [.inr (.inr (0, 0, 0)), .inl (a1), .inl (0), .inl (r5), ox_d, ox_d])) st9 σ9)) rfl ?_
    refine ox_R_call (fc := (fun r : Int => ((.inl (some (.inl r)), r2) : ox_O))) (L_Otl_lineOf a1 r2 (n + 5) tl) (fun r6 => ?_)
    refine ox_R_of (Y := ox_ev m_Out_clocked (ox_zz ox_ms (n + 6)) 31 0 tl [.inr (.inr (0, 0, 0)), .inl (a1), .inl (0), .inl (r5), ox_d, ox_d] [.inl (r6)] r2) rfl ?_
    refine ox_R_to 1 (Y := ox_ev m_Out_clocked (ox_zz ox_ms (n + 6)) 33 0 tl [.inr (.inr (0, 0, 0)), ox_d, .inl (0), .inl (r5), .inl (r6), ox_d] [] r2) rfl ?_
    exact (L_Out_clocked_33 0 r5 r6 r2 n tl)
def J_She_findBlocks_87  (σ : ox_H) : Option ox_H := some σ
theorem L_She_findBlocks_87  (σ : ox_H) (n tl : Nat) : ox_R (fun r => some ((fun r : ox_H => ((.inl none, r) : ox_O)) r)) (J_She_findBlocks_87 σ) (ox_ev m_She_findBlocks (ox_zz ox_ms (n + 1)) 87 0 tl [ox_d, ox_d, ox_d] [] σ) := by
  unfold J_She_findBlocks_87
  refine ox_R_to 1 (Y := some (.inl none, σ)) rfl ?_
  exact ox_R_ret rfl
def J_She_findBlocks_81  (v1 : Int) (σ : ox_H) : Option (((Int × ox_H) ⊕ ox_H)) := some (.inl (ox_w (v1 + (-1)), σ))
theorem L_She_findBlocks_81  (v1 : Int) (σ : ox_H) (n tl : Nat) : ox_R (Sum.elim (fun (s : Int × ox_H) => match s with | (v1, σ) => ox_ev m_She_findBlocks (ox_zz ox_ms (n + 1)) 34 0 tl [.inr (.inr (5, 0, 0)), .inl (v1), ox_d] [] σ) (fun r => some ((fun r : ox_H => ((.inl none, r) : ox_O)) r))) (J_She_findBlocks_81 v1 σ) (ox_ev m_She_findBlocks (ox_zz ox_ms (n + 1)) 81 0 tl [.inr (.inr (5, 0, 0)), .inl (v1), ox_d] [] σ) := by
  unfold J_She_findBlocks_81
  refine ox_R_to 2 (Y := ox_ev m_She_findBlocks (ox_zz ox_ms (n + 1)) 34 0 tl [.inr (.inr (5, 0, 0)), .inl (ox_w (v1 + (-1))), ox_d] [] σ) rfl ?_
  exact ox_R_ret rfl
def B_She_findBlocks_34  : (Int × ox_H) → Option (((Int × ox_H) ⊕ ox_H)) := fun (v1, σ) => if v1 < 0 then ((J_She_findBlocks_87 σ).map .inr) else ((F_Otl_reading v1 σ).bind fun r1 => (if (σ 4 r1 0 0) = 5 then (if (σ 4 r1 1 0) < 0 then (J_She_findBlocks_81 v1 σ) else (if 26 ≤ (σ 4 r1 1 0) then (J_She_findBlocks_81 v1 σ) else (if 0 ≤ (σ 4 r1 1 0) ∧ (σ 4 r1 1 0).toNat < 26 then (J_She_findBlocks_81 v1 (ox_up σ 5 0 4 ((σ 4 r1 1 0).toNat) v1)) else none))) else (J_She_findBlocks_81 v1 σ)))
def J_She_findBlocks_34  (v1 : Int) (σ : ox_H) : Option (ox_H) := ox_lp (B_She_findBlocks_34) ox_fu (v1, σ)
theorem L_She_findBlocks_34  (v1 : Int) (σ : ox_H) (n tl : Nat) : ox_R (fun r => some ((fun r : ox_H => ((.inl none, r) : ox_O)) r)) (J_She_findBlocks_34 v1 σ) (ox_ev m_She_findBlocks (ox_zz ox_ms (n + 1)) 34 0 tl [.inr (.inr (5, 0, 0)), .inl (v1), ox_d] [] σ) := by
  unfold J_She_findBlocks_34
  refine ox_R_lp (ψ := (fun (s : Int × ox_H) => match s with | (v1, σ) => ox_ev m_She_findBlocks (ox_zz ox_ms (n + 1)) 34 0 tl [.inr (.inr (5, 0, 0)), .inl (v1), ox_d] [] σ)) ?_ ox_fu (v1, σ)
  intro s
  obtain ⟨v1, σ⟩ := s
  unfold B_She_findBlocks_34
  refine ox_R_to 2 (Y := if v1 < 0 then ox_ev m_She_findBlocks (ox_zz ox_ms (n + 1)) 87 0 tl [ox_d, ox_d, ox_d] [] σ else ox_ev m_She_findBlocks (ox_zz ox_ms (n + 1)) 38 0 tl [.inr (.inr (5, 0, 0)), .inl (v1), ox_d] [] σ) rfl ?_
  refine ox_R_if (fun _ => ?_) (fun _ => ?_)
  · exact ox_R_map ((L_She_findBlocks_87 σ n tl))
  · refine ox_R_to 4 (Y := ox_back m_She_findBlocks 43 3 [] ((ox_zz ox_ms (n + 1)) 172 tl [.inr (.inr (2, 0, 0)), .inl (v1)] σ) (fun pc9 x9 st9 σ9 => ox_ev m_She_findBlocks (ox_zz ox_ms (n + 1)) pc9 0 tl (ox_kl (m_She_findBlocks.2.2.1 pc9) (ox_xl x9 [.inr (.inr (5, 0, 0)), .inl (v1), ox_d])) st9 σ9)) rfl ?_
    refine ox_R_call (fc := (fun r : Nat => ((.inl (some (.inr (.inr (4, r, 0)))), σ) : ox_O))) (L_Otl_reading v1 σ (n + 0) tl) (fun r1 => ?_)
    refine ox_R_of (Y := ox_ev m_She_findBlocks (ox_zz ox_ms (n + 1)) 46 0 tl [.inr (.inr (5, 0, 0)), .inl (v1), ox_d] [.inr (.inr (4, r1, 0))] σ) rfl ?_
    refine ox_R_to 5 (Y := if (σ 4 r1 0 0) = 5 then ox_ev m_She_findBlocks (ox_zz ox_ms (n + 1)) 55 0 tl [.inr (.inr (5, 0, 0)), .inl (v1), .inr (.inr (4, r1, 0))] [] σ else ox_ev m_She_findBlocks (ox_zz ox_ms (n + 1)) 81 0 tl [.inr (.inr (5, 0, 0)), .inl (v1), ox_d] [] σ) rfl ?_
    refine ox_R_if (fun _ => ?_) (fun _ => ?_)
    · refine ox_R_to 3 (Y := if (σ 4 r1 1 0) < 0 then ox_ev m_She_findBlocks (ox_zz ox_ms (n + 1)) 81 0 tl [.inr (.inr (5, 0, 0)), .inl (v1), ox_d] [] σ else ox_ev m_She_findBlocks (ox_zz ox_ms (n + 1)) 62 0 tl [.inr (.inr (5, 0, 0)), .inl (v1), .inr (.inr (4, r1, 0))] [] σ) rfl ?_
      refine ox_R_if (fun _ => ?_) (fun _ => ?_)
      · exact (L_She_findBlocks_81 v1 σ n tl)
      · refine ox_R_to 4 (Y := if 26 ≤ (σ 4 r1 1 0) then ox_ev m_She_findBlocks (ox_zz ox_ms (n + 1)) 81 0 tl [.inr (.inr (5, 0, 0)), .inl (v1), ox_d] [] σ else ox_ev m_She_findBlocks (ox_zz ox_ms (n + 1)) 71 0 tl [.inr (.inr (5, 0, 0)), .inl (v1), .inr (.inr (4, r1, 0))] [] σ) rfl ?_
        refine ox_R_if (fun _ => ?_) (fun _ => ?_)
        · exact (L_She_findBlocks_81 v1 σ n tl)
        · refine ox_R_to 6 (Y := if 0 ≤ (σ 4 r1 1 0) ∧ (σ 4 r1 1 0).toNat < 26 then ox_ev m_She_findBlocks (ox_zz ox_ms (n + 1)) 81 0 tl [.inr (.inr (5, 0, 0)), .inl (v1), ox_d] [] (ox_up σ 5 0 4 ((σ 4 r1 1 0).toNat) v1) else none) rfl ?_
          refine ox_R_if (fun _ => ?_) (fun _ => ox_R_none)
          exact (L_She_findBlocks_81 v1 (ox_up σ 5 0 4 ((σ 4 r1 1 0).toNat) v1) n tl)
    · exact (L_She_findBlocks_81 v1 σ n tl)
def J_She_findBlocks_21  (σ : ox_H) : Option ox_H := (J_She_findBlocks_34 (ox_w ((σ 1 0 4 0) - 1)) σ)
theorem L_She_findBlocks_21  (σ : ox_H) (n tl : Nat) : ox_R (fun r => some ((fun r : ox_H => ((.inl none, r) : ox_O)) r)) (J_She_findBlocks_21 σ) (ox_ev m_She_findBlocks (ox_zz ox_ms (n + 1)) 21 0 tl [.inr (.inr (5, 0, 0)), ox_d, ox_d] [] σ) := by
  unfold J_She_findBlocks_21
  refine ox_R_to 7 (Y := ox_ev m_She_findBlocks (ox_zz ox_ms (n + 1)) 34 0 tl [.inr (.inr (5, 0, 0)), .inl (ox_w ((σ 1 0 4 0) - 1)), ox_d] [] σ) rfl ?_
  exact (L_She_findBlocks_34 (ox_w ((σ 1 0 4 0) - 1)) σ n tl)
def B_She_findBlocks_2  : (Int × ox_H) → Option (((Int × ox_H) ⊕ ox_H)) := fun (v1, σ) => if 26 ≤ v1 then ((J_She_findBlocks_21 σ).map .inr) else (if 0 ≤ v1 ∧ v1.toNat < 26 then (some (.inl (ox_w (v1 + 1), (ox_up σ 5 0 4 v1.toNat (-1))))) else none)
def J_She_findBlocks_2  (v1 : Int) (σ : ox_H) : Option (ox_H) := ox_lp (B_She_findBlocks_2) ox_fu (v1, σ)
theorem L_She_findBlocks_2  (v1 : Int) (σ : ox_H) (n tl : Nat) : ox_R (fun r => some ((fun r : ox_H => ((.inl none, r) : ox_O)) r)) (J_She_findBlocks_2 v1 σ) (ox_ev m_She_findBlocks (ox_zz ox_ms (n + 1)) 2 0 tl [.inr (.inr (5, 0, 0)), .inl (v1), ox_d] [] σ) := by
  unfold J_She_findBlocks_2
  refine ox_R_lp (ψ := (fun (s : Int × ox_H) => match s with | (v1, σ) => ox_ev m_She_findBlocks (ox_zz ox_ms (n + 1)) 2 0 tl [.inr (.inr (5, 0, 0)), .inl (v1), ox_d] [] σ)) ?_ ox_fu (v1, σ)
  intro s
  obtain ⟨v1, σ⟩ := s
  unfold B_She_findBlocks_2
  refine ox_R_to 3 (Y := if 26 ≤ v1 then ox_ev m_She_findBlocks (ox_zz ox_ms (n + 1)) 21 0 tl [.inr (.inr (5, 0, 0)), ox_d, ox_d] [] σ else ox_ev m_She_findBlocks (ox_zz ox_ms (n + 1)) 8 0 tl [.inr (.inr (5, 0, 0)), .inl (v1), ox_d] [] σ) rfl ?_
  refine ox_R_if (fun _ => ?_) (fun _ => ?_)
  · exact ox_R_map ((L_She_findBlocks_21 σ n tl))
  · refine ox_R_to 5 (Y := if 0 ≤ v1 ∧ v1.toNat < 26 then ox_ev m_She_findBlocks (ox_zz ox_ms (n + 1)) 15 0 tl [.inr (.inr (5, 0, 0)), .inl (v1), ox_d] [] (ox_up σ 5 0 4 v1.toNat (-1)) else none) rfl ?_
    refine ox_R_if (fun _ => ?_) (fun _ => ox_R_none)
    refine ox_R_to 2 (Y := ox_ev m_She_findBlocks (ox_zz ox_ms (n + 1)) 2 0 tl [.inr (.inr (5, 0, 0)), .inl (ox_w (v1 + 1)), ox_d] [] (ox_up σ 5 0 4 v1.toNat (-1))) rfl ?_
    exact ox_R_ret rfl
def F_She_findBlocks  (σ : ox_H) : Option (ox_H) := (J_She_findBlocks_2 0 σ)
theorem L_She_findBlocks  (σ : ox_H) (n tl : Nat) : ox_R (fun r => some ((fun r : ox_H => ((.inl none, r) : ox_O)) r)) (F_She_findBlocks σ) (ox_zz ox_ms (n + 2) 219 tl [.inr (.inr (5, 0, 0))] σ) := by
  unfold F_She_findBlocks
  refine ox_R_of (Y := ox_ev m_She_findBlocks (ox_zz ox_ms (n + 1)) 0 0 tl [.inr (.inr (5, 0, 0)), ox_d, ox_d] [] σ) rfl ?_
  refine ox_R_to 2 (Y := ox_ev m_She_findBlocks (ox_zz ox_ms (n + 1)) 2 0 tl [.inr (.inr (5, 0, 0)), .inl (0), ox_d] [] σ) rfl ?_
  exact (L_She_findBlocks_2 0 σ n tl)
def J_She_findTops_50  (σ : ox_H) : Option ox_H := some σ
theorem L_She_findTops_50  (σ : ox_H) (n tl : Nat) : ox_R (fun r => some ((fun r : ox_H => ((.inl none, r) : ox_O)) r)) (J_She_findTops_50 σ) (ox_ev m_She_findTops (ox_zz ox_ms (n + 1)) 50 0 tl [ox_d, ox_d, ox_d] [] σ) := by
  unfold J_She_findTops_50
  refine ox_R_to 1 (Y := some (.inl none, σ)) rfl ?_
  exact ox_R_ret rfl
def J_She_findTops_37  (v1 : Int) (v2 : Int) (σ : ox_H) : Option (((Int × Int × ox_H) ⊕ ox_H)) := if 0 ≤ v2 ∧ v2.toNat < 60 then (some (.inl (v1, ox_w (v2 + 1), (ox_up σ 5 0 3 v2.toNat v1)))) else none
theorem L_She_findTops_37  (v1 : Int) (v2 : Int) (σ : ox_H) (n tl : Nat) : ox_R (Sum.elim (fun (s : Int × Int × ox_H) => match s with | (v1, v2, σ) => ox_ev m_She_findTops (ox_zz ox_ms (n + 1)) 4 0 tl [.inr (.inr (5, 0, 0)), .inl (v1), .inl (v2)] [] σ) (fun r => some ((fun r : ox_H => ((.inl none, r) : ox_O)) r))) (J_She_findTops_37 v1 v2 σ) (ox_ev m_She_findTops (ox_zz ox_ms (n + 1)) 37 0 tl [.inr (.inr (5, 0, 0)), .inl (v1), .inl (v2)] [] σ) := by
  unfold J_She_findTops_37
  refine ox_R_to 5 (Y := if 0 ≤ v2 ∧ v2.toNat < 60 then ox_ev m_She_findTops (ox_zz ox_ms (n + 1)) 44 0 tl [.inr (.inr (5, 0, 0)), .inl (v1), .inl (v2)] [] (ox_up σ 5 0 3 v2.toNat v1) else none) rfl ?_
  refine ox_R_if (fun _ => ?_) (fun _ => ox_R_none)
  refine ox_R_to 2 (Y := ox_ev m_She_findTops (ox_zz ox_ms (n + 1)) 4 0 tl [.inr (.inr (5, 0, 0)), .inl (v1), .inl (ox_w (v2 + 1))] [] (ox_up σ 5 0 3 v2.toNat v1)) rfl ?_
  exact ox_R_ret rfl
def B_She_findTops_4  : (Int × Int × ox_H) → Option (((Int × Int × ox_H) ⊕ ox_H)) := fun (v1, v2, σ) => if 60 ≤ v2 then ((J_She_findTops_50 σ).map .inr) else ((F_Otl_reading v2 σ).bind fun r1 => (if (σ 4 r1 0 0) = 4 then (if v1 = (-1) then (J_She_findTops_37 v2 v2 σ) else (J_She_findTops_37 v1 v2 σ)) else (J_She_findTops_37 (-1) v2 σ)))
def J_She_findTops_4  (v1 : Int) (v2 : Int) (σ : ox_H) : Option (ox_H) := ox_lp (B_She_findTops_4) ox_fu (v1, v2, σ)
theorem L_She_findTops_4  (v1 : Int) (v2 : Int) (σ : ox_H) (n tl : Nat) : ox_R (fun r => some ((fun r : ox_H => ((.inl none, r) : ox_O)) r)) (J_She_findTops_4 v1 v2 σ) (ox_ev m_She_findTops (ox_zz ox_ms (n + 1)) 4 0 tl [.inr (.inr (5, 0, 0)), .inl (v1), .inl (v2)] [] σ) := by
  unfold J_She_findTops_4
  refine ox_R_lp (ψ := (fun (s : Int × Int × ox_H) => match s with | (v1, v2, σ) => ox_ev m_She_findTops (ox_zz ox_ms (n + 1)) 4 0 tl [.inr (.inr (5, 0, 0)), .inl (v1), .inl (v2)] [] σ)) ?_ ox_fu (v1, v2, σ)
  intro s
  obtain ⟨v1, v2, σ⟩ := s
  unfold B_She_findTops_4
  refine ox_R_to 3 (Y := if 60 ≤ v2 then ox_ev m_She_findTops (ox_zz ox_ms (n + 1)) 50 0 tl [ox_d, ox_d, ox_d] [] σ else ox_ev m_She_findTops (ox_zz ox_ms (n + 1)) 10 0 tl [.inr (.inr (5, 0, 0)), .inl (v1), .inl (v2)] [] σ) rfl ?_
  refine ox_R_if (fun _ => ?_) (fun _ => ?_)
  · exact ox_R_map ((L_She_findTops_50 σ n tl))
  · refine ox_R_to 4 (Y := ox_back m_She_findTops 15 3 [] ((ox_zz ox_ms (n + 1)) 172 tl [.inr (.inr (2, 0, 0)), .inl (v2)] σ) (fun pc9 x9 st9 σ9 => ox_ev m_She_findTops (ox_zz ox_ms (n + 1)) pc9 0 tl (ox_kl (m_She_findTops.2.2.1 pc9) (ox_xl x9 [.inr (.inr (5, 0, 0)), .inl (v1), .inl (v2)])) st9 σ9)) rfl ?_
    refine ox_R_call (fc := (fun r : Nat => ((.inl (some (.inr (.inr (4, r, 0)))), σ) : ox_O))) (L_Otl_reading v2 σ (n + 0) tl) (fun r1 => ?_)
    refine ox_R_of (Y := ox_ev m_She_findTops (ox_zz ox_ms (n + 1)) 18 0 tl [.inr (.inr (5, 0, 0)), .inl (v1), .inl (v2)] [.inr (.inr (4, r1, 0))] σ) rfl ?_
    refine ox_R_to 3 (Y := if (σ 4 r1 0 0) = 4 then ox_ev m_She_findTops (ox_zz ox_ms (n + 1)) 30 0 tl [.inr (.inr (5, 0, 0)), .inl (v1), .inl (v2)] [] σ else ox_ev m_She_findTops (ox_zz ox_ms (n + 1)) 25 0 tl [.inr (.inr (5, 0, 0)), .inl (v1), .inl (v2)] [] σ) rfl ?_
    refine ox_R_if (fun _ => ?_) (fun _ => ?_)
    · refine ox_R_to 3 (Y := if v1 = (-1) then ox_ev m_She_findTops (ox_zz ox_ms (n + 1)) 35 0 tl [.inr (.inr (5, 0, 0)), .inl (v1), .inl (v2)] [] σ else ox_ev m_She_findTops (ox_zz ox_ms (n + 1)) 37 0 tl [.inr (.inr (5, 0, 0)), .inl (v1), .inl (v2)] [] σ) rfl ?_
      refine ox_R_if (fun _ => ?_) (fun _ => ?_)
      · refine ox_R_to 2 (Y := ox_ev m_She_findTops (ox_zz ox_ms (n + 1)) 37 0 tl [.inr (.inr (5, 0, 0)), .inl (v2), .inl (v2)] [] σ) rfl ?_
        exact (L_She_findTops_37 v2 v2 σ n tl)
      · exact (L_She_findTops_37 v1 v2 σ n tl)
    · refine ox_R_to 3 (Y := ox_ev m_She_findTops (ox_zz ox_ms (n + 1)) 37 0 tl [.inr (.inr (5, 0, 0)), .inl ((-1)), .inl (v2)] [] σ) rfl ?_
      exact (L_She_findTops_37 (-1) v2 σ n tl)
def F_She_findTops  (σ : ox_H) : Option (ox_H) := (J_She_findTops_4 (-1) 0 σ)
theorem L_She_findTops  (σ : ox_H) (n tl : Nat) : ox_R (fun r => some ((fun r : ox_H => ((.inl none, r) : ox_O)) r)) (F_She_findTops σ) (ox_zz ox_ms (n + 2) 220 tl [.inr (.inr (5, 0, 0))] σ) := by
  unfold F_She_findTops
  refine ox_R_of (Y := ox_ev m_She_findTops (ox_zz ox_ms (n + 1)) 0 0 tl [.inr (.inr (5, 0, 0)), ox_d, ox_d] [] σ) rfl ?_
  refine ox_R_to 4 (Y := ox_ev m_She_findTops (ox_zz ox_ms (n + 1)) 4 0 tl [.inr (.inr (5, 0, 0)), .inl ((-1)), .inl (0)] [] σ) rfl ?_
  exact (L_She_findTops_4 (-1) 0 σ n tl)
def J_Sum_cellsOf_20  (s0 : Int) (σ : ox_H) : Option Int := some s0
theorem L_Sum_cellsOf_20  (s0 : Int) (σ : ox_H) (n tl : Nat) : ox_R (fun r => some ((fun r : Int => ((.inl (some (.inl r)), σ) : ox_O)) r)) (J_Sum_cellsOf_20 s0 σ) (ox_ev m_Sum_cellsOf (ox_zz ox_ms (n + 0)) 20 0 tl [ox_d, ox_d] [.inl (s0)] σ) := by
  unfold J_Sum_cellsOf_20
  refine ox_R_to 1 (Y := some (.inl (some (.inl (s0))), σ)) rfl ?_
  exact ox_R_ret rfl
def J_Sum_cellsOf_19  (σ : ox_H) : Option Int := (J_Sum_cellsOf_20 0 σ)
theorem L_Sum_cellsOf_19  (σ : ox_H) (n tl : Nat) : ox_R (fun r => some ((fun r : Int => ((.inl (some (.inl r)), σ) : ox_O)) r)) (J_Sum_cellsOf_19 σ) (ox_ev m_Sum_cellsOf (ox_zz ox_ms (n + 0)) 19 0 tl [ox_d, ox_d] [] σ) := by
  unfold J_Sum_cellsOf_19
  refine ox_R_to 1 (Y := ox_ev m_Sum_cellsOf (ox_zz ox_ms (n + 0)) 20 0 tl [ox_d, ox_d] [.inl (0)] σ) rfl ?_
  exact (L_Sum_cellsOf_20 0 σ n tl)
def F_Sum_cellsOf  (a1 : Int) (σ : ox_H) : Option (Int) := if a1 < 0 then (J_Sum_cellsOf_19 σ) else (if 60 ≤ a1 then (J_Sum_cellsOf_19 σ) else (if 0 ≤ a1 ∧ a1.toNat < 60 then (J_Sum_cellsOf_20 (σ 6 0 0 a1.toNat) σ) else none))
theorem L_Sum_cellsOf  (a1 : Int) (σ : ox_H) (n tl : Nat) : ox_R (fun r => some ((fun r : Int => ((.inl (some (.inl r)), σ) : ox_O)) r)) (F_Sum_cellsOf a1 σ) (ox_zz ox_ms (n + 1) 232 tl [.inr (.inr (6, 0, 0)), .inl (a1)] σ) := by
  unfold F_Sum_cellsOf
  refine ox_R_of (Y := ox_ev m_Sum_cellsOf (ox_zz ox_ms (n + 0)) 0 0 tl [.inr (.inr (6, 0, 0)), .inl (a1)] [] σ) rfl ?_
  refine ox_R_to 2 (Y := if a1 < 0 then ox_ev m_Sum_cellsOf (ox_zz ox_ms (n + 0)) 19 0 tl [ox_d, ox_d] [] σ else ox_ev m_Sum_cellsOf (ox_zz ox_ms (n + 0)) 4 0 tl [.inr (.inr (6, 0, 0)), .inl (a1)] [] σ) rfl ?_
  refine ox_R_if (fun _ => ?_) (fun _ => ?_)
  · exact (L_Sum_cellsOf_19 σ n tl)
  · refine ox_R_to 3 (Y := if 60 ≤ a1 then ox_ev m_Sum_cellsOf (ox_zz ox_ms (n + 0)) 19 0 tl [ox_d, ox_d] [] σ else ox_ev m_Sum_cellsOf (ox_zz ox_ms (n + 0)) 10 0 tl [.inr (.inr (6, 0, 0)), .inl (a1)] [] σ) rfl ?_
    refine ox_R_if (fun _ => ?_) (fun _ => ?_)
    · exact (L_Sum_cellsOf_19 σ n tl)
    · refine ox_R_to 4 (Y := if 0 ≤ a1 ∧ a1.toNat < 60 then ox_ev m_Sum_cellsOf (ox_zz ox_ms (n + 0)) 16 0 tl [.inr (.inr (6, 0, 0)), .inl (a1)] [.inl (σ 6 0 0 a1.toNat)] σ else none) rfl ?_
      refine ox_R_if (fun _ => ?_) (fun _ => ox_R_none)
      refine ox_R_to 1 (Y := ox_ev m_Sum_cellsOf (ox_zz ox_ms (n + 0)) 20 0 tl [ox_d, ox_d] [.inl (σ 6 0 0 a1.toNat)] σ) rfl ?_
      exact (L_Sum_cellsOf_20 (σ 6 0 0 a1.toNat) σ n tl)
def J_She_openCells_74  (σ : ox_H) : Option ox_H := some σ
theorem L_She_openCells_74  (σ : ox_H) (n tl : Nat) : ox_R (fun r => some ((fun r : ox_H => ((.inl none, r) : ox_O)) r)) (J_She_openCells_74 σ) (ox_ev m_She_openCells (ox_zz ox_ms (n + 1)) 74 0 tl [ox_d, ox_d, ox_d, ox_d] [] σ) := by
  unfold J_She_openCells_74
  refine ox_R_to 1 (Y := some (.inl none, σ)) rfl ?_
  exact ox_R_ret rfl
def J_She_openCells_67  (v1 : Int) (s0 : Int) (s1 : Int) (σ : ox_H) : Option (((Int × ox_H) ⊕ ox_H)) := if 0 ≤ s1 ∧ s1.toNat < 720 then (some (.inl (ox_w (v1 + 1), (ox_up σ 5 0 2 s1.toNat s0)))) else none
theorem L_She_openCells_67  (v1 : Int) (s0 : Int) (s1 : Int) (σ : ox_H) (n tl : Nat) : ox_R (Sum.elim (fun (s : Int × ox_H) => match s with | (v1, σ) => ox_ev m_She_openCells (ox_zz ox_ms (n + 1)) 2 0 tl [.inr (.inr (5, 0, 0)), .inl (v1), ox_d, ox_d] [] σ) (fun r => some ((fun r : ox_H => ((.inl none, r) : ox_O)) r))) (J_She_openCells_67 v1 s0 s1 σ) (ox_ev m_She_openCells (ox_zz ox_ms (n + 1)) 67 0 tl [.inr (.inr (5, 0, 0)), .inl (v1), ox_d, ox_d] [.inl (s0), .inl (s1), .inr (.inr (105, 0, 2))] σ) := by
  unfold J_She_openCells_67
  refine ox_R_to 1 (Y := if 0 ≤ s1 ∧ s1.toNat < 720 then ox_ev m_She_openCells (ox_zz ox_ms (n + 1)) 68 0 tl [.inr (.inr (5, 0, 0)), .inl (v1), ox_d, ox_d] [] (ox_up σ 5 0 2 s1.toNat s0) else none) rfl ?_
  refine ox_R_if (fun _ => ?_) (fun _ => ox_R_none)
  refine ox_R_to 2 (Y := ox_ev m_She_openCells (ox_zz ox_ms (n + 1)) 2 0 tl [.inr (.inr (5, 0, 0)), .inl (ox_w (v1 + 1)), ox_d, ox_d] [] (ox_up σ 5 0 2 s1.toNat s0)) rfl ?_
  exact ox_R_ret rfl
def J_She_openCells_50  (v1 : Int) (s0 : Int) (σ : ox_H) : Option (((Int × ox_H) ⊕ ox_H)) := if s0 = 0 then (J_She_openCells_67 v1 (ox_c 1000000 0) v1 σ) else (J_She_openCells_67 v1 (ox_c 1000001 0) v1 σ)
theorem L_She_openCells_50  (v1 : Int) (s0 : Int) (σ : ox_H) (n tl : Nat) : ox_R (Sum.elim (fun (s : Int × ox_H) => match s with | (v1, σ) => ox_ev m_She_openCells (ox_zz ox_ms (n + 1)) 2 0 tl [.inr (.inr (5, 0, 0)), .inl (v1), ox_d, ox_d] [] σ) (fun r => some ((fun r : ox_H => ((.inl none, r) : ox_O)) r))) (J_She_openCells_50 v1 s0 σ) (ox_ev m_She_openCells (ox_zz ox_ms (n + 1)) 50 0 tl [.inr (.inr (5, 0, 0)), .inl (v1), ox_d, ox_d] [.inl (s0)] σ) := by
  unfold J_She_openCells_50
  refine ox_R_to 6 (Y := if s0 = 0 then ox_ev m_She_openCells (ox_zz ox_ms (n + 1)) 65 0 tl [.inr (.inr (5, 0, 0)), .inl (v1), ox_d, .inl (s0)] [.inl (v1), .inr (.inr (105, 0, 2))] σ else ox_ev m_She_openCells (ox_zz ox_ms (n + 1)) 60 0 tl [.inr (.inr (5, 0, 0)), .inl (v1), ox_d, .inl (s0)] [.inl (v1), .inr (.inr (105, 0, 2))] σ) rfl ?_
  refine ox_R_if (fun _ => ?_) (fun _ => ?_)
  · refine ox_R_to 1 (Y := ox_ev m_She_openCells (ox_zz ox_ms (n + 1)) 67 0 tl [.inr (.inr (5, 0, 0)), .inl (v1), ox_d, ox_d] [.inl (ox_c 1000000 0), .inl (v1), .inr (.inr (105, 0, 2))] σ) rfl ?_
    exact (L_She_openCells_67 v1 (ox_c 1000000 0) v1 σ n tl)
  · refine ox_R_to 2 (Y := ox_ev m_She_openCells (ox_zz ox_ms (n + 1)) 67 0 tl [.inr (.inr (5, 0, 0)), .inl (v1), ox_d, ox_d] [.inl (ox_c 1000001 0), .inl (v1), .inr (.inr (105, 0, 2))] σ) rfl ?_
    exact (L_She_openCells_67 v1 (ox_c 1000001 0) v1 σ n tl)
def J_She_openCells_49  (v1 : Int) (σ : ox_H) : Option (((Int × ox_H) ⊕ ox_H)) := (J_She_openCells_50 v1 0 σ)
theorem L_She_openCells_49  (v1 : Int) (σ : ox_H) (n tl : Nat) : ox_R (Sum.elim (fun (s : Int × ox_H) => match s with | (v1, σ) => ox_ev m_She_openCells (ox_zz ox_ms (n + 1)) 2 0 tl [.inr (.inr (5, 0, 0)), .inl (v1), ox_d, ox_d] [] σ) (fun r => some ((fun r : ox_H => ((.inl none, r) : ox_O)) r))) (J_She_openCells_49 v1 σ) (ox_ev m_She_openCells (ox_zz ox_ms (n + 1)) 49 0 tl [.inr (.inr (5, 0, 0)), .inl (v1), ox_d, ox_d] [] σ) := by
  unfold J_She_openCells_49
  refine ox_R_to 1 (Y := ox_ev m_She_openCells (ox_zz ox_ms (n + 1)) 50 0 tl [.inr (.inr (5, 0, 0)), .inl (v1), ox_d, ox_d] [.inl (0)] σ) rfl ?_
  exact (L_She_openCells_50 v1 0 σ n tl)
def B_She_openCells_2  : (Int × ox_H) → Option (((Int × ox_H) ⊕ ox_H)) := fun (v1, σ) => if 720 ≤ v1 then ((J_She_openCells_74 σ).map .inr) else (if (σ 1 0 4 0) ≤ (ox_w (Int.tdiv v1 12)) then (J_She_openCells_49 v1 σ) else ((F_Sum_cellsOf (ox_w (Int.tdiv v1 12)) σ).bind fun r1 => (if r1 ≤ (Int.tmod v1 12) then (J_She_openCells_49 v1 σ) else (J_She_openCells_50 v1 1 σ))))
def J_She_openCells_2  (v1 : Int) (σ : ox_H) : Option (ox_H) := ox_lp (B_She_openCells_2) ox_fu (v1, σ)
theorem L_She_openCells_2  (v1 : Int) (σ : ox_H) (n tl : Nat) : ox_R (fun r => some ((fun r : ox_H => ((.inl none, r) : ox_O)) r)) (J_She_openCells_2 v1 σ) (ox_ev m_She_openCells (ox_zz ox_ms (n + 1)) 2 0 tl [.inr (.inr (5, 0, 0)), .inl (v1), ox_d, ox_d] [] σ) := by
  unfold J_She_openCells_2
  refine ox_R_lp (ψ := (fun (s : Int × ox_H) => match s with | (v1, σ) => ox_ev m_She_openCells (ox_zz ox_ms (n + 1)) 2 0 tl [.inr (.inr (5, 0, 0)), .inl (v1), ox_d, ox_d] [] σ)) ?_ ox_fu (v1, σ)
  intro s
  obtain ⟨v1, σ⟩ := s
  unfold B_She_openCells_2
  refine ox_R_to 5 (Y := if 720 ≤ v1 then ox_ev m_She_openCells (ox_zz ox_ms (n + 1)) 74 0 tl [ox_d, ox_d, ox_d, ox_d] [] σ else ox_ev m_She_openCells (ox_zz ox_ms (n + 1)) 11 0 tl [.inr (.inr (5, 0, 0)), .inl (v1), ox_d, ox_d] [] σ) rfl ?_
  refine ox_R_if (fun _ => ?_) (fun _ => ?_)
  · exact ox_R_map ((L_She_openCells_74 σ n tl))
  · refine ox_R_to 10 (Y := if (σ 1 0 4 0) ≤ (ox_w (Int.tdiv v1 12)) then ox_ev m_She_openCells (ox_zz ox_ms (n + 1)) 49 0 tl [.inr (.inr (5, 0, 0)), .inl (v1), ox_d, ox_d] [] σ else ox_ev m_She_openCells (ox_zz ox_ms (n + 1)) 30 0 tl [.inr (.inr (5, 0, 0)), .inl (v1), .inl (ox_w (Int.tdiv v1 12)), ox_d] [] σ) rfl ?_
    refine ox_R_if (fun _ => ?_) (fun _ => ?_)
    · exact (L_She_openCells_49 v1 σ n tl)
    · refine ox_R_to 7 (Y := ox_back m_She_openCells 39 3 [.inl (Int.tmod v1 12)] ((ox_zz ox_ms (n + 1)) 232 tl [.inr (.inr (6, 0, 0)), .inl (ox_w (Int.tdiv v1 12))] σ) (fun pc9 x9 st9 σ9 => ox_ev m_She_openCells (ox_zz ox_ms (n + 1)) pc9 0 tl (ox_kl (m_She_openCells.2.2.1 pc9) (ox_xl x9 [.inr (.inr (5, 0, 0)), .inl (v1), .inl (ox_w (Int.tdiv v1 12)), ox_d])) st9 σ9)) rfl ?_
      refine ox_R_call (fc := (fun r : Int => ((.inl (some (.inl r)), σ) : ox_O))) (L_Sum_cellsOf (ox_w (Int.tdiv v1 12)) σ (n + 0) tl) (fun r1 => ?_)
      refine ox_R_of (Y := ox_ev m_She_openCells (ox_zz ox_ms (n + 1)) 42 0 tl [.inr (.inr (5, 0, 0)), .inl (v1), .inl (ox_w (Int.tdiv v1 12)), ox_d] [.inl (r1), .inl (Int.tmod v1 12)] σ) rfl ?_
      refine ox_R_to 1 (Y := if r1 ≤ (Int.tmod v1 12) then ox_ev m_She_openCells (ox_zz ox_ms (n + 1)) 49 0 tl [.inr (.inr (5, 0, 0)), .inl (v1), ox_d, ox_d] [] σ else ox_ev m_She_openCells (ox_zz ox_ms (n + 1)) 45 0 tl [.inr (.inr (5, 0, 0)), .inl (v1), .inl (ox_w (Int.tdiv v1 12)), ox_d] [] σ) rfl ?_
      refine ox_R_if (fun _ => ?_) (fun _ => ?_)
      · exact (L_She_openCells_49 v1 σ n tl)
      · refine ox_R_to 2 (Y := ox_ev m_She_openCells (ox_zz ox_ms (n + 1)) 50 0 tl [.inr (.inr (5, 0, 0)), .inl (v1), ox_d, ox_d] [.inl (1)] σ) rfl ?_
        exact (L_She_openCells_50 v1 1 σ n tl)
def F_She_openCells  (σ : ox_H) : Option (ox_H) := (J_She_openCells_2 0 σ)
theorem L_She_openCells  (σ : ox_H) (n tl : Nat) : ox_R (fun r => some ((fun r : ox_H => ((.inl none, r) : ox_O)) r)) (F_She_openCells σ) (ox_zz ox_ms (n + 2) 218 tl [.inr (.inr (5, 0, 0))] σ) := by
  unfold F_She_openCells
  refine ox_R_of (Y := ox_ev m_She_openCells (ox_zz ox_ms (n + 1)) 0 0 tl [.inr (.inr (5, 0, 0)), ox_d, ox_d, ox_d] [] σ) rfl ?_
  refine ox_R_to 2 (Y := ox_ev m_She_openCells (ox_zz ox_ms (n + 1)) 2 0 tl [.inr (.inr (5, 0, 0)), .inl (0), ox_d, ox_d] [] σ) rfl ?_
  exact (L_She_openCells_2 0 σ n tl)
def J_Sum_end_23  (s0 : Int) (σ : ox_H) : Option Int := some s0
theorem L_Sum_end_23  (s0 : Int) (σ : ox_H) (n tl : Nat) : ox_R (fun r => some ((fun r : Int => ((.inl (some (.inl r)), σ) : ox_O)) r)) (J_Sum_end_23 s0 σ) (ox_ev m_Sum_end (ox_zz ox_ms (n + 0)) 23 0 tl [ox_d, ox_d] [.inl (s0)] σ) := by
  unfold J_Sum_end_23
  refine ox_R_to 1 (Y := some (.inl (some (.inl (s0))), σ)) rfl ?_
  exact ox_R_ret rfl
def J_Sum_end_22  (σ : ox_H) : Option Int := (J_Sum_end_23 0 σ)
theorem L_Sum_end_22  (σ : ox_H) (n tl : Nat) : ox_R (fun r => some ((fun r : Int => ((.inl (some (.inl r)), σ) : ox_O)) r)) (J_Sum_end_22 σ) (ox_ev m_Sum_end (ox_zz ox_ms (n + 0)) 22 0 tl [ox_d, ox_d] [] σ) := by
  unfold J_Sum_end_22
  refine ox_R_to 1 (Y := ox_ev m_Sum_end (ox_zz ox_ms (n + 0)) 23 0 tl [ox_d, ox_d] [.inl (0)] σ) rfl ?_
  exact (L_Sum_end_23 0 σ n tl)
def F_Sum_end  (a1 : Int) (σ : ox_H) : Option (Int) := if a1 < 0 then (J_Sum_end_22 σ) else (if 720 ≤ a1 then (J_Sum_end_22 σ) else (if 0 ≤ a1 ∧ a1.toNat < 720 then (J_Sum_end_23 (σ 6 0 2 a1.toNat) σ) else none))
theorem L_Sum_end  (a1 : Int) (σ : ox_H) (n tl : Nat) : ox_R (fun r => some ((fun r : Int => ((.inl (some (.inl r)), σ) : ox_O)) r)) (F_Sum_end a1 σ) (ox_zz ox_ms (n + 1) 237 tl [.inr (.inr (6, 0, 0)), .inl (a1)] σ) := by
  unfold F_Sum_end
  refine ox_R_of (Y := ox_ev m_Sum_end (ox_zz ox_ms (n + 0)) 0 0 tl [.inr (.inr (6, 0, 0)), .inl (a1)] [] σ) rfl ?_
  refine ox_R_to 2 (Y := if a1 < 0 then ox_ev m_Sum_end (ox_zz ox_ms (n + 0)) 22 0 tl [ox_d, ox_d] [] σ else ox_ev m_Sum_end (ox_zz ox_ms (n + 0)) 4 0 tl [.inr (.inr (6, 0, 0)), .inl (a1)] [] σ) rfl ?_
  refine ox_R_if (fun _ => ?_) (fun _ => ?_)
  · exact (L_Sum_end_22 σ n tl)
  · refine ox_R_to 5 (Y := if 720 ≤ a1 then ox_ev m_Sum_end (ox_zz ox_ms (n + 0)) 22 0 tl [ox_d, ox_d] [] σ else ox_ev m_Sum_end (ox_zz ox_ms (n + 0)) 13 0 tl [.inr (.inr (6, 0, 0)), .inl (a1)] [] σ) rfl ?_
    refine ox_R_if (fun _ => ?_) (fun _ => ?_)
    · exact (L_Sum_end_22 σ n tl)
    · refine ox_R_to 4 (Y := if 0 ≤ a1 ∧ a1.toNat < 720 then ox_ev m_Sum_end (ox_zz ox_ms (n + 0)) 19 0 tl [.inr (.inr (6, 0, 0)), .inl (a1)] [.inl (σ 6 0 2 a1.toNat)] σ else none) rfl ?_
      refine ox_R_if (fun _ => ?_) (fun _ => ox_R_none)
      refine ox_R_to 1 (Y := ox_ev m_Sum_end (ox_zz ox_ms (n + 0)) 23 0 tl [ox_d, ox_d] [.inl (σ 6 0 2 a1.toNat)] σ) rfl ?_
      exact (L_Sum_end_23 (σ 6 0 2 a1.toNat) σ n tl)
def J_Sum_from_18  (s0 : Int) (σ : ox_H) : Option Int := some s0
theorem L_Sum_from_18  (s0 : Int) (σ : ox_H) (n tl : Nat) : ox_R (fun r => some ((fun r : Int => ((.inl (some (.inl r)), σ) : ox_O)) r)) (J_Sum_from_18 s0 σ) (ox_ev m_Sum_from (ox_zz ox_ms (n + 1)) 18 0 tl [ox_d, ox_d] [.inl (s0)] σ) := by
  unfold J_Sum_from_18
  refine ox_R_to 1 (Y := some (.inl (some (.inl (s0))), σ)) rfl ?_
  exact ox_R_ret rfl
def F_Sum_from  (a1 : Int) (σ : ox_H) : Option (Int) := if (Int.tmod a1 12) = 0 then (J_Sum_from_18 a1 σ) else ((F_Sum_end (ox_w (a1 - 1)) σ).bind fun r1 => (J_Sum_from_18 r1 σ))
theorem L_Sum_from  (a1 : Int) (σ : ox_H) (n tl : Nat) : ox_R (fun r => some ((fun r : Int => ((.inl (some (.inl r)), σ) : ox_O)) r)) (F_Sum_from a1 σ) (ox_zz ox_ms (n + 2) 236 tl [.inr (.inr (6, 0, 0)), .inl (a1)] σ) := by
  unfold F_Sum_from
  refine ox_R_of (Y := ox_ev m_Sum_from (ox_zz ox_ms (n + 1)) 0 0 tl [.inr (.inr (6, 0, 0)), .inl (a1)] [] σ) rfl ?_
  refine ox_R_to 4 (Y := if (Int.tmod a1 12) = 0 then ox_ev m_Sum_from (ox_zz ox_ms (n + 1)) 7 0 tl [.inr (.inr (6, 0, 0)), .inl (a1)] [] σ else ox_ev m_Sum_from (ox_zz ox_ms (n + 1)) 11 0 tl [.inr (.inr (6, 0, 0)), .inl (a1)] [] σ) rfl ?_
  refine ox_R_if (fun _ => ?_) (fun _ => ?_)
  · refine ox_R_to 2 (Y := ox_ev m_Sum_from (ox_zz ox_ms (n + 1)) 18 0 tl [ox_d, ox_d] [.inl (a1)] σ) rfl ?_
    exact (L_Sum_from_18 a1 σ n tl)
  · refine ox_R_to 5 (Y := ox_back m_Sum_from 15 1 [] ((ox_zz ox_ms (n + 1)) 237 tl [.inr (.inr (6, 0, 0)), .inl (ox_w (a1 - 1))] σ) (fun pc9 x9 st9 σ9 => ox_ev m_Sum_from (ox_zz ox_ms (n + 1)) pc9 0 tl (ox_kl (m_Sum_from.2.2.1 pc9) (ox_xl x9 [.inr (.inr (6, 0, 0)), .inl (a1)])) st9 σ9)) rfl ?_
    refine ox_R_call (fc := (fun r : Int => ((.inl (some (.inl r)), σ) : ox_O))) (L_Sum_end (ox_w (a1 - 1)) σ (n + 0) tl) (fun r1 => ?_)
    refine ox_R_of (Y := ox_ev m_Sum_from (ox_zz ox_ms (n + 1)) 18 0 tl [ox_d, ox_d] [.inl (r1)] σ) rfl ?_
    exact (L_Sum_from_18 r1 σ n tl)
def J_She_topOf_20  (s0 : Int) (σ : ox_H) : Option Int := some s0
theorem L_She_topOf_20  (s0 : Int) (σ : ox_H) (n tl : Nat) : ox_R (fun r => some ((fun r : Int => ((.inl (some (.inl r)), σ) : ox_O)) r)) (J_She_topOf_20 s0 σ) (ox_ev m_She_topOf (ox_zz ox_ms (n + 0)) 20 0 tl [ox_d, ox_d] [.inl (s0)] σ) := by
  unfold J_She_topOf_20
  refine ox_R_to 1 (Y := some (.inl (some (.inl (s0))), σ)) rfl ?_
  exact ox_R_ret rfl
def J_She_topOf_19  (σ : ox_H) : Option Int := (J_She_topOf_20 (-1) σ)
theorem L_She_topOf_19  (σ : ox_H) (n tl : Nat) : ox_R (fun r => some ((fun r : Int => ((.inl (some (.inl r)), σ) : ox_O)) r)) (J_She_topOf_19 σ) (ox_ev m_She_topOf (ox_zz ox_ms (n + 0)) 19 0 tl [ox_d, ox_d] [] σ) := by
  unfold J_She_topOf_19
  refine ox_R_to 1 (Y := ox_ev m_She_topOf (ox_zz ox_ms (n + 0)) 20 0 tl [ox_d, ox_d] [.inl ((-1))] σ) rfl ?_
  exact (L_She_topOf_20 (-1) σ n tl)
def F_She_topOf  (a1 : Int) (σ : ox_H) : Option (Int) := if a1 < 0 then (J_She_topOf_19 σ) else (if 60 ≤ a1 then (J_She_topOf_19 σ) else (if 0 ≤ a1 ∧ a1.toNat < 60 then (J_She_topOf_20 (σ 5 0 3 a1.toNat) σ) else none))
theorem L_She_topOf  (a1 : Int) (σ : ox_H) (n tl : Nat) : ox_R (fun r => some ((fun r : Int => ((.inl (some (.inl r)), σ) : ox_O)) r)) (F_She_topOf a1 σ) (ox_zz ox_ms (n + 1) 225 tl [.inr (.inr (5, 0, 0)), .inl (a1)] σ) := by
  unfold F_She_topOf
  refine ox_R_of (Y := ox_ev m_She_topOf (ox_zz ox_ms (n + 0)) 0 0 tl [.inr (.inr (5, 0, 0)), .inl (a1)] [] σ) rfl ?_
  refine ox_R_to 2 (Y := if a1 < 0 then ox_ev m_She_topOf (ox_zz ox_ms (n + 0)) 19 0 tl [ox_d, ox_d] [] σ else ox_ev m_She_topOf (ox_zz ox_ms (n + 0)) 4 0 tl [.inr (.inr (5, 0, 0)), .inl (a1)] [] σ) rfl ?_
  refine ox_R_if (fun _ => ?_) (fun _ => ?_)
  · exact (L_She_topOf_19 σ n tl)
  · refine ox_R_to 3 (Y := if 60 ≤ a1 then ox_ev m_She_topOf (ox_zz ox_ms (n + 0)) 19 0 tl [ox_d, ox_d] [] σ else ox_ev m_She_topOf (ox_zz ox_ms (n + 0)) 10 0 tl [.inr (.inr (5, 0, 0)), .inl (a1)] [] σ) rfl ?_
    refine ox_R_if (fun _ => ?_) (fun _ => ?_)
    · exact (L_She_topOf_19 σ n tl)
    · refine ox_R_to 4 (Y := if 0 ≤ a1 ∧ a1.toNat < 60 then ox_ev m_She_topOf (ox_zz ox_ms (n + 0)) 16 0 tl [.inr (.inr (5, 0, 0)), .inl (a1)] [.inl (σ 5 0 3 a1.toNat)] σ else none) rfl ?_
      refine ox_R_if (fun _ => ?_) (fun _ => ox_R_none)
      refine ox_R_to 1 (Y := ox_ev m_She_topOf (ox_zz ox_ms (n + 0)) 20 0 tl [ox_d, ox_d] [.inl (σ 5 0 3 a1.toNat)] σ) rfl ?_
      exact (L_She_topOf_20 (σ 5 0 3 a1.toNat) σ n tl)
def J_She_rowLine_16  (σ : ox_H) : Option Int := some (-1)
theorem L_She_rowLine_16  (σ : ox_H) (n tl : Nat) : ox_R (fun r => some ((fun r : Int => ((.inl (some (.inl r)), σ) : ox_O)) r)) (J_She_rowLine_16 σ) (ox_ev m_She_rowLine (ox_zz ox_ms (n + 1)) 16 0 tl [ox_d, ox_d, ox_d, ox_d] [] σ) := by
  unfold J_She_rowLine_16
  refine ox_R_to 2 (Y := some (.inl (some (.inl ((-1)))), σ)) rfl ?_
  exact ox_R_ret rfl
def J_She_rowLine_38  (s0 : Int) (σ : ox_H) : Option Int := some s0
theorem L_She_rowLine_38  (s0 : Int) (σ : ox_H) (n tl : Nat) : ox_R (fun r => some ((fun r : Int => ((.inl (some (.inl r)), σ) : ox_O)) r)) (J_She_rowLine_38 s0 σ) (ox_ev m_She_rowLine (ox_zz ox_ms (n + 1)) 38 0 tl [ox_d, ox_d, ox_d, ox_d] [.inl (s0)] σ) := by
  unfold J_She_rowLine_38
  refine ox_R_to 1 (Y := some (.inl (some (.inl (s0))), σ)) rfl ?_
  exact ox_R_ret rfl
def F_She_rowLine  (a1 : Int) (a2 : Int) (σ : ox_H) : Option (Int) := if a1 = (-1) then (J_She_rowLine_16 σ) else (if a2 < 1 then (J_She_rowLine_16 σ) else (if a2 ≤ 60 then ((F_She_topOf (ox_w ((ox_w (a1 + a2)) - 1)) σ).bind fun r1 => (if r1 = a1 then (J_She_rowLine_38 (ox_w ((ox_w (a1 + a2)) - 1)) σ) else (J_She_rowLine_38 (-1) σ))) else (J_She_rowLine_16 σ)))
theorem L_She_rowLine  (a1 : Int) (a2 : Int) (σ : ox_H) (n tl : Nat) : ox_R (fun r => some ((fun r : Int => ((.inl (some (.inl r)), σ) : ox_O)) r)) (F_She_rowLine a1 a2 σ) (ox_zz ox_ms (n + 2) 228 tl [.inr (.inr (5, 0, 0)), .inl (a1), .inl (a2)] σ) := by
  unfold F_She_rowLine
  refine ox_R_of (Y := ox_ev m_She_rowLine (ox_zz ox_ms (n + 1)) 0 0 tl [.inr (.inr (5, 0, 0)), .inl (a1), .inl (a2), ox_d] [] σ) rfl ?_
  refine ox_R_to 3 (Y := if a1 = (-1) then ox_ev m_She_rowLine (ox_zz ox_ms (n + 1)) 16 0 tl [ox_d, ox_d, ox_d, ox_d] [] σ else ox_ev m_She_rowLine (ox_zz ox_ms (n + 1)) 5 0 tl [.inr (.inr (5, 0, 0)), .inl (a1), .inl (a2), ox_d] [] σ) rfl ?_
  refine ox_R_if (fun _ => ?_) (fun _ => ?_)
  · exact (L_She_rowLine_16 σ n tl)
  · refine ox_R_to 3 (Y := if a2 < 1 then ox_ev m_She_rowLine (ox_zz ox_ms (n + 1)) 16 0 tl [ox_d, ox_d, ox_d, ox_d] [] σ else ox_ev m_She_rowLine (ox_zz ox_ms (n + 1)) 10 0 tl [.inr (.inr (5, 0, 0)), .inl (a1), .inl (a2), ox_d] [] σ) rfl ?_
    refine ox_R_if (fun _ => ?_) (fun _ => ?_)
    · exact (L_She_rowLine_16 σ n tl)
    · refine ox_R_to 3 (Y := if a2 ≤ 60 then ox_ev m_She_rowLine (ox_zz ox_ms (n + 1)) 18 0 tl [.inr (.inr (5, 0, 0)), .inl (a1), .inl (a2), ox_d] [] σ else ox_ev m_She_rowLine (ox_zz ox_ms (n + 1)) 16 0 tl [ox_d, ox_d, ox_d, ox_d] [] σ) rfl ?_
      refine ox_R_if (fun _ => ?_) (fun _ => ?_)
      · refine ox_R_to 9 (Y := ox_back m_She_rowLine 26 1 [] ((ox_zz ox_ms (n + 1)) 225 tl [.inr (.inr (5, 0, 0)), .inl (ox_w ((ox_w (a1 + a2)) - 1))] σ) (fun pc9 x9 st9 σ9 => ox_ev m_She_rowLine (ox_zz ox_ms (n + 1)) pc9 0 tl (ox_kl (m_She_rowLine.2.2.1 pc9) (ox_xl x9 [.inr (.inr (5, 0, 0)), .inl (a1), .inl (a2), .inl (ox_w ((ox_w (a1 + a2)) - 1))])) st9 σ9)) rfl ?_
        refine ox_R_call (fc := (fun r : Int => ((.inl (some (.inl r)), σ) : ox_O))) (L_She_topOf (ox_w ((ox_w (a1 + a2)) - 1)) σ (n + 0) tl) (fun r1 => ?_)
        refine ox_R_of (Y := ox_ev m_She_rowLine (ox_zz ox_ms (n + 1)) 29 0 tl [.inr (.inr (5, 0, 0)), .inl (a1), .inl (a2), .inl (ox_w ((ox_w (a1 + a2)) - 1))] [.inl (r1)] σ) rfl ?_
        refine ox_R_to 2 (Y := if r1 = a1 then ox_ev m_She_rowLine (ox_zz ox_ms (n + 1)) 33 0 tl [.inr (.inr (5, 0, 0)), .inl (a1), .inl (a2), .inl (ox_w ((ox_w (a1 + a2)) - 1))] [] σ else ox_ev m_She_rowLine (ox_zz ox_ms (n + 1)) 37 0 tl [.inr (.inr (5, 0, 0)), .inl (a1), .inl (a2), .inl (ox_w ((ox_w (a1 + a2)) - 1))] [] σ) rfl ?_
        refine ox_R_if (fun _ => ?_) (fun _ => ?_)
        · refine ox_R_to 2 (Y := ox_ev m_She_rowLine (ox_zz ox_ms (n + 1)) 38 0 tl [ox_d, ox_d, ox_d, ox_d] [.inl (ox_w ((ox_w (a1 + a2)) - 1))] σ) rfl ?_
          exact (L_She_rowLine_38 (ox_w ((ox_w (a1 + a2)) - 1)) σ n tl)
        · refine ox_R_to 1 (Y := ox_ev m_She_rowLine (ox_zz ox_ms (n + 1)) 38 0 tl [ox_d, ox_d, ox_d, ox_d] [.inl ((-1))] σ) rfl ?_
          exact (L_She_rowLine_38 (-1) σ n tl)
      · exact (L_She_rowLine_16 σ n tl)
def J_She_valueAt_20  (σ : ox_H) : Option Int := some (ox_c 1000000 0)
theorem L_She_valueAt_20  (σ : ox_H) (n tl : Nat) : ox_R (fun r => some ((fun r : Int => ((.inl (some (.inl r)), σ) : ox_O)) r)) (J_She_valueAt_20 σ) (ox_ev m_She_valueAt (ox_zz ox_ms (n + 0)) 20 0 tl [ox_d, ox_d, ox_d] [] σ) := by
  unfold J_She_valueAt_20
  refine ox_R_to 2 (Y := some (.inl (some (.inl (ox_c 1000000 0))), σ)) rfl ?_
  exact ox_R_ret rfl
def F_She_valueAt  (a1 : Int) (a2 : Int) (σ : ox_H) : Option (Int) := if a1 < 0 then (J_She_valueAt_20 σ) else (if 60 ≤ a1 then (J_She_valueAt_20 σ) else (if a2 < 0 then (J_She_valueAt_20 σ) else (if a2 < 12 then (if 0 ≤ (ox_w ((ox_w (a1 * 12)) + a2)) ∧ (ox_w ((ox_w (a1 * 12)) + a2)).toNat < 720 then (some (σ 5 0 2 ((ox_w ((ox_w (a1 * 12)) + a2)).toNat))) else none) else (J_She_valueAt_20 σ))))
theorem L_She_valueAt  (a1 : Int) (a2 : Int) (σ : ox_H) (n tl : Nat) : ox_R (fun r => some ((fun r : Int => ((.inl (some (.inl r)), σ) : ox_O)) r)) (F_She_valueAt a1 a2 σ) (ox_zz ox_ms (n + 1) 230 tl [.inr (.inr (5, 0, 0)), .inl (a1), .inl (a2)] σ) := by
  unfold F_She_valueAt
  refine ox_R_of (Y := ox_ev m_She_valueAt (ox_zz ox_ms (n + 0)) 0 0 tl [.inr (.inr (5, 0, 0)), .inl (a1), .inl (a2)] [] σ) rfl ?_
  refine ox_R_to 2 (Y := if a1 < 0 then ox_ev m_She_valueAt (ox_zz ox_ms (n + 0)) 20 0 tl [ox_d, ox_d, ox_d] [] σ else ox_ev m_She_valueAt (ox_zz ox_ms (n + 0)) 4 0 tl [.inr (.inr (5, 0, 0)), .inl (a1), .inl (a2)] [] σ) rfl ?_
  refine ox_R_if (fun _ => ?_) (fun _ => ?_)
  · exact (L_She_valueAt_20 σ n tl)
  · refine ox_R_to 3 (Y := if 60 ≤ a1 then ox_ev m_She_valueAt (ox_zz ox_ms (n + 0)) 20 0 tl [ox_d, ox_d, ox_d] [] σ else ox_ev m_She_valueAt (ox_zz ox_ms (n + 0)) 10 0 tl [.inr (.inr (5, 0, 0)), .inl (a1), .inl (a2)] [] σ) rfl ?_
    refine ox_R_if (fun _ => ?_) (fun _ => ?_)
    · exact (L_She_valueAt_20 σ n tl)
    · refine ox_R_to 2 (Y := if a2 < 0 then ox_ev m_She_valueAt (ox_zz ox_ms (n + 0)) 20 0 tl [ox_d, ox_d, ox_d] [] σ else ox_ev m_She_valueAt (ox_zz ox_ms (n + 0)) 14 0 tl [.inr (.inr (5, 0, 0)), .inl (a1), .inl (a2)] [] σ) rfl ?_
      refine ox_R_if (fun _ => ?_) (fun _ => ?_)
      · exact (L_She_valueAt_20 σ n tl)
      · refine ox_R_to 3 (Y := if a2 < 12 then ox_ev m_She_valueAt (ox_zz ox_ms (n + 0)) 23 0 tl [.inr (.inr (5, 0, 0)), .inl (a1), .inl (a2)] [] σ else ox_ev m_She_valueAt (ox_zz ox_ms (n + 0)) 20 0 tl [ox_d, ox_d, ox_d] [] σ) rfl ?_
        refine ox_R_if (fun _ => ?_) (fun _ => ?_)
        · refine ox_R_to 8 (Y := if 0 ≤ (ox_w ((ox_w (a1 * 12)) + a2)) ∧ (ox_w ((ox_w (a1 * 12)) + a2)).toNat < 720 then ox_ev m_She_valueAt (ox_zz ox_ms (n + 0)) 34 0 tl [.inr (.inr (5, 0, 0)), .inl (a1), .inl (a2)] [.inl (σ 5 0 2 ((ox_w ((ox_w (a1 * 12)) + a2)).toNat))] σ else none) rfl ?_
          refine ox_R_if (fun _ => ?_) (fun _ => ox_R_none)
          refine ox_R_to 1 (Y := some (.inl (some (.inl (σ 5 0 2 ((ox_w ((ox_w (a1 * 12)) + a2)).toNat)))), σ)) rfl ?_
          exact ox_R_ret rfl
        · exact (L_She_valueAt_20 σ n tl)
def J_She_hasCell_21  (s0 : Int) (σ : ox_H) : Option Int := some (s0 % 2)
theorem L_She_hasCell_21  (s0 : Int) (σ : ox_H) (n tl : Nat) : ox_R (fun r => some ((fun r : Int => ((.inl (some (.inl r)), σ) : ox_O)) r)) (J_She_hasCell_21 s0 σ) (ox_ev m_She_hasCell (ox_zz ox_ms (n + 1)) 21 0 tl [ox_d, ox_d, ox_d] [.inl (s0)] σ) := by
  unfold J_She_hasCell_21
  refine ox_R_to 1 (Y := some (.inl (some (.inl (s0 % 2))), σ)) rfl ?_
  exact ox_R_ret rfl
def J_She_hasCell_20  (σ : ox_H) : Option Int := (J_She_hasCell_21 0 σ)
theorem L_She_hasCell_20  (σ : ox_H) (n tl : Nat) : ox_R (fun r => some ((fun r : Int => ((.inl (some (.inl r)), σ) : ox_O)) r)) (J_She_hasCell_20 σ) (ox_ev m_She_hasCell (ox_zz ox_ms (n + 1)) 20 0 tl [ox_d, ox_d, ox_d] [] σ) := by
  unfold J_She_hasCell_20
  refine ox_R_to 1 (Y := ox_ev m_She_hasCell (ox_zz ox_ms (n + 1)) 21 0 tl [ox_d, ox_d, ox_d] [.inl (0)] σ) rfl ?_
  exact (L_She_hasCell_21 0 σ n tl)
def F_She_hasCell  (a1 : Int) (a2 : Int) (σ : ox_H) : Option (Int) := if a2 < 0 then (J_She_hasCell_20 σ) else ((F_Sum_cellsOf a1 σ).bind fun r1 => (if r1 ≤ a2 then (J_She_hasCell_20 σ) else (J_She_hasCell_21 1 σ)))
theorem L_She_hasCell  (a1 : Int) (a2 : Int) (σ : ox_H) (n tl : Nat) : ox_R (fun r => some ((fun r : Int => ((.inl (some (.inl r)), σ) : ox_O)) r)) (F_She_hasCell a1 a2 σ) (ox_zz ox_ms (n + 2) 229 tl [.inr (.inr (5, 0, 0)), .inl (a1), .inl (a2)] σ) := by
  unfold F_She_hasCell
  refine ox_R_of (Y := ox_ev m_She_hasCell (ox_zz ox_ms (n + 1)) 0 0 tl [.inr (.inr (5, 0, 0)), .inl (a1), .inl (a2)] [] σ) rfl ?_
  refine ox_R_to 2 (Y := if a2 < 0 then ox_ev m_She_hasCell (ox_zz ox_ms (n + 1)) 20 0 tl [ox_d, ox_d, ox_d] [] σ else ox_ev m_She_hasCell (ox_zz ox_ms (n + 1)) 4 0 tl [.inr (.inr (5, 0, 0)), .inl (a1), .inl (a2)] [] σ) rfl ?_
  refine ox_R_if (fun _ => ?_) (fun _ => ?_)
  · exact (L_She_hasCell_20 σ n tl)
  · refine ox_R_to 5 (Y := ox_back m_She_hasCell 10 3 [.inl (a2)] ((ox_zz ox_ms (n + 1)) 232 tl [.inr (.inr (6, 0, 0)), .inl (a1)] σ) (fun pc9 x9 st9 σ9 => ox_ev m_She_hasCell (ox_zz ox_ms (n + 1)) pc9 0 tl (ox_kl (m_She_hasCell.2.2.1 pc9) (ox_xl x9 [.inr (.inr (5, 0, 0)), .inl (a1), .inl (a2)])) st9 σ9)) rfl ?_
    refine ox_R_call (fc := (fun r : Int => ((.inl (some (.inl r)), σ) : ox_O))) (L_Sum_cellsOf a1 σ (n + 0) tl) (fun r1 => ?_)
    refine ox_R_of (Y := ox_ev m_She_hasCell (ox_zz ox_ms (n + 1)) 13 0 tl [.inr (.inr (5, 0, 0)), .inl (a1), .inl (a2)] [.inl (r1), .inl (a2)] σ) rfl ?_
    refine ox_R_to 1 (Y := if r1 ≤ a2 then ox_ev m_She_hasCell (ox_zz ox_ms (n + 1)) 20 0 tl [ox_d, ox_d, ox_d] [] σ else ox_ev m_She_hasCell (ox_zz ox_ms (n + 1)) 16 0 tl [.inr (.inr (5, 0, 0)), .inl (a1), .inl (a2)] [] σ) rfl ?_
    refine ox_R_if (fun _ => ?_) (fun _ => ?_)
    · exact (L_She_hasCell_20 σ n tl)
    · refine ox_R_to 2 (Y := ox_ev m_She_hasCell (ox_zz ox_ms (n + 1)) 21 0 tl [ox_d, ox_d, ox_d] [.inl (1)] σ) rfl ?_
      exact (L_She_hasCell_21 1 σ n tl)
def J_She_joined_59  (s0 : Int) (σ : ox_H) : Option Int := some s0
theorem L_She_joined_59  (s0 : Int) (σ : ox_H) (n tl : Nat) : ox_R (fun r => some ((fun r : Int => ((.inl (some (.inl r)), σ) : ox_O)) r)) (J_She_joined_59 s0 σ) (ox_ev m_She_joined (ox_zz ox_ms (n + 0)) 59 0 tl [ox_d, ox_d, ox_d, ox_d, ox_d] [.inl (s0)] σ) := by
  unfold J_She_joined_59
  refine ox_R_to 1 (Y := some (.inl (some (.inl (s0))), σ)) rfl ?_
  exact ox_R_ret rfl
def J_She_joined_52  (σ : ox_H) : Option Int := (J_She_joined_59 (ox_c 1000000 0) σ)
theorem L_She_joined_52  (σ : ox_H) (n tl : Nat) : ox_R (fun r => some ((fun r : Int => ((.inl (some (.inl r)), σ) : ox_O)) r)) (J_She_joined_52 σ) (ox_ev m_She_joined (ox_zz ox_ms (n + 0)) 52 0 tl [ox_d, ox_d, ox_d, ox_d, ox_d] [] σ) := by
  unfold J_She_joined_52
  refine ox_R_to 2 (Y := ox_ev m_She_joined (ox_zz ox_ms (n + 0)) 59 0 tl [ox_d, ox_d, ox_d, ox_d, ox_d] [.inl (ox_c 1000000 0)] σ) rfl ?_
  exact (L_She_joined_59 (ox_c 1000000 0) σ n tl)
def J_She_joined_36  (v3 : Int) (σ : ox_H) : Option Int := if (if v3 < (ox_c 0 999999) then -1 else if v3 = (ox_c 0 999999) then 0 else 1) < 0 then (J_She_joined_52 σ) else (if (if v3 < (ox_c 999999 0) then -1 else if v3 = (ox_c 999999 0) then 0 else 1) ≤ 0 then (J_She_joined_59 (ox_w v3) σ) else (J_She_joined_52 σ))
theorem L_She_joined_36  (v3 : Int) (σ : ox_H) (n tl : Nat) : ox_R (fun r => some ((fun r : Int => ((.inl (some (.inl r)), σ) : ox_O)) r)) (J_She_joined_36 v3 σ) (ox_ev m_She_joined (ox_zz ox_ms (n + 0)) 36 0 tl [ox_d, ox_d, ox_d, .inr (.inl (v3)), ox_d] [] σ) := by
  unfold J_She_joined_36
  refine ox_R_to 4 (Y := if (if v3 < (ox_c 0 999999) then -1 else if v3 = (ox_c 0 999999) then 0 else 1) < 0 then ox_ev m_She_joined (ox_zz ox_ms (n + 0)) 52 0 tl [ox_d, ox_d, ox_d, ox_d, ox_d] [] σ else ox_ev m_She_joined (ox_zz ox_ms (n + 0)) 44 0 tl [ox_d, ox_d, ox_d, .inr (.inl (v3)), ox_d] [] σ) rfl ?_
  refine ox_R_if (fun _ => ?_) (fun _ => ?_)
  · exact (L_She_joined_52 σ n tl)
  · refine ox_R_to 4 (Y := if (if v3 < (ox_c 999999 0) then -1 else if v3 = (ox_c 999999 0) then 0 else 1) ≤ 0 then ox_ev m_She_joined (ox_zz ox_ms (n + 0)) 57 0 tl [ox_d, ox_d, ox_d, .inr (.inl (v3)), ox_d] [] σ else ox_ev m_She_joined (ox_zz ox_ms (n + 0)) 52 0 tl [ox_d, ox_d, ox_d, ox_d, ox_d] [] σ) rfl ?_
    refine ox_R_if (fun _ => ?_) (fun _ => ?_)
    · refine ox_R_to 2 (Y := ox_ev m_She_joined (ox_zz ox_ms (n + 0)) 59 0 tl [ox_d, ox_d, ox_d, ox_d, ox_d] [.inl (ox_w v3)] σ) rfl ?_
      exact (L_She_joined_59 (ox_w v3) σ n tl)
    · exact (L_She_joined_52 σ n tl)
def F_She_joined  (a1 : Int) (a2 : Int) (a3 : Int) (σ : ox_H) : Option (Int) := if a2 = 43 then (J_She_joined_36 (ox_wl (a1 + a3)) σ) else (if a2 = 45 then (J_She_joined_36 (ox_wl (a1 - a3)) σ) else (J_She_joined_36 (ox_wl (a1 * a3)) σ))
theorem L_She_joined  (a1 : Int) (a2 : Int) (a3 : Int) (σ : ox_H) (n tl : Nat) : ox_R (fun r => some ((fun r : Int => ((.inl (some (.inl r)), σ) : ox_O)) r)) (F_She_joined a1 a2 a3 σ) (ox_zz ox_ms (n + 1) 223 tl [.inl (a1), .inl (a2), .inl (a3)] σ) := by
  unfold F_She_joined
  refine ox_R_of (Y := ox_ev m_She_joined (ox_zz ox_ms (n + 0)) 0 0 tl [.inl (a1), .inl (a2), .inl (a3), ox_d, ox_d] [] σ) rfl ?_
  refine ox_R_to 6 (Y := if a2 = 43 then ox_ev m_She_joined (ox_zz ox_ms (n + 0)) 9 0 tl [.inl (a1), .inl (a2), .inl (a3), .inr (.inl (a1)), ox_d] [] σ else ox_ev m_She_joined (ox_zz ox_ms (n + 0)) 17 0 tl [.inl (a1), .inl (a2), .inl (a3), .inr (.inl (a1)), ox_d] [] σ) rfl ?_
  refine ox_R_if (fun _ => ?_) (fun _ => ?_)
  · refine ox_R_to 6 (Y := ox_ev m_She_joined (ox_zz ox_ms (n + 0)) 36 0 tl [ox_d, ox_d, ox_d, .inr (.inl (ox_wl (a1 + a3))), ox_d] [] σ) rfl ?_
    exact (L_She_joined_36 (ox_wl (a1 + a3)) σ n tl)
  · refine ox_R_to 3 (Y := if a2 = 45 then ox_ev m_She_joined (ox_zz ox_ms (n + 0)) 23 0 tl [.inl (a1), .inl (a2), .inl (a3), .inr (.inl (a1)), ox_d] [] σ else ox_ev m_She_joined (ox_zz ox_ms (n + 0)) 31 0 tl [.inl (a1), .inl (a2), .inl (a3), .inr (.inl (a1)), ox_d] [] σ) rfl ?_
    refine ox_R_if (fun _ => ?_) (fun _ => ?_)
    · refine ox_R_to 6 (Y := ox_ev m_She_joined (ox_zz ox_ms (n + 0)) 36 0 tl [ox_d, ox_d, ox_d, .inr (.inl (ox_wl (a1 - a3))), ox_d] [] σ) rfl ?_
      exact (L_She_joined_36 (ox_wl (a1 - a3)) σ n tl)
    · refine ox_R_to 5 (Y := ox_ev m_She_joined (ox_zz ox_ms (n + 0)) 36 0 tl [ox_d, ox_d, ox_d, .inr (.inl (ox_wl (a1 * a3))), ox_d] [] σ) rfl ?_
      exact (L_She_joined_36 (ox_wl (a1 * a3)) σ n tl)
def J_She_columnOf_89  (v4 : Int) (σ : ox_H) : Option Int := some v4
theorem L_She_columnOf_89  (v4 : Int) (σ : ox_H) (n tl : Nat) : ox_R (fun r => some ((fun r : Int => ((.inl (some (.inl r)), σ) : ox_O)) r)) (J_She_columnOf_89 v4 σ) (ox_ev m_She_columnOf (ox_zz ox_ms (n + 2)) 89 0 tl [ox_d, ox_d, ox_d, ox_d, .inl (v4), ox_d, ox_d] [] σ) := by
  unfold J_She_columnOf_89
  refine ox_R_to 2 (Y := some (.inl (some (.inl (v4))), σ)) rfl ?_
  exact ox_R_ret rfl
def J_She_columnOf_83  (v1 : Int) (v2 : Int) (v4 : Int) (v5 : Int) (σ : ox_H) : Option (((Int × Int) ⊕ Int)) := some (.inl (v4, ox_w (v5 + 1)))
theorem L_She_columnOf_83  (v1 : Int) (v2 : Int) (v4 : Int) (v5 : Int) (σ : ox_H) (n tl : Nat) : ox_R (Sum.elim (fun (s : Int × Int) => match s with | (v4, v5) => ox_ev m_She_columnOf (ox_zz ox_ms (n + 2)) 20 0 tl [.inr (.inr (5, 0, 0)), .inl (v1), .inl (v2), ox_d, .inl (v4), .inl (v5), ox_d] [] σ) (fun r => some ((fun r : Int => ((.inl (some (.inl r)), σ) : ox_O)) r))) (J_She_columnOf_83 v1 v2 v4 v5 σ) (ox_ev m_She_columnOf (ox_zz ox_ms (n + 2)) 83 0 tl [.inr (.inr (5, 0, 0)), .inl (v1), .inl (v2), ox_d, .inl (v4), .inl (v5), ox_d] [] σ) := by
  unfold J_She_columnOf_83
  refine ox_R_to 2 (Y := ox_ev m_She_columnOf (ox_zz ox_ms (n + 2)) 20 0 tl [.inr (.inr (5, 0, 0)), .inl (v1), .inl (v2), ox_d, .inl (v4), .inl (ox_w (v5 + 1)), ox_d] [] σ) rfl ?_
  exact ox_R_ret rfl
def J_She_columnOf_69  (v6 : Int) (σ : ox_H) : Option Int := some v6
theorem L_She_columnOf_69  (v6 : Int) (σ : ox_H) (n tl : Nat) : ox_R (fun r => some ((fun r : Int => ((.inl (some (.inl r)), σ) : ox_O)) r)) (J_She_columnOf_69 v6 σ) (ox_ev m_She_columnOf (ox_zz ox_ms (n + 2)) 69 0 tl [ox_d, ox_d, ox_d, ox_d, ox_d, ox_d, .inl (v6)] [] σ) := by
  unfold J_She_columnOf_69
  refine ox_R_to 2 (Y := some (.inl (some (.inl (v6))), σ)) rfl ?_
  exact ox_R_ret rfl
def B_She_columnOf_20  (v1 : Int) (v2 : Int) (σ : ox_H) : (Int × Int) → Option (((Int × Int) ⊕ Int)) := fun (v4, v5) => if v1 ≤ v5 then ((J_She_columnOf_89 v4 σ).map .inr) else (if v4 = (ox_c 1000000 0) then ((J_She_columnOf_89 v4 σ).map .inr) else ((F_She_hasCell v5 v2 σ).bind fun r1 => (if r1 = 0 then (J_She_columnOf_83 v1 v2 v4 v5 σ) else ((F_She_valueAt v5 v2 σ).bind fun r2 => (if r2 = (ox_c 1000001 0) then ((J_She_columnOf_69 r2 σ).map .inr) else (if r2 = (ox_c 1000000 0) then ((J_She_columnOf_69 r2 σ).map .inr) else ((F_She_joined v4 43 r2 σ).bind fun r3 => (J_She_columnOf_83 v1 v2 r3 v5 σ))))))))
def J_She_columnOf_20  (v1 : Int) (v2 : Int) (v4 : Int) (v5 : Int) (σ : ox_H) : Option (Int) := ox_lp (B_She_columnOf_20 v1 v2 σ) ox_fu (v4, v5)
theorem L_She_columnOf_20  (v1 : Int) (v2 : Int) (v4 : Int) (v5 : Int) (σ : ox_H) (n tl : Nat) : ox_R (fun r => some ((fun r : Int => ((.inl (some (.inl r)), σ) : ox_O)) r)) (J_She_columnOf_20 v1 v2 v4 v5 σ) (ox_ev m_She_columnOf (ox_zz ox_ms (n + 2)) 20 0 tl [.inr (.inr (5, 0, 0)), .inl (v1), .inl (v2), ox_d, .inl (v4), .inl (v5), ox_d] [] σ) := by
  unfold J_She_columnOf_20
  refine ox_R_lp (ψ := (fun (s : Int × Int) => match s with | (v4, v5) => ox_ev m_She_columnOf (ox_zz ox_ms (n + 2)) 20 0 tl [.inr (.inr (5, 0, 0)), .inl (v1), .inl (v2), ox_d, .inl (v4), .inl (v5), ox_d] [] σ)) ?_ ox_fu (v4, v5)
  intro s
  obtain ⟨v4, v5⟩ := s
  unfold B_She_columnOf_20
  refine ox_R_to 3 (Y := if v1 ≤ v5 then ox_ev m_She_columnOf (ox_zz ox_ms (n + 2)) 89 0 tl [ox_d, ox_d, ox_d, ox_d, .inl (v4), ox_d, ox_d] [] σ else ox_ev m_She_columnOf (ox_zz ox_ms (n + 2)) 26 0 tl [.inr (.inr (5, 0, 0)), .inl (v1), .inl (v2), ox_d, .inl (v4), .inl (v5), ox_d] [] σ) rfl ?_
  refine ox_R_if (fun _ => ?_) (fun _ => ?_)
  · exact ox_R_map ((L_She_columnOf_89 v4 σ n tl))
  · refine ox_R_to 3 (Y := if v4 = (ox_c 1000000 0) then ox_ev m_She_columnOf (ox_zz ox_ms (n + 2)) 89 0 tl [ox_d, ox_d, ox_d, ox_d, .inl (v4), ox_d, ox_d] [] σ else ox_ev m_She_columnOf (ox_zz ox_ms (n + 2)) 33 0 tl [.inr (.inr (5, 0, 0)), .inl (v1), .inl (v2), ox_d, .inl (v4), .inl (v5), ox_d] [] σ) rfl ?_
    refine ox_R_if (fun _ => ?_) (fun _ => ?_)
    · exact ox_R_map ((L_She_columnOf_89 v4 σ n tl))
    · refine ox_R_to 4 (Y := ox_back m_She_columnOf 37 1 [] ((ox_zz ox_ms (n + 2)) 229 tl [.inr (.inr (5, 0, 0)), .inl (v5), .inl (v2)] σ) (fun pc9 x9 st9 σ9 => ox_ev m_She_columnOf (ox_zz ox_ms (n + 2)) pc9 0 tl (ox_kl (m_She_columnOf.2.2.1 pc9) (ox_xl x9 [.inr (.inr (5, 0, 0)), .inl (v1), .inl (v2), ox_d, .inl (v4), .inl (v5), ox_d])) st9 σ9)) rfl ?_
      refine ox_R_call (fc := (fun r : Int => ((.inl (some (.inl r)), σ) : ox_O))) (L_She_hasCell v5 v2 σ (n + 0) tl) (fun r1 => ?_)
      refine ox_R_of (Y := ox_ev m_She_columnOf (ox_zz ox_ms (n + 2)) 40 0 tl [.inr (.inr (5, 0, 0)), .inl (v1), .inl (v2), ox_d, .inl (v4), .inl (v5), ox_d] [.inl (r1)] σ) rfl ?_
      refine ox_R_to 1 (Y := if r1 = 0 then ox_ev m_She_columnOf (ox_zz ox_ms (n + 2)) 43 0 tl [.inr (.inr (5, 0, 0)), .inl (v1), .inl (v2), ox_d, .inl (v4), .inl (v5), ox_d] [] σ else ox_ev m_She_columnOf (ox_zz ox_ms (n + 2)) 46 0 tl [.inr (.inr (5, 0, 0)), .inl (v1), .inl (v2), ox_d, .inl (v4), .inl (v5), ox_d] [] σ) rfl ?_
      refine ox_R_if (fun _ => ?_) (fun _ => ?_)
      · refine ox_R_to 1 (Y := ox_ev m_She_columnOf (ox_zz ox_ms (n + 2)) 83 0 tl [.inr (.inr (5, 0, 0)), .inl (v1), .inl (v2), ox_d, .inl (v4), .inl (v5), ox_d] [] σ) rfl ?_
        exact (L_She_columnOf_83 v1 v2 v4 v5 σ n tl)
      · refine ox_R_to 4 (Y := ox_back m_She_columnOf 50 1 [] ((ox_zz ox_ms (n + 2)) 230 tl [.inr (.inr (5, 0, 0)), .inl (v5), .inl (v2)] σ) (fun pc9 x9 st9 σ9 => ox_ev m_She_columnOf (ox_zz ox_ms (n + 2)) pc9 0 tl (ox_kl (m_She_columnOf.2.2.1 pc9) (ox_xl x9 [.inr (.inr (5, 0, 0)), .inl (v1), .inl (v2), ox_d, .inl (v4), .inl (v5), ox_d])) st9 σ9)) rfl ?_
        refine ox_R_call (fc := (fun r : Int => ((.inl (some (.inl r)), σ) : ox_O))) (L_She_valueAt v5 v2 σ (n + 1) tl) (fun r2 => ?_)
        refine ox_R_of (Y := ox_ev m_She_columnOf (ox_zz ox_ms (n + 2)) 53 0 tl [.inr (.inr (5, 0, 0)), .inl (v1), .inl (v2), ox_d, .inl (v4), .inl (v5), ox_d] [.inl (r2)] σ) rfl ?_
        refine ox_R_to 4 (Y := if r2 = (ox_c 1000001 0) then ox_ev m_She_columnOf (ox_zz ox_ms (n + 2)) 69 0 tl [ox_d, ox_d, ox_d, ox_d, ox_d, ox_d, .inl (r2)] [] σ else ox_ev m_She_columnOf (ox_zz ox_ms (n + 2)) 62 0 tl [.inr (.inr (5, 0, 0)), .inl (v1), .inl (v2), ox_d, .inl (v4), .inl (v5), .inl (r2)] [] σ) rfl ?_
        refine ox_R_if (fun _ => ?_) (fun _ => ?_)
        · exact ox_R_map ((L_She_columnOf_69 r2 σ n tl))
        · refine ox_R_to 3 (Y := if r2 = (ox_c 1000000 0) then ox_ev m_She_columnOf (ox_zz ox_ms (n + 2)) 69 0 tl [ox_d, ox_d, ox_d, ox_d, ox_d, ox_d, .inl (r2)] [] σ else ox_ev m_She_columnOf (ox_zz ox_ms (n + 2)) 72 0 tl [.inr (.inr (5, 0, 0)), .inl (v1), .inl (v2), ox_d, .inl (v4), .inl (v5), .inl (r2)] [] σ) rfl ?_
          refine ox_R_if (fun _ => ?_) (fun _ => ?_)
          · exact ox_R_map ((L_She_columnOf_69 r2 σ n tl))
          · refine ox_R_to 4 (Y := ox_back m_She_columnOf 78 1 [] ((ox_zz ox_ms (n + 2)) 223 tl [.inl (v4), .inl (43), .inl (r2)] σ) (fun pc9 x9 st9 σ9 => ox_ev m_She_columnOf (ox_zz ox_ms (n + 2)) pc9 0 tl (ox_kl (m_She_columnOf.2.2.1 pc9) (ox_xl x9 [.inr (.inr (5, 0, 0)), .inl (v1), .inl (v2), ox_d, .inl (v4), .inl (v5), .inl (r2)])) st9 σ9)) rfl ?_
            refine ox_R_call (fc := (fun r : Int => ((.inl (some (.inl r)), σ) : ox_O))) (L_She_joined v4 43 r2 σ (n + 1) tl) (fun r3 => ?_)
            refine ox_R_of (Y := ox_ev m_She_columnOf (ox_zz ox_ms (n + 2)) 81 0 tl [.inr (.inr (5, 0, 0)), .inl (v1), .inl (v2), ox_d, .inl (v4), .inl (v5), .inl (r2)] [.inl (r3)] σ) rfl ?_
            refine ox_R_to 1 (Y := ox_ev m_She_columnOf (ox_zz ox_ms (n + 2)) 83 0 tl [.inr (.inr (5, 0, 0)), .inl (v1), .inl (v2), ox_d, .inl (r3), .inl (v5), ox_d] [] σ) rfl ?_
            exact (L_She_columnOf_83 v1 v2 r3 v5 σ n tl)
def F_She_columnOf  (a1 : Int) (a2 : Int) (σ : ox_H) : Option (Int) := (F_She_topOf a1 σ).bind fun r4 => (if r4 = (-1) then (some (ox_c 1000000 0)) else (J_She_columnOf_20 a1 a2 0 r4 σ))
theorem L_She_columnOf  (a1 : Int) (a2 : Int) (σ : ox_H) (n tl : Nat) : ox_R (fun r => some ((fun r : Int => ((.inl (some (.inl r)), σ) : ox_O)) r)) (F_She_columnOf a1 a2 σ) (ox_zz ox_ms (n + 3) 224 tl [.inr (.inr (5, 0, 0)), .inl (a1), .inl (a2)] σ) := by
  unfold F_She_columnOf
  refine ox_R_of (Y := ox_ev m_She_columnOf (ox_zz ox_ms (n + 2)) 0 0 tl [.inr (.inr (5, 0, 0)), .inl (a1), .inl (a2), ox_d, ox_d, ox_d, ox_d] [] σ) rfl ?_
  refine ox_R_to 3 (Y := ox_back m_She_columnOf 2 1 [] ((ox_zz ox_ms (n + 2)) 225 tl [.inr (.inr (5, 0, 0)), .inl (a1)] σ) (fun pc9 x9 st9 σ9 => ox_ev m_She_columnOf (ox_zz ox_ms (n + 2)) pc9 0 tl (ox_kl (m_She_columnOf.2.2.1 pc9) (ox_xl x9 [.inr (.inr (5, 0, 0)), .inl (a1), .inl (a2), ox_d, ox_d, ox_d, ox_d])) st9 σ9)) rfl ?_
  refine ox_R_call (fc := (fun r : Int => ((.inl (some (.inl r)), σ) : ox_O))) (L_She_topOf a1 σ (n + 1) tl) (fun r4 => ?_)
  refine ox_R_of (Y := ox_ev m_She_columnOf (ox_zz ox_ms (n + 2)) 5 0 tl [.inr (.inr (5, 0, 0)), .inl (a1), .inl (a2), ox_d, ox_d, ox_d, ox_d] [.inl (r4)] σ) rfl ?_
  refine ox_R_to 4 (Y := if r4 = (-1) then ox_ev m_She_columnOf (ox_zz ox_ms (n + 2)) 11 0 tl [.inr (.inr (5, 0, 0)), .inl (a1), .inl (a2), .inl (r4), ox_d, ox_d, ox_d] [] σ else ox_ev m_She_columnOf (ox_zz ox_ms (n + 2)) 14 0 tl [.inr (.inr (5, 0, 0)), .inl (a1), .inl (a2), .inl (r4), ox_d, ox_d, ox_d] [] σ) rfl ?_
  refine ox_R_if (fun _ => ?_) (fun _ => ?_)
  · refine ox_R_to 2 (Y := some (.inl (some (.inl (ox_c 1000000 0))), σ)) rfl ?_
    exact ox_R_ret rfl
  · refine ox_R_to 4 (Y := ox_ev m_She_columnOf (ox_zz ox_ms (n + 2)) 20 0 tl [.inr (.inr (5, 0, 0)), .inl (a1), .inl (a2), ox_d, .inl (0), .inl (r4), ox_d] [] σ) rfl ?_
    exact (L_She_columnOf_20 a1 a2 0 r4 σ n tl)
def J_She_blockLine_20  (s0 : Int) (σ : ox_H) : Option Int := some s0
theorem L_She_blockLine_20  (s0 : Int) (σ : ox_H) (n tl : Nat) : ox_R (fun r => some ((fun r : Int => ((.inl (some (.inl r)), σ) : ox_O)) r)) (J_She_blockLine_20 s0 σ) (ox_ev m_She_blockLine (ox_zz ox_ms (n + 0)) 20 0 tl [ox_d, ox_d] [.inl (s0)] σ) := by
  unfold J_She_blockLine_20
  refine ox_R_to 1 (Y := some (.inl (some (.inl (s0))), σ)) rfl ?_
  exact ox_R_ret rfl
def J_She_blockLine_19  (σ : ox_H) : Option Int := (J_She_blockLine_20 (-1) σ)
theorem L_She_blockLine_19  (σ : ox_H) (n tl : Nat) : ox_R (fun r => some ((fun r : Int => ((.inl (some (.inl r)), σ) : ox_O)) r)) (J_She_blockLine_19 σ) (ox_ev m_She_blockLine (ox_zz ox_ms (n + 0)) 19 0 tl [ox_d, ox_d] [] σ) := by
  unfold J_She_blockLine_19
  refine ox_R_to 1 (Y := ox_ev m_She_blockLine (ox_zz ox_ms (n + 0)) 20 0 tl [ox_d, ox_d] [.inl ((-1))] σ) rfl ?_
  exact (L_She_blockLine_20 (-1) σ n tl)
def F_She_blockLine  (a1 : Int) (σ : ox_H) : Option (Int) := if a1 < 0 then (J_She_blockLine_19 σ) else (if 26 ≤ a1 then (J_She_blockLine_19 σ) else (if 0 ≤ a1 ∧ a1.toNat < 26 then (J_She_blockLine_20 (σ 5 0 4 a1.toNat) σ) else none))
theorem L_She_blockLine  (a1 : Int) (σ : ox_H) (n tl : Nat) : ox_R (fun r => some ((fun r : Int => ((.inl (some (.inl r)), σ) : ox_O)) r)) (F_She_blockLine a1 σ) (ox_zz ox_ms (n + 1) 226 tl [.inr (.inr (5, 0, 0)), .inl (a1)] σ) := by
  unfold F_She_blockLine
  refine ox_R_of (Y := ox_ev m_She_blockLine (ox_zz ox_ms (n + 0)) 0 0 tl [.inr (.inr (5, 0, 0)), .inl (a1)] [] σ) rfl ?_
  refine ox_R_to 2 (Y := if a1 < 0 then ox_ev m_She_blockLine (ox_zz ox_ms (n + 0)) 19 0 tl [ox_d, ox_d] [] σ else ox_ev m_She_blockLine (ox_zz ox_ms (n + 0)) 4 0 tl [.inr (.inr (5, 0, 0)), .inl (a1)] [] σ) rfl ?_
  refine ox_R_if (fun _ => ?_) (fun _ => ?_)
  · exact (L_She_blockLine_19 σ n tl)
  · refine ox_R_to 3 (Y := if 26 ≤ a1 then ox_ev m_She_blockLine (ox_zz ox_ms (n + 0)) 19 0 tl [ox_d, ox_d] [] σ else ox_ev m_She_blockLine (ox_zz ox_ms (n + 0)) 10 0 tl [.inr (.inr (5, 0, 0)), .inl (a1)] [] σ) rfl ?_
    refine ox_R_if (fun _ => ?_) (fun _ => ?_)
    · exact (L_She_blockLine_19 σ n tl)
    · refine ox_R_to 4 (Y := if 0 ≤ a1 ∧ a1.toNat < 26 then ox_ev m_She_blockLine (ox_zz ox_ms (n + 0)) 16 0 tl [.inr (.inr (5, 0, 0)), .inl (a1)] [.inl (σ 5 0 4 a1.toNat)] σ else none) rfl ?_
      refine ox_R_if (fun _ => ?_) (fun _ => ox_R_none)
      refine ox_R_to 1 (Y := ox_ev m_She_blockLine (ox_zz ox_ms (n + 0)) 20 0 tl [ox_d, ox_d] [.inl (σ 5 0 4 a1.toNat)] σ) rfl ?_
      exact (L_She_blockLine_20 (σ 5 0 4 a1.toNat) σ n tl)
def J_She_termOf_13  (σ : ox_H) : Option Int := some (ox_c 1000000 0)
theorem L_She_termOf_13  (σ : ox_H) (n tl : Nat) : ox_R (fun r => some ((fun r : Int => ((.inl (some (.inl r)), σ) : ox_O)) r)) (J_She_termOf_13 σ) (ox_ev m_She_termOf (ox_zz ox_ms (n + 3)) 13 0 tl [ox_d, ox_d, ox_d, ox_d, ox_d, ox_d] [] σ) := by
  unfold J_She_termOf_13
  refine ox_R_to 2 (Y := some (.inl (some (.inl (ox_c 1000000 0))), σ)) rfl ?_
  exact ox_R_ret rfl
def J_She_termOf_145  (s0 : Int) (σ : ox_H) : Option Int := some s0
theorem L_She_termOf_145  (s0 : Int) (σ : ox_H) (n tl : Nat) : ox_R (fun r => some ((fun r : Int => ((.inl (some (.inl r)), σ) : ox_O)) r)) (J_She_termOf_145 s0 σ) (ox_ev m_She_termOf (ox_zz ox_ms (n + 3)) 145 0 tl [ox_d, ox_d, ox_d, ox_d, ox_d, ox_d] [.inl (s0)] σ) := by
  unfold J_She_termOf_145
  refine ox_R_to 1 (Y := some (.inl (some (.inl (s0))), σ)) rfl ?_
  exact ox_R_ret rfl
def F_She_termOf  (a1 : Int) (a2 : Int) (σ : ox_H) : Option (Int) := if a2 < 0 then (J_She_termOf_13 σ) else (if a2 < 720 then (if 0 ≤ a2 ∧ a2.toNat < 720 then (if 0 ≤ a2 ∧ a2.toNat < 720 then (if 0 ≤ a2 ∧ a2.toNat < 720 then (if (σ 6 0 4 a2.toNat) = ((0 : Nat) : Int) then (some (σ 6 0 6 a2.toNat)) else if (σ 6 0 4 a2.toNat) = ((1 : Nat) : Int) then ((F_She_topOf a1 σ).bind fun r1 => ((F_She_rowLine r1 (σ 6 0 6 a2.toNat) σ).bind fun r2 => ((F_She_valueAt r2 (σ 6 0 5 a2.toNat) σ).bind fun r3 => (some r3)))) else if (σ 6 0 4 a2.toNat) = ((2 : Nat) : Int) then ((F_She_columnOf a1 (σ 6 0 5 a2.toNat) σ).bind fun r4 => (some r4)) else if (σ 6 0 4 a2.toNat) = ((3 : Nat) : Int) then ((F_She_blockLine (σ 6 0 5 a2.toNat) σ).bind fun r5 => ((F_She_valueAt r5 0 σ).bind fun r6 => (some r6))) else ((F_Otl_ownerOf a1 σ).bind fun r7 => ((F_Otl_inherited r7 (σ 6 0 5 a2.toNat) σ).bind fun r8 => (if r8 = (-1) then (J_She_termOf_145 (ox_c 1000000 0) σ) else (J_She_termOf_145 r8 σ))))) else none) else none) else none) else (J_She_termOf_13 σ))
theorem L_She_termOf  (a1 : Int) (a2 : Int) (σ : ox_H) (n tl : Nat) : ox_R (fun r => some ((fun r : Int => ((.inl (some (.inl r)), σ) : ox_O)) r)) (F_She_termOf a1 a2 σ) (ox_zz ox_ms (n + 4) 222 tl [.inr (.inr (5, 0, 0)), .inl (a1), .inl (a2)] σ) := by
  unfold F_She_termOf
  refine ox_R_of (Y := ox_ev m_She_termOf (ox_zz ox_ms (n + 3)) 0 0 tl [.inr (.inr (5, 0, 0)), .inl (a1), .inl (a2), ox_d, ox_d, ox_d] [] σ) rfl ?_
  refine ox_R_to 2 (Y := if a2 < 0 then ox_ev m_She_termOf (ox_zz ox_ms (n + 3)) 13 0 tl [ox_d, ox_d, ox_d, ox_d, ox_d, ox_d] [] σ else ox_ev m_She_termOf (ox_zz ox_ms (n + 3)) 4 0 tl [.inr (.inr (5, 0, 0)), .inl (a1), .inl (a2), ox_d, ox_d, ox_d] [] σ) rfl ?_
  refine ox_R_if (fun _ => ?_) (fun _ => ?_)
  · exact (L_She_termOf_13 σ n tl)
  · refine ox_R_to 5 (Y := if a2 < 720 then ox_ev m_She_termOf (ox_zz ox_ms (n + 3)) 16 0 tl [.inr (.inr (5, 0, 0)), .inl (a1), .inl (a2), ox_d, ox_d, ox_d] [] σ else ox_ev m_She_termOf (ox_zz ox_ms (n + 3)) 13 0 tl [ox_d, ox_d, ox_d, ox_d, ox_d, ox_d] [] σ) rfl ?_
    refine ox_R_if (fun _ => ?_) (fun _ => ?_)
    · refine ox_R_to 5 (Y := if 0 ≤ a2 ∧ a2.toNat < 720 then ox_ev m_She_termOf (ox_zz ox_ms (n + 3)) 25 0 tl [.inr (.inr (5, 0, 0)), .inl (a1), .inl (a2), ox_d, ox_d, ox_d] [.inl (σ 6 0 5 a2.toNat)] σ else none) rfl ?_
      refine ox_R_if (fun _ => ?_) (fun _ => ox_R_none)
      refine ox_R_to 6 (Y := if 0 ≤ a2 ∧ a2.toNat < 720 then ox_ev m_She_termOf (ox_zz ox_ms (n + 3)) 35 0 tl [.inr (.inr (5, 0, 0)), .inl (a1), .inl (a2), .inl (σ 6 0 5 a2.toNat), ox_d, ox_d] [.inl (σ 6 0 6 a2.toNat)] σ else none) rfl ?_
      refine ox_R_if (fun _ => ?_) (fun _ => ox_R_none)
      refine ox_R_to 6 (Y := if 0 ≤ a2 ∧ a2.toNat < 720 then ox_ev m_She_termOf (ox_zz ox_ms (n + 3)) 46 0 tl [.inr (.inr (5, 0, 0)), .inl (a1), .inl (a2), .inl (σ 6 0 5 a2.toNat), .inl (σ 6 0 6 a2.toNat), ox_d] [.inl (σ 6 0 4 a2.toNat)] σ else none) rfl ?_
      refine ox_R_if (fun _ => ?_) (fun _ => ox_R_none)
      refine ox_R_to 1 (Y := if (σ 6 0 4 a2.toNat) = ((0 : Nat) : Int) then ox_ev m_She_termOf (ox_zz ox_ms (n + 3)) 76 0 tl [.inr (.inr (5, 0, 0)), .inl (a1), .inl (a2), .inl (σ 6 0 5 a2.toNat), .inl (σ 6 0 6 a2.toNat), ox_d] [] σ else if (σ 6 0 4 a2.toNat) = ((1 : Nat) : Int) then ox_ev m_She_termOf (ox_zz ox_ms (n + 3)) 79 0 tl [.inr (.inr (5, 0, 0)), .inl (a1), .inl (a2), .inl (σ 6 0 5 a2.toNat), .inl (σ 6 0 6 a2.toNat), ox_d] [] σ else if (σ 6 0 4 a2.toNat) = ((2 : Nat) : Int) then ox_ev m_She_termOf (ox_zz ox_ms (n + 3)) 96 0 tl [.inr (.inr (5, 0, 0)), .inl (a1), .inl (a2), .inl (σ 6 0 5 a2.toNat), .inl (σ 6 0 6 a2.toNat), ox_d] [] σ else if (σ 6 0 4 a2.toNat) = ((3 : Nat) : Int) then ox_ev m_She_termOf (ox_zz ox_ms (n + 3)) 103 0 tl [.inr (.inr (5, 0, 0)), .inl (a1), .inl (a2), .inl (σ 6 0 5 a2.toNat), .inl (σ 6 0 6 a2.toNat), ox_d] [] σ else ox_ev m_She_termOf (ox_zz ox_ms (n + 3)) 114 0 tl [.inr (.inr (5, 0, 0)), .inl (a1), .inl (a2), .inl (σ 6 0 5 a2.toNat), .inl (σ 6 0 6 a2.toNat), ox_d] [] σ) rfl ?_
      refine ox_R_if (fun _ => ?_) (fun _ => ?_)
      · refine ox_R_to 2 (Y := some (.inl (some (.inl (σ 6 0 6 a2.toNat))), σ)) rfl ?_
        exact ox_R_ret rfl
      refine ox_R_if (fun _ => ?_) (fun _ => ?_)
      · refine ox_R_to 5 (Y := ox_back m_She_termOf 83 1 [.inr (.inr (5, 0, 0)), .inr (.inr (5, 0, 0))] ((ox_zz ox_ms (n + 3)) 225 tl [.inr (.inr (5, 0, 0)), .inl (a1)] σ) (fun pc9 x9 st9 σ9 => ox_ev m_She_termOf (ox_zz ox_ms (n + 3)) pc9 0 tl (ox_kl (m_She_termOf.2.2.1 pc9) (ox_xl x9 [.inr (.inr (5, 0, 0)), .inl (a1), .inl (a2), .inl (σ 6 0 5 a2.toNat), .inl (σ 6 0 6 a2.toNat), ox_d])) st9 σ9)) rfl ?_
        refine ox_R_call (fc := (fun r : Int => ((.inl (some (.inl r)), σ) : ox_O))) (L_She_topOf a1 σ (n + 2) tl) (fun r1 => ?_)
        refine ox_R_of (Y := ox_ev m_She_termOf (ox_zz ox_ms (n + 3)) 86 0 tl [.inr (.inr (5, 0, 0)), .inl (a1), .inl (a2), .inl (σ 6 0 5 a2.toNat), .inl (σ 6 0 6 a2.toNat), ox_d] [.inl (r1), .inr (.inr (5, 0, 0)), .inr (.inr (5, 0, 0))] σ) rfl ?_
        refine ox_R_to 2 (Y := ox_back m_She_termOf 88 1 [.inr (.inr (5, 0, 0))] ((ox_zz ox_ms (n + 3)) 228 tl [.inr (.inr (5, 0, 0)), .inl (r1), .inl (σ 6 0 6 a2.toNat)] σ) (fun pc9 x9 st9 σ9 => ox_ev m_She_termOf (ox_zz ox_ms (n + 3)) pc9 0 tl (ox_kl (m_She_termOf.2.2.1 pc9) (ox_xl x9 [.inr (.inr (5, 0, 0)), .inl (a1), .inl (a2), .inl (σ 6 0 5 a2.toNat), .inl (σ 6 0 6 a2.toNat), ox_d])) st9 σ9)) rfl ?_
        refine ox_R_call (fc := (fun r : Int => ((.inl (some (.inl r)), σ) : ox_O))) (L_She_rowLine r1 (σ 6 0 6 a2.toNat) σ (n + 1) tl) (fun r2 => ?_)
        refine ox_R_of (Y := ox_ev m_She_termOf (ox_zz ox_ms (n + 3)) 91 0 tl [.inr (.inr (5, 0, 0)), .inl (a1), .inl (a2), .inl (σ 6 0 5 a2.toNat), .inl (σ 6 0 6 a2.toNat), ox_d] [.inl (r2), .inr (.inr (5, 0, 0))] σ) rfl ?_
        refine ox_R_to 2 (Y := ox_back m_She_termOf 92 1 [] ((ox_zz ox_ms (n + 3)) 230 tl [.inr (.inr (5, 0, 0)), .inl (r2), .inl (σ 6 0 5 a2.toNat)] σ) (fun pc9 x9 st9 σ9 => ox_ev m_She_termOf (ox_zz ox_ms (n + 3)) pc9 0 tl (ox_kl (m_She_termOf.2.2.1 pc9) (ox_xl x9 [.inr (.inr (5, 0, 0)), .inl (a1), .inl (a2), .inl (σ 6 0 5 a2.toNat), .inl (σ 6 0 6 a2.toNat), ox_d])) st9 σ9)) rfl ?_
        refine ox_R_call (fc := (fun r : Int => ((.inl (some (.inl r)), σ) : ox_O))) (L_She_valueAt r2 (σ 6 0 5 a2.toNat) σ (n + 2) tl) (fun r3 => ?_)
        refine ox_R_of (Y := ox_ev m_She_termOf (ox_zz ox_ms (n + 3)) 95 0 tl [.inr (.inr (5, 0, 0)), .inl (a1), .inl (a2), .inl (σ 6 0 5 a2.toNat), .inl (σ 6 0 6 a2.toNat), ox_d] [.inl (r3)] σ) rfl ?_
        refine ox_R_to 1 (Y := some (.inl (some (.inl (r3))), σ)) rfl ?_
        exact ox_R_ret rfl
      refine ox_R_if (fun _ => ?_) (fun _ => ?_)
      · refine ox_R_to 4 (Y := ox_back m_She_termOf 99 1 [] ((ox_zz ox_ms (n + 3)) 224 tl [.inr (.inr (5, 0, 0)), .inl (a1), .inl (σ 6 0 5 a2.toNat)] σ) (fun pc9 x9 st9 σ9 => ox_ev m_She_termOf (ox_zz ox_ms (n + 3)) pc9 0 tl (ox_kl (m_She_termOf.2.2.1 pc9) (ox_xl x9 [.inr (.inr (5, 0, 0)), .inl (a1), .inl (a2), .inl (σ 6 0 5 a2.toNat), .inl (σ 6 0 6 a2.toNat), ox_d])) st9 σ9)) rfl ?_
        refine ox_R_call (fc := (fun r : Int => ((.inl (some (.inl r)), σ) : ox_O))) (L_She_columnOf a1 (σ 6 0 5 a2.toNat) σ (n + 0) tl) (fun r4 => ?_)
        refine ox_R_of (Y := ox_ev m_She_termOf (ox_zz ox_ms (n + 3)) 102 0 tl [.inr (.inr (5, 0, 0)), .inl (a1), .inl (a2), .inl (σ 6 0 5 a2.toNat), .inl (σ 6 0 6 a2.toNat), ox_d] [.inl (r4)] σ) rfl ?_
        refine ox_R_to 1 (Y := some (.inl (some (.inl (r4))), σ)) rfl ?_
        exact ox_R_ret rfl
      refine ox_R_if (fun _ => ?_) (fun _ => ?_)
      · refine ox_R_to 4 (Y := ox_back m_She_termOf 106 1 [.inr (.inr (5, 0, 0))] ((ox_zz ox_ms (n + 3)) 226 tl [.inr (.inr (5, 0, 0)), .inl (σ 6 0 5 a2.toNat)] σ) (fun pc9 x9 st9 σ9 => ox_ev m_She_termOf (ox_zz ox_ms (n + 3)) pc9 0 tl (ox_kl (m_She_termOf.2.2.1 pc9) (ox_xl x9 [.inr (.inr (5, 0, 0)), .inl (a1), .inl (a2), .inl (σ 6 0 5 a2.toNat), .inl (σ 6 0 6 a2.toNat), ox_d])) st9 σ9)) rfl ?_
        refine ox_R_call (fc := (fun r : Int => ((.inl (some (.inl r)), σ) : ox_O))) (L_She_blockLine (σ 6 0 5 a2.toNat) σ (n + 2) tl) (fun r5 => ?_)
        refine ox_R_of (Y := ox_ev m_She_termOf (ox_zz ox_ms (n + 3)) 109 0 tl [.inr (.inr (5, 0, 0)), .inl (a1), .inl (a2), .inl (σ 6 0 5 a2.toNat), .inl (σ 6 0 6 a2.toNat), ox_d] [.inl (r5), .inr (.inr (5, 0, 0))] σ) rfl ?_
        refine ox_R_to 2 (Y := ox_back m_She_termOf 110 1 [] ((ox_zz ox_ms (n + 3)) 230 tl [.inr (.inr (5, 0, 0)), .inl (r5), .inl (0)] σ) (fun pc9 x9 st9 σ9 => ox_ev m_She_termOf (ox_zz ox_ms (n + 3)) pc9 0 tl (ox_kl (m_She_termOf.2.2.1 pc9) (ox_xl x9 [.inr (.inr (5, 0, 0)), .inl (a1), .inl (a2), .inl (σ 6 0 5 a2.toNat), .inl (σ 6 0 6 a2.toNat), ox_d])) st9 σ9)) rfl ?_
        refine ox_R_call (fc := (fun r : Int => ((.inl (some (.inl r)), σ) : ox_O))) (L_She_valueAt r5 0 σ (n + 2) tl) (fun r6 => ?_)
        refine ox_R_of (Y := ox_ev m_She_termOf (ox_zz ox_ms (n + 3)) 113 0 tl [.inr (.inr (5, 0, 0)), .inl (a1), .inl (a2), .inl (σ 6 0 5 a2.toNat), .inl (σ 6 0 6 a2.toNat), ox_d] [.inl (r6)] σ) rfl ?_
        refine ox_R_to 1 (Y := some (.inl (some (.inl (r6))), σ)) rfl ?_
        exact ox_R_ret rfl
      · refine ox_R_to 6 (Y := ox_back m_She_termOf 123 3 [.inr (.inr (2, 0, 0))] ((ox_zz ox_ms (n + 3)) 173 tl [.inr (.inr (2, 0, 0)), .inl (a1)] σ) (fun pc9 x9 st9 σ9 => ox_ev m_She_termOf (ox_zz ox_ms (n + 3)) pc9 0 tl (ox_kl (m_She_termOf.2.2.1 pc9) (ox_xl x9 [.inr (.inr (5, 0, 0)), .inl (a1), .inl (a2), .inl (σ 6 0 5 a2.toNat), .inl (σ 6 0 6 a2.toNat), ox_d])) st9 σ9)) rfl ?_
        refine ox_R_call (fc := (fun r : Int => ((.inl (some (.inl r)), σ) : ox_O))) (L_Otl_ownerOf a1 σ (n + 2) tl) (fun r7 => ?_)
        refine ox_R_of (Y := ox_ev m_She_termOf (ox_zz ox_ms (n + 3)) 126 0 tl [.inr (.inr (5, 0, 0)), .inl (a1), .inl (a2), .inl (σ 6 0 5 a2.toNat), .inl (σ 6 0 6 a2.toNat), ox_d] [.inl (r7), .inr (.inr (2, 0, 0))] σ) rfl ?_
        refine ox_R_to 2 (Y := ox_back m_She_termOf 127 3 [] ((ox_zz ox_ms (n + 3)) 188 tl [.inr (.inr (2, 0, 0)), .inl (r7), .inl (σ 6 0 5 a2.toNat)] σ) (fun pc9 x9 st9 σ9 => ox_ev m_She_termOf (ox_zz ox_ms (n + 3)) pc9 0 tl (ox_kl (m_She_termOf.2.2.1 pc9) (ox_xl x9 [.inr (.inr (5, 0, 0)), .inl (a1), .inl (a2), .inl (σ 6 0 5 a2.toNat), .inl (σ 6 0 6 a2.toNat), ox_d])) st9 σ9)) rfl ?_
        refine ox_R_call (fc := (fun r : Int => ((.inl (some (.inl r)), σ) : ox_O))) (L_Otl_inherited r7 (σ 6 0 5 a2.toNat) σ (n + 0) tl) (fun r8 => ?_)
        refine ox_R_of (Y := ox_ev m_She_termOf (ox_zz ox_ms (n + 3)) 130 0 tl [.inr (.inr (5, 0, 0)), .inl (a1), .inl (a2), .inl (σ 6 0 5 a2.toNat), .inl (σ 6 0 6 a2.toNat), ox_d] [.inl (r8)] σ) rfl ?_
        refine ox_R_to 4 (Y := if r8 = (-1) then ox_ev m_She_termOf (ox_zz ox_ms (n + 3)) 138 0 tl [.inr (.inr (5, 0, 0)), .inl (a1), .inl (a2), .inl (σ 6 0 5 a2.toNat), .inl (σ 6 0 6 a2.toNat), .inl (r8)] [] σ else ox_ev m_She_termOf (ox_zz ox_ms (n + 3)) 143 0 tl [.inr (.inr (5, 0, 0)), .inl (a1), .inl (a2), .inl (σ 6 0 5 a2.toNat), .inl (σ 6 0 6 a2.toNat), .inl (r8)] [] σ) rfl ?_
        refine ox_R_if (fun _ => ?_) (fun _ => ?_)
        · refine ox_R_to 2 (Y := ox_ev m_She_termOf (ox_zz ox_ms (n + 3)) 145 0 tl [ox_d, ox_d, ox_d, ox_d, ox_d, ox_d] [.inl (ox_c 1000000 0)] σ) rfl ?_
          exact (L_She_termOf_145 (ox_c 1000000 0) σ n tl)
        · refine ox_R_to 1 (Y := ox_ev m_She_termOf (ox_zz ox_ms (n + 3)) 145 0 tl [ox_d, ox_d, ox_d, ox_d, ox_d, ox_d] [.inl (r8)] σ) rfl ?_
          exact (L_She_termOf_145 r8 σ n tl)
    · exact (L_She_termOf_13 σ n tl)
def J_Sum_joinOf_23  (s0 : Int) (σ : ox_H) : Option Int := some (s0 % 65536)
theorem L_Sum_joinOf_23  (s0 : Int) (σ : ox_H) (n tl : Nat) : ox_R (fun r => some ((fun r : Int => ((.inl (some (.inl r)), σ) : ox_O)) r)) (J_Sum_joinOf_23 s0 σ) (ox_ev m_Sum_joinOf (ox_zz ox_ms (n + 0)) 23 0 tl [ox_d, ox_d] [.inl (s0)] σ) := by
  unfold J_Sum_joinOf_23
  refine ox_R_to 1 (Y := some (.inl (some (.inl (s0 % 65536))), σ)) rfl ?_
  exact ox_R_ret rfl
def J_Sum_joinOf_22  (σ : ox_H) : Option Int := (J_Sum_joinOf_23 0 σ)
theorem L_Sum_joinOf_22  (σ : ox_H) (n tl : Nat) : ox_R (fun r => some ((fun r : Int => ((.inl (some (.inl r)), σ) : ox_O)) r)) (J_Sum_joinOf_22 σ) (ox_ev m_Sum_joinOf (ox_zz ox_ms (n + 0)) 22 0 tl [ox_d, ox_d] [] σ) := by
  unfold J_Sum_joinOf_22
  refine ox_R_to 1 (Y := ox_ev m_Sum_joinOf (ox_zz ox_ms (n + 0)) 23 0 tl [ox_d, ox_d] [.inl (0)] σ) rfl ?_
  exact (L_Sum_joinOf_23 0 σ n tl)
def F_Sum_joinOf  (a1 : Int) (σ : ox_H) : Option (Int) := if a1 < 0 then (J_Sum_joinOf_22 σ) else (if 720 ≤ a1 then (J_Sum_joinOf_22 σ) else (if 0 ≤ a1 ∧ a1.toNat < 720 then (J_Sum_joinOf_23 (σ 6 0 3 a1.toNat) σ) else none))
theorem L_Sum_joinOf  (a1 : Int) (σ : ox_H) (n tl : Nat) : ox_R (fun r => some ((fun r : Int => ((.inl (some (.inl r)), σ) : ox_O)) r)) (F_Sum_joinOf a1 σ) (ox_zz ox_ms (n + 1) 234 tl [.inr (.inr (6, 0, 0)), .inl (a1)] σ) := by
  unfold F_Sum_joinOf
  refine ox_R_of (Y := ox_ev m_Sum_joinOf (ox_zz ox_ms (n + 0)) 0 0 tl [.inr (.inr (6, 0, 0)), .inl (a1)] [] σ) rfl ?_
  refine ox_R_to 2 (Y := if a1 < 0 then ox_ev m_Sum_joinOf (ox_zz ox_ms (n + 0)) 22 0 tl [ox_d, ox_d] [] σ else ox_ev m_Sum_joinOf (ox_zz ox_ms (n + 0)) 4 0 tl [.inr (.inr (6, 0, 0)), .inl (a1)] [] σ) rfl ?_
  refine ox_R_if (fun _ => ?_) (fun _ => ?_)
  · exact (L_Sum_joinOf_22 σ n tl)
  · refine ox_R_to 5 (Y := if 720 ≤ a1 then ox_ev m_Sum_joinOf (ox_zz ox_ms (n + 0)) 22 0 tl [ox_d, ox_d] [] σ else ox_ev m_Sum_joinOf (ox_zz ox_ms (n + 0)) 13 0 tl [.inr (.inr (6, 0, 0)), .inl (a1)] [] σ) rfl ?_
    refine ox_R_if (fun _ => ?_) (fun _ => ?_)
    · exact (L_Sum_joinOf_22 σ n tl)
    · refine ox_R_to 4 (Y := if 0 ≤ a1 ∧ a1.toNat < 720 then ox_ev m_Sum_joinOf (ox_zz ox_ms (n + 0)) 19 0 tl [.inr (.inr (6, 0, 0)), .inl (a1)] [.inl (σ 6 0 3 a1.toNat)] σ else none) rfl ?_
      refine ox_R_if (fun _ => ?_) (fun _ => ox_R_none)
      refine ox_R_to 1 (Y := ox_ev m_Sum_joinOf (ox_zz ox_ms (n + 0)) 23 0 tl [ox_d, ox_d] [.inl (σ 6 0 3 a1.toNat)] σ) rfl ?_
      exact (L_Sum_joinOf_23 (σ 6 0 3 a1.toNat) σ n tl)
def J_She_sumOf_90  (v4 : Int) (σ : ox_H) : Option Int := some v4
theorem L_She_sumOf_90  (v4 : Int) (σ : ox_H) (n tl : Nat) : ox_R (fun r => some ((fun r : Int => ((.inl (some (.inl r)), σ) : ox_O)) r)) (J_She_sumOf_90 v4 σ) (ox_ev m_She_sumOf (ox_zz ox_ms (n + 4)) 90 0 tl [ox_d, ox_d, ox_d, ox_d, .inl (v4), ox_d, ox_d] [] σ) := by
  unfold J_She_sumOf_90
  refine ox_R_to 2 (Y := some (.inl (some (.inl (v4))), σ)) rfl ?_
  exact ox_R_ret rfl
def J_She_sumOf_63  (v6 : Int) (σ : ox_H) : Option Int := some v6
theorem L_She_sumOf_63  (v6 : Int) (σ : ox_H) (n tl : Nat) : ox_R (fun r => some ((fun r : Int => ((.inl (some (.inl r)), σ) : ox_O)) r)) (J_She_sumOf_63 v6 σ) (ox_ev m_She_sumOf (ox_zz ox_ms (n + 4)) 63 0 tl [ox_d, ox_d, ox_d, ox_d, ox_d, ox_d, .inl (v6)] [] σ) := by
  unfold J_She_sumOf_63
  refine ox_R_to 2 (Y := some (.inl (some (.inl (v6))), σ)) rfl ?_
  exact ox_R_ret rfl
def B_She_sumOf_27  (v2 : Int) (v3 : Int) (σ : ox_H) : (Int × Int) → Option (((Int × Int) ⊕ Int)) := fun (v4, v5) => if v3 ≤ v5 then ((J_She_sumOf_90 v4 σ).map .inr) else (if v4 = (ox_c 1000000 0) then ((J_She_sumOf_90 v4 σ).map .inr) else ((F_She_termOf v2 v5 σ).bind fun r1 => (if r1 = (ox_c 1000001 0) then ((J_She_sumOf_63 r1 σ).map .inr) else (if r1 = (ox_c 1000000 0) then ((J_She_sumOf_63 r1 σ).map .inr) else ((F_Sum_joinOf v5 σ).bind fun r2 => ((F_She_joined v4 r2 r1 σ).bind fun r3 => (some (.inl (r3, ox_w (v5 + 1))))))))))
def J_She_sumOf_27  (v2 : Int) (v3 : Int) (v4 : Int) (v5 : Int) (σ : ox_H) : Option (Int) := ox_lp (B_She_sumOf_27 v2 v3 σ) ox_fu (v4, v5)
theorem L_She_sumOf_27  (v2 : Int) (v3 : Int) (v4 : Int) (v5 : Int) (σ : ox_H) (n tl : Nat) : ox_R (fun r => some ((fun r : Int => ((.inl (some (.inl r)), σ) : ox_O)) r)) (J_She_sumOf_27 v2 v3 v4 v5 σ) (ox_ev m_She_sumOf (ox_zz ox_ms (n + 4)) 27 0 tl [.inr (.inr (5, 0, 0)), ox_d, .inl (v2), .inl (v3), .inl (v4), .inl (v5), ox_d] [] σ) := by
  unfold J_She_sumOf_27
  refine ox_R_lp (ψ := (fun (s : Int × Int) => match s with | (v4, v5) => ox_ev m_She_sumOf (ox_zz ox_ms (n + 4)) 27 0 tl [.inr (.inr (5, 0, 0)), ox_d, .inl (v2), .inl (v3), .inl (v4), .inl (v5), ox_d] [] σ)) ?_ ox_fu (v4, v5)
  intro s
  obtain ⟨v4, v5⟩ := s
  unfold B_She_sumOf_27
  refine ox_R_to 3 (Y := if v3 ≤ v5 then ox_ev m_She_sumOf (ox_zz ox_ms (n + 4)) 90 0 tl [ox_d, ox_d, ox_d, ox_d, .inl (v4), ox_d, ox_d] [] σ else ox_ev m_She_sumOf (ox_zz ox_ms (n + 4)) 33 0 tl [.inr (.inr (5, 0, 0)), ox_d, .inl (v2), .inl (v3), .inl (v4), .inl (v5), ox_d] [] σ) rfl ?_
  refine ox_R_if (fun _ => ?_) (fun _ => ?_)
  · exact ox_R_map ((L_She_sumOf_90 v4 σ n tl))
  · refine ox_R_to 3 (Y := if v4 = (ox_c 1000000 0) then ox_ev m_She_sumOf (ox_zz ox_ms (n + 4)) 90 0 tl [ox_d, ox_d, ox_d, ox_d, .inl (v4), ox_d, ox_d] [] σ else ox_ev m_She_sumOf (ox_zz ox_ms (n + 4)) 40 0 tl [.inr (.inr (5, 0, 0)), ox_d, .inl (v2), .inl (v3), .inl (v4), .inl (v5), ox_d] [] σ) rfl ?_
    refine ox_R_if (fun _ => ?_) (fun _ => ?_)
    · exact ox_R_map ((L_She_sumOf_90 v4 σ n tl))
    · refine ox_R_to 4 (Y := ox_back m_She_sumOf 44 1 [] ((ox_zz ox_ms (n + 4)) 222 tl [.inr (.inr (5, 0, 0)), .inl (v2), .inl (v5)] σ) (fun pc9 x9 st9 σ9 => ox_ev m_She_sumOf (ox_zz ox_ms (n + 4)) pc9 0 tl (ox_kl (m_She_sumOf.2.2.1 pc9) (ox_xl x9 [.inr (.inr (5, 0, 0)), ox_d, .inl (v2), .inl (v3), .inl (v4), .inl (v5), ox_d])) st9 σ9)) rfl ?_
      refine ox_R_call (fc := (fun r : Int => ((.inl (some (.inl r)), σ) : ox_O))) (L_She_termOf v2 v5 σ (n + 0) tl) (fun r1 => ?_)
      refine ox_R_of (Y := ox_ev m_She_sumOf (ox_zz ox_ms (n + 4)) 47 0 tl [.inr (.inr (5, 0, 0)), ox_d, .inl (v2), .inl (v3), .inl (v4), .inl (v5), ox_d] [.inl (r1)] σ) rfl ?_
      refine ox_R_to 4 (Y := if r1 = (ox_c 1000001 0) then ox_ev m_She_sumOf (ox_zz ox_ms (n + 4)) 63 0 tl [ox_d, ox_d, ox_d, ox_d, ox_d, ox_d, .inl (r1)] [] σ else ox_ev m_She_sumOf (ox_zz ox_ms (n + 4)) 56 0 tl [.inr (.inr (5, 0, 0)), ox_d, .inl (v2), .inl (v3), .inl (v4), .inl (v5), .inl (r1)] [] σ) rfl ?_
      refine ox_R_if (fun _ => ?_) (fun _ => ?_)
      · exact ox_R_map ((L_She_sumOf_63 r1 σ n tl))
      · refine ox_R_to 3 (Y := if r1 = (ox_c 1000000 0) then ox_ev m_She_sumOf (ox_zz ox_ms (n + 4)) 63 0 tl [ox_d, ox_d, ox_d, ox_d, ox_d, ox_d, .inl (r1)] [] σ else ox_ev m_She_sumOf (ox_zz ox_ms (n + 4)) 66 0 tl [.inr (.inr (5, 0, 0)), ox_d, .inl (v2), .inl (v3), .inl (v4), .inl (v5), .inl (r1)] [] σ) rfl ?_
        refine ox_R_if (fun _ => ?_) (fun _ => ?_)
        · exact ox_R_map ((L_She_sumOf_63 r1 σ n tl))
        · refine ox_R_to 5 (Y := ox_back m_She_sumOf 74 3 [.inl (v4)] ((ox_zz ox_ms (n + 4)) 234 tl [.inr (.inr (6, 0, 0)), .inl (v5)] σ) (fun pc9 x9 st9 σ9 => ox_ev m_She_sumOf (ox_zz ox_ms (n + 4)) pc9 0 tl (ox_kl (m_She_sumOf.2.2.1 pc9) (ox_xl x9 [.inr (.inr (5, 0, 0)), ox_d, .inl (v2), .inl (v3), .inl (v4), .inl (v5), .inl (r1)])) st9 σ9)) rfl ?_
          refine ox_R_call (fc := (fun r : Int => ((.inl (some (.inl r)), σ) : ox_O))) (L_Sum_joinOf v5 σ (n + 3) tl) (fun r2 => ?_)
          refine ox_R_of (Y := ox_ev m_She_sumOf (ox_zz ox_ms (n + 4)) 77 0 tl [.inr (.inr (5, 0, 0)), ox_d, .inl (v2), .inl (v3), .inl (v4), .inl (v5), .inl (r1)] [.inl (r2), .inl (v4)] σ) rfl ?_
          refine ox_R_to 2 (Y := ox_back m_She_sumOf 79 1 [] ((ox_zz ox_ms (n + 4)) 223 tl [.inl (v4), .inl (r2), .inl (r1)] σ) (fun pc9 x9 st9 σ9 => ox_ev m_She_sumOf (ox_zz ox_ms (n + 4)) pc9 0 tl (ox_kl (m_She_sumOf.2.2.1 pc9) (ox_xl x9 [.inr (.inr (5, 0, 0)), ox_d, .inl (v2), .inl (v3), .inl (v4), .inl (v5), .inl (r1)])) st9 σ9)) rfl ?_
          refine ox_R_call (fc := (fun r : Int => ((.inl (some (.inl r)), σ) : ox_O))) (L_She_joined v4 r2 r1 σ (n + 3) tl) (fun r3 => ?_)
          refine ox_R_of (Y := ox_ev m_She_sumOf (ox_zz ox_ms (n + 4)) 82 0 tl [.inr (.inr (5, 0, 0)), ox_d, .inl (v2), .inl (v3), .inl (v4), .inl (v5), .inl (r1)] [.inl (r3)] σ) rfl ?_
          refine ox_R_to 3 (Y := ox_ev m_She_sumOf (ox_zz ox_ms (n + 4)) 27 0 tl [.inr (.inr (5, 0, 0)), ox_d, .inl (v2), .inl (v3), .inl (r3), .inl (ox_w (v5 + 1)), ox_d] [] σ) rfl ?_
          exact ox_R_ret rfl
def F_She_sumOf  (a1 : Int) (σ : ox_H) : Option (Int) := (F_Sum_end a1 σ).bind fun r4 => ((F_Sum_from a1 σ).bind fun r5 => (J_She_sumOf_27 (ox_w (Int.tdiv a1 12)) r4 0 r5 σ))
theorem L_She_sumOf  (a1 : Int) (σ : ox_H) (n tl : Nat) : ox_R (fun r => some ((fun r : Int => ((.inl (some (.inl r)), σ) : ox_O)) r)) (F_She_sumOf a1 σ) (ox_zz ox_ms (n + 5) 221 tl [.inr (.inr (5, 0, 0)), .inl (a1)] σ) := by
  unfold F_She_sumOf
  refine ox_R_of (Y := ox_ev m_She_sumOf (ox_zz ox_ms (n + 4)) 0 0 tl [.inr (.inr (5, 0, 0)), .inl (a1), ox_d, ox_d, ox_d, ox_d, ox_d] [] σ) rfl ?_
  refine ox_R_to 8 (Y := ox_back m_She_sumOf 10 3 [] ((ox_zz ox_ms (n + 4)) 237 tl [.inr (.inr (6, 0, 0)), .inl (a1)] σ) (fun pc9 x9 st9 σ9 => ox_ev m_She_sumOf (ox_zz ox_ms (n + 4)) pc9 0 tl (ox_kl (m_She_sumOf.2.2.1 pc9) (ox_xl x9 [.inr (.inr (5, 0, 0)), .inl (a1), .inl (ox_w (Int.tdiv a1 12)), ox_d, ox_d, ox_d, ox_d])) st9 σ9)) rfl ?_
  refine ox_R_call (fc := (fun r : Int => ((.inl (some (.inl r)), σ) : ox_O))) (L_Sum_end a1 σ (n + 3) tl) (fun r4 => ?_)
  refine ox_R_of (Y := ox_ev m_She_sumOf (ox_zz ox_ms (n + 4)) 13 0 tl [.inr (.inr (5, 0, 0)), .inl (a1), .inl (ox_w (Int.tdiv a1 12)), ox_d, ox_d, ox_d, ox_d] [.inl (r4)] σ) rfl ?_
  refine ox_R_to 7 (Y := ox_back m_She_sumOf 22 3 [] ((ox_zz ox_ms (n + 4)) 236 tl [.inr (.inr (6, 0, 0)), .inl (a1)] σ) (fun pc9 x9 st9 σ9 => ox_ev m_She_sumOf (ox_zz ox_ms (n + 4)) pc9 0 tl (ox_kl (m_She_sumOf.2.2.1 pc9) (ox_xl x9 [.inr (.inr (5, 0, 0)), .inl (a1), .inl (ox_w (Int.tdiv a1 12)), .inl (r4), .inl (0), ox_d, ox_d])) st9 σ9)) rfl ?_
  refine ox_R_call (fc := (fun r : Int => ((.inl (some (.inl r)), σ) : ox_O))) (L_Sum_from a1 σ (n + 2) tl) (fun r5 => ?_)
  refine ox_R_of (Y := ox_ev m_She_sumOf (ox_zz ox_ms (n + 4)) 25 0 tl [.inr (.inr (5, 0, 0)), .inl (a1), .inl (ox_w (Int.tdiv a1 12)), .inl (r4), .inl (0), ox_d, ox_d] [.inl (r5)] σ) rfl ?_
  refine ox_R_to 1 (Y := ox_ev m_She_sumOf (ox_zz ox_ms (n + 4)) 27 0 tl [.inr (.inr (5, 0, 0)), ox_d, .inl (ox_w (Int.tdiv a1 12)), .inl (r4), .inl (0), .inl (r5), ox_d] [] σ) rfl ?_
  exact (L_She_sumOf_27 (ox_w (Int.tdiv a1 12)) r4 0 r5 σ n tl)
def J_She_refresh_168  (σ : ox_H) : Option ox_H := some σ
theorem L_She_refresh_168  (σ : ox_H) (n tl : Nat) : ox_R (fun r => some ((fun r : ox_H => ((.inl none, r) : ox_O)) r)) (J_She_refresh_168 σ) (ox_ev m_She_refresh (ox_zz ox_ms (n + 5)) 168 0 tl [ox_d, ox_d, ox_d, ox_d] [] σ) := by
  unfold J_She_refresh_168
  refine ox_R_to 1 (Y := some (.inl none, σ)) rfl ?_
  exact ox_R_ret rfl
def J_She_refresh_161  (v2 : Int) (s0 : Int) (s1 : Int) (σ : ox_H) : Option (((Int × ox_H) ⊕ ox_H)) := if 0 ≤ s1 ∧ s1.toNat < 720 then (some (.inl (ox_w (v2 + 1), (ox_up σ 5 0 2 s1.toNat s0)))) else none
theorem L_She_refresh_161  (v2 : Int) (s0 : Int) (s1 : Int) (σ : ox_H) (n tl : Nat) : ox_R (Sum.elim (fun (s : Int × ox_H) => match s with | (v2, σ) => ox_ev m_She_refresh (ox_zz ox_ms (n + 5)) 125 0 tl [.inr (.inr (5, 0, 0)), ox_d, .inl (v2), ox_d] [] σ) (fun r => some ((fun r : ox_H => ((.inl none, r) : ox_O)) r))) (J_She_refresh_161 v2 s0 s1 σ) (ox_ev m_She_refresh (ox_zz ox_ms (n + 5)) 161 0 tl [.inr (.inr (5, 0, 0)), ox_d, .inl (v2), ox_d] [.inl (s0), .inl (s1), .inr (.inr (105, 0, 2))] σ) := by
  unfold J_She_refresh_161
  refine ox_R_to 1 (Y := if 0 ≤ s1 ∧ s1.toNat < 720 then ox_ev m_She_refresh (ox_zz ox_ms (n + 5)) 162 0 tl [.inr (.inr (5, 0, 0)), ox_d, .inl (v2), ox_d] [] (ox_up σ 5 0 2 s1.toNat s0) else none) rfl ?_
  refine ox_R_if (fun _ => ?_) (fun _ => ox_R_none)
  refine ox_R_to 2 (Y := ox_ev m_She_refresh (ox_zz ox_ms (n + 5)) 125 0 tl [.inr (.inr (5, 0, 0)), ox_d, .inl (ox_w (v2 + 1)), ox_d] [] (ox_up σ 5 0 2 s1.toNat s0)) rfl ?_
  exact ox_R_ret rfl
def B_She_refresh_125  : (Int × ox_H) → Option (((Int × ox_H) ⊕ ox_H)) := fun (v2, σ) => if 720 ≤ v2 then ((J_She_refresh_168 σ).map .inr) else (if 0 ≤ v2 ∧ v2.toNat < 720 then (if (σ 5 0 2 v2.toNat) = (ox_c 1000001 0) then (J_She_refresh_161 v2 (ox_c 1000000 0) v2 σ) else (if 0 ≤ v2 ∧ v2.toNat < 720 then (J_She_refresh_161 v2 (σ 5 0 2 v2.toNat) v2 σ) else none)) else none)
def J_She_refresh_125  (v2 : Int) (σ : ox_H) : Option (ox_H) := ox_lp (B_She_refresh_125) ox_fu (v2, σ)
theorem L_She_refresh_125  (v2 : Int) (σ : ox_H) (n tl : Nat) : ox_R (fun r => some ((fun r : ox_H => ((.inl none, r) : ox_O)) r)) (J_She_refresh_125 v2 σ) (ox_ev m_She_refresh (ox_zz ox_ms (n + 5)) 125 0 tl [.inr (.inr (5, 0, 0)), ox_d, .inl (v2), ox_d] [] σ) := by
  unfold J_She_refresh_125
  refine ox_R_lp (ψ := (fun (s : Int × ox_H) => match s with | (v2, σ) => ox_ev m_She_refresh (ox_zz ox_ms (n + 5)) 125 0 tl [.inr (.inr (5, 0, 0)), ox_d, .inl (v2), ox_d] [] σ)) ?_ ox_fu (v2, σ)
  intro s
  obtain ⟨v2, σ⟩ := s
  unfold B_She_refresh_125
  refine ox_R_to 5 (Y := if 720 ≤ v2 then ox_ev m_She_refresh (ox_zz ox_ms (n + 5)) 168 0 tl [ox_d, ox_d, ox_d, ox_d] [] σ else ox_ev m_She_refresh (ox_zz ox_ms (n + 5)) 134 0 tl [.inr (.inr (5, 0, 0)), ox_d, .inl (v2), ox_d] [] σ) rfl ?_
  refine ox_R_if (fun _ => ?_) (fun _ => ?_)
  · exact ox_R_map ((L_She_refresh_168 σ n tl))
  · refine ox_R_to 7 (Y := if 0 ≤ v2 ∧ v2.toNat < 720 then ox_ev m_She_refresh (ox_zz ox_ms (n + 5)) 145 0 tl [.inr (.inr (5, 0, 0)), ox_d, .inl (v2), ox_d] [.inl (σ 5 0 2 v2.toNat), .inl (v2), .inr (.inr (105, 0, 2))] σ else none) rfl ?_
    refine ox_R_if (fun _ => ?_) (fun _ => ox_R_none)
    refine ox_R_to 2 (Y := if (σ 5 0 2 v2.toNat) = (ox_c 1000001 0) then ox_ev m_She_refresh (ox_zz ox_ms (n + 5)) 150 0 tl [.inr (.inr (5, 0, 0)), ox_d, .inl (v2), ox_d] [.inl (v2), .inr (.inr (105, 0, 2))] σ else ox_ev m_She_refresh (ox_zz ox_ms (n + 5)) 155 0 tl [.inr (.inr (5, 0, 0)), ox_d, .inl (v2), ox_d] [.inl (v2), .inr (.inr (105, 0, 2))] σ) rfl ?_
    refine ox_R_if (fun _ => ?_) (fun _ => ?_)
    · refine ox_R_to 2 (Y := ox_ev m_She_refresh (ox_zz ox_ms (n + 5)) 161 0 tl [.inr (.inr (5, 0, 0)), ox_d, .inl (v2), ox_d] [.inl (ox_c 1000000 0), .inl (v2), .inr (.inr (105, 0, 2))] σ) rfl ?_
      exact (L_She_refresh_161 v2 (ox_c 1000000 0) v2 σ n tl)
    · refine ox_R_to 4 (Y := if 0 ≤ v2 ∧ v2.toNat < 720 then ox_ev m_She_refresh (ox_zz ox_ms (n + 5)) 161 0 tl [.inr (.inr (5, 0, 0)), ox_d, .inl (v2), ox_d] [.inl (σ 5 0 2 v2.toNat), .inl (v2), .inr (.inr (105, 0, 2))] σ else none) rfl ?_
      refine ox_R_if (fun _ => ?_) (fun _ => ox_R_none)
      exact (L_She_refresh_161 v2 (σ 5 0 2 v2.toNat) v2 σ n tl)
def J_She_refresh_123  (σ : ox_H) : Option ox_H := (J_She_refresh_125 0 σ)
theorem L_She_refresh_123  (σ : ox_H) (n tl : Nat) : ox_R (fun r => some ((fun r : ox_H => ((.inl none, r) : ox_O)) r)) (J_She_refresh_123 σ) (ox_ev m_She_refresh (ox_zz ox_ms (n + 5)) 123 0 tl [.inr (.inr (5, 0, 0)), ox_d, ox_d, ox_d] [] σ) := by
  unfold J_She_refresh_123
  refine ox_R_to 2 (Y := ox_ev m_She_refresh (ox_zz ox_ms (n + 5)) 125 0 tl [.inr (.inr (5, 0, 0)), ox_d, .inl (0), ox_d] [] σ) rfl ?_
  exact (L_She_refresh_125 0 σ n tl)
def J_She_refresh_117  (v1 : Int) (v2 : Int) (σ : ox_H) : Option (((Int × Int × ox_H) ⊕ ox_H)) := some (.inl (v1, ox_w (v2 + 1), σ))
theorem L_She_refresh_117  (v1 : Int) (v2 : Int) (σ : ox_H) (n tl : Nat) : ox_R (Sum.elim (fun (s : Int × Int × ox_H) => match s with | (v1, v2, σ) => ox_ev m_She_refresh (ox_zz ox_ms (n + 5)) 42 0 tl [.inr (.inr (5, 0, 0)), .inl (v1), .inl (v2), ox_d] [] σ) (fun r => some ((fun r : ox_H => ((.inl none, r) : ox_O)) r))) (J_She_refresh_117 v1 v2 σ) (ox_ev m_She_refresh (ox_zz ox_ms (n + 5)) 117 0 tl [.inr (.inr (5, 0, 0)), .inl (v1), .inl (v2), ox_d] [] σ) := by
  unfold J_She_refresh_117
  refine ox_R_to 2 (Y := ox_ev m_She_refresh (ox_zz ox_ms (n + 5)) 42 0 tl [.inr (.inr (5, 0, 0)), .inl (v1), .inl (ox_w (v2 + 1)), ox_d] [] σ) rfl ?_
  exact ox_R_ret rfl
def J_She_refresh_111  (v1 : Int) (v2 : Int) (v3 : Int) (σ : ox_H) : Option (((Int × Int × ox_H) ⊕ ((Int × Int × ox_H) ⊕ ox_H))) := some (.inl (v1, ox_w (v3 + 1), σ))
theorem L_She_refresh_111  (v1 : Int) (v2 : Int) (v3 : Int) (σ : ox_H) (n tl : Nat) : ox_R (Sum.elim (fun (s : Int × Int × ox_H) => match s with | (v1, v3, σ) => ox_ev m_She_refresh (ox_zz ox_ms (n + 5)) 59 0 tl [.inr (.inr (5, 0, 0)), .inl (v1), .inl (v2), .inl (v3)] [] σ) (Sum.elim (fun (s : Int × Int × ox_H) => match s with | (v1, v2, σ) => ox_ev m_She_refresh (ox_zz ox_ms (n + 5)) 42 0 tl [.inr (.inr (5, 0, 0)), .inl (v1), .inl (v2), ox_d] [] σ) (fun r => some ((fun r : ox_H => ((.inl none, r) : ox_O)) r)))) (J_She_refresh_111 v1 v2 v3 σ) (ox_ev m_She_refresh (ox_zz ox_ms (n + 5)) 111 0 tl [.inr (.inr (5, 0, 0)), .inl (v1), .inl (v2), .inl (v3)] [] σ) := by
  unfold J_She_refresh_111
  refine ox_R_to 2 (Y := ox_ev m_She_refresh (ox_zz ox_ms (n + 5)) 59 0 tl [.inr (.inr (5, 0, 0)), .inl (v1), .inl (v2), .inl (ox_w (v3 + 1))] [] σ) rfl ?_
  exact ox_R_ret rfl
def J_She_refresh_110  (v2 : Int) (v3 : Int) (s0 : Int) (σ : ox_H) : Option (((Int × Int × ox_H) ⊕ ((Int × Int × ox_H) ⊕ ox_H))) := (J_She_refresh_111 s0 v2 v3 σ)
theorem L_She_refresh_110  (v2 : Int) (v3 : Int) (s0 : Int) (σ : ox_H) (n tl : Nat) : ox_R (Sum.elim (fun (s : Int × Int × ox_H) => match s with | (v1, v3, σ) => ox_ev m_She_refresh (ox_zz ox_ms (n + 5)) 59 0 tl [.inr (.inr (5, 0, 0)), .inl (v1), .inl (v2), .inl (v3)] [] σ) (Sum.elim (fun (s : Int × Int × ox_H) => match s with | (v1, v2, σ) => ox_ev m_She_refresh (ox_zz ox_ms (n + 5)) 42 0 tl [.inr (.inr (5, 0, 0)), .inl (v1), .inl (v2), ox_d] [] σ) (fun r => some ((fun r : ox_H => ((.inl none, r) : ox_O)) r)))) (J_She_refresh_110 v2 v3 s0 σ) (ox_ev m_She_refresh (ox_zz ox_ms (n + 5)) 110 0 tl [.inr (.inr (5, 0, 0)), ox_d, .inl (v2), .inl (v3)] [.inl (s0)] σ) := by
  unfold J_She_refresh_110
  refine ox_R_to 1 (Y := ox_ev m_She_refresh (ox_zz ox_ms (n + 5)) 111 0 tl [.inr (.inr (5, 0, 0)), .inl (s0), .inl (v2), .inl (v3)] [] σ) rfl ?_
  exact (L_She_refresh_111 s0 v2 v3 σ n tl)
def J_She_refresh_105  (v2 : Int) (v3 : Int) (σ : ox_H) : Option (((Int × Int × ox_H) ⊕ ((Int × Int × ox_H) ⊕ ox_H))) := (J_She_refresh_110 v2 v3 1 σ)
theorem L_She_refresh_105  (v2 : Int) (v3 : Int) (σ : ox_H) (n tl : Nat) : ox_R (Sum.elim (fun (s : Int × Int × ox_H) => match s with | (v1, v3, σ) => ox_ev m_She_refresh (ox_zz ox_ms (n + 5)) 59 0 tl [.inr (.inr (5, 0, 0)), .inl (v1), .inl (v2), .inl (v3)] [] σ) (Sum.elim (fun (s : Int × Int × ox_H) => match s with | (v1, v2, σ) => ox_ev m_She_refresh (ox_zz ox_ms (n + 5)) 42 0 tl [.inr (.inr (5, 0, 0)), .inl (v1), .inl (v2), ox_d] [] σ) (fun r => some ((fun r : ox_H => ((.inl none, r) : ox_O)) r)))) (J_She_refresh_105 v2 v3 σ) (ox_ev m_She_refresh (ox_zz ox_ms (n + 5)) 105 0 tl [.inr (.inr (5, 0, 0)), ox_d, .inl (v2), .inl (v3)] [] σ) := by
  unfold J_She_refresh_105
  refine ox_R_to 2 (Y := ox_ev m_She_refresh (ox_zz ox_ms (n + 5)) 110 0 tl [.inr (.inr (5, 0, 0)), ox_d, .inl (v2), .inl (v3)] [.inl (1)] σ) rfl ?_
  exact (L_She_refresh_110 v2 v3 1 σ n tl)
def B_She_refresh_59  (v2 : Int) : (Int × Int × ox_H) → Option (((Int × Int × ox_H) ⊕ ((Int × Int × ox_H) ⊕ ox_H))) := fun (v1, v3, σ) => if 720 ≤ v3 then ((J_She_refresh_117 v1 v2 σ).map .inr) else (if 0 ≤ v3 ∧ v3.toNat < 720 then (if (σ 5 0 2 v3.toNat) = (ox_c 1000001 0) then ((F_She_sumOf v3 σ).bind fun r1 => (if 0 ≤ v3 ∧ v3.toNat < 720 then (if v1 = 0 then (if 0 ≤ v3 ∧ v3.toNat < 720 then (if ((ox_up σ 5 0 2 v3.toNat r1) 5 0 2 v3.toNat) = (ox_c 1000001 0) then (J_She_refresh_110 v2 v3 0 (ox_up σ 5 0 2 v3.toNat r1)) else (J_She_refresh_105 v2 v3 (ox_up σ 5 0 2 v3.toNat r1))) else none) else (J_She_refresh_105 v2 v3 (ox_up σ 5 0 2 v3.toNat r1))) else none)) else (J_She_refresh_111 v1 v2 v3 σ)) else none)
def J_She_refresh_59  (v1 : Int) (v2 : Int) (v3 : Int) (σ : ox_H) : Option (((Int × Int × ox_H) ⊕ ox_H)) := ox_lp (B_She_refresh_59 v2) ox_fu (v1, v3, σ)
theorem L_She_refresh_59  (v1 : Int) (v2 : Int) (v3 : Int) (σ : ox_H) (n tl : Nat) : ox_R (Sum.elim (fun (s : Int × Int × ox_H) => match s with | (v1, v2, σ) => ox_ev m_She_refresh (ox_zz ox_ms (n + 5)) 42 0 tl [.inr (.inr (5, 0, 0)), .inl (v1), .inl (v2), ox_d] [] σ) (fun r => some ((fun r : ox_H => ((.inl none, r) : ox_O)) r))) (J_She_refresh_59 v1 v2 v3 σ) (ox_ev m_She_refresh (ox_zz ox_ms (n + 5)) 59 0 tl [.inr (.inr (5, 0, 0)), .inl (v1), .inl (v2), .inl (v3)] [] σ) := by
  unfold J_She_refresh_59
  refine ox_R_lp (ψ := (fun (s : Int × Int × ox_H) => match s with | (v1, v3, σ) => ox_ev m_She_refresh (ox_zz ox_ms (n + 5)) 59 0 tl [.inr (.inr (5, 0, 0)), .inl (v1), .inl (v2), .inl (v3)] [] σ)) ?_ ox_fu (v1, v3, σ)
  intro s
  obtain ⟨v1, v3, σ⟩ := s
  unfold B_She_refresh_59
  refine ox_R_to 5 (Y := if 720 ≤ v3 then ox_ev m_She_refresh (ox_zz ox_ms (n + 5)) 117 0 tl [.inr (.inr (5, 0, 0)), .inl (v1), .inl (v2), ox_d] [] σ else ox_ev m_She_refresh (ox_zz ox_ms (n + 5)) 68 0 tl [.inr (.inr (5, 0, 0)), .inl (v1), .inl (v2), .inl (v3)] [] σ) rfl ?_
  refine ox_R_if (fun _ => ?_) (fun _ => ?_)
  · exact ox_R_map ((L_She_refresh_117 v1 v2 σ n tl))
  · refine ox_R_to 4 (Y := if 0 ≤ v3 ∧ v3.toNat < 720 then ox_ev m_She_refresh (ox_zz ox_ms (n + 5)) 74 0 tl [.inr (.inr (5, 0, 0)), .inl (v1), .inl (v2), .inl (v3)] [.inl (σ 5 0 2 v3.toNat)] σ else none) rfl ?_
    refine ox_R_if (fun _ => ?_) (fun _ => ox_R_none)
    refine ox_R_to 2 (Y := if (σ 5 0 2 v3.toNat) = (ox_c 1000001 0) then ox_ev m_She_refresh (ox_zz ox_ms (n + 5)) 79 0 tl [.inr (.inr (5, 0, 0)), .inl (v1), .inl (v2), .inl (v3)] [] σ else ox_ev m_She_refresh (ox_zz ox_ms (n + 5)) 111 0 tl [.inr (.inr (5, 0, 0)), .inl (v1), .inl (v2), .inl (v3)] [] σ) rfl ?_
    refine ox_R_if (fun _ => ?_) (fun _ => ?_)
    · refine ox_R_to 6 (Y := ox_back m_She_refresh 86 1 [.inl (v3), .inr (.inr (105, 0, 2))] ((ox_zz ox_ms (n + 5)) 221 tl [.inr (.inr (5, 0, 0)), .inl (v3)] σ) (fun pc9 x9 st9 σ9 => ox_ev m_She_refresh (ox_zz ox_ms (n + 5)) pc9 0 tl (ox_kl (m_She_refresh.2.2.1 pc9) (ox_xl x9 [.inr (.inr (5, 0, 0)), .inl (v1), .inl (v2), .inl (v3)])) st9 σ9)) rfl ?_
      refine ox_R_call (fc := (fun r : Int => ((.inl (some (.inl r)), σ) : ox_O))) (L_She_sumOf v3 σ (n + 0) tl) (fun r1 => ?_)
      refine ox_R_of (Y := ox_ev m_She_refresh (ox_zz ox_ms (n + 5)) 89 0 tl [.inr (.inr (5, 0, 0)), .inl (v1), .inl (v2), .inl (v3)] [.inl (r1), .inl (v3), .inr (.inr (105, 0, 2))] σ) rfl ?_
      refine ox_R_to 1 (Y := if 0 ≤ v3 ∧ v3.toNat < 720 then ox_ev m_She_refresh (ox_zz ox_ms (n + 5)) 90 0 tl [.inr (.inr (5, 0, 0)), .inl (v1), .inl (v2), .inl (v3)] [] (ox_up σ 5 0 2 v3.toNat r1) else none) rfl ?_
      refine ox_R_if (fun _ => ?_) (fun _ => ox_R_none)
      refine ox_R_to 2 (Y := if v1 = 0 then ox_ev m_She_refresh (ox_zz ox_ms (n + 5)) 94 0 tl [.inr (.inr (5, 0, 0)), .inl (v1), .inl (v2), .inl (v3)] [] (ox_up σ 5 0 2 v3.toNat r1) else ox_ev m_She_refresh (ox_zz ox_ms (n + 5)) 105 0 tl [.inr (.inr (5, 0, 0)), ox_d, .inl (v2), .inl (v3)] [] (ox_up σ 5 0 2 v3.toNat r1)) rfl ?_
      refine ox_R_if (fun _ => ?_) (fun _ => ?_)
      · refine ox_R_to 4 (Y := if 0 ≤ v3 ∧ v3.toNat < 720 then ox_ev m_She_refresh (ox_zz ox_ms (n + 5)) 100 0 tl [.inr (.inr (5, 0, 0)), .inl (v1), .inl (v2), .inl (v3)] [.inl ((ox_up σ 5 0 2 v3.toNat r1) 5 0 2 v3.toNat)] (ox_up σ 5 0 2 v3.toNat r1) else none) rfl ?_
        refine ox_R_if (fun _ => ?_) (fun _ => ox_R_none)
        refine ox_R_to 2 (Y := if ((ox_up σ 5 0 2 v3.toNat r1) 5 0 2 v3.toNat) = (ox_c 1000001 0) then ox_ev m_She_refresh (ox_zz ox_ms (n + 5)) 109 0 tl [.inr (.inr (5, 0, 0)), .inl (v1), .inl (v2), .inl (v3)] [] (ox_up σ 5 0 2 v3.toNat r1) else ox_ev m_She_refresh (ox_zz ox_ms (n + 5)) 105 0 tl [.inr (.inr (5, 0, 0)), ox_d, .inl (v2), .inl (v3)] [] (ox_up σ 5 0 2 v3.toNat r1)) rfl ?_
        refine ox_R_if (fun _ => ?_) (fun _ => ?_)
        · refine ox_R_to 1 (Y := ox_ev m_She_refresh (ox_zz ox_ms (n + 5)) 110 0 tl [.inr (.inr (5, 0, 0)), ox_d, .inl (v2), .inl (v3)] [.inl (0)] (ox_up σ 5 0 2 v3.toNat r1)) rfl ?_
          exact (L_She_refresh_110 v2 v3 0 (ox_up σ 5 0 2 v3.toNat r1) n tl)
        · exact (L_She_refresh_105 v2 v3 (ox_up σ 5 0 2 v3.toNat r1) n tl)
      · exact (L_She_refresh_105 v2 v3 (ox_up σ 5 0 2 v3.toNat r1) n tl)
    · exact (L_She_refresh_111 v1 v2 v3 σ n tl)
def B_She_refresh_42  : (Int × Int × ox_H) → Option (((Int × Int × ox_H) ⊕ ox_H)) := fun (v1, v2, σ) => if 720 ≤ v2 then ((J_She_refresh_123 σ).map .inr) else (if v1 = 0 then ((J_She_refresh_123 σ).map .inr) else (J_She_refresh_59 0 v2 0 σ))
def J_She_refresh_42  (v1 : Int) (v2 : Int) (σ : ox_H) : Option (ox_H) := ox_lp (B_She_refresh_42) ox_fu (v1, v2, σ)
theorem L_She_refresh_42  (v1 : Int) (v2 : Int) (σ : ox_H) (n tl : Nat) : ox_R (fun r => some ((fun r : ox_H => ((.inl none, r) : ox_O)) r)) (J_She_refresh_42 v1 v2 σ) (ox_ev m_She_refresh (ox_zz ox_ms (n + 5)) 42 0 tl [.inr (.inr (5, 0, 0)), .inl (v1), .inl (v2), ox_d] [] σ) := by
  unfold J_She_refresh_42
  refine ox_R_lp (ψ := (fun (s : Int × Int × ox_H) => match s with | (v1, v2, σ) => ox_ev m_She_refresh (ox_zz ox_ms (n + 5)) 42 0 tl [.inr (.inr (5, 0, 0)), .inl (v1), .inl (v2), ox_d] [] σ)) ?_ ox_fu (v1, v2, σ)
  intro s
  obtain ⟨v1, v2, σ⟩ := s
  unfold B_She_refresh_42
  refine ox_R_to 5 (Y := if 720 ≤ v2 then ox_ev m_She_refresh (ox_zz ox_ms (n + 5)) 123 0 tl [.inr (.inr (5, 0, 0)), ox_d, ox_d, ox_d] [] σ else ox_ev m_She_refresh (ox_zz ox_ms (n + 5)) 51 0 tl [.inr (.inr (5, 0, 0)), .inl (v1), .inl (v2), ox_d] [] σ) rfl ?_
  refine ox_R_if (fun _ => ?_) (fun _ => ?_)
  · exact ox_R_map ((L_She_refresh_123 σ n tl))
  · refine ox_R_to 2 (Y := if v1 = 0 then ox_ev m_She_refresh (ox_zz ox_ms (n + 5)) 123 0 tl [.inr (.inr (5, 0, 0)), ox_d, ox_d, ox_d] [] σ else ox_ev m_She_refresh (ox_zz ox_ms (n + 5)) 55 0 tl [.inr (.inr (5, 0, 0)), .inl (v1), .inl (v2), ox_d] [] σ) rfl ?_
    refine ox_R_if (fun _ => ?_) (fun _ => ?_)
    · exact ox_R_map ((L_She_refresh_123 σ n tl))
    · refine ox_R_to 4 (Y := ox_ev m_She_refresh (ox_zz ox_ms (n + 5)) 59 0 tl [.inr (.inr (5, 0, 0)), .inl (0), .inl (v2), .inl (0)] [] σ) rfl ?_
      exact (L_She_refresh_59 0 v2 0 σ n tl)
def F_She_refresh  (σ : ox_H) : Option (ox_H) := if (σ 5 0 5 0) = (σ 2 0 10 0) then (some σ) else ((F_She_findBlocks (ox_up σ 5 0 5 0 (σ 2 0 10 0))).bind fun r2 => ((F_She_findTops r2).bind fun r3 => ((F_She_openCells r3).bind fun r4 => (J_She_refresh_42 1 0 r4))))
theorem L_She_refresh  (σ : ox_H) (n tl : Nat) : ox_R (fun r => some ((fun r : ox_H => ((.inl none, r) : ox_O)) r)) (F_She_refresh σ) (ox_zz ox_ms (n + 6) 217 tl [.inr (.inr (5, 0, 0))] σ) := by
  unfold F_She_refresh
  refine ox_R_of (Y := ox_ev m_She_refresh (ox_zz ox_ms (n + 5)) 0 0 tl [.inr (.inr (5, 0, 0)), ox_d, ox_d, ox_d] [] σ) rfl ?_
  refine ox_R_to 6 (Y := if (σ 5 0 5 0) = (σ 2 0 10 0) then ox_ev m_She_refresh (ox_zz ox_ms (n + 5)) 14 0 tl [.inr (.inr (5, 0, 0)), ox_d, ox_d, ox_d] [] σ else ox_ev m_She_refresh (ox_zz ox_ms (n + 5)) 15 0 tl [.inr (.inr (5, 0, 0)), ox_d, ox_d, ox_d] [] σ) rfl ?_
  refine ox_R_if (fun _ => ?_) (fun _ => ?_)
  · refine ox_R_to 1 (Y := some (.inl none, σ)) rfl ?_
    exact ox_R_ret rfl
  · refine ox_R_to 7 (Y := ox_back m_She_refresh 27 0 [] ((ox_zz ox_ms (n + 5)) 219 tl [.inr (.inr (5, 0, 0))] (ox_up σ 5 0 5 0 (σ 2 0 10 0))) (fun pc9 x9 st9 σ9 => ox_ev m_She_refresh (ox_zz ox_ms (n + 5)) pc9 0 tl (ox_kl (m_She_refresh.2.2.1 pc9) (ox_xl x9 [.inr (.inr (5, 0, 0)), ox_d, ox_d, ox_d])) st9 σ9)) rfl ?_
    refine ox_R_call (fc := (fun r : ox_H => ((.inl none, r) : ox_O))) (L_She_findBlocks (ox_up σ 5 0 5 0 (σ 2 0 10 0)) (n + 3) tl) (fun r2 => ?_)
    refine ox_R_of (Y := ox_ev m_She_refresh (ox_zz ox_ms (n + 5)) 30 0 tl [.inr (.inr (5, 0, 0)), ox_d, ox_d, ox_d] [] r2) rfl ?_
    refine ox_R_to 2 (Y := ox_back m_She_refresh 31 0 [] ((ox_zz ox_ms (n + 5)) 220 tl [.inr (.inr (5, 0, 0))] r2) (fun pc9 x9 st9 σ9 => ox_ev m_She_refresh (ox_zz ox_ms (n + 5)) pc9 0 tl (ox_kl (m_She_refresh.2.2.1 pc9) (ox_xl x9 [.inr (.inr (5, 0, 0)), ox_d, ox_d, ox_d])) st9 σ9)) rfl ?_
    refine ox_R_call (fc := (fun r : ox_H => ((.inl none, r) : ox_O))) (L_She_findTops r2 (n + 3) tl) (fun r3 => ?_)
    refine ox_R_of (Y := ox_ev m_She_refresh (ox_zz ox_ms (n + 5)) 34 0 tl [.inr (.inr (5, 0, 0)), ox_d, ox_d, ox_d] [] r3) rfl ?_
    refine ox_R_to 2 (Y := ox_back m_She_refresh 35 0 [] ((ox_zz ox_ms (n + 5)) 218 tl [.inr (.inr (5, 0, 0))] r3) (fun pc9 x9 st9 σ9 => ox_ev m_She_refresh (ox_zz ox_ms (n + 5)) pc9 0 tl (ox_kl (m_She_refresh.2.2.1 pc9) (ox_xl x9 [.inr (.inr (5, 0, 0)), ox_d, ox_d, ox_d])) st9 σ9)) rfl ?_
    refine ox_R_call (fc := (fun r : ox_H => ((.inl none, r) : ox_O))) (L_She_openCells r3 (n + 3) tl) (fun r4 => ?_)
    refine ox_R_of (Y := ox_ev m_She_refresh (ox_zz ox_ms (n + 5)) 38 0 tl [.inr (.inr (5, 0, 0)), ox_d, ox_d, ox_d] [] r4) rfl ?_
    refine ox_R_to 4 (Y := ox_ev m_She_refresh (ox_zz ox_ms (n + 5)) 42 0 tl [.inr (.inr (5, 0, 0)), .inl (1), .inl (0), ox_d] [] r4) rfl ?_
    exact (L_She_refresh_42 1 0 r4 n tl)
def J_She_tableLine_83  (σ : ox_H) : Option Int := some (-1)
theorem L_She_tableLine_83  (σ : ox_H) (n tl : Nat) : ox_R (fun r => some ((fun r : Int => ((.inl (some (.inl r)), σ) : ox_O)) r)) (J_She_tableLine_83 σ) (ox_ev m_She_tableLine (ox_zz ox_ms (n + 1)) 83 0 tl [ox_d, ox_d, ox_d, ox_d, ox_d, ox_d, ox_d] [] σ) := by
  unfold J_She_tableLine_83
  refine ox_R_to 2 (Y := some (.inl (some (.inl ((-1)))), σ)) rfl ?_
  exact ox_R_ret rfl
def J_She_tableLine_75  (v4 : Int) (v5 : Int) (s0 : Int) (s1 : Int) (σ : ox_H) : Option (((Int × Int) ⊕ Int)) := some (.inl (ox_w (s1 - s0), ox_w (v5 + 1)))
theorem L_She_tableLine_75  (v4 : Int) (v5 : Int) (s0 : Int) (s1 : Int) (σ : ox_H) (n tl : Nat) : ox_R (Sum.elim (fun (s : Int × Int) => match s with | (v3, v5) => ox_ev m_She_tableLine (ox_zz ox_ms (n + 1)) 22 0 tl [.inr (.inr (5, 0, 0)), ox_d, ox_d, .inl (v3), .inl (v4), .inl (v5), ox_d] [] σ) (fun r => some ((fun r : Int => ((.inl (some (.inl r)), σ) : ox_O)) r))) (J_She_tableLine_75 v4 v5 s0 s1 σ) (ox_ev m_She_tableLine (ox_zz ox_ms (n + 1)) 75 0 tl [.inr (.inr (5, 0, 0)), ox_d, ox_d, ox_d, .inl (v4), .inl (v5), ox_d] [.inl (s0), .inl (s1)] σ) := by
  unfold J_She_tableLine_75
  refine ox_R_to 4 (Y := ox_ev m_She_tableLine (ox_zz ox_ms (n + 1)) 22 0 tl [.inr (.inr (5, 0, 0)), ox_d, ox_d, .inl (ox_w (s1 - s0)), .inl (v4), .inl (ox_w (v5 + 1)), ox_d] [] σ) rfl ?_
  exact ox_R_ret rfl
def J_She_tableLine_64  (v3 : Int) (v4 : Int) (v5 : Int) (v6 : Int) (σ : ox_H) : Option (((Int × Int) ⊕ Int)) := if v6 = 0 then (J_She_tableLine_75 v4 v5 0 v3 σ) else (J_She_tableLine_75 v4 v5 1 v3 σ)
theorem L_She_tableLine_64  (v3 : Int) (v4 : Int) (v5 : Int) (v6 : Int) (σ : ox_H) (n tl : Nat) : ox_R (Sum.elim (fun (s : Int × Int) => match s with | (v3, v5) => ox_ev m_She_tableLine (ox_zz ox_ms (n + 1)) 22 0 tl [.inr (.inr (5, 0, 0)), ox_d, ox_d, .inl (v3), .inl (v4), .inl (v5), ox_d] [] σ) (fun r => some ((fun r : Int => ((.inl (some (.inl r)), σ) : ox_O)) r))) (J_She_tableLine_64 v3 v4 v5 v6 σ) (ox_ev m_She_tableLine (ox_zz ox_ms (n + 1)) 64 0 tl [.inr (.inr (5, 0, 0)), ox_d, ox_d, .inl (v3), .inl (v4), .inl (v5), .inl (v6)] [] σ) := by
  unfold J_She_tableLine_64
  refine ox_R_to 3 (Y := if v6 = 0 then ox_ev m_She_tableLine (ox_zz ox_ms (n + 1)) 74 0 tl [.inr (.inr (5, 0, 0)), ox_d, ox_d, .inl (v3), .inl (v4), .inl (v5), .inl (v6)] [.inl (v3)] σ else ox_ev m_She_tableLine (ox_zz ox_ms (n + 1)) 70 0 tl [.inr (.inr (5, 0, 0)), ox_d, ox_d, .inl (v3), .inl (v4), .inl (v5), .inl (v6)] [.inl (v3)] σ) rfl ?_
  refine ox_R_if (fun _ => ?_) (fun _ => ?_)
  · refine ox_R_to 1 (Y := ox_ev m_She_tableLine (ox_zz ox_ms (n + 1)) 75 0 tl [.inr (.inr (5, 0, 0)), ox_d, ox_d, ox_d, .inl (v4), .inl (v5), ox_d] [.inl (0), .inl (v3)] σ) rfl ?_
    exact (L_She_tableLine_75 v4 v5 0 v3 σ n tl)
  · refine ox_R_to 2 (Y := ox_ev m_She_tableLine (ox_zz ox_ms (n + 1)) 75 0 tl [.inr (.inr (5, 0, 0)), ox_d, ox_d, ox_d, .inl (v4), .inl (v5), ox_d] [.inl (1), .inl (v3)] σ) rfl ?_
    exact (L_She_tableLine_75 v4 v5 1 v3 σ n tl)
def J_She_tableLine_61  (v5 : Int) (σ : ox_H) : Option Int := some v5
theorem L_She_tableLine_61  (v5 : Int) (σ : ox_H) (n tl : Nat) : ox_R (fun r => some ((fun r : Int => ((.inl (some (.inl r)), σ) : ox_O)) r)) (J_She_tableLine_61 v5 σ) (ox_ev m_She_tableLine (ox_zz ox_ms (n + 1)) 61 0 tl [ox_d, ox_d, ox_d, ox_d, ox_d, .inl (v5), ox_d] [] σ) := by
  unfold J_She_tableLine_61
  refine ox_R_to 2 (Y := some (.inl (some (.inl (v5))), σ)) rfl ?_
  exact ox_R_ret rfl
def J_She_tableLine_50  (v3 : Int) (v4 : Int) (v5 : Int) (s0 : Int) (σ : ox_H) : Option (((Int × Int) ⊕ Int)) := if s0 = 0 then (J_She_tableLine_64 v3 v4 v5 s0 σ) else (if v3 = 0 then ((J_She_tableLine_61 v5 σ).map .inr) else (J_She_tableLine_64 v3 v4 v5 s0 σ))
theorem L_She_tableLine_50  (v3 : Int) (v4 : Int) (v5 : Int) (s0 : Int) (σ : ox_H) (n tl : Nat) : ox_R (Sum.elim (fun (s : Int × Int) => match s with | (v3, v5) => ox_ev m_She_tableLine (ox_zz ox_ms (n + 1)) 22 0 tl [.inr (.inr (5, 0, 0)), ox_d, ox_d, .inl (v3), .inl (v4), .inl (v5), ox_d] [] σ) (fun r => some ((fun r : Int => ((.inl (some (.inl r)), σ) : ox_O)) r))) (J_She_tableLine_50 v3 v4 v5 s0 σ) (ox_ev m_She_tableLine (ox_zz ox_ms (n + 1)) 50 0 tl [.inr (.inr (5, 0, 0)), ox_d, ox_d, .inl (v3), .inl (v4), .inl (v5), ox_d] [.inl (s0)] σ) := by
  unfold J_She_tableLine_50
  refine ox_R_to 3 (Y := if s0 = 0 then ox_ev m_She_tableLine (ox_zz ox_ms (n + 1)) 64 0 tl [.inr (.inr (5, 0, 0)), ox_d, ox_d, .inl (v3), .inl (v4), .inl (v5), .inl (s0)] [] σ else ox_ev m_She_tableLine (ox_zz ox_ms (n + 1)) 57 0 tl [.inr (.inr (5, 0, 0)), ox_d, ox_d, .inl (v3), .inl (v4), .inl (v5), .inl (s0)] [] σ) rfl ?_
  refine ox_R_if (fun _ => ?_) (fun _ => ?_)
  · exact (L_She_tableLine_64 v3 v4 v5 s0 σ n tl)
  · refine ox_R_to 2 (Y := if v3 = 0 then ox_ev m_She_tableLine (ox_zz ox_ms (n + 1)) 61 0 tl [ox_d, ox_d, ox_d, ox_d, ox_d, .inl (v5), ox_d] [] σ else ox_ev m_She_tableLine (ox_zz ox_ms (n + 1)) 64 0 tl [.inr (.inr (5, 0, 0)), ox_d, ox_d, .inl (v3), .inl (v4), .inl (v5), .inl (s0)] [] σ) rfl ?_
    refine ox_R_if (fun _ => ?_) (fun _ => ?_)
    · exact ox_R_map ((L_She_tableLine_61 v5 σ n tl))
    · exact (L_She_tableLine_64 v3 v4 v5 s0 σ n tl)
def J_She_tableLine_49  (v3 : Int) (v4 : Int) (v5 : Int) (σ : ox_H) : Option (((Int × Int) ⊕ Int)) := (J_She_tableLine_50 v3 v4 v5 0 σ)
theorem L_She_tableLine_49  (v3 : Int) (v4 : Int) (v5 : Int) (σ : ox_H) (n tl : Nat) : ox_R (Sum.elim (fun (s : Int × Int) => match s with | (v3, v5) => ox_ev m_She_tableLine (ox_zz ox_ms (n + 1)) 22 0 tl [.inr (.inr (5, 0, 0)), ox_d, ox_d, .inl (v3), .inl (v4), .inl (v5), ox_d] [] σ) (fun r => some ((fun r : Int => ((.inl (some (.inl r)), σ) : ox_O)) r))) (J_She_tableLine_49 v3 v4 v5 σ) (ox_ev m_She_tableLine (ox_zz ox_ms (n + 1)) 49 0 tl [.inr (.inr (5, 0, 0)), ox_d, ox_d, .inl (v3), .inl (v4), .inl (v5), ox_d] [] σ) := by
  unfold J_She_tableLine_49
  refine ox_R_to 1 (Y := ox_ev m_She_tableLine (ox_zz ox_ms (n + 1)) 50 0 tl [.inr (.inr (5, 0, 0)), ox_d, ox_d, .inl (v3), .inl (v4), .inl (v5), ox_d] [.inl (0)] σ) rfl ?_
  exact (L_She_tableLine_50 v3 v4 v5 0 σ n tl)
def B_She_tableLine_22  (v4 : Int) (σ : ox_H) : (Int × Int) → Option (((Int × Int) ⊕ Int)) := fun (v3, v5) => if v4 ≤ v5 then ((J_She_tableLine_83 σ).map .inr) else (if v5 < 0 then (J_She_tableLine_49 v3 v4 v5 σ) else ((F_She_topOf v5 σ).bind fun r1 => (if r1 = v5 then (J_She_tableLine_50 v3 v4 v5 1 σ) else (J_She_tableLine_49 v3 v4 v5 σ))))
def J_She_tableLine_22  (v3 : Int) (v4 : Int) (v5 : Int) (σ : ox_H) : Option (Int) := ox_lp (B_She_tableLine_22 v4 σ) ox_fu (v3, v5)
theorem L_She_tableLine_22  (v3 : Int) (v4 : Int) (v5 : Int) (σ : ox_H) (n tl : Nat) : ox_R (fun r => some ((fun r : Int => ((.inl (some (.inl r)), σ) : ox_O)) r)) (J_She_tableLine_22 v3 v4 v5 σ) (ox_ev m_She_tableLine (ox_zz ox_ms (n + 1)) 22 0 tl [.inr (.inr (5, 0, 0)), ox_d, ox_d, .inl (v3), .inl (v4), .inl (v5), ox_d] [] σ) := by
  unfold J_She_tableLine_22
  refine ox_R_lp (ψ := (fun (s : Int × Int) => match s with | (v3, v5) => ox_ev m_She_tableLine (ox_zz ox_ms (n + 1)) 22 0 tl [.inr (.inr (5, 0, 0)), ox_d, ox_d, .inl (v3), .inl (v4), .inl (v5), ox_d] [] σ)) ?_ ox_fu (v3, v5)
  intro s
  obtain ⟨v3, v5⟩ := s
  unfold B_She_tableLine_22
  refine ox_R_to 3 (Y := if v4 ≤ v5 then ox_ev m_She_tableLine (ox_zz ox_ms (n + 1)) 83 0 tl [ox_d, ox_d, ox_d, ox_d, ox_d, ox_d, ox_d] [] σ else ox_ev m_She_tableLine (ox_zz ox_ms (n + 1)) 29 0 tl [.inr (.inr (5, 0, 0)), ox_d, ox_d, .inl (v3), .inl (v4), .inl (v5), ox_d] [] σ) rfl ?_
  refine ox_R_if (fun _ => ?_) (fun _ => ?_)
  · exact ox_R_map ((L_She_tableLine_83 σ n tl))
  · refine ox_R_to 2 (Y := if v5 < 0 then ox_ev m_She_tableLine (ox_zz ox_ms (n + 1)) 49 0 tl [.inr (.inr (5, 0, 0)), ox_d, ox_d, .inl (v3), .inl (v4), .inl (v5), ox_d] [] σ else ox_ev m_She_tableLine (ox_zz ox_ms (n + 1)) 34 0 tl [.inr (.inr (5, 0, 0)), ox_d, ox_d, .inl (v3), .inl (v4), .inl (v5), ox_d] [] σ) rfl ?_
    refine ox_R_if (fun _ => ?_) (fun _ => ?_)
    · exact (L_She_tableLine_49 v3 v4 v5 σ n tl)
    · refine ox_R_to 3 (Y := ox_back m_She_tableLine 37 1 [] ((ox_zz ox_ms (n + 1)) 225 tl [.inr (.inr (5, 0, 0)), .inl (v5)] σ) (fun pc9 x9 st9 σ9 => ox_ev m_She_tableLine (ox_zz ox_ms (n + 1)) pc9 0 tl (ox_kl (m_She_tableLine.2.2.1 pc9) (ox_xl x9 [.inr (.inr (5, 0, 0)), ox_d, ox_d, .inl (v3), .inl (v4), .inl (v5), ox_d])) st9 σ9)) rfl ?_
      refine ox_R_call (fc := (fun r : Int => ((.inl (some (.inl r)), σ) : ox_O))) (L_She_topOf v5 σ (n + 0) tl) (fun r1 => ?_)
      refine ox_R_of (Y := ox_ev m_She_tableLine (ox_zz ox_ms (n + 1)) 40 0 tl [.inr (.inr (5, 0, 0)), ox_d, ox_d, .inl (v3), .inl (v4), .inl (v5), ox_d] [.inl (r1)] σ) rfl ?_
      refine ox_R_to 2 (Y := if r1 = v5 then ox_ev m_She_tableLine (ox_zz ox_ms (n + 1)) 45 0 tl [.inr (.inr (5, 0, 0)), ox_d, ox_d, .inl (v3), .inl (v4), .inl (v5), ox_d] [] σ else ox_ev m_She_tableLine (ox_zz ox_ms (n + 1)) 49 0 tl [.inr (.inr (5, 0, 0)), ox_d, ox_d, .inl (v3), .inl (v4), .inl (v5), ox_d] [] σ) rfl ?_
      refine ox_R_if (fun _ => ?_) (fun _ => ?_)
      · refine ox_R_to 2 (Y := ox_ev m_She_tableLine (ox_zz ox_ms (n + 1)) 50 0 tl [.inr (.inr (5, 0, 0)), ox_d, ox_d, .inl (v3), .inl (v4), .inl (v5), ox_d] [.inl (1)] σ) rfl ?_
        exact (L_She_tableLine_50 v3 v4 v5 1 σ n tl)
      · exact (L_She_tableLine_49 v3 v4 v5 σ n tl)
def F_She_tableLine  (a1 : Int) (a2 : Int) (σ : ox_H) : Option (Int) := (F_Otl_ownEnd a1 σ).bind fun r2 => ((F_Otl_lineOf a1 σ).bind fun r3 => (J_She_tableLine_22 a2 r2 r3 σ))
theorem L_She_tableLine  (a1 : Int) (a2 : Int) (σ : ox_H) (n tl : Nat) : ox_R (fun r => some ((fun r : Int => ((.inl (some (.inl r)), σ) : ox_O)) r)) (F_She_tableLine a1 a2 σ) (ox_zz ox_ms (n + 2) 227 tl [.inr (.inr (5, 0, 0)), .inl (a1), .inl (a2)] σ) := by
  unfold F_She_tableLine
  refine ox_R_of (Y := ox_ev m_She_tableLine (ox_zz ox_ms (n + 1)) 0 0 tl [.inr (.inr (5, 0, 0)), .inl (a1), .inl (a2), ox_d, ox_d, ox_d, ox_d] [] σ) rfl ?_
  refine ox_R_to 6 (Y := ox_back m_She_tableLine 7 3 [] ((ox_zz ox_ms (n + 1)) 184 tl [.inr (.inr (2, 0, 0)), .inl (a1)] σ) (fun pc9 x9 st9 σ9 => ox_ev m_She_tableLine (ox_zz ox_ms (n + 1)) pc9 0 tl (ox_kl (m_She_tableLine.2.2.1 pc9) (ox_xl x9 [.inr (.inr (5, 0, 0)), .inl (a1), .inl (a2), .inl (a2), ox_d, ox_d, ox_d])) st9 σ9)) rfl ?_
  refine ox_R_call (fc := (fun r : Int => ((.inl (some (.inl r)), σ) : ox_O))) (L_Otl_ownEnd a1 σ (n + 0) tl) (fun r2 => ?_)
  refine ox_R_of (Y := ox_ev m_She_tableLine (ox_zz ox_ms (n + 1)) 10 0 tl [.inr (.inr (5, 0, 0)), .inl (a1), .inl (a2), .inl (a2), ox_d, ox_d, ox_d] [.inl (r2)] σ) rfl ?_
  refine ox_R_to 5 (Y := ox_back m_She_tableLine 17 3 [] ((ox_zz ox_ms (n + 1)) 174 tl [.inr (.inr (2, 0, 0)), .inl (a1)] σ) (fun pc9 x9 st9 σ9 => ox_ev m_She_tableLine (ox_zz ox_ms (n + 1)) pc9 0 tl (ox_kl (m_She_tableLine.2.2.1 pc9) (ox_xl x9 [.inr (.inr (5, 0, 0)), .inl (a1), .inl (a2), .inl (a2), .inl (r2), ox_d, ox_d])) st9 σ9)) rfl ?_
  refine ox_R_call (fc := (fun r : Int => ((.inl (some (.inl r)), σ) : ox_O))) (L_Otl_lineOf a1 σ (n + 0) tl) (fun r3 => ?_)
  refine ox_R_of (Y := ox_ev m_She_tableLine (ox_zz ox_ms (n + 1)) 20 0 tl [.inr (.inr (5, 0, 0)), .inl (a1), .inl (a2), .inl (a2), .inl (r2), ox_d, ox_d] [.inl (r3)] σ) rfl ?_
  refine ox_R_to 1 (Y := ox_ev m_She_tableLine (ox_zz ox_ms (n + 1)) 22 0 tl [.inr (.inr (5, 0, 0)), ox_d, ox_d, .inl (a2), .inl (r2), .inl (r3), ox_d] [] σ) rfl ?_
  exact (L_She_tableLine_22 a2 r2 r3 σ n tl)
def F_Out_cell  (a1 : Int) (a2 : Int) (a3 : Int) (a4 : Int) (σ : ox_H) : Option ((Nat ⊕ Int) × ox_H) := (F_Otl_refresh σ).bind fun r1 => ((F_Out_checkEntry a1 r1).bind fun r2 => match r2 with | .inl e9 => (some (.inl e9, r1)) | .inr x3 => ((F_She_refresh r1).bind fun r4 => ((F_She_tableLine a1 a2 r4).bind fun r5 => ((F_She_rowLine r5 a3 r4).bind fun r6 => ((F_She_hasCell r6 a4 r4).bind fun r7 => (if r7 = 0 then (some (.inl 1, r4)) else ((F_She_valueAt r6 a4 r4).bind fun r8 => (some (.inr r8, r4)))))))))
theorem L_Out_cell  (a1 : Int) (a2 : Int) (a3 : Int) (a4 : Int) (σ : ox_H) (n tl : Nat) : ox_R (fun r => some ((fun r : (Nat ⊕ Int) × ox_H => (((Sum.elim (fun e : Nat => (.inr e : Option ox_V ⊕ Nat)) (fun v : Int => .inl (some (.inl v))) r.1), r.2) : ox_O)) r)) (F_Out_cell a1 a2 a3 a4 σ) (ox_zz ox_ms (n + 7) 35 tl [.inr (.inr (0, 0, 0)), .inl (a1), .inl (a2), .inl (a3), .inl (a4)] σ) := by
  unfold F_Out_cell
  refine ox_R_of (Y := ox_ev m_Out_cell (ox_zz ox_ms (n + 6)) 0 2 tl [.inr (.inr (0, 0, 0)), .inl (a1), .inl (a2), .inl (a3), .inl (a4), ox_d] [] σ) rfl ?_
  refine ox_R_to 3 (Y := ox_back m_Out_cell 4 2 [] ((ox_zz ox_ms (n + 6)) 169 tl [.inr (.inr (2, 0, 0))] σ) (fun pc9 x9 st9 σ9 => ox_ev m_Out_cell (ox_zz ox_ms (n + 6)) pc9 2 tl (ox_kl (m_Out_cell.2.2.1 pc9) (ox_xl x9 [.inr (.inr (0, 0, 0)), .inl (a1), .inl (a2), .inl (a3), .inl (a4), ox_d])) st9 σ9)) rfl ?_
  refine ox_R_call (fc := (fun r : ox_H => ((.inl none, r) : ox_O))) (L_Otl_refresh σ (n + 0) tl) (fun r1 => ?_)
  refine ox_R_of (Y := ox_ev m_Out_cell (ox_zz ox_ms (n + 6)) 7 2 tl [.inr (.inr (0, 0, 0)), .inl (a1), .inl (a2), .inl (a3), .inl (a4), ox_d] [] r1) rfl ?_
  refine ox_R_to 3 (Y := ox_back m_Out_cell 9 0 [] ((ox_zz ox_ms (n + 6)) 18 tl [.inr (.inr (0, 0, 0)), .inl (a1)] r1) (fun pc9 x9 st9 σ9 => ox_ev m_Out_cell (ox_zz ox_ms (n + 6)) pc9 1 tl (ox_kl (m_Out_cell.2.2.1 pc9) (ox_xl x9 [.inr (.inr (0, 0, 0)), .inl (a1), .inl (a2), .inl (a3), .inl (a4), ox_d])) st9 σ9)) rfl ?_
  refine ox_R_call (fc := (fun r : (Nat ⊕ Unit) => (((Sum.elim (fun e : Nat => (.inr e : Option ox_V ⊕ Nat)) (fun v : Unit => .inl none) r), r1) : ox_O))) (L_Out_checkEntry a1 r1 (n + 4) tl) (fun r2 => ?_)
  rcases r2 with e9 | x3
  · refine ox_R_of (Y := some (.inr e9, r1)) rfl ?_
    exact ox_R_ret rfl
  · refine ox_R_of (Y := ox_ev m_Out_cell (ox_zz ox_ms (n + 6)) 12 1 tl [.inr (.inr (0, 0, 0)), .inl (a1), .inl (a2), .inl (a3), .inl (a4), ox_d] [] r1) rfl ?_
    refine ox_R_to 3 (Y := ox_back m_Out_cell 16 2 [] ((ox_zz ox_ms (n + 6)) 217 tl [.inr (.inr (5, 0, 0))] r1) (fun pc9 x9 st9 σ9 => ox_ev m_Out_cell (ox_zz ox_ms (n + 6)) pc9 1 tl (ox_kl (m_Out_cell.2.2.1 pc9) (ox_xl x9 [.inr (.inr (0, 0, 0)), .inl (a1), .inl (a2), .inl (a3), .inl (a4), ox_d])) st9 σ9)) rfl ?_
    refine ox_R_call (fc := (fun r : ox_H => ((.inl none, r) : ox_O))) (L_She_refresh r1 (n + 0) tl) (fun r4 => ?_)
    refine ox_R_of (Y := ox_ev m_Out_cell (ox_zz ox_ms (n + 6)) 19 1 tl [.inr (.inr (0, 0, 0)), .inl (a1), .inl (a2), .inl (a3), .inl (a4), ox_d] [] r4) rfl ?_
    refine ox_R_to 7 (Y := ox_back m_Out_cell 29 3 [.inr (.inr (5, 0, 0))] ((ox_zz ox_ms (n + 6)) 227 tl [.inr (.inr (5, 0, 0)), .inl (a1), .inl (a2)] r4) (fun pc9 x9 st9 σ9 => ox_ev m_Out_cell (ox_zz ox_ms (n + 6)) pc9 1 tl (ox_kl (m_Out_cell.2.2.1 pc9) (ox_xl x9 [.inr (.inr (0, 0, 0)), .inl (a1), .inl (a2), .inl (a3), .inl (a4), ox_d])) st9 σ9)) rfl ?_
    refine ox_R_call (fc := (fun r : Int => ((.inl (some (.inl r)), r4) : ox_O))) (L_She_tableLine a1 a2 r4 (n + 4) tl) (fun r5 => ?_)
    refine ox_R_of (Y := ox_ev m_Out_cell (ox_zz ox_ms (n + 6)) 32 1 tl [.inr (.inr (0, 0, 0)), .inl (a1), .inl (a2), .inl (a3), .inl (a4), ox_d] [.inl (r5), .inr (.inr (5, 0, 0))] r4) rfl ?_
    refine ox_R_to 2 (Y := ox_back m_Out_cell 33 3 [] ((ox_zz ox_ms (n + 6)) 228 tl [.inr (.inr (5, 0, 0)), .inl (r5), .inl (a3)] r4) (fun pc9 x9 st9 σ9 => ox_ev m_Out_cell (ox_zz ox_ms (n + 6)) pc9 1 tl (ox_kl (m_Out_cell.2.2.1 pc9) (ox_xl x9 [.inr (.inr (0, 0, 0)), .inl (a1), .inl (a2), .inl (a3), .inl (a4), ox_d])) st9 σ9)) rfl ?_
    refine ox_R_call (fc := (fun r : Int => ((.inl (some (.inl r)), r4) : ox_O))) (L_She_rowLine r5 a3 r4 (n + 4) tl) (fun r6 => ?_)
    refine ox_R_of (Y := ox_ev m_Out_cell (ox_zz ox_ms (n + 6)) 36 1 tl [.inr (.inr (0, 0, 0)), .inl (a1), .inl (a2), .inl (a3), .inl (a4), ox_d] [.inl (r6)] r4) rfl ?_
    refine ox_R_to 6 (Y := ox_back m_Out_cell 46 3 [] ((ox_zz ox_ms (n + 6)) 229 tl [.inr (.inr (5, 0, 0)), .inl (r6), .inl (a4)] r4) (fun pc9 x9 st9 σ9 => ox_ev m_Out_cell (ox_zz ox_ms (n + 6)) pc9 1 tl (ox_kl (m_Out_cell.2.2.1 pc9) (ox_xl x9 [.inr (.inr (0, 0, 0)), .inl (a1), .inl (a2), .inl (a3), .inl (a4), .inl (r6)])) st9 σ9)) rfl ?_
    refine ox_R_call (fc := (fun r : Int => ((.inl (some (.inl r)), r4) : ox_O))) (L_She_hasCell r6 a4 r4 (n + 4) tl) (fun r7 => ?_)
    refine ox_R_of (Y := ox_ev m_Out_cell (ox_zz ox_ms (n + 6)) 49 1 tl [.inr (.inr (0, 0, 0)), .inl (a1), .inl (a2), .inl (a3), .inl (a4), .inl (r6)] [.inl (r7)] r4) rfl ?_
    refine ox_R_to 1 (Y := if r7 = 0 then ox_ev m_Out_cell (ox_zz ox_ms (n + 6)) 52 1 tl [.inr (.inr (0, 0, 0)), .inl (a1), .inl (a2), .inl (a3), .inl (a4), .inl (r6)] [] r4 else ox_ev m_Out_cell (ox_zz ox_ms (n + 6)) 63 1 tl [.inr (.inr (0, 0, 0)), .inl (a1), .inl (a2), .inl (a3), .inl (a4), .inl (r6)] [] r4) rfl ?_
    refine ox_R_if (fun _ => ?_) (fun _ => ?_)
    · refine ox_R_to 1 (Y := some (.inr 1, r4)) rfl ?_
      exact ox_R_ret rfl
    · refine ox_R_to 5 (Y := ox_back m_Out_cell 71 3 [] ((ox_zz ox_ms (n + 6)) 230 tl [.inr (.inr (5, 0, 0)), .inl (r6), .inl (a4)] r4) (fun pc9 x9 st9 σ9 => ox_ev m_Out_cell (ox_zz ox_ms (n + 6)) pc9 1 tl (ox_kl (m_Out_cell.2.2.1 pc9) (ox_xl x9 [.inr (.inr (0, 0, 0)), .inl (a1), .inl (a2), .inl (a3), .inl (a4), .inl (r6)])) st9 σ9)) rfl ?_
      refine ox_R_call (fc := (fun r : Int => ((.inl (some (.inl r)), r4) : ox_O))) (L_She_valueAt r6 a4 r4 (n + 5) tl) (fun r8 => ?_)
      refine ox_R_of (Y := ox_ev m_Out_cell (ox_zz ox_ms (n + 6)) 74 1 tl [.inr (.inr (0, 0, 0)), .inl (a1), .inl (a2), .inl (a3), .inl (a4), .inl (r6)] [.inl (r8)] r4) rfl ?_
      refine ox_R_to 1 (Y := some (.inl (some (.inl (r8))), r4)) rfl ?_
      exact ox_R_ret rfl
def J_Kep_counts_31  (s0 : Int) (σ : ox_H) : Option Int := some (s0 % 2)
theorem L_Kep_counts_31  (s0 : Int) (σ : ox_H) (n tl : Nat) : ox_R (fun r => some ((fun r : Int => ((.inl (some (.inl r)), σ) : ox_O)) r)) (J_Kep_counts_31 s0 σ) (ox_ev m_Kep_counts (ox_zz ox_ms (n + 1)) 31 0 tl [ox_d, ox_d, ox_d] [.inl (s0)] σ) := by
  unfold J_Kep_counts_31
  refine ox_R_to 1 (Y := some (.inl (some (.inl (s0 % 2))), σ)) rfl ?_
  exact ox_R_ret rfl
def J_Kep_counts_26  (σ : ox_H) : Option Int := (J_Kep_counts_31 1 σ)
theorem L_Kep_counts_26  (σ : ox_H) (n tl : Nat) : ox_R (fun r => some ((fun r : Int => ((.inl (some (.inl r)), σ) : ox_O)) r)) (J_Kep_counts_26 σ) (ox_ev m_Kep_counts (ox_zz ox_ms (n + 1)) 26 0 tl [ox_d, ox_d, ox_d] [] σ) := by
  unfold J_Kep_counts_26
  refine ox_R_to 2 (Y := ox_ev m_Kep_counts (ox_zz ox_ms (n + 1)) 31 0 tl [ox_d, ox_d, ox_d] [.inl (1)] σ) rfl ?_
  exact (L_Kep_counts_31 1 σ n tl)
def F_Kep_counts  (a1 : Int) (σ : ox_H) : Option (Int) := (F_Otl_reading a1 σ).bind fun r1 => (if (σ 4 r1 0 0) = 5 then (J_Kep_counts_26 σ) else (if (σ 4 r1 0 0) = 1 then (J_Kep_counts_26 σ) else (if (σ 4 r1 0 0) = 0 then (J_Kep_counts_26 σ) else (J_Kep_counts_31 0 σ))))
theorem L_Kep_counts  (a1 : Int) (σ : ox_H) (n tl : Nat) : ox_R (fun r => some ((fun r : Int => ((.inl (some (.inl r)), σ) : ox_O)) r)) (F_Kep_counts a1 σ) (ox_zz ox_ms (n + 2) 151 tl [.inr (.inr (8, 0, 0)), .inl (a1)] σ) := by
  unfold F_Kep_counts
  refine ox_R_of (Y := ox_ev m_Kep_counts (ox_zz ox_ms (n + 1)) 0 0 tl [.inr (.inr (8, 0, 0)), .inl (a1), ox_d] [] σ) rfl ?_
  refine ox_R_to 4 (Y := ox_back m_Kep_counts 5 3 [] ((ox_zz ox_ms (n + 1)) 172 tl [.inr (.inr (2, 0, 0)), .inl (a1)] σ) (fun pc9 x9 st9 σ9 => ox_ev m_Kep_counts (ox_zz ox_ms (n + 1)) pc9 0 tl (ox_kl (m_Kep_counts.2.2.1 pc9) (ox_xl x9 [.inr (.inr (8, 0, 0)), .inl (a1), ox_d])) st9 σ9)) rfl ?_
  refine ox_R_call (fc := (fun r : Nat => ((.inl (some (.inr (.inr (4, r, 0)))), σ) : ox_O))) (L_Otl_reading a1 σ (n + 0) tl) (fun r1 => ?_)
  refine ox_R_of (Y := ox_ev m_Kep_counts (ox_zz ox_ms (n + 1)) 8 0 tl [.inr (.inr (8, 0, 0)), .inl (a1), ox_d] [.inr (.inr (4, r1, 0))] σ) rfl ?_
  refine ox_R_to 5 (Y := if (σ 4 r1 0 0) = 5 then ox_ev m_Kep_counts (ox_zz ox_ms (n + 1)) 26 0 tl [ox_d, ox_d, ox_d] [] σ else ox_ev m_Kep_counts (ox_zz ox_ms (n + 1)) 17 0 tl [.inr (.inr (8, 0, 0)), .inl (a1), .inl (σ 4 r1 0 0)] [] σ) rfl ?_
  refine ox_R_if (fun _ => ?_) (fun _ => ?_)
  · exact (L_Kep_counts_26 σ n tl)
  · refine ox_R_to 3 (Y := if (σ 4 r1 0 0) = 1 then ox_ev m_Kep_counts (ox_zz ox_ms (n + 1)) 26 0 tl [ox_d, ox_d, ox_d] [] σ else ox_ev m_Kep_counts (ox_zz ox_ms (n + 1)) 22 0 tl [.inr (.inr (8, 0, 0)), .inl (a1), .inl (σ 4 r1 0 0)] [] σ) rfl ?_
    refine ox_R_if (fun _ => ?_) (fun _ => ?_)
    · exact (L_Kep_counts_26 σ n tl)
    · refine ox_R_to 2 (Y := if (σ 4 r1 0 0) = 0 then ox_ev m_Kep_counts (ox_zz ox_ms (n + 1)) 26 0 tl [ox_d, ox_d, ox_d] [] σ else ox_ev m_Kep_counts (ox_zz ox_ms (n + 1)) 30 0 tl [.inr (.inr (8, 0, 0)), .inl (a1), .inl (σ 4 r1 0 0)] [] σ) rfl ?_
      refine ox_R_if (fun _ => ?_) (fun _ => ?_)
      · exact (L_Kep_counts_26 σ n tl)
      · refine ox_R_to 1 (Y := ox_ev m_Kep_counts (ox_zz ox_ms (n + 1)) 31 0 tl [ox_d, ox_d, ox_d] [.inl (0)] σ) rfl ?_
        exact (L_Kep_counts_31 0 σ n tl)
def J_Lin_isLike_53  (σ : ox_H) : Option Int := some 1
theorem L_Lin_isLike_53  (σ : ox_H) (n tl : Nat) : ox_R (fun r => some ((fun r : Int => ((.inl (some (.inl r)), σ) : ox_O)) r)) (J_Lin_isLike_53 σ) (ox_ev m_Lin_isLike (ox_zz ox_ms (n + 1)) 53 0 tl [ox_d, ox_d, ox_d, ox_d, ox_d] [] σ) := by
  unfold J_Lin_isLike_53
  refine ox_R_to 2 (Y := some (.inl (some (.inl (1))), σ)) rfl ?_
  exact ox_R_ret rfl
def J_Lin_isLike_45  (σ : ox_H) : Option Int := some 0
theorem L_Lin_isLike_45  (σ : ox_H) (n tl : Nat) : ox_R (fun r => some ((fun r : Int => ((.inl (some (.inl r)), σ) : ox_O)) r)) (J_Lin_isLike_45 σ) (ox_ev m_Lin_isLike (ox_zz ox_ms (n + 1)) 45 0 tl [ox_d, ox_d, ox_d, ox_d, ox_d] [] σ) := by
  unfold J_Lin_isLike_45
  refine ox_R_to 2 (Y := some (.inl (some (.inl (0))), σ)) rfl ?_
  exact ox_R_ret rfl
def B_Lin_isLike_18  (v0 : Nat) (v1 : Int) (v2 : Nat) (v3 : Int) (σ : ox_H) : (Int) → Option (((Int) ⊕ Int)) := fun v4 => (F_Lin_size v0 v1 σ).bind fun r1 => (if r1 ≤ v4 then ((J_Lin_isLike_53 σ).map .inr) else ((F_Lin_at v0 v1 v4 σ).bind fun r2 => ((F_Lin_at v2 v3 v4 σ).bind fun r3 => (if r2 = r3 then (some (.inl (ox_w (v4 + 1)))) else ((J_Lin_isLike_45 σ).map .inr)))))
def J_Lin_isLike_18  (v0 : Nat) (v1 : Int) (v2 : Nat) (v3 : Int) (v4 : Int) (σ : ox_H) : Option (Int) := ox_lp (B_Lin_isLike_18 v0 v1 v2 v3 σ) ox_fu v4
theorem L_Lin_isLike_18  (v0 : Nat) (v1 : Int) (v2 : Nat) (v3 : Int) (v4 : Int) (σ : ox_H) (n tl : Nat) : ox_R (fun r => some ((fun r : Int => ((.inl (some (.inl r)), σ) : ox_O)) r)) (J_Lin_isLike_18 v0 v1 v2 v3 v4 σ) (ox_ev m_Lin_isLike (ox_zz ox_ms (n + 1)) 18 0 tl [.inr (.inr (1, v0, 0)), .inl (v1), .inr (.inr (1, v2, 0)), .inl (v3), .inl (v4)] [] σ) := by
  unfold J_Lin_isLike_18
  refine ox_R_lp (ψ := (fun (v4 : Int) => ox_ev m_Lin_isLike (ox_zz ox_ms (n + 1)) 18 0 tl [.inr (.inr (1, v0, 0)), .inl (v1), .inr (.inr (1, v2, 0)), .inl (v3), .inl (v4)] [] σ)) ?_ ox_fu v4
  intro s
  revert s; intro v4
  unfold B_Lin_isLike_18
  refine ox_R_to 4 (Y := ox_back m_Lin_isLike 22 1 [.inl (v4)] ((ox_zz ox_ms (n + 1)) 156 tl [.inr (.inr (1, v0, 0)), .inl (v1)] σ) (fun pc9 x9 st9 σ9 => ox_ev m_Lin_isLike (ox_zz ox_ms (n + 1)) pc9 0 tl (ox_kl (m_Lin_isLike.2.2.1 pc9) (ox_xl x9 [.inr (.inr (1, v0, 0)), .inl (v1), .inr (.inr (1, v2, 0)), .inl (v3), .inl (v4)])) st9 σ9)) rfl ?_
  refine ox_R_call (fc := (fun r : Int => ((.inl (some (.inl r)), σ) : ox_O))) (L_Lin_size v0 v1 σ (n + 0) tl) (fun r1 => ?_)
  refine ox_R_of (Y := ox_ev m_Lin_isLike (ox_zz ox_ms (n + 1)) 25 0 tl [.inr (.inr (1, v0, 0)), .inl (v1), .inr (.inr (1, v2, 0)), .inl (v3), .inl (v4)] [.inl (r1), .inl (v4)] σ) rfl ?_
  refine ox_R_to 1 (Y := if r1 ≤ v4 then ox_ev m_Lin_isLike (ox_zz ox_ms (n + 1)) 53 0 tl [ox_d, ox_d, ox_d, ox_d, ox_d] [] σ else ox_ev m_Lin_isLike (ox_zz ox_ms (n + 1)) 28 0 tl [.inr (.inr (1, v0, 0)), .inl (v1), .inr (.inr (1, v2, 0)), .inl (v3), .inl (v4)] [] σ) rfl ?_
  refine ox_R_if (fun _ => ?_) (fun _ => ?_)
  · exact ox_R_map ((L_Lin_isLike_53 σ n tl))
  · refine ox_R_to 4 (Y := ox_back m_Lin_isLike 32 1 [] ((ox_zz ox_ms (n + 1)) 157 tl [.inr (.inr (1, v0, 0)), .inl (v1), .inl (v4)] σ) (fun pc9 x9 st9 σ9 => ox_ev m_Lin_isLike (ox_zz ox_ms (n + 1)) pc9 0 tl (ox_kl (m_Lin_isLike.2.2.1 pc9) (ox_xl x9 [.inr (.inr (1, v0, 0)), .inl (v1), .inr (.inr (1, v2, 0)), .inl (v3), .inl (v4)])) st9 σ9)) rfl ?_
    refine ox_R_call (fc := (fun r : Int => ((.inl (some (.inl r)), σ) : ox_O))) (L_Lin_at v0 v1 v4 σ (n + 0) tl) (fun r2 => ?_)
    refine ox_R_of (Y := ox_ev m_Lin_isLike (ox_zz ox_ms (n + 1)) 35 0 tl [.inr (.inr (1, v0, 0)), .inl (v1), .inr (.inr (1, v2, 0)), .inl (v3), .inl (v4)] [.inl (r2)] σ) rfl ?_
    refine ox_R_to 4 (Y := ox_back m_Lin_isLike 39 1 [.inl (r2)] ((ox_zz ox_ms (n + 1)) 157 tl [.inr (.inr (1, v2, 0)), .inl (v3), .inl (v4)] σ) (fun pc9 x9 st9 σ9 => ox_ev m_Lin_isLike (ox_zz ox_ms (n + 1)) pc9 0 tl (ox_kl (m_Lin_isLike.2.2.1 pc9) (ox_xl x9 [.inr (.inr (1, v0, 0)), .inl (v1), .inr (.inr (1, v2, 0)), .inl (v3), .inl (v4)])) st9 σ9)) rfl ?_
    refine ox_R_call (fc := (fun r : Int => ((.inl (some (.inl r)), σ) : ox_O))) (L_Lin_at v2 v3 v4 σ (n + 0) tl) (fun r3 => ?_)
    refine ox_R_of (Y := ox_ev m_Lin_isLike (ox_zz ox_ms (n + 1)) 42 0 tl [.inr (.inr (1, v0, 0)), .inl (v1), .inr (.inr (1, v2, 0)), .inl (v3), .inl (v4)] [.inl (r3), .inl (r2)] σ) rfl ?_
    refine ox_R_to 1 (Y := if r2 = r3 then ox_ev m_Lin_isLike (ox_zz ox_ms (n + 1)) 47 0 tl [.inr (.inr (1, v0, 0)), .inl (v1), .inr (.inr (1, v2, 0)), .inl (v3), .inl (v4)] [] σ else ox_ev m_Lin_isLike (ox_zz ox_ms (n + 1)) 45 0 tl [ox_d, ox_d, ox_d, ox_d, ox_d] [] σ) rfl ?_
    refine ox_R_if (fun _ => ?_) (fun _ => ?_)
    · refine ox_R_to 2 (Y := ox_ev m_Lin_isLike (ox_zz ox_ms (n + 1)) 18 0 tl [.inr (.inr (1, v0, 0)), .inl (v1), .inr (.inr (1, v2, 0)), .inl (v3), .inl (ox_w (v4 + 1))] [] σ) rfl ?_
      exact ox_R_ret rfl
    · exact ox_R_map ((L_Lin_isLike_45 σ n tl))
def F_Lin_isLike  (k : Nat) (a1 : Int) (k2 : Nat) (a3 : Int) (σ : ox_H) : Option (Int) := (F_Lin_size k a1 σ).bind fun r4 => ((F_Lin_size k2 a3 σ).bind fun r5 => (if r4 = r5 then (J_Lin_isLike_18 k a1 k2 a3 0 σ) else (some 0)))
theorem L_Lin_isLike  (k : Nat) (a1 : Int) (k2 : Nat) (a3 : Int) (σ : ox_H) (n tl : Nat) : ox_R (fun r => some ((fun r : Int => ((.inl (some (.inl r)), σ) : ox_O)) r)) (F_Lin_isLike k a1 k2 a3 σ) (ox_zz ox_ms (n + 2) 161 tl [.inr (.inr (1, k, 0)), .inl (a1), .inr (.inr (1, k2, 0)), .inl (a3)] σ) := by
  unfold F_Lin_isLike
  refine ox_R_of (Y := ox_ev m_Lin_isLike (ox_zz ox_ms (n + 1)) 0 0 tl [.inr (.inr (1, k, 0)), .inl (a1), .inr (.inr (1, k2, 0)), .inl (a3), ox_d] [] σ) rfl ?_
  refine ox_R_to 3 (Y := ox_back m_Lin_isLike 2 1 [] ((ox_zz ox_ms (n + 1)) 156 tl [.inr (.inr (1, k, 0)), .inl (a1)] σ) (fun pc9 x9 st9 σ9 => ox_ev m_Lin_isLike (ox_zz ox_ms (n + 1)) pc9 0 tl (ox_kl (m_Lin_isLike.2.2.1 pc9) (ox_xl x9 [.inr (.inr (1, k, 0)), .inl (a1), .inr (.inr (1, k2, 0)), .inl (a3), ox_d])) st9 σ9)) rfl ?_
  refine ox_R_call (fc := (fun r : Int => ((.inl (some (.inl r)), σ) : ox_O))) (L_Lin_size k a1 σ (n + 0) tl) (fun r4 => ?_)
  refine ox_R_of (Y := ox_ev m_Lin_isLike (ox_zz ox_ms (n + 1)) 5 0 tl [.inr (.inr (1, k, 0)), .inl (a1), .inr (.inr (1, k2, 0)), .inl (a3), ox_d] [.inl (r4)] σ) rfl ?_
  refine ox_R_to 3 (Y := ox_back m_Lin_isLike 7 1 [.inl (r4)] ((ox_zz ox_ms (n + 1)) 156 tl [.inr (.inr (1, k2, 0)), .inl (a3)] σ) (fun pc9 x9 st9 σ9 => ox_ev m_Lin_isLike (ox_zz ox_ms (n + 1)) pc9 0 tl (ox_kl (m_Lin_isLike.2.2.1 pc9) (ox_xl x9 [.inr (.inr (1, k, 0)), .inl (a1), .inr (.inr (1, k2, 0)), .inl (a3), ox_d])) st9 σ9)) rfl ?_
  refine ox_R_call (fc := (fun r : Int => ((.inl (some (.inl r)), σ) : ox_O))) (L_Lin_size k2 a3 σ (n + 0) tl) (fun r5 => ?_)
  refine ox_R_of (Y := ox_ev m_Lin_isLike (ox_zz ox_ms (n + 1)) 10 0 tl [.inr (.inr (1, k, 0)), .inl (a1), .inr (.inr (1, k2, 0)), .inl (a3), ox_d] [.inl (r5), .inl (r4)] σ) rfl ?_
  refine ox_R_to 1 (Y := if r4 = r5 then ox_ev m_Lin_isLike (ox_zz ox_ms (n + 1)) 15 0 tl [.inr (.inr (1, k, 0)), .inl (a1), .inr (.inr (1, k2, 0)), .inl (a3), ox_d] [] σ else ox_ev m_Lin_isLike (ox_zz ox_ms (n + 1)) 13 0 tl [.inr (.inr (1, k, 0)), .inl (a1), .inr (.inr (1, k2, 0)), .inl (a3), ox_d] [] σ) rfl ?_
  refine ox_R_if (fun _ => ?_) (fun _ => ?_)
  · refine ox_R_to 2 (Y := ox_ev m_Lin_isLike (ox_zz ox_ms (n + 1)) 18 0 tl [.inr (.inr (1, k, 0)), .inl (a1), .inr (.inr (1, k2, 0)), .inl (a3), .inl (0)] [] σ) rfl ?_
    exact (L_Lin_isLike_18 k a1 k2 a3 0 σ n tl)
  · refine ox_R_to 2 (Y := some (.inl (some (.inl (0))), σ)) rfl ?_
    exact ox_R_ret rfl
def J_Kep_isAsSeen_86  (s0 : Int) (σ : ox_H) : Option Int := some (s0 % 2)
theorem L_Kep_isAsSeen_86  (s0 : Int) (σ : ox_H) (n tl : Nat) : ox_R (fun r => some ((fun r : Int => ((.inl (some (.inl r)), σ) : ox_O)) r)) (J_Kep_isAsSeen_86 s0 σ) (ox_ev m_Kep_isAsSeen (ox_zz ox_ms (n + 2)) 86 0 tl [ox_d, ox_d, ox_d] [.inl (s0)] σ) := by
  unfold J_Kep_isAsSeen_86
  refine ox_R_to 1 (Y := some (.inl (some (.inl (s0 % 2))), σ)) rfl ?_
  exact ox_R_ret rfl
def J_Kep_isAsSeen_70  (v1 : Int) (σ : ox_H) : Option Int := if v1 = (σ 1 3 4 0) then (J_Kep_isAsSeen_86 1 σ) else (J_Kep_isAsSeen_86 0 σ)
theorem L_Kep_isAsSeen_70  (v1 : Int) (σ : ox_H) (n tl : Nat) : ox_R (fun r => some ((fun r : Int => ((.inl (some (.inl r)), σ) : ox_O)) r)) (J_Kep_isAsSeen_70 v1 σ) (ox_ev m_Kep_isAsSeen (ox_zz ox_ms (n + 2)) 70 0 tl [.inr (.inr (8, 0, 0)), .inl (v1), ox_d] [] σ) := by
  unfold J_Kep_isAsSeen_70
  refine ox_R_to 5 (Y := if v1 = (σ 1 3 4 0) then ox_ev m_Kep_isAsSeen (ox_zz ox_ms (n + 2)) 81 0 tl [.inr (.inr (8, 0, 0)), .inl (v1), ox_d] [] σ else ox_ev m_Kep_isAsSeen (ox_zz ox_ms (n + 2)) 85 0 tl [.inr (.inr (8, 0, 0)), .inl (v1), ox_d] [] σ) rfl ?_
  refine ox_R_if (fun _ => ?_) (fun _ => ?_)
  · refine ox_R_to 2 (Y := ox_ev m_Kep_isAsSeen (ox_zz ox_ms (n + 2)) 86 0 tl [ox_d, ox_d, ox_d] [.inl (1)] σ) rfl ?_
    exact (L_Kep_isAsSeen_86 1 σ n tl)
  · refine ox_R_to 1 (Y := ox_ev m_Kep_isAsSeen (ox_zz ox_ms (n + 2)) 86 0 tl [ox_d, ox_d, ox_d] [.inl (0)] σ) rfl ?_
    exact (L_Kep_isAsSeen_86 0 σ n tl)
def J_Kep_isAsSeen_64  (v1 : Int) (v2 : Int) (σ : ox_H) : Option (((Int × Int) ⊕ Int)) := some (.inl (v1, ox_w (v2 + 1)))
theorem L_Kep_isAsSeen_64  (v1 : Int) (v2 : Int) (σ : ox_H) (n tl : Nat) : ox_R (Sum.elim (fun (s : Int × Int) => match s with | (v1, v2) => ox_ev m_Kep_isAsSeen (ox_zz ox_ms (n + 2)) 4 0 tl [.inr (.inr (8, 0, 0)), .inl (v1), .inl (v2)] [] σ) (fun r => some ((fun r : Int => ((.inl (some (.inl r)), σ) : ox_O)) r))) (J_Kep_isAsSeen_64 v1 v2 σ) (ox_ev m_Kep_isAsSeen (ox_zz ox_ms (n + 2)) 64 0 tl [.inr (.inr (8, 0, 0)), .inl (v1), .inl (v2)] [] σ) := by
  unfold J_Kep_isAsSeen_64
  refine ox_R_to 2 (Y := ox_ev m_Kep_isAsSeen (ox_zz ox_ms (n + 2)) 4 0 tl [.inr (.inr (8, 0, 0)), .inl (v1), .inl (ox_w (v2 + 1))] [] σ) rfl ?_
  exact ox_R_ret rfl
def J_Kep_isAsSeen_59  (σ : ox_H) : Option Int := some 0
theorem L_Kep_isAsSeen_59  (σ : ox_H) (n tl : Nat) : ox_R (fun r => some ((fun r : Int => ((.inl (some (.inl r)), σ) : ox_O)) r)) (J_Kep_isAsSeen_59 σ) (ox_ev m_Kep_isAsSeen (ox_zz ox_ms (n + 2)) 59 0 tl [ox_d, ox_d, ox_d] [] σ) := by
  unfold J_Kep_isAsSeen_59
  refine ox_R_to 2 (Y := some (.inl (some (.inl (0))), σ)) rfl ?_
  exact ox_R_ret rfl
def B_Kep_isAsSeen_4  (σ : ox_H) : (Int × Int) → Option (((Int × Int) ⊕ Int)) := fun (v1, v2) => if (σ 1 0 4 0) ≤ v2 then ((J_Kep_isAsSeen_70 v1 σ).map .inr) else ((F_Kep_counts v2 σ).bind fun r1 => (if r1 = 0 then (J_Kep_isAsSeen_64 v1 v2 σ) else ((F_Lin_has 3 v1 σ).bind fun r2 => (if r2 = 0 then ((J_Kep_isAsSeen_59 σ).map .inr) else ((F_Lin_isLike 3 v1 0 v2 σ).bind fun r3 => (if r3 = 0 then ((J_Kep_isAsSeen_59 σ).map .inr) else (J_Kep_isAsSeen_64 (ox_w (v1 + 1)) v2 σ)))))))
def J_Kep_isAsSeen_4  (v1 : Int) (v2 : Int) (σ : ox_H) : Option (Int) := ox_lp (B_Kep_isAsSeen_4 σ) ox_fu (v1, v2)
theorem L_Kep_isAsSeen_4  (v1 : Int) (v2 : Int) (σ : ox_H) (n tl : Nat) : ox_R (fun r => some ((fun r : Int => ((.inl (some (.inl r)), σ) : ox_O)) r)) (J_Kep_isAsSeen_4 v1 v2 σ) (ox_ev m_Kep_isAsSeen (ox_zz ox_ms (n + 2)) 4 0 tl [.inr (.inr (8, 0, 0)), .inl (v1), .inl (v2)] [] σ) := by
  unfold J_Kep_isAsSeen_4
  refine ox_R_lp (ψ := (fun (s : Int × Int) => match s with | (v1, v2) => ox_ev m_Kep_isAsSeen (ox_zz ox_ms (n + 2)) 4 0 tl [.inr (.inr (8, 0, 0)), .inl (v1), .inl (v2)] [] σ)) ?_ ox_fu (v1, v2)
  intro s
  obtain ⟨v1, v2⟩ := s
  unfold B_Kep_isAsSeen_4
  refine ox_R_to 6 (Y := if (σ 1 0 4 0) ≤ v2 then ox_ev m_Kep_isAsSeen (ox_zz ox_ms (n + 2)) 70 0 tl [.inr (.inr (8, 0, 0)), .inl (v1), ox_d] [] σ else ox_ev m_Kep_isAsSeen (ox_zz ox_ms (n + 2)) 18 0 tl [.inr (.inr (8, 0, 0)), .inl (v1), .inl (v2)] [] σ) rfl ?_
  refine ox_R_if (fun _ => ?_) (fun _ => ?_)
  · exact ox_R_map ((L_Kep_isAsSeen_70 v1 σ n tl))
  · refine ox_R_to 3 (Y := ox_back m_Kep_isAsSeen 20 1 [] ((ox_zz ox_ms (n + 2)) 151 tl [.inr (.inr (8, 0, 0)), .inl (v2)] σ) (fun pc9 x9 st9 σ9 => ox_ev m_Kep_isAsSeen (ox_zz ox_ms (n + 2)) pc9 0 tl (ox_kl (m_Kep_isAsSeen.2.2.1 pc9) (ox_xl x9 [.inr (.inr (8, 0, 0)), .inl (v1), .inl (v2)])) st9 σ9)) rfl ?_
    refine ox_R_call (fc := (fun r : Int => ((.inl (some (.inl r)), σ) : ox_O))) (L_Kep_counts v2 σ (n + 0) tl) (fun r1 => ?_)
    refine ox_R_of (Y := ox_ev m_Kep_isAsSeen (ox_zz ox_ms (n + 2)) 23 0 tl [.inr (.inr (8, 0, 0)), .inl (v1), .inl (v2)] [.inl (r1)] σ) rfl ?_
    refine ox_R_to 1 (Y := if r1 = 0 then ox_ev m_Kep_isAsSeen (ox_zz ox_ms (n + 2)) 26 0 tl [.inr (.inr (8, 0, 0)), .inl (v1), .inl (v2)] [] σ else ox_ev m_Kep_isAsSeen (ox_zz ox_ms (n + 2)) 29 0 tl [.inr (.inr (8, 0, 0)), .inl (v1), .inl (v2)] [] σ) rfl ?_
    refine ox_R_if (fun _ => ?_) (fun _ => ?_)
    · refine ox_R_to 1 (Y := ox_ev m_Kep_isAsSeen (ox_zz ox_ms (n + 2)) 64 0 tl [.inr (.inr (8, 0, 0)), .inl (v1), .inl (v2)] [] σ) rfl ?_
      exact (L_Kep_isAsSeen_64 v1 v2 σ n tl)
    · refine ox_R_to 4 (Y := ox_back m_Kep_isAsSeen 34 3 [] ((ox_zz ox_ms (n + 2)) 154 tl [.inr (.inr (1, 3, 0)), .inl (v1)] σ) (fun pc9 x9 st9 σ9 => ox_ev m_Kep_isAsSeen (ox_zz ox_ms (n + 2)) pc9 0 tl (ox_kl (m_Kep_isAsSeen.2.2.1 pc9) (ox_xl x9 [.inr (.inr (8, 0, 0)), .inl (v1), .inl (v2)])) st9 σ9)) rfl ?_
      refine ox_R_call (fc := (fun r : Int => ((.inl (some (.inl r)), σ) : ox_O))) (L_Lin_has 3 v1 σ (n + 1) tl) (fun r2 => ?_)
      refine ox_R_of (Y := ox_ev m_Kep_isAsSeen (ox_zz ox_ms (n + 2)) 37 0 tl [.inr (.inr (8, 0, 0)), .inl (v1), .inl (v2)] [.inl (r2)] σ) rfl ?_
      refine ox_R_to 1 (Y := if r2 = 0 then ox_ev m_Kep_isAsSeen (ox_zz ox_ms (n + 2)) 59 0 tl [ox_d, ox_d, ox_d] [] σ else ox_ev m_Kep_isAsSeen (ox_zz ox_ms (n + 2)) 40 0 tl [.inr (.inr (8, 0, 0)), .inl (v1), .inl (v2)] [] σ) rfl ?_
      refine ox_R_if (fun _ => ?_) (fun _ => ?_)
      · exact ox_R_map ((L_Kep_isAsSeen_59 σ n tl))
      · refine ox_R_to 8 (Y := ox_back m_Kep_isAsSeen 53 3 [] ((ox_zz ox_ms (n + 2)) 161 tl [.inr (.inr (1, 3, 0)), .inl (v1), .inr (.inr (1, 0, 0)), .inl (v2)] σ) (fun pc9 x9 st9 σ9 => ox_ev m_Kep_isAsSeen (ox_zz ox_ms (n + 2)) pc9 0 tl (ox_kl (m_Kep_isAsSeen.2.2.1 pc9) (ox_xl x9 [.inr (.inr (8, 0, 0)), .inl (v1), .inl (v2)])) st9 σ9)) rfl ?_
        refine ox_R_call (fc := (fun r : Int => ((.inl (some (.inl r)), σ) : ox_O))) (L_Lin_isLike 3 v1 0 v2 σ (n + 0) tl) (fun r3 => ?_)
        refine ox_R_of (Y := ox_ev m_Kep_isAsSeen (ox_zz ox_ms (n + 2)) 56 0 tl [.inr (.inr (8, 0, 0)), .inl (v1), .inl (v2)] [.inl (r3)] σ) rfl ?_
        refine ox_R_to 1 (Y := if r3 = 0 then ox_ev m_Kep_isAsSeen (ox_zz ox_ms (n + 2)) 59 0 tl [ox_d, ox_d, ox_d] [] σ else ox_ev m_Kep_isAsSeen (ox_zz ox_ms (n + 2)) 61 0 tl [.inr (.inr (8, 0, 0)), .inl (v1), .inl (v2)] [] σ) rfl ?_
        refine ox_R_if (fun _ => ?_) (fun _ => ?_)
        · exact ox_R_map ((L_Kep_isAsSeen_59 σ n tl))
        · refine ox_R_to 1 (Y := ox_ev m_Kep_isAsSeen (ox_zz ox_ms (n + 2)) 64 0 tl [.inr (.inr (8, 0, 0)), .inl (ox_w (v1 + 1)), .inl (v2)] [] σ) rfl ?_
          exact (L_Kep_isAsSeen_64 (ox_w (v1 + 1)) v2 σ n tl)
def F_Kep_isAsSeen  (σ : ox_H) : Option (Int) := (J_Kep_isAsSeen_4 0 0 σ)
theorem L_Kep_isAsSeen  (σ : ox_H) (n tl : Nat) : ox_R (fun r => some ((fun r : Int => ((.inl (some (.inl r)), σ) : ox_O)) r)) (F_Kep_isAsSeen σ) (ox_zz ox_ms (n + 3) 152 tl [.inr (.inr (8, 0, 0))] σ) := by
  unfold F_Kep_isAsSeen
  refine ox_R_of (Y := ox_ev m_Kep_isAsSeen (ox_zz ox_ms (n + 2)) 0 0 tl [.inr (.inr (8, 0, 0)), ox_d, ox_d] [] σ) rfl ?_
  refine ox_R_to 4 (Y := ox_ev m_Kep_isAsSeen (ox_zz ox_ms (n + 2)) 4 0 tl [.inr (.inr (8, 0, 0)), .inl (0), .inl (0)] [] σ) rfl ?_
  exact (L_Kep_isAsSeen_4 0 0 σ n tl)
def J_Kep_refresh_97  (σ : ox_H) : Option ox_H := some σ
theorem L_Kep_refresh_97  (σ : ox_H) (n tl : Nat) : ox_R (fun r => some ((fun r : ox_H => ((.inl none, r) : ox_O)) r)) (J_Kep_refresh_97 σ) (ox_ev m_Kep_refresh (ox_zz ox_ms (n + 3)) 97 0 tl [ox_d, ox_d] [] σ) := by
  unfold J_Kep_refresh_97
  refine ox_R_to 1 (Y := some (.inl none, σ)) rfl ?_
  exact ox_R_ret rfl
def J_Kep_refresh_91  (v1 : Int) (σ : ox_H) : Option (((Int × ox_H) ⊕ ox_H)) := some (.inl (ox_w (v1 + 1), σ))
theorem L_Kep_refresh_91  (v1 : Int) (σ : ox_H) (n tl : Nat) : ox_R (Sum.elim (fun (s : Int × ox_H) => match s with | (v1, σ) => ox_ev m_Kep_refresh (ox_zz ox_ms (n + 3)) 46 0 tl [.inr (.inr (8, 0, 0)), .inl (v1)] [] σ) (fun r => some ((fun r : ox_H => ((.inl none, r) : ox_O)) r))) (J_Kep_refresh_91 v1 σ) (ox_ev m_Kep_refresh (ox_zz ox_ms (n + 3)) 91 0 tl [.inr (.inr (8, 0, 0)), .inl (v1)] [] σ) := by
  unfold J_Kep_refresh_91
  refine ox_R_to 2 (Y := ox_ev m_Kep_refresh (ox_zz ox_ms (n + 3)) 46 0 tl [.inr (.inr (8, 0, 0)), .inl (ox_w (v1 + 1))] [] σ) rfl ?_
  exact ox_R_ret rfl
def B_Kep_refresh_46  : (Int × ox_H) → Option (((Int × ox_H) ⊕ ox_H)) := fun (v1, σ) => if (σ 1 0 4 0) ≤ v1 then ((J_Kep_refresh_97 σ).map .inr) else ((F_Kep_counts v1 σ).bind fun r1 => (if r1 = 0 then (J_Kep_refresh_91 v1 σ) else ((F_Lin_copy 3 0 v1 1 (σ 1 3 4 0) σ).bind fun r2 => (J_Kep_refresh_91 v1 r2))))
def J_Kep_refresh_46  (v1 : Int) (σ : ox_H) : Option (ox_H) := ox_lp (B_Kep_refresh_46) ox_fu (v1, σ)
theorem L_Kep_refresh_46  (v1 : Int) (σ : ox_H) (n tl : Nat) : ox_R (fun r => some ((fun r : ox_H => ((.inl none, r) : ox_O)) r)) (J_Kep_refresh_46 v1 σ) (ox_ev m_Kep_refresh (ox_zz ox_ms (n + 3)) 46 0 tl [.inr (.inr (8, 0, 0)), .inl (v1)] [] σ) := by
  unfold J_Kep_refresh_46
  refine ox_R_lp (ψ := (fun (s : Int × ox_H) => match s with | (v1, σ) => ox_ev m_Kep_refresh (ox_zz ox_ms (n + 3)) 46 0 tl [.inr (.inr (8, 0, 0)), .inl (v1)] [] σ)) ?_ ox_fu (v1, σ)
  intro s
  obtain ⟨v1, σ⟩ := s
  unfold B_Kep_refresh_46
  refine ox_R_to 6 (Y := if (σ 1 0 4 0) ≤ v1 then ox_ev m_Kep_refresh (ox_zz ox_ms (n + 3)) 97 0 tl [ox_d, ox_d] [] σ else ox_ev m_Kep_refresh (ox_zz ox_ms (n + 3)) 60 0 tl [.inr (.inr (8, 0, 0)), .inl (v1)] [] σ) rfl ?_
  refine ox_R_if (fun _ => ?_) (fun _ => ?_)
  · exact ox_R_map ((L_Kep_refresh_97 σ n tl))
  · refine ox_R_to 3 (Y := ox_back m_Kep_refresh 62 1 [] ((ox_zz ox_ms (n + 3)) 151 tl [.inr (.inr (8, 0, 0)), .inl (v1)] σ) (fun pc9 x9 st9 σ9 => ox_ev m_Kep_refresh (ox_zz ox_ms (n + 3)) pc9 0 tl (ox_kl (m_Kep_refresh.2.2.1 pc9) (ox_xl x9 [.inr (.inr (8, 0, 0)), .inl (v1)])) st9 σ9)) rfl ?_
    refine ox_R_call (fc := (fun r : Int => ((.inl (some (.inl r)), σ) : ox_O))) (L_Kep_counts v1 σ (n + 1) tl) (fun r1 => ?_)
    refine ox_R_of (Y := ox_ev m_Kep_refresh (ox_zz ox_ms (n + 3)) 65 0 tl [.inr (.inr (8, 0, 0)), .inl (v1)] [.inl (r1)] σ) rfl ?_
    refine ox_R_to 1 (Y := if r1 = 0 then ox_ev m_Kep_refresh (ox_zz ox_ms (n + 3)) 91 0 tl [.inr (.inr (8, 0, 0)), .inl (v1)] [] σ else ox_ev m_Kep_refresh (ox_zz ox_ms (n + 3)) 68 0 tl [.inr (.inr (8, 0, 0)), .inl (v1)] [] σ) rfl ?_
    refine ox_R_if (fun _ => ?_) (fun _ => ?_)
    · exact (L_Kep_refresh_91 v1 σ n tl)
    · refine ox_R_to 11 (Y := ox_back m_Kep_refresh 88 2 [] ((ox_zz ox_ms (n + 3)) 160 tl [.inr (.inr (1, 3, 0)), .inr (.inr (1, 0, 0)), .inl (v1), .inl (1), .inl (σ 1 3 4 0)] σ) (fun pc9 x9 st9 σ9 => ox_ev m_Kep_refresh (ox_zz ox_ms (n + 3)) pc9 0 tl (ox_kl (m_Kep_refresh.2.2.1 pc9) (ox_xl x9 [.inr (.inr (8, 0, 0)), .inl (v1)])) st9 σ9)) rfl ?_
      refine ox_R_call (fc := (fun r : ox_H => ((.inl none, r) : ox_O))) (L_Lin_copy 3 0 v1 1 (σ 1 3 4 0) σ (n + 1) tl) (fun r2 => ?_)
      refine ox_R_of (Y := ox_ev m_Kep_refresh (ox_zz ox_ms (n + 3)) 91 0 tl [.inr (.inr (8, 0, 0)), .inl (v1)] [] r2) rfl ?_
      exact (L_Kep_refresh_91 v1 r2 n tl)
def J_Kep_refresh_29  (σ : ox_H) : Option ox_H := (F_Lin_close 3 0 (σ 1 3 4 0) σ).bind fun r3 => (J_Kep_refresh_46 0 r3)
theorem L_Kep_refresh_29  (σ : ox_H) (n tl : Nat) : ox_R (fun r => some ((fun r : ox_H => ((.inl none, r) : ox_O)) r)) (J_Kep_refresh_29 σ) (ox_ev m_Kep_refresh (ox_zz ox_ms (n + 3)) 29 0 tl [.inr (.inr (8, 0, 0)), ox_d] [] σ) := by
  unfold J_Kep_refresh_29
  refine ox_R_to 7 (Y := ox_back m_Kep_refresh 41 2 [] ((ox_zz ox_ms (n + 3)) 159 tl [.inr (.inr (1, 3, 0)), .inl (0), .inl (σ 1 3 4 0)] σ) (fun pc9 x9 st9 σ9 => ox_ev m_Kep_refresh (ox_zz ox_ms (n + 3)) pc9 0 tl (ox_kl (m_Kep_refresh.2.2.1 pc9) (ox_xl x9 [.inr (.inr (8, 0, 0)), ox_d])) st9 σ9)) rfl ?_
  refine ox_R_call (fc := (fun r : ox_H => ((.inl none, r) : ox_O))) (L_Lin_close 3 0 (σ 1 3 4 0) σ (n + 2) tl) (fun r3 => ?_)
  refine ox_R_of (Y := ox_ev m_Kep_refresh (ox_zz ox_ms (n + 3)) 44 0 tl [.inr (.inr (8, 0, 0)), ox_d] [] r3) rfl ?_
  refine ox_R_to 2 (Y := ox_ev m_Kep_refresh (ox_zz ox_ms (n + 3)) 46 0 tl [.inr (.inr (8, 0, 0)), .inl (0)] [] r3) rfl ?_
  exact (L_Kep_refresh_46 0 r3 n tl)
def B_Kep_refresh_10  : (Int × ox_H) → Option (((Int × ox_H) ⊕ ox_H)) := fun (v1, σ) => if 26 ≤ v1 then ((J_Kep_refresh_29 σ).map .inr) else (if 0 ≤ v1 ∧ v1.toNat < 26 then (some (.inl (ox_w (v1 + 1), (ox_up σ 8 0 3 v1.toNat 0)))) else none)
def J_Kep_refresh_10  (v1 : Int) (σ : ox_H) : Option (ox_H) := ox_lp (B_Kep_refresh_10) ox_fu (v1, σ)
theorem L_Kep_refresh_10  (v1 : Int) (σ : ox_H) (n tl : Nat) : ox_R (fun r => some ((fun r : ox_H => ((.inl none, r) : ox_O)) r)) (J_Kep_refresh_10 v1 σ) (ox_ev m_Kep_refresh (ox_zz ox_ms (n + 3)) 10 0 tl [.inr (.inr (8, 0, 0)), .inl (v1)] [] σ) := by
  unfold J_Kep_refresh_10
  refine ox_R_lp (ψ := (fun (s : Int × ox_H) => match s with | (v1, σ) => ox_ev m_Kep_refresh (ox_zz ox_ms (n + 3)) 10 0 tl [.inr (.inr (8, 0, 0)), .inl (v1)] [] σ)) ?_ ox_fu (v1, σ)
  intro s
  obtain ⟨v1, σ⟩ := s
  unfold B_Kep_refresh_10
  refine ox_R_to 3 (Y := if 26 ≤ v1 then ox_ev m_Kep_refresh (ox_zz ox_ms (n + 3)) 29 0 tl [.inr (.inr (8, 0, 0)), ox_d] [] σ else ox_ev m_Kep_refresh (ox_zz ox_ms (n + 3)) 16 0 tl [.inr (.inr (8, 0, 0)), .inl (v1)] [] σ) rfl ?_
  refine ox_R_if (fun _ => ?_) (fun _ => ?_)
  · exact ox_R_map ((L_Kep_refresh_29 σ n tl))
  · refine ox_R_to 5 (Y := if 0 ≤ v1 ∧ v1.toNat < 26 then ox_ev m_Kep_refresh (ox_zz ox_ms (n + 3)) 23 0 tl [.inr (.inr (8, 0, 0)), .inl (v1)] [] (ox_up σ 8 0 3 v1.toNat 0) else none) rfl ?_
    refine ox_R_if (fun _ => ?_) (fun _ => ox_R_none)
    refine ox_R_to 2 (Y := ox_ev m_Kep_refresh (ox_zz ox_ms (n + 3)) 10 0 tl [.inr (.inr (8, 0, 0)), .inl (ox_w (v1 + 1))] [] (ox_up σ 8 0 3 v1.toNat 0)) rfl ?_
    exact ox_R_ret rfl
def F_Kep_refresh  (σ : ox_H) : Option (ox_H) := (F_Kep_isAsSeen σ).bind fun r4 => (if r4 = 0 then (J_Kep_refresh_10 0 σ) else (some σ))
theorem L_Kep_refresh  (σ : ox_H) (n tl : Nat) : ox_R (fun r => some ((fun r : ox_H => ((.inl none, r) : ox_O)) r)) (F_Kep_refresh σ) (ox_zz ox_ms (n + 4) 150 tl [.inr (.inr (8, 0, 0))] σ) := by
  unfold F_Kep_refresh
  refine ox_R_of (Y := ox_ev m_Kep_refresh (ox_zz ox_ms (n + 3)) 0 0 tl [.inr (.inr (8, 0, 0)), ox_d] [] σ) rfl ?_
  refine ox_R_to 2 (Y := ox_back m_Kep_refresh 1 1 [] ((ox_zz ox_ms (n + 3)) 152 tl [.inr (.inr (8, 0, 0))] σ) (fun pc9 x9 st9 σ9 => ox_ev m_Kep_refresh (ox_zz ox_ms (n + 3)) pc9 0 tl (ox_kl (m_Kep_refresh.2.2.1 pc9) (ox_xl x9 [.inr (.inr (8, 0, 0)), ox_d])) st9 σ9)) rfl ?_
  refine ox_R_call (fc := (fun r : Int => ((.inl (some (.inl r)), σ) : ox_O))) (L_Kep_isAsSeen σ (n + 0) tl) (fun r4 => ?_)
  refine ox_R_of (Y := ox_ev m_Kep_refresh (ox_zz ox_ms (n + 3)) 4 0 tl [.inr (.inr (8, 0, 0)), ox_d] [.inl (r4)] σ) rfl ?_
  refine ox_R_to 1 (Y := if r4 = 0 then ox_ev m_Kep_refresh (ox_zz ox_ms (n + 3)) 8 0 tl [.inr (.inr (8, 0, 0)), ox_d] [] σ else ox_ev m_Kep_refresh (ox_zz ox_ms (n + 3)) 7 0 tl [.inr (.inr (8, 0, 0)), ox_d] [] σ) rfl ?_
  refine ox_R_if (fun _ => ?_) (fun _ => ?_)
  · refine ox_R_to 2 (Y := ox_ev m_Kep_refresh (ox_zz ox_ms (n + 3)) 10 0 tl [.inr (.inr (8, 0, 0)), .inl (0)] [] σ) rfl ?_
    exact (L_Kep_refresh_10 0 σ n tl)
  · refine ox_R_to 1 (Y := some (.inl none, σ)) rfl ?_
    exact ox_R_ret rfl
def J_Kep_found_24  (σ : ox_H) : Option (Int × ox_H) := some (ox_c 1000000 0, σ)
theorem L_Kep_found_24  (σ : ox_H) (n tl : Nat) : ox_R (fun r => some ((fun r : Int × ox_H => ((.inl (some (.inl r.1)), r.2) : ox_O)) r)) (J_Kep_found_24 σ) (ox_ev m_Kep_found (ox_zz ox_ms (n + 1)) 24 0 tl [ox_d, ox_d, ox_d] [] σ) := by
  unfold J_Kep_found_24
  refine ox_R_to 2 (Y := some (.inl (some (.inl (ox_c 1000000 0))), σ)) rfl ?_
  exact ox_R_ret rfl
def J_Kep_found_68  (v1 : Int) (σ : ox_H) : Option (Int × ox_H) := if 0 ≤ v1 ∧ v1.toNat < 26 then (some (σ 8 0 4 v1.toNat, σ)) else none
theorem L_Kep_found_68  (v1 : Int) (σ : ox_H) (n tl : Nat) : ox_R (fun r => some ((fun r : Int × ox_H => ((.inl (some (.inl r.1)), r.2) : ox_O)) r)) (J_Kep_found_68 v1 σ) (ox_ev m_Kep_found (ox_zz ox_ms (n + 1)) 68 0 tl [.inr (.inr (8, 0, 0)), .inl (v1), ox_d] [] σ) := by
  unfold J_Kep_found_68
  refine ox_R_to 4 (Y := if 0 ≤ v1 ∧ v1.toNat < 26 then ox_ev m_Kep_found (ox_zz ox_ms (n + 1)) 74 0 tl [.inr (.inr (8, 0, 0)), .inl (v1), ox_d] [.inl (σ 8 0 4 v1.toNat)] σ else none) rfl ?_
  refine ox_R_if (fun _ => ?_) (fun _ => ox_R_none)
  refine ox_R_to 1 (Y := some (.inl (some (.inl (σ 8 0 4 v1.toNat))), σ)) rfl ?_
  exact ox_R_ret rfl
def F_Kep_found  (a1 : Int) (σ : ox_H) : Option (Int × ox_H) := (F_She_blockLine a1 σ).bind fun r1 => (if r1 = (-1) then (J_Kep_found_24 σ) else (if a1 < 0 then (J_Kep_found_24 σ) else (if a1 < 26 then (if 0 ≤ a1 ∧ a1.toNat < 26 then (if (σ 8 0 3 a1.toNat) = 0 then (if 0 ≤ a1 ∧ a1.toNat < 26 then ((F_She_valueAt r1 0 (ox_up σ 8 0 3 a1.toNat 1)).bind fun r2 => (if 0 ≤ a1 ∧ a1.toNat < 26 then (J_Kep_found_68 a1 (ox_up (ox_up (ox_up σ 8 0 3 a1.toNat 1) 8 0 4 a1.toNat r2) 8 0 5 0 (ox_w ((σ 8 0 5 0) + 1)))) else none)) else none) else (J_Kep_found_68 a1 σ)) else none) else (J_Kep_found_24 σ))))
theorem L_Kep_found  (a1 : Int) (σ : ox_H) (n tl : Nat) : ox_R (fun r => some ((fun r : Int × ox_H => ((.inl (some (.inl r.1)), r.2) : ox_O)) r)) (F_Kep_found a1 σ) (ox_zz ox_ms (n + 2) 153 tl [.inr (.inr (8, 0, 0)), .inl (a1)] σ) := by
  unfold F_Kep_found
  refine ox_R_of (Y := ox_ev m_Kep_found (ox_zz ox_ms (n + 1)) 0 0 tl [.inr (.inr (8, 0, 0)), .inl (a1), ox_d] [] σ) rfl ?_
  refine ox_R_to 4 (Y := ox_back m_Kep_found 5 3 [] ((ox_zz ox_ms (n + 1)) 226 tl [.inr (.inr (5, 0, 0)), .inl (a1)] σ) (fun pc9 x9 st9 σ9 => ox_ev m_Kep_found (ox_zz ox_ms (n + 1)) pc9 0 tl (ox_kl (m_Kep_found.2.2.1 pc9) (ox_xl x9 [.inr (.inr (8, 0, 0)), .inl (a1), ox_d])) st9 σ9)) rfl ?_
  refine ox_R_call (fc := (fun r : Int => ((.inl (some (.inl r)), σ) : ox_O))) (L_She_blockLine a1 σ (n + 0) tl) (fun r1 => ?_)
  refine ox_R_of (Y := ox_ev m_Kep_found (ox_zz ox_ms (n + 1)) 8 0 tl [.inr (.inr (8, 0, 0)), .inl (a1), ox_d] [.inl (r1)] σ) rfl ?_
  refine ox_R_to 4 (Y := if r1 = (-1) then ox_ev m_Kep_found (ox_zz ox_ms (n + 1)) 24 0 tl [ox_d, ox_d, ox_d] [] σ else ox_ev m_Kep_found (ox_zz ox_ms (n + 1)) 14 0 tl [.inr (.inr (8, 0, 0)), .inl (a1), .inl (r1)] [] σ) rfl ?_
  refine ox_R_if (fun _ => ?_) (fun _ => ?_)
  · exact (L_Kep_found_24 σ n tl)
  · refine ox_R_to 2 (Y := if a1 < 0 then ox_ev m_Kep_found (ox_zz ox_ms (n + 1)) 24 0 tl [ox_d, ox_d, ox_d] [] σ else ox_ev m_Kep_found (ox_zz ox_ms (n + 1)) 18 0 tl [.inr (.inr (8, 0, 0)), .inl (a1), .inl (r1)] [] σ) rfl ?_
    refine ox_R_if (fun _ => ?_) (fun _ => ?_)
    · exact (L_Kep_found_24 σ n tl)
    · refine ox_R_to 3 (Y := if a1 < 26 then ox_ev m_Kep_found (ox_zz ox_ms (n + 1)) 27 0 tl [.inr (.inr (8, 0, 0)), .inl (a1), .inl (r1)] [] σ else ox_ev m_Kep_found (ox_zz ox_ms (n + 1)) 24 0 tl [ox_d, ox_d, ox_d] [] σ) rfl ?_
      refine ox_R_if (fun _ => ?_) (fun _ => ?_)
      · refine ox_R_to 4 (Y := if 0 ≤ a1 ∧ a1.toNat < 26 then ox_ev m_Kep_found (ox_zz ox_ms (n + 1)) 33 0 tl [.inr (.inr (8, 0, 0)), .inl (a1), .inl (r1)] [.inl (σ 8 0 3 a1.toNat)] σ else none) rfl ?_
        refine ox_R_if (fun _ => ?_) (fun _ => ox_R_none)
        refine ox_R_to 1 (Y := if (σ 8 0 3 a1.toNat) = 0 then ox_ev m_Kep_found (ox_zz ox_ms (n + 1)) 36 0 tl [.inr (.inr (8, 0, 0)), .inl (a1), .inl (r1)] [] σ else ox_ev m_Kep_found (ox_zz ox_ms (n + 1)) 68 0 tl [.inr (.inr (8, 0, 0)), .inl (a1), ox_d] [] σ) rfl ?_
        refine ox_R_if (fun _ => ?_) (fun _ => ?_)
        · refine ox_R_to 5 (Y := if 0 ≤ a1 ∧ a1.toNat < 26 then ox_ev m_Kep_found (ox_zz ox_ms (n + 1)) 43 0 tl [.inr (.inr (8, 0, 0)), .inl (a1), .inl (r1)] [] (ox_up σ 8 0 3 a1.toNat 1) else none) rfl ?_
          refine ox_R_if (fun _ => ?_) (fun _ => ox_R_none)
          refine ox_R_to 8 (Y := ox_back m_Kep_found 54 3 [.inl (a1), .inr (.inr (108, 0, 4))] ((ox_zz ox_ms (n + 1)) 230 tl [.inr (.inr (5, 0, 0)), .inl (r1), .inl (0)] (ox_up σ 8 0 3 a1.toNat 1)) (fun pc9 x9 st9 σ9 => ox_ev m_Kep_found (ox_zz ox_ms (n + 1)) pc9 0 tl (ox_kl (m_Kep_found.2.2.1 pc9) (ox_xl x9 [.inr (.inr (8, 0, 0)), .inl (a1), .inl (r1)])) st9 σ9)) rfl ?_
          refine ox_R_call (fc := (fun r : Int => ((.inl (some (.inl r)), (ox_up σ 8 0 3 a1.toNat 1)) : ox_O))) (L_She_valueAt r1 0 (ox_up σ 8 0 3 a1.toNat 1) (n + 0) tl) (fun r2 => ?_)
          refine ox_R_of (Y := ox_ev m_Kep_found (ox_zz ox_ms (n + 1)) 57 0 tl [.inr (.inr (8, 0, 0)), .inl (a1), .inl (r1)] [.inl (r2), .inl (a1), .inr (.inr (108, 0, 4))] (ox_up σ 8 0 3 a1.toNat 1)) rfl ?_
          refine ox_R_to 1 (Y := if 0 ≤ a1 ∧ a1.toNat < 26 then ox_ev m_Kep_found (ox_zz ox_ms (n + 1)) 58 0 tl [.inr (.inr (8, 0, 0)), .inl (a1), .inl (r1)] [] (ox_up (ox_up σ 8 0 3 a1.toNat 1) 8 0 4 a1.toNat r2) else none) rfl ?_
          refine ox_R_if (fun _ => ?_) (fun _ => ox_R_none)
          refine ox_R_to 6 (Y := ox_ev m_Kep_found (ox_zz ox_ms (n + 1)) 68 0 tl [.inr (.inr (8, 0, 0)), .inl (a1), ox_d] [] (ox_up (ox_up (ox_up σ 8 0 3 a1.toNat 1) 8 0 4 a1.toNat r2) 8 0 5 0 (ox_w ((σ 8 0 5 0) + 1)))) rfl ?_
          exact (L_Kep_found_68 a1 (ox_up (ox_up (ox_up σ 8 0 3 a1.toNat 1) 8 0 4 a1.toNat r2) 8 0 5 0 (ox_w ((σ 8 0 5 0) + 1))) n tl)
        · exact (L_Kep_found_68 a1 σ n tl)
      · exact (L_Kep_found_24 σ n tl)
def F_Out_run  (a1 : Int) (σ : ox_H) : Option ((Nat ⊕ Int) × ox_H) := (F_Out_checkLetter a1 σ).bind fun r1 => match r1 with | .inl e7 => (some (.inl e7, σ)) | .inr x2 => ((F_Otl_refresh σ).bind fun r3 => ((F_Kep_refresh r3).bind fun r4 => ((F_She_refresh r4).bind fun r5 => ((F_Kep_found a1 r5).bind fun r6 => (some (.inr r6.1, r6.2))))))
theorem L_Out_run  (a1 : Int) (σ : ox_H) (n tl : Nat) : ox_R (fun r => some ((fun r : (Nat ⊕ Int) × ox_H => (((Sum.elim (fun e : Nat => (.inr e : Option ox_V ⊕ Nat)) (fun v : Int => .inl (some (.inl v))) r.1), r.2) : ox_O)) r)) (F_Out_run a1 σ) (ox_zz ox_ms (n + 7) 36 tl [.inr (.inr (0, 0, 0)), .inl (a1)] σ) := by
  unfold F_Out_run
  refine ox_R_of (Y := ox_ev m_Out_run (ox_zz ox_ms (n + 6)) 0 1 tl [.inr (.inr (0, 0, 0)), .inl (a1)] [] σ) rfl ?_
  refine ox_R_to 2 (Y := ox_back m_Out_run 1 0 [] ((ox_zz ox_ms (n + 6)) 19 tl [.inl (a1)] σ) (fun pc9 x9 st9 σ9 => ox_ev m_Out_run (ox_zz ox_ms (n + 6)) pc9 0 tl (ox_kl (m_Out_run.2.2.1 pc9) (ox_xl x9 [.inr (.inr (0, 0, 0)), .inl (a1)])) st9 σ9)) rfl ?_
  refine ox_R_call (fc := (fun r : (Nat ⊕ Unit) => (((Sum.elim (fun e : Nat => (.inr e : Option ox_V ⊕ Nat)) (fun v : Unit => .inl none) r), σ) : ox_O))) (L_Out_checkLetter a1 σ (n + 5) tl) (fun r1 => ?_)
  rcases r1 with e7 | x2
  · refine ox_R_of (Y := some (.inr e7, σ)) rfl ?_
    exact ox_R_ret rfl
  · refine ox_R_of (Y := ox_ev m_Out_run (ox_zz ox_ms (n + 6)) 4 0 tl [.inr (.inr (0, 0, 0)), .inl (a1)] [] σ) rfl ?_
    refine ox_R_to 3 (Y := ox_back m_Out_run 8 2 [] ((ox_zz ox_ms (n + 6)) 169 tl [.inr (.inr (2, 0, 0))] σ) (fun pc9 x9 st9 σ9 => ox_ev m_Out_run (ox_zz ox_ms (n + 6)) pc9 0 tl (ox_kl (m_Out_run.2.2.1 pc9) (ox_xl x9 [.inr (.inr (0, 0, 0)), .inl (a1)])) st9 σ9)) rfl ?_
    refine ox_R_call (fc := (fun r : ox_H => ((.inl none, r) : ox_O))) (L_Otl_refresh σ (n + 0) tl) (fun r3 => ?_)
    refine ox_R_of (Y := ox_ev m_Out_run (ox_zz ox_ms (n + 6)) 11 0 tl [.inr (.inr (0, 0, 0)), .inl (a1)] [] r3) rfl ?_
    refine ox_R_to 3 (Y := ox_back m_Out_run 15 2 [] ((ox_zz ox_ms (n + 6)) 150 tl [.inr (.inr (8, 0, 0))] r3) (fun pc9 x9 st9 σ9 => ox_ev m_Out_run (ox_zz ox_ms (n + 6)) pc9 0 tl (ox_kl (m_Out_run.2.2.1 pc9) (ox_xl x9 [.inr (.inr (0, 0, 0)), .inl (a1)])) st9 σ9)) rfl ?_
    refine ox_R_call (fc := (fun r : ox_H => ((.inl none, r) : ox_O))) (L_Kep_refresh r3 (n + 2) tl) (fun r4 => ?_)
    refine ox_R_of (Y := ox_ev m_Out_run (ox_zz ox_ms (n + 6)) 18 0 tl [.inr (.inr (0, 0, 0)), .inl (a1)] [] r4) rfl ?_
    refine ox_R_to 3 (Y := ox_back m_Out_run 22 2 [] ((ox_zz ox_ms (n + 6)) 217 tl [.inr (.inr (5, 0, 0))] r4) (fun pc9 x9 st9 σ9 => ox_ev m_Out_run (ox_zz ox_ms (n + 6)) pc9 0 tl (ox_kl (m_Out_run.2.2.1 pc9) (ox_xl x9 [.inr (.inr (0, 0, 0)), .inl (a1)])) st9 σ9)) rfl ?_
    refine ox_R_call (fc := (fun r : ox_H => ((.inl none, r) : ox_O))) (L_She_refresh r4 (n + 0) tl) (fun r5 => ?_)
    refine ox_R_of (Y := ox_ev m_Out_run (ox_zz ox_ms (n + 6)) 25 0 tl [.inr (.inr (0, 0, 0)), .inl (a1)] [] r5) rfl ?_
    refine ox_R_to 4 (Y := ox_back m_Out_run 30 3 [] ((ox_zz ox_ms (n + 6)) 153 tl [.inr (.inr (8, 0, 0)), .inl (a1)] r5) (fun pc9 x9 st9 σ9 => ox_ev m_Out_run (ox_zz ox_ms (n + 6)) pc9 0 tl (ox_kl (m_Out_run.2.2.1 pc9) (ox_xl x9 [.inr (.inr (0, 0, 0)), .inl (a1)])) st9 σ9)) rfl ?_
    refine ox_R_call (fc := (fun r : Int × ox_H => ((.inl (some (.inl r.1)), r.2) : ox_O))) (L_Kep_found a1 r5 (n + 4) tl) (fun r6 => ?_)
    refine ox_R_of (Y := ox_ev m_Out_run (ox_zz ox_ms (n + 6)) 33 0 tl [.inr (.inr (0, 0, 0)), .inl (a1)] [.inl (r6.1)] r6.2) rfl ?_
    refine ox_R_to 1 (Y := some (.inl (some (.inl (r6.1))), r6.2)) rfl ?_
    exact ox_R_ret rfl
def F_Out_runs  (σ : ox_H) : Option (Int) := some (σ 8 0 5 0)
theorem L_Out_runs  (σ : ox_H) (n tl : Nat) : ox_R (fun r => some ((fun r : Int => ((.inl (some (.inl r)), σ) : ox_O)) r)) (F_Out_runs σ) (ox_zz ox_ms (n + 1) 37 tl [.inr (.inr (0, 0, 0))] σ) := by
  unfold F_Out_runs
  refine ox_R_of (Y := ox_ev m_Out_runs (ox_zz ox_ms (n + 0)) 0 0 tl [.inr (.inr (0, 0, 0))] [] σ) rfl ?_
  refine ox_R_to 4 (Y := some (.inl (some (.inl (σ 8 0 5 0))), σ)) rfl ?_
  exact ox_R_ret rfl
def J_Out_link_159  (σ : ox_H) : Option ((Nat ⊕ Int) × ox_H) := some (.inr (-1), σ)
theorem L_Out_link_159  (σ : ox_H) (n tl : Nat) : ox_R (fun r => some ((fun r : (Nat ⊕ Int) × ox_H => (((Sum.elim (fun e : Nat => (.inr e : Option ox_V ⊕ Nat)) (fun v : Int => .inl (some (.inl v))) r.1), r.2) : ox_O)) r)) (J_Out_link_159 σ) (ox_ev m_Out_link (ox_zz ox_ms (n + 6)) 159 0 tl [ox_d, ox_d, ox_d, ox_d, ox_d, ox_d, ox_d] [] σ) := by
  unfold J_Out_link_159
  refine ox_R_to 2 (Y := some (.inl (some (.inl ((-1)))), σ)) rfl ?_
  exact ox_R_ret rfl
def J_Out_link_151  (v1 : Int) (v4 : Int) (s0 : Int) (s1 : Int) (σ : ox_H) : Option (((Int × Int) ⊕ (Nat ⊕ Int) × ox_H)) := some (.inl (ox_w (s1 - s0), ox_w (v4 + 1)))
theorem L_Out_link_151  (v1 : Int) (v4 : Int) (s0 : Int) (s1 : Int) (σ : ox_H) (n tl : Nat) : ox_R (Sum.elim (fun (s : Int × Int) => match s with | (v3, v4) => ox_ev m_Out_link (ox_zz ox_ms (n + 6)) 39 0 tl [.inr (.inr (0, 0, 0)), .inl (v1), ox_d, .inl (v3), .inl (v4), ox_d, ox_d] [] σ) (fun r => some ((fun r : (Nat ⊕ Int) × ox_H => (((Sum.elim (fun e : Nat => (.inr e : Option ox_V ⊕ Nat)) (fun v : Int => .inl (some (.inl v))) r.1), r.2) : ox_O)) r))) (J_Out_link_151 v1 v4 s0 s1 σ) (ox_ev m_Out_link (ox_zz ox_ms (n + 6)) 151 0 tl [.inr (.inr (0, 0, 0)), .inl (v1), ox_d, ox_d, .inl (v4), ox_d, ox_d] [.inl (s0), .inl (s1)] σ) := by
  unfold J_Out_link_151
  refine ox_R_to 4 (Y := ox_ev m_Out_link (ox_zz ox_ms (n + 6)) 39 0 tl [.inr (.inr (0, 0, 0)), .inl (v1), ox_d, .inl (ox_w (s1 - s0)), .inl (ox_w (v4 + 1)), ox_d, ox_d] [] σ) rfl ?_
  exact ox_R_ret rfl
def J_Out_link_140  (v1 : Int) (v3 : Int) (v4 : Int) (v6 : Int) (σ : ox_H) : Option (((Int × Int) ⊕ (Nat ⊕ Int) × ox_H)) := if v6 = 0 then (J_Out_link_151 v1 v4 0 v3 σ) else (J_Out_link_151 v1 v4 1 v3 σ)
theorem L_Out_link_140  (v1 : Int) (v3 : Int) (v4 : Int) (v6 : Int) (σ : ox_H) (n tl : Nat) : ox_R (Sum.elim (fun (s : Int × Int) => match s with | (v3, v4) => ox_ev m_Out_link (ox_zz ox_ms (n + 6)) 39 0 tl [.inr (.inr (0, 0, 0)), .inl (v1), ox_d, .inl (v3), .inl (v4), ox_d, ox_d] [] σ) (fun r => some ((fun r : (Nat ⊕ Int) × ox_H => (((Sum.elim (fun e : Nat => (.inr e : Option ox_V ⊕ Nat)) (fun v : Int => .inl (some (.inl v))) r.1), r.2) : ox_O)) r))) (J_Out_link_140 v1 v3 v4 v6 σ) (ox_ev m_Out_link (ox_zz ox_ms (n + 6)) 140 0 tl [.inr (.inr (0, 0, 0)), .inl (v1), ox_d, .inl (v3), .inl (v4), ox_d, .inl (v6)] [] σ) := by
  unfold J_Out_link_140
  refine ox_R_to 3 (Y := if v6 = 0 then ox_ev m_Out_link (ox_zz ox_ms (n + 6)) 150 0 tl [.inr (.inr (0, 0, 0)), .inl (v1), ox_d, .inl (v3), .inl (v4), ox_d, .inl (v6)] [.inl (v3)] σ else ox_ev m_Out_link (ox_zz ox_ms (n + 6)) 146 0 tl [.inr (.inr (0, 0, 0)), .inl (v1), ox_d, .inl (v3), .inl (v4), ox_d, .inl (v6)] [.inl (v3)] σ) rfl ?_
  refine ox_R_if (fun _ => ?_) (fun _ => ?_)
  · refine ox_R_to 1 (Y := ox_ev m_Out_link (ox_zz ox_ms (n + 6)) 151 0 tl [.inr (.inr (0, 0, 0)), .inl (v1), ox_d, ox_d, .inl (v4), ox_d, ox_d] [.inl (0), .inl (v3)] σ) rfl ?_
    exact (L_Out_link_151 v1 v4 0 v3 σ n tl)
  · refine ox_R_to 2 (Y := ox_ev m_Out_link (ox_zz ox_ms (n + 6)) 151 0 tl [.inr (.inr (0, 0, 0)), .inl (v1), ox_d, ox_d, .inl (v4), ox_d, ox_d] [.inl (1), .inl (v3)] σ) rfl ?_
    exact (L_Out_link_151 v1 v4 1 v3 σ n tl)
def J_Out_link_130  (v5 : Int) (σ : ox_H) : Option ((Nat ⊕ Int) × ox_H) := (F_Otl_titled v5 σ).bind fun r1 => (some (.inr r1, σ))
theorem L_Out_link_130  (v5 : Int) (σ : ox_H) (n tl : Nat) : ox_R (fun r => some ((fun r : (Nat ⊕ Int) × ox_H => (((Sum.elim (fun e : Nat => (.inr e : Option ox_V ⊕ Nat)) (fun v : Int => .inl (some (.inl v))) r.1), r.2) : ox_O)) r)) (J_Out_link_130 v5 σ) (ox_ev m_Out_link (ox_zz ox_ms (n + 6)) 130 0 tl [.inr (.inr (0, 0, 0)), ox_d, ox_d, ox_d, ox_d, .inl (v5), ox_d] [] σ) := by
  unfold J_Out_link_130
  refine ox_R_to 4 (Y := ox_back m_Out_link 136 3 [] ((ox_zz ox_ms (n + 6)) 181 tl [.inr (.inr (2, 0, 0)), .inl (v5)] σ) (fun pc9 x9 st9 σ9 => ox_ev m_Out_link (ox_zz ox_ms (n + 6)) pc9 0 tl (ox_kl (m_Out_link.2.2.1 pc9) (ox_xl x9 [.inr (.inr (0, 0, 0)), ox_d, ox_d, ox_d, ox_d, .inl (v5), ox_d])) st9 σ9)) rfl ?_
  refine ox_R_call (fc := (fun r : Int => ((.inl (some (.inl r)), σ) : ox_O))) (L_Otl_titled v5 σ (n + 3) tl) (fun r1 => ?_)
  refine ox_R_of (Y := ox_ev m_Out_link (ox_zz ox_ms (n + 6)) 139 0 tl [.inr (.inr (0, 0, 0)), ox_d, ox_d, ox_d, ox_d, .inl (v5), ox_d] [.inl (r1)] σ) rfl ?_
  refine ox_R_to 1 (Y := some (.inl (some (.inl (r1))), σ)) rfl ?_
  exact ox_R_ret rfl
def J_Out_link_119  (v1 : Int) (v3 : Int) (v4 : Int) (v5 : Int) (s0 : Int) (σ : ox_H) : Option (((Int × Int) ⊕ (Nat ⊕ Int) × ox_H)) := if s0 = 0 then (J_Out_link_140 v1 v3 v4 s0 σ) else (if v3 = 0 then ((J_Out_link_130 v5 σ).map .inr) else (J_Out_link_140 v1 v3 v4 s0 σ))
theorem L_Out_link_119  (v1 : Int) (v3 : Int) (v4 : Int) (v5 : Int) (s0 : Int) (σ : ox_H) (n tl : Nat) : ox_R (Sum.elim (fun (s : Int × Int) => match s with | (v3, v4) => ox_ev m_Out_link (ox_zz ox_ms (n + 6)) 39 0 tl [.inr (.inr (0, 0, 0)), .inl (v1), ox_d, .inl (v3), .inl (v4), ox_d, ox_d] [] σ) (fun r => some ((fun r : (Nat ⊕ Int) × ox_H => (((Sum.elim (fun e : Nat => (.inr e : Option ox_V ⊕ Nat)) (fun v : Int => .inl (some (.inl v))) r.1), r.2) : ox_O)) r))) (J_Out_link_119 v1 v3 v4 v5 s0 σ) (ox_ev m_Out_link (ox_zz ox_ms (n + 6)) 119 0 tl [.inr (.inr (0, 0, 0)), .inl (v1), ox_d, .inl (v3), .inl (v4), .inl (v5), ox_d] [.inl (s0)] σ) := by
  unfold J_Out_link_119
  refine ox_R_to 3 (Y := if s0 = 0 then ox_ev m_Out_link (ox_zz ox_ms (n + 6)) 140 0 tl [.inr (.inr (0, 0, 0)), .inl (v1), ox_d, .inl (v3), .inl (v4), ox_d, .inl (s0)] [] σ else ox_ev m_Out_link (ox_zz ox_ms (n + 6)) 126 0 tl [.inr (.inr (0, 0, 0)), .inl (v1), ox_d, .inl (v3), .inl (v4), .inl (v5), .inl (s0)] [] σ) rfl ?_
  refine ox_R_if (fun _ => ?_) (fun _ => ?_)
  · exact (L_Out_link_140 v1 v3 v4 s0 σ n tl)
  · refine ox_R_to 2 (Y := if v3 = 0 then ox_ev m_Out_link (ox_zz ox_ms (n + 6)) 130 0 tl [.inr (.inr (0, 0, 0)), ox_d, ox_d, ox_d, ox_d, .inl (v5), ox_d] [] σ else ox_ev m_Out_link (ox_zz ox_ms (n + 6)) 140 0 tl [.inr (.inr (0, 0, 0)), .inl (v1), ox_d, .inl (v3), .inl (v4), ox_d, .inl (s0)] [] σ) rfl ?_
    refine ox_R_if (fun _ => ?_) (fun _ => ?_)
    · exact ox_R_map ((L_Out_link_130 v5 σ n tl))
    · exact (L_Out_link_140 v1 v3 v4 s0 σ n tl)
def J_Out_link_118  (v1 : Int) (v3 : Int) (v4 : Int) (v5 : Int) (σ : ox_H) : Option (((Int × Int) ⊕ (Nat ⊕ Int) × ox_H)) := (J_Out_link_119 v1 v3 v4 v5 0 σ)
theorem L_Out_link_118  (v1 : Int) (v3 : Int) (v4 : Int) (v5 : Int) (σ : ox_H) (n tl : Nat) : ox_R (Sum.elim (fun (s : Int × Int) => match s with | (v3, v4) => ox_ev m_Out_link (ox_zz ox_ms (n + 6)) 39 0 tl [.inr (.inr (0, 0, 0)), .inl (v1), ox_d, .inl (v3), .inl (v4), ox_d, ox_d] [] σ) (fun r => some ((fun r : (Nat ⊕ Int) × ox_H => (((Sum.elim (fun e : Nat => (.inr e : Option ox_V ⊕ Nat)) (fun v : Int => .inl (some (.inl v))) r.1), r.2) : ox_O)) r))) (J_Out_link_118 v1 v3 v4 v5 σ) (ox_ev m_Out_link (ox_zz ox_ms (n + 6)) 118 0 tl [.inr (.inr (0, 0, 0)), .inl (v1), ox_d, .inl (v3), .inl (v4), .inl (v5), ox_d] [] σ) := by
  unfold J_Out_link_118
  refine ox_R_to 1 (Y := ox_ev m_Out_link (ox_zz ox_ms (n + 6)) 119 0 tl [.inr (.inr (0, 0, 0)), .inl (v1), ox_d, .inl (v3), .inl (v4), .inl (v5), ox_d] [.inl (0)] σ) rfl ?_
  exact (L_Out_link_119 v1 v3 v4 v5 0 σ n tl)
def B_Out_link_39  (v1 : Int) (σ : ox_H) : (Int × Int) → Option (((Int × Int) ⊕ (Nat ⊕ Int) × ox_H)) := fun (v3, v4) => (F_Lin_size 0 v1 σ).bind fun r2 => (if r2 ≤ (ox_w (v4 + 2)) then ((J_Out_link_159 σ).map .inr) else ((F_Lin_at 0 v1 (ox_w (v4 + 1)) σ).bind fun r3 => ((F_Lin_at 0 v1 v4 σ).bind fun r4 => (if r4 = 91 then ((F_Lin_at 0 v1 (ox_w (v4 + 2)) σ).bind fun r5 => (if r5 = 93 then (if r3 < 97 then (J_Out_link_118 v1 v3 v4 r3 σ) else (if 122 < r3 then (J_Out_link_118 v1 v3 v4 r3 σ) else (J_Out_link_119 v1 v3 v4 r3 1 σ))) else (J_Out_link_118 v1 v3 v4 r3 σ))) else (J_Out_link_118 v1 v3 v4 r3 σ)))))
def J_Out_link_39  (v1 : Int) (v3 : Int) (v4 : Int) (σ : ox_H) : Option ((Nat ⊕ Int) × ox_H) := ox_lp (B_Out_link_39 v1 σ) ox_fu (v3, v4)
theorem L_Out_link_39  (v1 : Int) (v3 : Int) (v4 : Int) (σ : ox_H) (n tl : Nat) : ox_R (fun r => some ((fun r : (Nat ⊕ Int) × ox_H => (((Sum.elim (fun e : Nat => (.inr e : Option ox_V ⊕ Nat)) (fun v : Int => .inl (some (.inl v))) r.1), r.2) : ox_O)) r)) (J_Out_link_39 v1 v3 v4 σ) (ox_ev m_Out_link (ox_zz ox_ms (n + 6)) 39 0 tl [.inr (.inr (0, 0, 0)), .inl (v1), ox_d, .inl (v3), .inl (v4), ox_d, ox_d] [] σ) := by
  unfold J_Out_link_39
  refine ox_R_lp (ψ := (fun (s : Int × Int) => match s with | (v3, v4) => ox_ev m_Out_link (ox_zz ox_ms (n + 6)) 39 0 tl [.inr (.inr (0, 0, 0)), .inl (v1), ox_d, .inl (v3), .inl (v4), ox_d, ox_d] [] σ)) ?_ ox_fu (v3, v4)
  intro s
  obtain ⟨v3, v4⟩ := s
  unfold B_Out_link_39
  refine ox_R_to 7 (Y := ox_back m_Out_link 48 3 [.inl (ox_w (v4 + 2))] ((ox_zz ox_ms (n + 6)) 156 tl [.inr (.inr (1, 0, 0)), .inl (v1)] σ) (fun pc9 x9 st9 σ9 => ox_ev m_Out_link (ox_zz ox_ms (n + 6)) pc9 0 tl (ox_kl (m_Out_link.2.2.1 pc9) (ox_xl x9 [.inr (.inr (0, 0, 0)), .inl (v1), ox_d, .inl (v3), .inl (v4), ox_d, ox_d])) st9 σ9)) rfl ?_
  refine ox_R_call (fc := (fun r : Int => ((.inl (some (.inl r)), σ) : ox_O))) (L_Lin_size 0 v1 σ (n + 5) tl) (fun r2 => ?_)
  refine ox_R_of (Y := ox_ev m_Out_link (ox_zz ox_ms (n + 6)) 51 0 tl [.inr (.inr (0, 0, 0)), .inl (v1), ox_d, .inl (v3), .inl (v4), ox_d, ox_d] [.inl (r2), .inl (ox_w (v4 + 2))] σ) rfl ?_
  refine ox_R_to 1 (Y := if r2 ≤ (ox_w (v4 + 2)) then ox_ev m_Out_link (ox_zz ox_ms (n + 6)) 159 0 tl [ox_d, ox_d, ox_d, ox_d, ox_d, ox_d, ox_d] [] σ else ox_ev m_Out_link (ox_zz ox_ms (n + 6)) 54 0 tl [.inr (.inr (0, 0, 0)), .inl (v1), ox_d, .inl (v3), .inl (v4), ox_d, ox_d] [] σ) rfl ?_
  refine ox_R_if (fun _ => ?_) (fun _ => ?_)
  · exact ox_R_map ((L_Out_link_159 σ n tl))
  · refine ox_R_to 7 (Y := ox_back m_Out_link 63 3 [] ((ox_zz ox_ms (n + 6)) 157 tl [.inr (.inr (1, 0, 0)), .inl (v1), .inl (ox_w (v4 + 1))] σ) (fun pc9 x9 st9 σ9 => ox_ev m_Out_link (ox_zz ox_ms (n + 6)) pc9 0 tl (ox_kl (m_Out_link.2.2.1 pc9) (ox_xl x9 [.inr (.inr (0, 0, 0)), .inl (v1), ox_d, .inl (v3), .inl (v4), ox_d, ox_d])) st9 σ9)) rfl ?_
    refine ox_R_call (fc := (fun r : Int => ((.inl (some (.inl r)), σ) : ox_O))) (L_Lin_at 0 v1 (ox_w (v4 + 1)) σ (n + 5) tl) (fun r3 => ?_)
    refine ox_R_of (Y := ox_ev m_Out_link (ox_zz ox_ms (n + 6)) 66 0 tl [.inr (.inr (0, 0, 0)), .inl (v1), ox_d, .inl (v3), .inl (v4), ox_d, ox_d] [.inl (r3)] σ) rfl ?_
    refine ox_R_to 6 (Y := ox_back m_Out_link 75 3 [] ((ox_zz ox_ms (n + 6)) 157 tl [.inr (.inr (1, 0, 0)), .inl (v1), .inl (v4)] σ) (fun pc9 x9 st9 σ9 => ox_ev m_Out_link (ox_zz ox_ms (n + 6)) pc9 0 tl (ox_kl (m_Out_link.2.2.1 pc9) (ox_xl x9 [.inr (.inr (0, 0, 0)), .inl (v1), ox_d, .inl (v3), .inl (v4), .inl (r3), ox_d])) st9 σ9)) rfl ?_
    refine ox_R_call (fc := (fun r : Int => ((.inl (some (.inl r)), σ) : ox_O))) (L_Lin_at 0 v1 v4 σ (n + 5) tl) (fun r4 => ?_)
    refine ox_R_of (Y := ox_ev m_Out_link (ox_zz ox_ms (n + 6)) 78 0 tl [.inr (.inr (0, 0, 0)), .inl (v1), ox_d, .inl (v3), .inl (v4), .inl (r3), ox_d] [.inl (r4)] σ) rfl ?_
    refine ox_R_to 2 (Y := if r4 = 91 then ox_ev m_Out_link (ox_zz ox_ms (n + 6)) 83 0 tl [.inr (.inr (0, 0, 0)), .inl (v1), ox_d, .inl (v3), .inl (v4), .inl (r3), ox_d] [] σ else ox_ev m_Out_link (ox_zz ox_ms (n + 6)) 118 0 tl [.inr (.inr (0, 0, 0)), .inl (v1), ox_d, .inl (v3), .inl (v4), .inl (r3), ox_d] [] σ) rfl ?_
    refine ox_R_if (fun _ => ?_) (fun _ => ?_)
    · refine ox_R_to 7 (Y := ox_back m_Out_link 92 3 [] ((ox_zz ox_ms (n + 6)) 157 tl [.inr (.inr (1, 0, 0)), .inl (v1), .inl (ox_w (v4 + 2))] σ) (fun pc9 x9 st9 σ9 => ox_ev m_Out_link (ox_zz ox_ms (n + 6)) pc9 0 tl (ox_kl (m_Out_link.2.2.1 pc9) (ox_xl x9 [.inr (.inr (0, 0, 0)), .inl (v1), ox_d, .inl (v3), .inl (v4), .inl (r3), ox_d])) st9 σ9)) rfl ?_
      refine ox_R_call (fc := (fun r : Int => ((.inl (some (.inl r)), σ) : ox_O))) (L_Lin_at 0 v1 (ox_w (v4 + 2)) σ (n + 5) tl) (fun r5 => ?_)
      refine ox_R_of (Y := ox_ev m_Out_link (ox_zz ox_ms (n + 6)) 95 0 tl [.inr (.inr (0, 0, 0)), .inl (v1), ox_d, .inl (v3), .inl (v4), .inl (r3), ox_d] [.inl (r5)] σ) rfl ?_
      refine ox_R_to 2 (Y := if r5 = 93 then ox_ev m_Out_link (ox_zz ox_ms (n + 6)) 100 0 tl [.inr (.inr (0, 0, 0)), .inl (v1), ox_d, .inl (v3), .inl (v4), .inl (r3), ox_d] [] σ else ox_ev m_Out_link (ox_zz ox_ms (n + 6)) 118 0 tl [.inr (.inr (0, 0, 0)), .inl (v1), ox_d, .inl (v3), .inl (v4), .inl (r3), ox_d] [] σ) rfl ?_
      refine ox_R_if (fun _ => ?_) (fun _ => ?_)
      · refine ox_R_to 3 (Y := if r3 < 97 then ox_ev m_Out_link (ox_zz ox_ms (n + 6)) 118 0 tl [.inr (.inr (0, 0, 0)), .inl (v1), ox_d, .inl (v3), .inl (v4), .inl (r3), ox_d] [] σ else ox_ev m_Out_link (ox_zz ox_ms (n + 6)) 107 0 tl [.inr (.inr (0, 0, 0)), .inl (v1), ox_d, .inl (v3), .inl (v4), .inl (r3), ox_d] [] σ) rfl ?_
        refine ox_R_if (fun _ => ?_) (fun _ => ?_)
        · exact (L_Out_link_118 v1 v3 v4 r3 σ n tl)
        · refine ox_R_to 3 (Y := if 122 < r3 then ox_ev m_Out_link (ox_zz ox_ms (n + 6)) 118 0 tl [.inr (.inr (0, 0, 0)), .inl (v1), ox_d, .inl (v3), .inl (v4), .inl (r3), ox_d] [] σ else ox_ev m_Out_link (ox_zz ox_ms (n + 6)) 114 0 tl [.inr (.inr (0, 0, 0)), .inl (v1), ox_d, .inl (v3), .inl (v4), .inl (r3), ox_d] [] σ) rfl ?_
          refine ox_R_if (fun _ => ?_) (fun _ => ?_)
          · exact (L_Out_link_118 v1 v3 v4 r3 σ n tl)
          · refine ox_R_to 2 (Y := ox_ev m_Out_link (ox_zz ox_ms (n + 6)) 119 0 tl [.inr (.inr (0, 0, 0)), .inl (v1), ox_d, .inl (v3), .inl (v4), .inl (r3), ox_d] [.inl (1)] σ) rfl ?_
            exact (L_Out_link_119 v1 v3 v4 r3 1 σ n tl)
      · exact (L_Out_link_118 v1 v3 v4 r3 σ n tl)
    · exact (L_Out_link_118 v1 v3 v4 r3 σ n tl)
def F_Out_link  (a1 : Int) (a2 : Int) (σ : ox_H) : Option ((Nat ⊕ Int) × ox_H) := (F_Out_checkPlace 0 a1 a2 σ).bind fun r6 => match r6 with | .inl e10 => (some (.inl e10, σ)) | .inr x7 => ((F_Otl_refresh σ).bind fun r8 => ((F_Otl_reading a1 r8).bind fun r9 => (if (r8 4 r9 0 0) = 7 then (J_Out_link_39 a1 a2 0 r8) else (some (.inr (-1), r8)))))
theorem L_Out_link  (a1 : Int) (a2 : Int) (σ : ox_H) (n tl : Nat) : ox_R (fun r => some ((fun r : (Nat ⊕ Int) × ox_H => (((Sum.elim (fun e : Nat => (.inr e : Option ox_V ⊕ Nat)) (fun v : Int => .inl (some (.inl v))) r.1), r.2) : ox_O)) r)) (F_Out_link a1 a2 σ) (ox_zz ox_ms (n + 7) 38 tl [.inr (.inr (0, 0, 0)), .inl (a1), .inl (a2)] σ) := by
  unfold F_Out_link
  refine ox_R_of (Y := ox_ev m_Out_link (ox_zz ox_ms (n + 6)) 0 2 tl [.inr (.inr (0, 0, 0)), .inl (a1), .inl (a2), ox_d, ox_d, ox_d, ox_d] [] σ) rfl ?_
  refine ox_R_to 5 (Y := ox_back m_Out_link 6 0 [] ((ox_zz ox_ms (n + 6)) 7 tl [.inr (.inr (1, 0, 0)), .inl (a1), .inl (a2)] σ) (fun pc9 x9 st9 σ9 => ox_ev m_Out_link (ox_zz ox_ms (n + 6)) pc9 0 tl (ox_kl (m_Out_link.2.2.1 pc9) (ox_xl x9 [.inr (.inr (0, 0, 0)), .inl (a1), .inl (a2), ox_d, ox_d, ox_d, ox_d])) st9 σ9)) rfl ?_
  refine ox_R_call (fc := (fun r : (Nat ⊕ Unit) => (((Sum.elim (fun e : Nat => (.inr e : Option ox_V ⊕ Nat)) (fun v : Unit => .inl none) r), σ) : ox_O))) (L_Out_checkPlace 0 a1 a2 σ (n + 3) tl) (fun r6 => ?_)
  rcases r6 with e10 | x7
  · refine ox_R_of (Y := some (.inr e10, σ)) rfl ?_
    exact ox_R_ret rfl
  · refine ox_R_of (Y := ox_ev m_Out_link (ox_zz ox_ms (n + 6)) 9 0 tl [.inr (.inr (0, 0, 0)), .inl (a1), .inl (a2), ox_d, ox_d, ox_d, ox_d] [] σ) rfl ?_
    refine ox_R_to 3 (Y := ox_back m_Out_link 13 2 [] ((ox_zz ox_ms (n + 6)) 169 tl [.inr (.inr (2, 0, 0))] σ) (fun pc9 x9 st9 σ9 => ox_ev m_Out_link (ox_zz ox_ms (n + 6)) pc9 0 tl (ox_kl (m_Out_link.2.2.1 pc9) (ox_xl x9 [.inr (.inr (0, 0, 0)), .inl (a1), .inl (a2), ox_d, ox_d, ox_d, ox_d])) st9 σ9)) rfl ?_
    refine ox_R_call (fc := (fun r : ox_H => ((.inl none, r) : ox_O))) (L_Otl_refresh σ (n + 0) tl) (fun r8 => ?_)
    refine ox_R_of (Y := ox_ev m_Out_link (ox_zz ox_ms (n + 6)) 16 0 tl [.inr (.inr (0, 0, 0)), .inl (a1), .inl (a2), ox_d, ox_d, ox_d, ox_d] [] r8) rfl ?_
    refine ox_R_to 4 (Y := ox_back m_Out_link 21 3 [] ((ox_zz ox_ms (n + 6)) 172 tl [.inr (.inr (2, 0, 0)), .inl (a1)] r8) (fun pc9 x9 st9 σ9 => ox_ev m_Out_link (ox_zz ox_ms (n + 6)) pc9 0 tl (ox_kl (m_Out_link.2.2.1 pc9) (ox_xl x9 [.inr (.inr (0, 0, 0)), .inl (a1), .inl (a2), ox_d, ox_d, ox_d, ox_d])) st9 σ9)) rfl ?_
    refine ox_R_call (fc := (fun r : Nat => ((.inl (some (.inr (.inr (4, r, 0)))), r8) : ox_O))) (L_Otl_reading a1 r8 (n + 5) tl) (fun r9 => ?_)
    refine ox_R_of (Y := ox_ev m_Out_link (ox_zz ox_ms (n + 6)) 24 0 tl [.inr (.inr (0, 0, 0)), .inl (a1), .inl (a2), ox_d, ox_d, ox_d, ox_d] [.inr (.inr (4, r9, 0))] r8) rfl ?_
    refine ox_R_to 3 (Y := if (r8 4 r9 0 0) = 7 then ox_ev m_Out_link (ox_zz ox_ms (n + 6)) 34 0 tl [.inr (.inr (0, 0, 0)), .inl (a1), .inl (a2), ox_d, ox_d, ox_d, ox_d] [] r8 else ox_ev m_Out_link (ox_zz ox_ms (n + 6)) 32 0 tl [.inr (.inr (0, 0, 0)), .inl (a1), .inl (a2), ox_d, ox_d, ox_d, ox_d] [] r8) rfl ?_
    refine ox_R_if (fun _ => ?_) (fun _ => ?_)
    · refine ox_R_to 4 (Y := ox_ev m_Out_link (ox_zz ox_ms (n + 6)) 39 0 tl [.inr (.inr (0, 0, 0)), .inl (a1), ox_d, .inl (a2), .inl (0), ox_d, ox_d] [] r8) rfl ?_
      exact (L_Out_link_39 a1 a2 0 r8 n tl)
    · refine ox_R_to 2 (Y := some (.inl (some (.inl ((-1)))), r8)) rfl ?_
      exact ox_R_ret rfl
def J_Lin_set_26  (σ : ox_H) : Option ox_H := some σ
theorem L_Lin_set_26  (σ : ox_H) (n tl : Nat) : ox_R (fun r => some ((fun r : ox_H => ((.inl none, r) : ox_O)) r)) (J_Lin_set_26 σ) (ox_ev m_Lin_set (ox_zz ox_ms (n + 0)) 26 0 tl [ox_d, ox_d, ox_d, ox_d] [] σ) := by
  unfold J_Lin_set_26
  refine ox_R_to 1 (Y := some (.inl none, σ)) rfl ?_
  exact ox_R_ret rfl
def F_Lin_set  (k : Nat) (a1 : Int) (a2 : Int) (a3 : Int) (σ : ox_H) : Option (ox_H) := if a1 < 0 then (J_Lin_set_26 σ) else (if (σ 1 k 4 0) ≤ a1 then (J_Lin_set_26 σ) else (if a2 < 0 then (J_Lin_set_26 σ) else (if 0 ≤ a1 ∧ a1.toNat < (ox_ln k) then (if a2 < (σ 1 k 3 a1.toNat) then (if 0 ≤ (ox_w ((ox_w (a1 * (σ 1 k 1 0))) + a2)) ∧ (ox_w ((ox_w (a1 * (σ 1 k 1 0))) + a2)).toNat < (ox_ln k * ox_wd k) then (some (ox_up (ox_up σ 1 k 2 ((ox_w ((ox_w (a1 * (σ 1 k 1 0))) + a2)).toNat) (a3 % 65536)) 1 k 5 0 (ox_w ((σ 1 k 5 0) + 1)))) else none) else (J_Lin_set_26 σ)) else none)))
theorem L_Lin_set  (k : Nat) (a1 : Int) (a2 : Int) (a3 : Int) (σ : ox_H) (n tl : Nat) : ox_R (fun r => some ((fun r : ox_H => ((.inl none, r) : ox_O)) r)) (F_Lin_set k a1 a2 a3 σ) (ox_zz ox_ms (n + 1) 166 tl [.inr (.inr (1, k, 0)), .inl (a1), .inl (a2), .inl (a3)] σ) := by
  unfold F_Lin_set
  refine ox_R_of (Y := ox_ev m_Lin_set (ox_zz ox_ms (n + 0)) 0 0 tl [.inr (.inr (1, k, 0)), .inl (a1), .inl (a2), .inl (a3)] [] σ) rfl ?_
  refine ox_R_to 2 (Y := if a1 < 0 then ox_ev m_Lin_set (ox_zz ox_ms (n + 0)) 26 0 tl [ox_d, ox_d, ox_d, ox_d] [] σ else ox_ev m_Lin_set (ox_zz ox_ms (n + 0)) 4 0 tl [.inr (.inr (1, k, 0)), .inl (a1), .inl (a2), .inl (a3)] [] σ) rfl ?_
  refine ox_R_if (fun _ => ?_) (fun _ => ?_)
  · exact (L_Lin_set_26 σ n tl)
  · refine ox_R_to 4 (Y := if (σ 1 k 4 0) ≤ a1 then ox_ev m_Lin_set (ox_zz ox_ms (n + 0)) 26 0 tl [ox_d, ox_d, ox_d, ox_d] [] σ else ox_ev m_Lin_set (ox_zz ox_ms (n + 0)) 12 0 tl [.inr (.inr (1, k, 0)), .inl (a1), .inl (a2), .inl (a3)] [] σ) rfl ?_
    refine ox_R_if (fun _ => ?_) (fun _ => ?_)
    · exact (L_Lin_set_26 σ n tl)
    · refine ox_R_to 2 (Y := if a2 < 0 then ox_ev m_Lin_set (ox_zz ox_ms (n + 0)) 26 0 tl [ox_d, ox_d, ox_d, ox_d] [] σ else ox_ev m_Lin_set (ox_zz ox_ms (n + 0)) 16 0 tl [.inr (.inr (1, k, 0)), .inl (a1), .inl (a2), .inl (a3)] [] σ) rfl ?_
      refine ox_R_if (fun _ => ?_) (fun _ => ?_)
      · exact (L_Lin_set_26 σ n tl)
      · refine ox_R_to 5 (Y := if 0 ≤ a1 ∧ a1.toNat < (ox_ln k) then ox_ev m_Lin_set (ox_zz ox_ms (n + 0)) 23 0 tl [.inr (.inr (1, k, 0)), .inl (a1), .inl (a2), .inl (a3)] [.inl (σ 1 k 3 a1.toNat), .inl (a2)] σ else none) rfl ?_
        refine ox_R_if (fun _ => ?_) (fun _ => ox_R_none)
        refine ox_R_to 1 (Y := if a2 < (σ 1 k 3 a1.toNat) then ox_ev m_Lin_set (ox_zz ox_ms (n + 0)) 27 0 tl [.inr (.inr (1, k, 0)), .inl (a1), .inl (a2), .inl (a3)] [] σ else ox_ev m_Lin_set (ox_zz ox_ms (n + 0)) 26 0 tl [ox_d, ox_d, ox_d, ox_d] [] σ) rfl ?_
        refine ox_R_if (fun _ => ?_) (fun _ => ?_)
        · refine ox_R_to 10 (Y := if 0 ≤ (ox_w ((ox_w (a1 * (σ 1 k 1 0))) + a2)) ∧ (ox_w ((ox_w (a1 * (σ 1 k 1 0))) + a2)).toNat < (ox_ln k * ox_wd k) then ox_ev m_Lin_set (ox_zz ox_ms (n + 0)) 41 0 tl [.inr (.inr (1, k, 0)), .inl (a1), .inl (a2), .inl (a3)] [] (ox_up σ 1 k 2 ((ox_w ((ox_w (a1 * (σ 1 k 1 0))) + a2)).toNat) (a3 % 65536)) else none) rfl ?_
          refine ox_R_if (fun _ => ?_) (fun _ => ox_R_none)
          refine ox_R_to 7 (Y := some (.inl none, (ox_up (ox_up σ 1 k 2 ((ox_w ((ox_w (a1 * (σ 1 k 1 0))) + a2)).toNat) (a3 % 65536)) 1 k 5 0 (ox_w ((σ 1 k 5 0) + 1))))) rfl ?_
          exact ox_R_ret rfl
        · exact (L_Lin_set_26 σ n tl)
def J_Out_renumber_155  (v2 : Int) (σ : ox_H) : Option (Int × ox_H) := some (v2, σ)
theorem L_Out_renumber_155  (v2 : Int) (σ : ox_H) (n tl : Nat) : ox_R (fun r => some ((fun r : Int × ox_H => ((.inl (some (.inl r.1)), r.2) : ox_O)) r)) (J_Out_renumber_155 v2 σ) (ox_ev m_Out_renumber (ox_zz ox_ms (n + 6)) 155 0 1 [ox_d, ox_d, .inl (v2), ox_d, ox_d, ox_d] [] σ) := by
  unfold J_Out_renumber_155
  refine ox_R_to 2 (Y := some (.inl (some (.inl (v2))), σ)) rfl ?_
  exact ox_R_ret rfl
def J_Out_renumber_149  (v2 : Int) (v3 : Int) (σ : ox_H) : Option (((Int × Int × ox_H) ⊕ Int × ox_H)) := some (.inl (v2, ox_w (v3 + 1), σ))
theorem L_Out_renumber_149  (v2 : Int) (v3 : Int) (σ : ox_H) (n tl : Nat) : ox_R (Sum.elim (fun (s : Int × Int × ox_H) => match s with | (v2, v3, σ) => ox_ev m_Out_renumber (ox_zz ox_ms (n + 6)) 16 0 1 [.inr (.inr (0, 0, 0)), .inr (.inr (120, 0, 0)), .inl (v2), .inl (v3), ox_d, ox_d] [] σ) (fun r => some ((fun r : Int × ox_H => ((.inl (some (.inl r.1)), r.2) : ox_O)) r))) (J_Out_renumber_149 v2 v3 σ) (ox_ev m_Out_renumber (ox_zz ox_ms (n + 6)) 149 0 1 [.inr (.inr (0, 0, 0)), .inr (.inr (120, 0, 0)), .inl (v2), .inl (v3), ox_d, ox_d] [] σ) := by
  unfold J_Out_renumber_149
  refine ox_R_to 2 (Y := ox_ev m_Out_renumber (ox_zz ox_ms (n + 6)) 16 0 1 [.inr (.inr (0, 0, 0)), .inr (.inr (120, 0, 0)), .inl (v2), .inl (ox_w (v3 + 1)), ox_d, ox_d] [] σ) rfl ?_
  exact ox_R_ret rfl
def J_Out_renumber_143  (v2 : Int) (v3 : Int) (v4 : Int) (σ : ox_H) : Option (((Int × Int × ox_H) ⊕ ((Int × Int × ox_H) ⊕ Int × ox_H))) := some (.inl (v2, ox_w (v4 + 1), σ))
theorem L_Out_renumber_143  (v2 : Int) (v3 : Int) (v4 : Int) (σ : ox_H) (n tl : Nat) : ox_R (Sum.elim (fun (s : Int × Int × ox_H) => match s with | (v2, v4, σ) => ox_ev m_Out_renumber (ox_zz ox_ms (n + 6)) 49 0 1 [.inr (.inr (0, 0, 0)), .inr (.inr (120, 0, 0)), .inl (v2), .inl (v3), .inl (v4), ox_d] [] σ) (Sum.elim (fun (s : Int × Int × ox_H) => match s with | (v2, v3, σ) => ox_ev m_Out_renumber (ox_zz ox_ms (n + 6)) 16 0 1 [.inr (.inr (0, 0, 0)), .inr (.inr (120, 0, 0)), .inl (v2), .inl (v3), ox_d, ox_d] [] σ) (fun r => some ((fun r : Int × ox_H => ((.inl (some (.inl r.1)), r.2) : ox_O)) r)))) (J_Out_renumber_143 v2 v3 v4 σ) (ox_ev m_Out_renumber (ox_zz ox_ms (n + 6)) 143 0 1 [.inr (.inr (0, 0, 0)), .inr (.inr (120, 0, 0)), .inl (v2), .inl (v3), .inl (v4), ox_d] [] σ) := by
  unfold J_Out_renumber_143
  refine ox_R_to 2 (Y := ox_ev m_Out_renumber (ox_zz ox_ms (n + 6)) 49 0 1 [.inr (.inr (0, 0, 0)), .inr (.inr (120, 0, 0)), .inl (v2), .inl (v3), .inl (ox_w (v4 + 1)), ox_d] [] σ) rfl ?_
  exact ox_R_ret rfl
def J_Out_renumber_125  (v2 : Int) (v3 : Int) (v4 : Int) (v5 : Int) (σ : ox_H) : Option (((Int × Int × ox_H) ⊕ ((Int × Int × ox_H) ⊕ Int × ox_H))) := if 0 ≤ v5 ∧ v5.toNat < 10 then ((F_Lin_set 0 v3 v4 ((ox_w (48 + (σ 20 0 0 v5.toNat))) % 65536) σ).bind fun r1 => (J_Out_renumber_143 v2 v3 v4 r1)) else none
theorem L_Out_renumber_125  (v2 : Int) (v3 : Int) (v4 : Int) (v5 : Int) (σ : ox_H) (n tl : Nat) : ox_R (Sum.elim (fun (s : Int × Int × ox_H) => match s with | (v2, v4, σ) => ox_ev m_Out_renumber (ox_zz ox_ms (n + 6)) 49 0 1 [.inr (.inr (0, 0, 0)), .inr (.inr (120, 0, 0)), .inl (v2), .inl (v3), .inl (v4), ox_d] [] σ) (Sum.elim (fun (s : Int × Int × ox_H) => match s with | (v2, v3, σ) => ox_ev m_Out_renumber (ox_zz ox_ms (n + 6)) 16 0 1 [.inr (.inr (0, 0, 0)), .inr (.inr (120, 0, 0)), .inl (v2), .inl (v3), ox_d, ox_d] [] σ) (fun r => some ((fun r : Int × ox_H => ((.inl (some (.inl r.1)), r.2) : ox_O)) r)))) (J_Out_renumber_125 v2 v3 v4 v5 σ) (ox_ev m_Out_renumber (ox_zz ox_ms (n + 6)) 125 0 1 [.inr (.inr (0, 0, 0)), .inr (.inr (120, 0, 0)), .inl (v2), .inl (v3), .inl (v4), .inl (v5)] [] σ) := by
  unfold J_Out_renumber_125
  refine ox_R_to 8 (Y := if 0 ≤ v5 ∧ v5.toNat < 10 then ox_ev m_Out_renumber (ox_zz ox_ms (n + 6)) 138 0 1 [.inr (.inr (0, 0, 0)), .inr (.inr (120, 0, 0)), .inl (v2), .inl (v3), .inl (v4), .inl (v5)] [.inl (σ 20 0 0 v5.toNat), .inl (48), .inl (v4), .inl (v3), .inr (.inr (1, 0, 0))] σ else none) rfl ?_
  refine ox_R_if (fun _ => ?_) (fun _ => ox_R_none)
  refine ox_R_to 3 (Y := ox_back m_Out_renumber 140 2 [] ((ox_zz ox_ms (n + 6)) 166 1 [.inr (.inr (1, 0, 0)), .inl (v3), .inl (v4), .inl ((ox_w (48 + (σ 20 0 0 v5.toNat))) % 65536)] σ) (fun pc9 x9 st9 σ9 => ox_ev m_Out_renumber (ox_zz ox_ms (n + 6)) pc9 0 1 (ox_kl (m_Out_renumber.2.2.1 pc9) (ox_xl x9 [.inr (.inr (0, 0, 0)), .inr (.inr (120, 0, 0)), .inl (v2), .inl (v3), .inl (v4), .inl (v5)])) st9 σ9)) rfl ?_
  refine ox_R_call (fc := (fun r : ox_H => ((.inl none, r) : ox_O))) (L_Lin_set 0 v3 v4 ((ox_w (48 + (σ 20 0 0 v5.toNat))) % 65536) σ (n + 5) 1) (fun r1 => ?_)
  refine ox_R_of (Y := ox_ev m_Out_renumber (ox_zz ox_ms (n + 6)) 143 0 1 [.inr (.inr (0, 0, 0)), .inr (.inr (120, 0, 0)), .inl (v2), .inl (v3), .inl (v4), ox_d] [] r1) rfl ?_
  exact (L_Out_renumber_143 v2 v3 v4 r1 n 1)
def B_Out_renumber_49  (v3 : Int) : (Int × Int × ox_H) → Option (((Int × Int × ox_H) ⊕ ((Int × Int × ox_H) ⊕ Int × ox_H))) := fun (v2, v4, σ) => (F_Lin_size 0 v3 σ).bind fun r2 => (if r2 ≤ v4 then ((J_Out_renumber_149 v2 v3 σ).map .inr) else ((F_Lin_at 0 v3 v4 σ).bind fun r3 => ((F_Lin_at 0 v3 (ox_w (v4 - 1)) σ).bind fun r4 => (if r4 = 94 then (if (ox_w (r3 - 48)) < 1 then (J_Out_renumber_143 v2 v3 v4 σ) else (if (ox_w (r3 - 48)) ≤ 9 then (if 0 ≤ (ox_w (r3 - 48)) ∧ (ox_w (r3 - 48)).toNat < 10 then (if (σ 20 0 0 ((ox_w (r3 - 48)).toNat)) = 0 then (if 0 ≤ (ox_w (r3 - 48)) ∧ (ox_w (r3 - 48)).toNat < 10 then (J_Out_renumber_125 (ox_w (v2 + 1)) v3 v4 (ox_w (r3 - 48)) (ox_up σ 20 0 0 ((ox_w (r3 - 48)).toNat) (ox_w (v2 + 1)))) else none) else (J_Out_renumber_125 v2 v3 v4 (ox_w (r3 - 48)) σ)) else none) else (J_Out_renumber_143 v2 v3 v4 σ))) else (J_Out_renumber_143 v2 v3 v4 σ)))))
def J_Out_renumber_49  (v2 : Int) (v3 : Int) (v4 : Int) (σ : ox_H) : Option (((Int × Int × ox_H) ⊕ Int × ox_H)) := ox_lp (B_Out_renumber_49 v3) ox_fu (v2, v4, σ)
theorem L_Out_renumber_49  (v2 : Int) (v3 : Int) (v4 : Int) (σ : ox_H) (n tl : Nat) : ox_R (Sum.elim (fun (s : Int × Int × ox_H) => match s with | (v2, v3, σ) => ox_ev m_Out_renumber (ox_zz ox_ms (n + 6)) 16 0 1 [.inr (.inr (0, 0, 0)), .inr (.inr (120, 0, 0)), .inl (v2), .inl (v3), ox_d, ox_d] [] σ) (fun r => some ((fun r : Int × ox_H => ((.inl (some (.inl r.1)), r.2) : ox_O)) r))) (J_Out_renumber_49 v2 v3 v4 σ) (ox_ev m_Out_renumber (ox_zz ox_ms (n + 6)) 49 0 1 [.inr (.inr (0, 0, 0)), .inr (.inr (120, 0, 0)), .inl (v2), .inl (v3), .inl (v4), ox_d] [] σ) := by
  unfold J_Out_renumber_49
  refine ox_R_lp (ψ := (fun (s : Int × Int × ox_H) => match s with | (v2, v4, σ) => ox_ev m_Out_renumber (ox_zz ox_ms (n + 6)) 49 0 1 [.inr (.inr (0, 0, 0)), .inr (.inr (120, 0, 0)), .inl (v2), .inl (v3), .inl (v4), ox_d] [] σ)) ?_ ox_fu (v2, v4, σ)
  intro s
  obtain ⟨v2, v4, σ⟩ := s
  unfold B_Out_renumber_49
  refine ox_R_to 5 (Y := ox_back m_Out_renumber 56 3 [.inl (v4)] ((ox_zz ox_ms (n + 6)) 156 1 [.inr (.inr (1, 0, 0)), .inl (v3)] σ) (fun pc9 x9 st9 σ9 => ox_ev m_Out_renumber (ox_zz ox_ms (n + 6)) pc9 0 1 (ox_kl (m_Out_renumber.2.2.1 pc9) (ox_xl x9 [.inr (.inr (0, 0, 0)), .inr (.inr (120, 0, 0)), .inl (v2), .inl (v3), .inl (v4), ox_d])) st9 σ9)) rfl ?_
  refine ox_R_call (fc := (fun r : Int => ((.inl (some (.inl r)), σ) : ox_O))) (L_Lin_size 0 v3 σ (n + 5) 1) (fun r2 => ?_)
  refine ox_R_of (Y := ox_ev m_Out_renumber (ox_zz ox_ms (n + 6)) 59 0 1 [.inr (.inr (0, 0, 0)), .inr (.inr (120, 0, 0)), .inl (v2), .inl (v3), .inl (v4), ox_d] [.inl (r2), .inl (v4)] σ) rfl ?_
  refine ox_R_to 1 (Y := if r2 ≤ v4 then ox_ev m_Out_renumber (ox_zz ox_ms (n + 6)) 149 0 1 [.inr (.inr (0, 0, 0)), .inr (.inr (120, 0, 0)), .inl (v2), .inl (v3), ox_d, ox_d] [] σ else ox_ev m_Out_renumber (ox_zz ox_ms (n + 6)) 62 0 1 [.inr (.inr (0, 0, 0)), .inr (.inr (120, 0, 0)), .inl (v2), .inl (v3), .inl (v4), ox_d] [] σ) rfl ?_
  refine ox_R_if (fun _ => ?_) (fun _ => ?_)
  · exact ox_R_map ((L_Out_renumber_149 v2 v3 σ n 1))
  · refine ox_R_to 5 (Y := ox_back m_Out_renumber 69 3 [] ((ox_zz ox_ms (n + 6)) 157 1 [.inr (.inr (1, 0, 0)), .inl (v3), .inl (v4)] σ) (fun pc9 x9 st9 σ9 => ox_ev m_Out_renumber (ox_zz ox_ms (n + 6)) pc9 0 1 (ox_kl (m_Out_renumber.2.2.1 pc9) (ox_xl x9 [.inr (.inr (0, 0, 0)), .inr (.inr (120, 0, 0)), .inl (v2), .inl (v3), .inl (v4), ox_d])) st9 σ9)) rfl ?_
    refine ox_R_call (fc := (fun r : Int => ((.inl (some (.inl r)), σ) : ox_O))) (L_Lin_at 0 v3 v4 σ (n + 5) 1) (fun r3 => ?_)
    refine ox_R_of (Y := ox_ev m_Out_renumber (ox_zz ox_ms (n + 6)) 72 0 1 [.inr (.inr (0, 0, 0)), .inr (.inr (120, 0, 0)), .inl (v2), .inl (v3), .inl (v4), ox_d] [.inl (r3)] σ) rfl ?_
    refine ox_R_to 10 (Y := ox_back m_Out_renumber 86 3 [] ((ox_zz ox_ms (n + 6)) 157 1 [.inr (.inr (1, 0, 0)), .inl (v3), .inl (ox_w (v4 - 1))] σ) (fun pc9 x9 st9 σ9 => ox_ev m_Out_renumber (ox_zz ox_ms (n + 6)) pc9 0 1 (ox_kl (m_Out_renumber.2.2.1 pc9) (ox_xl x9 [.inr (.inr (0, 0, 0)), .inr (.inr (120, 0, 0)), .inl (v2), .inl (v3), .inl (v4), .inl (ox_w (r3 - 48))])) st9 σ9)) rfl ?_
    refine ox_R_call (fc := (fun r : Int => ((.inl (some (.inl r)), σ) : ox_O))) (L_Lin_at 0 v3 (ox_w (v4 - 1)) σ (n + 5) 1) (fun r4 => ?_)
    refine ox_R_of (Y := ox_ev m_Out_renumber (ox_zz ox_ms (n + 6)) 89 0 1 [.inr (.inr (0, 0, 0)), .inr (.inr (120, 0, 0)), .inl (v2), .inl (v3), .inl (v4), .inl (ox_w (r3 - 48))] [.inl (r4)] σ) rfl ?_
    refine ox_R_to 2 (Y := if r4 = 94 then ox_ev m_Out_renumber (ox_zz ox_ms (n + 6)) 94 0 1 [.inr (.inr (0, 0, 0)), .inr (.inr (120, 0, 0)), .inl (v2), .inl (v3), .inl (v4), .inl (ox_w (r3 - 48))] [] σ else ox_ev m_Out_renumber (ox_zz ox_ms (n + 6)) 143 0 1 [.inr (.inr (0, 0, 0)), .inr (.inr (120, 0, 0)), .inl (v2), .inl (v3), .inl (v4), ox_d] [] σ) rfl ?_
    refine ox_R_if (fun _ => ?_) (fun _ => ?_)
    · refine ox_R_to 3 (Y := if (ox_w (r3 - 48)) < 1 then ox_ev m_Out_renumber (ox_zz ox_ms (n + 6)) 143 0 1 [.inr (.inr (0, 0, 0)), .inr (.inr (120, 0, 0)), .inl (v2), .inl (v3), .inl (v4), ox_d] [] σ else ox_ev m_Out_renumber (ox_zz ox_ms (n + 6)) 100 0 1 [.inr (.inr (0, 0, 0)), .inr (.inr (120, 0, 0)), .inl (v2), .inl (v3), .inl (v4), .inl (ox_w (r3 - 48))] [] σ) rfl ?_
      refine ox_R_if (fun _ => ?_) (fun _ => ?_)
      · exact (L_Out_renumber_143 v2 v3 v4 σ n 1)
      · refine ox_R_to 3 (Y := if (ox_w (r3 - 48)) ≤ 9 then ox_ev m_Out_renumber (ox_zz ox_ms (n + 6)) 110 0 1 [.inr (.inr (0, 0, 0)), .inr (.inr (120, 0, 0)), .inl (v2), .inl (v3), .inl (v4), .inl (ox_w (r3 - 48))] [] σ else ox_ev m_Out_renumber (ox_zz ox_ms (n + 6)) 107 0 1 [.inr (.inr (0, 0, 0)), .inr (.inr (120, 0, 0)), .inl (v2), .inl (v3), .inl (v4), .inl (ox_w (r3 - 48))] [] σ) rfl ?_
        refine ox_R_if (fun _ => ?_) (fun _ => ?_)
        · refine ox_R_to 3 (Y := if 0 ≤ (ox_w (r3 - 48)) ∧ (ox_w (r3 - 48)).toNat < 10 then ox_ev m_Out_renumber (ox_zz ox_ms (n + 6)) 114 0 1 [.inr (.inr (0, 0, 0)), .inr (.inr (120, 0, 0)), .inl (v2), .inl (v3), .inl (v4), .inl (ox_w (r3 - 48))] [.inl (σ 20 0 0 ((ox_w (r3 - 48)).toNat))] σ else none) rfl ?_
          refine ox_R_if (fun _ => ?_) (fun _ => ox_R_none)
          refine ox_R_to 1 (Y := if (σ 20 0 0 ((ox_w (r3 - 48)).toNat)) = 0 then ox_ev m_Out_renumber (ox_zz ox_ms (n + 6)) 117 0 1 [.inr (.inr (0, 0, 0)), .inr (.inr (120, 0, 0)), .inl (v2), .inl (v3), .inl (v4), .inl (ox_w (r3 - 48))] [] σ else ox_ev m_Out_renumber (ox_zz ox_ms (n + 6)) 125 0 1 [.inr (.inr (0, 0, 0)), .inr (.inr (120, 0, 0)), .inl (v2), .inl (v3), .inl (v4), .inl (ox_w (r3 - 48))] [] σ) rfl ?_
          refine ox_R_if (fun _ => ?_) (fun _ => ?_)
          · refine ox_R_to 5 (Y := if 0 ≤ (ox_w (r3 - 48)) ∧ (ox_w (r3 - 48)).toNat < 10 then ox_ev m_Out_renumber (ox_zz ox_ms (n + 6)) 125 0 1 [.inr (.inr (0, 0, 0)), .inr (.inr (120, 0, 0)), .inl (ox_w (v2 + 1)), .inl (v3), .inl (v4), .inl (ox_w (r3 - 48))] [] (ox_up σ 20 0 0 ((ox_w (r3 - 48)).toNat) (ox_w (v2 + 1))) else none) rfl ?_
            refine ox_R_if (fun _ => ?_) (fun _ => ox_R_none)
            exact (L_Out_renumber_125 (ox_w (v2 + 1)) v3 v4 (ox_w (r3 - 48)) (ox_up σ 20 0 0 ((ox_w (r3 - 48)).toNat) (ox_w (v2 + 1))) n 1)
          · exact (L_Out_renumber_125 v2 v3 v4 (ox_w (r3 - 48)) σ n 1)
        · refine ox_R_to 1 (Y := ox_ev m_Out_renumber (ox_zz ox_ms (n + 6)) 143 0 1 [.inr (.inr (0, 0, 0)), .inr (.inr (120, 0, 0)), .inl (v2), .inl (v3), .inl (v4), ox_d] [] σ) rfl ?_
          exact (L_Out_renumber_143 v2 v3 v4 σ n 1)
    · exact (L_Out_renumber_143 v2 v3 v4 σ n 1)
def B_Out_renumber_16  : (Int × Int × ox_H) → Option (((Int × Int × ox_H) ⊕ Int × ox_H)) := fun (v2, v3, σ) => if (σ 1 0 4 0) ≤ v3 then ((J_Out_renumber_155 v2 σ).map .inr) else ((F_Otl_reading v3 σ).bind fun r5 => (if (σ 4 r5 0 0) = 7 then (J_Out_renumber_49 v2 v3 1 σ) else (J_Out_renumber_149 v2 v3 σ)))
def J_Out_renumber_16  (v2 : Int) (v3 : Int) (σ : ox_H) : Option (Int × ox_H) := ox_lp (B_Out_renumber_16) ox_fu (v2, v3, σ)
theorem L_Out_renumber_16  (v2 : Int) (v3 : Int) (σ : ox_H) (n tl : Nat) : ox_R (fun r => some ((fun r : Int × ox_H => ((.inl (some (.inl r.1)), r.2) : ox_O)) r)) (J_Out_renumber_16 v2 v3 σ) (ox_ev m_Out_renumber (ox_zz ox_ms (n + 6)) 16 0 1 [.inr (.inr (0, 0, 0)), .inr (.inr (120, 0, 0)), .inl (v2), .inl (v3), ox_d, ox_d] [] σ) := by
  unfold J_Out_renumber_16
  refine ox_R_lp (ψ := (fun (s : Int × Int × ox_H) => match s with | (v2, v3, σ) => ox_ev m_Out_renumber (ox_zz ox_ms (n + 6)) 16 0 1 [.inr (.inr (0, 0, 0)), .inr (.inr (120, 0, 0)), .inl (v2), .inl (v3), ox_d, ox_d] [] σ)) ?_ ox_fu (v2, v3, σ)
  intro s
  obtain ⟨v2, v3, σ⟩ := s
  unfold B_Out_renumber_16
  refine ox_R_to 5 (Y := if (σ 1 0 4 0) ≤ v3 then ox_ev m_Out_renumber (ox_zz ox_ms (n + 6)) 155 0 1 [ox_d, ox_d, .inl (v2), ox_d, ox_d, ox_d] [] σ else ox_ev m_Out_renumber (ox_zz ox_ms (n + 6)) 27 0 1 [.inr (.inr (0, 0, 0)), .inr (.inr (120, 0, 0)), .inl (v2), .inl (v3), ox_d, ox_d] [] σ) rfl ?_
  refine ox_R_if (fun _ => ?_) (fun _ => ?_)
  · exact ox_R_map ((L_Out_renumber_155 v2 σ n 1))
  · refine ox_R_to 4 (Y := ox_back m_Out_renumber 32 3 [] ((ox_zz ox_ms (n + 6)) 172 1 [.inr (.inr (2, 0, 0)), .inl (v3)] σ) (fun pc9 x9 st9 σ9 => ox_ev m_Out_renumber (ox_zz ox_ms (n + 6)) pc9 0 1 (ox_kl (m_Out_renumber.2.2.1 pc9) (ox_xl x9 [.inr (.inr (0, 0, 0)), .inr (.inr (120, 0, 0)), .inl (v2), .inl (v3), ox_d, ox_d])) st9 σ9)) rfl ?_
    refine ox_R_call (fc := (fun r : Nat => ((.inl (some (.inr (.inr (4, r, 0)))), σ) : ox_O))) (L_Otl_reading v3 σ (n + 5) 1) (fun r5 => ?_)
    refine ox_R_of (Y := ox_ev m_Out_renumber (ox_zz ox_ms (n + 6)) 35 0 1 [.inr (.inr (0, 0, 0)), .inr (.inr (120, 0, 0)), .inl (v2), .inl (v3), ox_d, ox_d] [.inr (.inr (4, r5, 0))] σ) rfl ?_
    refine ox_R_to 3 (Y := if (σ 4 r5 0 0) = 7 then ox_ev m_Out_renumber (ox_zz ox_ms (n + 6)) 46 0 1 [.inr (.inr (0, 0, 0)), .inr (.inr (120, 0, 0)), .inl (v2), .inl (v3), ox_d, ox_d] [] σ else ox_ev m_Out_renumber (ox_zz ox_ms (n + 6)) 43 0 1 [.inr (.inr (0, 0, 0)), .inr (.inr (120, 0, 0)), .inl (v2), .inl (v3), ox_d, ox_d] [] σ) rfl ?_
    refine ox_R_if (fun _ => ?_) (fun _ => ?_)
    · refine ox_R_to 2 (Y := ox_ev m_Out_renumber (ox_zz ox_ms (n + 6)) 49 0 1 [.inr (.inr (0, 0, 0)), .inr (.inr (120, 0, 0)), .inl (v2), .inl (v3), .inl (1), ox_d] [] σ) rfl ?_
      exact (L_Out_renumber_49 v2 v3 1 σ n 1)
    · refine ox_R_to 1 (Y := ox_ev m_Out_renumber (ox_zz ox_ms (n + 6)) 149 0 1 [.inr (.inr (0, 0, 0)), .inr (.inr (120, 0, 0)), .inl (v2), .inl (v3), ox_d, ox_d] [] σ) rfl ?_
      exact (L_Out_renumber_149 v2 v3 σ n 1)
def F_Out_renumber  (σ : ox_H) : Option (Int × ox_H) := (F_Otl_refresh σ).bind fun r6 => (J_Out_renumber_16 0 0 (ox_nw r6))
theorem L_Out_renumber  (σ : ox_H) (n tl : Nat) : ox_R (fun r => some ((fun r : Int × ox_H => ((.inl (some (.inl r.1)), r.2) : ox_O)) r)) (F_Out_renumber σ) (ox_zz ox_ms (n + 7) 39 0 [.inr (.inr (0, 0, 0))] σ) := by
  unfold F_Out_renumber
  refine ox_R_of (Y := ox_ev m_Out_renumber (ox_zz ox_ms (n + 6)) 0 1 0 [.inr (.inr (0, 0, 0)), ox_d, ox_d, ox_d, ox_d, ox_d] [] σ) rfl ?_
  refine ox_R_to 3 (Y := ox_back m_Out_renumber 4 2 [] ((ox_zz ox_ms (n + 6)) 169 0 [.inr (.inr (2, 0, 0))] σ) (fun pc9 x9 st9 σ9 => ox_ev m_Out_renumber (ox_zz ox_ms (n + 6)) pc9 1 0 (ox_kl (m_Out_renumber.2.2.1 pc9) (ox_xl x9 [.inr (.inr (0, 0, 0)), ox_d, ox_d, ox_d, ox_d, ox_d])) st9 σ9)) rfl ?_
  refine ox_R_call (fc := (fun r : ox_H => ((.inl none, r) : ox_O))) (L_Otl_refresh σ (n + 0) 0) (fun r6 => ?_)
  refine ox_R_of (Y := ox_ev m_Out_renumber (ox_zz ox_ms (n + 6)) 7 1 0 [.inr (.inr (0, 0, 0)), ox_d, ox_d, ox_d, ox_d, ox_d] [] r6) rfl ?_
  refine ox_R_to 7 (Y := ox_ev m_Out_renumber (ox_zz ox_ms (n + 6)) 16 0 1 [.inr (.inr (0, 0, 0)), .inr (.inr (120, 0, 0)), .inl (0), .inl (0), ox_d, ox_d] [] (ox_nw r6)) rfl ?_
  exact (L_Out_renumber_16 0 0 (ox_nw r6) n 0)
def J_Exp_putInclude_43 (P : Int → Int → Int → Int → ox_H → Option ox_H)  (σ : ox_H) : Option ox_H := some σ
theorem L_Exp_putInclude_43 (n : Nat) (P : Int → Int → Int → Int → ox_H → Option ox_H) (hP : ∀ (a1 a2 a3 a4 : Int) (σ : ox_H) (tl : Nat), ox_R (fun r => some ((fun r : ox_H => ((.inl none, r) : ox_O)) r)) (P a1 a2 a3 a4 σ) (ox_zz ox_ms (n + 20) 144 tl [.inr (.inr (7, 0, 0)), .inl (a1), .inl (a2), .inl (a3), .inl (a4)] σ))  (σ : ox_H) (tl : Nat) : ox_R (fun r => some ((fun r : ox_H => ((.inl none, r) : ox_O)) r)) (J_Exp_putInclude_43 P σ) (ox_ev m_Exp_putInclude (ox_zz ox_ms (n + 20)) 43 0 tl [ox_d, ox_d, ox_d, ox_d, ox_d, ox_d, ox_d] [] σ) := by
  unfold J_Exp_putInclude_43
  refine ox_R_to 1 (Y := some (.inl none, σ)) rfl ?_
  exact ox_R_ret rfl
def J_Exp_putInclude_79 (P : Int → Int → Int → Int → ox_H → Option ox_H)  (v3 : Int) (v4 : Int) (s0 : Int) (σ : ox_H) : Option ox_H := (F_Otl_lineOf v4 σ).bind fun r1 => ((F_Otl_partEnd v4 σ).bind fun r2 => ((P r1 r2 s0 (ox_w (v3 + 1)) σ).bind fun r3 => (some r3)))
theorem L_Exp_putInclude_79 (n : Nat) (P : Int → Int → Int → Int → ox_H → Option ox_H) (hP : ∀ (a1 a2 a3 a4 : Int) (σ : ox_H) (tl : Nat), ox_R (fun r => some ((fun r : ox_H => ((.inl none, r) : ox_O)) r)) (P a1 a2 a3 a4 σ) (ox_zz ox_ms (n + 20) 144 tl [.inr (.inr (7, 0, 0)), .inl (a1), .inl (a2), .inl (a3), .inl (a4)] σ))  (v3 : Int) (v4 : Int) (s0 : Int) (σ : ox_H) (tl : Nat) : ox_R (fun r => some ((fun r : ox_H => ((.inl none, r) : ox_O)) r)) (J_Exp_putInclude_79 P v3 v4 s0 σ) (ox_ev m_Exp_putInclude (ox_zz ox_ms (n + 20)) 79 0 tl [.inr (.inr (7, 0, 0)), ox_d, ox_d, .inl (v3), .inl (v4), ox_d, ox_d] [.inl (s0)] σ) := by
  unfold J_Exp_putInclude_79
  refine ox_R_to 6 (Y := ox_back m_Exp_putInclude 88 3 [.inr (.inr (7, 0, 0))] ((ox_zz ox_ms (n + 20)) 174 tl [.inr (.inr (2, 0, 0)), .inl (v4)] σ) (fun pc9 x9 st9 σ9 => ox_ev m_Exp_putInclude (ox_zz ox_ms (n + 20)) pc9 0 tl (ox_kl (m_Exp_putInclude.2.2.1 pc9) (ox_xl x9 [.inr (.inr (7, 0, 0)), ox_d, ox_d, .inl (v3), .inl (v4), ox_d, .inl (s0)])) st9 σ9)) rfl ?_
  refine ox_R_call (fc := (fun r : Int => ((.inl (some (.inl r)), σ) : ox_O))) (L_Otl_lineOf v4 σ (n + 19) tl) (fun r1 => ?_)
  refine ox_R_of (Y := ox_ev m_Exp_putInclude (ox_zz ox_ms (n + 20)) 91 0 tl [.inr (.inr (7, 0, 0)), ox_d, ox_d, .inl (v3), .inl (v4), ox_d, .inl (s0)] [.inl (r1), .inr (.inr (7, 0, 0))] σ) rfl ?_
  refine ox_R_to 4 (Y := ox_back m_Exp_putInclude 97 3 [.inl (r1), .inr (.inr (7, 0, 0))] ((ox_zz ox_ms (n + 20)) 185 tl [.inr (.inr (2, 0, 0)), .inl (v4)] σ) (fun pc9 x9 st9 σ9 => ox_ev m_Exp_putInclude (ox_zz ox_ms (n + 20)) pc9 0 tl (ox_kl (m_Exp_putInclude.2.2.1 pc9) (ox_xl x9 [.inr (.inr (7, 0, 0)), ox_d, ox_d, .inl (v3), .inl (v4), ox_d, .inl (s0)])) st9 σ9)) rfl ?_
  refine ox_R_call (fc := (fun r : Int => ((.inl (some (.inl r)), σ) : ox_O))) (L_Otl_partEnd v4 σ (n + 17) tl) (fun r2 => ?_)
  refine ox_R_of (Y := ox_ev m_Exp_putInclude (ox_zz ox_ms (n + 20)) 100 0 tl [.inr (.inr (7, 0, 0)), ox_d, ox_d, .inl (v3), .inl (v4), ox_d, .inl (s0)] [.inl (r2), .inl (r1), .inr (.inr (7, 0, 0))] σ) rfl ?_
  refine ox_R_to 5 (Y := ox_back m_Exp_putInclude 105 0 [] ((ox_zz ox_ms (n + 20)) 144 tl [.inr (.inr (7, 0, 0)), .inl (r1), .inl (r2), .inl (s0), .inl (ox_w (v3 + 1))] σ) (fun pc9 x9 st9 σ9 => ox_ev m_Exp_putInclude (ox_zz ox_ms (n + 20)) pc9 0 tl (ox_kl (m_Exp_putInclude.2.2.1 pc9) (ox_xl x9 [.inr (.inr (7, 0, 0)), ox_d, ox_d, .inl (v3), .inl (v4), ox_d, .inl (s0)])) st9 σ9)) rfl ?_
  refine ox_R_call (fc := (fun r : ox_H => ((.inl none, r) : ox_O))) (hP r1 r2 s0 (ox_w (v3 + 1)) σ tl) (fun r3 => ?_)
  refine ox_R_of (Y := ox_ev m_Exp_putInclude (ox_zz ox_ms (n + 20)) 108 0 tl [.inr (.inr (7, 0, 0)), ox_d, ox_d, .inl (v3), .inl (v4), ox_d, .inl (s0)] [] r3) rfl ?_
  refine ox_R_to 1 (Y := some (.inl none, r3)) rfl ?_
  exact ox_R_ret rfl
def F_Exp_putInclude (P : Int → Int → Int → Int → ox_H → Option ox_H)  (a1 : Int) (a2 : Int) (a3 : Int) (σ : ox_H) : Option (ox_H) := (F_Otl_reading a1 σ).bind fun r4 => ((F_Otl_titled ((ox_w (97 + (σ 4 r4 1 0))) % 65536) σ).bind fun r5 => (if r5 = (-1) then (J_Exp_putInclude_43 P σ) else ((F_Otl_stateOf r5 σ).bind fun r6 => (if r6 = 3 then (J_Exp_putInclude_43 P σ) else ((F_Otl_ownerOf a1 σ).bind fun r7 => (if r7 = (-1) then (J_Exp_putInclude_79 P a3 r5 0 σ) else ((F_Otl_levelOf r7 σ).bind fun r8 => (J_Exp_putInclude_79 P a3 r5 (if (ox_w (r8 + a2)) < 5 then (ox_w (r8 + a2)) else 5) σ))))))))
theorem L_Exp_putInclude (n : Nat) (P : Int → Int → Int → Int → ox_H → Option ox_H) (hP : ∀ (a1 a2 a3 a4 : Int) (σ : ox_H) (tl : Nat), ox_R (fun r => some ((fun r : ox_H => ((.inl none, r) : ox_O)) r)) (P a1 a2 a3 a4 σ) (ox_zz ox_ms (n + 20) 144 tl [.inr (.inr (7, 0, 0)), .inl (a1), .inl (a2), .inl (a3), .inl (a4)] σ))  (a1 : Int) (a2 : Int) (a3 : Int) (σ : ox_H) (tl : Nat) : ox_R (fun r => some ((fun r : ox_H => ((.inl none, r) : ox_O)) r)) (F_Exp_putInclude P a1 a2 a3 σ) (ox_zz ox_ms (n + 21) 145 tl [.inr (.inr (7, 0, 0)), .inl (a1), .inl (a2), .inl (a3)] σ) := by
  unfold F_Exp_putInclude
  refine ox_R_of (Y := ox_ev m_Exp_putInclude (ox_zz ox_ms (n + 20)) 0 0 tl [.inr (.inr (7, 0, 0)), .inl (a1), .inl (a2), .inl (a3), ox_d, ox_d, ox_d] [] σ) rfl ?_
  refine ox_R_to 7 (Y := ox_back m_Exp_putInclude 11 3 [.inl (97), .inr (.inr (2, 0, 0))] ((ox_zz ox_ms (n + 20)) 172 tl [.inr (.inr (2, 0, 0)), .inl (a1)] σ) (fun pc9 x9 st9 σ9 => ox_ev m_Exp_putInclude (ox_zz ox_ms (n + 20)) pc9 0 tl (ox_kl (m_Exp_putInclude.2.2.1 pc9) (ox_xl x9 [.inr (.inr (7, 0, 0)), .inl (a1), .inl (a2), .inl (a3), ox_d, ox_d, ox_d])) st9 σ9)) rfl ?_
  refine ox_R_call (fc := (fun r : Nat => ((.inl (some (.inr (.inr (4, r, 0)))), σ) : ox_O))) (L_Otl_reading a1 σ (n + 19) tl) (fun r4 => ?_)
  refine ox_R_of (Y := ox_ev m_Exp_putInclude (ox_zz ox_ms (n + 20)) 14 0 tl [.inr (.inr (7, 0, 0)), .inl (a1), .inl (a2), .inl (a3), ox_d, ox_d, ox_d] [.inr (.inr (4, r4, 0)), .inl (97), .inr (.inr (2, 0, 0))] σ) rfl ?_
  refine ox_R_to 4 (Y := ox_back m_Exp_putInclude 19 3 [] ((ox_zz ox_ms (n + 20)) 181 tl [.inr (.inr (2, 0, 0)), .inl ((ox_w (97 + (σ 4 r4 1 0))) % 65536)] σ) (fun pc9 x9 st9 σ9 => ox_ev m_Exp_putInclude (ox_zz ox_ms (n + 20)) pc9 0 tl (ox_kl (m_Exp_putInclude.2.2.1 pc9) (ox_xl x9 [.inr (.inr (7, 0, 0)), .inl (a1), .inl (a2), .inl (a3), ox_d, ox_d, ox_d])) st9 σ9)) rfl ?_
  refine ox_R_call (fc := (fun r : Int => ((.inl (some (.inl r)), σ) : ox_O))) (L_Otl_titled ((ox_w (97 + (σ 4 r4 1 0))) % 65536) σ (n + 17) tl) (fun r5 => ?_)
  refine ox_R_of (Y := ox_ev m_Exp_putInclude (ox_zz ox_ms (n + 20)) 22 0 tl [.inr (.inr (7, 0, 0)), .inl (a1), .inl (a2), .inl (a3), ox_d, ox_d, ox_d] [.inl (r5)] σ) rfl ?_
  refine ox_R_to 4 (Y := if r5 = (-1) then ox_ev m_Exp_putInclude (ox_zz ox_ms (n + 20)) 43 0 tl [ox_d, ox_d, ox_d, ox_d, ox_d, ox_d, ox_d] [] σ else ox_ev m_Exp_putInclude (ox_zz ox_ms (n + 20)) 30 0 tl [.inr (.inr (7, 0, 0)), .inl (a1), .inl (a2), .inl (a3), .inl (r5), ox_d, ox_d] [] σ) rfl ?_
  refine ox_R_if (fun _ => ?_) (fun _ => ?_)
  · exact (L_Exp_putInclude_43 n P hP σ tl)
  · refine ox_R_to 4 (Y := ox_back m_Exp_putInclude 36 3 [] ((ox_zz ox_ms (n + 20)) 178 tl [.inr (.inr (2, 0, 0)), .inl (r5)] σ) (fun pc9 x9 st9 σ9 => ox_ev m_Exp_putInclude (ox_zz ox_ms (n + 20)) pc9 0 tl (ox_kl (m_Exp_putInclude.2.2.1 pc9) (ox_xl x9 [.inr (.inr (7, 0, 0)), .inl (a1), .inl (a2), .inl (a3), .inl (r5), ox_d, ox_d])) st9 σ9)) rfl ?_
    refine ox_R_call (fc := (fun r : Int => ((.inl (some (.inl r)), σ) : ox_O))) (L_Otl_stateOf r5 σ (n + 18) tl) (fun r6 => ?_)
    refine ox_R_of (Y := ox_ev m_Exp_putInclude (ox_zz ox_ms (n + 20)) 39 0 tl [.inr (.inr (7, 0, 0)), .inl (a1), .inl (a2), .inl (a3), .inl (r5), ox_d, ox_d] [.inl (r6)] σ) rfl ?_
    refine ox_R_to 2 (Y := if r6 = 3 then ox_ev m_Exp_putInclude (ox_zz ox_ms (n + 20)) 43 0 tl [ox_d, ox_d, ox_d, ox_d, ox_d, ox_d, ox_d] [] σ else ox_ev m_Exp_putInclude (ox_zz ox_ms (n + 20)) 44 0 tl [.inr (.inr (7, 0, 0)), .inl (a1), .inl (a2), .inl (a3), .inl (r5), ox_d, ox_d] [] σ) rfl ?_
    refine ox_R_if (fun _ => ?_) (fun _ => ?_)
    · exact (L_Exp_putInclude_43 n P hP σ tl)
    · refine ox_R_to 4 (Y := ox_back m_Exp_putInclude 49 3 [] ((ox_zz ox_ms (n + 20)) 173 tl [.inr (.inr (2, 0, 0)), .inl (a1)] σ) (fun pc9 x9 st9 σ9 => ox_ev m_Exp_putInclude (ox_zz ox_ms (n + 20)) pc9 0 tl (ox_kl (m_Exp_putInclude.2.2.1 pc9) (ox_xl x9 [.inr (.inr (7, 0, 0)), .inl (a1), .inl (a2), .inl (a3), .inl (r5), ox_d, ox_d])) st9 σ9)) rfl ?_
      refine ox_R_call (fc := (fun r : Int => ((.inl (some (.inl r)), σ) : ox_O))) (L_Otl_ownerOf a1 σ (n + 19) tl) (fun r7 => ?_)
      refine ox_R_of (Y := ox_ev m_Exp_putInclude (ox_zz ox_ms (n + 20)) 52 0 tl [.inr (.inr (7, 0, 0)), .inl (a1), .inl (a2), .inl (a3), .inl (r5), ox_d, ox_d] [.inl (r7)] σ) rfl ?_
      refine ox_R_to 4 (Y := if r7 = (-1) then ox_ev m_Exp_putInclude (ox_zz ox_ms (n + 20)) 60 0 tl [.inr (.inr (7, 0, 0)), .inl (a1), .inl (a2), .inl (a3), .inl (r5), .inl (r7), ox_d] [] σ else ox_ev m_Exp_putInclude (ox_zz ox_ms (n + 20)) 64 0 tl [.inr (.inr (7, 0, 0)), .inl (a1), .inl (a2), .inl (a3), .inl (r5), .inl (r7), ox_d] [] σ) rfl ?_
      refine ox_R_if (fun _ => ?_) (fun _ => ?_)
      · refine ox_R_to 2 (Y := ox_ev m_Exp_putInclude (ox_zz ox_ms (n + 20)) 79 0 tl [.inr (.inr (7, 0, 0)), ox_d, ox_d, .inl (a3), .inl (r5), ox_d, ox_d] [.inl (0)] σ) rfl ?_
        exact (L_Exp_putInclude_79 n P hP a3 r5 0 σ tl)
      · refine ox_R_to 5 (Y := ox_back m_Exp_putInclude 71 3 [.inl (5)] ((ox_zz ox_ms (n + 20)) 177 tl [.inr (.inr (2, 0, 0)), .inl (r7)] σ) (fun pc9 x9 st9 σ9 => ox_ev m_Exp_putInclude (ox_zz ox_ms (n + 20)) pc9 0 tl (ox_kl (m_Exp_putInclude.2.2.1 pc9) (ox_xl x9 [.inr (.inr (7, 0, 0)), .inl (a1), .inl (a2), .inl (a3), .inl (r5), .inl (r7), ox_d])) st9 σ9)) rfl ?_
        refine ox_R_call (fc := (fun r : Int => ((.inl (some (.inl r)), σ) : ox_O))) (L_Otl_levelOf r7 σ (n + 19) tl) (fun r8 => ?_)
        refine ox_R_of (Y := ox_ev m_Exp_putInclude (ox_zz ox_ms (n + 20)) 74 0 tl [.inr (.inr (7, 0, 0)), .inl (a1), .inl (a2), .inl (a3), .inl (r5), .inl (r7), ox_d] [.inl (r8), .inl (5)] σ) rfl ?_
        refine ox_R_to 3 (Y := ox_ev m_Exp_putInclude (ox_zz ox_ms (n + 20)) 79 0 tl [.inr (.inr (7, 0, 0)), ox_d, ox_d, .inl (a3), .inl (r5), ox_d, ox_d] [.inl (if (ox_w (r8 + a2)) < 5 then (ox_w (r8 + a2)) else 5)] σ) rfl ?_
        exact (L_Exp_putInclude_79 n P hP a3 r5 (if (ox_w (r8 + a2)) < 5 then (ox_w (r8 + a2)) else 5) σ tl)
def J_Exp_putStars_23  (v1 : Int) (σ : ox_H) : Option ox_H := (F_Lin_add 2 v1 32 σ).bind fun r1 => (some r1)
theorem L_Exp_putStars_23  (v1 : Int) (σ : ox_H) (n tl : Nat) : ox_R (fun r => some ((fun r : ox_H => ((.inl none, r) : ox_O)) r)) (J_Exp_putStars_23 v1 σ) (ox_ev m_Exp_putStars (ox_zz ox_ms (n + 1)) 23 0 tl [.inr (.inr (7, 0, 0)), .inl (v1), ox_d, ox_d] [] σ) := by
  unfold J_Exp_putStars_23
  refine ox_R_to 5 (Y := ox_back m_Exp_putStars 30 2 [] ((ox_zz ox_ms (n + 1)) 163 tl [.inr (.inr (1, 2, 0)), .inl (v1), .inl (32)] σ) (fun pc9 x9 st9 σ9 => ox_ev m_Exp_putStars (ox_zz ox_ms (n + 1)) pc9 0 tl (ox_kl (m_Exp_putStars.2.2.1 pc9) (ox_xl x9 [.inr (.inr (7, 0, 0)), .inl (v1), ox_d, ox_d])) st9 σ9)) rfl ?_
  refine ox_R_call (fc := (fun r : ox_H => ((.inl none, r) : ox_O))) (L_Lin_add 2 v1 32 σ (n + 0) tl) (fun r1 => ?_)
  refine ox_R_of (Y := ox_ev m_Exp_putStars (ox_zz ox_ms (n + 1)) 33 0 tl [.inr (.inr (7, 0, 0)), .inl (v1), ox_d, ox_d] [] r1) rfl ?_
  refine ox_R_to 1 (Y := some (.inl none, r1)) rfl ?_
  exact ox_R_ret rfl
def B_Exp_putStars_2  (v1 : Int) (v2 : Int) : (Int × ox_H) → Option (((Int × ox_H) ⊕ ox_H)) := fun (v3, σ) => if v2 ≤ v3 then ((J_Exp_putStars_23 v1 σ).map .inr) else ((F_Lin_add 2 v1 42 σ).bind fun r2 => (some (.inl (ox_w (v3 + 1), r2))))
def J_Exp_putStars_2  (v1 : Int) (v2 : Int) (v3 : Int) (σ : ox_H) : Option (ox_H) := ox_lp (B_Exp_putStars_2 v1 v2) ox_fu (v3, σ)
theorem L_Exp_putStars_2  (v1 : Int) (v2 : Int) (v3 : Int) (σ : ox_H) (n tl : Nat) : ox_R (fun r => some ((fun r : ox_H => ((.inl none, r) : ox_O)) r)) (J_Exp_putStars_2 v1 v2 v3 σ) (ox_ev m_Exp_putStars (ox_zz ox_ms (n + 1)) 2 0 tl [.inr (.inr (7, 0, 0)), .inl (v1), .inl (v2), .inl (v3)] [] σ) := by
  unfold J_Exp_putStars_2
  refine ox_R_lp (ψ := (fun (s : Int × ox_H) => match s with | (v3, σ) => ox_ev m_Exp_putStars (ox_zz ox_ms (n + 1)) 2 0 tl [.inr (.inr (7, 0, 0)), .inl (v1), .inl (v2), .inl (v3)] [] σ)) ?_ ox_fu (v3, σ)
  intro s
  obtain ⟨v3, σ⟩ := s
  unfold B_Exp_putStars_2
  refine ox_R_to 3 (Y := if v2 ≤ v3 then ox_ev m_Exp_putStars (ox_zz ox_ms (n + 1)) 23 0 tl [.inr (.inr (7, 0, 0)), .inl (v1), ox_d, ox_d] [] σ else ox_ev m_Exp_putStars (ox_zz ox_ms (n + 1)) 7 0 tl [.inr (.inr (7, 0, 0)), .inl (v1), .inl (v2), .inl (v3)] [] σ) rfl ?_
  refine ox_R_if (fun _ => ?_) (fun _ => ?_)
  · exact ox_R_map ((L_Exp_putStars_23 v1 σ n tl))
  · refine ox_R_to 5 (Y := ox_back m_Exp_putStars 14 2 [] ((ox_zz ox_ms (n + 1)) 163 tl [.inr (.inr (1, 2, 0)), .inl (v1), .inl (42)] σ) (fun pc9 x9 st9 σ9 => ox_ev m_Exp_putStars (ox_zz ox_ms (n + 1)) pc9 0 tl (ox_kl (m_Exp_putStars.2.2.1 pc9) (ox_xl x9 [.inr (.inr (7, 0, 0)), .inl (v1), .inl (v2), .inl (v3)])) st9 σ9)) rfl ?_
    refine ox_R_call (fc := (fun r : ox_H => ((.inl none, r) : ox_O))) (L_Lin_add 2 v1 42 σ (n + 0) tl) (fun r2 => ?_)
    refine ox_R_of (Y := ox_ev m_Exp_putStars (ox_zz ox_ms (n + 1)) 17 0 tl [.inr (.inr (7, 0, 0)), .inl (v1), .inl (v2), .inl (v3)] [] r2) rfl ?_
    refine ox_R_to 2 (Y := ox_ev m_Exp_putStars (ox_zz ox_ms (n + 1)) 2 0 tl [.inr (.inr (7, 0, 0)), .inl (v1), .inl (v2), .inl (ox_w (v3 + 1))] [] r2) rfl ?_
    exact ox_R_ret rfl
def F_Exp_putStars  (a1 : Int) (a2 : Int) (σ : ox_H) : Option (ox_H) := (J_Exp_putStars_2 a1 a2 0 σ)
theorem L_Exp_putStars  (a1 : Int) (a2 : Int) (σ : ox_H) (n tl : Nat) : ox_R (fun r => some ((fun r : ox_H => ((.inl none, r) : ox_O)) r)) (F_Exp_putStars a1 a2 σ) (ox_zz ox_ms (n + 2) 147 tl [.inr (.inr (7, 0, 0)), .inl (a1), .inl (a2)] σ) := by
  unfold F_Exp_putStars
  refine ox_R_of (Y := ox_ev m_Exp_putStars (ox_zz ox_ms (n + 1)) 0 0 tl [.inr (.inr (7, 0, 0)), .inl (a1), .inl (a2), ox_d] [] σ) rfl ?_
  refine ox_R_to 2 (Y := ox_ev m_Exp_putStars (ox_zz ox_ms (n + 1)) 2 0 tl [.inr (.inr (7, 0, 0)), .inl (a1), .inl (a2), .inl (0)] [] σ) rfl ?_
  exact (L_Exp_putStars_2 a1 a2 0 σ n tl)
def J_Exp_putSigns_37  (σ : ox_H) : Option ox_H := some σ
theorem L_Exp_putSigns_37  (σ : ox_H) (n tl : Nat) : ox_R (fun r => some ((fun r : ox_H => ((.inl none, r) : ox_O)) r)) (J_Exp_putSigns_37 σ) (ox_ev m_Exp_putSigns (ox_zz ox_ms (n + 1)) 37 0 tl [ox_d, ox_d, ox_d, ox_d, ox_d, ox_d] [] σ) := by
  unfold J_Exp_putSigns_37
  refine ox_R_to 1 (Y := some (.inl none, σ)) rfl ?_
  exact ox_R_ret rfl
def B_Exp_putSigns_3  (v1 : Int) (v2 : Int) (v4 : Int) : (Int × ox_H) → Option (((Int × ox_H) ⊕ ox_H)) := fun (v5, σ) => if v4 ≤ v5 then ((J_Exp_putSigns_37 σ).map .inr) else ((F_Lin_at 0 v2 v5 σ).bind fun r1 => ((F_Lin_add 2 v1 r1 σ).bind fun r2 => (some (.inl (ox_w (v5 + 1), r2)))))
def J_Exp_putSigns_3  (v1 : Int) (v2 : Int) (v4 : Int) (v5 : Int) (σ : ox_H) : Option (ox_H) := ox_lp (B_Exp_putSigns_3 v1 v2 v4) ox_fu (v5, σ)
theorem L_Exp_putSigns_3  (v1 : Int) (v2 : Int) (v4 : Int) (v5 : Int) (σ : ox_H) (n tl : Nat) : ox_R (fun r => some ((fun r : ox_H => ((.inl none, r) : ox_O)) r)) (J_Exp_putSigns_3 v1 v2 v4 v5 σ) (ox_ev m_Exp_putSigns (ox_zz ox_ms (n + 1)) 3 0 tl [.inr (.inr (7, 0, 0)), .inl (v1), .inl (v2), ox_d, .inl (v4), .inl (v5)] [] σ) := by
  unfold J_Exp_putSigns_3
  refine ox_R_lp (ψ := (fun (s : Int × ox_H) => match s with | (v5, σ) => ox_ev m_Exp_putSigns (ox_zz ox_ms (n + 1)) 3 0 tl [.inr (.inr (7, 0, 0)), .inl (v1), .inl (v2), ox_d, .inl (v4), .inl (v5)] [] σ)) ?_ ox_fu (v5, σ)
  intro s
  obtain ⟨v5, σ⟩ := s
  unfold B_Exp_putSigns_3
  refine ox_R_to 3 (Y := if v4 ≤ v5 then ox_ev m_Exp_putSigns (ox_zz ox_ms (n + 1)) 37 0 tl [ox_d, ox_d, ox_d, ox_d, ox_d, ox_d] [] σ else ox_ev m_Exp_putSigns (ox_zz ox_ms (n + 1)) 10 0 tl [.inr (.inr (7, 0, 0)), .inl (v1), .inl (v2), ox_d, .inl (v4), .inl (v5)] [] σ) rfl ?_
  refine ox_R_if (fun _ => ?_) (fun _ => ?_)
  · exact ox_R_map ((L_Exp_putSigns_37 σ n tl))
  · refine ox_R_to 9 (Y := ox_back m_Exp_putSigns 25 3 [.inl (v1), .inr (.inr (1, 2, 0))] ((ox_zz ox_ms (n + 1)) 157 tl [.inr (.inr (1, 0, 0)), .inl (v2), .inl (v5)] σ) (fun pc9 x9 st9 σ9 => ox_ev m_Exp_putSigns (ox_zz ox_ms (n + 1)) pc9 0 tl (ox_kl (m_Exp_putSigns.2.2.1 pc9) (ox_xl x9 [.inr (.inr (7, 0, 0)), .inl (v1), .inl (v2), ox_d, .inl (v4), .inl (v5)])) st9 σ9)) rfl ?_
    refine ox_R_call (fc := (fun r : Int => ((.inl (some (.inl r)), σ) : ox_O))) (L_Lin_at 0 v2 v5 σ (n + 0) tl) (fun r1 => ?_)
    refine ox_R_of (Y := ox_ev m_Exp_putSigns (ox_zz ox_ms (n + 1)) 28 0 tl [.inr (.inr (7, 0, 0)), .inl (v1), .inl (v2), ox_d, .inl (v4), .inl (v5)] [.inl (r1), .inl (v1), .inr (.inr (1, 2, 0))] σ) rfl ?_
    refine ox_R_to 1 (Y := ox_back m_Exp_putSigns 28 2 [] ((ox_zz ox_ms (n + 1)) 163 tl [.inr (.inr (1, 2, 0)), .inl (v1), .inl (r1)] σ) (fun pc9 x9 st9 σ9 => ox_ev m_Exp_putSigns (ox_zz ox_ms (n + 1)) pc9 0 tl (ox_kl (m_Exp_putSigns.2.2.1 pc9) (ox_xl x9 [.inr (.inr (7, 0, 0)), .inl (v1), .inl (v2), ox_d, .inl (v4), .inl (v5)])) st9 σ9)) rfl ?_
    refine ox_R_call (fc := (fun r : ox_H => ((.inl none, r) : ox_O))) (L_Lin_add 2 v1 r1 σ (n + 0) tl) (fun r2 => ?_)
    refine ox_R_of (Y := ox_ev m_Exp_putSigns (ox_zz ox_ms (n + 1)) 31 0 tl [.inr (.inr (7, 0, 0)), .inl (v1), .inl (v2), ox_d, .inl (v4), .inl (v5)] [] r2) rfl ?_
    refine ox_R_to 2 (Y := ox_ev m_Exp_putSigns (ox_zz ox_ms (n + 1)) 3 0 tl [.inr (.inr (7, 0, 0)), .inl (v1), .inl (v2), ox_d, .inl (v4), .inl (ox_w (v5 + 1))] [] r2) rfl ?_
    exact ox_R_ret rfl
def F_Exp_putSigns  (a1 : Int) (a2 : Int) (a3 : Int) (a4 : Int) (σ : ox_H) : Option (ox_H) := (J_Exp_putSigns_3 a1 a2 a4 a3 σ)
theorem L_Exp_putSigns  (a1 : Int) (a2 : Int) (a3 : Int) (a4 : Int) (σ : ox_H) (n tl : Nat) : ox_R (fun r => some ((fun r : ox_H => ((.inl none, r) : ox_O)) r)) (F_Exp_putSigns a1 a2 a3 a4 σ) (ox_zz ox_ms (n + 2) 148 tl [.inr (.inr (7, 0, 0)), .inl (a1), .inl (a2), .inl (a3), .inl (a4)] σ) := by
  unfold F_Exp_putSigns
  refine ox_R_of (Y := ox_ev m_Exp_putSigns (ox_zz ox_ms (n + 1)) 0 0 tl [.inr (.inr (7, 0, 0)), .inl (a1), .inl (a2), .inl (a3), .inl (a4), ox_d] [] σ) rfl ?_
  refine ox_R_to 2 (Y := ox_ev m_Exp_putSigns (ox_zz ox_ms (n + 1)) 3 0 tl [.inr (.inr (7, 0, 0)), .inl (a1), .inl (a2), ox_d, .inl (a4), .inl (a3)] [] σ) rfl ?_
  exact (L_Exp_putSigns_3 a1 a2 a4 a3 σ n tl)
def J_Exp_putCells_71  (σ : ox_H) : Option ox_H := some σ
theorem L_Exp_putCells_71  (σ : ox_H) (n tl : Nat) : ox_R (fun r => some ((fun r : ox_H => ((.inl none, r) : ox_O)) r)) (J_Exp_putCells_71 σ) (ox_ev m_Exp_putCells (ox_zz ox_ms (n + 2)) 71 0 tl [ox_d, ox_d, ox_d, ox_d, ox_d] [] σ) := by
  unfold J_Exp_putCells_71
  refine ox_R_to 1 (Y := some (.inl none, σ)) rfl ?_
  exact ox_R_ret rfl
def J_Exp_putCells_65  (v1 : Int) (v2 : Int) (v3 : Int) (σ : ox_H) : Option (((Int × ox_H) ⊕ ox_H)) := some (.inl (ox_w (v3 + 1), σ))
theorem L_Exp_putCells_65  (v1 : Int) (v2 : Int) (v3 : Int) (σ : ox_H) (n tl : Nat) : ox_R (Sum.elim (fun (s : Int × ox_H) => match s with | (v3, σ) => ox_ev m_Exp_putCells (ox_zz ox_ms (n + 2)) 2 0 tl [.inr (.inr (7, 0, 0)), .inl (v1), .inl (v2), .inl (v3), ox_d] [] σ) (fun r => some ((fun r : ox_H => ((.inl none, r) : ox_O)) r))) (J_Exp_putCells_65 v1 v2 v3 σ) (ox_ev m_Exp_putCells (ox_zz ox_ms (n + 2)) 65 0 tl [.inr (.inr (7, 0, 0)), .inl (v1), .inl (v2), .inl (v3), ox_d] [] σ) := by
  unfold J_Exp_putCells_65
  refine ox_R_to 2 (Y := ox_ev m_Exp_putCells (ox_zz ox_ms (n + 2)) 2 0 tl [.inr (.inr (7, 0, 0)), .inl (v1), .inl (v2), .inl (ox_w (v3 + 1)), ox_d] [] σ) rfl ?_
  exact ox_R_ret rfl
def B_Exp_putCells_2  (v1 : Int) (v2 : Int) : (Int × ox_H) → Option (((Int × ox_H) ⊕ ox_H)) := fun (v3, σ) => (F_Sum_cellsOf v2 σ).bind fun r1 => (if r1 ≤ v3 then ((J_Exp_putCells_71 σ).map .inr) else ((F_She_valueAt v2 v3 σ).bind fun r2 => ((F_Lin_add 2 v1 124 σ).bind fun r3 => (if r2 = (ox_c 1000000 0) then ((F_Lin_add 2 v1 35 r3).bind fun r4 => (J_Exp_putCells_65 v1 v2 v3 r4)) else ((F_Lin_addNumber 2 v1 r2 r3).bind fun r5 => (J_Exp_putCells_65 v1 v2 v3 r5))))))
def J_Exp_putCells_2  (v1 : Int) (v2 : Int) (v3 : Int) (σ : ox_H) : Option (ox_H) := ox_lp (B_Exp_putCells_2 v1 v2) ox_fu (v3, σ)
theorem L_Exp_putCells_2  (v1 : Int) (v2 : Int) (v3 : Int) (σ : ox_H) (n tl : Nat) : ox_R (fun r => some ((fun r : ox_H => ((.inl none, r) : ox_O)) r)) (J_Exp_putCells_2 v1 v2 v3 σ) (ox_ev m_Exp_putCells (ox_zz ox_ms (n + 2)) 2 0 tl [.inr (.inr (7, 0, 0)), .inl (v1), .inl (v2), .inl (v3), ox_d] [] σ) := by
  unfold J_Exp_putCells_2
  refine ox_R_lp (ψ := (fun (s : Int × ox_H) => match s with | (v3, σ) => ox_ev m_Exp_putCells (ox_zz ox_ms (n + 2)) 2 0 tl [.inr (.inr (7, 0, 0)), .inl (v1), .inl (v2), .inl (v3), ox_d] [] σ)) ?_ ox_fu (v3, σ)
  intro s
  obtain ⟨v3, σ⟩ := s
  unfold B_Exp_putCells_2
  refine ox_R_to 5 (Y := ox_back m_Exp_putCells 8 3 [.inl (v3)] ((ox_zz ox_ms (n + 2)) 232 tl [.inr (.inr (6, 0, 0)), .inl (v2)] σ) (fun pc9 x9 st9 σ9 => ox_ev m_Exp_putCells (ox_zz ox_ms (n + 2)) pc9 0 tl (ox_kl (m_Exp_putCells.2.2.1 pc9) (ox_xl x9 [.inr (.inr (7, 0, 0)), .inl (v1), .inl (v2), .inl (v3), ox_d])) st9 σ9)) rfl ?_
  refine ox_R_call (fc := (fun r : Int => ((.inl (some (.inl r)), σ) : ox_O))) (L_Sum_cellsOf v2 σ (n + 1) tl) (fun r1 => ?_)
  refine ox_R_of (Y := ox_ev m_Exp_putCells (ox_zz ox_ms (n + 2)) 11 0 tl [.inr (.inr (7, 0, 0)), .inl (v1), .inl (v2), .inl (v3), ox_d] [.inl (r1), .inl (v3)] σ) rfl ?_
  refine ox_R_to 1 (Y := if r1 ≤ v3 then ox_ev m_Exp_putCells (ox_zz ox_ms (n + 2)) 71 0 tl [ox_d, ox_d, ox_d, ox_d, ox_d] [] σ else ox_ev m_Exp_putCells (ox_zz ox_ms (n + 2)) 14 0 tl [.inr (.inr (7, 0, 0)), .inl (v1), .inl (v2), .inl (v3), ox_d] [] σ) rfl ?_
  refine ox_R_if (fun _ => ?_) (fun _ => ?_)
  · exact ox_R_map ((L_Exp_putCells_71 σ n tl))
  · refine ox_R_to 5 (Y := ox_back m_Exp_putCells 20 3 [] ((ox_zz ox_ms (n + 2)) 230 tl [.inr (.inr (5, 0, 0)), .inl (v2), .inl (v3)] σ) (fun pc9 x9 st9 σ9 => ox_ev m_Exp_putCells (ox_zz ox_ms (n + 2)) pc9 0 tl (ox_kl (m_Exp_putCells.2.2.1 pc9) (ox_xl x9 [.inr (.inr (7, 0, 0)), .inl (v1), .inl (v2), .inl (v3), ox_d])) st9 σ9)) rfl ?_
    refine ox_R_call (fc := (fun r : Int => ((.inl (some (.inl r)), σ) : ox_O))) (L_She_valueAt v2 v3 σ (n + 1) tl) (fun r2 => ?_)
    refine ox_R_of (Y := ox_ev m_Exp_putCells (ox_zz ox_ms (n + 2)) 23 0 tl [.inr (.inr (7, 0, 0)), .inl (v1), .inl (v2), .inl (v3), ox_d] [.inl (r2)] σ) rfl ?_
    refine ox_R_to 6 (Y := ox_back m_Exp_putCells 32 2 [] ((ox_zz ox_ms (n + 2)) 163 tl [.inr (.inr (1, 2, 0)), .inl (v1), .inl (124)] σ) (fun pc9 x9 st9 σ9 => ox_ev m_Exp_putCells (ox_zz ox_ms (n + 2)) pc9 0 tl (ox_kl (m_Exp_putCells.2.2.1 pc9) (ox_xl x9 [.inr (.inr (7, 0, 0)), .inl (v1), .inl (v2), .inl (v3), .inl (r2)])) st9 σ9)) rfl ?_
    refine ox_R_call (fc := (fun r : ox_H => ((.inl none, r) : ox_O))) (L_Lin_add 2 v1 124 σ (n + 1) tl) (fun r3 => ?_)
    refine ox_R_of (Y := ox_ev m_Exp_putCells (ox_zz ox_ms (n + 2)) 35 0 tl [.inr (.inr (7, 0, 0)), .inl (v1), .inl (v2), .inl (v3), .inl (r2)] [] r3) rfl ?_
    refine ox_R_to 3 (Y := if r2 = (ox_c 1000000 0) then ox_ev m_Exp_putCells (ox_zz ox_ms (n + 2)) 42 0 tl [.inr (.inr (7, 0, 0)), .inl (v1), .inl (v2), .inl (v3), .inl (r2)] [] r3 else ox_ev m_Exp_putCells (ox_zz ox_ms (n + 2)) 55 0 tl [.inr (.inr (7, 0, 0)), .inl (v1), .inl (v2), .inl (v3), .inl (r2)] [] r3) rfl ?_
    refine ox_R_if (fun _ => ?_) (fun _ => ?_)
    · refine ox_R_to 5 (Y := ox_back m_Exp_putCells 49 2 [] ((ox_zz ox_ms (n + 2)) 163 tl [.inr (.inr (1, 2, 0)), .inl (v1), .inl (35)] r3) (fun pc9 x9 st9 σ9 => ox_ev m_Exp_putCells (ox_zz ox_ms (n + 2)) pc9 0 tl (ox_kl (m_Exp_putCells.2.2.1 pc9) (ox_xl x9 [.inr (.inr (7, 0, 0)), .inl (v1), .inl (v2), .inl (v3), .inl (r2)])) st9 σ9)) rfl ?_
      refine ox_R_call (fc := (fun r : ox_H => ((.inl none, r) : ox_O))) (L_Lin_add 2 v1 35 r3 (n + 1) tl) (fun r4 => ?_)
      refine ox_R_of (Y := ox_ev m_Exp_putCells (ox_zz ox_ms (n + 2)) 52 0 tl [.inr (.inr (7, 0, 0)), .inl (v1), .inl (v2), .inl (v3), .inl (r2)] [] r4) rfl ?_
      refine ox_R_to 1 (Y := ox_ev m_Exp_putCells (ox_zz ox_ms (n + 2)) 65 0 tl [.inr (.inr (7, 0, 0)), .inl (v1), .inl (v2), .inl (v3), ox_d] [] r4) rfl ?_
      exact (L_Exp_putCells_65 v1 v2 v3 r4 n tl)
    · refine ox_R_to 5 (Y := ox_back m_Exp_putCells 62 2 [] ((ox_zz ox_ms (n + 2)) 165 tl [.inr (.inr (1, 2, 0)), .inl (v1), .inl (r2)] r3) (fun pc9 x9 st9 σ9 => ox_ev m_Exp_putCells (ox_zz ox_ms (n + 2)) pc9 0 tl (ox_kl (m_Exp_putCells.2.2.1 pc9) (ox_xl x9 [.inr (.inr (7, 0, 0)), .inl (v1), .inl (v2), .inl (v3), .inl (r2)])) st9 σ9)) rfl ?_
      refine ox_R_call (fc := (fun r : ox_H => ((.inl none, r) : ox_O))) (L_Lin_addNumber 2 v1 r2 r3 (n + 0) tl) (fun r5 => ?_)
      refine ox_R_of (Y := ox_ev m_Exp_putCells (ox_zz ox_ms (n + 2)) 65 0 tl [.inr (.inr (7, 0, 0)), .inl (v1), .inl (v2), .inl (v3), ox_d] [] r5) rfl ?_
      exact (L_Exp_putCells_65 v1 v2 v3 r5 n tl)
def F_Exp_putCells  (a1 : Int) (a2 : Int) (σ : ox_H) : Option (ox_H) := (J_Exp_putCells_2 a1 a2 0 σ)
theorem L_Exp_putCells  (a1 : Int) (a2 : Int) (σ : ox_H) (n tl : Nat) : ox_R (fun r => some ((fun r : ox_H => ((.inl none, r) : ox_O)) r)) (F_Exp_putCells a1 a2 σ) (ox_zz ox_ms (n + 3) 149 tl [.inr (.inr (7, 0, 0)), .inl (a1), .inl (a2)] σ) := by
  unfold F_Exp_putCells
  refine ox_R_of (Y := ox_ev m_Exp_putCells (ox_zz ox_ms (n + 2)) 0 0 tl [.inr (.inr (7, 0, 0)), .inl (a1), .inl (a2), ox_d, ox_d] [] σ) rfl ?_
  refine ox_R_to 2 (Y := ox_ev m_Exp_putCells (ox_zz ox_ms (n + 2)) 2 0 tl [.inr (.inr (7, 0, 0)), .inl (a1), .inl (a2), .inl (0), ox_d] [] σ) rfl ?_
  exact (L_Exp_putCells_2 a1 a2 0 σ n tl)
def J_Exp_putLine_122  (σ : ox_H) : Option ox_H := some σ
theorem L_Exp_putLine_122  (σ : ox_H) (n tl : Nat) : ox_R (fun r => some ((fun r : ox_H => ((.inl none, r) : ox_O)) r)) (J_Exp_putLine_122 σ) (ox_ev m_Exp_putLine (ox_zz ox_ms (n + 3)) 122 0 tl [ox_d, ox_d, ox_d, ox_d, ox_d] [] σ) := by
  unfold J_Exp_putLine_122
  refine ox_R_to 1 (Y := some (.inl none, σ)) rfl ?_
  exact ox_R_ret rfl
def J_Exp_putLine_34  (v1 : Int) (v2 : Nat) (v3 : Int) (v4 : Int) (σ : ox_H) : Option ox_H := (F_Lin_open 2 v4 1 σ).bind fun r1 => (if (r1 4 v2 0 0) = 0 then ((F_Exp_putStars v4 (if (ox_w ((r1 4 v2 7 0) + v3)) < 5 then (ox_w ((r1 4 v2 7 0) + v3)) else 5) r1).bind fun r2 => ((F_Exp_putSigns v4 v1 (r2 4 v2 9 0) (r2 4 v2 10 0) r2).bind fun r3 => (J_Exp_putLine_122 r3))) else (if (r1 4 v2 0 0) = 4 then ((F_Exp_putCells v4 v1 r1).bind fun r4 => (J_Exp_putLine_122 r4)) else ((F_Lin_size 0 v1 r1).bind fun r5 => ((F_Exp_putSigns v4 v1 0 r5 r1).bind fun r6 => (J_Exp_putLine_122 r6)))))
theorem L_Exp_putLine_34  (v1 : Int) (v2 : Nat) (v3 : Int) (v4 : Int) (σ : ox_H) (n tl : Nat) : ox_R (fun r => some ((fun r : ox_H => ((.inl none, r) : ox_O)) r)) (J_Exp_putLine_34 v1 v2 v3 v4 σ) (ox_ev m_Exp_putLine (ox_zz ox_ms (n + 3)) 34 0 tl [.inr (.inr (7, 0, 0)), .inl (v1), .inr (.inr (4, v2, 0)), .inl (v3), .inl (v4)] [] σ) := by
  unfold J_Exp_putLine_34
  refine ox_R_to 5 (Y := ox_back m_Exp_putLine 41 2 [] ((ox_zz ox_ms (n + 3)) 158 tl [.inr (.inr (1, 2, 0)), .inl (v4), .inl (1)] σ) (fun pc9 x9 st9 σ9 => ox_ev m_Exp_putLine (ox_zz ox_ms (n + 3)) pc9 0 tl (ox_kl (m_Exp_putLine.2.2.1 pc9) (ox_xl x9 [.inr (.inr (7, 0, 0)), .inl (v1), .inr (.inr (4, v2, 0)), .inl (v3), .inl (v4)])) st9 σ9)) rfl ?_
  refine ox_R_call (fc := (fun r : ox_H => ((.inl none, r) : ox_O))) (L_Lin_open 2 v4 1 σ (n + 2) tl) (fun r1 => ?_)
  refine ox_R_of (Y := ox_ev m_Exp_putLine (ox_zz ox_ms (n + 3)) 44 0 tl [.inr (.inr (7, 0, 0)), .inl (v1), .inr (.inr (4, v2, 0)), .inl (v3), .inl (v4)] [] r1) rfl ?_
  refine ox_R_to 3 (Y := if (r1 4 v2 0 0) = 0 then ox_ev m_Exp_putLine (ox_zz ox_ms (n + 3)) 51 0 tl [.inr (.inr (7, 0, 0)), .inl (v1), .inr (.inr (4, v2, 0)), .inl (v3), .inl (v4)] [] r1 else ox_ev m_Exp_putLine (ox_zz ox_ms (n + 3)) 85 0 tl [.inr (.inr (7, 0, 0)), .inl (v1), .inr (.inr (4, v2, 0)), .inl (v3), .inl (v4)] [] r1) rfl ?_
  refine ox_R_if (fun _ => ?_) (fun _ => ?_)
  · refine ox_R_to 9 (Y := ox_back m_Exp_putLine 64 0 [] ((ox_zz ox_ms (n + 3)) 147 tl [.inr (.inr (7, 0, 0)), .inl (v4), .inl (if (ox_w ((r1 4 v2 7 0) + v3)) < 5 then (ox_w ((r1 4 v2 7 0) + v3)) else 5)] r1) (fun pc9 x9 st9 σ9 => ox_ev m_Exp_putLine (ox_zz ox_ms (n + 3)) pc9 0 tl (ox_kl (m_Exp_putLine.2.2.1 pc9) (ox_xl x9 [.inr (.inr (7, 0, 0)), .inl (v1), .inr (.inr (4, v2, 0)), .inl (v3), .inl (v4)])) st9 σ9)) rfl ?_
    refine ox_R_call (fc := (fun r : ox_H => ((.inl none, r) : ox_O))) (L_Exp_putStars v4 (if (ox_w ((r1 4 v2 7 0) + v3)) < 5 then (ox_w ((r1 4 v2 7 0) + v3)) else 5) r1 (n + 1) tl) (fun r2 => ?_)
    refine ox_R_of (Y := ox_ev m_Exp_putLine (ox_zz ox_ms (n + 3)) 67 0 tl [.inr (.inr (7, 0, 0)), .inl (v1), .inr (.inr (4, v2, 0)), .inl (v3), .inl (v4)] [] r2) rfl ?_
    refine ox_R_to 8 (Y := ox_back m_Exp_putLine 79 0 [] ((ox_zz ox_ms (n + 3)) 148 tl [.inr (.inr (7, 0, 0)), .inl (v4), .inl (v1), .inl (r2 4 v2 9 0), .inl (r2 4 v2 10 0)] r2) (fun pc9 x9 st9 σ9 => ox_ev m_Exp_putLine (ox_zz ox_ms (n + 3)) pc9 0 tl (ox_kl (m_Exp_putLine.2.2.1 pc9) (ox_xl x9 [.inr (.inr (7, 0, 0)), .inl (v1), .inr (.inr (4, v2, 0)), .inl (v3), .inl (v4)])) st9 σ9)) rfl ?_
    refine ox_R_call (fc := (fun r : ox_H => ((.inl none, r) : ox_O))) (L_Exp_putSigns v4 v1 (r2 4 v2 9 0) (r2 4 v2 10 0) r2 (n + 1) tl) (fun r3 => ?_)
    refine ox_R_of (Y := ox_ev m_Exp_putLine (ox_zz ox_ms (n + 3)) 82 0 tl [.inr (.inr (7, 0, 0)), .inl (v1), .inr (.inr (4, v2, 0)), .inl (v3), .inl (v4)] [] r3) rfl ?_
    refine ox_R_to 1 (Y := ox_ev m_Exp_putLine (ox_zz ox_ms (n + 3)) 122 0 tl [ox_d, ox_d, ox_d, ox_d, ox_d] [] r3) rfl ?_
    exact (L_Exp_putLine_122 r3 n tl)
  · refine ox_R_to 4 (Y := if (r1 4 v2 0 0) = 4 then ox_ev m_Exp_putLine (ox_zz ox_ms (n + 3)) 93 0 tl [.inr (.inr (7, 0, 0)), .inl (v1), .inr (.inr (4, v2, 0)), .inl (v3), .inl (v4)] [] r1 else ox_ev m_Exp_putLine (ox_zz ox_ms (n + 3)) 103 0 tl [.inr (.inr (7, 0, 0)), .inl (v1), .inr (.inr (4, v2, 0)), .inl (v3), .inl (v4)] [] r1) rfl ?_
    refine ox_R_if (fun _ => ?_) (fun _ => ?_)
    · refine ox_R_to 4 (Y := ox_back m_Exp_putLine 97 0 [] ((ox_zz ox_ms (n + 3)) 149 tl [.inr (.inr (7, 0, 0)), .inl (v4), .inl (v1)] r1) (fun pc9 x9 st9 σ9 => ox_ev m_Exp_putLine (ox_zz ox_ms (n + 3)) pc9 0 tl (ox_kl (m_Exp_putLine.2.2.1 pc9) (ox_xl x9 [.inr (.inr (7, 0, 0)), .inl (v1), .inr (.inr (4, v2, 0)), .inl (v3), .inl (v4)])) st9 σ9)) rfl ?_
      refine ox_R_call (fc := (fun r : ox_H => ((.inl none, r) : ox_O))) (L_Exp_putCells v4 v1 r1 (n + 0) tl) (fun r4 => ?_)
      refine ox_R_of (Y := ox_ev m_Exp_putLine (ox_zz ox_ms (n + 3)) 100 0 tl [.inr (.inr (7, 0, 0)), .inl (v1), .inr (.inr (4, v2, 0)), .inl (v3), .inl (v4)] [] r4) rfl ?_
      refine ox_R_to 1 (Y := ox_ev m_Exp_putLine (ox_zz ox_ms (n + 3)) 122 0 tl [ox_d, ox_d, ox_d, ox_d, ox_d] [] r4) rfl ?_
      exact (L_Exp_putLine_122 r4 n tl)
    · refine ox_R_to 9 (Y := ox_back m_Exp_putLine 116 3 [.inl (0), .inl (v1), .inl (v4), .inr (.inr (7, 0, 0))] ((ox_zz ox_ms (n + 3)) 156 tl [.inr (.inr (1, 0, 0)), .inl (v1)] r1) (fun pc9 x9 st9 σ9 => ox_ev m_Exp_putLine (ox_zz ox_ms (n + 3)) pc9 0 tl (ox_kl (m_Exp_putLine.2.2.1 pc9) (ox_xl x9 [.inr (.inr (7, 0, 0)), .inl (v1), .inr (.inr (4, v2, 0)), .inl (v3), .inl (v4)])) st9 σ9)) rfl ?_
      refine ox_R_call (fc := (fun r : Int => ((.inl (some (.inl r)), r1) : ox_O))) (L_Lin_size 0 v1 r1 (n + 2) tl) (fun r5 => ?_)
      refine ox_R_of (Y := ox_ev m_Exp_putLine (ox_zz ox_ms (n + 3)) 119 0 tl [.inr (.inr (7, 0, 0)), .inl (v1), .inr (.inr (4, v2, 0)), .inl (v3), .inl (v4)] [.inl (r5), .inl (0), .inl (v1), .inl (v4), .inr (.inr (7, 0, 0))] r1) rfl ?_
      refine ox_R_to 1 (Y := ox_back m_Exp_putLine 119 0 [] ((ox_zz ox_ms (n + 3)) 148 tl [.inr (.inr (7, 0, 0)), .inl (v4), .inl (v1), .inl (0), .inl (r5)] r1) (fun pc9 x9 st9 σ9 => ox_ev m_Exp_putLine (ox_zz ox_ms (n + 3)) pc9 0 tl (ox_kl (m_Exp_putLine.2.2.1 pc9) (ox_xl x9 [.inr (.inr (7, 0, 0)), .inl (v1), .inr (.inr (4, v2, 0)), .inl (v3), .inl (v4)])) st9 σ9)) rfl ?_
      refine ox_R_call (fc := (fun r : ox_H => ((.inl none, r) : ox_O))) (L_Exp_putSigns v4 v1 0 r5 r1 (n + 1) tl) (fun r6 => ?_)
      refine ox_R_of (Y := ox_ev m_Exp_putLine (ox_zz ox_ms (n + 3)) 122 0 tl [ox_d, ox_d, ox_d, ox_d, ox_d] [] r6) rfl ?_
      exact (L_Exp_putLine_122 r6 n tl)
def F_Exp_putLine  (a1 : Int) (k2 : Nat) (a3 : Int) (σ : ox_H) : Option (ox_H) := if (σ 4 k2 0 0) = 0 then (J_Exp_putLine_34 a1 k2 a3 (σ 1 2 4 0) σ) else (if (σ 4 k2 0 0) = 4 then (J_Exp_putLine_34 a1 k2 a3 (σ 1 2 4 0) σ) else (if (σ 4 k2 0 0) = 7 then (J_Exp_putLine_34 a1 k2 a3 (σ 1 2 4 0) σ) else (some σ)))
theorem L_Exp_putLine  (a1 : Int) (k2 : Nat) (a3 : Int) (σ : ox_H) (n tl : Nat) : ox_R (fun r => some ((fun r : ox_H => ((.inl none, r) : ox_O)) r)) (F_Exp_putLine a1 k2 a3 σ) (ox_zz ox_ms (n + 4) 146 tl [.inr (.inr (7, 0, 0)), .inl (a1), .inr (.inr (4, k2, 0)), .inl (a3)] σ) := by
  unfold F_Exp_putLine
  refine ox_R_of (Y := ox_ev m_Exp_putLine (ox_zz ox_ms (n + 3)) 0 0 tl [.inr (.inr (7, 0, 0)), .inl (a1), .inr (.inr (4, k2, 0)), .inl (a3), ox_d] [] σ) rfl ?_
  refine ox_R_to 7 (Y := if (σ 4 k2 0 0) = 0 then ox_ev m_Exp_putLine (ox_zz ox_ms (n + 3)) 34 0 tl [.inr (.inr (7, 0, 0)), .inl (a1), .inr (.inr (4, k2, 0)), .inl (a3), .inl (σ 1 2 4 0)] [] σ else ox_ev m_Exp_putLine (ox_zz ox_ms (n + 3)) 16 0 tl [.inr (.inr (7, 0, 0)), .inl (a1), .inr (.inr (4, k2, 0)), .inl (a3), .inl (σ 1 2 4 0)] [] σ) rfl ?_
  refine ox_R_if (fun _ => ?_) (fun _ => ?_)
  · exact (L_Exp_putLine_34 a1 k2 a3 (σ 1 2 4 0) σ n tl)
  · refine ox_R_to 4 (Y := if (σ 4 k2 0 0) = 4 then ox_ev m_Exp_putLine (ox_zz ox_ms (n + 3)) 34 0 tl [.inr (.inr (7, 0, 0)), .inl (a1), .inr (.inr (4, k2, 0)), .inl (a3), .inl (σ 1 2 4 0)] [] σ else ox_ev m_Exp_putLine (ox_zz ox_ms (n + 3)) 24 0 tl [.inr (.inr (7, 0, 0)), .inl (a1), .inr (.inr (4, k2, 0)), .inl (a3), .inl (σ 1 2 4 0)] [] σ) rfl ?_
    refine ox_R_if (fun _ => ?_) (fun _ => ?_)
    · exact (L_Exp_putLine_34 a1 k2 a3 (σ 1 2 4 0) σ n tl)
    · refine ox_R_to 4 (Y := if (σ 4 k2 0 0) = 7 then ox_ev m_Exp_putLine (ox_zz ox_ms (n + 3)) 34 0 tl [.inr (.inr (7, 0, 0)), .inl (a1), .inr (.inr (4, k2, 0)), .inl (a3), .inl (σ 1 2 4 0)] [] σ else ox_ev m_Exp_putLine (ox_zz ox_ms (n + 3)) 33 0 tl [.inr (.inr (7, 0, 0)), .inl (a1), .inr (.inr (4, k2, 0)), .inl (a3), .inl (σ 1 2 4 0)] [] σ) rfl ?_
      refine ox_R_if (fun _ => ?_) (fun _ => ?_)
      · exact (L_Exp_putLine_34 a1 k2 a3 (σ 1 2 4 0) σ n tl)
      · refine ox_R_to 1 (Y := some (.inl none, σ)) rfl ?_
        exact ox_R_ret rfl
def J_Exp_put_125 (P : Int → Int → Int → Int → ox_H → Option ox_H)  (σ : ox_H) : Option ox_H := some σ
theorem L_Exp_put_125 (n : Nat) (P : Int → Int → Int → Int → ox_H → Option ox_H) (hP : ∀ (a1 a2 a3 a4 : Int) (σ : ox_H) (tl : Nat), ox_R (fun r => some ((fun r : ox_H => ((.inl none, r) : ox_O)) r)) (P a1 a2 a3 a4 σ) (ox_zz ox_ms (n + 20) 144 tl [.inr (.inr (7, 0, 0)), .inl (a1), .inl (a2), .inl (a3), .inl (a4)] σ))  (σ : ox_H) (tl : Nat) : ox_R (fun r => some ((fun r : ox_H => ((.inl none, r) : ox_O)) r)) (J_Exp_put_125 P σ) (ox_ev m_Exp_put (ox_zz ox_ms (n + 21)) 125 0 tl [ox_d, ox_d, ox_d, ox_d, ox_d, ox_d, ox_d, ox_d] [] σ) := by
  unfold J_Exp_put_125
  refine ox_R_to 1 (Y := some (.inl none, σ)) rfl ?_
  exact ox_R_ret rfl
def J_Exp_put_119 (P : Int → Int → Int → Int → ox_H → Option ox_H)  (v2 : Int) (v3 : Int) (v4 : Int) (v5 : Int) (v6 : Int) (σ : ox_H) : Option (((Int × Int × ox_H) ⊕ ox_H)) := some (.inl (v5, ox_w (v6 + 1), σ))
theorem L_Exp_put_119 (n : Nat) (P : Int → Int → Int → Int → ox_H → Option ox_H) (hP : ∀ (a1 a2 a3 a4 : Int) (σ : ox_H) (tl : Nat), ox_R (fun r => some ((fun r : ox_H => ((.inl none, r) : ox_O)) r)) (P a1 a2 a3 a4 σ) (ox_zz ox_ms (n + 20) 144 tl [.inr (.inr (7, 0, 0)), .inl (a1), .inl (a2), .inl (a3), .inl (a4)] σ))  (v2 : Int) (v3 : Int) (v4 : Int) (v5 : Int) (v6 : Int) (σ : ox_H) (tl : Nat) : ox_R (Sum.elim (fun (s : Int × Int × ox_H) => match s with | (v5, v6, σ) => ox_ev m_Exp_put (ox_zz ox_ms (n + 21)) 6 0 tl [.inr (.inr (7, 0, 0)), ox_d, .inl (v2), .inl (v3), .inl (v4), .inl (v5), .inl (v6), ox_d] [] σ) (fun r => some ((fun r : ox_H => ((.inl none, r) : ox_O)) r))) (J_Exp_put_119 P v2 v3 v4 v5 v6 σ) (ox_ev m_Exp_put (ox_zz ox_ms (n + 21)) 119 0 tl [.inr (.inr (7, 0, 0)), ox_d, .inl (v2), .inl (v3), .inl (v4), .inl (v5), .inl (v6), ox_d] [] σ) := by
  unfold J_Exp_put_119
  refine ox_R_to 2 (Y := ox_ev m_Exp_put (ox_zz ox_ms (n + 21)) 6 0 tl [.inr (.inr (7, 0, 0)), ox_d, .inl (v2), .inl (v3), .inl (v4), .inl (v5), .inl (ox_w (v6 + 1)), ox_d] [] σ) rfl ?_
  exact ox_R_ret rfl
def J_Exp_put_110 (P : Int → Int → Int → Int → ox_H → Option ox_H)  (v2 : Int) (v3 : Int) (v4 : Int) (v5 : Int) (v6 : Int) (v7 : Nat) (σ : ox_H) : Option (((Int × Int × ox_H) ⊕ ox_H)) := (F_Exp_putLine v6 v7 v3 σ).bind fun r1 => (J_Exp_put_119 P v2 v3 v4 v5 v6 r1)
theorem L_Exp_put_110 (n : Nat) (P : Int → Int → Int → Int → ox_H → Option ox_H) (hP : ∀ (a1 a2 a3 a4 : Int) (σ : ox_H) (tl : Nat), ox_R (fun r => some ((fun r : ox_H => ((.inl none, r) : ox_O)) r)) (P a1 a2 a3 a4 σ) (ox_zz ox_ms (n + 20) 144 tl [.inr (.inr (7, 0, 0)), .inl (a1), .inl (a2), .inl (a3), .inl (a4)] σ))  (v2 : Int) (v3 : Int) (v4 : Int) (v5 : Int) (v6 : Int) (v7 : Nat) (σ : ox_H) (tl : Nat) : ox_R (Sum.elim (fun (s : Int × Int × ox_H) => match s with | (v5, v6, σ) => ox_ev m_Exp_put (ox_zz ox_ms (n + 21)) 6 0 tl [.inr (.inr (7, 0, 0)), ox_d, .inl (v2), .inl (v3), .inl (v4), .inl (v5), .inl (v6), ox_d] [] σ) (fun r => some ((fun r : ox_H => ((.inl none, r) : ox_O)) r))) (J_Exp_put_110 P v2 v3 v4 v5 v6 v7 σ) (ox_ev m_Exp_put (ox_zz ox_ms (n + 21)) 110 0 tl [.inr (.inr (7, 0, 0)), ox_d, .inl (v2), .inl (v3), .inl (v4), .inl (v5), .inl (v6), .inr (.inr (4, v7, 0))] [] σ) := by
  unfold J_Exp_put_110
  refine ox_R_to 5 (Y := ox_back m_Exp_put 116 0 [] ((ox_zz ox_ms (n + 21)) 146 tl [.inr (.inr (7, 0, 0)), .inl (v6), .inr (.inr (4, v7, 0)), .inl (v3)] σ) (fun pc9 x9 st9 σ9 => ox_ev m_Exp_put (ox_zz ox_ms (n + 21)) pc9 0 tl (ox_kl (m_Exp_put.2.2.1 pc9) (ox_xl x9 [.inr (.inr (7, 0, 0)), ox_d, .inl (v2), .inl (v3), .inl (v4), .inl (v5), .inl (v6), .inr (.inr (4, v7, 0))])) st9 σ9)) rfl ?_
  refine ox_R_call (fc := (fun r : ox_H => ((.inl none, r) : ox_O))) (L_Exp_putLine v6 v7 v3 σ (n + 17) tl) (fun r1 => ?_)
  refine ox_R_of (Y := ox_ev m_Exp_put (ox_zz ox_ms (n + 21)) 119 0 tl [.inr (.inr (7, 0, 0)), ox_d, .inl (v2), .inl (v3), .inl (v4), .inl (v5), .inl (v6), ox_d] [] r1) rfl ?_
  exact (L_Exp_put_119 n P hP v2 v3 v4 v5 v6 r1 tl)
def J_Exp_put_82 (P : Int → Int → Int → Int → ox_H → Option ox_H)  (v2 : Int) (v3 : Int) (v4 : Int) (v5 : Int) (v6 : Int) (v7 : Nat) (σ : ox_H) : Option (((Int × Int × ox_H) ⊕ ox_H)) := if (σ 4 v7 0 0) = 6 then (if 3 ≤ v4 then (J_Exp_put_110 P v2 v3 v4 v5 v6 v7 σ) else ((F_Exp_putInclude P v6 v3 v4 σ).bind fun r2 => (J_Exp_put_119 P v2 v3 v4 v5 v6 r2))) else (J_Exp_put_110 P v2 v3 v4 v5 v6 v7 σ)
theorem L_Exp_put_82 (n : Nat) (P : Int → Int → Int → Int → ox_H → Option ox_H) (hP : ∀ (a1 a2 a3 a4 : Int) (σ : ox_H) (tl : Nat), ox_R (fun r => some ((fun r : ox_H => ((.inl none, r) : ox_O)) r)) (P a1 a2 a3 a4 σ) (ox_zz ox_ms (n + 20) 144 tl [.inr (.inr (7, 0, 0)), .inl (a1), .inl (a2), .inl (a3), .inl (a4)] σ))  (v2 : Int) (v3 : Int) (v4 : Int) (v5 : Int) (v6 : Int) (v7 : Nat) (σ : ox_H) (tl : Nat) : ox_R (Sum.elim (fun (s : Int × Int × ox_H) => match s with | (v5, v6, σ) => ox_ev m_Exp_put (ox_zz ox_ms (n + 21)) 6 0 tl [.inr (.inr (7, 0, 0)), ox_d, .inl (v2), .inl (v3), .inl (v4), .inl (v5), .inl (v6), ox_d] [] σ) (fun r => some ((fun r : ox_H => ((.inl none, r) : ox_O)) r))) (J_Exp_put_82 P v2 v3 v4 v5 v6 v7 σ) (ox_ev m_Exp_put (ox_zz ox_ms (n + 21)) 82 0 tl [.inr (.inr (7, 0, 0)), ox_d, .inl (v2), .inl (v3), .inl (v4), .inl (v5), .inl (v6), .inr (.inr (4, v7, 0))] [] σ) := by
  unfold J_Exp_put_82
  refine ox_R_to 4 (Y := if (σ 4 v7 0 0) = 6 then ox_ev m_Exp_put (ox_zz ox_ms (n + 21)) 92 0 tl [.inr (.inr (7, 0, 0)), ox_d, .inl (v2), .inl (v3), .inl (v4), .inl (v5), .inl (v6), .inr (.inr (4, v7, 0))] [] σ else ox_ev m_Exp_put (ox_zz ox_ms (n + 21)) 110 0 tl [.inr (.inr (7, 0, 0)), ox_d, .inl (v2), .inl (v3), .inl (v4), .inl (v5), .inl (v6), .inr (.inr (4, v7, 0))] [] σ) rfl ?_
  refine ox_R_if (fun _ => ?_) (fun _ => ?_)
  · refine ox_R_to 3 (Y := if 3 ≤ v4 then ox_ev m_Exp_put (ox_zz ox_ms (n + 21)) 110 0 tl [.inr (.inr (7, 0, 0)), ox_d, .inl (v2), .inl (v3), .inl (v4), .inl (v5), .inl (v6), .inr (.inr (4, v7, 0))] [] σ else ox_ev m_Exp_put (ox_zz ox_ms (n + 21)) 98 0 tl [.inr (.inr (7, 0, 0)), ox_d, .inl (v2), .inl (v3), .inl (v4), .inl (v5), .inl (v6), .inr (.inr (4, v7, 0))] [] σ) rfl ?_
    refine ox_R_if (fun _ => ?_) (fun _ => ?_)
    · exact (L_Exp_put_110 n P hP v2 v3 v4 v5 v6 v7 σ tl)
    · refine ox_R_to 5 (Y := ox_back m_Exp_put 104 0 [] ((ox_zz ox_ms (n + 21)) 145 tl [.inr (.inr (7, 0, 0)), .inl (v6), .inl (v3), .inl (v4)] σ) (fun pc9 x9 st9 σ9 => ox_ev m_Exp_put (ox_zz ox_ms (n + 21)) pc9 0 tl (ox_kl (m_Exp_put.2.2.1 pc9) (ox_xl x9 [.inr (.inr (7, 0, 0)), ox_d, .inl (v2), .inl (v3), .inl (v4), .inl (v5), .inl (v6), .inr (.inr (4, v7, 0))])) st9 σ9)) rfl ?_
      refine ox_R_call (fc := (fun r : ox_H => ((.inl none, r) : ox_O))) (L_Exp_putInclude n P hP v6 v3 v4 σ tl) (fun r2 => ?_)
      refine ox_R_of (Y := ox_ev m_Exp_put (ox_zz ox_ms (n + 21)) 107 0 tl [.inr (.inr (7, 0, 0)), ox_d, .inl (v2), .inl (v3), .inl (v4), .inl (v5), .inl (v6), .inr (.inr (4, v7, 0))] [] r2) rfl ?_
      refine ox_R_to 1 (Y := ox_ev m_Exp_put (ox_zz ox_ms (n + 21)) 119 0 tl [.inr (.inr (7, 0, 0)), ox_d, .inl (v2), .inl (v3), .inl (v4), .inl (v5), .inl (v6), ox_d] [] r2) rfl ?_
      exact (L_Exp_put_119 n P hP v2 v3 v4 v5 v6 r2 tl)
  · exact (L_Exp_put_110 n P hP v2 v3 v4 v5 v6 v7 σ tl)
def B_Exp_put_6 (P : Int → Int → Int → Int → ox_H → Option ox_H)  (v2 : Int) (v3 : Int) (v4 : Int) : (Int × Int × ox_H) → Option (((Int × Int × ox_H) ⊕ ox_H)) := fun (v5, v6, σ) => if v2 ≤ v6 then ((J_Exp_put_125 P σ).map .inr) else ((F_Lin_hasRoom 2 1 σ).bind fun r3 => (if r3 = 0 then ((J_Exp_put_125 P σ).map .inr) else (if v5 ≤ v6 then ((F_Otl_reading v6 σ).bind fun r4 => (if (σ 4 r4 0 0) = 0 then (if (σ 4 r4 8 0) = 3 then ((F_Otl_ownerOf v6 σ).bind fun r5 => ((F_Otl_partEnd r5 σ).bind fun r6 => (J_Exp_put_119 P v2 v3 v4 r6 v6 σ))) else (J_Exp_put_82 P v2 v3 v4 v5 v6 r4 σ)) else (J_Exp_put_82 P v2 v3 v4 v5 v6 r4 σ))) else (J_Exp_put_119 P v2 v3 v4 v5 v6 σ))))
def J_Exp_put_6 (P : Int → Int → Int → Int → ox_H → Option ox_H)  (v2 : Int) (v3 : Int) (v4 : Int) (v5 : Int) (v6 : Int) (σ : ox_H) : Option (ox_H) := ox_lp (B_Exp_put_6 P v2 v3 v4) ox_fu (v5, v6, σ)
theorem L_Exp_put_6 (n : Nat) (P : Int → Int → Int → Int → ox_H → Option ox_H) (hP : ∀ (a1 a2 a3 a4 : Int) (σ : ox_H) (tl : Nat), ox_R (fun r => some ((fun r : ox_H => ((.inl none, r) : ox_O)) r)) (P a1 a2 a3 a4 σ) (ox_zz ox_ms (n + 20) 144 tl [.inr (.inr (7, 0, 0)), .inl (a1), .inl (a2), .inl (a3), .inl (a4)] σ))  (v2 : Int) (v3 : Int) (v4 : Int) (v5 : Int) (v6 : Int) (σ : ox_H) (tl : Nat) : ox_R (fun r => some ((fun r : ox_H => ((.inl none, r) : ox_O)) r)) (J_Exp_put_6 P v2 v3 v4 v5 v6 σ) (ox_ev m_Exp_put (ox_zz ox_ms (n + 21)) 6 0 tl [.inr (.inr (7, 0, 0)), ox_d, .inl (v2), .inl (v3), .inl (v4), .inl (v5), .inl (v6), ox_d] [] σ) := by
  unfold J_Exp_put_6
  refine ox_R_lp (ψ := (fun (s : Int × Int × ox_H) => match s with | (v5, v6, σ) => ox_ev m_Exp_put (ox_zz ox_ms (n + 21)) 6 0 tl [.inr (.inr (7, 0, 0)), ox_d, .inl (v2), .inl (v3), .inl (v4), .inl (v5), .inl (v6), ox_d] [] σ)) ?_ ox_fu (v5, v6, σ)
  intro s
  obtain ⟨v5, v6, σ⟩ := s
  unfold B_Exp_put_6
  refine ox_R_to 3 (Y := if v2 ≤ v6 then ox_ev m_Exp_put (ox_zz ox_ms (n + 21)) 125 0 tl [ox_d, ox_d, ox_d, ox_d, ox_d, ox_d, ox_d, ox_d] [] σ else ox_ev m_Exp_put (ox_zz ox_ms (n + 21)) 12 0 tl [.inr (.inr (7, 0, 0)), ox_d, .inl (v2), .inl (v3), .inl (v4), .inl (v5), .inl (v6), ox_d] [] σ) rfl ?_
  refine ox_R_if (fun _ => ?_) (fun _ => ?_)
  · exact ox_R_map ((L_Exp_put_125 n P hP σ tl))
  · refine ox_R_to 4 (Y := ox_back m_Exp_put 17 3 [] ((ox_zz ox_ms (n + 21)) 155 tl [.inr (.inr (1, 2, 0)), .inl (1)] σ) (fun pc9 x9 st9 σ9 => ox_ev m_Exp_put (ox_zz ox_ms (n + 21)) pc9 0 tl (ox_kl (m_Exp_put.2.2.1 pc9) (ox_xl x9 [.inr (.inr (7, 0, 0)), ox_d, .inl (v2), .inl (v3), .inl (v4), .inl (v5), .inl (v6), ox_d])) st9 σ9)) rfl ?_
    refine ox_R_call (fc := (fun r : Int => ((.inl (some (.inl r)), σ) : ox_O))) (L_Lin_hasRoom 2 1 σ (n + 20) tl) (fun r3 => ?_)
    refine ox_R_of (Y := ox_ev m_Exp_put (ox_zz ox_ms (n + 21)) 20 0 tl [.inr (.inr (7, 0, 0)), ox_d, .inl (v2), .inl (v3), .inl (v4), .inl (v5), .inl (v6), ox_d] [.inl (r3)] σ) rfl ?_
    refine ox_R_to 1 (Y := if r3 = 0 then ox_ev m_Exp_put (ox_zz ox_ms (n + 21)) 125 0 tl [ox_d, ox_d, ox_d, ox_d, ox_d, ox_d, ox_d, ox_d] [] σ else ox_ev m_Exp_put (ox_zz ox_ms (n + 21)) 23 0 tl [.inr (.inr (7, 0, 0)), ox_d, .inl (v2), .inl (v3), .inl (v4), .inl (v5), .inl (v6), ox_d] [] σ) rfl ?_
    refine ox_R_if (fun _ => ?_) (fun _ => ?_)
    · exact ox_R_map ((L_Exp_put_125 n P hP σ tl))
    · refine ox_R_to 3 (Y := if v5 ≤ v6 then ox_ev m_Exp_put (ox_zz ox_ms (n + 21)) 33 0 tl [.inr (.inr (7, 0, 0)), ox_d, .inl (v2), .inl (v3), .inl (v4), .inl (v5), .inl (v6), ox_d] [] σ else ox_ev m_Exp_put (ox_zz ox_ms (n + 21)) 30 0 tl [.inr (.inr (7, 0, 0)), ox_d, .inl (v2), .inl (v3), .inl (v4), .inl (v5), .inl (v6), ox_d] [] σ) rfl ?_
      refine ox_R_if (fun _ => ?_) (fun _ => ?_)
      · refine ox_R_to 4 (Y := ox_back m_Exp_put 39 3 [] ((ox_zz ox_ms (n + 21)) 172 tl [.inr (.inr (2, 0, 0)), .inl (v6)] σ) (fun pc9 x9 st9 σ9 => ox_ev m_Exp_put (ox_zz ox_ms (n + 21)) pc9 0 tl (ox_kl (m_Exp_put.2.2.1 pc9) (ox_xl x9 [.inr (.inr (7, 0, 0)), ox_d, .inl (v2), .inl (v3), .inl (v4), .inl (v5), .inl (v6), ox_d])) st9 σ9)) rfl ?_
        refine ox_R_call (fc := (fun r : Nat => ((.inl (some (.inr (.inr (4, r, 0)))), σ) : ox_O))) (L_Otl_reading v6 σ (n + 20) tl) (fun r4 => ?_)
        refine ox_R_of (Y := ox_ev m_Exp_put (ox_zz ox_ms (n + 21)) 42 0 tl [.inr (.inr (7, 0, 0)), ox_d, .inl (v2), .inl (v3), .inl (v4), .inl (v5), .inl (v6), ox_d] [.inr (.inr (4, r4, 0))] σ) rfl ?_
        refine ox_R_to 4 (Y := if (σ 4 r4 0 0) = 0 then ox_ev m_Exp_put (ox_zz ox_ms (n + 21)) 52 0 tl [.inr (.inr (7, 0, 0)), ox_d, .inl (v2), .inl (v3), .inl (v4), .inl (v5), .inl (v6), .inr (.inr (4, r4, 0))] [] σ else ox_ev m_Exp_put (ox_zz ox_ms (n + 21)) 82 0 tl [.inr (.inr (7, 0, 0)), ox_d, .inl (v2), .inl (v3), .inl (v4), .inl (v5), .inl (v6), .inr (.inr (4, r4, 0))] [] σ) rfl ?_
        refine ox_R_if (fun _ => ?_) (fun _ => ?_)
        · refine ox_R_to 4 (Y := if (σ 4 r4 8 0) = 3 then ox_ev m_Exp_put (ox_zz ox_ms (n + 21)) 61 0 tl [.inr (.inr (7, 0, 0)), ox_d, .inl (v2), .inl (v3), .inl (v4), .inl (v5), .inl (v6), .inr (.inr (4, r4, 0))] [] σ else ox_ev m_Exp_put (ox_zz ox_ms (n + 21)) 82 0 tl [.inr (.inr (7, 0, 0)), ox_d, .inl (v2), .inl (v3), .inl (v4), .inl (v5), .inl (v6), .inr (.inr (4, r4, 0))] [] σ) rfl ?_
          refine ox_R_if (fun _ => ?_) (fun _ => ?_)
          · refine ox_R_to 6 (Y := ox_back m_Exp_put 71 3 [.inr (.inr (2, 0, 0))] ((ox_zz ox_ms (n + 21)) 173 tl [.inr (.inr (2, 0, 0)), .inl (v6)] σ) (fun pc9 x9 st9 σ9 => ox_ev m_Exp_put (ox_zz ox_ms (n + 21)) pc9 0 tl (ox_kl (m_Exp_put.2.2.1 pc9) (ox_xl x9 [.inr (.inr (7, 0, 0)), ox_d, .inl (v2), .inl (v3), .inl (v4), .inl (v5), .inl (v6), .inr (.inr (4, r4, 0))])) st9 σ9)) rfl ?_
            refine ox_R_call (fc := (fun r : Int => ((.inl (some (.inl r)), σ) : ox_O))) (L_Otl_ownerOf v6 σ (n + 20) tl) (fun r5 => ?_)
            refine ox_R_of (Y := ox_ev m_Exp_put (ox_zz ox_ms (n + 21)) 74 0 tl [.inr (.inr (7, 0, 0)), ox_d, .inl (v2), .inl (v3), .inl (v4), .inl (v5), .inl (v6), .inr (.inr (4, r4, 0))] [.inl (r5), .inr (.inr (2, 0, 0))] σ) rfl ?_
            refine ox_R_to 1 (Y := ox_back m_Exp_put 74 3 [] ((ox_zz ox_ms (n + 21)) 185 tl [.inr (.inr (2, 0, 0)), .inl (r5)] σ) (fun pc9 x9 st9 σ9 => ox_ev m_Exp_put (ox_zz ox_ms (n + 21)) pc9 0 tl (ox_kl (m_Exp_put.2.2.1 pc9) (ox_xl x9 [.inr (.inr (7, 0, 0)), ox_d, .inl (v2), .inl (v3), .inl (v4), .inl (v5), .inl (v6), .inr (.inr (4, r4, 0))])) st9 σ9)) rfl ?_
            refine ox_R_call (fc := (fun r : Int => ((.inl (some (.inl r)), σ) : ox_O))) (L_Otl_partEnd r5 σ (n + 18) tl) (fun r6 => ?_)
            refine ox_R_of (Y := ox_ev m_Exp_put (ox_zz ox_ms (n + 21)) 77 0 tl [.inr (.inr (7, 0, 0)), ox_d, .inl (v2), .inl (v3), .inl (v4), .inl (v5), .inl (v6), .inr (.inr (4, r4, 0))] [.inl (r6)] σ) rfl ?_
            refine ox_R_to 2 (Y := ox_ev m_Exp_put (ox_zz ox_ms (n + 21)) 119 0 tl [.inr (.inr (7, 0, 0)), ox_d, .inl (v2), .inl (v3), .inl (v4), .inl (r6), .inl (v6), ox_d] [] σ) rfl ?_
            exact (L_Exp_put_119 n P hP v2 v3 v4 r6 v6 σ tl)
          · exact (L_Exp_put_82 n P hP v2 v3 v4 v5 v6 r4 σ tl)
        · exact (L_Exp_put_82 n P hP v2 v3 v4 v5 v6 r4 σ tl)
      · refine ox_R_to 1 (Y := ox_ev m_Exp_put (ox_zz ox_ms (n + 21)) 119 0 tl [.inr (.inr (7, 0, 0)), ox_d, .inl (v2), .inl (v3), .inl (v4), .inl (v5), .inl (v6), ox_d] [] σ) rfl ?_
        exact (L_Exp_put_119 n P hP v2 v3 v4 v5 v6 σ tl)
def F_Exp_put (P : Int → Int → Int → Int → ox_H → Option ox_H)  (a1 : Int) (a2 : Int) (a3 : Int) (a4 : Int) (σ : ox_H) : Option (ox_H) := (J_Exp_put_6 P a2 a3 a4 a1 a1 σ)
theorem L_Exp_put (n : Nat) (P : Int → Int → Int → Int → ox_H → Option ox_H) (hP : ∀ (a1 a2 a3 a4 : Int) (σ : ox_H) (tl : Nat), ox_R (fun r => some ((fun r : ox_H => ((.inl none, r) : ox_O)) r)) (P a1 a2 a3 a4 σ) (ox_zz ox_ms (n + 20) 144 tl [.inr (.inr (7, 0, 0)), .inl (a1), .inl (a2), .inl (a3), .inl (a4)] σ))  (a1 : Int) (a2 : Int) (a3 : Int) (a4 : Int) (σ : ox_H) (tl : Nat) : ox_R (fun r => some ((fun r : ox_H => ((.inl none, r) : ox_O)) r)) (F_Exp_put P a1 a2 a3 a4 σ) (ox_zz ox_ms (n + 22) 144 tl [.inr (.inr (7, 0, 0)), .inl (a1), .inl (a2), .inl (a3), .inl (a4)] σ) := by
  unfold F_Exp_put
  refine ox_R_of (Y := ox_ev m_Exp_put (ox_zz ox_ms (n + 21)) 0 0 tl [.inr (.inr (7, 0, 0)), .inl (a1), .inl (a2), .inl (a3), .inl (a4), ox_d, ox_d, ox_d] [] σ) rfl ?_
  refine ox_R_to 4 (Y := ox_ev m_Exp_put (ox_zz ox_ms (n + 21)) 6 0 tl [.inr (.inr (7, 0, 0)), ox_d, .inl (a2), .inl (a3), .inl (a4), .inl (a1), .inl (a1), ox_d] [] σ) rfl ?_
  exact (L_Exp_put_6 n P hP a2 a3 a4 a1 a1 σ tl)
def K_Exp_put (n : Nat) : Int → Int → Int → Int → ox_H → Option ox_H := Nat.rec (motive := fun _ => Int → Int → Int → Int → ox_H → Option ox_H) (fun _ _ _ _ _ => none) (fun _ P a1 a2 a3 a4 σ => F_Exp_put P a1 a2 a3 a4 σ) n
theorem KL_Exp_put (n : Nat) : ∀ (q : Nat), ∀ (a1 a2 a3 a4 : Int) (σ : ox_H) (tl : Nat), ox_R (fun r => some ((fun r : ox_H => ((.inl none, r) : ox_O)) r)) (K_Exp_put q a1 a2 a3 a4 σ) (ox_zz ox_ms (n + 2 * q + 20) 144 tl [.inr (.inr (7, 0, 0)), .inl (a1), .inl (a2), .inl (a3), .inl (a4)] σ)
  | 0, _, _, _, _, _, _ => ox_R_none
  | q + 1, a1, a2, a3, a4, σ, tl => L_Exp_put (n + 2 * q) (K_Exp_put q) (KL_Exp_put n q) a1 a2 a3 a4 σ tl
def F_Exp_refresh  (σ : ox_H) : Option (ox_H) := if (σ 7 0 4 0) = (σ 2 0 10 0) then (some σ) else ((F_Lin_close 2 0 (σ 1 2 4 0) (ox_up σ 7 0 4 0 (σ 2 0 10 0))).bind fun r1 => ((K_Exp_put 5 0 (r1 1 0 4 0) 0 0 r1).bind fun r2 => (some r2)))
theorem L_Exp_refresh  (σ : ox_H) (n tl : Nat) : ox_R (fun r => some ((fun r : ox_H => ((.inl none, r) : ox_O)) r)) (F_Exp_refresh σ) (ox_zz ox_ms (n + 31) 143 tl [.inr (.inr (7, 0, 0))] σ) := by
  unfold F_Exp_refresh
  refine ox_R_of (Y := ox_ev m_Exp_refresh (ox_zz ox_ms (n + 30)) 0 0 tl [.inr (.inr (7, 0, 0))] [] σ) rfl ?_
  refine ox_R_to 6 (Y := if (σ 7 0 4 0) = (σ 2 0 10 0) then ox_ev m_Exp_refresh (ox_zz ox_ms (n + 30)) 14 0 tl [.inr (.inr (7, 0, 0))] [] σ else ox_ev m_Exp_refresh (ox_zz ox_ms (n + 30)) 15 0 tl [.inr (.inr (7, 0, 0))] [] σ) rfl ?_
  refine ox_R_if (fun _ => ?_) (fun _ => ?_)
  · refine ox_R_to 1 (Y := some (.inl none, σ)) rfl ?_
    exact ox_R_ret rfl
  · refine ox_R_to 12 (Y := ox_back m_Exp_refresh 38 2 [] ((ox_zz ox_ms (n + 30)) 159 tl [.inr (.inr (1, 2, 0)), .inl (0), .inl (σ 1 2 4 0)] (ox_up σ 7 0 4 0 (σ 2 0 10 0))) (fun pc9 x9 st9 σ9 => ox_ev m_Exp_refresh (ox_zz ox_ms (n + 30)) pc9 0 tl (ox_kl (m_Exp_refresh.2.2.1 pc9) (ox_xl x9 [.inr (.inr (7, 0, 0))])) st9 σ9)) rfl ?_
    refine ox_R_call (fc := (fun r : ox_H => ((.inl none, r) : ox_O))) (L_Lin_close 2 0 (σ 1 2 4 0) (ox_up σ 7 0 4 0 (σ 2 0 10 0)) (n + 29) tl) (fun r1 => ?_)
    refine ox_R_of (Y := ox_ev m_Exp_refresh (ox_zz ox_ms (n + 30)) 41 0 tl [.inr (.inr (7, 0, 0))] [] r1) rfl ?_
    refine ox_R_to 9 (Y := ox_back m_Exp_refresh 55 0 [] ((ox_zz ox_ms (n + 30)) 144 tl [.inr (.inr (7, 0, 0)), .inl (0), .inl (r1 1 0 4 0), .inl (0), .inl (0)] r1) (fun pc9 x9 st9 σ9 => ox_ev m_Exp_refresh (ox_zz ox_ms (n + 30)) pc9 0 tl (ox_kl (m_Exp_refresh.2.2.1 pc9) (ox_xl x9 [.inr (.inr (7, 0, 0))])) st9 σ9)) rfl ?_
    refine ox_R_call (fc := (fun r : ox_H => ((.inl none, r) : ox_O))) (KL_Exp_put (n + 0) 5 0 (r1 1 0 4 0) 0 0 r1 tl) (fun r2 => ?_)
    refine ox_R_of (Y := ox_ev m_Exp_refresh (ox_zz ox_ms (n + 30)) 58 0 tl [.inr (.inr (7, 0, 0))] [] r2) rfl ?_
    refine ox_R_to 1 (Y := some (.inl none, r2)) rfl ?_
    exact ox_R_ret rfl
def F_Out_exported  (σ : ox_H) : Option (Int × ox_H) := (F_Otl_refresh σ).bind fun r1 => ((F_She_refresh r1).bind fun r2 => ((F_Exp_refresh r2).bind fun r3 => (some (r3 1 2 4 0, r3))))
theorem L_Out_exported  (σ : ox_H) (n tl : Nat) : ox_R (fun r => some ((fun r : Int × ox_H => ((.inl (some (.inl r.1)), r.2) : ox_O)) r)) (F_Out_exported σ) (ox_zz ox_ms (n + 32) 40 tl [.inr (.inr (0, 0, 0))] σ) := by
  unfold F_Out_exported
  refine ox_R_of (Y := ox_ev m_Out_exported (ox_zz ox_ms (n + 31)) 0 0 tl [.inr (.inr (0, 0, 0))] [] σ) rfl ?_
  refine ox_R_to 3 (Y := ox_back m_Out_exported 4 2 [] ((ox_zz ox_ms (n + 31)) 169 tl [.inr (.inr (2, 0, 0))] σ) (fun pc9 x9 st9 σ9 => ox_ev m_Out_exported (ox_zz ox_ms (n + 31)) pc9 0 tl (ox_kl (m_Out_exported.2.2.1 pc9) (ox_xl x9 [.inr (.inr (0, 0, 0))])) st9 σ9)) rfl ?_
  refine ox_R_call (fc := (fun r : ox_H => ((.inl none, r) : ox_O))) (L_Otl_refresh σ (n + 25) tl) (fun r1 => ?_)
  refine ox_R_of (Y := ox_ev m_Out_exported (ox_zz ox_ms (n + 31)) 7 0 tl [.inr (.inr (0, 0, 0))] [] r1) rfl ?_
  refine ox_R_to 3 (Y := ox_back m_Out_exported 11 2 [] ((ox_zz ox_ms (n + 31)) 217 tl [.inr (.inr (5, 0, 0))] r1) (fun pc9 x9 st9 σ9 => ox_ev m_Out_exported (ox_zz ox_ms (n + 31)) pc9 0 tl (ox_kl (m_Out_exported.2.2.1 pc9) (ox_xl x9 [.inr (.inr (0, 0, 0))])) st9 σ9)) rfl ?_
  refine ox_R_call (fc := (fun r : ox_H => ((.inl none, r) : ox_O))) (L_She_refresh r1 (n + 25) tl) (fun r2 => ?_)
  refine ox_R_of (Y := ox_ev m_Out_exported (ox_zz ox_ms (n + 31)) 14 0 tl [.inr (.inr (0, 0, 0))] [] r2) rfl ?_
  refine ox_R_to 3 (Y := ox_back m_Out_exported 18 2 [] ((ox_zz ox_ms (n + 31)) 143 tl [.inr (.inr (7, 0, 0))] r2) (fun pc9 x9 st9 σ9 => ox_ev m_Out_exported (ox_zz ox_ms (n + 31)) pc9 0 tl (ox_kl (m_Out_exported.2.2.1 pc9) (ox_xl x9 [.inr (.inr (0, 0, 0))])) st9 σ9)) rfl ?_
  refine ox_R_call (fc := (fun r : ox_H => ((.inl none, r) : ox_O))) (L_Exp_refresh r2 (n + 0) tl) (fun r3 => ?_)
  refine ox_R_of (Y := ox_ev m_Out_exported (ox_zz ox_ms (n + 31)) 21 0 tl [.inr (.inr (0, 0, 0))] [] r3) rfl ?_
  refine ox_R_to 5 (Y := some (.inl (some (.inl (r3 1 2 4 0))), r3)) rfl ?_
  exact ox_R_ret rfl
def F_Out_exportedAt  (a1 : Int) (a2 : Int) (σ : ox_H) : Option ((Nat ⊕ Int) × ox_H) := (F_Otl_refresh σ).bind fun r1 => ((F_She_refresh r1).bind fun r2 => ((F_Exp_refresh r2).bind fun r3 => ((F_Out_checkPlace 2 a1 a2 r3).bind fun r4 => match r4 with | .inl e7 => (some (.inl e7, r3)) | .inr x5 => ((F_Lin_at 2 a1 a2 r3).bind fun r6 => (some (.inr (r6 % 65536), r3))))))
theorem L_Out_exportedAt  (a1 : Int) (a2 : Int) (σ : ox_H) (n tl : Nat) : ox_R (fun r => some ((fun r : (Nat ⊕ Int) × ox_H => (((Sum.elim (fun e : Nat => (.inr e : Option ox_V ⊕ Nat)) (fun v : Int => .inl (some (.inl v))) r.1), r.2) : ox_O)) r)) (F_Out_exportedAt a1 a2 σ) (ox_zz ox_ms (n + 32) 41 tl [.inr (.inr (0, 0, 0)), .inl (a1), .inl (a2)] σ) := by
  unfold F_Out_exportedAt
  refine ox_R_of (Y := ox_ev m_Out_exportedAt (ox_zz ox_ms (n + 31)) 0 2 tl [.inr (.inr (0, 0, 0)), .inl (a1), .inl (a2)] [] σ) rfl ?_
  refine ox_R_to 3 (Y := ox_back m_Out_exportedAt 4 2 [] ((ox_zz ox_ms (n + 31)) 169 tl [.inr (.inr (2, 0, 0))] σ) (fun pc9 x9 st9 σ9 => ox_ev m_Out_exportedAt (ox_zz ox_ms (n + 31)) pc9 2 tl (ox_kl (m_Out_exportedAt.2.2.1 pc9) (ox_xl x9 [.inr (.inr (0, 0, 0)), .inl (a1), .inl (a2)])) st9 σ9)) rfl ?_
  refine ox_R_call (fc := (fun r : ox_H => ((.inl none, r) : ox_O))) (L_Otl_refresh σ (n + 25) tl) (fun r1 => ?_)
  refine ox_R_of (Y := ox_ev m_Out_exportedAt (ox_zz ox_ms (n + 31)) 7 2 tl [.inr (.inr (0, 0, 0)), .inl (a1), .inl (a2)] [] r1) rfl ?_
  refine ox_R_to 3 (Y := ox_back m_Out_exportedAt 11 2 [] ((ox_zz ox_ms (n + 31)) 217 tl [.inr (.inr (5, 0, 0))] r1) (fun pc9 x9 st9 σ9 => ox_ev m_Out_exportedAt (ox_zz ox_ms (n + 31)) pc9 2 tl (ox_kl (m_Out_exportedAt.2.2.1 pc9) (ox_xl x9 [.inr (.inr (0, 0, 0)), .inl (a1), .inl (a2)])) st9 σ9)) rfl ?_
  refine ox_R_call (fc := (fun r : ox_H => ((.inl none, r) : ox_O))) (L_She_refresh r1 (n + 25) tl) (fun r2 => ?_)
  refine ox_R_of (Y := ox_ev m_Out_exportedAt (ox_zz ox_ms (n + 31)) 14 2 tl [.inr (.inr (0, 0, 0)), .inl (a1), .inl (a2)] [] r2) rfl ?_
  refine ox_R_to 3 (Y := ox_back m_Out_exportedAt 18 2 [] ((ox_zz ox_ms (n + 31)) 143 tl [.inr (.inr (7, 0, 0))] r2) (fun pc9 x9 st9 σ9 => ox_ev m_Out_exportedAt (ox_zz ox_ms (n + 31)) pc9 2 tl (ox_kl (m_Out_exportedAt.2.2.1 pc9) (ox_xl x9 [.inr (.inr (0, 0, 0)), .inl (a1), .inl (a2)])) st9 σ9)) rfl ?_
  refine ox_R_call (fc := (fun r : ox_H => ((.inl none, r) : ox_O))) (L_Exp_refresh r2 (n + 0) tl) (fun r3 => ?_)
  refine ox_R_of (Y := ox_ev m_Out_exportedAt (ox_zz ox_ms (n + 31)) 21 2 tl [.inr (.inr (0, 0, 0)), .inl (a1), .inl (a2)] [] r3) rfl ?_
  refine ox_R_to 6 (Y := ox_back m_Out_exportedAt 30 0 [] ((ox_zz ox_ms (n + 31)) 7 tl [.inr (.inr (1, 2, 0)), .inl (a1), .inl (a2)] r3) (fun pc9 x9 st9 σ9 => ox_ev m_Out_exportedAt (ox_zz ox_ms (n + 31)) pc9 0 tl (ox_kl (m_Out_exportedAt.2.2.1 pc9) (ox_xl x9 [.inr (.inr (0, 0, 0)), .inl (a1), .inl (a2)])) st9 σ9)) rfl ?_
  refine ox_R_call (fc := (fun r : (Nat ⊕ Unit) => (((Sum.elim (fun e : Nat => (.inr e : Option ox_V ⊕ Nat)) (fun v : Unit => .inl none) r), r3) : ox_O))) (L_Out_checkPlace 2 a1 a2 r3 (n + 28) tl) (fun r4 => ?_)
  rcases r4 with e7 | x5
  · refine ox_R_of (Y := some (.inr e7, r3)) rfl ?_
    exact ox_R_ret rfl
  · refine ox_R_of (Y := ox_ev m_Out_exportedAt (ox_zz ox_ms (n + 31)) 33 0 tl [.inr (.inr (0, 0, 0)), .inl (a1), .inl (a2)] [] r3) rfl ?_
    refine ox_R_to 6 (Y := ox_back m_Out_exportedAt 42 3 [] ((ox_zz ox_ms (n + 31)) 157 tl [.inr (.inr (1, 2, 0)), .inl (a1), .inl (a2)] r3) (fun pc9 x9 st9 σ9 => ox_ev m_Out_exportedAt (ox_zz ox_ms (n + 31)) pc9 0 tl (ox_kl (m_Out_exportedAt.2.2.1 pc9) (ox_xl x9 [.inr (.inr (0, 0, 0)), .inl (a1), .inl (a2)])) st9 σ9)) rfl ?_
    refine ox_R_call (fc := (fun r : Int => ((.inl (some (.inl r)), r3) : ox_O))) (L_Lin_at 2 a1 a2 r3 (n + 30) tl) (fun r6 => ?_)
    refine ox_R_of (Y := ox_ev m_Out_exportedAt (ox_zz ox_ms (n + 31)) 45 0 tl [.inr (.inr (0, 0, 0)), .inl (a1), .inl (a2)] [.inl (r6)] r3) rfl ?_
    refine ox_R_to 1 (Y := some (.inl (some (.inl (r6 % 65536))), r3)) rfl ?_
    exact ox_R_ret rfl
