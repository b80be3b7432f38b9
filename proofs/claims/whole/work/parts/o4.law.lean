/-! ===== the law's branches ===== -/
def oz_br0 (v4 : Int) (b : Nat) (σ : ox_H) : Option (((Int × Nat × ox_H) ⊕ Int × ox_H)) := if 0 ≤ (ox_w (v4 + 1)) ∧ (ox_w (v4 + 1)).toNat < (σ 22 0 1 0).toNat then (if 2 ≤ b then ((F_Law_line (σ 22 0 0 ((ox_w (v4 + 1)).toNat)) σ).bind fun r10 => (if 0 ≤ (ox_w (v4 + 1)) ∧ (ox_w (v4 + 1)).toNat < (r10.2 22 0 1 0).toNat then ((F_Mod_line (r10.2 22 0 0 ((ox_w (v4 + 1)).toNat)) r10.2).bind fun r11 => ((F_Mod_thrown r11.2).bind fun r12 => (if r12 = r10.1 then (if r10.1 = 0 then (if (if (r11.2 21 0 0 0) < r11.1 then -1 else if (r11.2 21 0 0 0) = r11.1 then 0 else 1) = 0 then (J_Law_law_217 v4 (b - 2) r11.2) else ((J_Law_law_215 (b - 2) r11.2).map .inr)) else (J_Law_law_217 v4 (b - 2) r11.2)) else ((J_Law_law_198 (b - 2) r11.2).map .inr)))) else none)) else none) else none
def oz_br1 (v4 : Int) (b : Nat) (σ : ox_H) : Option (((Int × Nat × ox_H) ⊕ Int × ox_H)) := if 0 ≤ (ox_w (v4 + 1)) ∧ (ox_w (v4 + 1)).toNat < (σ 22 0 1 0).toNat then (if 0 ≤ (ox_w (v4 + 2)) ∧ (ox_w (v4 + 2)).toNat < (σ 22 0 1 0).toNat then (if 2 ≤ b then ((F_Law_sign (σ 22 0 0 ((ox_w (v4 + 1)).toNat)) ((σ 22 0 0 ((ox_w (v4 + 2)).toNat)) % 65536) σ).bind fun r13 => (if 0 ≤ (ox_w (v4 + 1)) ∧ (ox_w (v4 + 1)).toNat < (r13.2 22 0 1 0).toNat then (if 0 ≤ (ox_w (v4 + 2)) ∧ (ox_w (v4 + 2)).toNat < (r13.2 22 0 1 0).toNat then ((F_Mod_sign (r13.2 22 0 0 ((ox_w (v4 + 1)).toNat)) ((r13.2 22 0 0 ((ox_w (v4 + 2)).toNat)) % 65536) r13.2).bind fun r14 => ((F_Mod_thrown r14.2).bind fun r15 => (if r15 = r13.1 then (if r13.1 = 0 then (if (if (r14.2 21 0 0 0) < r14.1 then -1 else if (r14.2 21 0 0 0) = r14.1 then 0 else 1) = 0 then (J_Law_law_287 v4 (b - 2) r14.2) else ((J_Law_law_285 (b - 2) r14.2).map .inr)) else (J_Law_law_287 v4 (b - 2) r14.2)) else ((J_Law_law_268 (b - 2) r14.2).map .inr)))) else none) else none)) else none) else none) else none
def oz_br2 (v4 : Int) (b : Nat) (σ : ox_H) : Option (((Int × Nat × ox_H) ⊕ Int × ox_H)) := if 0 ≤ (ox_w (v4 + 1)) ∧ (ox_w (v4 + 1)).toNat < (σ 22 0 1 0).toNat then (if 1 ≤ b then ((F_Law_rub (σ 22 0 0 ((ox_w (v4 + 1)).toNat)) σ).bind fun r16 => (if 0 ≤ (ox_w (v4 + 1)) ∧ (ox_w (v4 + 1)).toNat < (r16.2 22 0 1 0).toNat then ((F_Mod_rub (r16.2 22 0 0 ((ox_w (v4 + 1)).toNat)) r16.2).bind fun r17 => ((F_Mod_thrown r17.2).bind fun r18 => (if r18 = r16.1 then (if r16.1 = 0 then (if (if (r17.2 21 0 0 0) < r17.1 then -1 else if (r17.2 21 0 0 0) = r17.1 then 0 else 1) = 0 then (J_Law_law_343 v4 (b - 1) r17.2) else ((J_Law_law_341 (b - 1) r17.2).map .inr)) else (J_Law_law_343 v4 (b - 1) r17.2)) else ((J_Law_law_324 (b - 1) r17.2).map .inr)))) else none)) else none) else none
def oz_br3 (v4 : Int) (b : Nat) (σ : ox_H) : Option (((Int × Nat × ox_H) ⊕ Int × ox_H)) := (F_Out_lines σ).bind fun r19 => ((F_Mod_lines σ).bind fun r20 => (if r19 = r20.1 then (J_Law_law_1771 v4 b r20.2) else ((J_Law_law_357 b r20.2).map .inr)))
def oz_br4 (v4 : Int) (b : Nat) (σ : ox_H) : Option (((Int × Nat × ox_H) ⊕ Int × ox_H)) := if 0 ≤ (ox_w (v4 + 1)) ∧ (ox_w (v4 + 1)).toNat < (σ 22 0 1 0).toNat then (if 0 ≤ (ox_w (v4 + 2)) ∧ (ox_w (v4 + 2)).toNat < (σ 22 0 1 0).toNat then (if 2 ≤ b then ((F_Law_signAt (σ 22 0 0 ((ox_w (v4 + 1)).toNat)) (σ 22 0 0 ((ox_w (v4 + 2)).toNat)) σ).bind fun r21 => (if 0 ≤ (ox_w (v4 + 1)) ∧ (ox_w (v4 + 1)).toNat < (r21.2 22 0 1 0).toNat then (if 0 ≤ (ox_w (v4 + 2)) ∧ (ox_w (v4 + 2)).toNat < (r21.2 22 0 1 0).toNat then ((F_Mod_signAt (r21.2 22 0 0 ((ox_w (v4 + 1)).toNat)) (r21.2 22 0 0 ((ox_w (v4 + 2)).toNat)) r21.2).bind fun r22 => ((F_Mod_thrown r22.2).bind fun r23 => (if r23 = r21.1 then (if r21.1 = 0 then (if (if (r22.2 21 0 0 0) < r22.1 then -1 else if (r22.2 21 0 0 0) = r22.1 then 0 else 1) = 0 then (J_Law_law_424 v4 (b - 2) r22.2) else ((J_Law_law_422 (b - 2) r22.2).map .inr)) else (J_Law_law_424 v4 (b - 2) r22.2)) else ((J_Law_law_405 (b - 2) r22.2).map .inr)))) else none) else none)) else none) else none) else none
def oz_br5 (v4 : Int) (b : Nat) (σ : ox_H) : Option (((Int × Nat × ox_H) ⊕ Int × ox_H)) := if 0 ≤ (ox_w (v4 + 1)) ∧ (ox_w (v4 + 1)).toNat < (σ 22 0 1 0).toNat then (if 1 ≤ b then ((F_Law_kind (σ 22 0 0 ((ox_w (v4 + 1)).toNat)) σ).bind fun r24 => (if 0 ≤ (ox_w (v4 + 1)) ∧ (ox_w (v4 + 1)).toNat < (r24.2 22 0 1 0).toNat then ((F_Mod_kind (r24.2 22 0 0 ((ox_w (v4 + 1)).toNat)) r24.2).bind fun r25 => ((F_Mod_thrown r25.2).bind fun r26 => (if r26 = r24.1 then (if r24.1 = 0 then (if (if (r25.2 21 0 0 0) < r25.1 then -1 else if (r25.2 21 0 0 0) = r25.1 then 0 else 1) = 0 then (J_Law_law_480 v4 (b - 1) r25.2) else ((J_Law_law_478 (b - 1) r25.2).map .inr)) else (J_Law_law_480 v4 (b - 1) r25.2)) else ((J_Law_law_461 (b - 1) r25.2).map .inr)))) else none)) else none) else none
def oz_br6 (v4 : Int) (b : Nat) (σ : ox_H) : Option (((Int × Nat × ox_H) ⊕ Int × ox_H)) := (F_Out_entries σ).bind fun r27 => ((F_Mod_entries r27.2).bind fun r28 => (if r27.1 = r28.1 then (J_Law_law_1771 v4 b r28.2) else ((J_Law_law_494 b r28.2).map .inr)))
def oz_br7 (v4 : Int) (b : Nat) (σ : ox_H) : Option (((Int × Nat × ox_H) ⊕ Int × ox_H)) := if 0 ≤ (ox_w (v4 + 1)) ∧ (ox_w (v4 + 1)).toNat < (σ 22 0 1 0).toNat then (if 0 ≤ (ox_w (v4 + 2)) ∧ (ox_w (v4 + 2)).toNat < (σ 22 0 1 0).toNat then (if 2 ≤ b then ((F_Law_entry (σ 22 0 0 ((ox_w (v4 + 1)).toNat)) (σ 22 0 0 ((ox_w (v4 + 2)).toNat)) σ).bind fun r29 => (if 0 ≤ (ox_w (v4 + 1)) ∧ (ox_w (v4 + 1)).toNat < (r29.2 22 0 1 0).toNat then (if 0 ≤ (ox_w (v4 + 2)) ∧ (ox_w (v4 + 2)).toNat < (r29.2 22 0 1 0).toNat then ((F_Mod_entry (r29.2 22 0 0 ((ox_w (v4 + 1)).toNat)) (r29.2 22 0 0 ((ox_w (v4 + 2)).toNat)) r29.2).bind fun r30 => ((F_Mod_thrown r30.2).bind fun r31 => (if r31 = r29.1 then (if r29.1 = 0 then (if (if (r30.2 21 0 0 0) < r30.1 then -1 else if (r30.2 21 0 0 0) = r30.1 then 0 else 1) = 0 then (J_Law_law_561 v4 (b - 2) r30.2) else ((J_Law_law_559 (b - 2) r30.2).map .inr)) else (J_Law_law_561 v4 (b - 2) r30.2)) else ((J_Law_law_542 (b - 2) r30.2).map .inr)))) else none) else none)) else none) else none) else none
def oz_br8 (v4 : Int) (b : Nat) (σ : ox_H) : Option (((Int × Nat × ox_H) ⊕ Int × ox_H)) := if 0 ≤ (ox_w (v4 + 1)) ∧ (ox_w (v4 + 1)).toNat < (σ 22 0 1 0).toNat then (if 0 ≤ (ox_w (v4 + 2)) ∧ (ox_w (v4 + 2)).toNat < (σ 22 0 1 0).toNat then (if 0 ≤ (ox_w (v4 + 3)) ∧ (ox_w (v4 + 3)).toNat < (σ 22 0 1 0).toNat then (if (σ 22 0 0 ((ox_w (v4 + 3)).toNat)) = 0 then (J_Law_law_591 v4 b 0 (σ 22 0 0 ((ox_w (v4 + 2)).toNat)) (σ 22 0 0 ((ox_w (v4 + 1)).toNat)) σ) else (J_Law_law_591 v4 b 1 (σ 22 0 0 ((ox_w (v4 + 2)).toNat)) (σ 22 0 0 ((ox_w (v4 + 1)).toNat)) σ)) else none) else none) else none
def oz_br9 (v4 : Int) (b : Nat) (σ : ox_H) : Option (((Int × Nat × ox_H) ⊕ Int × ox_H)) := if 0 ≤ (ox_w (v4 + 1)) ∧ (ox_w (v4 + 1)).toNat < (σ 22 0 1 0).toNat then (if 0 ≤ (ox_w (v4 + 2)) ∧ (ox_w (v4 + 2)).toNat < (σ 22 0 1 0).toNat then (if (σ 22 0 0 ((ox_w (v4 + 2)).toNat)) = 0 then (J_Law_law_681 v4 b 0 (σ 22 0 0 ((ox_w (v4 + 1)).toNat)) σ) else (J_Law_law_681 v4 b 1 (σ 22 0 0 ((ox_w (v4 + 1)).toNat)) σ)) else none) else none
def oz_br10 (v4 : Int) (b : Nat) (σ : ox_H) : Option (((Int × Nat × ox_H) ⊕ Int × ox_H)) := if 0 ≤ (ox_w (v4 + 1)) ∧ (ox_w (v4 + 1)).toNat < (σ 22 0 1 0).toNat then (if 0 ≤ (ox_w (v4 + 2)) ∧ (ox_w (v4 + 2)).toNat < (σ 22 0 1 0).toNat then (if 0 ≤ (ox_w (v4 + 3)) ∧ (ox_w (v4 + 3)).toNat < (σ 22 0 1 0).toNat then (if (σ 22 0 0 ((ox_w (v4 + 3)).toNat)) = 0 then (J_Law_law_771 v4 b 0 (σ 22 0 0 ((ox_w (v4 + 2)).toNat)) (σ 22 0 0 ((ox_w (v4 + 1)).toNat)) σ) else (J_Law_law_771 v4 b 1 (σ 22 0 0 ((ox_w (v4 + 2)).toNat)) (σ 22 0 0 ((ox_w (v4 + 1)).toNat)) σ)) else none) else none) else none
def oz_br11 (v4 : Int) (b : Nat) (σ : ox_H) : Option (((Int × Nat × ox_H) ⊕ Int × ox_H)) := if 0 ≤ (ox_w (v4 + 1)) ∧ (ox_w (v4 + 1)).toNat < (σ 22 0 1 0).toNat then (if 0 ≤ (ox_w (v4 + 2)) ∧ (ox_w (v4 + 2)).toNat < (σ 22 0 1 0).toNat then (if 6 ≤ b then ((F_Law_state (σ 22 0 0 ((ox_w (v4 + 1)).toNat)) (σ 22 0 0 ((ox_w (v4 + 2)).toNat)) σ).bind fun r32 => (if 0 ≤ (ox_w (v4 + 1)) ∧ (ox_w (v4 + 1)).toNat < (r32.2 22 0 1 0).toNat then (if 0 ≤ (ox_w (v4 + 2)) ∧ (ox_w (v4 + 2)).toNat < (r32.2 22 0 1 0).toNat then ((F_Mod_state (r32.2 22 0 0 ((ox_w (v4 + 1)).toNat)) (r32.2 22 0 0 ((ox_w (v4 + 2)).toNat)) r32.2).bind fun r33 => ((F_Mod_thrown r33.2).bind fun r34 => (if r34 = r32.1 then (if r32.1 = 0 then (if (if (r33.2 21 0 0 0) < r33.1 then -1 else if (r33.2 21 0 0 0) = r33.1 then 0 else 1) = 0 then (J_Law_law_905 v4 (b - 6) r33.2) else ((J_Law_law_903 (b - 6) r33.2).map .inr)) else (J_Law_law_905 v4 (b - 6) r33.2)) else ((J_Law_law_886 (b - 6) r33.2).map .inr)))) else none) else none)) else none) else none) else none
def oz_br12 (v4 : Int) (b : Nat) (σ : ox_H) : Option (((Int × Nat × ox_H) ⊕ Int × ox_H)) := if 0 ≤ (ox_w (v4 + 1)) ∧ (ox_w (v4 + 1)).toNat < (σ 22 0 1 0).toNat then (if 0 ≤ (ox_w (v4 + 2)) ∧ (ox_w (v4 + 2)).toNat < (σ 22 0 1 0).toNat then (if 4 ≤ b then ((F_Law_capture (σ 22 0 0 ((ox_w (v4 + 1)).toNat)) (σ 22 0 0 ((ox_w (v4 + 2)).toNat)) σ).bind fun r35 => (if 0 ≤ (ox_w (v4 + 1)) ∧ (ox_w (v4 + 1)).toNat < (r35.2 22 0 1 0).toNat then (if 0 ≤ (ox_w (v4 + 2)) ∧ (ox_w (v4 + 2)).toNat < (r35.2 22 0 1 0).toNat then ((F_Mod_capture (r35.2 22 0 0 ((ox_w (v4 + 1)).toNat)) (r35.2 22 0 0 ((ox_w (v4 + 2)).toNat)) r35.2).bind fun r36 => ((F_Mod_thrown r36.2).bind fun r37 => (if r37 = r35.1 then (if r35.1 = 0 then (if (if (r36.2 21 0 0 0) < r36.1 then -1 else if (r36.2 21 0 0 0) = r36.1 then 0 else 1) = 0 then (J_Law_law_973 v4 (b - 4) r36.2) else ((J_Law_law_971 (b - 4) r36.2).map .inr)) else (J_Law_law_973 v4 (b - 4) r36.2)) else ((J_Law_law_954 (b - 4) r36.2).map .inr)))) else none) else none)) else none) else none) else none
def oz_br13 (v4 : Int) (b : Nat) (σ : ox_H) : Option (((Int × Nat × ox_H) ⊕ Int × ox_H)) := if 0 ≤ (ox_w (v4 + 1)) ∧ (ox_w (v4 + 1)).toNat < (σ 22 0 1 0).toNat then (if 2 ≤ b then ((F_Law_archive (σ 22 0 0 ((ox_w (v4 + 1)).toNat)) σ).bind fun r38 => (if 0 ≤ (ox_w (v4 + 1)) ∧ (ox_w (v4 + 1)).toNat < (r38.2 22 0 1 0).toNat then ((F_Mod_archive (r38.2 22 0 0 ((ox_w (v4 + 1)).toNat)) r38.2).bind fun r39 => ((F_Mod_thrown r39.2).bind fun r40 => (if r40 = r38.1 then (if r38.1 = 0 then (if (if (r39.2 21 0 0 0) < r39.1 then -1 else if (r39.2 21 0 0 0) = r39.1 then 0 else 1) = 0 then (J_Law_law_1029 v4 (b - 2) r39.2) else ((J_Law_law_1027 (b - 2) r39.2).map .inr)) else (J_Law_law_1029 v4 (b - 2) r39.2)) else ((J_Law_law_1010 (b - 2) r39.2).map .inr)))) else none)) else none) else none
def oz_br14 (v4 : Int) (b : Nat) (σ : ox_H) : Option (((Int × Nat × ox_H) ⊕ Int × ox_H)) := if 2 ≤ b then ((F_Law_bringBack σ).bind fun r41 => ((F_Mod_bringBack r41.2).bind fun r42 => ((F_Mod_thrown r42.2).bind fun r43 => (if r43 = r41.1 then (if r41.1 = 0 then (if (if (r42.2 21 0 0 0) < r42.1 then -1 else if (r42.2 21 0 0 0) = r42.1 then 0 else 1) = 0 then (J_Law_law_1073 v4 (b - 2) r42.2) else ((J_Law_law_1071 (b - 2) r42.2).map .inr)) else (J_Law_law_1073 v4 (b - 2) r42.2)) else ((J_Law_law_1054 (b - 2) r42.2).map .inr))))) else none
def oz_br15 (v4 : Int) (b : Nat) (σ : ox_H) : Option (((Int × Nat × ox_H) ⊕ Int × ox_H)) := if 0 ≤ (ox_w (v4 + 1)) ∧ (ox_w (v4 + 1)).toNat < (σ 22 0 1 0).toNat then (if 1 ≤ b then ((F_Law_today (σ 22 0 0 ((ox_w (v4 + 1)).toNat)) σ).bind fun r44 => (if 0 ≤ (ox_w (v4 + 1)) ∧ (ox_w (v4 + 1)).toNat < (r44.2 22 0 1 0).toNat then ((F_Mod_today (r44.2 22 0 0 ((ox_w (v4 + 1)).toNat)) r44.2).bind fun r45 => ((F_Mod_thrown r45.2).bind fun r46 => (if r46 = r44.1 then (if r44.1 = 0 then (if (if (r45.2 21 0 0 0) < r45.1 then -1 else if (r45.2 21 0 0 0) = r45.1 then 0 else 1) = 0 then (J_Law_law_1129 v4 (b - 1) r45.2) else ((J_Law_law_1127 (b - 1) r45.2).map .inr)) else (J_Law_law_1129 v4 (b - 1) r45.2)) else ((J_Law_law_1110 (b - 1) r45.2).map .inr)))) else none)) else none) else none
def oz_br16 (v4 : Int) (b : Nat) (σ : ox_H) : Option (((Int × Nat × ox_H) ⊕ Int × ox_H)) := if 0 ≤ (ox_w (v4 + 1)) ∧ (ox_w (v4 + 1)).toNat < (σ 22 0 1 0).toNat then (if 0 ≤ (ox_w (v4 + 2)) ∧ (ox_w (v4 + 2)).toNat < (σ 22 0 1 0).toNat then (if 0 ≤ (ox_w (v4 + 3)) ∧ (ox_w (v4 + 3)).toNat < (σ 22 0 1 0).toNat then (if 0 ≤ (ox_w (v4 + 4)) ∧ (ox_w (v4 + 4)).toNat < (σ 22 0 1 0).toNat then (if 4 ≤ b then ((F_Law_agenda (σ 22 0 0 ((ox_w (v4 + 1)).toNat)) (σ 22 0 0 ((ox_w (v4 + 2)).toNat)) (σ 22 0 0 ((ox_w (v4 + 3)).toNat)) (σ 22 0 0 ((ox_w (v4 + 4)).toNat)) σ).bind fun r47 => (if 0 ≤ (ox_w (v4 + 1)) ∧ (ox_w (v4 + 1)).toNat < (r47.2 22 0 1 0).toNat then (if 0 ≤ (ox_w (v4 + 2)) ∧ (ox_w (v4 + 2)).toNat < (r47.2 22 0 1 0).toNat then (if 0 ≤ (ox_w (v4 + 3)) ∧ (ox_w (v4 + 3)).toNat < (r47.2 22 0 1 0).toNat then (if 0 ≤ (ox_w (v4 + 4)) ∧ (ox_w (v4 + 4)).toNat < (r47.2 22 0 1 0).toNat then ((F_Mod_agenda (r47.2 22 0 0 ((ox_w (v4 + 1)).toNat)) (r47.2 22 0 0 ((ox_w (v4 + 2)).toNat)) (r47.2 22 0 0 ((ox_w (v4 + 3)).toNat)) (r47.2 22 0 0 ((ox_w (v4 + 4)).toNat)) r47.2).bind fun r48 => ((F_Mod_thrown r48.2).bind fun r49 => (if r49 = r47.1 then (if r47.1 = 0 then (if (if (r48.2 21 0 0 0) < r48.1 then -1 else if (r48.2 21 0 0 0) = r48.1 then 0 else 1) = 0 then (J_Law_law_1221 v4 (b - 4) r48.2) else ((J_Law_law_1219 (b - 4) r48.2).map .inr)) else (J_Law_law_1221 v4 (b - 4) r48.2)) else ((J_Law_law_1202 (b - 4) r48.2).map .inr)))) else none) else none) else none) else none)) else none) else none) else none) else none) else none
def oz_br17 (v4 : Int) (b : Nat) (σ : ox_H) : Option (((Int × Nat × ox_H) ⊕ Int × ox_H)) := if 0 ≤ (ox_w (v4 + 1)) ∧ (ox_w (v4 + 1)).toNat < (σ 22 0 1 0).toNat then (if 1 ≤ b then ((F_Law_pass (σ 22 0 0 ((ox_w (v4 + 1)).toNat)) σ).bind fun r50 => (if 0 ≤ (ox_w (v4 + 1)) ∧ (ox_w (v4 + 1)).toNat < (r50.2 22 0 1 0).toNat then ((F_Mod_pass (r50.2 22 0 0 ((ox_w (v4 + 1)).toNat)) r50.2).bind fun r51 => ((F_Mod_thrown r51.2).bind fun r52 => (if r52 = r50.1 then (if r50.1 = 0 then (if (if (r51.2 21 0 0 0) < r51.1 then -1 else if (r51.2 21 0 0 0) = r51.1 then 0 else 1) = 0 then (J_Law_law_1277 v4 (b - 1) r51.2) else ((J_Law_law_1275 (b - 1) r51.2).map .inr)) else (J_Law_law_1277 v4 (b - 1) r51.2)) else ((J_Law_law_1258 (b - 1) r51.2).map .inr)))) else none)) else none) else none
def oz_br18 (v4 : Int) (b : Nat) (σ : ox_H) : Option (((Int × Nat × ox_H) ⊕ Int × ox_H)) := if 0 ≤ (ox_w (v4 + 1)) ∧ (ox_w (v4 + 1)).toNat < (σ 22 0 1 0).toNat then (if 2 ≤ b then ((F_Law_clockIn (σ 22 0 0 ((ox_w (v4 + 1)).toNat)) σ).bind fun r53 => (if 0 ≤ (ox_w (v4 + 1)) ∧ (ox_w (v4 + 1)).toNat < (r53.2 22 0 1 0).toNat then ((F_Mod_clockIn (r53.2 22 0 0 ((ox_w (v4 + 1)).toNat)) r53.2).bind fun r54 => ((F_Mod_thrown r54.2).bind fun r55 => (if r55 = r53.1 then (if r53.1 = 0 then (if (if (r54.2 21 0 0 0) < r54.1 then -1 else if (r54.2 21 0 0 0) = r54.1 then 0 else 1) = 0 then (J_Law_law_1333 v4 (b - 2) r54.2) else ((J_Law_law_1331 (b - 2) r54.2).map .inr)) else (J_Law_law_1333 v4 (b - 2) r54.2)) else ((J_Law_law_1314 (b - 2) r54.2).map .inr)))) else none)) else none) else none
def oz_br19 (v4 : Int) (b : Nat) (σ : ox_H) : Option (((Int × Nat × ox_H) ⊕ Int × ox_H)) := if 0 ≤ (ox_w (v4 + 1)) ∧ (ox_w (v4 + 1)).toNat < (σ 22 0 1 0).toNat then (if 1 ≤ b then ((F_Law_clockOut (σ 22 0 0 ((ox_w (v4 + 1)).toNat)) σ).bind fun r56 => (if 0 ≤ (ox_w (v4 + 1)) ∧ (ox_w (v4 + 1)).toNat < (r56.2 22 0 1 0).toNat then ((F_Mod_clockOut (r56.2 22 0 0 ((ox_w (v4 + 1)).toNat)) r56.2).bind fun r57 => ((F_Mod_thrown r57.2).bind fun r58 => (if r58 = r56.1 then (if r56.1 = 0 then (if (if (r57.2 21 0 0 0) < r57.1 then -1 else if (r57.2 21 0 0 0) = r57.1 then 0 else 1) = 0 then (J_Law_law_1389 v4 (b - 1) r57.2) else ((J_Law_law_1387 (b - 1) r57.2).map .inr)) else (J_Law_law_1389 v4 (b - 1) r57.2)) else ((J_Law_law_1370 (b - 1) r57.2).map .inr)))) else none)) else none) else none
def oz_br20 (v4 : Int) (b : Nat) (σ : ox_H) : Option (((Int × Nat × ox_H) ⊕ Int × ox_H)) := if 0 ≤ (ox_w (v4 + 1)) ∧ (ox_w (v4 + 1)).toNat < (σ 22 0 1 0).toNat then (if 1 ≤ b then ((F_Law_clocked (σ 22 0 0 ((ox_w (v4 + 1)).toNat)) σ).bind fun r59 => (if 0 ≤ (ox_w (v4 + 1)) ∧ (ox_w (v4 + 1)).toNat < (r59.2 22 0 1 0).toNat then ((F_Mod_clocked (r59.2 22 0 0 ((ox_w (v4 + 1)).toNat)) r59.2).bind fun r60 => ((F_Mod_thrown r60.2).bind fun r61 => (if r61 = r59.1 then (if r59.1 = 0 then (if (if (r60.2 21 0 0 0) < r60.1 then -1 else if (r60.2 21 0 0 0) = r60.1 then 0 else 1) = 0 then (J_Law_law_1445 v4 (b - 1) r60.2) else ((J_Law_law_1443 (b - 1) r60.2).map .inr)) else (J_Law_law_1445 v4 (b - 1) r60.2)) else ((J_Law_law_1426 (b - 1) r60.2).map .inr)))) else none)) else none) else none
def oz_br21 (v4 : Int) (b : Nat) (σ : ox_H) : Option (((Int × Nat × ox_H) ⊕ Int × ox_H)) := if 0 ≤ (ox_w (v4 + 1)) ∧ (ox_w (v4 + 1)).toNat < (σ 22 0 1 0).toNat then (if 0 ≤ (ox_w (v4 + 2)) ∧ (ox_w (v4 + 2)).toNat < (σ 22 0 1 0).toNat then (if 0 ≤ (ox_w (v4 + 3)) ∧ (ox_w (v4 + 3)).toNat < (σ 22 0 1 0).toNat then (if 0 ≤ (ox_w (v4 + 4)) ∧ (ox_w (v4 + 4)).toNat < (σ 22 0 1 0).toNat then (if 2 ≤ b then ((F_Law_cell (σ 22 0 0 ((ox_w (v4 + 1)).toNat)) (σ 22 0 0 ((ox_w (v4 + 2)).toNat)) (σ 22 0 0 ((ox_w (v4 + 3)).toNat)) (σ 22 0 0 ((ox_w (v4 + 4)).toNat)) σ).bind fun r62 => (if 0 ≤ (ox_w (v4 + 1)) ∧ (ox_w (v4 + 1)).toNat < (r62.2 22 0 1 0).toNat then (if 0 ≤ (ox_w (v4 + 2)) ∧ (ox_w (v4 + 2)).toNat < (r62.2 22 0 1 0).toNat then (if 0 ≤ (ox_w (v4 + 3)) ∧ (ox_w (v4 + 3)).toNat < (r62.2 22 0 1 0).toNat then (if 0 ≤ (ox_w (v4 + 4)) ∧ (ox_w (v4 + 4)).toNat < (r62.2 22 0 1 0).toNat then ((F_Mod_cell (r62.2 22 0 0 ((ox_w (v4 + 1)).toNat)) (r62.2 22 0 0 ((ox_w (v4 + 2)).toNat)) (r62.2 22 0 0 ((ox_w (v4 + 3)).toNat)) (r62.2 22 0 0 ((ox_w (v4 + 4)).toNat)) r62.2).bind fun r63 => ((F_Mod_thrown r63.2).bind fun r64 => (if r64 = r62.1 then (if r62.1 = 0 then (if (if (r63.2 21 0 0 0) < r63.1 then -1 else if (r63.2 21 0 0 0) = r63.1 then 0 else 1) = 0 then (J_Law_law_1537 v4 (b - 2) r63.2) else ((J_Law_law_1535 (b - 2) r63.2).map .inr)) else (J_Law_law_1537 v4 (b - 2) r63.2)) else ((J_Law_law_1518 (b - 2) r63.2).map .inr)))) else none) else none) else none) else none)) else none) else none) else none) else none) else none
def oz_br22 (v4 : Int) (b : Nat) (σ : ox_H) : Option (((Int × Nat × ox_H) ⊕ Int × ox_H)) := if 0 ≤ (ox_w (v4 + 1)) ∧ (ox_w (v4 + 1)).toNat < (σ 22 0 1 0).toNat then (if 1 ≤ b then ((F_Law_run (σ 22 0 0 ((ox_w (v4 + 1)).toNat)) σ).bind fun r65 => (if 0 ≤ (ox_w (v4 + 1)) ∧ (ox_w (v4 + 1)).toNat < (r65.2 22 0 1 0).toNat then ((F_Mod_run (r65.2 22 0 0 ((ox_w (v4 + 1)).toNat)) r65.2).bind fun r66 => ((F_Mod_thrown r66.2).bind fun r67 => (if r67 = r65.1 then (if r65.1 = 0 then (if (if (r66.2 21 0 0 0) < r66.1 then -1 else if (r66.2 21 0 0 0) = r66.1 then 0 else 1) = 0 then (J_Law_law_1593 v4 (b - 1) r66.2) else ((J_Law_law_1591 (b - 1) r66.2).map .inr)) else (J_Law_law_1593 v4 (b - 1) r66.2)) else ((J_Law_law_1574 (b - 1) r66.2).map .inr)))) else none)) else none) else none
def oz_br23 (v4 : Int) (b : Nat) (σ : ox_H) : Option (((Int × Nat × ox_H) ⊕ Int × ox_H)) := (F_Out_runs σ).bind fun r68 => ((F_Mod_runs σ).bind fun r69 => (if r68 = r69.1 then (J_Law_law_1771 v4 b r69.2) else ((J_Law_law_1607 b r69.2).map .inr)))
def oz_br24 (v4 : Int) (b : Nat) (σ : ox_H) : Option (((Int × Nat × ox_H) ⊕ Int × ox_H)) := if 0 ≤ (ox_w (v4 + 1)) ∧ (ox_w (v4 + 1)).toNat < (σ 22 0 1 0).toNat then (if 0 ≤ (ox_w (v4 + 2)) ∧ (ox_w (v4 + 2)).toNat < (σ 22 0 1 0).toNat then (if 2 ≤ b then ((F_Law_link (σ 22 0 0 ((ox_w (v4 + 1)).toNat)) (σ 22 0 0 ((ox_w (v4 + 2)).toNat)) σ).bind fun r70 => (if 0 ≤ (ox_w (v4 + 1)) ∧ (ox_w (v4 + 1)).toNat < (r70.2 22 0 1 0).toNat then (if 0 ≤ (ox_w (v4 + 2)) ∧ (ox_w (v4 + 2)).toNat < (r70.2 22 0 1 0).toNat then ((F_Mod_link (r70.2 22 0 0 ((ox_w (v4 + 1)).toNat)) (r70.2 22 0 0 ((ox_w (v4 + 2)).toNat)) r70.2).bind fun r71 => ((F_Mod_thrown r71.2).bind fun r72 => (if r72 = r70.1 then (if r70.1 = 0 then (if (if (r71.2 21 0 0 0) < r71.1 then -1 else if (r71.2 21 0 0 0) = r71.1 then 0 else 1) = 0 then (J_Law_law_1674 v4 (b - 2) r71.2) else ((J_Law_law_1672 (b - 2) r71.2).map .inr)) else (J_Law_law_1674 v4 (b - 2) r71.2)) else ((J_Law_law_1655 (b - 2) r71.2).map .inr)))) else none) else none)) else none) else none) else none
def oz_br25 (v4 : Int) (b : Nat) (σ : ox_H) : Option (((Int × Nat × ox_H) ⊕ Int × ox_H)) := if 1 ≤ b then ((F_Out_renumber σ).bind fun r73 => ((F_Mod_renumber r73.2).bind fun r74 => (if r73.1 = r74.1 then (J_Law_law_1771 v4 (b - 1) r74.2) else ((J_Law_law_1688 (b - 1) r74.2).map .inr)))) else none
def oz_br26 (v4 : Int) (b : Nat) (σ : ox_H) : Option (((Int × Nat × ox_H) ⊕ Int × ox_H)) := (F_Out_exported σ).bind fun r75 => ((F_Mod_exported r75.2).bind fun r76 => (if r75.1 = r76.1 then (J_Law_law_1771 v4 b r76.2) else ((J_Law_law_1701 b r76.2).map .inr)))
def oz_br27 (v4 : Int) (b : Nat) (σ : ox_H) : Option (((Int × Nat × ox_H) ⊕ Int × ox_H)) := if 0 ≤ (ox_w (v4 + 1)) ∧ (ox_w (v4 + 1)).toNat < (σ 22 0 1 0).toNat then (if 0 ≤ (ox_w (v4 + 2)) ∧ (ox_w (v4 + 2)).toNat < (σ 22 0 1 0).toNat then (if 2 ≤ b then ((F_Law_exportedAt (σ 22 0 0 ((ox_w (v4 + 1)).toNat)) (σ 22 0 0 ((ox_w (v4 + 2)).toNat)) σ).bind fun r77 => (if 0 ≤ (ox_w (v4 + 1)) ∧ (ox_w (v4 + 1)).toNat < (r77.2 22 0 1 0).toNat then (if 0 ≤ (ox_w (v4 + 2)) ∧ (ox_w (v4 + 2)).toNat < (r77.2 22 0 1 0).toNat then ((F_Mod_exportedAt (r77.2 22 0 0 ((ox_w (v4 + 1)).toNat)) (r77.2 22 0 0 ((ox_w (v4 + 2)).toNat)) r77.2).bind fun r78 => ((F_Mod_thrown r78.2).bind fun r79 => (if r79 = r77.1 then (if r77.1 = 0 then (if (if (r78.2 21 0 0 0) < r78.1 then -1 else if (r78.2 21 0 0 0) = r78.1 then 0 else 1) = 0 then (J_Law_law_1768 v4 (b - 2) r78.2) else ((J_Law_law_1766 (b - 2) r78.2).map .inr)) else (J_Law_law_1768 v4 (b - 2) r78.2)) else ((J_Law_law_1749 (b - 2) r78.2).map .inr)))) else none) else none)) else none) else none) else none
def oz_sel (a : Int) (v4 : Int) (b : Nat) (σ : ox_H) : Option (((Int × Nat × ox_H) ⊕ Int × ox_H)) := if a = ((0 : Nat) : Int) then oz_br0 v4 b σ else if a = ((1 : Nat) : Int) then oz_br1 v4 b σ else if a = ((2 : Nat) : Int) then oz_br2 v4 b σ else if a = ((3 : Nat) : Int) then oz_br3 v4 b σ else if a = ((4 : Nat) : Int) then oz_br4 v4 b σ else if a = ((5 : Nat) : Int) then oz_br5 v4 b σ else if a = ((6 : Nat) : Int) then oz_br6 v4 b σ else if a = ((7 : Nat) : Int) then oz_br7 v4 b σ else if a = ((8 : Nat) : Int) then oz_br8 v4 b σ else if a = ((9 : Nat) : Int) then oz_br9 v4 b σ else if a = ((10 : Nat) : Int) then oz_br10 v4 b σ else if a = ((11 : Nat) : Int) then oz_br11 v4 b σ else if a = ((12 : Nat) : Int) then oz_br12 v4 b σ else if a = ((13 : Nat) : Int) then oz_br13 v4 b σ else if a = ((14 : Nat) : Int) then oz_br14 v4 b σ else if a = ((15 : Nat) : Int) then oz_br15 v4 b σ else if a = ((16 : Nat) : Int) then oz_br16 v4 b σ else if a = ((17 : Nat) : Int) then oz_br17 v4 b σ else if a = ((18 : Nat) : Int) then oz_br18 v4 b σ else if a = ((19 : Nat) : Int) then oz_br19 v4 b σ else if a = ((20 : Nat) : Int) then oz_br20 v4 b σ else if a = ((21 : Nat) : Int) then oz_br21 v4 b σ else if a = ((22 : Nat) : Int) then oz_br22 v4 b σ else if a = ((23 : Nat) : Int) then oz_br23 v4 b σ else if a = ((24 : Nat) : Int) then oz_br24 v4 b σ else if a = ((25 : Nat) : Int) then oz_br25 v4 b σ else if a = ((26 : Nat) : Int) then oz_br26 v4 b σ else if a = ((27 : Nat) : Int) then oz_br27 v4 b σ else J_Law_law_1771 v4 b σ
theorem oz_B (v4 : Int) (b : Nat) (σ : ox_H) : B_Law_law_23 (v4, b, σ) = if (ox_w (((σ 22 0 1 0).toNat : Nat) - 5)) < v4 then ((J_Law_law_1777 b σ).map .inr) else (if 0 ≤ v4 ∧ v4.toNat < (σ 22 0 1 0).toNat then oz_sel (ox_and (σ 22 0 0 v4.toNat) 31) v4 b σ else none) := rfl
/-- the script -/
def oy_Ss (L : Nat) (xs : Nat → Int32) (σ : ox_H) : Prop := σ 22 0 1 0 = (L : Int) ∧ ∀ i, σ 22 0 0 i = (xs i).toInt
/-- after N calls -/
def oy_Rx (L : Nat) (xs : Nat → Int32) (N : Nat) (σ : ox_H) : Prop := (∃ T A d n K, oy_ok T ∧ (0 ≤ d ∧ d ≤ 9999) ∧ (0 ≤ n ∧ n ≤ 9999) ∧ oy_Cc T A d n K N σ ∧ oy_Rr T A d n K N σ) ∧ oy_Ss L xs σ
/-- a branch of the law goes on -/
def oz_Ok (L : Nat) (xs : Nat → Int32) (N p b : Nat) (X : Option (((Int × Nat × ox_H) ⊕ Int × ox_H))) : Prop := ∃ b' σ', X = some (.inl (((p + 5 : Nat) : Int), b', σ')) ∧ b ≤ b' + 6 ∧ oy_Rx L xs (N + 1) σ'
/-- a call of the class in the law -/
def oy_Lw (r : Nat ⊕ Int) (a b c : Nat) (X : Option (Int × ox_H)) (τ : ox_H) : Prop := ∃ τ', X = some (oy_cx a b c r, τ') ∧ oy_fs (fun c _ _ _ => c = 21) τ τ' ∧ ∀ v, r = .inr v → τ' 21 0 0 0 = v
theorem oy_cx_0 {a b c : Nat} {r : Nat ⊕ Int} (h : oy_cx a b c r = 0) : ∃ v, r = .inr v := by
  cases r with
  | inr v => exact ⟨v, rfl⟩
  | inl e =>
    exfalso
    unfold oy_cx at h
    dsimp only at h
    split at h
    · omega
    · split at h
      · omega
      · split at h <;> omega
section OYO4
variable {L N p : Nat} {xs : Nat → Int32} {σ τ τ' σ2 : ox_H} {T : oy_T} {A : oy_A} {d n : Int} {K : oy_K}
theorem oy_Ss.rg (h : oy_Ss L xs σ) {i : Nat} : -2147483648 ≤ σ 22 0 0 i ∧ σ 22 0 0 i ≤ 2147483647 := by
  have := ox_toInt_in (xs i)
  rw [h.2 i]
  unfold ox_i32 at this
  omega
theorem oy_Ss.fs {S : Nat → Nat → Nat → Nat → Prop} (h : oy_Ss L xs σ) (hf : oy_fs S σ τ) (hS : ∀ k j i, ¬ S 22 k j i) : oy_Ss L xs τ := ⟨(hf _ _ _ _ (hS _ _ _)).trans h.1, fun i => (hf _ _ _ _ (hS _ _ _)).trans (h.2 i)⟩
theorem oy_Ss.at (h : oy_Ss L xs σ) (h' : oy_Ss L xs τ) (i : Nat) : τ 22 0 0 i = σ 22 0 0 i := (h'.2 i).trans (h.2 i).symm
theorem oy_Ss.c (h : oy_Ss L xs σ) {q : Nat} (hq : p + q < L) (hL : L ≤ 2560) : 0 ≤ ox_w ((p : Int) + (q : Int)) ∧ (ox_w ((p : Int) + (q : Int))).toNat < (σ 22 0 1 0).toNat := by
  rw [h.1, oy_w (by omega) (by omega)]
  omega
theorem oy_s10_fs (f : oy_fr oy_s10 σ τ) : oy_fs (fun c _ _ _ => c = 10) σ τ := fun c k j i h => f c k j i (by
  unfold oy_s10
  exact beq_eq_false_iff_ne.mpr h)
/-- the reference and the script ahead of the reference's call -/
theorem oz_mid (hr : oy_Rr T A d n K N σ) (hs : oy_Ss L xs σ) (f1 : oy_fs oy_lt σ τ) (f2 : oy_fs (fun c _ _ _ => c = 21) τ τ') : oy_Rr T A d n K N τ' ∧ oy_Ss L xs τ' := by
  have f1' : oy_fs (fun c _ _ _ => c ≠ 10) σ τ := f1.mono (fun c k j i z => by unfold oy_lt at z; omega)
  have f2' : oy_fs (fun c _ _ _ => c ≠ 10) τ τ' := f2.mono (fun c k j i z => by omega)
  exact ⟨hr.cg (f1'.tr f2'), (hs.fs f1 (fun k j i z => by unfold oy_lt at z; omega)).fs f2 (fun k j i z => by omega)⟩
/-- behind both calls -/
theorem oz_end (hT : oy_ok T) (hd : 0 ≤ d ∧ d ≤ 9999) (hn : 0 ≤ n ∧ n ≤ 9999) (C1 : oy_Cc T A d n K N τ) (f2 : oy_fs (fun c _ _ _ => c = 21) τ τ') (f3 : oy_fr oy_s10 τ' σ2) (R3 : oy_Rr T A d n K N σ2) (s2 : oy_Ss L xs τ') : oy_Rx L xs N σ2 := by
  have f3' := oy_s10_fs f3
  exact ⟨⟨T, A, d, n, K, hT, hd, hn, (C1.cg (f2.mono (fun c k j i z => by omega))).cg (f3'.mono (fun c k j i z => by omega)), R3⟩, s2.fs f3' (fun k j i z => by omega)⟩
theorem oz_h2 {a b c : Nat} {r : Nat ⊕ Int} {y : Int} (f3 : oy_fr oy_s10 τ' σ2) (v2 : ∀ v, r = .inr v → τ' 21 0 0 0 = v) (w3 : ∀ v, r = .inr v → y = v) (h : oy_cx a b c r = 0) : σ2 21 0 0 0 = y := by
  obtain ⟨v, hv⟩ := oy_cx_0 h
  rw [f3 21 0 0 0 rfl, v2 v hv, w3 v hv]
theorem oz_fin {α : Type} {y c : Int} {ok b1 b2 : Option α} (h1 : σ2 10 0 46 0 = c) (h2 : c = 0 → σ2 21 0 0 0 = y) : ((F_Mod_thrown σ2).bind fun r12 => (if r12 = c then (if c = 0 then (if (if (σ2 21 0 0 0) < y then (-1 : Int) else if (σ2 21 0 0 0) = y then 0 else 1) = 0 then ok else b1) else ok) else b2)) = ok := by
  unfold F_Mod_thrown
  rw [Option.bind_some, if_pos h1]
  by_cases q : c = 0
  · have e := h2 q
    have e1 : (if (σ2 21 0 0 0) < y then (-1 : Int) else if (σ2 21 0 0 0) = y then 0 else 1) = 0 := by rw [if_neg (by omega), if_pos e]
    rw [if_pos q, if_pos e1]
  · rw [if_neg q]
theorem oz_e1 {c : Prop} [Decidable c] {v : Int} : ∀ e, (if c then .inr v else .inl 1 : Nat ⊕ Int) = .inl e → e = 1 := by
  intro e h
  split at h
  · cases h
  · exact (Sum.inl.inj h).symm
theorem oz_e12 {c c' : Prop} [Decidable c] [Decidable c'] {v : Int} : ∀ e, (if c then (if c' then .inr v else .inl 2) else .inl 1 : Nat ⊕ Int) = .inl e → e = 1 ∨ e = 2 := by
  intro e h
  split at h
  · split at h
    · cases h
    · exact Or.inr (Sum.inl.inj h).symm
  · exact Or.inl (Sum.inl.inj h).symm
/-- numbers as the sheet's -/
theorem oz_fin_ex (hT : oy_ok T) (h : oy_Cc T A d n K N σ) : ∃ f, oy_fin T f := by
  obtain ⟨σ1, _, _, q1, _⟩ := oy_cs_ask2 hT h.1
  exact oy_fin_ex hT q1
theorem ol_line {a1 : Int} {r : Nat ⊕ Int} (e : F_Out_line a1 σ = some (r, τ)) (hr : ∀ e, r = .inl e → e = 1 ∨ e = 3) : oy_Lw r 1 3 0 (F_Law_line a1 σ) τ := by
  unfold F_Law_line
  rw [e, Option.bind_some]
  cases r with
  | inl x =>
    rcases hr x rfl with z | z
    · rw [z]
      exact ⟨τ, rfl, oy_fs.rf, fun v y => by cases y⟩
    · rw [z]
      exact ⟨τ, rfl, oy_fs.rf, fun v y => by cases y⟩
  | inr x => exact ⟨ox_up τ 21 0 0 0 x, rfl, oy_fs.rf.up rfl, fun v y => oy_up_same.trans (Sum.inr.inj y)⟩
theorem ol_sign {a1 a2 : Int} {r : Nat ⊕ Int} (e : F_Out_sign a1 a2 σ = some (r, τ)) (hr : ∀ e, r = .inl e → e = 1 ∨ e = 2 ∨ e = 3) : oy_Lw r 1 2 3 (F_Law_sign a1 a2 σ) τ := by
  unfold F_Law_sign
  rw [e, Option.bind_some]
  cases r with
  | inl x =>
    rcases hr x rfl with z | z | z
    · rw [z]
      exact ⟨τ, rfl, oy_fs.rf, fun v y => by cases y⟩
    · rw [z]
      exact ⟨τ, rfl, oy_fs.rf, fun v y => by cases y⟩
    · rw [z]
      exact ⟨τ, rfl, oy_fs.rf, fun v y => by cases y⟩
  | inr x => exact ⟨ox_up τ 21 0 0 0 x, rfl, oy_fs.rf.up rfl, fun v y => oy_up_same.trans (Sum.inr.inj y)⟩
theorem ol_rub {a1 : Int} {r : Nat ⊕ Int} (e : F_Out_rub a1 σ = some (r, τ)) (hr : ∀ e, r = .inl e → e = 1) : oy_Lw r 1 0 0 (F_Law_rub a1 σ) τ := by
  unfold F_Law_rub
  rw [e, Option.bind_some]
  cases r with
  | inl x =>
    have z := hr x rfl
    rw [z]
    exact ⟨τ, rfl, oy_fs.rf, fun v y => by cases y⟩
  | inr x => exact ⟨ox_up τ 21 0 0 0 x, rfl, oy_fs.rf.up rfl, fun v y => oy_up_same.trans (Sum.inr.inj y)⟩
theorem ol_signAt {a1 a2 : Int} {r : Nat ⊕ Int} (e : F_Out_signAt a1 a2 σ = some r) (hr : ∀ e, r = .inl e → e = 1) : oy_Lw r 1 0 0 (F_Law_signAt a1 a2 σ) σ := by
  unfold F_Law_signAt
  rw [e, Option.bind_some]
  cases r with
  | inl x =>
    have z := hr x rfl
    rw [z]
    exact ⟨σ, rfl, oy_fs.rf, fun v y => by cases y⟩
  | inr x => exact ⟨ox_up σ 21 0 0 0 x, rfl, oy_fs.rf.up rfl, fun v y => oy_up_same.trans (Sum.inr.inj y)⟩
theorem ol_kind {a1 : Int} {r : Nat ⊕ Int} (e : F_Out_kind a1 σ = some (r, τ)) (hr : ∀ e, r = .inl e → e = 1) : oy_Lw r 1 0 0 (F_Law_kind a1 σ) τ := by
  unfold F_Law_kind
  rw [e, Option.bind_some]
  cases r with
  | inl x =>
    have z := hr x rfl
    rw [z]
    exact ⟨τ, rfl, oy_fs.rf, fun v y => by cases y⟩
  | inr x => exact ⟨ox_up τ 21 0 0 0 x, rfl, oy_fs.rf.up rfl, fun v y => oy_up_same.trans (Sum.inr.inj y)⟩
theorem ol_entry {a1 a2 : Int} {r : Nat ⊕ Int} (e : F_Out_entry a1 a2 σ = some (r, τ)) (hr : ∀ e, r = .inl e → e = 1 ∨ e = 2) : oy_Lw r 1 2 0 (F_Law_entry a1 a2 σ) τ := by
  unfold F_Law_entry
  rw [e, Option.bind_some]
  cases r with
  | inl x =>
    rcases hr x rfl with z | z
    · rw [z]
      exact ⟨τ, rfl, oy_fs.rf, fun v y => by cases y⟩
    · rw [z]
      exact ⟨τ, rfl, oy_fs.rf, fun v y => by cases y⟩
  | inr x => exact ⟨ox_up τ 21 0 0 0 x, rfl, oy_fs.rf.up rfl, fun v y => oy_up_same.trans (Sum.inr.inj y)⟩
theorem ol_property {a1 a2 a3 : Int} {r : Nat ⊕ Int} (e : F_Out_property a1 a2 a3 σ = some (r, τ)) (hr : ∀ e, r = .inl e → e = 1 ∨ e = 2) : oy_Lw r 1 2 0 (F_Law_property a1 a2 a3 σ) τ := by
  unfold F_Law_property
  rw [e, Option.bind_some]
  cases r with
  | inl x =>
    rcases hr x rfl with z | z
    · rw [z]
      exact ⟨τ, rfl, oy_fs.rf, fun v y => by cases y⟩
    · rw [z]
      exact ⟨τ, rfl, oy_fs.rf, fun v y => by cases y⟩
  | inr x => exact ⟨ox_up τ 21 0 0 0 x, rfl, oy_fs.rf.up rfl, fun v y => oy_up_same.trans (Sum.inr.inj y)⟩
theorem ol_shift {a1 a2 : Int} {r : Nat ⊕ Int} (e : F_Out_shift a1 a2 σ = some (r, τ)) (hr : ∀ e, r = .inl e → e = 1 ∨ e = 3) : oy_Lw r 1 3 0 (F_Law_shift a1 a2 σ) τ := by
  unfold F_Law_shift
  rw [e, Option.bind_some]
  cases r with
  | inl x =>
    rcases hr x rfl with z | z
    · rw [z]
      exact ⟨τ, rfl, oy_fs.rf, fun v y => by cases y⟩
    · rw [z]
      exact ⟨τ, rfl, oy_fs.rf, fun v y => by cases y⟩
  | inr x => exact ⟨ox_up τ 21 0 0 0 x, rfl, oy_fs.rf.up rfl, fun v y => oy_up_same.trans (Sum.inr.inj y)⟩
theorem ol_refile {a1 a2 a3 : Int} {r : Nat ⊕ Int} (e : F_Out_refile a1 a2 a3 σ = some (r, τ)) (hr : ∀ e, r = .inl e → e = 1 ∨ e = 3) : oy_Lw r 1 3 0 (F_Law_refile a1 a2 a3 σ) τ := by
  unfold F_Law_refile
  rw [e, Option.bind_some]
  cases r with
  | inl x =>
    rcases hr x rfl with z | z
    · rw [z]
      exact ⟨τ, rfl, oy_fs.rf, fun v y => by cases y⟩
    · rw [z]
      exact ⟨τ, rfl, oy_fs.rf, fun v y => by cases y⟩
  | inr x => exact ⟨ox_up τ 21 0 0 0 x, rfl, oy_fs.rf.up rfl, fun v y => oy_up_same.trans (Sum.inr.inj y)⟩
theorem ol_state {a1 a2 : Int} {r : Nat ⊕ Int} (e : F_Out_state a1 a2 σ = some (r, τ)) (hr : ∀ e, r = .inl e → e = 1 ∨ e = 2 ∨ e = 3) : oy_Lw r 1 2 3 (F_Law_state a1 a2 σ) τ := by
  unfold F_Law_state
  rw [e, Option.bind_some]
  cases r with
  | inl x =>
    rcases hr x rfl with z | z | z
    · rw [z]
      exact ⟨τ, rfl, oy_fs.rf, fun v y => by cases y⟩
    · rw [z]
      exact ⟨τ, rfl, oy_fs.rf, fun v y => by cases y⟩
    · rw [z]
      exact ⟨τ, rfl, oy_fs.rf, fun v y => by cases y⟩
  | inr x => exact ⟨ox_up τ 21 0 0 0 x, rfl, oy_fs.rf.up rfl, fun v y => oy_up_same.trans (Sum.inr.inj y)⟩
theorem ol_capture {a1 a2 : Int} {r : Nat ⊕ Int} (e : F_Out_capture a1 a2 σ = some (r, τ)) (hr : ∀ e, r = .inl e → e = 2 ∨ e = 3) : oy_Lw r 2 3 0 (F_Law_capture a1 a2 σ) τ := by
  unfold F_Law_capture
  rw [e, Option.bind_some]
  cases r with
  | inl x =>
    rcases hr x rfl with z | z
    · rw [z]
      exact ⟨τ, rfl, oy_fs.rf, fun v y => by cases y⟩
    · rw [z]
      exact ⟨τ, rfl, oy_fs.rf, fun v y => by cases y⟩
  | inr x => exact ⟨ox_up τ 21 0 0 0 x, rfl, oy_fs.rf.up rfl, fun v y => oy_up_same.trans (Sum.inr.inj y)⟩
theorem ol_archive {a1 : Int} {r : Nat ⊕ Int} (e : F_Out_archive a1 σ = some (r, τ)) (hr : ∀ e, r = .inl e → e = 1 ∨ e = 3) : oy_Lw r 1 3 0 (F_Law_archive a1 σ) τ := by
  unfold F_Law_archive
  rw [e, Option.bind_some]
  cases r with
  | inl x =>
    rcases hr x rfl with z | z
    · rw [z]
      exact ⟨τ, rfl, oy_fs.rf, fun v y => by cases y⟩
    · rw [z]
      exact ⟨τ, rfl, oy_fs.rf, fun v y => by cases y⟩
  | inr x => exact ⟨ox_up τ 21 0 0 0 x, rfl, oy_fs.rf.up rfl, fun v y => oy_up_same.trans (Sum.inr.inj y)⟩
theorem ol_bringBack {r : Nat ⊕ Int} (e : F_Out_bringBack σ = some (r, τ)) (hr : ∀ e, r = .inl e → e = 3) : oy_Lw r 3 0 0 (F_Law_bringBack σ) τ := by
  unfold F_Law_bringBack
  rw [e, Option.bind_some]
  cases r with
  | inl x =>
    have z := hr x rfl
    rw [z]
    exact ⟨τ, rfl, oy_fs.rf, fun v y => by cases y⟩
  | inr x => exact ⟨ox_up τ 21 0 0 0 x, rfl, oy_fs.rf.up rfl, fun v y => oy_up_same.trans (Sum.inr.inj y)⟩
theorem ol_today {a1 : Int} {r : Nat ⊕ Int} (e : F_Out_today a1 σ = some (r, τ)) (hr : ∀ e, r = .inl e → e = 2) : oy_Lw r 2 0 0 (F_Law_today a1 σ) τ := by
  unfold F_Law_today
  rw [e, Option.bind_some]
  cases r with
  | inl x =>
    have z := hr x rfl
    rw [z]
    exact ⟨τ, rfl, oy_fs.rf, fun v y => by cases y⟩
  | inr x => exact ⟨ox_up τ 21 0 0 0 x, rfl, oy_fs.rf.up rfl, fun v y => oy_up_same.trans (Sum.inr.inj y)⟩
theorem ol_agenda {a1 a2 a3 a4 : Int} {r : Nat ⊕ Int} (e : F_Out_agenda a1 a2 a3 a4 σ = some (r, τ)) (hr : ∀ e, r = .inl e → e = 1 ∨ e = 2) : oy_Lw r 1 2 0 (F_Law_agenda a1 a2 a3 a4 σ) τ := by
  unfold F_Law_agenda
  rw [e, Option.bind_some]
  cases r with
  | inl x =>
    rcases hr x rfl with z | z
    · rw [z]
      exact ⟨τ, rfl, oy_fs.rf, fun v y => by cases y⟩
    · rw [z]
      exact ⟨τ, rfl, oy_fs.rf, fun v y => by cases y⟩
  | inr x => exact ⟨ox_up τ 21 0 0 0 x, rfl, oy_fs.rf.up rfl, fun v y => oy_up_same.trans (Sum.inr.inj y)⟩
theorem ol_pass {a1 : Int} {r : Nat ⊕ Int} (e : F_Out_pass a1 σ = some (r, τ)) (hr : ∀ e, r = .inl e → e = 2 ∨ e = 3) : oy_Lw r 2 3 0 (F_Law_pass a1 σ) τ := by
  unfold F_Law_pass
  rw [e, Option.bind_some]
  cases r with
  | inl x =>
    rcases hr x rfl with z | z
    · rw [z]
      exact ⟨τ, rfl, oy_fs.rf, fun v y => by cases y⟩
    · rw [z]
      exact ⟨τ, rfl, oy_fs.rf, fun v y => by cases y⟩
  | inr x => exact ⟨ox_up τ 21 0 0 0 x, rfl, oy_fs.rf.up rfl, fun v y => oy_up_same.trans (Sum.inr.inj y)⟩
theorem ol_clockIn {a1 : Int} {r : Nat ⊕ Int} (e : F_Out_clockIn a1 σ = some (r, τ)) (hr : ∀ e, r = .inl e → e = 1 ∨ e = 3) : oy_Lw r 1 3 0 (F_Law_clockIn a1 σ) τ := by
  unfold F_Law_clockIn
  rw [e, Option.bind_some]
  cases r with
  | inl x =>
    rcases hr x rfl with z | z
    · rw [z]
      exact ⟨τ, rfl, oy_fs.rf, fun v y => by cases y⟩
    · rw [z]
      exact ⟨τ, rfl, oy_fs.rf, fun v y => by cases y⟩
  | inr x => exact ⟨ox_up τ 21 0 0 0 x, rfl, oy_fs.rf.up rfl, fun v y => oy_up_same.trans (Sum.inr.inj y)⟩
theorem ol_clockOut {a1 : Int} {r : Nat ⊕ Int} (e : F_Out_clockOut a1 σ = some (r, τ)) (hr : ∀ e, r = .inl e → e = 2) : oy_Lw r 2 0 0 (F_Law_clockOut a1 σ) τ := by
  unfold F_Law_clockOut
  rw [e, Option.bind_some]
  cases r with
  | inl x =>
    have z := hr x rfl
    rw [z]
    exact ⟨τ, rfl, oy_fs.rf, fun v y => by cases y⟩
  | inr x => exact ⟨ox_up τ 21 0 0 0 x, rfl, oy_fs.rf.up rfl, fun v y => oy_up_same.trans (Sum.inr.inj y)⟩
theorem ol_clocked {a1 : Int} {r : Nat ⊕ Int} (e : F_Out_clocked a1 σ = some (r, τ)) (hr : ∀ e, r = .inl e → e = 1) : oy_Lw r 1 0 0 (F_Law_clocked a1 σ) τ := by
  unfold F_Law_clocked
  rw [e, Option.bind_some]
  cases r with
  | inl x =>
    have z := hr x rfl
    rw [z]
    exact ⟨τ, rfl, oy_fs.rf, fun v y => by cases y⟩
  | inr x => exact ⟨ox_up τ 21 0 0 0 x, rfl, oy_fs.rf.up rfl, fun v y => oy_up_same.trans (Sum.inr.inj y)⟩
theorem ol_cell {a1 a2 a3 a4 : Int} {r : Nat ⊕ Int} (e : F_Out_cell a1 a2 a3 a4 σ = some (r, τ)) (hr : ∀ e, r = .inl e → e = 1) : oy_Lw r 1 0 0 (F_Law_cell a1 a2 a3 a4 σ) τ := by
  unfold F_Law_cell
  rw [e, Option.bind_some]
  cases r with
  | inl x =>
    have z := hr x rfl
    rw [z]
    exact ⟨τ, rfl, oy_fs.rf, fun v y => by cases y⟩
  | inr x => exact ⟨ox_up τ 21 0 0 0 x, rfl, oy_fs.rf.up rfl, fun v y => oy_up_same.trans (Sum.inr.inj y)⟩
theorem ol_run {a1 : Int} {r : Nat ⊕ Int} (e : F_Out_run a1 σ = some (r, τ)) (hr : ∀ e, r = .inl e → e = 2) : oy_Lw r 2 0 0 (F_Law_run a1 σ) τ := by
  unfold F_Law_run
  rw [e, Option.bind_some]
  cases r with
  | inl x =>
    have z := hr x rfl
    rw [z]
    exact ⟨τ, rfl, oy_fs.rf, fun v y => by cases y⟩
  | inr x => exact ⟨ox_up τ 21 0 0 0 x, rfl, oy_fs.rf.up rfl, fun v y => oy_up_same.trans (Sum.inr.inj y)⟩
theorem ol_link {a1 a2 : Int} {r : Nat ⊕ Int} (e : F_Out_link a1 a2 σ = some (r, τ)) (hr : ∀ e, r = .inl e → e = 1) : oy_Lw r 1 0 0 (F_Law_link a1 a2 σ) τ := by
  unfold F_Law_link
  rw [e, Option.bind_some]
  cases r with
  | inl x =>
    have z := hr x rfl
    rw [z]
    exact ⟨τ, rfl, oy_fs.rf, fun v y => by cases y⟩
  | inr x => exact ⟨ox_up τ 21 0 0 0 x, rfl, oy_fs.rf.up rfl, fun v y => oy_up_same.trans (Sum.inr.inj y)⟩
theorem ol_exportedAt {a1 a2 : Int} {r : Nat ⊕ Int} (e : F_Out_exportedAt a1 a2 σ = some (r, τ)) (hr : ∀ e, r = .inl e → e = 1) : oy_Lw r 1 0 0 (F_Law_exportedAt a1 a2 σ) τ := by
  unfold F_Law_exportedAt
  rw [e, Option.bind_some]
  cases r with
  | inl x =>
    have z := hr x rfl
    rw [z]
    exact ⟨τ, rfl, oy_fs.rf, fun v y => by cases y⟩
  | inr x => exact ⟨ox_up τ 21 0 0 0 x, rfl, oy_fs.rf.up rfl, fun v y => oy_up_same.trans (Sum.inr.inj y)⟩
end OYO4
