/-! ===== the class reads: properties, dates, clocks, includes ===== -/
def oy_tk (S : Nat → Nat → Nat → Nat → Prop) (w : List Int) (σ : ox_H) (X : Option (Int × ox_H)) (ok : Prop) (P : ox_H → Prop) : Prop := ∃ r τ, X = some (r, τ) ∧ oy_fs S σ τ ∧ ((r ≠ 0 ∧ τ 3 0 5 0 = w.length) ↔ ok) ∧ (ok → P τ)
theorem oy_tk_no {S : Nat → Nat → Nat → Nat → Prop} {w : List Int} {σ τ : ox_H} {X : Option (Int × ox_H)} {ok : Prop} {P : ox_H → Prop} (h : X = some (0, τ)) (hf : oy_fs S σ τ) (hn : ¬ ok) : oy_tk S w σ X ok P := ⟨0, τ, h, hf, ⟨fun q => absurd rfl q.1, fun q => absurd q hn⟩, fun q => absurd q hn⟩
theorem oy_tk_yes {S : Nat → Nat → Nat → Nat → Prop} (hS : S 3 0 5 0) {w : List Int} {a : Nat} {σ τ : ox_H} {X : Option (Int × ox_H)} {ok : Prop} {P : ox_H → Prop} (h : X = some (1, oy_pl τ a)) (hf : oy_fs S σ τ) (hi : a = w.length ↔ ok) (hp : ok → P (oy_pl τ a)) : oy_tk S w σ X ok P := ⟨1, _, h, hf.up hS, ⟨fun q => hi.mp (by have := q.2; rw [oy_pl_get] at this; omega), fun q => ⟨by decide, by rw [oy_pl_get, hi.mpr q]⟩⟩, hp⟩
theorem oy_its {c : Prop} [Decidable c] {α : Type} {x : α} : (if c then some x else none).isSome = true ↔ c := by
  by_cases h : c
  · rw [if_pos h]; exact ⟨fun _ => h, fun _ => rfl⟩
  · rw [if_neg h]; exact ⟨fun q => Bool.noConfusion q, fun q => absurd q h⟩
theorem sp_prop_iff {w : List Int} : (sp_prop w).isSome = true ↔ (oy_wk w 0 = 58 ∧ sp_lt (oy_wk w 1) ∧ oy_wk w 2 = 58 ∧ 0 ≤ (sp_nu w 3).2 ∧ (sp_nu w 3).1 = w.length) := oy_its
section OYC4
variable {w : List Int} {σ : ox_H}
theorem oy_pl_step {a b : Nat} (h : b = a + 1) (ha : a ≤ 1000) : ox_up (oy_pl σ a) 3 0 5 0 (ox_w ((oy_pl σ a) 3 0 5 0 + 1)) = oy_pl σ b := by rw [oy_pl_get, oy_w1 (by omega), oy_pl_up, h]
theorem oc_prop (hR : oy_R w σ) {k : Nat} (h0 : oy_wk w 0 = 58) : oy_tk (oy_s4 k) w σ (F_Rdr_takeProperty k (oy_pl σ 0)) ((sp_prop w).isSome = true) (fun τ => τ 4 k 1 0 = oy_wk w 1 - 97 ∧ τ 4 k 2 0 = (sp_nu w 3).2) := by
  unfold F_Rdr_takeProperty J_Rdr_takeProperty_37 J_Rdr_takeProperty_60
  rw [oy_pl_step (b := 1) rfl (by omega)]
  by_cases h1 : sp_lt (oy_wk w 1)
  rotate_left
  · rw [oc_le0 hR h1, Option.bind_some]
    dsimp only
    rw [if_pos oy_up_same]
    exact oy_tk_no rfl ((oy_plfs4 oy_fs.rf).up (oy_s44 (by decide))) (fun q => h1 (sp_prop_iff.mp q).2.1)
  have h11 := h1.1
  have hR1 : oy_R w (ox_up σ 4 k 1 0 (oy_wk w 1 - 97)) := oy_R_up hR rfl
  have F1 : oy_fs (oy_s4 k) σ (ox_up σ 4 k 1 0 (oy_wk w 1 - 97)) := oy_fs.rf.up (oy_s44 (by decide))
  rw [oc_le1 hR (b := 2) h1 rfl, Option.bind_some]
  dsimp only
  rw [if_neg (show ¬ (ox_up (oy_pl σ 2) 4 k 1 0 (oy_wk w 1 - 97)) 4 k 1 0 = -1 by rw [oy_up_same]; omega), oy_pl_com (by decide)]
  by_cases h2 : oy_wk w 2 = 58
  rotate_left
  · rw [oc_tk0 hR1 h2, Option.bind_some, if_pos rfl]
    exact oy_tk_no rfl (oy_plfs4 F1) (fun q => h2 (sp_prop_iff.mp q).2.2.1)
  rw [oc_tk1 hR1 (b := 3) (by decide) h2 rfl, Option.bind_some, if_neg oy_10, oc_number hR1 (by omega), Option.bind_some]
  dsimp only
  have hn := sp_nu_in w 3
  have hx : (ox_up (oy_pl (ox_up σ 4 k 1 0 (oy_wk w 1 - 97)) (sp_nu w 3).1) 4 k 2 0 (sp_nu w 3).2) 4 k 2 0 = (sp_nu w 3).2 := oy_up_same
  by_cases h3 : (sp_nu w 3).2 = -1
  · rw [if_pos (hx.trans h3), oy_pl_com (by decide)]
    exact oy_tk_no rfl (oy_plfs4 (F1.up (oy_s44 (by decide)))) (fun q => by have := (sp_prop_iff.mp q).2.2.2.1; omega)
  · rw [if_neg (fun q => h3 (hx.symm.trans q)), oy_pl_com (by decide)]
    refine oy_tk_yes oy_s43 rfl (F1.up (oy_s44 (by decide))) ⟨fun q => sp_prop_iff.mpr ⟨h0, h1, h2, by omega, q⟩, fun q => (sp_prop_iff.mp q).2.2.2.2⟩ (fun _ => ⟨?_, ?_⟩)
    · rw [oy_pl_ne (by decide), oy_up_ne (by decide)]
      exact oy_up_same
    · rw [oy_pl_ne (by decide)]
      exact oy_up_same
/-- an include's letter -/
theorem oc_incl (hR : oy_R w σ) {k : Nat} (h0 : oy_wk w 0 = 33) : oy_tk (oy_s4 k) w σ (F_Rdr_takeInclude k (oy_pl σ 0)) (w.length = 2 ∧ oy_wk w 0 = 33 ∧ sp_lt (oy_wk w 1)) (fun τ => τ 4 k 1 0 = oy_wk w 1 - 97) := by
  unfold F_Rdr_takeInclude J_Rdr_takeInclude_33
  rw [oy_pl_step (b := 1) rfl (by omega)]
  by_cases h1 : sp_lt (oy_wk w 1)
  rotate_left
  · rw [oc_le0 hR h1, Option.bind_some]
    dsimp only
    rw [if_pos oy_up_same]
    exact oy_tk_no rfl ((oy_plfs4 oy_fs.rf).up (oy_s44 (by decide))) (fun q => h1 q.2.2)
  have h11 := h1.1
  rw [oc_le1 hR (b := 2) h1 rfl, Option.bind_some]
  dsimp only
  rw [if_neg (show ¬ (ox_up (oy_pl σ 2) 4 k 1 0 (oy_wk w 1 - 97)) 4 k 1 0 = -1 by rw [oy_up_same]; omega), oy_pl_com (by decide)]
  refine oy_tk_yes oy_s43 rfl (oy_fs.rf.up (oy_s44 (by decide))) ⟨fun q => ⟨q.symm, h0, h1⟩, fun q => q.1.symm⟩ (fun _ => ?_)
  rw [oy_pl_ne (by decide)]
  exact oy_up_same
theorem oc_clock (hR : oy_R w σ) {k : Nat} (h0 : oy_wk w 0 = 37) (h4 : σ 4 k 4 0 = -1) : oy_tk (oy_s4 k) w σ (F_Rdr_takeClock k (oy_pl σ 0)) ((sp_clock w).isSome = true) (fun τ => ∀ v, sp_clock w = some v → τ 4 k 3 0 = v.1 ∧ τ 4 k 4 0 = v.2) := by
  have hn := sp_nu_in w 1
  have hn2 := sp_nu_in w ((sp_nu w 1).1 + 1)
  unfold F_Rdr_takeClock J_Rdr_takeClock_35 J_Rdr_takeClock_74
  rw [oy_pl_step (b := 1) rfl (by omega), oc_number hR (by omega), Option.bind_some]
  dsimp only
  have hR1 : oy_R w (ox_up σ 4 k 3 0 (sp_nu w 1).2) := oy_R_up hR rfl
  have F1 : oy_fs (oy_s4 k) σ (ox_up σ 4 k 3 0 (sp_nu w 1).2) := oy_fs.rf.up (oy_s44 (by decide))
  have hx : (ox_up (oy_pl σ (sp_nu w 1).1) 4 k 3 0 (sp_nu w 1).2) 4 k 3 0 = (sp_nu w 1).2 := oy_up_same
  by_cases h3 : (sp_nu w 1).2 = -1
  · rw [if_pos (hx.trans h3), oy_pl_com (by decide)]
    refine oy_tk_no rfl (oy_plfs4 F1) ?_
    unfold sp_clock
    rw [if_neg (fun q => by have := q.2.1; omega)]
    decide
  rw [if_neg (fun q => h3 (hx.symm.trans q)), oy_pl_com (by decide)]
  by_cases h5 : oy_wk w (sp_nu w 1).1 = 45
  rotate_left
  · rw [oc_tk0 hR1 h5, Option.bind_some, if_pos rfl]
    refine oy_tk_no rfl (oy_plfs4 F1) ?_
    unfold sp_clock
    rw [if_neg (fun q => h5 q.2.2)]
    decide
  rw [oc_tk1 hR1 (b := (sp_nu w 1).1 + 1) (by decide) h5 rfl, Option.bind_some, if_neg oy_10]
  dsimp only
  have hx2 : (oy_pl (ox_up σ 4 k 3 0 (sp_nu w 1).2) ((sp_nu w 1).1 + 1)) 3 0 5 0 = (((sp_nu w 1).1 + 1 : Nat) : Int) := oy_pl_get
  have hx3 : (oy_pl (ox_up σ 4 k 3 0 (sp_nu w 1).2) ((sp_nu w 1).1 + 1)) 3 0 4 0 = ((w.length : Nat) : Int) := (oy_pl_ne (by decide)).trans hR1.2.2.1
  have hc : sp_clock w = if (sp_nu w 1).1 + 1 = w.length then some ((sp_nu w 1).2, -1) else if (sp_c2 w).1 = w.length ∧ (sp_nu w 1).2 ≤ (sp_c2 w).2 then some ((sp_nu w 1).2, (sp_c2 w).2) else none := by
    unfold sp_clock
    rw [if_pos ⟨h0, by omega, h5⟩]
  by_cases h6 : (sp_nu w 1).1 + 1 = w.length
  · rw [if_pos h6] at hc
    rw [if_pos (hx2.trans ((congrArg Nat.cast h6).trans hx3.symm)), hc]
    refine oy_tk_yes oy_s43 rfl F1 ⟨fun _ => rfl, fun _ => h6⟩ (fun _ v hv => ?_)
    cases hv
    exact ⟨(oy_pl_ne (by decide)).trans oy_up_same, ((oy_pl_ne (by decide)).trans (oy_up_ne (by decide))).trans h4⟩
  rw [if_neg h6] at hc
  rw [if_neg (fun q => h6 (Int.ofNat.inj (hx2.symm.trans (q.trans hx3)))), oc_number hR1 (by omega), Option.bind_some]
  have e2 : sp_nu w ((sp_nu w 1).1 + 1) = sp_c2 w := rfl
  rw [e2] at hn2 ⊢
  dsimp only
  have hx4 : (ox_up (oy_pl (ox_up σ 4 k 3 0 (sp_nu w 1).2) (sp_c2 w).1) 4 k 4 0 (sp_c2 w).2) 4 k 4 0 = (sp_c2 w).2 := oy_up_same
  have hx5 : (oy_pl (ox_up σ 4 k 3 0 (sp_nu w 1).2) (sp_c2 w).1) 4 k 3 0 = (sp_nu w 1).2 := (oy_pl_ne (by decide)).trans oy_up_same
  have F2 : oy_fs (oy_s4 k) σ (ox_up (ox_up σ 4 k 3 0 (sp_nu w 1).2) 4 k 4 0 (sp_c2 w).2) := F1.up (oy_s44 (by decide))
  by_cases h7 : (sp_c2 w).2 < (sp_nu w 1).2
  · rw [if_neg (fun q => by have := q.2; omega)] at hc
    rw [if_pos (by rw [hx4, hx5]; exact h7), oy_pl_com (by decide), hc]
    exact oy_tk_no rfl (oy_plfs4 F2) (by decide)
  rw [if_neg (by rw [hx4, hx5]; exact h7), oy_pl_com (by decide)]
  by_cases h8 : (sp_c2 w).1 = w.length
  · rw [if_pos ⟨h8, by omega⟩] at hc
    rw [hc]
    refine oy_tk_yes oy_s43 rfl F2 ⟨fun _ => rfl, fun _ => h8⟩ (fun _ v hv => ?_)
    cases hv
    exact ⟨((oy_pl_ne (by decide)).trans (oy_up_ne (by decide))).trans oy_up_same, (oy_pl_ne (by decide)).trans oy_up_same⟩
  · rw [if_neg (fun q => h8 q.1)] at hc
    rw [hc]
    exact oy_tk_yes oy_s43 rfl F2 ⟨fun q => absurd q h8, fun q => absurd q (by decide)⟩ (fun q => absurd q (by decide))
theorem oc_d118 {k : Nat} {τ : ox_H} : J_Rdr_takeDate_118 k τ = some (if τ 4 k 5 0 ≤ 0 then 0 else 1, τ) := by
  unfold J_Rdr_takeDate_118 J_Rdr_takeDate_130
  by_cases h : τ 4 k 5 0 ≤ 0
  · rw [if_pos h, if_pos h]; rfl
  · rw [if_neg h, if_neg h]; rfl
theorem oc_d100 (hR : oy_R w σ) {k a : Nat} (ha : a ≤ 1000) : J_Rdr_takeDate_100 k (oy_pl σ a) = J_Rdr_takeDate_118 k (oy_pl (ox_up σ 4 k 6 0 (oy_wk w a)) (a + 1)) := by
  have hle := oy_R_le hR a
  unfold J_Rdr_takeDate_100
  rw [oc_peek hR, Option.bind_some, if_pos (by omega), oy_pl_get, oy_w1 (by omega), oy_pl_com (by decide), oy_pl_up]
theorem oc_date (hR : oy_R w σ) {k : Nat} (h0 : oy_wk w 0 = 64) (h5 : σ 4 k 5 0 = -1) (h6 : σ 4 k 6 0 = 0) : oy_tk (oy_s4 k) w σ (F_Rdr_takeDate k (oy_pl σ 0)) ((sp_date w).isSome = true) (fun τ => ∀ v, sp_date w = some v → τ 4 k 3 0 = v.1 ∧ τ 4 k 4 0 = v.2.1 ∧ τ 4 k 5 0 = (if v.2.2.1 = 0 then -1 else v.2.2.1) ∧ τ 4 k 6 0 = v.2.2.2) := by
  have hn := sp_nu_in w 1
  have hd2 : (sp_d2 w).1 ≤ 10 ∧ -1 ≤ (sp_d2 w).2 := by
    unfold sp_d2
    have := sp_nu_in w ((sp_nu w 1).1 + 1)
    split <;> omega
  have hn3 := sp_nu_in w ((sp_d2 w).1 + 1)
  unfold F_Rdr_takeDate
  rw [oy_pl_step (b := 1) rfl (by omega), oc_number hR (by omega), Option.bind_some]
  dsimp only
  rw [oy_pl_com (by decide)]
  have hR1 : oy_R w (ox_up σ 4 k 3 0 (sp_nu w 1).2) := oy_R_up hR rfl
  have F1 : oy_fs (oy_s4 k) σ (ox_up σ 4 k 3 0 (sp_nu w 1).2) := oy_fs.rf.up (oy_s44 (by decide))
  /- once the days are read -/
  have go : oy_tk (oy_s4 k) w σ (J_Rdr_takeDate_39 k (sp_d2 w).2 k (oy_pl (ox_up σ 4 k 3 0 (sp_nu w 1).2) (sp_d2 w).1)) ((sp_date w).isSome = true) (fun τ => ∀ v, sp_date w = some v → τ 4 k 3 0 = v.1 ∧ τ 4 k 4 0 = v.2.1 ∧ τ 4 k 5 0 = (if v.2.2.1 = 0 then -1 else v.2.2.1) ∧ τ 4 k 6 0 = v.2.2.2) := by
    unfold J_Rdr_takeDate_39 J_Rdr_takeDate_61
    rw [oy_pl_com (by decide), oy_pl_ne (by decide), oy_up_same, oy_pl_ne (by decide), oy_up_same]
    have hR2 : oy_R w (ox_up (ox_up σ 4 k 3 0 (sp_nu w 1).2) 4 k 4 0 (sp_d2 w).2) := oy_R_up hR1 rfl
    have F2 : oy_fs (oy_s4 k) σ (ox_up (ox_up σ 4 k 3 0 (sp_nu w 1).2) 4 k 4 0 (sp_d2 w).2) := F1.up (oy_s44 (by decide))
    by_cases h3 : (sp_nu w 1).2 = -1
    · rw [if_pos h3]
      refine oy_tk_no rfl (oy_plfs4 F2) ?_
      unfold sp_date
      rw [if_neg (fun q => by have := q.2.1; omega)]
      decide
    rw [if_neg h3]
    by_cases h4 : (sp_nu w 1).2 ≤ (sp_d2 w).2
    rotate_left
    · rw [if_neg h4]
      refine oy_tk_no rfl (oy_plfs4 F2) ?_
      unfold sp_date
      rw [if_neg (fun q => h4 q.2.2)]
      decide
    rw [if_pos h4]
    have hc : sp_date w = (if oy_wk w (sp_d2 w).1 = 43 then
      (if 0 < (sp_d3 w).2 ∧ (if oy_wk w (sp_d3 w).1 = 43 ∨ oy_wk w (sp_d3 w).1 = 46 then (sp_d3 w).1 + 1 else (sp_d3 w).1) = w.length then some ((sp_nu w 1).2, (sp_d2 w).2, (sp_d3 w).2, oy_wk w (sp_d3 w).1) else none)
    else if (sp_d2 w).1 = w.length then some ((sp_nu w 1).2, (sp_d2 w).2, 0, 0) else none) := by
      unfold sp_date
      rw [if_pos ⟨h0, by omega, h4⟩]
    by_cases h43 : oy_wk w (sp_d2 w).1 = 43
    rotate_left
    · rw [oc_tk0 hR2 h43, Option.bind_some, if_pos rfl]
      rw [if_neg h43] at hc
      by_cases h7 : (sp_d2 w).1 = w.length
      · rw [if_pos h7] at hc
        rw [hc]
        refine oy_tk_yes oy_s43 rfl F2 ⟨fun _ => rfl, fun _ => h7⟩ (fun _ v hv => ?_)
        cases hv
        refine ⟨?_, ?_, ?_, ?_⟩
        · rw [oy_pl_ne (by decide), oy_up_ne (by decide)]
          exact oy_up_same
        · rw [oy_pl_ne (by decide)]
          exact oy_up_same
        · rw [oy_pl_ne (by decide), oy_up_ne (by decide), oy_up_ne (by decide), if_pos rfl]
          exact h5
        · rw [oy_pl_ne (by decide), oy_up_ne (by decide), oy_up_ne (by decide)]
          exact h6
      · rw [if_neg h7] at hc
        rw [hc]
        exact oy_tk_yes oy_s43 rfl F2 ⟨fun q => absurd q h7, fun q => absurd q (by decide)⟩ (fun q => absurd q (by decide))
    rw [if_pos h43] at hc
    rw [oc_tk1 hR2 (b := (sp_d2 w).1 + 1) (by decide) h43 rfl, Option.bind_some, if_neg oy_10, oc_number hR2 (by omega), Option.bind_some]
    dsimp only
    have e3 : sp_nu w ((sp_d2 w).1 + 1) = sp_d3 w := rfl
    rw [e3] at hn3 ⊢
    rw [oy_pl_com (by decide)]
    have hR3 : oy_R w (ox_up (ox_up (ox_up σ 4 k 3 0 (sp_nu w 1).2) 4 k 4 0 (sp_d2 w).2) 4 k 5 0 (sp_d3 w).2) := oy_R_up hR2 rfl
    have F3 : oy_fs (oy_s4 k) σ (ox_up (ox_up (ox_up σ 4 k 3 0 (sp_nu w 1).2) 4 k 4 0 (sp_d2 w).2) 4 k 5 0 (sp_d3 w).2) := F2.up (oy_s44 (by decide))
    rw [oc_peek hR3, Option.bind_some, Option.bind_some]
    rw [oc_d100 hR3 (by omega), oc_d118, oc_d118]
    have e7 : (oy_pl (ox_up (ox_up (ox_up σ 4 k 3 0 (sp_nu w 1).2) 4 k 4 0 (sp_d2 w).2) 4 k 5 0 (sp_d3 w).2) (sp_d3 w).1) 4 k 5 0 = (sp_d3 w).2 := (oy_pl_ne (by decide)).trans oy_up_same
    have e9 : (oy_pl (ox_up (ox_up (ox_up (ox_up σ 4 k 3 0 (sp_nu w 1).2) 4 k 4 0 (sp_d2 w).2) 4 k 5 0 (sp_d3 w).2) 4 k 6 0 (oy_wk w (sp_d3 w).1)) ((sp_d3 w).1 + 1)) 4 k 5 0 = (sp_d3 w).2 := by
      rw [oy_pl_ne (by decide), oy_up_ne (by decide)]
      exact oy_up_same
    rw [e7, e9]
    by_cases h8 : oy_wk w (sp_d3 w).1 = 43 ∨ oy_wk w (sp_d3 w).1 = 46
    · have ite2 : ∀ {α : Type} (x z : α), (if oy_wk w (sp_d3 w).1 = 43 then x else if oy_wk w (sp_d3 w).1 = 46 then x else z) = x := by
        intro α x z
        rcases h8 with q | q
        · rw [if_pos q]
        · rw [if_neg (by omega), if_pos q]
      rw [ite2]
      rw [if_pos h8] at hc
      by_cases h9 : (sp_d3 w).2 ≤ 0
      · rw [if_neg (fun q => by have := q.1; omega)] at hc
        rw [if_pos h9, hc]
        exact oy_tk_no rfl (oy_plfs4 (F3.up (oy_s44 (by decide)))) (by decide)
      rw [if_neg h9]
      by_cases h7 : (sp_d3 w).1 + 1 = w.length
      · rw [if_pos ⟨by omega, h7⟩] at hc
        rw [hc]
        refine oy_tk_yes oy_s43 rfl (F3.up (oy_s44 (by decide))) ⟨fun _ => rfl, fun _ => h7⟩ (fun _ v hv => ?_)
        cases hv
        refine ⟨?_, ?_, ?_, ?_⟩
        · rw [oy_pl_ne (by decide), oy_up_ne (by decide), oy_up_ne (by decide), oy_up_ne (by decide)]
          exact oy_up_same
        · rw [oy_pl_ne (by decide), oy_up_ne (by decide), oy_up_ne (by decide)]
          exact oy_up_same
        · dsimp only
          rw [e9, if_neg (by omega)]
        · rw [oy_pl_ne (by decide)]
          exact oy_up_same
      · rw [if_neg (fun q => h7 q.2)] at hc
        rw [hc]
        exact oy_tk_yes oy_s43 rfl (F3.up (oy_s44 (by decide))) ⟨fun q => absurd q h7, fun q => absurd q (by decide)⟩ (fun q => absurd q (by decide))
    · rw [if_neg (fun q => h8 (Or.inl q)), if_neg (fun q => h8 (Or.inr q))]
      rw [if_neg h8] at hc
      by_cases h9 : (sp_d3 w).2 ≤ 0
      · rw [if_neg (fun q => by have := q.1; omega)] at hc
        rw [if_pos h9, hc]
        exact oy_tk_no rfl (oy_plfs4 F3) (by decide)
      rw [if_neg h9]
      by_cases h7 : (sp_d3 w).1 = w.length
      · rw [if_pos ⟨by omega, h7⟩] at hc
        have hz : oy_wk w (sp_d3 w).1 = 0 := oy_wk_ge (by omega)
        rw [hc]
        refine oy_tk_yes oy_s43 rfl F3 ⟨fun _ => rfl, fun _ => h7⟩ (fun _ v hv => ?_)
        cases hv
        refine ⟨?_, ?_, ?_, ?_⟩
        · rw [oy_pl_ne (by decide), oy_up_ne (by decide), oy_up_ne (by decide)]
          exact oy_up_same
        · rw [oy_pl_ne (by decide), oy_up_ne (by decide)]
          exact oy_up_same
        · dsimp only
          rw [oy_pl_ne (by decide), oy_up_same, if_neg (by omega)]
        · rw [oy_pl_ne (by decide), oy_up_ne (by decide), oy_up_ne (by decide), oy_up_ne (by decide)]
          exact h6.trans hz.symm
      · rw [if_neg (fun q => h7 q.2)] at hc
        rw [hc]
        exact oy_tk_yes oy_s43 rfl F3 ⟨fun q => absurd q h7, fun q => absurd q (by decide)⟩ (fun q => absurd q (by decide))
  by_cases h45 : oy_wk w (sp_nu w 1).1 = 45
  · have ed : sp_d2 w = sp_nu w ((sp_nu w 1).1 + 1) := by unfold sp_d2; rw [if_pos h45]
    rw [ed] at go
    rw [oc_tk1 hR1 (b := (sp_nu w 1).1 + 1) (by decide) h45 rfl, Option.bind_some, if_neg oy_10, oc_number hR1 (by omega), Option.bind_some]
    exact go
  · have ed : sp_d2 w = sp_nu w 1 := by unfold sp_d2; rw [if_neg h45]
    rw [ed] at go
    rw [oc_tk0 hR1 h45, Option.bind_some, if_pos rfl]
    dsimp only
    rw [oy_pl_ne (by decide), oy_up_same]
    exact go
end OYC4
