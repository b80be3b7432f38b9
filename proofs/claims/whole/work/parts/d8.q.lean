/-! ===== done, titles, days, sums: the class's and the reference's ===== -/
/-- a day against a date -/
def sp_isd (v : Int × Int × Int × Int) (d : Int) : Bool := decide (v.1 ≤ d) && decide (¬ (v.2.1 - v.1 < (if v.2.2.1 = 0 then d - v.1 else Int.tmod (d - v.1) v.2.2.1)))
def sp_on2 (T : oy_T) (e : Nat) (d : Int) : Bool := match sp_date (oy_ln T (sp_dl T e)) with | none => false | some v => sp_isd v d
theorem sp_on2_s {T : oy_T} {e : Nat} {d : Int} {v : Int × Int × Int × Int} (h : sp_date (oy_ln T (sp_dl T e)) = some v) : sp_on2 T e d = sp_isd v d := by unfold sp_on2; rw [h]
def sp_on (T : oy_T) (e : Nat) (d : Int) : Bool := decide (sp_es_st T e ≤ 1) && (decide (sp_dl T e < sp_en T (e + 1)) && sp_on2 T e d)
/-- the first entry of a title -/
def sp_tt (T : oy_T) (c : Int) : Nat := sp_fi (fun e => decide (sp_ini T e = c)) (sp_n T) 0
/-- the sum of a property over an entry's part -/
def sp_su (T : oy_T) (c : Int) (e : Nat) : Int := sp_fo (fun v k => v + (if 0 ≤ sp_own T k c then sp_own T k c else 0)) (sp_la T e - e) e 0
theorem sp_date_in {w : List Int} {v : Int × Int × Int × Int} (h : sp_date w = some v) : 0 ≤ v.1 ∧ v.1 ≤ v.2.1 ∧ v.2.1 ≤ 9999 ∧ 0 ≤ v.2.2.1 ∧ v.2.2.1 ≤ 9999 := by
  have hn := sp_nu_in w 1
  have h2 : (sp_d2 w).2 ≤ 9999 := by
    unfold sp_d2
    have := sp_nu_in w ((sp_nu w 1).1 + 1)
    split <;> omega
  have h3 : (sp_d3 w).2 ≤ 9999 := (sp_nu_in w ((sp_d2 w).1 + 1)).2.2.2.1
  unfold sp_date at h
  by_cases c1 : oy_wk w 0 = 64 ∧ 0 ≤ (sp_nu w 1).2 ∧ (sp_nu w 1).2 ≤ (sp_d2 w).2
  rotate_left
  · rw [if_neg c1] at h; cases h
  rw [if_pos c1] at h
  by_cases c2 : oy_wk w (sp_d2 w).1 = 43
  · rw [if_pos c2] at h
    by_cases c3 : 0 < (sp_d3 w).2 ∧ (if oy_wk w (sp_d3 w).1 = 43 ∨ oy_wk w (sp_d3 w).1 = 46 then (sp_d3 w).1 + 1 else (sp_d3 w).1) = w.length
    · rw [if_pos c3] at h
      have h' := Option.some.inj h
      rw [← h']
      exact ⟨c1.2.1, c1.2.2, h2, by have := c3.1; show 0 ≤ (sp_d3 w).2; omega, h3⟩
    · rw [if_neg c3] at h; cases h
  · rw [if_neg c2] at h
    by_cases c3 : (sp_d2 w).1 = w.length
    · rw [if_pos c3] at h
      have h' := Option.some.inj h
      rw [← h']
      exact ⟨c1.2.1, c1.2.2, h2, by show (0 : Int) ≤ 0; decide, by show (0 : Int) ≤ 9999; decide⟩
    · rw [if_neg c3] at h; cases h
theorem sp_own_le (T : oy_T) (e : Nat) (c : Int) : sp_own T e c ≤ 9999 := by
  unfold sp_own
  split
  · exact (sp_nu_in _ 3).2.2.2.1
  · decide
section OYD8
variable {T : oy_T} {σ : ox_H}
theorem oc_mayBeDone (hT : oy_ok T) (hQ : oy_Q T σ) {e : Nat} (he : e < sp_n T) : F_Otl_mayBeDone (e : Int) σ = some (if sp_mb T e = true then 1 else 0) := by
  have h60 := hT.1
  have hn := sp_n_le (T := T)
  have hla := sp_la_in he
  have h33 : J_Otl_mayBeDone_33 (e : Int) σ = some (if sp_mb2 T e = true then 1 else 0) := by
    unfold J_Otl_mayBeDone_33
    rw [oc_epa hT hQ he, Option.bind_some]
    cases hp : sp_pa T e with
    | none =>
      have e0 : F_Otl_inherited (oy_en none) 14 σ = some (-1) := oc_inh0 14
      rw [e0, Option.bind_some, if_neg (by decide), if_pos (sp_mb2_n hp)]
    | some p =>
      have hlp := (sp_pa_lt hp).1
      have e0 : F_Otl_inherited (oy_en (some p)) 14 σ = some (sp_has T 111 p) := oc_inherited hT hQ (e := p) (by omega) 14
      rw [e0, Option.bind_some]
      by_cases hq : sp_has T 111 p = 1
      rotate_left
      · rw [if_neg hq, if_pos (sp_mb2_f hp hq)]
      rw [if_pos hq]
      unfold J_Otl_mayBeDone_57
      rw [show oy_en (some p) = (p : Int) from rfl, oy_w1 (by omega)]
      have h := oy_lfC (B_Otl_mayBeDone_57 (e : Int) (p : Int) σ) (fun k => decide (sp_pa T k = some p) && sp_op T k) (fun k => if k < e then (0 : Int) else 1) (p + 1) e
        (fun k h1 h2 hb => by
          unfold B_Otl_mayBeDone_57 J_Otl_mayBeDone_84
          (try dsimp only)
          rw [if_neg (by omega), oc_epa hT hQ (by omega), Option.bind_some, oc_isOpen hT hQ (by omega), Option.bind_some, oy_w1 (by omega)]
          by_cases q : sp_pa T k = some p
          · rw [if_pos (show oy_en (sp_pa T k) = (p : Int) by rw [q]; rfl)]
            rw [decide_eq_true q, Bool.true_and] at hb
            rw [hb, if_neg (show ¬ false = true by decide), if_pos rfl]
          · rw [if_neg (show ¬ oy_en (sp_pa T k) = (p : Int) from fun z => q (oy_en_inj.mp z))])
        (fun k h1 h2 hb => by
          rw [Bool.and_eq_true, decide_eq_true_eq] at hb
          unfold B_Otl_mayBeDone_57 J_Otl_mayBeDone_82
          (try dsimp only)
          rw [if_neg (by omega), oc_epa hT hQ (by omega), Option.bind_some, oc_isOpen hT hQ (by omega), Option.bind_some, if_pos (show oy_en (sp_pa T k) = (p : Int) by rw [hb.1]; rfl), if_pos hb.2, if_neg oy_10, if_pos h2]
          rfl)
        (by
          unfold B_Otl_mayBeDone_57
          (try dsimp only)
          rw [if_pos (Int.le_refl _), if_neg (Nat.lt_irrefl _)]
          rfl) (e - (p + 1)) ox_fu (p + 1) (by omega) (Nat.le_refl _) (by show _ < 100000; omega)
      rw [h]
      have hin := sp_fi_in (fun k => decide (sp_pa T k = some p) && sp_op T k) (e - (p + 1)) (p + 1)
      have hiff := sp_mb2_t hp hq
      by_cases y : sp_fi (fun k => decide (sp_pa T k = some p) && sp_op T k) (e - (p + 1)) (p + 1) = e
      · rw [if_pos (hiff.mpr y), if_neg (by omega)]
      · rw [if_neg (fun z => y (hiff.mp z)), if_pos (by omega)]
  unfold F_Otl_mayBeDone J_Otl_mayBeDone_12
  have e1 : ox_w ((e : Int) + ((sp_la T e : Int) - e - 1)) = (sp_la T e : Int) - 1 := by rw [oy_w (by omega) (by omega)]; omega
  rw [oc_below hT hQ he, Option.bind_some, e1, oy_w1 (by omega)]
  have h := oy_lfC (B_Otl_mayBeDone_12 (e : Int) ((sp_la T e : Int) - 1) σ) (sp_op T) (fun k => if k < sp_la T e then (0 : Int) else (if sp_mb2 T e = true then 1 else 0)) (e + 1) (sp_la T e)
    (fun k h1 h2 hb => by
      unfold B_Otl_mayBeDone_12
      (try dsimp only)
      rw [if_neg (by omega), oc_isOpen hT hQ (by omega), Option.bind_some, hb, if_neg (show ¬ false = true by decide), if_pos rfl, oy_w1 (by omega)])
    (fun k h1 h2 hb => by
      unfold B_Otl_mayBeDone_12 J_Otl_mayBeDone_25
      (try dsimp only)
      rw [if_neg (by omega), oc_isOpen hT hQ (by omega), Option.bind_some, if_pos hb, if_neg oy_10, if_pos h2]
      rfl)
    (by
      unfold B_Otl_mayBeDone_12
      (try dsimp only)
      rw [if_pos (by omega), h33, if_neg (Nat.lt_irrefl _)]
      rfl) (sp_la T e - (e + 1)) ox_fu (e + 1) (by omega) (Nat.le_refl _) (by show _ < 100000; omega)
  rw [h]
  have hin := sp_fi_in (sp_op T) (sp_la T e - (e + 1)) (e + 1)
  unfold sp_mb
  by_cases z : sp_fi (sp_op T) (sp_la T e - (e + 1)) (e + 1) = sp_la T e
  · rw [if_neg (by omega), decide_eq_true z, Bool.true_and]
  · rw [if_pos (by omega), decide_eq_false z, Bool.false_and, if_neg (by decide)]
theorem oc_summed (hT : oy_ok T) (hQ : oy_Q T σ) {e : Nat} (he : e < sp_n T) (x : Int) : F_Otl_summed (e : Int) x σ = some (sp_su T (97 + x) e) := by
  have h60 := hT.1
  have hn := sp_n_le (T := T)
  have hla := sp_la_in he
  unfold F_Otl_summed J_Otl_summed_14
  have e1 : ox_w ((e : Int) + ((sp_la T e : Int) - e - 1)) = (sp_la T e : Int) - 1 := by rw [oy_w (by omega) (by omega)]; omega
  rw [oc_below hT hQ he, Option.bind_some, e1]
  exact oy_lacC (B_Otl_summed_14 x ((sp_la T e : Int) - 1) σ) (fun k v => 0 ≤ v ∧ v ≤ 10000 * k) (fun v k => v + (if 0 ≤ sp_own T k (97 + x) then sp_own T k (97 + x) else 0)) id e (sp_la T e)
    (fun k v hJ h1 h2 => by
      have h3 := sp_own_le T k (97 + x)
      have h4 := sp_own_cs T k (97 + x)
      refine ⟨?_, by split <;> omega⟩
      unfold B_Otl_summed_14
      dsimp only
      rw [if_neg (by omega), oc_own hT hQ (by omega), Option.bind_some, oy_w1 (by omega)]
      have e2 : (if 0 < sp_own T k (97 + x) then sp_own T k (97 + x) else 0) = (if 0 ≤ sp_own T k (97 + x) then sp_own T k (97 + x) else 0) := by split <;> split <;> omega
      rw [e2]
      rw [oy_w (by split <;> omega) (by split <;> omega)])
    (fun v hJ => by
      unfold B_Otl_summed_14
      dsimp only
      rw [if_pos (by omega)]
      rfl) (sp_la T e - e) ox_fu e 0 (by omega) (Nat.le_refl _) (by show _ < 100000; omega) (by omega)
theorem om_summed (hT : oy_ok T) (hF : oy_F T σ) {e : Nat} (he : e < sp_n T) (x : Int) (hx : 0 ≤ x ∧ x ≤ 25) : ∃ σ', ((F_Mod_last (e : Int) σ).bind fun r4 => (J_Mod_property_64 x 0 r4.1 (e : Int) r4.2)) = some (sp_su T (97 + x) e, σ') ∧ oy_fr oy_sp σ σ' := by
  have h60 := hT.1
  have hn := sp_n_le (T := T)
  have hla := sp_la_in he
  obtain ⟨τ1, e1, f1⟩ := om_last hT hF he
  rw [e1, Option.bind_some]
  unfold J_Mod_property_64
  obtain ⟨b, hb, q1, q2⟩ := oy_lacM (B_Mod_property_64 x (sp_la T e : Int)) (fun τ => oy_F T τ ∧ oy_fr oy_sp σ τ) (fun k v => 0 ≤ v ∧ v ≤ 10000 * k) (fun v k => v + (if 0 ≤ sp_own T k (97 + x) then sp_own T k (97 + x) else 0)) (fun v b => b.1 = v ∧ oy_fr oy_sp σ b.2) e (sp_la T e)
    (fun k v τ hI hJ h1 h2 => by
      have h3 := sp_own_le T k (97 + x)
      have h4 := sp_own_cs T k (97 + x)
      obtain ⟨τ2, e2, f2⟩ := om_own hT hI.1 (e := k) (by omega) (97 + x)
      refine ⟨τ2, ?_, ⟨hI.1.sp f2, hI.2.tr f2⟩, by split <;> omega⟩
      unfold B_Mod_property_64 J_Mod_property_96
      dsimp only
      rw [if_neg (by omega), oy_w (x := 97 + x) (by omega) (by omega), e2, Option.bind_some, oy_w1 (by omega)]
      by_cases q : 0 ≤ sp_own T k (97 + x)
      · rw [if_pos q, if_pos q, oy_w (by omega) (by omega)]
      · rw [if_neg q, if_neg q, oy_w (by omega) (by omega)])
    (fun v τ hI hJ => by
      refine ⟨(v, τ), ?_, rfl, hI.2⟩
      unfold B_Mod_property_64
      dsimp only
      rw [if_pos (Int.le_refl _)]
      rfl) (sp_la T e - e) ox_fu e 0 τ1 (by omega) (Nat.le_refl _) (by show _ < 100000; omega) ⟨hF.sp f1, f1⟩ (by omega)
  obtain ⟨b1, b2⟩ := b
  refine ⟨b2, ?_, q2⟩
  have q1' : b1 = sp_su T (97 + x) e := q1
  rw [← q1']
  exact hb
end OYD8
