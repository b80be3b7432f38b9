/-! ===== days and titles ===== -/
theorem oy_tm {x y : Int} (hx : 0 ≤ x) (hy : 0 < y) : 0 ≤ Int.tmod x y ∧ Int.tmod x y < y := by
  rw [Int.tmod_eq_emod_of_nonneg hx]
  exact ⟨Int.emod_nonneg _ (by omega), Int.emod_lt_of_pos _ hy⟩
section OYD9
variable {T : oy_T} {σ : ox_H}
theorem om_isOn (hT : oy_ok T) (hF : oy_F T σ) {e : Nat} (he : e < sp_n T) {d : Int} (hd : 0 ≤ d ∧ d ≤ 100000) : ∃ σ', F_Mod_isOn (e : Int) d σ = some (if sp_on T e d = true then 1 else 0, σ') ∧ oy_fr oy_sp σ σ' := by
  obtain ⟨τ1, e1, f1⟩ := om_stateOf hT hF he
  obtain ⟨τ2, e2, f2, g2⟩ := om_dateOf hT (hF.sp f1) he
  unfold F_Mod_isOn J_Mod_isOn_25
  rw [e1, Option.bind_some]
  unfold sp_on
  by_cases h1 : sp_es_st T e ≤ 1
  rotate_left
  · rw [if_pos (show 1 < sp_es_st T e by omega), decide_eq_false h1, Bool.false_and, if_neg (by decide)]
    exact ⟨τ1, rfl, f1⟩
  rw [if_neg (show ¬ 1 < sp_es_st T e by omega), decide_eq_true h1, Bool.true_and]
  dsimp only
  rw [e2, Option.bind_some]
  by_cases h2 : sp_dl T e < sp_en T (e + 1)
  rotate_left
  · rw [if_neg h2, if_pos (show (-1 : Int) < 0 by decide), decide_eq_false h2, Bool.false_and, if_neg (by decide)]
    exact ⟨τ2, rfl, f1.tr f2⟩
  have g := g2 h2
  rw [if_pos h2, if_neg (show ¬ (sp_dl T e : Int) < 0 by omega), decide_eq_true h2, Bool.true_and]
  dsimp only
  have hsome : (sp_date (oy_ln T (sp_dl T e))).isSome = true := by
    have hin := sp_fi_in (fun l => (sp_date (oy_ln T l)).isSome) (sp_en T (e + 1) - (sp_en T e + 1)) (sp_en T e + 1)
    have key : ∀ (p : Nat → Bool) (f s : Nat), sp_fi p f s < s + f → p (sp_fi p f s) = true := by
      intro p f
      induction f with
      | zero => intro s h; exact absurd h (by show ¬ s < s + 0; omega)
      | succ f ih =>
        intro s h
        rw [sp_fi] at h ⊢
        by_cases q : p s = true
        · rw [if_pos q]; exact q
        · rw [if_neg q] at h ⊢
          exact ih (s + 1) (by omega)
    have ho := (sp_en_own he).1
    exact key (fun l => (sp_date (oy_ln T l)).isSome) (sp_en T (e + 1) - (sp_en T e + 1)) (sp_en T e + 1) (by
      have h3 : sp_fi (fun l => (sp_date (oy_ln T l)).isSome) (sp_en T (e + 1) - (sp_en T e + 1)) (sp_en T e + 1) < sp_en T (e + 1) := h2
      omega)
  cases hv : sp_date (oy_ln T (sp_dl T e)) with
  | none => rw [hv] at hsome; exact Bool.noConfusion hsome
  | some v =>
    obtain ⟨q17, q18, q19, -⟩ := g v hv
    have hb := sp_date_in hv
    rw [sp_on2_s hv]
    have fin : ∀ s : Int, J_Mod_isOn_54 s τ2 = some (if v.2.1 - v.1 < s then 0 else 1, τ2) := by
      intro s
      unfold J_Mod_isOn_54 J_Mod_isOn_73
      rw [q17, q18, oy_w (by omega) (by omega)]
      by_cases z : v.2.1 - v.1 < s
      · rw [if_pos z, if_pos z]; rfl
      · rw [if_neg z, if_neg z]; rfl
    unfold sp_isd
    refine ⟨τ2, ?_, f1.tr f2⟩
    by_cases h3 : v.1 ≤ d
    rotate_left
    · rw [if_neg (show ¬ τ2 10 0 17 0 ≤ d by rw [q17]; exact h3), decide_eq_false h3, Bool.false_and, if_neg (by decide)]
    rw [if_pos (show τ2 10 0 17 0 ≤ d by rw [q17]; exact h3), decide_eq_true h3, Bool.true_and, fin, fin, q17, oy_w (by omega) (by omega)]
    by_cases h4 : v.2.2.1 = 0
    · rw [if_pos (show τ2 10 0 19 0 ≤ 0 by rw [q19]; omega), if_pos h4]
      by_cases z : v.2.1 - v.1 < d - v.1
      · rw [if_pos z, decide_eq_false (fun y => y z), if_neg (by decide)]
      · rw [if_neg z, decide_eq_true z, if_pos rfl]
    · rw [if_neg (show ¬ τ2 10 0 19 0 ≤ 0 by rw [q19]; omega), if_neg (show ¬ τ2 10 0 19 0 = 0 by rw [q19]; exact h4), if_neg h4, q19]
      by_cases z : v.2.1 - v.1 < Int.tmod (d - v.1) v.2.2.1
      · rw [if_pos z, decide_eq_false (fun y => y z), if_neg (by decide)]
      · rw [if_neg z, decide_eq_true z, if_pos rfl]
theorem oc_isOn (hT : oy_ok T) (hQ : oy_Q T σ) {e : Nat} (he : e < sp_n T) {d : Int} (hd : 0 ≤ d ∧ d ≤ 100000) : F_Otl_isOn (e : Int) d σ = some (if sp_on T e d = true then 1 else 0) := by
  have h60 := hT.1
  have hst : sp_es_st T e = -1 ∨ (0 ≤ sp_es_st T e ∧ sp_es_st T e ≤ 3) := by
    have := sp_state_cs (sp_eln T e) (sp_lv T e + 1)
    unfold sp_es_st
    omega
  unfold F_Otl_isOn J_Otl_isOn_36 J_Otl_isOn_37
  rw [oc_est hT hQ he, Option.bind_some]
  unfold sp_on
  by_cases h1 : sp_es_st T e ≤ 1
  rotate_left
  · rw [decide_eq_false h1, Bool.false_and, if_neg (show ¬ false = true by decide)]
    by_cases h2 : sp_es_st T e = 2
    · rw [if_pos h2]; rfl
    · rw [if_neg h2, if_pos (by omega)]; rfl
  rw [if_neg (by omega), if_neg (by omega), decide_eq_true h1, Bool.true_and, oc_dateLine hT hQ he, Option.bind_some]
  by_cases h2 : sp_dl T e < sp_en T (e + 1)
  rotate_left
  · have r60 : F_Otl_reading (-1) σ = some 60 := by
      unfold F_Otl_reading J_Otl_reading_21
      rw [if_pos (by decide)]
    have d60 : F_Rdg_isDayOf 60 d σ = some 0 := by
      unfold F_Rdg_isDayOf J_Rdg_isDayOf_19
      rw [if_pos hQ.2.2.2.2.1]
    rw [if_neg h2, r60, Option.bind_some, d60, Option.bind_some, if_pos rfl, decide_eq_false h2, Bool.false_and, if_neg (by decide)]
    rfl
  have ho := sp_en_own he
  obtain ⟨r1, r2⟩ := oc_erd hT hQ (l := sp_dl T e) (by omega)
  rw [if_pos h2, r1, Option.bind_some, decide_eq_true h2, Bool.true_and]
  have hsome : (sp_date (oy_ln T (sp_dl T e))).isSome = true := by
    have key : ∀ (p : Nat → Bool) (f s : Nat), sp_fi p f s < s + f → p (sp_fi p f s) = true := by
      intro p f
      induction f with
      | zero => intro s h; exact absurd h (by show ¬ s < s + 0; omega)
      | succ f ih =>
        intro s h
        rw [sp_fi] at h ⊢
        by_cases q : p s = true
        · rw [if_pos q]; exact q
        · rw [if_neg q] at h ⊢
          exact ih (s + 1) (by omega)
    exact key (fun l => (sp_date (oy_ln T l)).isSome) (sp_en T (e + 1) - (sp_en T e + 1)) (sp_en T e + 1) (by
      have h3 : sp_fi (fun l => (sp_date (oy_ln T l)).isSome) (sp_en T (e + 1) - (sp_en T e + 1)) (sp_en T e + 1) < sp_en T (e + 1) := h2
      omega)
  cases hv : sp_date (oy_ln T (sp_dl T e)) with
  | none => rw [hv] at hsome; exact Bool.noConfusion hsome
  | some v =>
    have hb := sp_date_in hv
    obtain ⟨q3, q4, q5, -⟩ := r2.2.2.2.1 (sp_kind_2.mpr hsome) v hv
    rw [sp_on2_s hv]
    have fin : ∀ s : Int, J_Rdg_isDayOf_39 (sp_dl T e) s σ = some (if v.2.1 - v.1 < s then 0 else 1) := by
      intro s
      unfold J_Rdg_isDayOf_39 J_Rdg_isDayOf_56
      rw [q3, q4, oy_w (by omega) (by omega)]
      by_cases z : v.2.1 - v.1 < s
      · rw [if_pos z, if_pos z]; rfl
      · rw [if_neg z, if_neg z]; rfl
    have hday : F_Rdg_isDayOf (sp_dl T e) d σ = some (if sp_isd v d = true then 1 else 0) := by
      unfold F_Rdg_isDayOf J_Rdg_isDayOf_19 sp_isd
      rw [fin, fin, q3, q5, if_neg (by omega), oy_w (by omega) (by omega)]
      by_cases h3 : v.1 ≤ d
      rotate_left
      · rw [if_neg (by omega), decide_eq_false h3, Bool.false_and, if_neg (by decide)]
      rw [if_pos (by omega), decide_eq_true h3, Bool.true_and]
      by_cases h4 : v.2.2.1 = 0
      · rw [if_pos h4, if_neg (by decide), if_pos h4]
        by_cases z : v.2.1 - v.1 < d - v.1
        · rw [if_pos z, decide_eq_false (fun y => y z), if_neg (by decide)]
        · rw [if_neg z, decide_eq_true z, if_pos rfl]
      · rw [if_neg h4, if_pos (by omega), if_neg h4, if_neg h4]
        by_cases z : v.2.1 - v.1 < Int.tmod (d - v.1) v.2.2.1
        · rw [if_pos z, decide_eq_false (fun y => y z), if_neg (by decide)]
        · rw [if_neg z, decide_eq_true z, if_pos rfl]
    rw [hday, Option.bind_some]
    by_cases z : sp_isd v d = true
    · rw [if_pos z, if_neg oy_10]; rfl
    · rw [if_neg z, if_pos rfl]; rfl
end OYD9
