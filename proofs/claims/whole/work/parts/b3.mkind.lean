/-! ===== the reference reads: headings, properties, dates, clocks ===== -/
def oy_b {α : Type} (o : Option α) : Int := match o with | some _ => 1 | none => 0
def sp_sc (w : List Int) : Nat → Nat → Nat
  | 0, s => s
  | f + 1, s => if oy_wk w s = 42 then sp_sc w f (s + 1) else s
def sp_stars (w : List Int) : Nat := sp_sc w 30 0
def sp_state (w : List Int) (p : Nat) : Int := if sp_isw w p 3 then 3 else if sp_isw w p 2 then 2 else if sp_isw w p 1 then 1 else if sp_isw w p 0 then 0 else -1
/-- the last blank from a place on -/
def sp_bl (w : List Int) (fr : Nat) : Nat → Option Nat
  | 0 => none
  | k + 1 => if k < fr then none else if oy_wk w k = 32 then some k else sp_bl w fr k
def sp_fr (w : List Int) : Nat := sp_stars w + 1 + (if sp_state w (sp_stars w + 1) < 0 then 0 else 5)
def sp_tags (w : List Int) : Int := match sp_bl w (sp_fr w) w.length with | none => 0 | some b => sp_tf w (b + 1)
def sp_to (w : List Int) : Nat := match sp_bl w (sp_fr w) w.length with | none => w.length | some b => if sp_tf w (b + 1) = 0 then w.length else b
abbrev sp_isH (w : List Int) : Prop := 1 ≤ sp_stars w ∧ sp_stars w ≤ 5 ∧ oy_wk w (sp_stars w) = 32
def sp_prop (w : List Int) : Option Int := if oy_wk w 0 = 58 ∧ sp_lt (oy_wk w 1) ∧ oy_wk w 2 = 58 ∧ 0 ≤ (sp_nu w 3).2 ∧ (sp_nu w 3).1 = w.length then some (sp_nu w 3).2 else none
/-- a DATE's end: where its days end, the last day -/
def sp_d2 (w : List Int) : Nat × Int := if oy_wk w (sp_nu w 1).1 = 45 then sp_nu w ((sp_nu w 1).1 + 1) else sp_nu w 1
def sp_d3 (w : List Int) : Nat × Int := sp_nu w ((sp_d2 w).1 + 1)
def sp_date (w : List Int) : Option (Int × Int × Int × Int) :=
  if oy_wk w 0 = 64 ∧ 0 ≤ (sp_nu w 1).2 ∧ (sp_nu w 1).2 ≤ (sp_d2 w).2 then
    (if oy_wk w (sp_d2 w).1 = 43 then
      (if 0 < (sp_d3 w).2 ∧ (if oy_wk w (sp_d3 w).1 = 43 ∨ oy_wk w (sp_d3 w).1 = 46 then (sp_d3 w).1 + 1 else (sp_d3 w).1) = w.length then some ((sp_nu w 1).2, (sp_d2 w).2, (sp_d3 w).2, oy_wk w (sp_d3 w).1) else none)
    else if (sp_d2 w).1 = w.length then some ((sp_nu w 1).2, (sp_d2 w).2, 0, 0) else none)
  else none
def sp_c2 (w : List Int) : Nat × Int := sp_nu w ((sp_nu w 1).1 + 1)
def sp_clock (w : List Int) : Option (Int × Int) :=
  if oy_wk w 0 = 37 ∧ 0 ≤ (sp_nu w 1).2 ∧ oy_wk w (sp_nu w 1).1 = 45 then
    (if (sp_nu w 1).1 + 1 = w.length then some ((sp_nu w 1).2, -1) else if (sp_c2 w).1 = w.length ∧ (sp_nu w 1).2 ≤ (sp_c2 w).2 then some ((sp_nu w 1).2, (sp_c2 w).2) else none)
  else none
theorem oy_at_com {σ : ox_H} {a j : Nat} {v : Int} (h : j ≠ 11) : ox_up (oy_at σ a) 10 0 j 0 v = oy_at (ox_up σ 10 0 j 0 v) a := by
  funext c' k' j' i'
  unfold oy_at ox_up
  by_cases h1 : c' = 10 ∧ j' = j ∧ k' = 0 ∧ i' = 0
  · rw [if_pos h1, if_neg (fun q => h (h1.2.1.symm.trans q.2.1)), if_pos h1]
  · rw [if_neg h1]
    by_cases h2 : c' = 10 ∧ j' = 11 ∧ k' = 0 ∧ i' = 0
    · rw [if_pos h2, if_pos h2]
    · rw [if_neg h2, if_neg h2, if_neg h1]
theorem oy_at_ne {σ : ox_H} {a c k j i : Nat} (h : ¬ (c = 10 ∧ j = 11)) : oy_at σ a c k j i = σ c k j i := by
  unfold oy_at ox_up
  rw [if_neg (fun q => h ⟨q.1, q.2.1⟩)]
theorem oy_up_ne {σ : ox_H} {c k j i c' k' j' i' : Nat} {v : Int} (h : ¬ (c' = c ∧ j' = j)) : ox_up σ c k j i v c' k' j' i' = σ c' k' j' i' := by
  unfold ox_up
  rw [if_neg (fun q => h ⟨q.1, q.2.1⟩)]
theorem oy_M_up {T : oy_T} {σ : ox_H} {c k j i : Nat} {v : Int} (h : oy_M T σ) (hj : oy_sp c j = true) : oy_M T (ox_up σ c k j i v) := h.fr (S := oy_sp) (oy_fr.rf.up hj) rfl rfl rfl
theorem sp_sc_at (w : List Int) : ∀ f s, w.length < f + s → oy_wk w (sp_sc w f s) ≠ 42 ∧ s ≤ sp_sc w f s ∧ (s ≤ w.length → sp_sc w f s ≤ w.length)
  | 0, s, h => by
    have : oy_wk w s = 0 := oy_wk_ge (by omega)
    exact ⟨by show oy_wk w s ≠ 42; rw [this]; decide, Nat.le_refl _, fun q => q⟩
  | f + 1, s, h => by
    unfold sp_sc
    by_cases h1 : oy_wk w s = 42
    · rw [if_pos h1]
      obtain ⟨q1, q2, q3⟩ := sp_sc_at w f (s + 1) (by omega)
      refine ⟨q1, by omega, fun q => q3 ?_⟩
      by_cases h2 : s < w.length
      · omega
      · rw [oy_wk_ge (by omega)] at h1; exact absurd h1 (by decide)
    · rw [if_neg h1]
      exact ⟨h1, Nat.le_refl _, fun q => q⟩
theorem sp_stars_le (w : List Int) (h : w.length ≤ 24) : sp_stars w ≤ w.length := (sp_sc_at w 30 0 (by omega)).2.2 (Nat.zero_le _)
section OYB3
variable {T : oy_T} {σ : ox_H} {l : Nat}
theorem om_prop (hT : oy_ok T) (hM : oy_M T σ) (hl : l < T.length) : ∃ σ', F_Mod_isProperty (l : Int) σ = some (oy_b (sp_prop (oy_ln T l)), σ') ∧ oy_fr oy_sp σ σ' ∧ ∀ v, sp_prop (oy_ln T l) = some v → σ' 10 0 17 0 = v := by
  have e0 : ox_up σ 10 0 11 0 0 = oy_at σ 0 := rfl
  have no : ∀ τ, oy_fr oy_sp σ τ → sp_prop (oy_ln T l) = none → ∃ σ', (some (0, τ) : Option (Int × ox_H)) = some (oy_b (sp_prop (oy_ln T l)), σ') ∧ oy_fr oy_sp σ σ' ∧ ∀ v, sp_prop (oy_ln T l) = some v → σ' 10 0 17 0 = v := by
    intro τ h1 h2
    rw [h2]
    exact ⟨τ, rfl, h1, fun v h => by cases h⟩
  have hn := sp_nu_in (oy_ln T l) 3
  unfold F_Mod_isProperty
  rw [e0]
  by_cases h0 : oy_wk (oy_ln T l) 0 = 58
  rotate_left
  · rw [om_tk0 hT hM hl (by omega) h0, Option.bind_some, if_pos rfl]
    exact no _ oy_at_fr (by unfold sp_prop; rw [if_neg (fun q => h0 q.1)])
  rw [om_tk1 hT hM hl (b' := 1) (by omega) rfl h0, Option.bind_some, if_neg oy_10]
  by_cases h1 : sp_lt (oy_wk (oy_ln T l) 1)
  rotate_left
  · rw [om_le0 hT hM hl (by omega) h1, Option.bind_some, if_pos rfl]
    exact no _ oy_at_fr (by unfold sp_prop; rw [if_neg (fun q => h1 q.2.1)])
  rw [om_le1 hT hM hl (b' := 2) (by omega) rfl h1, Option.bind_some, if_neg oy_10]
  by_cases h2 : oy_wk (oy_ln T l) 2 = 58
  rotate_left
  · rw [om_tk0 hT hM hl (by omega) h2, Option.bind_some, if_pos rfl]
    exact no _ oy_at_fr (by unfold sp_prop; rw [if_neg (fun q => h2 q.2.2.1)])
  rw [om_tk1 hT hM hl (b' := 3) (by omega) rfl h2, Option.bind_some, if_neg oy_10, om_number hT hM hl (by omega), Option.bind_some]
  dsimp only
  rw [oy_at_com (by decide)]
  by_cases h3 : (sp_nu (oy_ln T l) 3).2 < 0
  · rw [if_pos h3]
    exact no _ ((oy_fr.rf.up rfl).up rfl) (by unfold sp_prop; rw [if_neg (fun q => by have := q.2.2.2.1; omega)])
  rw [if_neg h3]
  by_cases h4 : (sp_nu (oy_ln T l) 3).1 = (oy_ln T l).length
  rotate_left
  · rw [om_en0 hT (oy_M_up hM rfl) hl h4, Option.bind_some, if_pos rfl]
    exact no _ ((oy_fr.rf.up rfl).up rfl) (by unfold sp_prop; rw [if_neg (fun q => h4 q.2.2.2.2)])
  rw [om_en1 hT (oy_M_up hM rfl) hl h4, Option.bind_some, if_neg oy_10]
  have hs : sp_prop (oy_ln T l) = some (sp_nu (oy_ln T l) 3).2 := by unfold sp_prop; rw [if_pos ⟨h0, h1, h2, by omega, h4⟩]
  rw [hs]
  refine ⟨_, rfl, (oy_fr.rf.up rfl).up rfl, fun v hv => ?_⟩
  cases hv
  rw [oy_at_ne (by decide)]
  exact oy_up_same
theorem om_clock (hT : oy_ok T) (hM : oy_M T σ) (hl : l < T.length) : ∃ σ', F_Mod_clock (l : Int) σ = some (oy_b (sp_clock (oy_ln T l)), σ') ∧ oy_fr oy_sp σ σ' ∧ ∀ v, sp_clock (oy_ln T l) = some v → σ' 10 0 17 0 = v.1 ∧ σ' 10 0 18 0 = v.2 := by
  have e0 : ox_up σ 10 0 11 0 0 = oy_at σ 0 := rfl
  have no : ∀ τ, oy_fr oy_sp σ τ → sp_clock (oy_ln T l) = none → ∃ σ', (some (0, τ) : Option (Int × ox_H)) = some (oy_b (sp_clock (oy_ln T l)), σ') ∧ oy_fr oy_sp σ σ' ∧ ∀ v, sp_clock (oy_ln T l) = some v → σ' 10 0 17 0 = v.1 ∧ σ' 10 0 18 0 = v.2 := by
    intro τ h1 h2
    rw [h2]
    exact ⟨τ, rfl, h1, fun v h => by cases h⟩
  have hn := sp_nu_in (oy_ln T l) 1
  have hn2 := sp_nu_in (oy_ln T l) ((sp_nu (oy_ln T l) 1).1 + 1)
  unfold F_Mod_clock
  rw [e0]
  by_cases h0 : oy_wk (oy_ln T l) 0 = 37
  rotate_left
  · rw [om_tk0 hT hM hl (by omega) h0, Option.bind_some, if_pos rfl]
    exact no _ oy_at_fr (by unfold sp_clock; rw [if_neg (fun q => h0 q.1)])
  rw [om_tk1 hT hM hl (b' := 1) (by omega) rfl h0, Option.bind_some, if_neg oy_10, om_number hT hM hl (by omega), Option.bind_some]
  dsimp only
  rw [oy_at_com (by decide)]
  by_cases h3 : (sp_nu (oy_ln T l) 1).2 < 0
  · rw [if_pos h3]
    exact no _ ((oy_fr.rf.up rfl).up rfl) (by unfold sp_clock; rw [if_neg (fun q => by have := q.2.1; omega)])
  rw [if_neg h3]
  by_cases h4 : oy_wk (oy_ln T l) (sp_nu (oy_ln T l) 1).1 = 45
  rotate_left
  · rw [om_tk0 hT (oy_M_up hM rfl) hl (by omega) h4, Option.bind_some, if_pos rfl]
    exact no _ ((oy_fr.rf.up rfl).up rfl) (by unfold sp_clock; rw [if_neg (fun q => h4 q.2.2)])
  rw [om_tk1 hT (oy_M_up hM rfl) hl (by omega) rfl h4, Option.bind_some, if_neg oy_10]
  have fin : ∀ (a : Nat) (x : Int), J_Mod_clock_63 (l : Int) x (oy_at (ox_up σ 10 0 17 0 (sp_nu (oy_ln T l) 1).2) a) = some (if a = (oy_ln T l).length ∧ (x < 0 ∨ (sp_nu (oy_ln T l) 1).2 ≤ x) then 1 else 0, oy_at (ox_up (ox_up σ 10 0 17 0 (sp_nu (oy_ln T l) 1).2) 10 0 18 0 x) a) := by
    intro a x
    unfold J_Mod_clock_63 J_Mod_clock_96 J_Mod_clock_92 J_Mod_clock_97
    rw [oy_at_com (by decide)]
    by_cases q1 : a = (oy_ln T l).length
    rotate_left
    · rw [om_en0 hT (oy_M_up (oy_M_up hM rfl) rfl) hl q1, Option.bind_some, if_pos rfl, if_neg (fun q => q1 q.1)]; rfl
    rw [om_en1 hT (oy_M_up (oy_M_up hM rfl) rfl) hl q1, Option.bind_some, if_neg oy_10, oy_at_ne (by decide), oy_up_same]
    by_cases q2 : x < 0
    · rw [if_pos q2, if_pos ⟨q1, Or.inl q2⟩]; rfl
    · rw [if_neg q2]
      by_cases q3 : x < (sp_nu (oy_ln T l) 1).2
      · rw [if_pos q3, if_neg (by omega)]; rfl
      · rw [if_neg q3, if_pos ⟨q1, by omega⟩]; rfl
  have yes : ∀ (x : Int) (a : Nat), sp_clock (oy_ln T l) = some ((sp_nu (oy_ln T l) 1).2, x) → ∃ σ', (some (1, oy_at (ox_up (ox_up σ 10 0 17 0 (sp_nu (oy_ln T l) 1).2) 10 0 18 0 x) a) : Option (Int × ox_H)) = some (oy_b (sp_clock (oy_ln T l)), σ') ∧ oy_fr oy_sp σ σ' ∧ ∀ v, sp_clock (oy_ln T l) = some v → σ' 10 0 17 0 = v.1 ∧ σ' 10 0 18 0 = v.2 := by
    intro x a hs
    rw [hs]
    refine ⟨_, rfl, ((oy_fr.rf.up rfl).up rfl).up rfl, fun v hv => ?_⟩
    cases hv
    rw [oy_at_ne (by decide), oy_at_ne (by decide)]
    exact ⟨(oy_up_ne (by decide)).trans oy_up_same, oy_up_same⟩
  by_cases h5 : (sp_nu (oy_ln T l) 1).1 + 1 = (oy_ln T l).length
  · rw [om_en1 hT (oy_M_up hM rfl) hl h5, Option.bind_some, if_neg oy_10, fin, if_pos ⟨h5, Or.inl (by omega)⟩]
    exact yes _ _ (by unfold sp_clock; rw [if_pos ⟨h0, by omega, h4⟩, if_pos h5])
  rw [om_en0 hT (oy_M_up hM rfl) hl h5, Option.bind_some, if_pos rfl, om_number hT (oy_M_up hM rfl) hl (by omega), Option.bind_some]
  dsimp only
  rw [fin]
  by_cases h6 : (sp_nu (oy_ln T l) ((sp_nu (oy_ln T l) 1).1 + 1)).1 = (oy_ln T l).length ∧ (sp_nu (oy_ln T l) 1).2 ≤ (sp_nu (oy_ln T l) ((sp_nu (oy_ln T l) 1).1 + 1)).2
  · rw [if_pos ⟨h6.1, Or.inr h6.2⟩]
    exact yes _ _ (by unfold sp_clock; rw [if_pos ⟨h0, by omega, h4⟩, if_neg h5, if_pos (show (sp_c2 (oy_ln T l)).1 = (oy_ln T l).length ∧ (sp_nu (oy_ln T l) 1).2 ≤ (sp_c2 (oy_ln T l)).2 from h6)]; rfl)
  · rw [if_neg (fun q => by
      rcases q.2 with q2 | q2
      · have h7 : (sp_nu (oy_ln T l) ((sp_nu (oy_ln T l) 1).1 + 1)).2 = -1 := by omega
        have := hn2.2.2.2.2.mpr h7
        omega
      · exact h6 ⟨q.1, q2⟩)]
    exact no _ (((oy_fr.rf.up rfl).up rfl).up rfl) (by unfold sp_clock; rw [if_pos ⟨h0, by omega, h4⟩, if_neg h5, if_neg (show ¬ ((sp_c2 (oy_ln T l)).1 = (oy_ln T l).length ∧ (sp_nu (oy_ln T l) 1).2 ≤ (sp_c2 (oy_ln T l)).2) from h6)])
theorem om_date (hT : oy_ok T) (hM : oy_M T σ) (hl : l < T.length) : ∃ σ', F_Mod_date (l : Int) σ = some (oy_b (sp_date (oy_ln T l)), σ') ∧ oy_fr oy_sp σ σ' ∧ ∀ v, sp_date (oy_ln T l) = some v → σ' 10 0 17 0 = v.1 ∧ σ' 10 0 18 0 = v.2.1 ∧ σ' 10 0 19 0 = v.2.2.1 ∧ σ' 10 0 20 0 = v.2.2.2 := by
  have e0 : ox_up σ 10 0 11 0 0 = oy_at σ 0 := rfl
  have hn := sp_nu_in (oy_ln T l) 1
  have hd2 : (sp_d2 (oy_ln T l)).1 ≤ 10 ∧ -1 ≤ (sp_d2 (oy_ln T l)).2 := by
    unfold sp_d2
    have := sp_nu_in (oy_ln T l) ((sp_nu (oy_ln T l) 1).1 + 1)
    split <;> omega
  have hn3 := sp_nu_in (oy_ln T l) ((sp_d2 (oy_ln T l)).1 + 1)
  have no : ∀ τ, oy_fr oy_sp σ τ → sp_date (oy_ln T l) = none → ∃ σ', (some (0, τ) : Option (Int × ox_H)) = some (oy_b (sp_date (oy_ln T l)), σ') ∧ oy_fr oy_sp σ σ' ∧ ∀ v, sp_date (oy_ln T l) = some v → σ' 10 0 17 0 = v.1 ∧ σ' 10 0 18 0 = v.2.1 ∧ σ' 10 0 19 0 = v.2.2.1 ∧ σ' 10 0 20 0 = v.2.2.2 := by
    intro τ h1 h2
    rw [h2]
    exact ⟨τ, rfl, h1, fun v h => by cases h⟩
  /- what is not good stays so -/
  have bad : ∀ τ, J_Mod_date_97 (l : Int) 0 τ = some (0, τ) := fun τ => rfl
  have bad2 : ∀ τ, J_Mod_date_178 (l : Int) 0 τ = some (0, τ) := fun τ => rfl
  unfold F_Mod_date
  rw [e0]
  by_cases h0 : oy_wk (oy_ln T l) 0 = 64
  rotate_left
  · rw [om_tk0 hT hM hl (by omega) h0, Option.bind_some, if_pos rfl]
    exact no _ oy_at_fr (by unfold sp_date; rw [if_neg (fun q => h0 q.1)])
  rw [om_tk1 hT hM hl (b' := 1) (by omega) rfl h0, Option.bind_some, if_neg oy_10, om_number hT hM hl (by omega), Option.bind_some]
  dsimp only
  rw [oy_at_com (by decide), oy_at_com (by decide), oy_at_com (by decide), oy_at_com (by decide)]
  by_cases h3 : (sp_nu (oy_ln T l) 1).2 < 0
  · rw [if_pos h3]
    unfold J_Mod_date_56
    rw [if_pos rfl, bad]
    exact no _ (((((oy_fr.rf.up rfl).up rfl).up rfl).up rfl).up rfl) (by unfold sp_date; rw [if_neg (fun q => by have := q.2.1; omega)])
  rw [if_neg h3]
  /- the heap once the days are read -/
  have go : ∀ (τ : ox_H), oy_M T τ → oy_fr oy_sp σ τ → τ 10 0 17 0 = (sp_nu (oy_ln T l) 1).2 → τ 10 0 18 0 = (sp_d2 (oy_ln T l)).2 → τ 10 0 19 0 = 0 → τ 10 0 20 0 = 0 → (sp_nu (oy_ln T l) 1).2 ≤ (sp_d2 (oy_ln T l)).2 →
      ∃ σ', J_Mod_date_97 (l : Int) 1 (oy_at τ (sp_d2 (oy_ln T l)).1) = some (oy_b (sp_date (oy_ln T l)), σ') ∧ oy_fr oy_sp σ σ' ∧ ∀ v, sp_date (oy_ln T l) = some v → σ' 10 0 17 0 = v.1 ∧ σ' 10 0 18 0 = v.2.1 ∧ σ' 10 0 19 0 = v.2.2.1 ∧ σ' 10 0 20 0 = v.2.2.2 := by
    intro τ hMt hft t17 t18 t19 t20 hle
    have hc : oy_wk (oy_ln T l) 0 = 64 ∧ 0 ≤ (sp_nu (oy_ln T l) 1).2 ∧ (sp_nu (oy_ln T l) 1).2 ≤ (sp_d2 (oy_ln T l)).2 := ⟨h0, by omega, hle⟩
    unfold J_Mod_date_97
    rw [if_neg oy_10]
    by_cases h4 : oy_wk (oy_ln T l) (sp_d2 (oy_ln T l)).1 = 43
    rotate_left
    · rw [om_tk0 hT hMt hl (by omega) h4, Option.bind_some, if_pos rfl]
      dsimp only
      unfold J_Mod_date_178 J_Mod_date_194 J_Mod_date_195
      rw [if_neg oy_10]
      by_cases h5 : (sp_d2 (oy_ln T l)).1 = (oy_ln T l).length
      · rw [om_en1 hT hMt hl h5, Option.bind_some, if_neg oy_10]
        have hs : sp_date (oy_ln T l) = some ((sp_nu (oy_ln T l) 1).2, (sp_d2 (oy_ln T l)).2, 0, 0) := by unfold sp_date; rw [if_pos hc, if_neg h4, if_pos h5]
        rw [hs]
        refine ⟨_, rfl, hft.up rfl, fun v hv => ?_⟩
        cases hv
        rw [oy_at_ne (by decide), oy_at_ne (by decide), oy_at_ne (by decide), oy_at_ne (by decide)]
        exact ⟨t17, t18, t19, t20⟩
      · rw [om_en0 hT hMt hl h5, Option.bind_some, if_pos rfl]
        exact no _ (hft.up rfl) (by unfold sp_date; rw [if_pos hc, if_neg h4, if_neg h5])
    rw [om_tk1 hT hMt hl (by omega) rfl h4, Option.bind_some, if_neg oy_10, om_number hT hMt hl (by omega), Option.bind_some]
    dsimp only
    rw [oy_at_com (by decide)]
    have e3 : sp_nu (oy_ln T l) ((sp_d2 (oy_ln T l)).1 + 1) = sp_d3 (oy_ln T l) := rfl
    rw [e3] at hn3 ⊢
    have hM3 : oy_M T (ox_up τ 10 0 19 0 (sp_d3 (oy_ln T l)).2) := oy_M_up hMt rfl
    have fin : ∀ g : Int, J_Mod_date_132 (l : Int) g (oy_at (ox_up τ 10 0 19 0 (sp_d3 (oy_ln T l)).2) (sp_d3 (oy_ln T l)).1) = J_Mod_date_178 (l : Int) g (oy_at (ox_up (ox_up τ 10 0 19 0 (sp_d3 (oy_ln T l)).2) 10 0 20 0 (oy_wk (oy_ln T l) (sp_d3 (oy_ln T l)).1)) (if oy_wk (oy_ln T l) (sp_d3 (oy_ln T l)).1 = 43 ∨ oy_wk (oy_ln T l) (sp_d3 (oy_ln T l)).1 = 46 then (sp_d3 (oy_ln T l)).1 + 1 else (sp_d3 (oy_ln T l)).1)) := by
      intro g
      unfold J_Mod_date_132 J_Mod_date_169 J_Mod_date_174
      rw [oy_at_get, om_look hT (oy_at_M hM3) hl (by omega), Option.bind_some, oy_at_com (by decide)]
      have h20 : (sp_d3 (oy_ln T l)).1 ≤ 20 := by omega
      generalize (sp_d3 (oy_ln T l)).1 = a9 at h20 ⊢
      rw [oy_w1 (by omega), Int.add_zero, oy_w (x := (a9 : Int)) (by omega) (by omega), oy_at_up, oy_at_up]
      by_cases q1 : oy_wk (oy_ln T l) a9 = 43
      · rw [if_pos q1, if_pos (Or.inl q1)]
      · rw [if_neg q1]
        by_cases q2 : oy_wk (oy_ln T l) a9 = 46
        · rw [if_pos q2, if_pos (Or.inr q2)]
        · rw [if_neg q2, if_neg (fun q => q.elim q1 q2)]
    rw [fin, fin]
    by_cases h6 : (sp_d3 (oy_ln T l)).2 ≤ 0
    · rw [if_pos h6, bad2]
      exact no _ (((hft.up rfl).up rfl).up rfl) (by unfold sp_date; rw [if_pos hc, if_pos h4, if_neg (fun q => by have := q.1; omega)])
    rw [if_neg h6]
    unfold J_Mod_date_178 J_Mod_date_194 J_Mod_date_195
    rw [if_neg oy_10]
    by_cases h7 : (if oy_wk (oy_ln T l) (sp_d3 (oy_ln T l)).1 = 43 ∨ oy_wk (oy_ln T l) (sp_d3 (oy_ln T l)).1 = 46 then (sp_d3 (oy_ln T l)).1 + 1 else (sp_d3 (oy_ln T l)).1) = (oy_ln T l).length
    · rw [om_en1 hT (oy_M_up hM3 rfl) hl h7, Option.bind_some, if_neg oy_10]
      have hs : sp_date (oy_ln T l) = some ((sp_nu (oy_ln T l) 1).2, (sp_d2 (oy_ln T l)).2, (sp_d3 (oy_ln T l)).2, oy_wk (oy_ln T l) (sp_d3 (oy_ln T l)).1) := by unfold sp_date; rw [if_pos hc, if_pos h4, if_pos ⟨by omega, h7⟩]
      rw [hs]
      refine ⟨_, rfl, ((hft.up rfl).up rfl).up rfl, fun v hv => ?_⟩
      cases hv
      rw [oy_at_ne (by decide), oy_at_ne (by decide), oy_at_ne (by decide), oy_at_ne (by decide)]
      refine ⟨?_, ?_, ?_, oy_up_same⟩
      · rw [oy_up_ne (by decide), oy_up_ne (by decide)]; exact t17
      · rw [oy_up_ne (by decide), oy_up_ne (by decide)]; exact t18
      · rw [oy_up_ne (by decide)]; exact oy_up_same
    · rw [om_en0 hT (oy_M_up hM3 rfl) hl h7, Option.bind_some, if_pos rfl]
      exact no _ (((hft.up rfl).up rfl).up rfl) (by unfold sp_date; rw [if_pos hc, if_pos h4, if_neg (fun q => h7 q.2)])
  unfold J_Mod_date_56
  rw [if_neg oy_10]
  generalize hτ : ox_up (ox_up (ox_up (ox_up σ 10 0 17 0 (sp_nu (oy_ln T l) 1).2) 10 0 18 0 (sp_nu (oy_ln T l) 1).2) 10 0 19 0 0) 10 0 20 0 0 = τ
  have hMt : oy_M T τ := by rw [← hτ]; exact oy_M_up (oy_M_up (oy_M_up (oy_M_up hM rfl) rfl) rfl) rfl
  have hft : oy_fr oy_sp σ τ := by rw [← hτ]; exact (((oy_fr.rf.up rfl).up rfl).up rfl).up rfl
  have t17 : τ 10 0 17 0 = (sp_nu (oy_ln T l) 1).2 := by rw [← hτ, oy_up_ne (by decide), oy_up_ne (by decide), oy_up_ne (by decide)]; exact oy_up_same
  have t18 : τ 10 0 18 0 = (sp_nu (oy_ln T l) 1).2 := by rw [← hτ, oy_up_ne (by decide), oy_up_ne (by decide)]; exact oy_up_same
  have t19 : τ 10 0 19 0 = 0 := by rw [← hτ, oy_up_ne (by decide)]; exact oy_up_same
  have t20 : τ 10 0 20 0 = 0 := by rw [← hτ]; exact oy_up_same
  by_cases h5 : oy_wk (oy_ln T l) (sp_nu (oy_ln T l) 1).1 = 45
  rotate_left
  · rw [om_tk0 hT hMt hl (by omega) h5, Option.bind_some, if_pos rfl]
    have e2 : sp_d2 (oy_ln T l) = sp_nu (oy_ln T l) 1 := by unfold sp_d2; rw [if_neg h5]
    have z := go τ hMt hft t17 (by rw [e2]; exact t18) t19 t20 (by rw [e2]; exact Int.le_refl _)
    rw [e2] at z
    exact z
  rw [om_tk1 hT hMt hl (by omega) rfl h5, Option.bind_some, if_neg oy_10, om_number hT hMt hl (by omega), Option.bind_some]
  dsimp only
  have e2 : sp_nu (oy_ln T l) ((sp_nu (oy_ln T l) 1).1 + 1) = sp_d2 (oy_ln T l) := by unfold sp_d2; rw [if_pos h5]
  have e9 : ∀ a : Nat, oy_at τ a 10 0 17 0 = (sp_nu (oy_ln T l) 1).2 := fun a => (oy_at_ne (by decide)).trans t17
  rw [e2, oy_at_com (by decide)]
  simp only [e9]
  by_cases h6 : (sp_d2 (oy_ln T l)).2 < (sp_nu (oy_ln T l) 1).2
  · rw [if_pos h6]
    unfold J_Mod_date_96
    rw [bad]
    exact no _ ((hft.up rfl).up rfl) (by unfold sp_date; rw [if_neg (fun q => by have := q.2.2; omega)])
  rw [if_neg h6]
  unfold J_Mod_date_96
  exact go _ (oy_M_up hMt rfl) (hft.up rfl) (by rw [oy_up_ne (by decide)]; exact t17) oy_up_same (by rw [oy_up_ne (by decide)]; exact t19) (by rw [oy_up_ne (by decide)]; exact t20) (by omega)
end OYB3
