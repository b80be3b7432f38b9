/-! ===== the export: the reference's calls ===== -/
theorem sp_esn_en {T : oy_T} {t : Nat} (ht : t < sp_n T) : (sp_esn T (sp_en T t)).length = t := by
  have h1 := sp_en_lt ht
  have hp := sp_pe_gt (sp_kind_H.mpr h1.2)
  rcases Nat.lt_trichotomy (sp_esn T (sp_en T t)).length t with z | z | z
  · have := sp_en_lt3 z (Nat.le_of_lt ht)
    omega
  · exact z
  · have := sp_en_lt3 z (Nat.le_of_lt hp.2.2.1)
    omega
/-- the slots that a question of the export writes -/
def oy_sre (c j : Nat) : Bool := c == 10 && (decide (11 ≤ j ∧ j ≤ 22) || decide (31 ≤ j ∧ j ≤ 34) || decide (36 ≤ j ∧ j ≤ 46))
theorem oy_sre_of {c j : Nat} (h1 : c = 10) (h2 : (11 ≤ j ∧ j ≤ 22) ∨ (31 ≤ j ∧ j ≤ 34) ∨ (36 ≤ j ∧ j ≤ 46)) : oy_sre c j = true := by
  unfold oy_sre
  rw [Bool.and_eq_true, Bool.or_eq_true, Bool.or_eq_true, decide_eq_true_eq, decide_eq_true_eq, decide_eq_true_eq, beq_iff_eq]
  exact ⟨h1, by omega⟩
theorem oy_sxa_e {c j : Nat} (h : oy_sxa c j = true) : oy_sre c j = true := by
  unfold oy_sxa at h
  rw [Bool.and_eq_true, Bool.or_eq_true, Bool.or_eq_true, decide_eq_true_eq, decide_eq_true_eq, decide_eq_true_eq, beq_iff_eq] at h
  exact oy_sre_of h.1 (by omega)
theorem oy_sq_e {c j : Nat} (h : oy_sq c j = true) : oy_sre c j = true := by
  unfold oy_sq at h
  rw [Bool.and_eq_true, Bool.and_eq_true, decide_eq_true_eq, decide_eq_true_eq, beq_iff_eq] at h
  exact oy_sre_of h.1 (Or.inl h.2)
section OYN7
variable {T O : oy_T} {σ : ox_H} {f : Nat → Nat → Int}
theorem om_xloop (hT : oy_ok T) (hfi : oy_fin T f) : ∀ (N n : Nat) (L : List (Nat × Nat × Nat)) (O : oy_T) (σ : ox_H), 130 * (100 - O.length) + oy_xw L ≤ N → 2 * N < n → oy_xI T f L O σ → ∃ τ, ox_lp B_Mod_export_48 n σ = some τ ∧ oy_fr oy_sxa σ τ ∧ oy_xz T f τ ∧ oy_xm ((O ++ oy_xp T f L).take 100) τ := by
  intro N
  induction N with
  | zero =>
    intro n L O σ hN hn h
    cases L with
    | cons x L =>
      exfalso
      rw [oy_xw] at hN
      omega
    | nil =>
      obtain ⟨n', rfl⟩ : ∃ n', n = n' + 1 := ⟨n - 1, by omega⟩
      have h31 : σ 10 0 31 0 = -1 := h.2.2.1
      refine ⟨σ, oy_lp_m (X := some σ) ?_, oy_fr.rf, h.1, ?_⟩
      · unfold B_Mod_export_48 J_Mod_export_207
        rw [h31, if_pos (by decide)]
      · rw [oy_xp, List.append_nil, List.take_of_length_le (show O.length ≤ 100 from h.2.1.1.1)]
        exact h.2.1
  | succ N ih =>
    intro n L O σ hN hn h
    have h60 := hT.1
    obtain ⟨n', rfl⟩ : ∃ n', n = n' + 1 := ⟨n - 1, by omega⟩
    have hc : O.length ≤ 100 := h.2.1.1.1
    cases L with
    | nil =>
      have h31 : σ 10 0 31 0 = -1 := h.2.2.1
      refine ⟨σ, oy_lp_m (X := some σ) ?_, oy_fr.rf, h.1, ?_⟩
      · unfold B_Mod_export_48 J_Mod_export_207
        rw [h31, if_pos (by decide)]
      · rw [oy_xp, List.append_nil, List.take_of_length_le hc]
        exact h.2.1
    | cons x L =>
      obtain ⟨p, e, m⟩ := x
      have hL : ((p, e, m) :: L).length = L.length + 1 := rfl
      have h31 : σ 10 0 31 0 = (L.length : Int) := by
        have := h.2.2.1
        rw [hL] at this
        omega
      have hL4 : L.length + 1 ≤ 4 := h.2.2.2.2.2
      rw [oy_xw] at hN
      dsimp only at hN
      by_cases q : O.length < 100
      rotate_left
      · refine ⟨σ, oy_lp_m (X := some σ) ?_, oy_fr.rf, h.1, ?_⟩
        · unfold B_Mod_export_48 J_Mod_export_207
          rw [h31, h.2.1.2.1, if_neg (by omega), if_pos (by omega)]
        · rw [List.take_append_of_le_length (by omega), List.take_of_length_le hc]
          exact h.2.1
      have h32 : σ 10 0 32 L.length = (p : Int) := h.2.2.2.1.1.1
      have h33 : σ 10 0 33 L.length = (e : Int) := h.2.2.2.1.1.2.1
      have hve : e ≤ T.length := h.2.2.2.2.1.1.1
      by_cases hp : p < e
      rotate_left
      · have f0 : oy_fr oy_sx4 σ (ox_up σ 10 0 31 0 ((L.length : Int) - 1)) := oy_fr.rf.up rfl
        have I0 : oy_xI T f L O (ox_up σ 10 0 31 0 ((L.length : Int) - 1)) := h.sx4 f0 oy_up_same (h.2.2.2.1.2.lo (fun j i a b c => oy_up_ne (by omega))) h.2.2.2.2.1.2 (by omega)
        obtain ⟨τ, e1, f1, z1, m1⟩ := ih n' L O _ (by omega) (by omega) I0
        refine ⟨τ, (oy_lp_l (a' := ox_up σ 10 0 31 0 ((L.length : Int) - 1)) ?_).trans e1, (f0.mono (fun _ _ => oy_sx4_a)).tr f1, z1, ?_⟩
        · have c0 : 0 ≤ (L.length : Int) ∧ (L.length : Int).toNat < 4 := by omega
          unfold B_Mod_export_48 J_Mod_export_204
          rw [h31, h.2.1.2.1, if_neg (by omega), if_neg (by omega), if_pos c0, if_pos c0, Int.toNat_natCast, h32, h33, if_neg (by omega), oy_w (by omega) (by omega)]
        · rw [oy_xp, sp_px_nil (show e ≤ p by omega), List.nil_append]
          exact m1
      by_cases hk : sp_kind (oy_ln T p) = 0
      · obtain ⟨σ1, e1, f1, d1, d2⟩ := om_xhd hT hfi h hp q hk
        by_cases qd : sp_dpd T p
        · have hpe := sp_pe_gt hk
          obtain ⟨τ, e2, f2, z2, m2⟩ := ih n' _ O σ1 (by rw [oy_xw]; dsimp only; omega) (by omega) (d1 qd)
          refine ⟨τ, (oy_lp_l e1).trans e2, f1.tr f2, z2, ?_⟩
          rw [oy_xp]
          dsimp only
          rw [sp_px_drop hp qd]
          exact m2
        · obtain ⟨τ, e2, f2, z2, m2⟩ := ih n' _ (O ++ [sp_xl T f p m]) σ1 (by rw [oy_xw, List.length_append]; dsimp only; have : ([sp_xl T f p m] : oy_T).length = 1 := rfl; omega) (by omega) (d2 qd)
          refine ⟨τ, (oy_lp_l e1).trans e2, f1.tr f2, z2, ?_⟩
          rw [oy_xp]
          dsimp only
          have ei : sp_xi (sp_ic T f (3 - L.length)) T f p m = [sp_xl T f p m] := by
            unfold sp_xi
            rw [if_neg (by omega), if_pos (Or.inl hk)]
          rw [sp_px_step hp qd, ei]
          rw [oy_xp] at m2
          dsimp only at m2
          rw [List.append_assoc] at m2
          rw [List.append_assoc]
          exact m2
      have qd : ¬ sp_dpd T p := fun z => hk z.1
      by_cases h6 : sp_kind (oy_ln T p) = 6 ∧ L.length < 3
      · have ei : sp_xi (sp_ic T f (3 - L.length)) T f p m = sp_ic T f (3 - L.length) p m := by
          unfold sp_xi
          rw [if_pos h6.1]
        obtain ⟨σ1, e1, f1, d1⟩ := om_xinc hT hfi h hp q h6.1 h6.2
        rcases d1 with ⟨d0, I1⟩ | ⟨t, s, ht, eic, I1⟩
        · obtain ⟨τ, e2, f2, z2, m2⟩ := ih n' _ O σ1 (by rw [oy_xw]; dsimp only; omega) (by omega) I1
          refine ⟨τ, (oy_lp_l e1).trans e2, f1.tr f2, z2, ?_⟩
          rw [oy_xp]
          dsimp only
          rw [sp_px_step hp qd, ei, d0, List.nil_append]
          exact m2
        · obtain ⟨n'', rfl⟩ : ∃ n'', n' = n'' + 1 := ⟨n' - 1, by omega⟩
          have h1 := sp_en_lt ht
          have hkt : sp_kind (oy_ln T (sp_en T t)) = 0 := sp_kind_H.mpr h1.2
          have hla := sp_la_in ht
          have hlt := sp_en_lt3 hla.1 hla.2
          have hle := sp_en_le (T := T) (sp_la T t)
          have hpe : sp_pe T (sp_en T t) = sp_en T (sp_la T t) := by
            unfold sp_pe
            rw [sp_esn_en ht]
          obtain ⟨σ2, e2, f2, d1, d2⟩ := om_xhd hT hfi I1 hlt q hkt
          have eL : ((p + 1, e, m) :: L).length = L.length + 1 := rfl
          by_cases qt : sp_dpd T (sp_en T t)
          · obtain ⟨τ, e3, f3, z3, m3⟩ := ih n'' _ O σ2 (by rw [oy_xw, oy_xw, hpe]; dsimp only; omega) (by omega) (d1 qt)
            refine ⟨τ, (oy_lp_l e1).trans ((oy_lp_l e2).trans e3), f1.tr (f2.tr f3), z3, ?_⟩
            rw [oy_xp]
            dsimp only
            rw [sp_px_step hp qd, ei, eic, sp_px_drop hlt qt, List.append_assoc]
            exact m3
          · obtain ⟨τ, e3, f3, z3, m3⟩ := ih n'' _ (O ++ [sp_xl T f (sp_en T t) s]) σ2 (by rw [oy_xw, oy_xw, List.length_append]; dsimp only; have : ([sp_xl T f (sp_en T t) s] : oy_T).length = 1 := rfl; omega) (by omega) (d2 qt)
            refine ⟨τ, (oy_lp_l e1).trans ((oy_lp_l e2).trans e3), f1.tr (f2.tr f3), z3, ?_⟩
            rw [oy_xp]
            dsimp only
            have ei2 : sp_xi (sp_ic T f (3 - (L.length + 1))) T f (sp_en T t) s = [sp_xl T f (sp_en T t) s] := by
              unfold sp_xi
              rw [if_neg (by omega), if_pos (Or.inl hkt)]
            rw [sp_px_step hp qd, ei, eic, sp_px_step hlt qt, ei2, List.append_assoc, List.append_assoc]
            rw [oy_xp] at m3
            dsimp only at m3
            rw [List.append_assoc] at m3
            exact m3
      · obtain ⟨σ1, e1, f1, I1⟩ := om_xln hT hfi h hp q hk (by
          by_cases z : sp_kind (oy_ln T p) = 6
          · exact Or.inr (by
              have : ¬ L.length < 3 := fun y => h6 ⟨z, y⟩
              omega)
          · exact Or.inl z)
        obtain ⟨τ, e2, f2, z2, m2⟩ := ih n' _ _ σ1 (by rw [oy_xw, List.length_append]; dsimp only; omega) (by omega) I1
        refine ⟨τ, (oy_lp_l e1).trans e2, f1.tr f2, z2, ?_⟩
        rw [oy_xp]
        dsimp only
        rw [sp_px_step hp qd, List.append_assoc]
        rw [List.append_assoc] at m2
        exact m2
end OYN7
