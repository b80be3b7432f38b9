/-! ===== the call state: the reference ===== -/
section OYG9
variable {T : oy_T} {σ : ox_H}
theorem om_apE {l : Nat} {w : List Int} {τ : ox_H} {x : Int} (hT : oy_ok T) (hg : oy_good 0 w) (hl : l < T.length) (h : oy_M (sp_put T l w) τ) (hr : w.length < 24) (hx : 32 ≤ x ∧ x ≤ 126) : ∃ τ', F_Mod_add1 (l : Int) x τ = some τ' ∧ oy_fr oy_mx1 τ τ' ∧ oy_M (sp_put T l (w ++ [x])) τ' ∧ oy_good 0 (w ++ [x]) := by
  have hat : oy_ln (sp_put T l w) l = w := sp_put_at hl
  obtain ⟨τ', e', f', d'⟩ := om_add1 (oy_ok_put hT hg) h (by rw [sp_put_len]; exact hl) (by rw [hat]; exact hr) x
  rw [hat, sp_put_put] at d'
  exact ⟨τ', e', f', d', oy_good_app hg hr hx⟩
theorem om_apN {l : Nat} {w : List Int} {τ : ox_H} {v : Int} (hT : oy_ok T) (hg : oy_good 0 w) (hl : l < T.length) (h : oy_M (sp_put T l w) τ) (hv : 0 ≤ v ∧ v ≤ 9999) (hr : w.length + 4 ≤ 24) : ∃ τ', F_Mod_add (l : Int) v τ = some τ' ∧ oy_fr oy_mx1 τ τ' ∧ oy_M (sp_put T l (w ++ sp_dgs v)) τ' ∧ oy_good 0 (w ++ sp_dgs v) := by
  have hat : oy_ln (sp_put T l w) l = w := sp_put_at hl
  have hd := sp_dgs_len (v := v) hv.2
  obtain ⟨τ', e', f', d'⟩ := om_add (oy_ok_put hT hg) h (l := l) (v := v) (by rw [sp_put_len]; exact hl) hv (by rw [hat]; omega)
  rw [hat, sp_put_put] at d'
  exact ⟨τ', e', f', d', oy_good_app2 hg (sp_dr_good (by omega) 6 (by omega)) (by show _ ≤ 24; have : (sp_dr v 6) = sp_dgs v := rfl; omega)⟩
/-- the state told behind the change -/
theorem om_st410 {T' : oy_T} {τ ρ : ox_H} {e : Nat} (he : e < sp_n T) (hT' : oy_ok T') (hse : oy_se T T') (hF : oy_F T τ) (hM : oy_M T' ρ) (hf : oy_fr oy_m3 τ ρ) : ∃ ρ', J_Mod_state_410 (e : Int) ρ = some (sp_es_st T' e, ρ') ∧ oy_fr oy_m3 τ ρ' ∧ oy_M T' ρ' := by
  obtain ⟨n1, n2⟩ := oy_se_n hse
  have F' := oy_se_F hse hM (fun x => hf 10 0 21 x rfl) (hf 10 0 22 0 rfl) hF
  obtain ⟨ρ1, t1, t2⟩ := om_stateOf hT' F' (e := e) (by omega)
  unfold J_Mod_state_410
  rw [t1, Option.bind_some]
  exact ⟨ρ1, rfl, hf.tr (t2.mono (fun c j h => oy_sp_3 h)), hM.fr t2 rfl rfl rfl⟩
/-- the change itself, no date -/
theorem om_st308 (hT : oy_ok T) {τ : ox_H} (hF : oy_F T τ) {e : Nat} (he : e < sp_n T) {s : Int} (hs : -1 ≤ s ∧ s ≤ 3) (hr : sp_roomS T e s = true) (v6 v7 v8 v10 : Int) : ∃ τ', J_Mod_state_308 (e : Int) v6 v7 v8 0 v10 s 0 τ = some (sp_es_st (sp_putS T e s) e, τ') ∧ oy_fr oy_mt τ τ' ∧ oy_M (sp_putS T e s) τ' ∧ τ' 10 0 46 0 = 0 := by
  have h60 := hT.1
  have hn := sp_n_le (T := T)
  have hen := sp_en_lt he
  have F0 : oy_F T (ox_up τ 10 0 46 0 0) := hF.fr (S := fun c j => c == 10 && j == 46) (oy_fr.rf.up rfl) rfl rfl rfl rfl rfl
  have g0 : oy_fr oy_mt τ (ox_up τ 10 0 46 0 0) := oy_mt_up oy_fr.rf (Or.inr (Or.inr rfl))
  have w0 : (ox_up τ 10 0 46 0 0) 10 0 46 0 = 0 := oy_up_same
  unfold J_Mod_state_308
  rw [om_holds, if_pos (Int.le_refl _), Option.bind_some, if_pos rfl]
  dsimp only
  generalize ox_up τ 10 0 46 0 0 = τ0 at F0 g0 w0 ⊢
  have e21 : τ0 10 0 21 e = (sp_en T e : Int) := F0.2.2 e (by omega)
  obtain ⟨ρ, t1, t2, t3⟩ := om_write hT F0.1 hen.1 hen.2 hs (of_decide_eq_true hr)
  obtain ⟨ρ', u1, u2, u3⟩ := om_st410 (T' := sp_putS T e s) he (sp_putS_ok hT he hs.2 hr) (sp_putS_se he) F0 t3 t2
  rw [if_pos (show 0 ≤ (e : Int) ∧ (e : Int).toNat < 61 by omega), Int.toNat_natCast, e21, t1, Option.bind_some, if_pos (Int.le_refl _)]
  exact ⟨ρ', u1, g0.tr (oy_mt_m3 u2), u3, (u2 10 0 46 0 rfl).trans w0⟩
/-- the change with a date that goes on -/
theorem om_st308d (hT : oy_ok T) {τ : ox_H} (hF : oy_F T τ) {e : Nat} (he : e < sp_n T) {v : Int × Int × Int × Int} {td : Int} (htd : 0 ≤ td ∧ td ≤ 9999) (hmb : sp_mb T e = true) (hrep : sp_rep T e = some v) (hl9 : sp_nd td v + v.2.1 - v.1 ≤ 9999) (hr : sp_roomS T e 0 = true) : ∃ τ', J_Mod_state_308 (e : Int) (sp_dl T e : Int) (sp_nd td v) (sp_nd td v + v.2.1 - v.1) v.2.2.1 v.2.2.2 0 0 τ = some (sp_es_st (sp_put (sp_putS T e 0) (sp_dl T e) (sp_repD td v)) e, τ') ∧ oy_fr oy_mt τ τ' ∧ oy_M (sp_put (sp_putS T e 0) (sp_dl T e) (sp_repD td v)) τ' ∧ τ' 10 0 46 0 = 0 := by
  have h60 := hT.1
  have hn := sp_n_le (T := T)
  have hen := sp_en_lt he
  obtain ⟨r1, r2, r3⟩ := sp_rep_some hrep
  have hin := sp_date_in r2
  have hnd := sp_nd_in r2 htd r3
  have hmk := sp_date_mark r2
  have hdl := sp_dl_in he r1
  have hst : sp_stT T td e 2 = some (sp_put (sp_putS T e 0) (sp_dl T e) (sp_repD td v)) := by
    unfold sp_stT
    rw [if_pos rfl, if_pos hmb, hrep]
    dsimp only
    rw [if_pos ⟨hl9, hr⟩]
  obtain ⟨hT', hse⟩ := sp_stT_ok hT he (by decide) htd hst
  have l1 := sp_dgs_len (v := sp_nd td v) (by omega)
  have l2 := sp_dgs_len (v := sp_nd td v + v.2.1 - v.1) hl9
  have l3 := sp_dgs_len (v := v.2.2.1) (by omega)
  have F0 : oy_F T (ox_up τ 10 0 46 0 0) := hF.fr (S := fun c j => c == 10 && j == 46) (oy_fr.rf.up rfl) rfl rfl rfl rfl rfl
  have g0 : oy_fr oy_mt τ (ox_up τ 10 0 46 0 0) := oy_mt_up oy_fr.rf (Or.inr (Or.inr rfl))
  have w0 : (ox_up τ 10 0 46 0 0) 10 0 46 0 = 0 := oy_up_same
  unfold J_Mod_state_308
  rw [om_holds, if_pos (Int.le_refl _), Option.bind_some, if_pos rfl]
  dsimp only
  generalize ox_up τ 10 0 46 0 0 = τ0 at F0 g0 w0 ⊢
  have e21 : τ0 10 0 21 e = (sp_en T e : Int) := F0.2.2 e (by omega)
  have hT1 := sp_putS_ok hT he (s := 0) (by decide) hr
  have hl1 : sp_dl T e < (sp_putS T e 0).length := by unfold sp_putS; rw [sp_put_len]; exact hdl.2
  have hat : oy_ln (sp_putS T e 0) (sp_dl T e) = oy_ln T (sp_dl T e) := by
    unfold sp_putS
    rw [sp_put_ln hdl.2, if_neg (by omega)]
  obtain ⟨ρ, t1, t2, t3⟩ := om_write hT F0.1 hen.1 hen.2 (s := 0) (by decide) (of_decide_eq_true hr)
  have t3 : oy_M (sp_putS T e 0) ρ := t3
  have hlen : 1 ≤ (oy_ln T (sp_dl T e)).length := oy_wk_lt (w := oy_ln T (sp_dl T e)) (p := 0) (by rw [hmk.2]; decide)
  have M1 : oy_M (sp_put (sp_putS T e 0) (sp_dl T e) [64]) (ox_up ρ 10 0 1 (sp_dl T e) 1) := om_putM hT1 t3 (oy_up_ne (by decide)) (fun i hi => oy_up_ni hi) oy_up_same (fun i hi => oy_up_ne (by decide)) (fun p hp => by
    have hp0 : p = 0 := by have : ([64] : List Int).length = 1 := rfl; omega
    rw [hp0, oy_up_ne (by decide), t3.2.2 (sp_dl T e) 0 hl1 (by rw [hat]; exact hlen), hat, hmk.2]
    rfl)
  have g64 : oy_good 0 [64] := ⟨by show 1 ≤ 24; omega, fun y hy => by rw [List.mem_singleton.mp hy]; decide⟩
  obtain ⟨ρ2, x2, f2, m2, q2⟩ := om_apN (v := sp_nd td v) hT1 g64 hl1 M1 (by omega) (by decide)
  have f02 : oy_fr oy_m3 τ0 ρ2 := (t2.up (by rfl)).tr (f2.mono (fun c j h => oy_mx1_3 h))
  rw [if_pos (show 0 ≤ (e : Int) ∧ (e : Int).toNat < 61 by omega), Int.toNat_natCast, e21, t1, Option.bind_some, if_neg (show ¬ v.2.2.1 ≤ 0 by omega), if_pos (show 0 ≤ (sp_dl T e : Int) ∧ (sp_dl T e : Int).toNat < 60 by omega), Int.toNat_natCast, x2, Option.bind_some]
  /- the end -/
  have fin : ∀ (w : List Int) (ρ3 : ox_H), w.length ≤ 10 → oy_good 0 w → oy_M (sp_put (sp_putS T e 0) (sp_dl T e) w) ρ3 → oy_fr oy_m3 τ0 ρ3 → sp_repD td v = (w ++ [43] ++ sp_dgs v.2.2.1) ++ (if v.2.2.2 = 0 then [] else [v.2.2.2]) → ∃ τ', J_Mod_state_372 (e : Int) (sp_dl T e : Int) v.2.2.1 v.2.2.2 ρ3 = some (sp_es_st (sp_put (sp_putS T e 0) (sp_dl T e) (sp_repD td v)) e, τ') ∧ oy_fr oy_mt τ τ' ∧ oy_M (sp_put (sp_putS T e 0) (sp_dl T e) (sp_repD td v)) τ' ∧ τ' 10 0 46 0 = 0 := by
    intro w ρ3 hwl hwg hM3 hf3 heq
    obtain ⟨ρ4, x4, f4, m4, q4⟩ := om_apE (x := 43) hT1 hwg hl1 hM3 (by omega) (by decide)
    obtain ⟨ρ5, x5, f5, m5, q5⟩ := om_apN (v := v.2.2.1) hT1 q4 hl1 m4 (by omega) (by rw [List.length_append]; show w.length + 1 + 4 ≤ 24; omega)
    have f05 : oy_fr oy_m3 τ0 ρ5 := (hf3.tr (f4.mono (fun c j h => oy_mx1_3 h))).tr (f5.mono (fun c j h => oy_mx1_3 h))
    have done : ∀ ρ6 : ox_H, oy_M (sp_put (sp_putS T e 0) (sp_dl T e) (sp_repD td v)) ρ6 → oy_fr oy_m3 τ0 ρ6 → ∃ τ', J_Mod_state_410 (e : Int) ρ6 = some (sp_es_st (sp_put (sp_putS T e 0) (sp_dl T e) (sp_repD td v)) e, τ') ∧ oy_fr oy_mt τ τ' ∧ oy_M (sp_put (sp_putS T e 0) (sp_dl T e) (sp_repD td v)) τ' ∧ τ' 10 0 46 0 = 0 := by
      intro ρ6 h6 f6
      obtain ⟨ρ', u1, u2, u3⟩ := om_st410 he hT' hse F0 h6 f6
      exact ⟨ρ', u1, g0.tr (oy_mt_m3 u2), u3, (u2 10 0 46 0 rfl).trans w0⟩
    unfold J_Mod_state_372
    rw [x4, Option.bind_some, x5, Option.bind_some]
    by_cases hz : v.2.2.2 = 0
    · rw [if_neg (show ¬ v.2.2.2 = 43 by omega), if_neg (show ¬ v.2.2.2 = 46 by omega)]
      rw [if_pos hz, List.append_nil] at heq
      exact done ρ5 (by rw [heq]; exact m5) f05
    · obtain ⟨ρ6, x6, f6, m6, q6⟩ := om_apE (x := v.2.2.2) hT1 q5 hl1 m5 (by rw [List.length_append, List.length_append]; show w.length + 1 + _ < 24; omega) (by omega)
      rw [if_neg hz] at heq
      have f06 : oy_fr oy_m3 τ0 ρ6 := f05.tr (f6.mono (fun c j h => oy_mx1_3 h))
      have hJ : ∃ τ', J_Mod_state_402 (e : Int) (sp_dl T e : Int) v.2.2.2 ρ5 = some (sp_es_st (sp_put (sp_putS T e 0) (sp_dl T e) (sp_repD td v)) e, τ') ∧ oy_fr oy_mt τ τ' ∧ oy_M (sp_put (sp_putS T e 0) (sp_dl T e) (sp_repD td v)) τ' ∧ τ' 10 0 46 0 = 0 := by
        unfold J_Mod_state_402
        rw [x6, Option.bind_some]
        exact done ρ6 (by rw [heq]; exact m6) f06
      by_cases h43 : v.2.2.2 = 43
      · rw [if_pos h43]
        exact hJ
      · rw [if_neg h43, if_pos (show v.2.2.2 = 46 by omega)]
        exact hJ
  by_cases q : v.2.1 = v.1
  · rw [if_pos (show sp_nd td v + v.2.1 - v.1 ≤ sp_nd td v by omega)]
    refine fin ([64] ++ sp_dgs (sp_nd td v)) ρ2 (by rw [List.length_append]; show 1 + _ ≤ 10; omega) q2 m2 f02 ?_
    unfold sp_repD sp_dw
    rw [if_pos (show sp_nd td v + v.2.1 - v.1 = sp_nd td v by omega), List.append_nil]
  · obtain ⟨ρ4, x4, f4, m4, q4⟩ := om_apE (x := 45) hT1 q2 hl1 m2 (by rw [List.length_append]; show 1 + _ < 24; omega) (by decide)
    obtain ⟨ρ5, x5, f5, m5, q5⟩ := om_apN (v := sp_nd td v + v.2.1 - v.1) hT1 q4 hl1 m4 (by omega) (by rw [List.length_append, List.length_append]; show 1 + _ + 1 + 4 ≤ 24; omega)
    have f05 : oy_fr oy_m3 τ0 ρ5 := (f02.tr (f4.mono (fun c j h => oy_mx1_3 h))).tr (f5.mono (fun c j h => oy_mx1_3 h))
    rw [if_neg (show ¬ sp_nd td v + v.2.1 - v.1 ≤ sp_nd td v by omega), x4, Option.bind_some, x5, Option.bind_some]
    refine fin _ ρ5 (by rw [List.length_append, List.length_append, List.length_append]; show 1 + _ + 1 + _ ≤ 10; omega) q5 m5 f05 ?_
    unfold sp_repD sp_dw
    rw [if_neg (show ¬ sp_nd td v + v.2.1 - v.1 = sp_nd td v by omega), List.append_assoc ([64] ++ sp_dgs (sp_nd td v)) [45]]
/-- how often the date goes on -/
theorem om_st129 {v1 v2 v5 v6 : Int} {w : List Int} {v : Int × Int × Int × Int} {td : Int} {τ : ox_H} (hv : sp_date w = some v) (htd : 0 ≤ td ∧ td ≤ 9999) (hd : 0 < v.2.2.1) (h23 : τ 10 0 23 0 = td) : ∀ b0 : Int, b0 = (if v.2.2.2 = 46 then td + v.2.2.1 - v.1 else v.2.2.1) → J_Mod_state_129 v1 v2 1 1 v5 v6 v.1 v.2.1 v.2.2.1 v.2.2.2 b0 τ = J_Mod_state_158 v1 v2 1 1 v5 v6 v.1 v.2.1 v.2.2.1 v.2.2.2 (sp_nd td v - v.1) τ := by
  intro b0 hb0
  have hin := sp_date_in hv
  have hmk := sp_date_mark hv
  have hnd := sp_nd_in hv htd hd
  unfold J_Mod_state_129
  by_cases h46 : v.2.2.2 = 46
  · rw [if_pos h46] at hb0
    have e : sp_nd td v - v.1 = b0 := by unfold sp_nd; rw [if_pos h46, hb0]
    rw [e]
    refine oy_lp_m (n := 99999) ?_
    unfold B_Mod_state_129
    rw [if_neg (by omega)]
  rw [if_neg h46] at hb0
  by_cases h43 : v.2.2.2 = 43
  rotate_left
  · have e : sp_nd td v - v.1 = b0 := by unfold sp_nd; rw [if_neg h46, if_neg (fun q => h43 q.1), hb0]; omega
    rw [e]
    refine oy_lp_m (n := 99999) ?_
    unfold B_Mod_state_129
    rw [if_neg h43]
  by_cases h1 : v.1 ≤ td
  rotate_left
  · have e : sp_nd td v - v.1 = b0 := by unfold sp_nd; rw [if_neg h46, if_neg (fun q => h1 q.2), hb0]; omega
    rw [e]
    refine oy_lp_m (n := 99999) ?_
    unfold B_Mod_state_129
    rw [if_pos h43, if_pos (show τ 10 0 23 0 < ox_w (v.1 + b0) by rw [h23, oy_w (by omega) (by omega)]; omega)]
  have hx := hnd.2.2 h1
  have e : sp_nd td v - v.1 = v.2.2.1 * (Int.tdiv (td - v.1) v.2.2.1 + 1) := by unfold sp_nd; rw [if_neg h46, if_pos ⟨h43, h1⟩]; omega
  obtain ⟨q, hq⟩ : ∃ q : Nat, Int.tdiv (td - v.1) v.2.2.1 = (q : Int) := ⟨(Int.tdiv (td - v.1) v.2.2.1).toNat, by omega⟩
  rw [hq] at e hx
  rw [e]
  have hmul : ∀ j : Nat, v.2.2.1 * ((j : Int) + 1) = v.2.2.1 * (j : Int) + v.2.2.1 := fun j => by rw [Int.mul_add, Int.mul_one]
  have hmono : ∀ j : Nat, j ≤ q → 0 ≤ v.2.2.1 * (j : Int) ∧ v.2.2.1 * (j : Int) ≤ v.2.2.1 * (q : Int) := fun j hj => ⟨Int.mul_nonneg (by omega) (by omega), Int.mul_le_mul_of_nonneg_left (by omega) (by omega)⟩
  have hloop : ∀ (f j n : Nat), j + f = q → f < n → ox_lp (B_Mod_state_129 v1 v2 1 1 v5 v6 v.1 v.2.1 v.2.2.1 v.2.2.2 τ) n (v.2.2.1 * ((j : Int) + 1)) = J_Mod_state_158 v1 v2 1 1 v5 v6 v.1 v.2.1 v.2.2.1 v.2.2.2 (v.2.2.1 * ((q : Int) + 1)) τ := by
    intro f
    induction f with
    | zero =>
      intro j n h2 h3
      obtain ⟨n, rfl⟩ : ∃ k, n = k + 1 := ⟨n - 1, by omega⟩
      obtain rfl : j = q := by omega
      refine oy_lp_m ?_
      have hw : τ 10 0 23 0 < ox_w (v.1 + v.2.2.1 * ((j : Int) + 1)) := by
        rw [h23, hmul]
        generalize v.2.2.1 * (j : Int) = x at hx ⊢
        rw [oy_w (by omega) (by omega)]
        omega
      unfold B_Mod_state_129
      rw [if_pos h43, if_pos hw]
    | succ f ih =>
      intro j n h2 h3
      obtain ⟨n, rfl⟩ : ∃ k, n = k + 1 := ⟨n - 1, by omega⟩
      have m1 := hmono (j + 1) (by omega)
      have e1 : ((j + 1 : Nat) : Int) = (j : Int) + 1 := rfl
      rw [e1] at m1
      have hw : ¬ τ 10 0 23 0 < ox_w (v.1 + v.2.2.1 * ((j : Int) + 1)) := by
        rw [h23]
        generalize v.2.2.1 * ((j : Int) + 1) = x at m1 ⊢
        generalize v.2.2.1 * (q : Int) = y at m1 hx
        rw [oy_w (by omega) (by omega)]
        omega
      have hn : ox_w (v.2.2.1 * ((j : Int) + 1) + v.2.2.1) = v.2.2.1 * (((j + 1 : Nat) : Int) + 1) := by
        rw [hmul (j + 1), e1]
        generalize v.2.2.1 * ((j : Int) + 1) = x at m1 ⊢
        generalize v.2.2.1 * (q : Int) = y at m1 hx
        exact oy_w (by omega) (by omega)
      have hB : B_Mod_state_129 v1 v2 1 1 v5 v6 v.1 v.2.1 v.2.2.1 v.2.2.2 τ (v.2.2.1 * ((j : Int) + 1)) = some (.inl (v.2.2.1 * (((j + 1 : Nat) : Int) + 1))) := by
        unfold B_Mod_state_129
        rw [if_pos h43, if_neg hw, hn]
      rw [oy_lp_l hB]
      exact ih (j + 1) n (by omega) (by omega)
  have hq9 : q < 100000 := by omega
  have hb : b0 = v.2.2.1 * (((0 : Nat) : Int) + 1) := by
    rw [hb0]
    show v.2.2.1 = v.2.2.1 * 1
    rw [Int.mul_one]
  rw [hb]
  exact hloop q 0 ox_fu (by omega) hq9
theorem om_statec (hT : oy_ok T) (hM : oy_M T σ) {td : Int} (htd : 0 ≤ td ∧ td ≤ 9999) (h23 : σ 10 0 23 0 = td) {a s : Int} : oy_rm oy_mt (sp_statec T td a s).2 1 2 3 (sp_statec T td a s).1 (F_Mod_state a s σ) σ := by
  have h60 := hT.1
  have hn := sp_n_le (T := T)
  obtain ⟨σ1, e1, f1, F1⟩ := om_isEntry hT hM (a := a)
  have g1 := oy_mt_sq f1
  have bad : ∀ (τ : ox_H) (c : Int) (ex : Nat), oy_M T τ → oy_fr oy_mt σ τ → 0 < c → oy_cx 1 2 3 (.inl ex) = c → ∀ v1 v6 v7 v8 v9 v10 v11 : Int, oy_rm oy_mt T 1 2 3 (.inl ex) (J_Mod_state_308 v1 v6 v7 v8 v9 v10 v11 c τ) σ := by
    intro τ c ex hτ gτ hc he v1 v6 v7 v8 v9 v10 v11
    unfold J_Mod_state_308
    rw [om_holds, if_neg (by omega), Option.bind_some, if_neg oy_10]
    exact ⟨_, _, rfl, oy_mt_up gτ (Or.inr (Or.inr rfl)), oy_M46 hτ, (by show ox_up τ 10 0 46 0 c 10 0 46 0 = _; rw [he]; exact oy_up_same), fun v hv => by cases hv⟩
  unfold F_Mod_state sp_statec
  rw [e1, Option.bind_some]
  dsimp only
  rw [om_in, Option.bind_some]
  by_cases q : 0 ≤ a ∧ a < sp_n T
  rotate_left
  · rw [if_neg q, if_neg q, if_pos rfl]
    unfold J_Mod_state_198 J_Mod_state_208 J_Mod_state_280
    rw [if_pos (Int.le_refl _), if_pos rfl, if_pos rfl]
    exact bad σ1 1 1 F1.1 g1 (by decide) rfl _ _ _ _ _ _ _
  rw [if_pos q, if_pos q, if_neg oy_10]
  by_cases q2 : -1 ≤ s ∧ s ≤ 3
  rotate_left
  · rw [if_neg q2, if_neg q2, if_pos rfl]
    unfold J_Mod_state_198 J_Mod_state_208 J_Mod_state_280
    rw [if_pos (Int.le_refl _), if_neg oy_10, if_pos rfl, if_neg oy_10, if_pos rfl]
    exact bad σ1 2 2 F1.1 g1 (by decide) rfl _ _ _ _ _ _ _
  rw [if_pos q2, if_pos q2, if_neg oy_10]
  obtain ⟨e, rfl⟩ : ∃ l : Nat, a = l := ⟨a.toNat, by omega⟩
  have he : e < sp_n T := by omega
  have hen := sp_en_lt he
  have h24 := oy_len24 hT (sp_en T e)
  have e0 : oy_ln T (sp_en T e) = sp_eln T e := rfl
  rw [e0] at h24
  have hin := sp_old_in hen.2
  have hst5 : sp_old (sp_eln T e) = if sp_es_st T e < 0 then 0 else 5 := rfl
  rw [Int.toNat_natCast]
  /- the look at the room -/
  have room : ∀ (v5 v6 v7 v8 v9 v10 s' : Int) (τ : ox_H), oy_F T τ → oy_fr oy_mt σ τ → (v5 = 0 ∨ v5 = 1) → -1 ≤ s' ∧ s' ≤ 3 → ∃ τ', J_Mod_state_208 (e : Int) 1 1 v5 v6 v7 v8 v9 v10 s' τ = J_Mod_state_308 (e : Int) v6 v7 v8 v9 v10 s' (if v5 = 0 ∧ sp_roomS T e s' = true then 0 else 3) τ' ∧ oy_F T τ' ∧ oy_fr oy_mt σ τ' := by
    intro v5 v6 v7 v8 v9 v10 s' τ hF gτ hv5 hs'
    obtain ⟨τ1, t1, t2, t3, t4, -⟩ := om_ehead hT hF he
    have F2 := hF.sp t2
    have e21 : τ1 10 0 21 e = (sp_en T e : Int) := F2.2.2 e (by omega)
    have el : τ1 10 0 1 (sp_en T e) = ((sp_eln T e).length : Int) := F2.1.2.1 _ hen.1
    have hold5 : sp_old (sp_eln T e) ≤ 5 := by rw [hst5]; split <;> omega
    refine ⟨τ1, ?_, F2, gτ.tr (oy_mt_sp t2)⟩
    have e2l : ∀ x : Int, x = τ1 10 0 21 e → τ1 10 0 1 x.toNat = ((sp_eln T e).length : Int) := fun x hx => by rw [hx, e21, Int.toNat_natCast]; exact el
    unfold J_Mod_state_208
    rw [if_neg oy_10, if_neg oy_10, if_pos (show 0 ≤ (e : Int) ∧ (e : Int).toNat < 61 by omega), Int.toNat_natCast, t1, Option.bind_some, if_pos (show 0 ≤ (e : Int) ∧ e < 61 by omega)]
    dsimp only
    rw [if_pos (show 0 ≤ τ1 10 0 21 e ∧ (τ1 10 0 21 e).toNat < 60 by rw [e21]; omega), e2l _ rfl]
    have fin : ∀ nw od : Nat, nw = sp_new s' → od = sp_old (sp_eln T e) → J_Mod_state_266 (e : Int) 1 1 v6 v7 v8 v9 v10 s' (od : Int) (ox_w (((sp_eln T e).length : Int) + (nw : Int))) v5 τ1 = J_Mod_state_308 (e : Int) v6 v7 v8 v9 v10 s' (if v5 = 0 ∧ sp_roomS T e s' = true then 0 else 3) τ1 := by
      intro nw od hnw hod
      have hnw5 : nw ≤ 5 := by rw [hnw]; unfold sp_new; split <;> omega
      unfold J_Mod_state_266 J_Mod_state_277 J_Mod_state_280
      rw [oy_wn (by omega), oy_wsb (by omega) (by omega), if_neg oy_10, if_neg oy_10]
      by_cases hr : (sp_eln T e).length - sp_old (sp_eln T e) + sp_new s' ≤ 24
      · have hr2 : sp_roomS T e s' = true := decide_eq_true hr
        rw [if_pos (show (((sp_eln T e).length + nw - od : Nat) : Int) ≤ 24 by omega)]
        rcases hv5 with rfl | rfl
        · rw [oy_or00, if_pos rfl, if_pos ⟨rfl, hr2⟩]
        · rw [oy_or10, if_neg oy_10, if_neg (fun z => absurd z.1 oy_10)]
      · have hr2 : ¬ sp_roomS T e s' = true := fun z => hr (of_decide_eq_true z)
        rw [if_neg (show ¬ (((sp_eln T e).length + nw - od : Nat) : Int) ≤ 24 by omega), if_neg oy_10, if_neg oy_10, if_neg (show ¬ (v5 = 0 ∧ sp_roomS T e s' = true) from fun z => hr2 z.2)]
        rcases hv5 with rfl | rfl
        · rw [oy_or01, if_neg oy_10]
        · rw [oy_or11, if_neg oy_10]
    have mid : ∀ nw : Nat, nw = sp_new s' → J_Mod_state_253 (e : Int) 1 1 v6 v7 v8 v9 v10 s' (nw : Int) ((sp_eln T e).length : Int) v5 τ1 = J_Mod_state_308 (e : Int) v6 v7 v8 v9 v10 s' (if v5 = 0 ∧ sp_roomS T e s' = true then 0 else 3) τ1 := by
      intro nw hnw
      unfold J_Mod_state_253
      by_cases z : 0 ≤ sp_es_st T e
      · rw [if_pos (show 0 ≤ τ1 10 0 13 0 by rw [t4]; exact z)]
        exact fin nw 5 hnw (by rw [hst5, if_neg (by omega)])
      · rw [if_neg (show ¬ 0 ≤ τ1 10 0 13 0 by rw [t4]; exact z)]
        exact fin nw 0 hnw (by rw [hst5, if_pos (by omega)])
    by_cases z : 0 ≤ s'
    · rw [if_pos z]
      exact mid 5 (by unfold sp_new; rw [if_neg (by omega)])
    · rw [if_neg z]
      exact mid 0 (by unfold sp_new; rw [if_pos (by omega)])
  /- without a date that goes on -/
  have plain : ∀ (v5 v6 v7 v8 v10 : Int) (τ : ox_H), oy_F T τ → oy_fr oy_mt σ τ → (v5 = 0 ∨ v5 = 1) → sp_stT T td e s = (if v5 = 0 ∧ sp_roomS T e s = true then some (sp_putS T e s) else none) → oy_rm oy_mt (sp_state2 T td e s).2 1 2 3 (sp_state2 T td e s).1 (J_Mod_state_198 (e : Int) s 1 1 v5 v6 v7 v8 0 v10 τ) σ := by
    intro v5 v6 v7 v8 v10 τ hF gτ hv5 hst
    obtain ⟨τ1, t1, F2, g2⟩ := room v5 v6 v7 v8 0 v10 s τ hF gτ hv5 q2
    unfold J_Mod_state_198 sp_state2
    rw [if_pos (Int.le_refl _), t1, hst]
    by_cases z : v5 = 0 ∧ sp_roomS T e s = true
    · rw [if_pos z, if_pos z]
      obtain ⟨τ', u1, u2, u3, u4⟩ := om_st308 hT F2 he q2 z.2 v6 v7 v8 v10
      exact ⟨τ', _, u1, g2.tr u2, u3, u4, fun v hv => Sum.inr.inj hv⟩
    · rw [if_neg z, if_neg z]
      exact bad τ1 3 3 F2.1 g2 (by decide) rfl _ _ _ _ _ _ _
  by_cases h2 : s = 2
  rotate_left
  · rw [if_neg h2]
    refine plain 0 _ _ _ _ σ1 F1 g1 (Or.inl rfl) ?_
    unfold sp_stT
    rw [if_neg h2]
    by_cases z : sp_roomS T e s = true
    · rw [if_pos z, if_pos ⟨rfl, z⟩]
    · rw [if_neg z, if_neg (fun y => z y.2)]
  rw [if_pos h2]
  obtain ⟨σ2, e2, f2⟩ := om_canBeDone hT F1 he
  have F2 := F1.sp f2
  have g2 := g1.tr (oy_mt_sp f2)
  have h232 : σ2 10 0 23 0 = td := (f2 10 0 23 0 rfl).trans ((f1 10 0 23 0 rfl).trans h23)
  rw [e2, Option.bind_some]
  have key : ∀ v5 : Int, (v5 = 0 ∧ sp_mb T e = true) ∨ (v5 = 1 ∧ ¬ sp_mb T e = true) → oy_rm oy_mt (sp_state2 T td e s).2 1 2 3 (sp_state2 T td e s).1 (J_Mod_state_60 (e : Int) s 1 1 0 0 0 0 v5 σ2) σ := by
    intro v5 hv5
    obtain ⟨σ3, e3, f3, d3⟩ := om_dateOf hT F2 he
    have F3 := F2.sp f3
    have g3 := g2.tr (oy_mt_sp f3)
    have h233 : σ3 10 0 23 0 = td := (f3 10 0 23 0 rfl).trans h232
    have norep : sp_rep T e = none → sp_stT T td e s = (if v5 = 0 ∧ sp_roomS T e s = true then some (sp_putS T e s) else none) := fun hrep => by
      unfold sp_stT
      rw [if_pos h2, hrep]
      rcases hv5 with ⟨h5, hm⟩ | ⟨h5, hm⟩
      · rw [if_pos hm]
        dsimp only
        rw [h2]
        by_cases z : sp_roomS T e 2 = true
        · rw [if_pos z, if_pos ⟨h5, z⟩]
        · rw [if_neg z, if_neg (fun y => z y.2)]
      · rw [if_neg hm, if_neg (fun y => by omega)]
    have h5 : v5 = 0 ∨ v5 = 1 := by omega
    unfold J_Mod_state_60
    rw [e3, Option.bind_some]
    dsimp only
    by_cases hd : sp_dl T e < sp_en T (e + 1)
    rotate_left
    · rw [if_neg hd, if_pos (by decide)]
      exact plain v5 _ _ _ _ σ3 F3 g3 h5 (norep (by unfold sp_rep; rw [if_neg hd]))
    obtain ⟨v, hv⟩ := sp_dl_some he hd
    obtain ⟨w1, w2, w3, w4⟩ := d3 hd v hv
    rw [if_pos hd, if_neg (show ¬ (sp_dl T e : Int) < 0 by omega)]
    have hin := sp_date_in hv
    by_cases hz : v.2.2.1 = 0
    · rw [if_pos (show σ3 10 0 19 0 ≤ 0 by rw [w3]; omega)]
      refine plain v5 _ _ _ _ σ3 F3 g3 h5 (norep ?_)
      unfold sp_rep
      rw [if_pos hd, hv]
      dsimp only
      rw [if_neg (by omega)]
    have hpos : 0 < v.2.2.1 := by omega
    have hrep : sp_rep T e = some v := by
      unfold sp_rep
      rw [if_pos hd, hv]
      dsimp only
      rw [if_pos hpos]
    have hmk := sp_date_mark hv
    have hnd := sp_nd_in hv htd hpos
    rw [if_neg (show ¬ σ3 10 0 19 0 ≤ 0 by rw [w3]; omega)]
    /- behind the days -/
    have days : oy_rm oy_mt (sp_state2 T td e s).2 1 2 3 (sp_state2 T td e s).1 (J_Mod_state_158 (e : Int) s 1 1 v5 (sp_dl T e : Int) v.1 v.2.1 v.2.2.1 v.2.2.2 (sp_nd td v - v.1) σ3) σ := by
      have x1 : Nat → ox_w (v.1 + (sp_nd td v - v.1)) = sp_nd td v := fun _ => by rw [oy_w (by omega) (by omega)]; omega
      have x2 : Nat → ox_w (v.2.1 + (sp_nd td v - v.1)) = sp_nd td v + v.2.1 - v.1 := fun _ => by rw [oy_w (by omega) (by omega)]; omega
      have after : ∀ v5' : Int, (v5' = 0 ∧ sp_mb T e = true ∧ sp_nd td v + v.2.1 - v.1 ≤ 9999) ∨ (v5' = 1 ∧ ¬ (sp_mb T e = true ∧ sp_nd td v + v.2.1 - v.1 ≤ 9999)) → oy_rm oy_mt (sp_state2 T td e s).2 1 2 3 (sp_state2 T td e s).1 (J_Mod_state_198 (e : Int) s 1 1 v5' (sp_dl T e : Int) (sp_nd td v) (sp_nd td v + v.2.1 - v.1) v.2.2.1 v.2.2.2 σ3) σ := by
        intro v5' hv5'
        obtain ⟨τ1, t1, F4, g4⟩ := room v5' (sp_dl T e : Int) (sp_nd td v) (sp_nd td v + v.2.1 - v.1) v.2.2.1 v.2.2.2 0 σ3 F3 g3 (by omega) (by decide)
        unfold J_Mod_state_198
        rw [if_neg (show ¬ v.2.2.1 ≤ 0 by omega), t1]
        have hsp : sp_stT T td e s = (if v5' = 0 ∧ sp_roomS T e 0 = true then some (sp_put (sp_putS T e 0) (sp_dl T e) (sp_repD td v)) else none) := by
          unfold sp_stT
          rw [if_pos h2, hrep]
          dsimp only
          rcases hv5' with ⟨h5', hm, h9⟩ | ⟨h5', hm⟩
          · rw [if_pos hm]
            by_cases z : sp_roomS T e 0 = true
            · rw [if_pos ⟨h9, z⟩, if_pos ⟨h5', z⟩]
            · rw [if_neg (fun y => z y.2), if_neg (fun y => z y.2)]
          · rw [if_neg (show ¬ (v5' = 0 ∧ sp_roomS T e 0 = true) from fun y => by omega)]
            by_cases hm1 : sp_mb T e = true
            · rw [if_pos hm1, if_neg (fun y => hm ⟨hm1, y.1⟩)]
            · rw [if_neg hm1]
        unfold sp_state2
        rw [hsp]
        by_cases z : v5' = 0 ∧ sp_roomS T e 0 = true
        · have hmb : sp_mb T e = true ∧ sp_nd td v + v.2.1 - v.1 ≤ 9999 := by
            rcases hv5' with ⟨_, hm⟩ | ⟨h5', _⟩
            · exact hm
            · omega
          rw [if_pos z, if_pos z]
          obtain ⟨τ', u1, u2, u3, u4⟩ := om_st308d hT F4 he htd hmb.1 hrep hmb.2 z.2
          exact ⟨τ', _, u1, g4.tr u2, u3, u4, fun v hv => Sum.inr.inj hv⟩
        · rw [if_neg z, if_neg z]
          exact bad τ1 3 3 F4.1 g4 (by decide) rfl _ _ _ _ _ _ _
      unfold J_Mod_state_158 J_Mod_state_190 J_Mod_state_195
      rw [(x1 0), (x2 0)]
      by_cases z : sp_nd td v + v.2.1 - v.1 ≤ 9999
      · rw [if_neg (show ¬ 9999 < sp_nd td v by omega), if_pos z]
        rcases hv5 with ⟨rfl, hm⟩ | ⟨rfl, hm⟩
        · exact after _ (Or.inl ⟨by decide, hm, z⟩)
        · exact after _ (Or.inr ⟨by decide, fun y => hm y.1⟩)
      · have h1 : ox_or v5 1 = 1 := by rcases hv5 with ⟨rfl, -⟩ | ⟨rfl, -⟩ <;> decide
        by_cases z2 : 9999 < sp_nd td v
        · rw [if_pos z2]
          exact after _ (Or.inr ⟨h1, fun y => z y.2⟩)
        · rw [if_neg z2, if_neg z]
          exact after _ (Or.inr ⟨h1, fun y => z y.2⟩)
    unfold J_Mod_state_127
    by_cases h46 : v.2.2.2 = 46
    · have x3 : Nat → ox_w (ox_w (σ3 10 0 23 0 + v.2.2.1) - v.1) = td + v.2.2.1 - v.1 := fun _ => by
        rw [h233, oy_w (x := td + v.2.2.1) (by omega) (by omega), oy_w (by omega) (by omega)]
      rw [if_pos (show σ3 10 0 20 0 = 46 by rw [w4]; exact h46), w1, w2, w3, w4, (x3 0), om_st129 hv htd hpos h233 _ (by rw [if_pos h46])]
      exact days
    · rw [if_neg (show ¬ σ3 10 0 20 0 = 46 by rw [w4]; exact h46), w1, w2, w3, w4, om_st129 hv htd hpos h233 _ (by rw [if_neg h46])]
      exact days
  by_cases hm : sp_mb T e = true
  · rw [if_pos hm, if_neg oy_10]
    exact key 0 (Or.inl ⟨rfl, hm⟩)
  · rw [if_neg hm, if_pos rfl]
    exact key 1 (Or.inr ⟨rfl, hm⟩)
end OYG9
