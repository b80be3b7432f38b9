/-! ===== the reference: a term's value, whole ===== -/
section OYJ6
variable {T : oy_T} {σ : ox_H} {f : Nat → Nat → Int} {P : Int → Int → Int → ox_H → Option (Int × ox_H)} {n : Nat}
theorem om_part (hT : oy_ok T) (hfi : oy_fin T f) (hV : oy_VS T f P n) (hB : oy_BS T f P n) {l a e : Nat} {j : Int} (hl : l < T.length) (hs : sp_term (oy_ln T l) a = some e) (ha : a ≤ 60) (hm : oy_mem T f σ) (hq : ∀ y, oy_ask T l (j, sp_tm (oy_ln T l) a) y → oy_lw T f σ y) (hmu : oy_mu σ ≤ n) : ∃ σ', F_Mod_part P (l : Int) (a : Int) (if sp_kind (oy_ln T l) = 4 then 0 else 1) σ = some (oy_cl (sp_tv T f l (j, sp_tm (oy_ln T l) a)), σ') ∧ oy_ev T f σ σ' := by
  have h60 := hT.1
  have hM := hm.1.1
  have htl := sp_top_le T l
  unfold sp_term at hs
  unfold F_Mod_part
  rw [om_look hT hM hl (by omega), Option.bind_some, oy_w1 (by omega), om_look hT hM hl (by omega), Option.bind_some, om_dg, Option.bind_some]
  by_cases b0 : sp_dg (oy_wk (oy_ln T l) a)
  · rw [if_pos b0, if_neg oy_10]
    have et : sp_tm (oy_ln T l) a = (0, 0, (sp_nu (oy_ln T l) a).2) := by unfold sp_tm; rw [if_pos b0]
    have hn := sp_nu_in (oy_ln T l) a
    have en : F_Mod_number (l : Int) (ox_up σ 10 0 11 0 (a : Int)) = some ((sp_nu (oy_ln T l) a).2, oy_at σ (sp_nu (oy_ln T l) a).1) := om_number hT hM hl (by omega)
    have ev : sp_tv T f l (j, sp_tm (oy_ln T l) a) = (sp_nu (oy_ln T l) a).2 := by
      rw [et]
      unfold sp_tv
      rw [if_pos (show ((0 : Int)) = 0 from rfl)]
    have ecl : oy_cl (sp_nu (oy_ln T l) a).2 = (sp_nu (oy_ln T l) a).2 := if_neg (by omega)
    unfold F_Mod_digits
    rw [en, Option.bind_some, Option.bind_some, ev, ecl]
    exact ⟨_, rfl, oy_ev.sp hm (oy_fr.rf.up rfl)⟩
  rw [if_neg b0] at hs ⊢
  rw [if_pos rfl]
  by_cases b83 : oy_wk (oy_ln T l) a = 83
  · rw [if_pos b83] at hs
    have hc : 97 ≤ oy_wk (oy_ln T l) (a + 1) ∧ oy_wk (oy_ln T l) (a + 1) ≤ 101 := by
      by_cases q : 97 ≤ oy_wk (oy_ln T l) (a + 1) ∧ oy_wk (oy_ln T l) (a + 1) ≤ 101
      · exact q
      · rw [if_neg q] at hs
        cases hs
    have et : sp_tm (oy_ln T l) a = (2, oy_wk (oy_ln T l) (a + 1) - 97, 0) := by unfold sp_tm; rw [if_neg b0, if_pos b83]
    rw [et] at hq ⊢
    obtain ⟨c, ec⟩ : ∃ c : Nat, oy_wk (oy_ln T l) (a + 1) = 97 + (c : Int) := ⟨(oy_wk (oy_ln T l) (a + 1) - 97).toNat, by omega⟩
    rw [ec] at hc hq ⊢
    rw [b83, if_neg (show ¬ (83 : Int) = 58 by decide), if_neg (show ¬ (83 : Int) = 40 by decide)]
    have e97 : 97 + (c : Int) - 97 = (c : Int) := by omega
    rw [e97] at hq ⊢
    have ev : sp_tv T f l (j, 2, (c : Int), 0) = if sp_kind (oy_ln T l) = 4 then sp_cv T f c (l - sp_top T l) (sp_top T l) 0 else 1000000 := by
      unfold sp_tv
      dsimp only
      rw [if_neg (by decide), if_neg (by decide), if_pos rfl, Int.toNat_natCast]
    rw [ev]
    by_cases h4 : sp_kind (oy_ln T l) = 4
    rotate_left
    · rw [if_neg h4, if_neg h4, if_neg oy_10, oy_er]
      exact ⟨σ, rfl, oy_ev.rf hm⟩
    rw [if_pos h4, if_pos h4, if_pos rfl]
    obtain ⟨σ1, e1, f1⟩ := om_top hT hM (Nat.le_of_lt hl)
    have ev1 := oy_ev.sp hm f1
    obtain ⟨σ2, e2, g2⟩ := om_coll hT hfi hV (c := c) (by omega) hl (l - sp_top T l) (sp_top T l) ox_fu 0 σ1 (by omega) (fun q q1 q2 => sp_top_rows q1 q2) ev1.2.1 (fun q q1 q2 q3 => (hq (q, c) (Or.inr (Or.inl ⟨rfl, h4, (Int.toNat_natCast c).symm, q1, q2, q3⟩))).cg ev1.2.2.1 ev1.2.2.2) (by rw [oy_mu_cg ev1.2.2.1 ev1.2.2.2]; exact hmu) (Or.inl (by omega)) (by decide) (by show l - sp_top T l < 100000; omega)
    rw [e1, Option.bind_some, if_pos rfl]
    exact ⟨σ2, e2, ev1.tr g2⟩
  rw [if_neg b83] at hs
  by_cases b40 : oy_wk (oy_ln T l) a = 40
  · rw [if_pos b40] at hs
    have hc : sp_lt (oy_wk (oy_ln T l) (a + 1)) := by
      by_cases q : sp_lt (oy_wk (oy_ln T l) (a + 1)) ∧ oy_wk (oy_ln T l) (a + 2) = 41
      · exact q.1
      · rw [if_neg q] at hs
        cases hs
    unfold sp_lt at hc
    have et : sp_tm (oy_ln T l) a = (3, oy_wk (oy_ln T l) (a + 1) - 97, 0) := by unfold sp_tm; rw [if_neg b0, if_neg b83, if_pos b40]
    rw [et] at hq ⊢
    obtain ⟨c, ec⟩ : ∃ c : Nat, oy_wk (oy_ln T l) (a + 1) = 97 + (c : Int) := ⟨(oy_wk (oy_ln T l) (a + 1) - 97).toNat, by omega⟩
    rw [ec] at hc hq ⊢
    rw [b40, if_neg (show ¬ (40 : Int) = 58 by decide), if_pos (show (40 : Int) = 40 from rfl)]
    have e97 : 97 + (c : Int) - 97 = (c : Int) := by omega
    rw [e97] at hq ⊢
    have ev : sp_tv T f l (j, 3, (c : Int), 0) = sp_fa f (sp_bk T (c : Int)) 0 := by
      unfold sp_tv
      dsimp only
      rw [if_neg (by decide), if_neg (by decide), if_neg (by decide), if_pos rfl]
    obtain ⟨σ1, e1, g1⟩ := hB c σ (by omega) hm (fun r hr => hq (r, 0) (Or.inr (Or.inr ⟨rfl, hr, rfl⟩))) hmu
    rw [ev, e1, Option.bind_some]
    exact ⟨σ1, rfl, g1⟩
  rw [if_neg b40] at hs
  by_cases b58 : oy_wk (oy_ln T l) a = 58
  · have et : sp_tm (oy_ln T l) a = (4, oy_wk (oy_ln T l) (a + 1) - 97, 0) := by unfold sp_tm; rw [if_neg b0, if_neg b83, if_neg b40, if_pos b58]
    have ev : sp_tv T f l (j, 4, oy_wk (oy_ln T l) (a + 1) - 97, 0) = sp_op2 T l (oy_wk (oy_ln T l) (a + 1) - 97) := by
      unfold sp_tv
      dsimp only
      rw [if_neg (by decide), if_neg (by decide), if_neg (by decide), if_neg (by decide)]
    have e97 : 97 + (oy_wk (oy_ln T l) (a + 1) - 97) = oy_wk (oy_ln T l) (a + 1) := by omega
    rw [et, ev, if_pos b58, om_entryOf hT hm.1 hl, Option.bind_some]
    unfold sp_op2
    rw [e97]
    unfold J_Mod_part_65 J_Mod_part_80
    rw [oy_er]
    by_cases z : (sp_esn T (l + 1)).length = 0
    · rw [if_neg (by omega), if_neg (by decide), if_pos z]
      exact ⟨σ, rfl, oy_ev.rf hm⟩
    rw [if_pos (by omega), if_neg z, show (((sp_esn T (l + 1)).length : Nat) : Int) - 1 = (((sp_esn T (l + 1)).length - 1 : Nat) : Int) by omega]
    obtain ⟨σ1, e1, f1⟩ := om_has hT hm.1 (sp_esn_n hl z) (oy_wk (oy_ln T l) (a + 1))
    have h1 := sp_has_in T (oy_wk (oy_ln T l) (a + 1)) ((sp_esn T (l + 1)).length - 1 + 1) ((sp_esn T (l + 1)).length - 1)
    have h2 := sp_hasf_hi T (oy_wk (oy_ln T l) (a + 1)) ((sp_esn T (l + 1)).length - 1 + 1) ((sp_esn T (l + 1)).length - 1)
    have h1' : -1 ≤ sp_has T (oy_wk (oy_ln T l) (a + 1)) ((sp_esn T (l + 1)).length - 1) := h1
    have h2' : sp_has T (oy_wk (oy_ln T l) (a + 1)) ((sp_esn T (l + 1)).length - 1) ≤ 9999 := h2
    rw [e1, Option.bind_some]
    refine ⟨σ1, ?_, oy_ev.sp hm f1⟩
    generalize sp_has T (oy_wk (oy_ln T l) (a + 1)) ((sp_esn T (l + 1)).length - 1) = v at h1' h2'
    unfold oy_cl
    by_cases y : v = -1
    · rw [y, if_neg (show ¬ (0 : Int) ≤ -1 by decide), if_pos rfl, if_neg (by decide)]
    · rw [if_pos (show 0 ≤ v by omega), if_neg y, if_neg (by omega)]
  rw [if_neg b58] at hs ⊢
  rw [if_neg b40]
  have hc : (97 ≤ oy_wk (oy_ln T l) a ∧ oy_wk (oy_ln T l) a ≤ 101) ∧ (49 ≤ oy_wk (oy_ln T l) (a + 1) ∧ oy_wk (oy_ln T l) (a + 1) ≤ 57) := by
    by_cases q : (97 ≤ oy_wk (oy_ln T l) a ∧ oy_wk (oy_ln T l) a ≤ 101) ∧ (49 ≤ oy_wk (oy_ln T l) (a + 1) ∧ oy_wk (oy_ln T l) (a + 1) ≤ 57)
    · exact q
    · rw [if_neg q] at hs
      cases hs
  have et : sp_tm (oy_ln T l) a = (1, oy_wk (oy_ln T l) a - 97, oy_wk (oy_ln T l) (a + 1) - 48) := by unfold sp_tm; rw [if_neg b0, if_neg b83, if_neg b40, if_neg b58]
  rw [et] at hq ⊢
  obtain ⟨c, ec⟩ : ∃ c : Nat, oy_wk (oy_ln T l) a = 97 + (c : Int) := ⟨(oy_wk (oy_ln T l) a - 97).toNat, by omega⟩
  obtain ⟨x, ex⟩ : ∃ x : Nat, oy_wk (oy_ln T l) (a + 1) = 48 + (x : Int) := ⟨(oy_wk (oy_ln T l) (a + 1) - 48).toNat, by omega⟩
  rw [ec, ex] at hc hq ⊢
  have e97 : 97 + (c : Int) - 97 = (c : Int) := by omega
  have e48 : 48 + (x : Int) - 48 = (x : Int) := by omega
  rw [e97, e48] at hq ⊢
  have ev : sp_tv T f l (j, 1, (c : Int), (x : Int)) = sp_fa f (sp_rw T l (x : Int)) c := by
    unfold sp_tv
    dsimp only
    rw [if_neg (by decide), if_pos rfl, Int.toNat_natCast]
  rw [ev]
  by_cases h4 : sp_kind (oy_ln T l) = 4
  rotate_left
  · have er : sp_rw T l (x : Int) = none := if_neg (fun z => h4 z.2.2.1)
    rw [if_neg h4, if_neg oy_10, oy_er, er]
    exact ⟨σ, rfl, oy_ev.rf hm⟩
  rw [if_pos h4, if_pos rfl]
  obtain ⟨σ1, e1, f1⟩ := om_top hT hM (Nat.le_of_lt hl)
  have ev1 := oy_ev.sp hm f1
  obtain ⟨σ2, e2, g2⟩ := om_rowv hT hV hl h4 (show c < 5 by omega) (show 1 ≤ x ∧ x ≤ 9 by omega) ev1.2.1 (fun r hr => (hq (r, c) (Or.inl ⟨rfl, hr, (Int.toNat_natCast c).symm⟩)).cg ev1.2.2.1 ev1.2.2.2) (by rw [oy_mu_cg ev1.2.2.1 ev1.2.2.2]; exact hmu)
  rw [e1, Option.bind_some, if_neg (show ¬ 97 + (c : Int) = 83 by omega)]
  exact ⟨σ2, e2, ev1.tr g2⟩
end OYJ6
