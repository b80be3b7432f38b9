/-! ===== lines copied; where a line's entry is ===== -/
theorem oy_L.le {k j : Nat} {T : oy_T} {σ σ' : ox_H} (h : oy_L k T σ) (hf : oy_fs (oy_le j) σ σ') (hk : k ≠ j) : oy_L k T σ' := by
  have e : ∀ a i, σ' 1 k a i = σ 1 k a i := fun a i => hf 1 k a i (by unfold oy_le; omega)
  exact ⟨(e _ _).trans h.1, fun l hl => (e _ _).trans (h.2.1 l hl), fun l p hl hp => (e _ _).trans (h.2.2 l p hl hp)⟩
theorem sp_sub_all {T : oy_T} : sp_sub T 0 T.length = T := by
  refine oy_extT sp_sub_len (fun l hl => ?_)
  rw [sp_sub_len] at hl
  rw [sp_sub_ln hl, Nat.zero_add]
section OYG4
variable {T : oy_T} {σ : ox_H}
theorem oc_copy {k k1 a m b : Nat} {T1 : oy_T} (hT : oy_okL k T) (hL : oy_L k T σ) (hw : σ 1 k 1 0 = ox_wd k) (hn : σ 1 k 0 0 = ox_ln k) (hT1 : oy_okL k1 T1) (hL1 : oy_L k1 T1 σ) (hw1 : σ 1 k1 1 0 = ox_wd k1) (hww : ox_wd k1 = ox_wd k) (hk : k1 ≠ k) (hm : 1 ≤ m) (ha : a + m ≤ T1.length) (hb : b ≤ T.length) (hr : T.length + m ≤ ox_ln k) : ∃ σ', F_Lin_copy k k1 (a : Int) (m : Int) (b : Int) σ = some σ' ∧ oy_ed k 1 (sp_pas T b (sp_sub T1 a m)) σ σ' := by
  have h1 := hT1.1
  have h6 := oy_lnk k
  have h7 := oy_lnk k1
  obtain ⟨σ1, e1, d1⟩ := oc_open hT hL hw hn hb hm hr
  have L1 := hL1.le d1.1 hk
  have w1 : σ1 1 k 1 0 = ox_wd k := d1.w.1.trans hw
  have hU : (ox_ln k : Int) * (ox_wd k : Int) = ((ox_ln k * ox_wd k : Nat) : Int) := rfl
  have hU1 : (ox_ln k1 : Int) * (ox_wd k1 : Int) = ((ox_ln k1 * ox_wd k : Nat) : Int) := by rw [hww]; rfl
  have b1 := oy_bdm (k := k) (x := b) (y := m) (by omega)
  have b2 := oy_bdm (k := k1) (x := a) (y := m) (by omega)
  rw [hww] at b2
  have c1 : ¬ (a : Int) < 0 := by omega
  have c2 : ¬ (m : Int) ≤ 0 := by omega
  have c3 : ¬ ((T1.length - a : Nat) : Int) < (m : Int) := by omega
  have c4 : ¬ (b : Int) < 0 := by omega
  have c5 : ¬ (T.length : Int) < (b : Int) := by omega
  have c6 : ¬ ((ox_ln k - T.length : Nat) : Int) < (m : Int) := by omega
  have c7 : 0 ≤ (m : Int) ∧ 0 ≤ (b : Int) ∧ 0 ≤ (a : Int) ∧ (a : Int) + (m : Int) ≤ (ox_ln k1 : Int) ∧ (b : Int) + (m : Int) ≤ (ox_ln k : Int) := by omega
  have c8 : 0 ≤ ((ox_wd k * m : Nat) : Int) ∧ 0 ≤ ((ox_wd k * b : Nat) : Int) ∧ 0 ≤ ((ox_wd k * a : Nat) : Int) ∧ ((ox_wd k * a : Nat) : Int) + ((ox_wd k * m : Nat) : Int) ≤ ((ox_ln k1 * ox_wd k : Nat) : Int) ∧ ((ox_wd k * b : Nat) : Int) + ((ox_wd k * m : Nat) : Int) ≤ ((ox_ln k * ox_wd k : Nat) : Int) := by
    generalize ox_wd k * m = X at b1 b2 ⊢
    generalize ox_wd k * a = Y at b2 ⊢
    generalize ox_wd k * b = Z at b1 ⊢
    generalize ox_ln k * ox_wd k = V at b1 ⊢
    generalize ox_ln k1 * ox_wd k = V1 at b2 ⊢
    clear c1 c2 c3 c4 c5 c6 c7 hU hU1 h6 h7
    omega
  unfold F_Lin_copy J_Lin_copy_34 J_Lin_copy_68
  rw [hL1.1, hw1, hw, hL.1, hn, if_neg c1, if_neg c2, oy_wsb (a := T1.length) (b := a) (by omega) (by omega), if_neg c3, if_pos (by rw [hww]), if_neg c4, if_neg c5, oy_wsb (a := ox_ln k) (b := T.length) (by omega) (by omega), if_neg c6, if_neg oy_10, if_neg oy_10, if_neg hk, e1, Option.bind_some, w1, oy_rw (x := m) (by omega), oy_rw (x := b) (by omega), oy_rw (x := a) (by omega), hU, hU1, if_pos c8, if_pos c7]
  clear c1 c2 c3 c4 c5 c6 c7 c8 hU hU1 b1 b2
  simp only [Int.toNat_natCast]
  have hF : oy_fs (oy_le k) σ1 (ox_cp (ox_cp σ1 1 k1 2 (ox_wd k * a) 1 k 2 (ox_wd k * b) (ox_wd k * m)) 1 k1 3 a 1 k 3 b m) := (oy_fs.rf.cp (fun i => ⟨rfl, rfl, by decide, by decide⟩)).cp (fun i => ⟨rfl, rfl, by decide, by decide⟩)
  have hne : ∀ (c0 k0 j0 sp dp n : Nat) (τ : ox_H) (j i : Nat), ox_cp τ c0 k0 j0 sp 1 k 2 dp n 1 k1 j i = τ 1 k1 j i := fun c0 k0 j0 sp dp n τ j i => by
    rw [oy_cp_def, if_neg (fun q => hk q.2.2.1)]
  refine ⟨_, rfl, d1.1.tr hF, ⟨?_, fun l hl => ?_, fun l p hl hp => ?_⟩, 1, Nat.le_refl _, Or.inr ⟨Nat.le_refl _, ?_⟩⟩
  · rw [oy_cp_ne (by decide), oy_cp_ne (by decide), d1.2.1.1, sp_ins_len, sp_pas_len, sp_sub_len]
  · rw [sp_pas_len, sp_sub_len] at hl
    rw [sp_pas_ln (by rw [sp_sub_len]; exact hl), sp_sub_len, oy_cp_in, hne]
    by_cases q1 : l < b
    · have := d1.2.1.2.1 l (by rw [sp_ins_len]; exact hl)
      rw [sp_ins_ln hl, if_pos q1] at this
      rw [if_pos q1, if_neg (by omega), oy_cp_ne (by decide), this]
    rw [if_neg q1]
    by_cases q2 : l < b + m
    · rw [if_pos q2, if_pos (by omega), sp_sub_ln (by omega)]
      exact L1.2.1 (a + (l - b)) (by omega)
    · have := d1.2.1.2.1 l (by rw [sp_ins_len]; exact hl)
      rw [sp_ins_ln hl, if_neg q1, if_neg q2] at this
      rw [if_neg q2, if_neg (by omega), oy_cp_ne (by decide), this]
  · rw [sp_pas_len, sp_sub_len] at hl
    rw [sp_pas_ln (by rw [sp_sub_len]; exact hl), sp_sub_len] at hp ⊢
    rw [oy_cp_ne (by decide), oy_cp_in]
    by_cases q1 : l < b
    · have hlw := oy_okL_len hT l
      rw [if_pos q1] at hp ⊢
      have := d1.2.1.2.2 l p (by rw [sp_ins_len]; exact hl)
      rw [sp_ins_ln hl, if_pos q1] at this
      rw [if_neg (by rcases oy_wdk k with q | q <;> rw [q] at hlw ⊢ <;> omega)]
      exact this hp
    rw [if_neg q1] at hp ⊢
    by_cases q2 : l < b + m
    · rw [if_pos q2] at hp ⊢
      rw [sp_sub_ln (by omega)] at hp ⊢
      have hlw := oy_okL_len hT1 (a + (l - b))
      rw [hww] at hlw
      have ei : ox_wd k * a + (ox_wd k * l + p - ox_wd k * b) = ox_wd k * (a + (l - b)) + p := by rcases oy_wdk k with q | q <;> rw [q] <;> omega
      rw [if_pos (by rcases oy_wdk k with q | q <;> rw [q] at hlw ⊢ <;> omega), ei]
      have := L1.2.2 (a + (l - b)) p (by omega) hp
      rw [hww] at this
      exact this
    · have hlw := oy_okL_len hT (l - m)
      rw [if_neg q2] at hp ⊢
      have := d1.2.1.2.2 l p (by rw [sp_ins_len]; exact hl)
      rw [sp_ins_ln hl, if_neg q1, if_neg q2] at this
      rw [if_neg (by rcases oy_wdk k with q | q <;> rw [q] at hlw ⊢ <;> omega)]
      exact this hp
  · obtain ⟨d, hd, q⟩ := d1.2.2
    rw [oy_cp_ne (by decide), oy_cp_ne (by decide)]
    rcases q with ⟨-, q2⟩ | ⟨q1, q2⟩
    · exfalso
      have h9 := d1.2.1.1
      rw [q2, hL.1, sp_ins_len] at h9
      omega
    · rw [q2, show d = 1 by omega]
theorem oc_ownerOf (hT : oy_ok T) (hQ : oy_Q T σ) {l : Nat} (hl : l < T.length) : F_Otl_ownerOf (l : Int) σ = some (((sp_esn T (l + 1)).length : Int) - 1) := by
  have h60 := hT.1
  unfold F_Otl_ownerOf J_Otl_ownerOf_31
  rw [hQ.2.1.1, if_neg (by omega), if_neg (by omega), if_neg (by omega), if_pos (by omega), Int.toNat_natCast, hQ.1.2.2.1 l hl]
theorem oc_ownerH (hT : oy_ok T) (hQ : oy_Q T σ) {l : Nat} (hl : l < T.length) (hH : sp_isH (oy_ln T l)) : F_Otl_ownerOf (l : Int) σ = some ((sp_esn T l).length : Int) := by
  have es : (sp_esn T (l + 1)).length = (sp_esn T l).length + 1 := by rw [sp_esn, if_pos hH, List.length_append]; rfl
  rw [oc_ownerOf hT hQ hl, es]
  congr 1
  omega
theorem om_entryAt (hT : oy_ok T) (hM : oy_M T σ) {l : Nat} (hl : l < T.length) (hH : sp_isH (oy_ln T l)) : ∃ σ', F_Mod_entryAt (l : Int) σ = some (((sp_esn T l).length : Int), σ') ∧ oy_fr oy_sq σ σ' ∧ oy_F T σ' := by
  have h60 := hT.1
  have hn := sp_n_le (T := T)
  obtain ⟨σ1, e1, f1, F1⟩ := om_find hT hM
  obtain ⟨h1, h2⟩ := sp_en_at hl hH
  refine ⟨σ1, ?_, f1, F1⟩
  unfold F_Mod_entryAt J_Mod_entryAt_6
  rw [e1, Option.bind_some]
  have hlp := oy_lfC (B_Mod_entryAt_6 (l : Int) σ1) (fun e => decide (l ≤ sp_en T e)) (fun e => ((e : Int), σ1)) 0 (sp_esn T l).length (fun k h3 h4 hp => by
      have hp := of_decide_eq_false hp
      unfold B_Mod_entryAt_6
      rw [if_pos (by omega), Int.toNat_natCast, if_neg (show ¬ (l : Int) ≤ σ1 10 0 21 k by rw [F1.2.2 k (by omega)]; omega), oy_w1 (by omega)]) (fun k h3 h4 hp => by
      have hp := of_decide_eq_true hp
      have := sp_en_lt3 (T := T) h4 (by omega)
      omega) (by
      unfold B_Mod_entryAt_6 J_Mod_entryAt_22
      rw [if_pos (by omega), Int.toNat_natCast, if_pos (show (l : Int) ≤ σ1 10 0 21 (sp_esn T l).length by rw [F1.2.2 _ (by omega), h2]; omega)]
      rfl) (sp_esn T l).length ox_fu 0 (by omega) (Nat.le_refl _) (by show _ < 100000; omega)
  have e9 : sp_fi (fun e => decide (l ≤ sp_en T e)) (sp_esn T l).length 0 = (sp_esn T l).length := sp_fi_eq _ _ _ _ (Nat.zero_le _) (by omega) (fun k h3 h4 => by
      have := sp_en_lt3 (T := T) h4 (by omega)
      exact decide_eq_false (by omega)) (fun h => by omega)
  rw [e9] at hlp
  exact hlp
end OYG4
