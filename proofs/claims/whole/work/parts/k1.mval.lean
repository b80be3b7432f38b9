/-! ===== the reference: a cell's value over a level ===== -/
section OYK1
variable {T : oy_T} {σ : ox_H} {f : Nat → Nat → Int} {P : Int → Int → Int → ox_H → Option (Int × ox_H)} {n : Nat}
theorem om_value (hT : oy_ok T) (hfi : oy_fin T f) (hS : oy_TS T f P n) {l c : Nat} (hl : l < T.length) (h4 : sp_kind (oy_ln T l) = 4) (hc : c < 24) (hm : oy_mem T f σ) (hw : oy_lw T f σ (l, c)) (hmu : ¬ σ 10 0 41 (24 * l + c) = 1 → oy_mu (ox_up σ 10 0 41 (24 * l + c) 1) < n) : ∃ σ', F_Mod_value P (l : Int) (c : Int) σ = some (oy_cl (f l c), σ') ∧ oy_ev T f σ σ' := by
  have h60 := hT.1
  have h24 := oy_len24 hT l
  have hb := om_beg hT hm.1.1 hl h4 (show c ≤ 1000 by omega)
  unfold F_Mod_value
  by_cases hcn : c < sp_nc T l
  rotate_left
  · have ef : f l c = 1000000 := hfi.no hcn
    have e1 : oy_cl 1000000 = 1000000 := if_neg (by decide)
    unfold J_Mod_value_30
    rw [hb.2 hcn, Option.bind_some, if_pos (by decide), ef, e1, oy_er]
    exact ⟨σ, rfl, oy_ev.rf hm⟩
  obtain ⟨b, e, hb1, hb2, hb3⟩ := hb.1 hcn
  have hbe := sp_cell_end _ _ _ hb2
  have hbg := sp_cell_ge _ _ _ hb2
  have ei : ox_w (ox_w (24 * (l : Int)) + (c : Int)) = ((24 * l + c : Nat) : Int) := by
    rw [oy_w (x := 24 * (l : Int)) (by omega) (by omega), oy_w (by omega) (by omega)]
    omega
  have hix : 0 ≤ ((24 * l + c : Nat) : Int) ∧ ((24 * l + c : Nat) : Int).toNat < 1440 := by omega
  rw [hb1, Option.bind_some, if_neg (by omega), ei, if_pos hix, if_pos hix, if_pos hix, if_pos hix, Int.toNat_natCast]
  by_cases q1 : σ 10 0 41 (24 * l + c) = 1
  · unfold J_Mod_value_30
    rw [if_pos q1, hw.busy hcn h4 q1, oy_er]
    exact ⟨σ, rfl, oy_ev.rf hm⟩
  rw [if_neg q1]
  by_cases q2 : σ 10 0 37 (24 * l + c) = σ 10 0 36 0
  · rw [if_pos q2, hm.2.1 l c hcn h4 q2]
    exact ⟨σ, rfl, oy_ev.rf hm⟩
  rw [if_neg q2]
  have mm := hm.mark (i := 24 * l + c)
  have lo := hw.mark hT hcn
  have ml := om_look (p := b) hT mm.1.1 hl (by omega)
  rw [ml, Option.bind_some]
  unfold sp_cell at hb2
  have ef : f l c = sp_sv (sp_tv T f l) 0 (sp_ts T l c) := by
    have e1 : f l c = sp_ce T f l c := congrFun (congrFun hfi.fix l) c
    exact e1.trans (if_pos hcn)
  by_cases q3 : oy_wk (oy_ln T l) b = 61
  · rw [if_pos q3] at hb2
    have hts : sp_ts T l c = sp_tl (oy_ln T l) 6 43 (b + 1) := by
      rw [hb3]
      unfold sp_cel
      rw [if_pos q3]
    obtain ⟨σ1, p1, g1⟩ := hS l c (b + 1) e _ hl hcn hb2 hts mm lo (hmu q1)
    rw [if_pos h4] at p1
    obtain ⟨σ', d1, g2⟩ := om_done hT hm hcn q1 g1
    rw [if_pos q3, oy_w1 (by omega), p1, Option.bind_some]
    exact ⟨σ', d1, g2⟩
  rw [if_neg q3] at hb2 ⊢
  rw [Option.bind_some]
  have hn := sp_nu_in (oy_ln T l) (sp_sg (oy_ln T l) b)
  have h0 : 0 ≤ (sp_nu (oy_ln T l) (sp_sg (oy_ln T l) b)).2 := by
    by_cases z : 0 ≤ (sp_nu (oy_ln T l) (sp_sg (oy_ln T l) b)).2
    · exact z
    · rw [if_neg z] at hb2
      cases hb2
  have hsg := sp_sg_le (oy_ln T l) b
  have hts : sp_ts T l c = [((if oy_wk (oy_ln T l) b = 45 then 45 else 43), 0, 0, (sp_nu (oy_ln T l) (sp_sg (oy_ln T l) b)).2)] := by
    rw [hb3]
    unfold sp_cel
    rw [if_neg q3]
  rw [hts] at ef
  have en : ∀ p : Nat, p ≤ 100 → F_Mod_digits (l : Int) (p : Int) (ox_up σ 10 0 41 (24 * l + c) 1) = some ((sp_nu (oy_ln T l) p).2, oy_at (ox_up σ 10 0 41 (24 * l + c) 1) (sp_nu (oy_ln T l) p).1) := by
    intro p hp
    have en : F_Mod_number (l : Int) (ox_up (ox_up σ 10 0 41 (24 * l + c) 1) 10 0 11 0 (p : Int)) = some ((sp_nu (oy_ln T l) p).2, oy_at (ox_up σ 10 0 41 (24 * l + c) 1) (sp_nu (oy_ln T l) p).1) := om_number hT mm.1.1 hl (by omega)
    unfold F_Mod_digits
    rw [en, Option.bind_some]
  have fin : ∀ (a : Nat) (v : Int), v = oy_cl (f l c) → ∃ σ', J_Mod_value_140 P ((24 * l + c : Nat) : Int) v (oy_at (ox_up σ 10 0 41 (24 * l + c) 1) a) = some (oy_cl (f l c), σ') ∧ oy_ev T f σ σ' := by
    intro a v hv
    rw [hv]
    exact om_done hT hm hcn q1 (oy_ev.sp mm (oy_fr.rf.up rfl))
  unfold J_Mod_value_108 J_Mod_value_124 J_Mod_value_137
  by_cases q4 : oy_wk (oy_ln T l) b = 45
  · have es : sp_sg (oy_ln T l) b = b + 1 := if_pos q4
    rw [es] at ef hn h0
    rw [if_pos q4] at ef ⊢
    rw [if_neg oy_10, oy_w1 (by omega), en (b + 1) (by omega), Option.bind_some, if_neg oy_10]
    refine fin _ _ ?_
    rw [ef]
    generalize (sp_nu (oy_ln T l) (b + 1)).2 = x at h0 hn
    have et : sp_sv (sp_tv T f l) 0 [((45 : Int), 0, 0, x)] = -x := by
      have ev : sp_tv T f l ((45 : Int), 0, 0, x) = x := if_pos rfl
      rw [sp_sv, ev, if_neg (by decide), if_neg (by omega), sp_sv]
      unfold sp_jo sp_jr
      rw [if_neg (show ¬ (45 : Int) = 43 by decide), if_pos rfl, if_pos (by omega)]
      omega
    rw [et]
    unfold oy_cl
    rw [if_neg (by omega)]
    dsimp only
    rw [oy_w (by omega) (by omega)]
    omega
  · have es : sp_sg (oy_ln T l) b = b := if_neg q4
    rw [es] at ef hn h0
    rw [if_neg q4] at ef ⊢
    rw [if_pos rfl, en b (by omega), Option.bind_some, if_pos rfl]
    refine fin _ _ ?_
    rw [ef]
    generalize (sp_nu (oy_ln T l) b).2 = x at h0 hn
    have et : sp_sv (sp_tv T f l) 0 [((43 : Int), 0, 0, x)] = x := by
      have ev : sp_tv T f l ((43 : Int), 0, 0, x) = x := if_pos rfl
      rw [sp_sv, ev, if_neg (by decide), if_neg (by omega), sp_sv]
      unfold sp_jo sp_jr
      rw [if_pos rfl, if_pos (by omega)]
      omega
    rw [et]
    unfold oy_cl
    rw [if_neg (by omega)]
    dsimp only
    rw [oy_w (by omega) (by omega)]
    omega
end OYK1
