/-! ===== the class reads: a line ===== -/
def oy_okL (k : Nat) (T : oy_T) : Prop := T.length ≤ ox_ln k ∧ ∀ w ∈ T, w.length ≤ ox_wd k ∧ ∀ x ∈ w, 32 ≤ x ∧ x ≤ 126
theorem oy_ok_L {T : oy_T} (h : oy_ok T) : oy_okL 0 T := h
theorem oy_wdk (k : Nat) : ox_wd k = 24 ∨ ox_wd k = 48 := by unfold ox_wd; split <;> omega
theorem oy_lnk (k : Nat) : 60 ≤ ox_ln k ∧ ox_ln k ≤ 300 := by unfold ox_ln; split <;> (try split) <;> omega
theorem oy_okL_len {k : Nat} {T : oy_T} (h : oy_okL k T) (l : Nat) : (oy_ln T l).length ≤ ox_wd k := by
  by_cases hl : l < T.length
  · exact (h.2 _ (oy_ln_mem hl)).1
  · unfold oy_ln
    rw [List.getD_eq_getElem?_getD, List.getElem?_eq_none (by omega)]
    exact Nat.zero_le _
theorem oy_okL_wk {k : Nat} {T : oy_T} (h : oy_okL k T) (l p : Nat) : 0 ≤ oy_wk (oy_ln T l) p ∧ oy_wk (oy_ln T l) p ≤ 126 := by
  by_cases hp : p < (oy_ln T l).length
  · by_cases hl : l < T.length
    · have h2 := (h.2 _ (oy_ln_mem hl)).2 (oy_wk (oy_ln T l) p) (by
        unfold oy_wk
        rw [List.getD_eq_getElem?_getD, List.getElem?_eq_getElem hp]
        exact List.getElem_mem hp)
      omega
    · exfalso
      unfold oy_ln at hp
      rw [List.getD_eq_getElem?_getD, List.getElem?_eq_none (by omega)] at hp
      exact absurd hp (Nat.not_lt_zero _)
  · rw [oy_wk_ge (by omega)]
    omega
theorem oy_ln_ge {T : oy_T} {l : Nat} (h : T.length ≤ l) : oy_ln T l = [] := by
  unfold oy_ln
  rw [List.getD_eq_getElem?_getD, List.getElem?_eq_none h]
  rfl
theorem oc_at {k : Nat} {T : oy_T} {σ : ox_H} (hT : oy_okL k T) (hL : oy_L k T σ) (hw : σ 1 k 1 0 = ox_wd k) (l p : Nat) : F_Lin_at k (l : Int) (p : Int) σ = some (oy_wk (oy_ln T l) p) := by
  have h1 := oy_wdk k
  have h2 := oy_lnk k
  have h3 := hT.1
  have h4 := oy_okL_len hT l
  have h5 := oy_okL_wk hT l p
  unfold F_Lin_at J_Lin_at_26
  rw [hL.1, if_neg (by omega)]
  by_cases hl : l < T.length
  rotate_left
  · rw [if_pos (by omega), oy_ln_ge (by omega)]; rfl
  rw [if_neg (by omega), if_neg (by omega), if_pos (by omega), Int.toNat_natCast, hL.2.1 l hl, hw]
  by_cases hp : p < (oy_ln T l).length
  rotate_left
  · rw [if_neg (by omega), oy_wk_ge (by omega)]
  have e : ox_w (ox_w ((l : Int) * (ox_wd k : Int)) + (p : Int)) = ((ox_wd k * l + p : Nat) : Int) := by
    rcases h1 with q | q <;> rw [q] at h4 ⊢ <;> rw [oy_w (x := (l : Int) * _) (by omega) (by omega), oy_w (by omega) (by omega)] <;> omega
  have hb : ox_wd k * l + p < ox_ln k * ox_wd k := by
    rcases h1 with q | q <;> rw [q] at h4 ⊢ <;> omega
  rw [if_pos (by omega), e, Int.toNat_natCast, if_pos ⟨by omega, hb⟩, hL.2.2 l p hl hp, Int.emod_eq_of_lt h5.1 (by omega)]
theorem oc_size {k : Nat} {T : oy_T} {σ : ox_H} (hT : oy_okL k T) (hL : oy_L k T σ) (l : Nat) : F_Lin_size k (l : Int) σ = some ((oy_ln T l).length : Int) := by
  have h3 := hT.1
  unfold F_Lin_size J_Lin_size_21 J_Lin_size_22
  rw [hL.1, if_neg (by omega)]
  by_cases hl : l < T.length
  · rw [if_neg (by omega), if_pos (by omega), Int.toNat_natCast, hL.2.1 l hl]
  · rw [if_pos (by omega), oy_ln_ge (by omega)]; rfl
/-- what reading a line from its begin on writes -/
def oy_rs (l : Nat) (c k j i : Nat) : Prop := c = 3 ∨ (c = 4 ∧ k = l) ∨ (c = 6 ∧ ((j < 2 ∧ i = l) ∨ (2 ≤ j ∧ 12 * l ≤ i ∧ i < 12 * l + 12)))
theorem oy_sl_rs {l c k j i : Nat} (h : oy_sl l c k j i) : oy_rs l c k j i := by
  unfold oy_sl at h
  unfold oy_rs
  omega
theorem oy_L.fs {k : Nat} {T : oy_T} {S : Nat → Nat → Nat → Nat → Prop} {σ σ' : ox_H} (h : oy_L k T σ) (hf : oy_fs S σ σ') (h2 : ∀ k' j i, ¬ S 1 k' j i) : oy_L k T σ' :=
  ⟨(hf 1 k 4 0 (h2 _ _ _)).trans h.1, fun l hl => (hf 1 k 3 l (h2 _ _ _)).trans (h.2.1 l hl), fun l p hl hp => (hf 1 k 2 _ (h2 _ _ _)).trans (h.2.2 l p hl hp)⟩
theorem oy_rs1 {l k j i : Nat} : ¬ oy_rs l 1 k j i := by unfold oy_rs; omega
theorem oc_forget {l : Nat} (hl : l < 60) {σ : ox_H} : ∃ τ, F_Sum_forget (l : Int) σ = some τ ∧ oy_fs (fun c _ j i => c = 6 ∧ j < 2 ∧ i = l) σ τ ∧ oy_sm l [] [] τ := by
  unfold F_Sum_forget J_Sum_forget_24
  rw [if_neg (by omega), if_neg (by omega), if_pos (by omega), if_pos (by omega), Int.toNat_natCast]
  refine ⟨_, rfl, (oy_fs.rf.up ⟨rfl, by decide, rfl⟩).up ⟨rfl, by decide, rfl⟩, (oy_up_ne (by decide)).trans oy_up_same, oy_up_same, fun c hc => absurd hc (Nat.not_lt_zero _), fun t m hm => by cases hm⟩
section OYC7
variable {T : oy_T} {l : Nat}
theorem oc_bloop (hT : oy_ok T) (hl : l < T.length) : ∀ (f p n : Nat) (σ : ox_H), oy_L 0 T σ → σ 1 0 1 0 = 24 → σ 3 0 4 0 = (oy_ln T l).length → (∀ q, q < p → σ 3 0 2 q = oy_wk (oy_ln T l) q) → p + f = (oy_ln T l).length → f < n →
    ∃ τ, ox_lp (B_Rdr_begin_29 (l : Int)) n ((p : Int), σ) = some τ ∧ oy_fs (oy_rs l) σ τ ∧ τ 3 0 3 0 = σ 3 0 3 0 ∧ τ 3 0 4 0 = (oy_ln T l).length ∧ τ 3 0 5 0 = σ 3 0 5 0 ∧ (∀ q, q < (oy_ln T l).length → τ 3 0 2 q = oy_wk (oy_ln T l) q) ∧ oy_sm l [] [] τ
  | _, _, 0, _, _, _, _, _, _, h => absurd h (Nat.not_lt_zero _)
  | 0, p, n + 1, σ, hL, hw, h4, hq, hp, hn => by
    have h60 := hT.1
    obtain ⟨τ, e, f, g⟩ := oc_forget (l := l) (by omega) (σ := σ)
    have fr : ∀ j i, τ 3 0 j i = σ 3 0 j i := fun j i => f 3 0 j i (fun q => absurd q.1 (by decide))
    refine ⟨τ, oy_lp_m ?_, f.mono (fun c k j i h => by unfold oy_rs; omega), fr _ _, (fr _ _).trans h4, fr _ _, fun q hlt => (fr _ _).trans (hq q (by omega)), g⟩
    unfold B_Rdr_begin_29 J_Rdr_begin_58
    dsimp only
    rw [h4, if_pos (by omega), e]
    rfl
  | f + 1, p, n + 1, σ, hL, hw, h4, hq, hp, hn => by
    have h24 := oy_len24 hT l
    have hx := oy_wk_le hT l p
    have hB : B_Rdr_begin_29 (l : Int) ((p : Int), σ) = some (.inl (((p + 1 : Nat) : Int), ox_up σ 3 0 2 p (oy_wk (oy_ln T l) p))) := by
      unfold B_Rdr_begin_29
      dsimp only
      rw [h4, if_neg (by omega), oc_at (oy_ok_L hT) hL hw, Option.bind_some, if_pos (by omega), Int.toNat_natCast, oy_w1 (by omega), Int.emod_eq_of_lt hx.1 (by omega)]
    have hf1 : oy_fs (oy_rs l) σ (ox_up σ 3 0 2 p (oy_wk (oy_ln T l) p)) := oy_fs.rf.up (Or.inl rfl)
    obtain ⟨τ, e, f', g3, g4, g5, g2, gs⟩ := oc_bloop hT hl f (p + 1) n (ox_up σ 3 0 2 p (oy_wk (oy_ln T l) p)) (hL.fs hf1 (fun _ _ _ => oy_rs1)) ((oy_up_ne (by decide)).trans hw) ((oy_up_ne (by decide)).trans h4) (fun q hlt => by
      by_cases z : q = p
      · rw [z]; exact oy_up_same
      · rw [oy_up_ni z]; exact hq q (by omega)) (by omega) (by omega)
    exact ⟨τ, (oy_lp_l hB).trans e, hf1.tr f', g3.trans (oy_up_ne (by decide)), g4, g5.trans (oy_up_ne (by decide)), g2, gs⟩
theorem oc_begin (hT : oy_ok T) (hl : l < T.length) {σ : ox_H} (hL : oy_L 0 T σ) (hw : σ 1 0 1 0 = 24) : ∃ τ, F_Rdr_begin (l : Int) σ = some τ ∧ oy_fs (oy_rs l) σ τ ∧ oy_R (oy_ln T l) τ ∧ τ 3 0 3 0 = (l : Int) ∧ τ 3 0 5 0 = 0 ∧ oy_sm l [] [] τ := by
  have h24 := oy_len24 hT l
  have hf0 : oy_fs (oy_rs l) σ (ox_up σ 3 0 3 0 (l : Int)) := oy_fs.rf.up (Or.inl rfl)
  have hL0 := hL.fs hf0 (fun _ _ _ => oy_rs1)
  unfold F_Rdr_begin J_Rdr_begin_29
  rw [oc_size (oy_ok_L hT) hL0, Option.bind_some, if_neg (by omega)]
  have hf1 : oy_fs (oy_rs l) σ (ox_up (ox_up (ox_up σ 3 0 3 0 (l : Int)) 3 0 4 0 (((oy_ln T l).length : Nat) : Int)) 3 0 5 0 0) := (hf0.up (Or.inl rfl)).up (Or.inl rfl)
  obtain ⟨τ, e, f', g3, g4, g5, g2, gs⟩ := oc_bloop hT hl (oy_ln T l).length 0 ox_fu _ (hL.fs hf1 (fun _ _ _ => oy_rs1)) ((hf1 1 0 1 0 oy_rs1).trans hw) ((oy_up_ne (by decide)).trans oy_up_same) (fun q h => absurd h (Nat.not_lt_zero _)) (by omega) (by show _ < 100000; omega)
  exact ⟨τ, e, hf1.tr f', ⟨h24, (hT.2 _ (oy_ln_mem hl)).2, g4, g2⟩, g3.trans (((oy_up_ne (by decide)).trans (oy_up_ne (by decide))).trans oy_up_same), g5.trans oy_up_same, gs⟩
end OYC7
section OYC7b
variable {w : List Int} {σ : ox_H} {l : Nat}
theorem oc_row (hR : oy_R w σ) (h3 : σ 3 0 3 0 = (l : Int)) (hl : l < 60) (hs : oy_sm l [] [] σ) (h0 : oy_wk w 0 = 124) : oy_tk (oy_sl l) w σ (F_Rdr_takeRow (oy_pl σ 0)) (sp_row w = true) (fun τ => oy_sm l (sp_cls w 30 0) [] τ) := by
  have h24 := hR.1
  obtain ⟨r, τ, a', e, f, g, k⟩ := oc_rowl (w := w) hl 30 ox_fu 0 [] σ hR h3 hs (Nat.le_refl _) (Nat.le_refl _) (by omega) (by omega) (by show 30 < 100000; omega)
  have hrow : sp_row w = true ↔ sp_cells w 30 0 = true := by
    unfold sp_row
    rw [decide_eq_true h0, Bool.true_and]
  refine ⟨r, oy_pl τ a', e, oy_plfs (f.mono (fun _ _ _ _ => oy_s6_sl)), ?_, fun q => oy_sm_pl (k (hrow.mp q))⟩
  rw [oy_pl_get, hrow, ← g]
  exact ⟨fun q => ⟨q.1, by omega⟩, fun q => ⟨q.1, by omega⟩⟩
theorem oc_code (hR : oy_R w σ) (h3 : σ 3 0 3 0 = (l : Int)) (hl : l < 60) (hs : oy_sm l [] [] σ) (h0 : oy_wk w 0 = 123) : oy_tk (oy_sl l) w σ (F_Rdr_takeCode l (oy_pl σ 0)) (sp_code w = true) (fun τ => τ 4 l 1 0 = oy_wk w 1 - 97 ∧ oy_sm l [sp_tl w 6 43 3] [] τ) := by
  have h24 := hR.1
  have hcode : sp_code w = true ↔ (sp_lt (oy_wk w 1) ∧ oy_wk w 2 = 125 ∧ sp_sum w 6 3 = some w.length) := by
    unfold sp_code
    rw [Bool.and_eq_true, decide_eq_true_eq, decide_eq_true_eq]
    exact ⟨fun q => ⟨q.1.2.1, q.1.2.2, q.2⟩, fun q => ⟨⟨h0, q.1, q.2.1⟩, q.2.2⟩⟩
  unfold F_Rdr_takeCode J_Rdr_takeCode_44
  rw [oy_pl_step (b := 1) rfl (by omega)]
  by_cases h1 : sp_lt (oy_wk w 1)
  rotate_left
  · rw [oc_le0 hR h1, Option.bind_some]
    dsimp only
    rw [if_pos oy_up_same]
    exact oy_tk_no rfl ((oy_plfs oy_fs.rf).up (oy_sl4 (by decide))) (fun q => h1 (hcode.mp q).1)
  have h11 := h1.1
  have hR1 : oy_R w (ox_up σ 4 l 1 0 (oy_wk w 1 - 97)) := oy_R_up hR rfl
  have F1 : oy_fs (oy_sl l) σ (ox_up σ 4 l 1 0 (oy_wk w 1 - 97)) := oy_fs.rf.up (oy_sl4 (by decide))
  have hs1 : oy_sm l [] [] (ox_up σ 4 l 1 0 (oy_wk w 1 - 97)) := ⟨(oy_up_ne (by decide)).trans hs.1, (oy_up_ne (by decide)).trans hs.2.1, fun c hc => absurd hc (Nat.not_lt_zero _), fun t m hm => by cases hm⟩
  have h31 : (ox_up σ 4 l 1 0 (oy_wk w 1 - 97)) 3 0 3 0 = (l : Int) := (oy_up_ne (by decide)).trans h3
  rw [oc_le1 hR (b := 2) h1 rfl, Option.bind_some]
  dsimp only
  rw [if_neg (show ¬ (ox_up (oy_pl σ 2) 4 l 1 0 (oy_wk w 1 - 97)) 4 l 1 0 = -1 by rw [oy_up_same]; omega), oy_pl_com (by decide)]
  by_cases h2 : oy_wk w 2 = 125
  rotate_left
  · rw [oc_tk0 hR1 h2, Option.bind_some, if_pos rfl]
    exact oy_tk_no rfl (oy_plfs F1) (fun q => h2 (hcode.mp q).2.1)
  rw [oc_tk1 hR1 (b := 3) (by decide) h2 rfl, Option.bind_some, if_neg oy_10]
  dsimp only
  obtain ⟨r, τ, a1, e1, f1, g0, g1⟩ := oc_sum hR1 h31 hl hs1 (a := 3) (by show 2 * 0 + 2 ≤ 3; omega) (by omega)
  rw [e1, Option.bind_some]
  dsimp only
  have F2 := F1.tr (f1.mono (fun _ _ _ _ => oy_s6_sl))
  cases hq : sp_sum w 6 3 with
  | none =>
    rw [if_pos (g0 hq)]
    exact oy_tk_no rfl (oy_plfs F2) (fun q => by have := (hcode.mp q).2.2; rw [hq] at this; cases this)
  | some e =>
    obtain ⟨y1, y2, y3⟩ := g1 e hq
    subst y2
    have hlen := sp_tl_len w 6 43 3 a1 hq
    have hend := sp_sum_end w 6 3 a1 hq
    rw [if_neg (by omega), oy_pl_ne (by decide), (f1 3 0 3 0 (by unfold oy_s6; omega)).trans h31]
    obtain ⟨τ2, e2, f2, g2⟩ := oc_endCell hl y3 (a := a1) (by show (sp_tl w 6 43 3).length ≤ 12; omega) (by decide)
    rw [e2, Option.bind_some]
    refine oy_tk_yes oy_sl3 rfl (F2.tr (f2.mono (fun _ _ _ _ => oy_s6_sl))) ⟨fun q => hcode.mpr ⟨h1, h2, by rw [hq, q]⟩, fun q => ?_⟩ (fun _ => ⟨(oy_pl_ne (by decide)).trans ((f2 4 l 1 0 (by unfold oy_s6; omega)).trans ((f1 4 l 1 0 (by unfold oy_s6; omega)).trans oy_up_same)), oy_sm_pl g2⟩)
    · have := (hcode.mp q).2.2
      rw [hq] at this
      exact Option.some.inj this
end OYC7b
