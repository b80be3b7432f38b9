/-! ===== calls that change no text ===== -/
/-- the reference's scratch, its thrown code too -/
def oy_sr2 (c j : Nat) : Bool := c == 10 && ((decide (11 ≤ j) && decide (j ≤ 22)) || j == 46)
theorem oy_sq_r {c j : Nat} (h : oy_sq c j = true) : oy_sr2 c j = true := by
  unfold oy_sq at h
  unfold oy_sr2
  rw [Bool.and_eq_true] at h ⊢
  exact ⟨h.1, by rw [h.2]; rfl⟩
theorem oy_sp_r {c j : Nat} (h : oy_sp c j = true) : oy_sr2 c j = true := oy_sq_r (oy_sp_sq h)
/-- the class between calls -/
def oy_CQ (T : oy_T) (σ : ox_H) : Prop := oy_C T σ ∧ oy_60 σ
/-- the class has refreshed its outline, or has not -/
def oy_ft (T : oy_T) (σ σ1 : ox_H) : Prop := oy_fs oy_rf σ σ1 ∧ oy_CQ T σ1 ∧ (σ1 2 0 10 0 = σ 2 0 10 0 ∨ σ1 2 0 10 0 = σ 1 0 5 0)
theorem oy_rf1 {k j i : Nat} : ¬ oy_rf 1 k j i := by unfold oy_rf; omega
theorem oy_60_fs {S : Nat → Nat → Nat → Nat → Prop} {σ σ' : ox_H} (h : oy_60 σ) (hf : oy_fs S σ σ') (hS : ∀ j i, ¬ S 4 60 j i) : oy_60 σ' := by
  unfold oy_60 at *
  rw [hf 4 60 0 0 (hS _ _), hf 4 60 3 0 (hS _ _), hf 4 60 4 0 (hS _ _), hf 4 60 5 0 (hS _ _), hf 4 60 6 0 (hS _ _), hf 4 60 8 0 (hS _ _), hf 4 60 9 0 (hS _ _), hf 4 60 10 0 (hS _ _)]
  exact h
section OYE1
variable {T : oy_T} {σ : ox_H}
theorem oc_ask (hT : oy_ok T) (h : oy_CQ T σ) : ∃ σ1, F_Otl_refresh σ = some σ1 ∧ oy_ft T σ σ1 ∧ oy_Q T σ1 ∧ σ1 2 0 10 0 = σ1 1 0 5 0 := by
  obtain ⟨σ1, e1, f1, g1, g2, g3⟩ := oc_refresh hT h.1
  have hL := h.1.1.fs f1 (fun _ _ _ => oy_rf1)
  have hw := (f1 1 0 1 0 oy_rf1).trans h.1.2.1
  have hn := (f1 1 0 0 0 oy_rf1).trans h.1.2.2.1
  have h60 : oy_60 σ1 := oy_60_fs h.2 f1 (fun j i => by unfold oy_rf; omega)
  exact ⟨σ1, e1, ⟨f1, ⟨⟨hL, hw, hn, fun _ => g1⟩, h60⟩, Or.inr g2⟩, ⟨g1, hL, hw, h60⟩, g2.trans (f1 1 0 5 0 oy_rf1).symm⟩
theorem oy_ft_rf (h : oy_CQ T σ) : oy_ft T σ σ := ⟨oy_fs.rf, h, Or.inl rfl⟩
theorem oc_hasLine {k : Nat} {T : oy_T} (hL : oy_L k T σ) {a : Int} : F_Out_checkLine k a σ = some (if 0 ≤ a ∧ a < T.length then .inr () else .inl 1) := by
  unfold F_Out_checkLine F_Lin_has J_Lin_has_16 J_Lin_has_17
  rw [hL.1]
  by_cases h1 : a < 0
  · rw [if_pos h1, if_neg (show ¬ (0 ≤ a ∧ a < T.length) by omega)]; rfl
  rw [if_neg h1]
  by_cases h2 : (T.length : Int) ≤ a
  · rw [if_pos h2, if_neg (show ¬ (0 ≤ a ∧ a < T.length) by omega)]; rfl
  · rw [if_neg h2, if_pos (show 0 ≤ a ∧ a < T.length by omega)]; rfl
theorem oc_checkEntry (hQ : oy_Q T σ) {a : Int} : F_Out_checkEntry a σ = some (if 0 ≤ a ∧ a < sp_n T then .inr () else .inl 1) := by
  unfold F_Out_checkEntry
  rw [oc_has hQ, Option.bind_some]
  by_cases h : 0 ≤ a ∧ a < sp_n T
  · rw [if_pos h, if_neg oy_10, if_pos h]
  · rw [if_neg h, if_pos rfl, if_neg h]
theorem oc_checkLetter {a : Int} : F_Out_checkLetter a σ = some (if 0 ≤ a ∧ a < 26 then .inr () else .inl 2) := by
  unfold F_Out_checkLetter J_Out_checkLetter_10
  by_cases h1 : a < 0
  · rw [if_pos h1, if_neg (show ¬ (0 ≤ a ∧ a < 26) by omega)]
  rw [if_neg h1]
  by_cases h2 : a < 26
  · rw [if_pos h2, if_pos (show 0 ≤ a ∧ a < 26 by omega)]
  · rw [if_neg h2, if_neg (show ¬ (0 ≤ a ∧ a < 26) by omega)]
theorem om_holds {c : Int} : F_Mod_holds c σ = some (if c ≤ 0 then 0 else 1, ox_up σ 10 0 46 0 c) := by
  unfold F_Mod_holds J_Mod_holds_14
  by_cases h : c ≤ 0
  · rw [if_pos h, if_pos h]; rfl
  · rw [if_neg h, if_neg h]; rfl
theorem om_isLine (hM : oy_M T σ) (hT : oy_ok T) {a : Int} : F_Mod_isLine a σ = some (if 0 ≤ a ∧ a < T.length then 1 else 0) := by
  have h60 := hT.1
  unfold F_Mod_isLine
  rw [hM.1, om_in, Option.bind_some, oy_w (by omega) (by omega)]
  by_cases h : 0 ≤ a ∧ a < T.length
  · rw [if_pos h, if_pos (by omega)]; rfl
  · rw [if_neg h, if_neg (by omega)]; rfl
/-! entries -/
theorem oc_entries (hT : oy_ok T) (h : oy_CQ T σ) : ∃ σ1, F_Out_entries σ = some ((sp_n T : Int), σ1) ∧ oy_ft T σ σ1 := by
  obtain ⟨σ1, e1, f1, q1, -⟩ := oc_ask hT h
  refine ⟨σ1, ?_, f1⟩
  unfold F_Out_entries
  rw [e1, Option.bind_some, q1.1.1]
theorem om_entries (hT : oy_ok T) (hM : oy_M T σ) : ∃ σ2, F_Mod_entries σ = some ((sp_n T : Int), σ2) ∧ oy_fr oy_sr2 σ σ2 ∧ σ2 10 0 46 0 = 0 := by
  have f0 : oy_fr oy_sr2 σ (ox_up σ 10 0 46 0 0) := oy_fr.rf.up rfl
  obtain ⟨σ2, e2, f2, g2⟩ := om_find hT (hM.fr f0 rfl rfl rfl)
  refine ⟨σ2, ?_, f0.tr (f2.mono (fun c j h => oy_sq_r h)), (f2 10 0 46 0 rfl).trans oy_up_same⟩
  unfold F_Mod_entries
  rw [om_holds, if_pos (Int.le_refl _), Option.bind_some]
  dsimp only
  rw [e2, Option.bind_some, g2.2.1]
/-! kinds -/
theorem oc_kind (hT : oy_ok T) (h : oy_CQ T σ) {a : Int} : ∃ σ1, F_Out_kind a σ = some (if 0 ≤ a ∧ a < T.length then .inr (sp_kind (oy_ln T a.toNat)) else .inl 1, σ1) ∧ oy_ft T σ σ1 := by
  unfold F_Out_kind
  rw [oc_hasLine h.1.1, Option.bind_some]
  by_cases q : 0 ≤ a ∧ a < T.length
  · obtain ⟨σ1, e1, f1, q1, -⟩ := oc_ask hT h
    obtain ⟨l, rfl⟩ : ∃ l : Nat, a = l := ⟨a.toNat, by omega⟩
    obtain ⟨r1, r2⟩ := oc_erd hT q1 (l := l) (by omega)
    refine ⟨σ1, ?_, f1⟩
    rw [if_pos q, if_pos q]
    dsimp only
    rw [e1, Option.bind_some, r1, Option.bind_some, r2.1, Int.toNat_natCast]
  · rw [if_neg q, if_neg q]
    exact ⟨σ, rfl, oy_ft_rf h⟩
theorem om_kind (hT : oy_ok T) (hM : oy_M T σ) {a : Int} : ∃ σ2, F_Mod_kind a σ = some (if 0 ≤ a ∧ a < T.length then sp_kind (oy_ln T a.toNat) else -1, σ2) ∧ oy_fr oy_sr2 σ σ2 ∧ σ2 10 0 46 0 = (if 0 ≤ a ∧ a < T.length then 0 else 1) := by
  unfold F_Mod_kind J_Mod_kind_14 J_Mod_kind_29
  rw [om_isLine hM hT, Option.bind_some]
  by_cases q : 0 ≤ a ∧ a < T.length
  · have f0 : oy_fr oy_sr2 σ (ox_up σ 10 0 46 0 0) := oy_fr.rf.up rfl
    obtain ⟨l, rfl⟩ : ∃ l : Nat, a = l := ⟨a.toNat, by omega⟩
    obtain ⟨σ2, e2, f2, -⟩ := om_kindOf hT (hM.fr f0 rfl rfl rfl) (l := l) (by omega)
    rw [if_pos q, if_pos q, if_pos q, if_neg oy_10, om_holds, if_pos (Int.le_refl _), Option.bind_some, if_pos rfl]
    dsimp only
    rw [e2, Option.bind_some, Int.toNat_natCast]
    exact ⟨σ2, rfl, f0.tr (f2.mono (fun c j h => oy_sp_r h)), (f2 10 0 46 0 rfl).trans oy_up_same⟩
  · rw [if_neg q, if_neg q, if_neg q, if_pos rfl, om_holds, if_neg (by decide), Option.bind_some, if_neg oy_10]
    exact ⟨ox_up σ 10 0 46 0 1, rfl, oy_fr.rf.up rfl, oy_up_same⟩
end OYE1
