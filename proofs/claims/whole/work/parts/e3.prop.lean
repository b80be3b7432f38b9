/-! ===== entries and properties: the reference's calls, the class's properties ===== -/
section OYE3
variable {T : oy_T} {σ : ox_H}
/-- what of the reference's heap a question leaves -/
theorem om_entry (hT : oy_ok T) (hM : oy_M T σ) {a k : Int} : ∃ σ2 x, F_Mod_entry a k σ = some (x, σ2) ∧ oy_fr oy_sr2 σ σ2 ∧ σ2 10 0 46 0 = (if 0 ≤ a ∧ a < sp_n T then (if 0 ≤ k ∧ k ≤ 8 then 0 else 2) else 1) ∧ ((0 ≤ a ∧ a < sp_n T) ∧ 0 ≤ k ∧ k ≤ 8 → x = sp_ent T a.toNat k) := by
  have h60 := hT.1
  have hn := sp_n_le (T := T)
  obtain ⟨σ1, e1, f1, F1⟩ := om_isEntry hT hM (a := a)
  have fr1 : oy_fr oy_sr2 σ σ1 := f1.mono (fun c j h => oy_sq_r h)
  have bad : ∀ c : Int, 0 < c → J_Mod_entry_29 a k c σ1 = some (-1, ox_up σ1 10 0 46 0 c) := by
    intro c hc
    unfold J_Mod_entry_29
    rw [om_holds, if_neg (by omega), Option.bind_some, if_neg oy_10]
  unfold F_Mod_entry
  rw [e1, Option.bind_some]
  by_cases q : 0 ≤ a ∧ a < sp_n T
  rotate_left
  · rw [if_neg q, if_pos rfl, if_neg q]
    dsimp only
    rw [bad 1 (by decide)]
    exact ⟨ox_up σ1 10 0 46 0 1, _, rfl, fr1.up rfl, oy_up_same, fun z => absurd z.1 q⟩
  rw [if_pos q, if_neg oy_10, if_pos q]
  dsimp only
  rw [om_in, Option.bind_some]
  by_cases q2 : 0 ≤ k ∧ k ≤ 8
  rotate_left
  · rw [if_neg q2, if_pos rfl, if_neg q2, bad 2 (by decide)]
    exact ⟨ox_up σ1 10 0 46 0 2, _, rfl, fr1.up rfl, oy_up_same, fun z => absurd z.2 q2⟩
  rw [if_pos q2, if_neg oy_10, if_pos q2]
  obtain ⟨e, rfl⟩ : ∃ l : Nat, a = l := ⟨a.toNat, by omega⟩
  have he : e < sp_n T := by omega
  have hla := sp_la_in he
  have hle := sp_la_en he
  have hl1 := sp_en_le (T := T) (sp_la T e)
  have f0 : oy_fr oy_sr2 σ1 (ox_up σ1 10 0 46 0 0) := oy_fr.rf.up rfl
  have F0 : oy_F T (ox_up σ1 10 0 46 0 0) := F1.fr (S := fun c j => c == 10 && j == 46) (oy_fr.rf.up rfl) rfl rfl rfl rfl rfl
  have w0 : (ox_up σ1 10 0 46 0 0) 10 0 46 0 = 0 := oy_up_same
  unfold J_Mod_entry_29
  rw [om_holds, if_pos (Int.le_refl _), Option.bind_some, if_pos rfl, Int.toNat_natCast]
  dsimp only
  generalize ox_up σ1 10 0 46 0 0 = σ3 at f0 F0 w0 ⊢
  have fr3 := fr1.tr f0
  have fin : ∀ (X : Option (Int × ox_H)) (y : Int), (∃ σ', X = some (y, σ') ∧ oy_fr oy_sp σ3 σ') → y = sp_ent T e k → ∃ σ2 x, X = some (x, σ2) ∧ oy_fr oy_sr2 σ σ2 ∧ σ2 10 0 46 0 = 0 ∧ ((0 ≤ (e : Int) ∧ (e : Int) < sp_n T) ∧ 0 ≤ k ∧ k ≤ 8 → x = sp_ent T e k) := by
    intro X y hx hy
    obtain ⟨σ', e', f'⟩ := hx
    exact ⟨σ', y, e', fr3.tr (f'.mono (fun c j h => oy_sp_r h)), (f' 10 0 46 0 rfl).trans w0, fun _ => hy⟩
  unfold sp_ent at fin ⊢
  by_cases k0 : k = 0
  · rw [if_pos (show k = ((0 : Nat) : Int) from k0)]
    exact fin _ (sp_en T e : Int) ⟨σ3, by rw [if_pos (by omega), F0.2.2 e (by omega)], oy_fr.rf⟩ (by rw [if_pos k0])
  rw [if_neg (show ¬ k = ((0 : Nat) : Int) from k0)]
  by_cases k1 : k = 1
  · obtain ⟨σ', e', f'⟩ := om_level hT F0 he
    rw [if_pos (show k = ((1 : Nat) : Int) from k1)]
    exact fin _ _ ⟨σ', by rw [e', Option.bind_some], f'⟩ (by rw [if_neg k0, if_pos k1])
  rw [if_neg (show ¬ k = ((1 : Nat) : Int) from k1)]
  by_cases k2 : k = 2
  · obtain ⟨σ', e', f'⟩ := om_parent hT F0 he
    rw [if_pos (show k = ((2 : Nat) : Int) from k2)]
    exact fin _ _ ⟨σ', by rw [e', Option.bind_some], f'⟩ (by rw [if_neg k0, if_neg k1, if_pos k2])
  rw [if_neg (show ¬ k = ((2 : Nat) : Int) from k2)]
  by_cases k3 : k = 3
  · obtain ⟨σ', e', f'⟩ := om_stateOf hT F0 he
    rw [if_pos (show k = ((3 : Nat) : Int) from k3)]
    exact fin _ _ ⟨σ', by rw [e', Option.bind_some], f'⟩ (by rw [if_neg k0, if_neg k1, if_neg k2, if_pos k3])
  rw [if_neg (show ¬ k = ((3 : Nat) : Int) from k3)]
  by_cases k4 : k = 4
  · obtain ⟨σ', e', f'⟩ := om_last hT F0 he
    rw [if_pos (show k = ((4 : Nat) : Int) from k4)]
    exact fin _ ((sp_la T e : Int) - e - 1) ⟨σ', by
      rw [e', Option.bind_some]
      dsimp only
      rw [oy_w (x := (sp_la T e : Int) - e) (by omega) (by omega), oy_w (by omega) (by omega)], f'⟩ (by rw [if_neg k0, if_neg k1, if_neg k2, if_neg k3, if_pos k4])
  rw [if_neg (show ¬ k = ((4 : Nat) : Int) from k4)]
  by_cases k5 : k = 5
  · obtain ⟨σ', e', f'⟩ := om_end hT F0 he
    rw [if_pos (show k = ((5 : Nat) : Int) from k5)]
    exact fin _ ((sp_en T (sp_la T e) : Int) - sp_en T e) ⟨σ', by
      rw [e', Option.bind_some, if_pos (by omega)]
      dsimp only
      rw [(F0.sp f').2.2 e (by omega), oy_w (by omega) (by omega)], f'⟩ (by rw [if_neg k0, if_neg k1, if_neg k2, if_neg k3, if_neg k4, if_pos k5])
  rw [if_neg (show ¬ k = ((5 : Nat) : Int) from k5)]
  by_cases k6 : k = 6
  · obtain ⟨σ', e', f'⟩ := om_tagsOf hT F0 he
    rw [if_pos (show k = ((6 : Nat) : Int) from k6)]
    exact fin _ _ ⟨σ', by rw [e', Option.bind_some], f'⟩ (by rw [if_neg k0, if_neg k1, if_neg k2, if_neg k3, if_neg k4, if_neg k5, if_pos k6])
  rw [if_neg (show ¬ k = ((6 : Nat) : Int) from k6)]
  by_cases k7 : k = 7
  · obtain ⟨σ', e', f', g'⟩ := om_dateOf hT F0 he
    rw [if_pos (show k = ((7 : Nat) : Int) from k7)]
    refine fin _ _ ⟨σ', ?_, f'⟩ (by rw [if_neg k0, if_neg k1, if_neg k2, if_neg k3, if_neg k4, if_neg k5, if_neg k6, if_pos k7])
    unfold J_Mod_entry_154
    rw [e', Option.bind_some]
    by_cases z : sp_dl T e < sp_en T (e + 1)
    · obtain ⟨v, hv⟩ := sp_dl_some he z
      rw [if_pos z, if_pos (show 0 ≤ (sp_dl T e : Int) by omega), if_pos z, hv]
      exact congrArg (fun y => some (y, σ')) (g' z v hv).1
    · rw [if_neg z, if_neg (show ¬ 0 ≤ (-1 : Int) by decide), if_neg z]
  · rw [if_neg (show ¬ k = ((7 : Nat) : Int) from k7)]
    obtain ⟨σ', e', f'⟩ := om_rank hT F0 he
    exact fin _ _ ⟨σ', e', f'⟩ (by rw [if_neg k0, if_neg k1, if_neg k2, if_neg k3, if_neg k4, if_neg k5, if_neg k6, if_neg k7])
/-- what a call says of a property -/
def sp_pro (T : oy_T) (e : Nat) (x w : Int) : Int := if w = 0 then sp_has T (97 + x) e else sp_su T (97 + x) e
theorem oc_property (hT : oy_ok T) (h : oy_CQ T σ) {a x w : Int} : ∃ σ1, F_Out_property a x w σ = some (if 0 ≤ a ∧ a < sp_n T then (if 0 ≤ x ∧ x < 26 then .inr (sp_pro T a.toNat x w) else .inl 2) else .inl 1, σ1) ∧ oy_ft T σ σ1 := by
  have h60 := hT.1
  have hn := sp_n_le (T := T)
  obtain ⟨σ1, e1, f1, q1, -⟩ := oc_ask hT h
  refine ⟨σ1, ?_, f1⟩
  unfold F_Out_property J_Out_property_41
  rw [e1, Option.bind_some, oc_checkEntry q1, Option.bind_some]
  by_cases q : 0 ≤ a ∧ a < sp_n T
  rotate_left
  · rw [if_neg q, if_neg q]
  rw [if_pos q, if_pos q]
  obtain ⟨e, rfl⟩ : ∃ l : Nat, a = l := ⟨a.toNat, by omega⟩
  have he : e < sp_n T := by omega
  rw [Int.toNat_natCast]
  dsimp only
  rw [oc_checkLetter, Option.bind_some]
  by_cases q2 : 0 ≤ x ∧ x < 26
  rotate_left
  · rw [if_neg q2, if_neg q2]
  rw [if_pos q2, if_pos q2]
  dsimp only
  unfold sp_pro
  by_cases hw : w = 0
  · rw [if_pos hw, if_pos hw, oc_inherited hT q1 he, Option.bind_some]
  · rw [if_neg hw, if_neg hw, oc_summed hT q1 he, Option.bind_some]
theorem om_property (hT : oy_ok T) (hM : oy_M T σ) {a x w : Int} : ∃ σ2 y, F_Mod_property a x w σ = some (y, σ2) ∧ oy_fr oy_sr2 σ σ2 ∧ σ2 10 0 46 0 = (if 0 ≤ a ∧ a < sp_n T then (if 0 ≤ x ∧ x < 26 then 0 else 2) else 1) ∧ ((0 ≤ a ∧ a < sp_n T) ∧ 0 ≤ x ∧ x < 26 → y = sp_pro T a.toNat x w) := by
  have h60 := hT.1
  have hn := sp_n_le (T := T)
  obtain ⟨σ1, e1, f1, F1⟩ := om_isEntry hT hM (a := a)
  have fr1 : oy_fr oy_sr2 σ σ1 := f1.mono (fun c j h => oy_sq_r h)
  have bad : ∀ c : Int, 0 < c → J_Mod_property_29 a x w c σ1 = some (-1, ox_up σ1 10 0 46 0 c) := by
    intro c hc
    unfold J_Mod_property_29
    rw [om_holds, if_neg (by omega), Option.bind_some, if_neg oy_10]
  unfold F_Mod_property
  rw [e1, Option.bind_some]
  by_cases q : 0 ≤ a ∧ a < sp_n T
  rotate_left
  · rw [if_neg q, if_pos rfl, if_neg q]
    dsimp only
    rw [bad 1 (by decide)]
    exact ⟨ox_up σ1 10 0 46 0 1, _, rfl, fr1.up rfl, oy_up_same, fun z => absurd z.1 q⟩
  rw [if_pos q, if_neg oy_10, if_pos q]
  dsimp only
  rw [om_in, Option.bind_some]
  by_cases q2 : 0 ≤ x ∧ x < 26
  rotate_left
  · rw [if_neg (show ¬ (0 ≤ x ∧ x ≤ 25) by omega), if_pos rfl, if_neg q2, bad 2 (by decide)]
    exact ⟨ox_up σ1 10 0 46 0 2, _, rfl, fr1.up rfl, oy_up_same, fun z => absurd z.2 q2⟩
  rw [if_pos (show 0 ≤ x ∧ x ≤ 25 by omega), if_neg oy_10, if_pos q2]
  obtain ⟨e, rfl⟩ : ∃ l : Nat, a = l := ⟨a.toNat, by omega⟩
  have he : e < sp_n T := by omega
  have f0 : oy_fr oy_sr2 σ1 (ox_up σ1 10 0 46 0 0) := oy_fr.rf.up rfl
  have F0 : oy_F T (ox_up σ1 10 0 46 0 0) := F1.fr (S := fun c j => c == 10 && j == 46) (oy_fr.rf.up rfl) rfl rfl rfl rfl rfl
  have w0 : (ox_up σ1 10 0 46 0 0) 10 0 46 0 = 0 := oy_up_same
  unfold J_Mod_property_29
  rw [om_holds, if_pos (Int.le_refl _), Option.bind_some, if_pos rfl, Int.toNat_natCast]
  dsimp only
  generalize ox_up σ1 10 0 46 0 0 = σ3 at f0 F0 w0 ⊢
  have fr3 := fr1.tr f0
  unfold sp_pro
  by_cases hw : w = 0
  · obtain ⟨σ', e', f'⟩ := om_has hT F0 he (97 + x)
    rw [if_pos hw, if_pos hw, oy_w (by omega) (by omega), e', Option.bind_some]
    exact ⟨σ', _, rfl, fr3.tr (f'.mono (fun c j h => oy_sp_r h)), (f' 10 0 46 0 rfl).trans w0, fun _ => rfl⟩
  · obtain ⟨σ', e', f'⟩ := om_summed hT F0 he x (by omega)
    rw [if_neg hw, if_neg hw, e']
    exact ⟨σ', _, rfl, fr3.tr (f'.mono (fun c j h => oy_sp_r h)), (f' 10 0 46 0 rfl).trans w0, fun _ => rfl⟩
end OYE3
