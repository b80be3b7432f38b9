/-! ===== lines, signs, entries, properties: the calls ===== -/
/-- what a call says of an entry -/
def sp_ent (T : oy_T) (e : Nat) (k : Int) : Int := if k = 0 then (sp_en T e : Int) else if k = 1 then (sp_lv T e : Int) else if k = 2 then oy_en (sp_pa T e) else if k = 3 then sp_es_st T e else if k = 4 then (sp_la T e : Int) - e - 1 else if k = 5 then (sp_en T (sp_la T e) : Int) - sp_en T e else if k = 6 then sp_tgs T e else if k = 7 then (if sp_dl T e < sp_en T (e + 1) then (sp_date (oy_ln T (sp_dl T e))).elim 0 (fun v => v.1) else -1) else sp_rk T e
theorem sp_fi_p (p : Nat → Bool) : ∀ (f s : Nat), sp_fi p f s < s + f → p (sp_fi p f s) = true
  | 0, s, h => absurd h (by show ¬ s < s + 0; omega)
  | f + 1, s, h => by
    rw [sp_fi] at h ⊢
    by_cases q : p s = true
    · rw [if_pos q]; exact q
    · rw [if_neg q] at h ⊢
      exact sp_fi_p p f (s + 1) (by omega)
theorem sp_dl_some {T : oy_T} {e : Nat} (he : e < sp_n T) (h : sp_dl T e < sp_en T (e + 1)) : ∃ v, sp_date (oy_ln T (sp_dl T e)) = some v := by
  have ho := (sp_en_own he).1
  have := sp_fi_p (fun l => (sp_date (oy_ln T l)).isSome) (sp_en T (e + 1) - (sp_en T e + 1)) (sp_en T e + 1) (by
    have h3 : sp_fi (fun l => (sp_date (oy_ln T l)).isSome) (sp_en T (e + 1) - (sp_en T e + 1)) (sp_en T e + 1) < sp_en T (e + 1) := h
    omega)
  exact Option.isSome_iff_exists.mp this
theorem sp_la_en {T : oy_T} {e : Nat} (he : e < sp_n T) : sp_en T e ≤ sp_en T (sp_la T e) := by
  have hm : ∀ d x, x + d ≤ sp_n T → sp_en T x ≤ sp_en T (x + d) := by
    intro d
    induction d with
    | zero => intro x _; exact Nat.le_refl _
    | succ d ih =>
      intro x h
      have h1 := ih x (by omega)
      have h2 := sp_en_mono (T := T) (e := x + d) (by omega)
      have e1 : x + (d + 1) = x + d + 1 := by omega
      rw [e1]
      omega
  have hla := sp_la_in he
  have := hm (sp_la T e - e) e (by omega)
  rw [show e + (sp_la T e - e) = sp_la T e by omega] at this
  exact this
section OYE2
variable {T : oy_T} {σ : ox_H}
theorem oc_lines (h : oy_CQ T σ) : F_Out_lines σ = some (T.length : Int) := by
  unfold F_Out_lines
  rw [h.1.1.1]
theorem om_lines (hM : oy_M T σ) : ∃ σ2, F_Mod_lines σ = some ((T.length : Int), σ2) ∧ oy_fr oy_sr2 σ σ2 ∧ σ2 10 0 46 0 = 0 := by
  have f0 : oy_fr oy_sr2 σ (ox_up σ 10 0 46 0 0) := oy_fr.rf.up rfl
  refine ⟨ox_up σ 10 0 46 0 0, ?_, f0, oy_up_same⟩
  unfold F_Mod_lines
  rw [om_holds, if_pos (Int.le_refl _), Option.bind_some]
  dsimp only
  rw [oy_up_ne (by decide), hM.1]
theorem oc_signAt (hT : oy_ok T) (h : oy_CQ T σ) {a p : Int} : F_Out_signAt a p σ = some (if (0 ≤ a ∧ a < T.length) ∧ 0 ≤ p then .inr (oy_wk (oy_ln T a.toNat) p.toNat) else .inl 1) := by
  unfold F_Out_signAt F_Out_checkPlace
  rw [oc_hasLine h.1.1, Option.bind_some]
  by_cases q : 0 ≤ a ∧ a < T.length
  rotate_left
  · rw [if_neg q, if_neg (show ¬ ((0 ≤ a ∧ a < T.length) ∧ 0 ≤ p) from fun z => q z.1)]; rfl
  rw [if_pos q]
  dsimp only
  by_cases q2 : 0 ≤ p
  rotate_left
  · rw [if_neg q2, if_neg (show ¬ ((0 ≤ a ∧ a < T.length) ∧ 0 ≤ p) from fun z => q2 z.2)]; rfl
  obtain ⟨l, rfl⟩ : ∃ l : Nat, a = l := ⟨a.toNat, by omega⟩
  obtain ⟨x, rfl⟩ : ∃ l : Nat, p = l := ⟨p.toNat, by omega⟩
  have hw := oy_wk_le hT l x
  rw [if_pos q2, if_pos ⟨q, q2⟩, Option.bind_some]
  dsimp only
  rw [oc_at (oy_ok_L hT) h.1.1 h.1.2.1, Option.bind_some, Int.toNat_natCast, Int.toNat_natCast, Int.emod_eq_of_lt hw.1 (by omega)]
theorem om_look' {l p : Nat} (hT : oy_ok T) (hM : oy_M T σ) (hl : l < T.length) : F_Mod_look (l : Int) (p : Int) σ = some (oy_wk (oy_ln T l) p) := by
  have h24 := oy_len24 hT l
  by_cases h : p ≤ 100000
  · exact om_look hT hM hl h
  · have h60 := hT.1
    unfold F_Mod_look
    rw [if_pos (by omega), Int.toNat_natCast, hM.2.1 l hl, if_pos (by omega), oy_wk_ge (by omega)]
    rfl
theorem om_signAt (hT : oy_ok T) (hM : oy_M T σ) {a p : Int} : ∃ σ2 x, F_Mod_signAt a p σ = some (x, σ2) ∧ oy_fr oy_sr2 σ σ2 ∧ σ2 10 0 46 0 = (if (0 ≤ a ∧ a < T.length) ∧ 0 ≤ p then 0 else 1) ∧ ((0 ≤ a ∧ a < T.length) ∧ 0 ≤ p → x = oy_wk (oy_ln T a.toNat) p.toNat) := by
  have bad : ¬ ((0 ≤ a ∧ a < T.length) ∧ 0 ≤ p) → ∃ σ2 x, J_Mod_signAt_17 a p σ = some (x, σ2) ∧ oy_fr oy_sr2 σ σ2 ∧ σ2 10 0 46 0 = (if (0 ≤ a ∧ a < T.length) ∧ 0 ≤ p then 0 else 1) ∧ ((0 ≤ a ∧ a < T.length) ∧ 0 ≤ p → x = oy_wk (oy_ln T a.toNat) p.toNat) := by
    intro q
    unfold J_Mod_signAt_17 J_Mod_signAt_18 J_Mod_signAt_35
    rw [om_holds, if_neg (by decide), Option.bind_some, if_neg oy_10, if_neg q]
    exact ⟨ox_up σ 10 0 46 0 1, _, rfl, oy_fr.rf.up rfl, oy_up_same, fun z => absurd z q⟩
  unfold F_Mod_signAt
  rw [om_isLine hM hT, Option.bind_some]
  by_cases q : 0 ≤ a ∧ a < T.length
  rotate_left
  · rw [if_neg q, if_pos rfl]
    exact bad (fun z => q z.1)
  rw [if_pos q, if_neg oy_10]
  by_cases q2 : 0 ≤ p
  rotate_left
  · rw [if_pos (show p < 0 by omega)]
    exact bad (fun z => q2 z.2)
  obtain ⟨l, rfl⟩ : ∃ l : Nat, a = l := ⟨a.toNat, by omega⟩
  obtain ⟨x, rfl⟩ : ∃ l : Nat, p = l := ⟨p.toNat, by omega⟩
  have hw := oy_wk_le hT l x
  have f0 : oy_fr oy_sr2 σ (ox_up σ 10 0 46 0 0) := oy_fr.rf.up rfl
  unfold J_Mod_signAt_18 J_Mod_signAt_35
  rw [if_neg (show ¬ (x : Int) < 0 by omega), om_holds, if_pos (Int.le_refl _), Option.bind_some, if_pos rfl, if_pos ⟨q, q2⟩]
  dsimp only
  rw [om_look' hT (hM.fr f0 rfl rfl rfl) (by omega), Option.bind_some]
  refine ⟨ox_up σ 10 0 46 0 0, _, rfl, f0, oy_up_same, fun _ => ?_⟩
  rw [Int.toNat_natCast, Int.toNat_natCast, Int.emod_eq_of_lt (a := oy_wk (oy_ln T l) x) hw.1 (by omega), Int.emod_eq_of_lt hw.1 (by omega)]
theorem oc_entry (hT : oy_ok T) (h : oy_CQ T σ) {a k : Int} : ∃ σ1, F_Out_entry a k σ = some (if 0 ≤ a ∧ a < sp_n T then (if 0 ≤ k ∧ k ≤ 8 then .inr (sp_ent T a.toNat k) else .inl 2) else .inl 1, σ1) ∧ oy_ft T σ σ1 := by
  have h60 := hT.1
  have hn := sp_n_le (T := T)
  obtain ⟨σ1, e1, f1, q1, -⟩ := oc_ask hT h
  refine ⟨σ1, ?_, f1⟩
  unfold F_Out_entry
  rw [e1, Option.bind_some, oc_checkEntry q1, Option.bind_some]
  by_cases q : 0 ≤ a ∧ a < sp_n T
  rotate_left
  · rw [if_neg q, if_neg q]
  rw [if_pos q, if_pos q]
  obtain ⟨e, rfl⟩ : ∃ l : Nat, a = l := ⟨a.toNat, by omega⟩
  have he : e < sp_n T := by omega
  have hla := sp_la_in he
  have hle := sp_la_en he
  have hl1 := sp_en_le (T := T) (sp_la T e)
  rw [Int.toNat_natCast]
  dsimp only
  unfold sp_ent
  by_cases k0 : k = 0
  · rw [if_pos (show k = ((0 : Nat) : Int) from k0), if_pos (by omega), if_pos k0, oc_eln hT q1 he, Option.bind_some]
  rw [if_neg (show ¬ k = ((0 : Nat) : Int) from k0), if_neg k0]
  by_cases k1 : k = 1
  · rw [if_pos (show k = ((1 : Nat) : Int) from k1), if_pos (by omega), if_pos k1, oc_elv hT q1 he, Option.bind_some]
  rw [if_neg (show ¬ k = ((1 : Nat) : Int) from k1), if_neg k1]
  by_cases k2 : k = 2
  · rw [if_pos (show k = ((2 : Nat) : Int) from k2), if_pos (by omega), if_pos k2, oc_epa hT q1 he, Option.bind_some]
  rw [if_neg (show ¬ k = ((2 : Nat) : Int) from k2), if_neg k2]
  by_cases k3 : k = 3
  · rw [if_pos (show k = ((3 : Nat) : Int) from k3), if_pos (by omega), if_pos k3, oc_est hT q1 he, Option.bind_some]
  rw [if_neg (show ¬ k = ((3 : Nat) : Int) from k3), if_neg k3]
  by_cases k4 : k = 4
  · rw [if_pos (show k = ((4 : Nat) : Int) from k4), if_pos (by omega), if_pos k4, oc_below hT q1 he, Option.bind_some]
  rw [if_neg (show ¬ k = ((4 : Nat) : Int) from k4), if_neg k4]
  by_cases k5 : k = 5
  · rw [if_pos (show k = ((5 : Nat) : Int) from k5), if_pos (by omega), if_pos k5, oc_partEnd hT q1 he, Option.bind_some, oc_eln hT q1 he, Option.bind_some, oy_w (by omega) (by omega)]
  rw [if_neg (show ¬ k = ((5 : Nat) : Int) from k5), if_neg k5]
  by_cases k6 : k = 6
  · rw [if_pos (show k = ((6 : Nat) : Int) from k6), if_pos (by omega), if_pos k6, oc_etg hT q1 he, Option.bind_some]
  rw [if_neg (show ¬ k = ((6 : Nat) : Int) from k6), if_neg k6]
  by_cases k7 : k = 7
  · rw [if_pos (show k = ((7 : Nat) : Int) from k7), if_pos (by omega), if_pos k7, oc_dateLine hT q1 he, Option.bind_some]
    by_cases z : sp_dl T e < sp_en T (e + 1)
    · have ho := sp_en_own he
      obtain ⟨v, hv⟩ := sp_dl_some he z
      obtain ⟨r1, r2⟩ := oc_erd hT q1 (l := sp_dl T e) (by omega)
      have d3 := (r2.2.2.2.1 (sp_kind_2.mpr (by rw [hv]; rfl)) v hv).1
      rw [if_pos z, if_pos z, r1, Option.bind_some, d3, hv]
      rfl
    · have r60 : F_Otl_reading (-1) σ1 = some 60 := by
        unfold F_Otl_reading J_Otl_reading_21
        rw [if_pos (by decide)]
      rw [if_neg z, if_neg z, r60, Option.bind_some, q1.2.2.2.2.1]
  rw [if_neg (show ¬ k = ((7 : Nat) : Int) from k7), if_neg k7]
  by_cases k8 : k = 8
  · rw [if_pos (show k = ((8 : Nat) : Int) from k8), if_pos (by omega), oc_rankOf hT q1 he, Option.bind_some]
  · rw [if_neg (show ¬ k = ((8 : Nat) : Int) from k8), if_neg (by omega)]
end OYE2
