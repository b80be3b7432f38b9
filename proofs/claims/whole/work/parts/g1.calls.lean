/-! ===== the class's text changed between calls; line, rub ===== -/
def oy_tx (c k j i : Nat) : Prop := oy_le 0 c k j i ∨ oy_rf c k j i
/-- the class's text and outline between calls, their versions -/
def oy_cs (T : oy_T) (σ : ox_H) : Prop := oy_CQ T σ ∧ 0 ≤ σ 1 0 5 0 ∧ -1 ≤ σ 2 0 10 0 ∧ σ 2 0 10 0 ≤ σ 1 0 5 0
/-- from a text to another one -/
def oy_st (N : Nat) (T T' : oy_T) (σ σ' : ox_H) : Prop := oy_fs oy_tx σ σ' ∧ oy_cs T' σ' ∧ ∃ d : Nat, d ≤ N ∧ σ' 1 0 5 0 = σ 1 0 5 0 + (d : Int) ∧ (d = 0 → T' = T)
theorem oy_st.rf {T : oy_T} {σ : ox_H} (h : oy_cs T σ) : oy_st 0 T T σ σ := ⟨oy_fs.rf, h, 0, Nat.le_refl _, (Int.add_zero _).symm, fun _ => rfl⟩
theorem oy_st.tr {N N' : Nat} {T T' T'' : oy_T} {σ σ' σ'' : ox_H} (h : oy_st N T T' σ σ') (h' : oy_st N' T' T'' σ' σ'') : oy_st (N + N') T T'' σ σ'' := by
  obtain ⟨a, b, d, hd, q, z⟩ := h
  obtain ⟨a', b', d', hd', q', z'⟩ := h'
  exact ⟨a.tr a', b', d + d', by omega, by rw [q', q]; omega, fun y => (z' (by omega)).trans (z (by omega))⟩
theorem oy_st.mono {N N' : Nat} {T T' : oy_T} {σ σ' : ox_H} (h : oy_st N T T' σ σ') (hN : N ≤ N') : oy_st N' T T' σ σ' := by
  obtain ⟨a, b, d, hd, q⟩ := h
  exact ⟨a, b, d, Nat.le_trans hd hN, q⟩
theorem oy_L_inj {k : Nat} {T T' : oy_T} {σ : ox_H} (h : oy_L k T σ) (h' : oy_L k T' σ) : T' = T := by
  have e1 : T'.length = T.length := by
    have := h.1.symm.trans h'.1
    omega
  refine oy_extT e1 (fun l hl => ?_)
  have e2 : (oy_ln T' l).length = (oy_ln T l).length := by
    have := (h.2.1 l (by omega)).symm.trans (h'.2.1 l hl)
    omega
  refine oy_ext e2 (fun p hp => ?_)
  exact (h'.2.2 l p hl hp).symm.trans (h.2.2 l p (by omega) (by omega))
theorem oy_cs_ask {T : oy_T} {σ : ox_H} (hT : oy_ok T) (h : oy_cs T σ) : ∃ σ1, F_Otl_refresh σ = some σ1 ∧ oy_st 0 T T σ σ1 ∧ oy_Q T σ1 := by
  obtain ⟨σ1, e1, ⟨f1, f2, f3⟩, q1, v1⟩ := oc_ask hT h.1
  have hv := f1 1 0 5 0 oy_rf1
  have h0 := h.2.1
  exact ⟨σ1, e1, ⟨f1.mono (fun _ _ _ _ => Or.inr), ⟨f2, by omega, by omega, by omega⟩, 0, Nat.le_refl _, by rw [hv]; exact (Int.add_zero _).symm, fun _ => rfl⟩, q1⟩
theorem oy_cs_ed {N : Nat} {T T' : oy_T} {σ σ' : ox_H} (h : oy_cs T σ) (hv : σ 1 0 5 0 ≤ 1000000000) (hN : N ≤ 1000000) (e : oy_ed 0 N T' σ σ') : oy_st N T T' σ σ' := by
  obtain ⟨f, L, d, hd, q⟩ := e
  obtain ⟨h1, h2, h3, h4⟩ := h
  have h5 : σ' 2 0 10 0 = σ 2 0 10 0 := f 2 0 10 0 (by unfold oy_le; omega)
  rcases q with ⟨q1, q2⟩ | ⟨q1, q2⟩
  · have hTT := oy_L_inj h1.1.1 (q2 ▸ L)
    rw [q2, hTT]
    exact ⟨oy_fs.rf, ⟨h1, h2, h3, h4⟩, 0, Nat.zero_le _, (Int.add_zero _).symm, fun _ => rfl⟩
  · have e : σ' 1 0 5 0 = σ 1 0 5 0 + (d : Int) := by rw [q2, oy_w (by omega) (by omega)]
    refine ⟨f.mono (fun _ _ _ _ => Or.inl), ⟨⟨⟨L, (f 1 0 1 0 (by unfold oy_le; omega)).trans h1.1.2.1, (f 1 0 0 0 (by unfold oy_le; omega)).trans h1.1.2.2.1, fun z => by omega⟩, oy_60_fs h1.2 f (fun j i => by unfold oy_le; omega)⟩, by omega, by omega, by omega⟩, d, hd, e, fun z => by omega⟩
/-- an exception's number in the order in which the law catches -/
def oy_cx (a b c : Nat) (r : Nat ⊕ Int) : Int := match r with
  | .inr _ => 0
  | .inl e => if e = a then 1 else if e = b then 2 else if e = c then 3 else 4
/-- what a call of the reference answers -/
def oy_rm (S : Nat → Nat → Bool) (T' : oy_T) (a b c : Nat) (r : Nat ⊕ Int) (X : Option (Int × ox_H)) (σ : ox_H) : Prop := ∃ σ2 y, X = some (y, σ2) ∧ oy_fr S σ σ2 ∧ oy_M T' σ2 ∧ σ2 10 0 46 0 = oy_cx a b c r ∧ ∀ v, r = .inr v → y = v
def sp_line (T : oy_T) (a : Int) : (Nat ⊕ Int) × oy_T := if 0 ≤ a ∧ a ≤ T.length then (if T.length < 60 then (.inr ((T.length + 1 : Nat) : Int), sp_ins T a.toNat 1) else (.inl 3, T)) else (.inl 1, T)
def sp_rub (T : oy_T) (a : Int) : (Nat ⊕ Int) × oy_T := if 0 ≤ a ∧ a < T.length then (if (oy_ln T a.toNat).length = 0 then (.inr (-1), sp_del T a.toNat 1) else (.inr (((oy_ln T a.toNat).length : Int) - 1), sp_put T a.toNat (sp_cut (oy_ln T a.toNat) ((oy_ln T a.toNat).length - 1) 1))) else (.inl 1, T)
theorem sp_ins_pas {T : oy_T} {a : Nat} : sp_ins T a 1 = sp_pas T a [[]] := by
  refine oy_extT (by rw [sp_ins_len, sp_pas_len]; rfl) (fun l hl => ?_)
  rw [sp_ins_len] at hl
  have h1 : ([[]] : oy_T).length = 1 := rfl
  rw [sp_ins_ln hl, sp_pas_ln (by rw [h1]; exact hl), h1]
  by_cases q1 : l < a
  · rw [if_pos q1, if_pos q1]
  rw [if_neg q1, if_neg q1]
  by_cases q2 : l < a + 1
  · have e : l - a = 0 := by omega
    rw [if_pos q2, if_pos q2, e]
    rfl
  · rw [if_neg q2, if_neg q2]
section OYG1
variable {T : oy_T} {σ : ox_H}
theorem oc_room (hC : oy_C T σ) (hT : oy_ok T) {m : Int} (hm : -1000000 ≤ m ∧ m ≤ 1000000) : F_Out_checkRoom m σ = some (if (T.length : Int) + m ≤ 60 then .inr () else .inl 3) := by
  have h60 := hT.1
  unfold F_Out_checkRoom F_Lin_hasRoom J_Lin_hasRoom_18
  rw [hC.2.2.1, hC.1.1, oy_w (by omega) (by omega)]
  by_cases q : (T.length : Int) + m ≤ 60
  · rw [if_pos q, if_neg (by omega), Option.bind_some, if_neg (by decide)]
  · rw [if_neg q, if_pos (by omega), Option.bind_some, if_pos (by decide)]
theorem oc_line (hT : oy_ok T) (h : oy_cs T σ) (hv : σ 1 0 5 0 ≤ 1000000000) {a : Int} : ∃ σ1, F_Out_line a σ = some ((sp_line T a).1, σ1) ∧ oy_st 1 T (sp_line T a).2 σ σ1 := by
  have h60 := hT.1
  unfold F_Out_line J_Out_line_15 sp_line
  by_cases q : 0 ≤ a ∧ a ≤ T.length
  rotate_left
  · rw [if_neg q]
    by_cases q1 : a < 0
    · rw [if_pos q1]
      exact ⟨σ, rfl, (oy_st.rf h).mono (by omega)⟩
    · rw [if_neg q1, h.1.1.1.1, if_neg (show ¬ a ≤ (T.length : Int) by omega)]
      exact ⟨σ, rfl, (oy_st.rf h).mono (by omega)⟩
  rw [if_pos q, if_neg (show ¬ a < 0 by omega), h.1.1.1.1, if_pos (show a ≤ (T.length : Int) by omega), oc_room h.1.1 hT (by omega), Option.bind_some]
  by_cases q2 : T.length < 60
  rotate_left
  · rw [if_neg q2, if_neg (show ¬ (T.length : Int) + 1 ≤ 60 by omega)]
    exact ⟨σ, rfl, (oy_st.rf h).mono (by omega)⟩
  rw [if_pos q2, if_pos (show (T.length : Int) + 1 ≤ 60 by omega)]
  obtain ⟨l, rfl⟩ : ∃ l : Nat, a = l := ⟨a.toNat, by omega⟩
  obtain ⟨σ1, e1, d1⟩ := oc_open (oy_ok_L hT) h.1.1.1 h.1.1.2.1 h.1.1.2.2.1 (a := l) (m := 1) (by omega) (by omega) (by show T.length + 1 ≤ 60; omega)
  have e1' : F_Lin_open 0 (l : Int) 1 σ = some σ1 := e1
  rw [Int.toNat_natCast]
  refine ⟨σ1, ?_, oy_cs_ed h hv (by omega) d1⟩
  dsimp only
  rw [e1', Option.bind_some, d1.2.1.1, sp_ins_len]
theorem om_bad (hM : oy_M T σ) {S : Nat → Nat → Bool} (hS : S 10 46 = true) {a b c : Nat} {e : Nat} {x : Int} {σ1 : ox_H} (hf : oy_fr S σ σ1) (h0 : S 10 0 = false) (h1 : S 10 1 = false) (h2 : S 10 2 = false) {X : Option (Int × ox_H)} (hX : X = some (x, ox_up σ1 10 0 46 0 (oy_cx a b c (.inl e)))) : oy_rm S T a b c (.inl e) X σ :=
  ⟨_, _, hX, hf.up hS, hM.fr (hf.up hS) h0 h1 h2, oy_up_same, fun v hv => by cases hv⟩
theorem oy_M46 (hM : oy_M T σ) {v : Int} : oy_M T (ox_up σ 10 0 46 0 v) := hM.fr (S := fun c j => c == 10 && j == 46) (oy_fr.rf.up rfl) rfl rfl rfl
theorem om_line (hT : oy_ok T) (hM : oy_M T σ) {a : Int} : oy_rm oy_me (sp_line T a).2 1 3 0 (sp_line T a).1 (F_Mod_line a σ) σ := by
  have h60 := hT.1
  have bad : ∀ (c : Int) (e : Nat), 0 < c → oy_cx 1 3 0 (.inl e) = c → oy_rm oy_me T 1 3 0 (.inl e) (J_Mod_line_32 a c σ) σ := by
    intro c e hc he
    have f0 : oy_fr (fun c j => c == 10 && j == 46) σ (ox_up σ 10 0 46 0 c) := oy_fr.rf.up rfl
    unfold J_Mod_line_32
    rw [om_holds, if_neg (by omega), Option.bind_some, if_neg oy_10]
    exact ⟨ox_up σ 10 0 46 0 c, _, rfl, oy_fr.rf.up rfl, hM.fr f0 rfl rfl rfl, oy_up_same.trans he.symm, fun v hv => by cases hv⟩
  unfold F_Mod_line sp_line
  rw [hM.1, om_in, Option.bind_some]
  by_cases q : 0 ≤ a ∧ a ≤ T.length
  rotate_left
  · rw [if_neg q, if_neg q, if_pos rfl]
    exact bad 1 1 (by decide) rfl
  rw [if_pos q, if_pos q, if_neg oy_10]
  by_cases q2 : T.length < 60
  rotate_left
  · rw [if_neg q2, if_pos (show (T.length : Int) = 60 by omega)]
    exact bad 2 3 (by decide) rfl
  rw [if_pos q2, if_neg (show ¬ (T.length : Int) = 60 by omega)]
  obtain ⟨l, rfl⟩ : ∃ l : Nat, a = l := ⟨a.toNat, by omega⟩
  obtain ⟨σ3, e3, f3, g1, g2, g3⟩ := om_open hT (oy_M46 (v := 0) hM) (a := l) (m := 1) (by omega) (by omega) (by omega)
  have e3' : F_Mod_open (l : Int) 1 (ox_up σ 10 0 46 0 0) = some σ3 := e3
  unfold J_Mod_line_32
  rw [om_holds, if_pos (Int.le_refl _), Option.bind_some, if_pos rfl]
  dsimp only
  rw [e3', Option.bind_some, if_pos (by omega), Int.toNat_natCast, g1]
  refine ⟨_, _, rfl, ?_, ⟨?_, fun x hx => ?_, fun x p hx hp => ?_⟩, ?_, fun v hv => Sum.inr.inj hv⟩
  · exact ((oy_fr.rf.up (S := oy_me) (σ := σ) rfl).tr (f3.mono (fun c j h => by
      unfold oy_m2 at h
      unfold oy_me
      rw [Bool.and_eq_true] at h ⊢
      exact ⟨h.1, by rw [h.2]; rfl⟩))).up rfl
  · rw [oy_up_ne (by decide), g1, sp_ins_len]
  · rw [sp_ins_len] at hx
    rw [sp_ins_ln hx]
    by_cases z : x = l
    · rw [z, oy_up_same, if_neg (Nat.lt_irrefl _), if_pos (by omega)]
      rfl
    · rw [oy_up_ni z]
      by_cases z1 : x < l
      · have := g2 x (by omega)
        rw [if_pos z1] at this ⊢
        exact this
      · have := g2 (x - 1) (by omega)
        have e : x - 1 + 1 = x := by omega
        rw [if_neg (show ¬ x - 1 < l by omega), e] at this
        rw [if_neg z1, if_neg (by omega)]
        exact this
  · rw [sp_ins_len] at hx
    rw [oy_up_ne (by decide)]
    rw [sp_ins_ln hx] at hp ⊢
    by_cases z : x = l
    · rw [z, if_neg (Nat.lt_irrefl _), if_pos (by omega)] at hp
      exact absurd hp (Nat.not_lt_zero _)
    · by_cases z1 : x < l
      · rw [if_pos z1] at hp ⊢
        have := g3 x p (by omega) hp
        rw [if_pos z1] at this
        exact this
      · rw [if_neg z1, if_neg (show ¬ x < l + 1 by omega)] at hp ⊢
        have := g3 (x - 1) p (by omega) hp
        have e : x - 1 + 1 = x := by omega
        rw [if_neg (show ¬ x - 1 < l by omega), e] at this
        exact this
  · rw [oy_up_ne (by decide), f3 10 0 46 0 rfl]
    exact oy_up_same
theorem oc_rub (hT : oy_ok T) (h : oy_cs T σ) (hv : σ 1 0 5 0 ≤ 1000000000) {a : Int} : ∃ σ1, F_Out_rub a σ = some ((sp_rub T a).1, σ1) ∧ oy_st 1 T (sp_rub T a).2 σ σ1 := by
  unfold F_Out_rub sp_rub
  rw [oc_hasLine h.1.1.1, Option.bind_some]
  by_cases q : 0 ≤ a ∧ a < T.length
  rotate_left
  · rw [if_neg q, if_neg q]
    exact ⟨σ, rfl, (oy_st.rf h).mono (by omega)⟩
  rw [if_pos q, if_pos q]
  obtain ⟨l, rfl⟩ : ∃ l : Nat, a = l := ⟨a.toNat, by omega⟩
  have h24 := oy_len24 hT l
  dsimp only
  rw [oc_size (oy_ok_L hT) h.1.1.1, Option.bind_some, Int.toNat_natCast]
  by_cases q2 : (oy_ln T l).length = 0
  · obtain ⟨σ1, e1, d1⟩ := oc_close (oy_ok_L hT) h.1.1.1 h.1.1.2.1 (a := l) (m := 1) (by omega) (by omega)
    have e1' : F_Lin_close 0 (l : Int) 1 σ = some σ1 := e1
    rw [if_pos q2, if_pos (by omega), e1', Option.bind_some]
    exact ⟨σ1, rfl, oy_cs_ed h hv (by omega) d1⟩
  · obtain ⟨σ1, e1, d1⟩ := oc_takeOut (oy_ok_L hT) h.1.1.1 h.1.1.2.1 (l := l) (p := (oy_ln T l).length - 1) (m := 1) (by omega) (by omega) (by omega)
    have ew : Nat → ox_w (((oy_ln T l).length : Int) - 1) = (((oy_ln T l).length - 1 : Nat) : Int) := fun _ => oy_wsb (b := 1) (by omega) (by omega)
    have e1' : F_Lin_takeOut 0 (l : Int) (((oy_ln T l).length - 1 : Nat) : Int) 1 σ = some σ1 := e1
    have ev : (((oy_ln T l).length : Int) - 1) = (((oy_ln T l).length - 1 : Nat) : Int) := by omega
    rw [if_neg q2, if_neg (by omega), (ew 0), e1', Option.bind_some, ev]
    exact ⟨σ1, rfl, oy_cs_ed h hv (by omega) d1⟩
theorem om_rub (hT : oy_ok T) (hM : oy_M T σ) {a : Int} : oy_rm oy_me (sp_rub T a).2 1 0 0 (sp_rub T a).1 (F_Mod_rub a σ) σ := by
  have h60 := hT.1
  unfold F_Mod_rub J_Mod_rub_14 sp_rub
  rw [om_isLine hM hT, Option.bind_some]
  by_cases q : 0 ≤ a ∧ a < T.length
  rotate_left
  · rw [if_neg q, if_neg q, if_pos rfl, om_holds, if_neg (by decide), Option.bind_some, if_neg oy_10]
    exact ⟨ox_up σ 10 0 46 0 1, _, rfl, oy_fr.rf.up rfl, oy_M46 hM, oy_up_same, fun v hv => by cases hv⟩
  rw [if_pos q, if_pos q, if_neg oy_10, om_holds, if_pos (Int.le_refl _), Option.bind_some, if_pos rfl]
  obtain ⟨l, rfl⟩ : ∃ l : Nat, a = l := ⟨a.toNat, by omega⟩
  have h24 := oy_len24 hT l
  have M0 := oy_M46 (v := 0) hM
  have hl : l < T.length := by omega
  have hz : (ox_up σ 10 0 46 0 0) 10 0 1 l = ((oy_ln T l).length : Int) := M0.2.1 l hl
  dsimp only
  rw [Int.toNat_natCast, if_pos (show 0 ≤ (l : Int) ∧ l < 60 by omega)]
  by_cases q2 : (oy_ln T l).length = 0
  · obtain ⟨σ1, e1, f1, g1⟩ := om_close hT M0 (a := l) (m := 1) (by omega) (by omega)
    have e1' : F_Mod_close (l : Int) 1 (ox_up σ 10 0 46 0 0) = some σ1 := e1
    rw [if_pos q2, if_pos (show (ox_up σ 10 0 46 0 0) 10 0 1 l = 0 by rw [hz, q2]; rfl), e1', Option.bind_some]
    refine ⟨σ1, _, rfl, (oy_fr.rf.up (S := oy_me) (σ := σ) rfl).tr (f1.mono (fun c j h => ?_)), g1, (f1 10 0 46 0 rfl).trans oy_up_same, fun v hv => Sum.inr.inj hv⟩
    unfold oy_me
    rw [Bool.and_eq_true] at h ⊢
    exact ⟨h.1, by rw [h.2]; rfl⟩
  · have ew : Nat → ox_w (((oy_ln T l).length : Int) - 1) = (((oy_ln T l).length - 1 : Nat) : Int) := fun _ => oy_wsb (b := 1) (by omega) (by omega)
    have ev : (((oy_ln T l).length : Int) - 1) = (((oy_ln T l).length - 1 : Nat) : Int) := by omega
    have lc : (sp_cut (oy_ln T l) ((oy_ln T l).length - 1) 1).length = (oy_ln T l).length - 1 := oy_mk_len
    rw [if_neg q2, if_neg (show ¬ (ox_up σ 10 0 46 0 0) 10 0 1 l = 0 by rw [hz]; omega), if_pos (show 0 ≤ (l : Int) ∧ l < 60 by omega), if_pos (show 0 ≤ (l : Int) ∧ l < 60 by omega), if_pos (show 0 ≤ (l : Int) ∧ l < 60 by omega), hz, (ew 0), ev, oy_up_same]
    refine ⟨_, _, rfl, (oy_fr.rf.up (S := oy_me) (σ := σ) rfl).up rfl, om_putM hT M0 (oy_up_ne (by decide)) (fun i hi => oy_up_ni hi) (by rw [oy_up_same, lc]) (fun i hi => oy_up_ne (by decide)) (fun p hp => ?_), (oy_up_ne (by decide)).trans oy_up_same, fun v hv => Sum.inr.inj hv⟩
    rw [lc] at hp
    unfold sp_cut
    rw [oy_wk_mk, if_pos hp, if_pos hp, oy_up_ne (by decide)]
    exact M0.2.2 l p hl (by omega)
end OYG1
