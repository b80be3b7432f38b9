/-! ===== the export: the reference's parts and includes ===== -/
/-- parts under way, the last one begun first: where it stands, where it ends, stars more -/
def oy_xf : List (Nat × Nat × Nat) → ox_H → Prop
  | [], _ => True
  | x :: L, σ => (σ 10 0 32 L.length = x.1 ∧ σ 10 0 33 L.length = x.2.1 ∧ σ 10 0 34 L.length = x.2.2) ∧ oy_xf L σ
def oy_xv (T : oy_T) : List (Nat × Nat × Nat) → Prop
  | [] => True
  | x :: L => (x.2.1 ≤ T.length ∧ x.2.2 ≤ 5) ∧ oy_xv T L
/-- what they come to yet -/
def oy_xp (T : oy_T) (f : Nat → Nat → Int) : List (Nat × Nat × Nat) → oy_T
  | [] => []
  | x :: L => sp_px T f (3 - L.length) x.1 x.2.1 x.2.2 ++ oy_xp T f L
def oy_xw : List (Nat × Nat × Nat) → Nat
  | [] => 0
  | x :: L => 2 * (x.2.1 - x.1) + 1 + oy_xw L
def oy_xI (T : oy_T) (f : Nat → Nat → Int) (L : List (Nat × Nat × Nat)) (O : oy_T) (σ : ox_H) : Prop := oy_xz T f σ ∧ oy_xm O σ ∧ σ 10 0 31 0 = (L.length : Int) - 1 ∧ oy_xf L σ ∧ oy_xv T L ∧ L.length ≤ 4
/-- the slots that exporting writes -/
def oy_sxa (c j : Nat) : Bool := c == 10 && (decide (11 ≤ j ∧ j ≤ 20) || decide (31 ≤ j ∧ j ≤ 34) || decide (37 ≤ j ∧ j ≤ 45))
theorem oy_sxa_of {c j : Nat} (h1 : c = 10) (h2 : (11 ≤ j ∧ j ≤ 20) ∨ (31 ≤ j ∧ j ≤ 34) ∨ (37 ≤ j ∧ j ≤ 45)) : oy_sxa c j = true := by
  unfold oy_sxa
  rw [Bool.and_eq_true, Bool.or_eq_true, Bool.or_eq_true, decide_eq_true_eq, decide_eq_true_eq, decide_eq_true_eq, beq_iff_eq]
  exact ⟨h1, by omega⟩
theorem oy_sxs_a {c j : Nat} (h : oy_sxs c j = true) : oy_sxa c j = true := by
  unfold oy_sxs at h
  rw [Bool.and_eq_true, Bool.or_eq_true, decide_eq_true_eq, decide_eq_true_eq, beq_iff_eq] at h
  exact oy_sxa_of h.1 (by omega)
theorem oy_sp_a {c j : Nat} (h : oy_sp c j = true) : oy_sxa c j = true := oy_sxs_a (oy_sp_s h)
/-- the four slots of the parts under way -/
def oy_sx4 (c j : Nat) : Bool := c == 10 && decide (31 ≤ j ∧ j ≤ 34)
theorem oy_sx4_a {c j : Nat} (h : oy_sx4 c j = true) : oy_sxa c j = true := by
  unfold oy_sx4 at h
  rw [Bool.and_eq_true, decide_eq_true_eq, beq_iff_eq] at h
  exact oy_sxa_of h.1 (by omega)
theorem oy_xf.lo : ∀ {L : List (Nat × Nat × Nat)} {σ σ' : ox_H}, oy_xf L σ → (∀ j i, 32 ≤ j → j ≤ 34 → i < L.length → σ' 10 0 j i = σ 10 0 j i) → oy_xf L σ'
  | [], _, _, _, _ => trivial
  | x :: L, σ, σ', h, e => by
    have hl : L.length < (x :: L).length := Nat.lt_succ_self _
    refine ⟨⟨(e 32 _ (by decide) (by decide) hl).trans h.1.1, (e 33 _ (by decide) (by decide) hl).trans h.1.2.1, (e 34 _ (by decide) (by decide) hl).trans h.1.2.2⟩, oy_xf.lo h.2 (fun j i a b c => e j i a b (by omega))⟩
section OYN6
variable {T O : oy_T} {σ : ox_H} {f : Nat → Nat → Int} {L : List (Nat × Nat × Nat)}
theorem oy_xI.sp {σ' : ox_H} (h : oy_xI T f L O σ) (hf : oy_fr oy_sp σ σ') : oy_xI T f L O σ' := by
  obtain ⟨h1, h2, h3, h4, h5⟩ := h
  refine ⟨h1.fr hf rfl rfl rfl rfl rfl rfl rfl rfl rfl rfl rfl rfl, h2.fr hf rfl rfl rfl, (hf _ _ _ _ rfl).trans h3, h4.lo (fun j i a b _ => hf _ _ _ _ ?_), h5⟩
  have : j = 32 ∨ j = 33 ∨ j = 34 := by omega
  rcases this with rfl | rfl | rfl <;> rfl
theorem oy_xI.sx4 {L' : List (Nat × Nat × Nat)} {σ' : ox_H} (h : oy_xI T f L O σ) (hf : oy_fr oy_sx4 σ σ') (h31 : σ' 10 0 31 0 = (L'.length : Int) - 1) (h4 : oy_xf L' σ') (h5 : oy_xv T L') (h6 : L'.length ≤ 4) : oy_xI T f L' O σ' :=
  ⟨h.1.fr hf rfl rfl rfl rfl rfl rfl rfl rfl rfl rfl rfl rfl, h.2.1.fr hf rfl rfl rfl, h31, h4, h5, h6⟩
/-- a line is taken -/
theorem om_xat (hT : oy_ok T) {p e m : Nat} (h : oy_xI T f ((p, e, m) :: L) O σ) (hp : p < e) (hr : O.length < 100) : ∃ σ2, oy_fr oy_sxa σ σ2 ∧ oy_xI T f ((p + 1, e, m) :: L) O σ2 ∧ (sp_kind (oy_ln T p) = 0 → σ2 10 0 13 0 = sp_state (oy_ln T p) (sp_stars (oy_ln T p) + 1)) ∧ B_Mod_export_48 σ = if sp_kind (oy_ln T p) = 0 then (if σ2 10 0 13 0 = 3 then ((F_Mod_entryOf (p : Int) σ2).bind fun r4 => ((F_Mod_end r4 σ2).bind fun r5 => (if 0 ≤ (σ2 10 0 31 0) ∧ (σ2 10 0 31 0).toNat < 4 then (J_Mod_export_204 (ox_up r5.2 10 0 32 ((σ2 10 0 31 0).toNat) r5.1)) else none))) else (J_Mod_export_152 (p : Int) (sp_kind (oy_ln T p)) σ2)) else (J_Mod_export_152 (p : Int) (sp_kind (oy_ln T p)) σ2) := by
  have h60 := hT.1
  obtain ⟨h1, h2, h3, ⟨⟨h4a, h4b, h4c⟩, h4⟩, ⟨⟨h5a, h5b⟩, h5⟩, h6⟩ := h
  dsimp only at h4a h4b h4c h5a h5b
  have hL : ((p, e, m) :: L).length = L.length + 1 := rfl
  rw [hL] at h3 h6
  have e31 : σ 10 0 31 0 = (L.length : Int) := by omega
  have hl : p < T.length := by omega
  have f0 : oy_fr oy_sx4 σ (ox_up σ 10 0 32 L.length ((p + 1 : Nat) : Int)) := oy_fr.rf.up rfl
  have I0 : oy_xI T f ((p + 1, e, m) :: L) O (ox_up σ 10 0 32 L.length ((p + 1 : Nat) : Int)) := by
    refine ⟨h1.fr f0 rfl rfl rfl rfl rfl rfl rfl rfl rfl rfl rfl rfl, h2.fr f0 rfl rfl rfl, ?_, ⟨⟨oy_up_same, (oy_up_ne (by decide)).trans h4b, (oy_up_ne (by decide)).trans h4c⟩, h4.lo (fun j i a b c => oy_up_ni (by omega))⟩, ⟨⟨h5a, h5b⟩, h5⟩, h6⟩
    rw [oy_up_ne (by decide), e31]
    show (L.length : Int) = ((L.length + 1 : Nat) : Int) - 1
    omega
  obtain ⟨σ2, e2, f2, d0, _⟩ := om_kindOf hT I0.1.1.1.1 hl
  refine ⟨σ2, (f0.mono (fun _ _ => oy_sx4_a)).tr (f2.mono (fun _ _ => oy_sp_a)), I0.sp f2, fun z => (d0 z).2.1, ?_⟩
  have c0 : 0 ≤ (L.length : Int) ∧ (L.length : Int).toNat < 4 := by omega
  unfold B_Mod_export_48
  rw [e31, h2.2.1, if_neg (by omega), if_neg (by omega), if_pos c0, if_pos c0, Int.toNat_natCast, h4a, h4b, if_pos (by omega), if_pos (by omega), if_pos (by omega), oy_w1 (by omega), e2, Option.bind_some]
/-- a heading is taken: its line, or, dropped, nothing of its part -/
theorem om_xhd (hT : oy_ok T) (hfi : oy_fin T f) {p e m : Nat} (h : oy_xI T f ((p, e, m) :: L) O σ) (hp : p < e) (hr : O.length < 100) (hk : sp_kind (oy_ln T p) = 0) : ∃ σ', B_Mod_export_48 σ = some (.inl σ') ∧ oy_fr oy_sxa σ σ' ∧ (sp_dpd T p → oy_xI T f ((sp_pe T p, e, m) :: L) O σ') ∧ (¬ sp_dpd T p → oy_xI T f ((p + 1, e, m) :: L) (O ++ [sp_xl T f p m]) σ') := by
  have h60 := hT.1
  have hpe := sp_pe_gt hk
  obtain ⟨σ2, f2, I2, d2, eB⟩ := om_xat hT h hp hr
  rw [if_pos hk] at eB
  have h31 : σ2 10 0 31 0 = (L.length : Int) := by
    have := I2.2.2.1
    have hL : ((p + 1, e, m) :: L).length = L.length + 1 := rfl
    rw [hL] at this
    omega
  have hL4 : L.length + 1 ≤ 4 := I2.2.2.2.2.2
  have hve : e ≤ T.length := I2.2.2.2.2.1.1.1
  have c0 : 0 ≤ (L.length : Int) ∧ (L.length : Int).toNat < 4 := by omega
  by_cases q : sp_dpd T p
  · rw [if_pos (show σ2 10 0 13 0 = 3 from (d2 hk).trans q.2)] at eB
    have eo := om_entryOf hT I2.1.1.1 (show p < T.length by omega)
    have es : ((sp_esn T (p + 1)).length : Int) - 1 = ((sp_esn T p).length : Int) := by
      rw [sp_esn, if_pos (sp_kind_H.mp hk), List.length_append]
      show (((sp_esn T p).length + 1 : Nat) : Int) - 1 = _
      omega
    rw [es] at eo
    obtain ⟨σ3, e3, f3⟩ := om_end hT I2.1.1.1 hpe.2.2.1
    have I3 := I2.sp f3
    have f4 : oy_fr oy_sx4 σ3 (ox_up σ3 10 0 32 L.length (sp_pe T p : Int)) := oy_fr.rf.up rfl
    refine ⟨ox_up σ3 10 0 32 L.length (sp_pe T p : Int), ?_, f2.tr ((f3.mono (fun _ _ => oy_sp_a)).tr (f4.mono (fun _ _ => oy_sx4_a))), fun _ => ?_, fun y => absurd q y⟩
    · rw [eB, eo, Option.bind_some, e3, Option.bind_some, h31, if_pos c0, Int.toNat_natCast]
      rfl
    · refine I3.sx4 f4 ((oy_up_ne (by decide)).trans I3.2.2.1) ⟨⟨oy_up_same, (oy_up_ne (by decide)).trans I3.2.2.2.1.1.2.1, (oy_up_ne (by decide)).trans I3.2.2.2.1.1.2.2⟩, I3.2.2.2.1.2.lo (fun j i a b c => oy_up_ni (by omega))⟩ I3.2.2.2.2.1 I3.2.2.2.2.2
  · rw [if_neg (fun z => q ⟨hk, (d2 hk).symm.trans z⟩)] at eB
    have hm : m ≤ 5 := I2.2.2.2.2.1.1.2
    have e34 : σ2 10 0 34 L.length = (m : Int) := I2.2.2.2.1.1.2.2
    obtain ⟨τ, e4, f4, z4, m4⟩ := om_show hT hfi hr (show p < T.length by omega) hm (Or.inl hk) I2.1 I2.2.1
    refine ⟨τ, ?_, f2.tr (f4.mono (fun _ _ => oy_sxs_a)), fun y => absurd y q, fun _ => ⟨z4, m4, (f4 _ _ _ _ rfl).trans I2.2.2.1, I2.2.2.2.1.lo (fun j i a b c => f4 _ _ _ _ ?_), I2.2.2.2.2⟩⟩
    · rw [eB]
      unfold J_Mod_export_152 J_Mod_export_167 J_Mod_export_204
      rw [if_pos hk, h31, if_pos c0, Int.toNat_natCast, e34, e4, Option.bind_some]
    · have : j = 32 ∨ j = 33 ∨ j = 34 := by omega
      rcases this with rfl | rfl | rfl <;> rfl
/-- a line that is no heading and no include -/
theorem om_xln (hT : oy_ok T) (hfi : oy_fin T f) {p e m : Nat} (h : oy_xI T f ((p, e, m) :: L) O σ) (hp : p < e) (hr : O.length < 100) (hk : ¬ sp_kind (oy_ln T p) = 0) (h6 : sp_kind (oy_ln T p) ≠ 6 ∨ L.length = 3) : ∃ σ', B_Mod_export_48 σ = some (.inl σ') ∧ oy_fr oy_sxa σ σ' ∧ oy_xI T f ((p + 1, e, m) :: L) (O ++ sp_xi (sp_ic T f (3 - L.length)) T f p m) σ' := by
  have h60 := hT.1
  obtain ⟨σ2, f2, I2, d2, eB⟩ := om_xat hT h hp hr
  rw [if_neg hk] at eB
  have h31 : σ2 10 0 31 0 = (L.length : Int) := by
    have := I2.2.2.1
    have hL : ((p + 1, e, m) :: L).length = L.length + 1 := rfl
    rw [hL] at this
    omega
  have hL4 : L.length + 1 ≤ 4 := I2.2.2.2.2.2
  have hve : e ≤ T.length := I2.2.2.2.2.1.1.1
  have hm : m ≤ 5 := I2.2.2.2.2.1.1.2
  have e34 : σ2 10 0 34 L.length = (m : Int) := I2.2.2.2.1.1.2.2
  have c0 : 0 ≤ (L.length : Int) ∧ (L.length : Int).toNat < 4 := by omega
  unfold sp_xi
  by_cases y : sp_kind (oy_ln T p) = 6
  · have h3 : L.length = 3 := h6.resolve_left (fun z => z y)
    have en : sp_ic T f (3 - L.length) p m = [] := by rw [h3]; rfl
    rw [if_pos y, en, List.append_nil]
    refine ⟨σ2, ?_, f2, I2⟩
    rw [eB]
    unfold J_Mod_export_152 J_Mod_export_204
    rw [if_neg hk, if_neg (by omega), if_neg (by omega), if_pos y, h31, if_pos (by omega)]
  rw [if_neg y]
  by_cases z : sp_kind (oy_ln T p) = 0 ∨ sp_kind (oy_ln T p) = 4 ∨ sp_kind (oy_ln T p) = 7
  · rw [if_pos z]
    obtain ⟨τ, e4, f4, z4, m4⟩ := om_show hT hfi hr (show p < T.length by omega) hm z I2.1 I2.2.1
    have e167 : J_Mod_export_167 (p : Int) (sp_kind (oy_ln T p)) σ2 = some (.inl τ) := by
      unfold J_Mod_export_167 J_Mod_export_204
      rw [h31, if_pos c0, Int.toNat_natCast, e34, e4, Option.bind_some]
    refine ⟨τ, ?_, f2.tr (f4.mono (fun _ _ => oy_sxs_a)), z4, m4, (f4 _ _ _ _ rfl).trans I2.2.2.1, I2.2.2.2.1.lo (fun j i a b c => f4 _ _ _ _ ?_), I2.2.2.2.2⟩
    · rw [eB]
      unfold J_Mod_export_152
      rw [if_neg hk, e167]
      by_cases q7 : sp_kind (oy_ln T p) = 7
      · rw [if_pos q7]
      · rw [if_neg q7, if_pos (show sp_kind (oy_ln T p) = 4 by omega)]
    · have : j = 32 ∨ j = 33 ∨ j = 34 := by omega
      rcases this with rfl | rfl | rfl <;> rfl
  · rw [if_neg z, List.append_nil]
    refine ⟨σ2, ?_, f2, I2⟩
    rw [eB]
    unfold J_Mod_export_152 J_Mod_export_204
    rw [if_neg hk, if_neg (fun q => z (Or.inr (Or.inr q))), if_neg (fun q => z (Or.inr (Or.inl q))), if_neg y]
/-- an include that is taken -/
theorem om_xinc (hT : oy_ok T) (hfi : oy_fin T f) {p e m : Nat} (h : oy_xI T f ((p, e, m) :: L) O σ) (hp : p < e) (hr : O.length < 100) (h6 : sp_kind (oy_ln T p) = 6) (hL : L.length < 3) : ∃ σ', B_Mod_export_48 σ = some (.inl σ') ∧ oy_fr oy_sxa σ σ' ∧ ((sp_ic T f (3 - L.length) p m = [] ∧ oy_xI T f ((p + 1, e, m) :: L) O σ') ∨ ∃ t s : Nat, t < sp_n T ∧ sp_ic T f (3 - L.length) p m = sp_px T f (3 - (L.length + 1)) (sp_en T t) (sp_en T (sp_la T t)) s ∧ oy_xI T f ((sp_en T t, sp_en T (sp_la T t), s) :: (p + 1, e, m) :: L) O σ') := by
  have h60 := hT.1
  have hn := sp_n_le (T := T)
  obtain ⟨σ2, f2, I2, d2, eB⟩ := om_xat hT h hp hr
  have hk : ¬ sp_kind (oy_ln T p) = 0 := by omega
  rw [if_neg hk] at eB
  have h31 : σ2 10 0 31 0 = (L.length : Int) := by
    have := I2.2.2.1
    have hL : ((p + 1, e, m) :: L).length = L.length + 1 := rfl
    rw [hL] at this
    omega
  have hve : e ≤ T.length := I2.2.2.2.2.1.1.1
  have hm : m ≤ 5 := I2.2.2.2.2.1.1.2
  have hl : p < T.length := by omega
  have eic : sp_ic T f (3 - L.length) p m = sp_inc (sp_px T f (3 - (L.length + 1))) T p m := by
    rw [show 3 - L.length = (3 - (L.length + 1)) + 1 by omega]
    rfl
  have eB2 : B_Mod_export_48 σ = (F_Mod_include (p : Int) σ2).bind fun r2 => some (.inl r2) := by
    rw [eB]
    unfold J_Mod_export_152 J_Mod_export_204
    rw [if_neg hk, if_neg (by omega), if_neg (by omega), if_pos h6, h31, if_neg (by omega)]
  obtain ⟨σ3, e3, f3⟩ := om_titled hT I2.1.1.1 (oy_wk (oy_ln T p) 1)
  have I3 := I2.sp f3
  have g3 : oy_fr oy_sxa σ σ3 := f2.tr (f3.mono (fun _ _ => oy_sp_a))
  have lk := om_look (p := 1) hT I2.1.1.1.1 hl (by decide)
  have hti := sp_ti_in (T := T) (c := oy_wk (oy_ln T p) 1)
  rw [eB2, eic]
  unfold F_Mod_include J_Mod_include_106 sp_inc
  have lk' : F_Mod_look (p : Int) 1 σ2 = some (oy_wk (oy_ln T p) 1) := lk
  rw [lk', Option.bind_some, e3, Option.bind_some]
  dsimp only
  generalize sp_ti T (oy_wk (oy_ln T p) 1) = t at *
  by_cases q : t = -1
  · rw [if_pos (show t < 0 by omega), if_pos q, Option.bind_some]
    exact ⟨σ3, rfl, g3, Or.inl ⟨rfl, I3⟩⟩
  obtain ⟨x, rfl⟩ : ∃ x : Nat, t = x := ⟨t.toNat, by omega⟩
  have hx : x < sp_n T := by omega
  have hle := sp_en_le (T := T) (sp_la T x)
  have hle2 := sp_en_le (T := T) x
  rw [if_neg (show ¬ (x : Int) < 0 by omega), if_neg q, Int.toNat_natCast, om_entryOf hT I3.1.1.1 hl, Option.bind_some]
  have push : ∀ (σ5 : ox_H) (s0 : Int) (s : Nat), oy_fr oy_sxa σ σ5 → oy_xI T f ((p + 1, e, m) :: L) O σ5 → s ≤ 5 → s0 = (s : Int) ∨ (5 < s0 ∧ s = 5) → ∃ σ', ((J_Mod_include_44 (x : Int) s0 σ5).bind fun r2 => (some (.inl r2) : Option (ox_H ⊕ ox_H))) = some (.inl σ') ∧ oy_fr oy_sxa σ σ' ∧ oy_xI T f ((sp_en T x, sp_en T (sp_la T x), s) :: (p + 1, e, m) :: L) O σ' := by
    intro σ5 s0 s f5 I5 hs hs0
    have h31' : σ5 10 0 31 0 = (L.length : Int) := by
      have := I5.2.2.1
      have hL : ((p + 1, e, m) :: L).length = L.length + 1 := rfl
      rw [hL] at this
      omega
    have e21 : σ5 10 0 21 x = (sp_en T x : Int) := I5.1.1.1.2.2 x (by omega)
    have g1 : oy_fr oy_sx4 σ5 (ox_up (ox_up σ5 10 0 31 0 ((L.length + 1 : Nat) : Int)) 10 0 32 (L.length + 1) (sp_en T x : Int)) := (oy_fr.rf.up rfl).up rfl
    have F1 : oy_F T (ox_up (ox_up σ5 10 0 31 0 ((L.length + 1 : Nat) : Int)) 10 0 32 (L.length + 1) (sp_en T x : Int)) := I5.1.1.1.fr g1 rfl rfl rfl rfl rfl
    obtain ⟨σ6, e6, f6⟩ := om_end hT F1 hx
    have q31 : σ6 10 0 31 0 = ((L.length + 1 : Nat) : Int) := by rw [f6 _ _ _ _ rfl, oy_up_ne (by decide), oy_up_same]
    have q32 : σ6 10 0 32 (L.length + 1) = (sp_en T x : Int) := by rw [f6 _ _ _ _ rfl, oy_up_same]
    have qlo : ∀ j i, 32 ≤ j → j ≤ 34 → i < L.length + 1 → σ6 10 0 j i = σ5 10 0 j i := by
      intro j i a b c
      have ef : σ6 10 0 j i = ox_up (ox_up σ5 10 0 31 0 ((L.length + 1 : Nat) : Int)) 10 0 32 (L.length + 1) (sp_en T x : Int) 10 0 j i := f6 _ _ _ _ (by
        have : j = 32 ∨ j = 33 ∨ j = 34 := by omega
        rcases this with rfl | rfl | rfl <;> rfl)
      rw [ef, oy_up_ni (by omega), oy_up_ne (by omega)]
    have c1 : 0 ≤ ((L.length + 1 : Nat) : Int) ∧ ((L.length + 1 : Nat) : Int).toNat < 4 := by omega
    have c2 : 0 ≤ (x : Int) ∧ (x : Int).toNat < 61 := by omega
    have hS : ∀ v : Int, v = (s : Int) → J_Mod_include_105 v (σ6 10 0 31 0) (ox_up σ6 10 0 33 (L.length + 1) (sp_en T (sp_la T x) : Int)) = some (ox_up (ox_up σ6 10 0 33 (L.length + 1) (sp_en T (sp_la T x) : Int)) 10 0 34 (L.length + 1) (s : Int)) := by
      intro v hv
      unfold J_Mod_include_105 J_Mod_include_106
      rw [q31, if_pos c1, Int.toNat_natCast, hv]
    have e44 : J_Mod_include_44 (x : Int) s0 σ5 = some (ox_up (ox_up σ6 10 0 33 (L.length + 1) (sp_en T (sp_la T x) : Int)) 10 0 34 (L.length + 1) (s : Int)) := by
      unfold J_Mod_include_44
      rw [if_pos c2, h31', oy_w1 (by omega), if_pos c1, Int.toNat_natCast, Int.toNat_natCast, e21, e6, Option.bind_some, if_pos (by omega)]
      dsimp only
      by_cases z : s0 ≤ 5
      · rw [if_pos z]
        exact hS s0 (by omega)
      · rw [if_neg z]
        exact hS 5 (by omega)
    have g7 : oy_fr oy_sx4 σ6 (ox_up (ox_up σ6 10 0 33 (L.length + 1) (sp_en T (sp_la T x) : Int)) 10 0 34 (L.length + 1) (s : Int)) := (oy_fr.rf.up rfl).up rfl
    have fa : oy_fr oy_sxa σ5 (ox_up (ox_up σ6 10 0 33 (L.length + 1) (sp_en T (sp_la T x) : Int)) 10 0 34 (L.length + 1) (s : Int)) := (g1.mono (fun _ _ => oy_sx4_a)).tr ((f6.mono (fun _ _ => oy_sp_a)).tr (g7.mono (fun _ _ => oy_sx4_a)))
    refine ⟨_, by rw [e44, Option.bind_some], f5.tr fa, ?_, ?_, ?_, ?_, ?_, ?_⟩
    · exact ((I5.1.fr g1 rfl rfl rfl rfl rfl rfl rfl rfl rfl rfl rfl rfl).fr f6 rfl rfl rfl rfl rfl rfl rfl rfl rfl rfl rfl rfl).fr g7 rfl rfl rfl rfl rfl rfl rfl rfl rfl rfl rfl rfl
    · exact ((I5.2.1.fr g1 rfl rfl rfl).fr f6 rfl rfl rfl).fr g7 rfl rfl rfl
    · rw [oy_up_ne (by decide), oy_up_ne (by decide), q31]
      show ((L.length + 1 : Nat) : Int) = ((L.length + 1 + 1 : Nat) : Int) - 1
      omega
    · have hL2 : ((p + 1, e, m) :: L).length = L.length + 1 := rfl
      refine ⟨⟨?_, ?_, ?_⟩, I5.2.2.2.1.lo (fun j i a b c => ?_)⟩
      · rw [hL2, oy_up_ne (by decide), oy_up_ne (by decide)]
        exact q32
      · rw [hL2, oy_up_ne (by decide), oy_up_same]
      · rw [hL2, oy_up_same]
      · rw [hL2] at c
        rw [oy_up_ni (by omega), oy_up_ni (by omega)]
        exact qlo j i a b c
    · exact ⟨⟨hle, hs⟩, I5.2.2.2.2.1⟩
    · show L.length + 1 + 1 ≤ 4
      omega
  by_cases q4 : (sp_esn T (p + 1)).length = 0
  · rw [if_neg (show ¬ 0 ≤ ((sp_esn T (p + 1)).length : Int) - 1 by omega), if_pos q4]
    obtain ⟨σ', e', f', I'⟩ := push σ3 0 0 g3 I3 (Nat.zero_le _) (Or.inl rfl)
    exact ⟨σ', e', f', Or.inr ⟨x, 0, hx, rfl, I'⟩⟩
  · have ho := sp_esn_n hl q4
    have eo : ((sp_esn T (p + 1)).length : Int) - 1 = (((sp_esn T (p + 1)).length - 1 : Nat) : Int) := by omega
    have hlv : sp_lv T ((sp_esn T (p + 1)).length - 1) ≤ 5 := (sp_en_lt ho).2.2.1
    obtain ⟨σ4, e4, f4⟩ := om_level hT I3.1.1.1 ho
    have I4 := I3.sp f4
    have h31' : σ4 10 0 31 0 = (L.length : Int) := (f4 _ _ _ _ rfl).trans ((f3 _ _ _ _ rfl).trans h31)
    have e34 : σ4 10 0 34 L.length = (m : Int) := I4.2.2.2.1.1.2.2
    rw [if_pos (show 0 ≤ ((sp_esn T (p + 1)).length : Int) - 1 by omega), if_neg q4, eo, e4, Option.bind_some]
    dsimp only
    rw [if_pos (show 0 ≤ σ4 10 0 31 0 ∧ (σ4 10 0 31 0).toNat < 4 by rw [h31']; omega), h31', Int.toNat_natCast, e34, oy_w (x := (sp_lv T ((sp_esn T (p + 1)).length - 1) : Int) + (m : Int)) (by omega) (by omega)]
    obtain ⟨σ', e', f', I'⟩ := push σ4 ((sp_lv T ((sp_esn T (p + 1)).length - 1) : Int) + (m : Int)) (sp_x5 (sp_lv T ((sp_esn T (p + 1)).length - 1) + m)) (g3.tr (f4.mono (fun _ _ => oy_sp_a))) I4 (by unfold sp_x5; split <;> omega) (by unfold sp_x5; split <;> omega)
    exact ⟨σ', e', f', Or.inr ⟨x, _, hx, rfl, I'⟩⟩
end OYN6
