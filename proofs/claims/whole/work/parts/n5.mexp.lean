/-! ===== the export: the reference's lines ===== -/
/-- a line of the reference's export -/
def oy_xr (i : Nat) (w : List Int) (σ : ox_H) : Prop := σ 10 0 44 i = w.length ∧ ∀ p, p < w.length → σ 10 0 43 (120 * i + p) = oy_wk w p
def oy_xm (O : oy_T) (σ : ox_H) : Prop := oy_okL 2 O ∧ σ 10 0 45 0 = O.length ∧ ∀ i, i < O.length → oy_xr i (oy_ln O i) σ
/-- a line of it begun -/
def oy_xo (O : oy_T) (w : List Int) (σ : ox_H) : Prop := oy_xm O σ ∧ oy_xr O.length w σ
def oy_sxo (c j : Nat) : Bool := c == 10 && decide (43 ≤ j ∧ j ≤ 44)
/-- the slots that lines of the export write -/
def oy_sxs (c j : Nat) : Bool := c == 10 && (decide (11 ≤ j ∧ j ≤ 20) || decide (37 ≤ j ∧ j ≤ 45))
theorem oy_sxs_of {c j : Nat} (h1 : c = 10) (h2 : (11 ≤ j ∧ j ≤ 20) ∨ (37 ≤ j ∧ j ≤ 45)) : oy_sxs c j = true := by
  unfold oy_sxs
  rw [Bool.and_eq_true, Bool.or_eq_true, decide_eq_true_eq, decide_eq_true_eq, beq_iff_eq]
  exact ⟨h1, h2⟩
theorem oy_sxo_s {c j : Nat} (h : oy_sxo c j = true) : oy_sxs c j = true := by
  unfold oy_sxo at h
  rw [Bool.and_eq_true, decide_eq_true_eq, beq_iff_eq] at h
  exact oy_sxs_of h.1 (by omega)
theorem oy_sv_s {c j : Nat} (h : oy_sv c j = true) : oy_sxs c j = true := by
  unfold oy_sv at h
  rw [Bool.and_eq_true, Bool.or_eq_true, decide_eq_true_eq, decide_eq_true_eq, beq_iff_eq] at h
  exact oy_sxs_of h.1 (by omega)
theorem oy_sp_s {c j : Nat} (h : oy_sp c j = true) : oy_sxs c j = true := oy_sv_s (oy_sp_sv h)
section OYN5
variable {T O : oy_T} {σ : ox_H} {f : Nat → Nat → Int}
/-- the reference while it exports: what it remembers is right, nothing is marked -/
def oy_xz (T : oy_T) (f : Nat → Nat → Int) (σ : ox_H) : Prop := oy_mem T f σ ∧ (∀ i, σ 10 0 41 i = 0) ∧ ∀ i, σ 10 0 42 i = 0
theorem oy_xz.fr {S : Nat → Nat → Bool} {σ' : ox_H} (h : oy_xz T f σ) (hf : oy_fr S σ σ') (h0 : S 10 0 = false) (h1 : S 10 1 = false) (h2 : S 10 2 = false) (h21 : S 10 21 = false) (h22 : S 10 22 = false) (h36 : S 10 36 = false) (h37 : S 10 37 = false) (h38 : S 10 38 = false) (h39 : S 10 39 = false) (h40 : S 10 40 = false) (h41 : S 10 41 = false) (h42 : S 10 42 = false) : oy_xz T f σ' := by
  obtain ⟨⟨a1, a2, a3, a4, a5, a6, a7⟩, b1, b2⟩ := h
  have e36 : σ' 10 0 36 0 = σ 10 0 36 0 := hf _ _ _ _ h36
  have e37 : ∀ i, σ' 10 0 37 i = σ 10 0 37 i := fun i => hf _ _ _ _ h37
  have e38 : ∀ i, σ' 10 0 38 i = σ 10 0 38 i := fun i => hf _ _ _ _ h38
  have e39 : ∀ i, σ' 10 0 39 i = σ 10 0 39 i := fun i => hf _ _ _ _ h39
  have e40 : ∀ i, σ' 10 0 40 i = σ 10 0 40 i := fun i => hf _ _ _ _ h40
  have e41 : ∀ i, σ' 10 0 41 i = σ 10 0 41 i := fun i => hf _ _ _ _ h41
  have e42 : ∀ i, σ' 10 0 42 i = σ 10 0 42 i := fun i => hf _ _ _ _ h42
  exact ⟨⟨a1.fr hf h0 h1 h2 h21 h22, fun l c a b m => by rw [e38]; exact a2 l c a b (by rw [e37, e36] at m; exact m), fun z r a b m => by rw [e40]; exact a3 z r a b (by rw [e39, e36] at m; exact m), fun i => by rw [e41]; exact a4 i, fun i => by rw [e42]; exact a5 i, fun i => by rw [e37, e36]; exact a6 i, fun i => by rw [e39, e36]; exact a7 i⟩, fun i => (e41 i).trans (b1 i), fun i => (e42 i).trans (b2 i)⟩
theorem oy_xm.fr {S : Nat → Nat → Bool} {σ' : ox_H} (h : oy_xm O σ) (hf : oy_fr S σ σ') (h43 : S 10 43 = false) (h44 : S 10 44 = false) (h45 : S 10 45 = false) : oy_xm O σ' :=
  ⟨h.1, (hf _ _ _ _ h45).trans h.2.1, fun i hi => ⟨(hf _ _ _ _ h44).trans (h.2.2 i hi).1, fun p hp => (hf _ _ _ _ h43).trans ((h.2.2 i hi).2 p hp)⟩⟩
theorem oy_xo.fr {S : Nat → Nat → Bool} {σ' : ox_H} {w : List Int} (h : oy_xo O w σ) (hf : oy_fr S σ σ') (h43 : S 10 43 = false) (h44 : S 10 44 = false) (h45 : S 10 45 = false) : oy_xo O w σ' :=
  ⟨h.1.fr hf h43 h44 h45, (hf _ _ _ _ h44).trans h.2.1, fun p hp => (hf _ _ _ _ h43).trans (h.2.2 p hp)⟩
theorem om_xE {w : List Int} {x : Int} (h : oy_xo O w σ) (hr : O.length < 100) (hw : w.length < 110) : ∃ τ, F_Mod_out x σ = some τ ∧ oy_fr oy_sxo σ τ ∧ oy_xo O (w ++ [x]) τ := by
  obtain ⟨⟨h1, h2, h3⟩, h4, h5⟩ := h
  have e1 : Nat → ox_w (ox_w (120 * (O.length : Int)) + (w.length : Int)) = ((120 * O.length + w.length : Nat) : Int) := fun _ => by
    rw [oy_w (x := 120 * (O.length : Int)) (by omega) (by omega), oy_w (by omega) (by omega)]
    omega
  have c0 : 0 ≤ (O.length : Int) ∧ (O.length : Int).toNat < 100 := by omega
  have c1 : 0 ≤ ((120 * O.length + w.length : Nat) : Int) ∧ ((120 * O.length + w.length : Nat) : Int).toNat < 12000 := by omega
  have hlen : (w ++ [x]).length = w.length + 1 := by rw [List.length_append]; rfl
  refine ⟨ox_up (ox_up σ 10 0 43 (120 * O.length + w.length) x) 10 0 44 O.length ((w.length + 1 : Nat) : Int), ?_, (oy_fr.rf.up rfl).up rfl, ⟨h1, ?_, fun i hi => ⟨?_, fun p hp => ?_⟩⟩, ?_, fun p hp => ?_⟩
  · unfold F_Mod_out
    rw [h2, if_pos c0, Int.toNat_natCast, h4, (e1 0), if_pos c1, Int.toNat_natCast, if_pos (by omega), if_pos (by omega), oy_w1 (by omega)]
  · rw [oy_up_ne (by decide), oy_up_ne (by decide)]
    exact h2
  · rw [oy_up_ni (by omega), oy_up_ne (by decide)]
    exact (h3 i hi).1
  · have hg : (oy_ln O i).length ≤ 48 := (oy_good_ln h1 i).1
    rw [oy_up_ne (by decide), oy_up_ni (by omega)]
    exact (h3 i hi).2 p hp
  · rw [oy_up_same, hlen]
  · rw [oy_up_ne (by decide), oy_wk_app]
    by_cases q : p = w.length
    · rw [q, oy_up_same, if_neg (Nat.lt_irrefl _), if_pos rfl]
    · rw [oy_up_ni (by omega), if_pos (by omega)]
      exact h5 p (by omega)
theorem om_n43 {v : Int} (hv : 0 ≤ v ∧ v ≤ 999999) (hr : O.length < 100) : ∀ (g n : Nat) (w : List Int) (σ : ox_H), oy_xo O w σ → w.length + g ≤ 100 → g ≤ 6 → g < n → ∃ τ, ox_lp (B_Mod_outNumber_43 v) n (oy_u g, σ) = some τ ∧ oy_fr oy_sxo σ τ ∧ oy_xo O (w ++ sp_da v g) τ
  | _, 0, _, _, _, _, _, h => absurd h (Nat.not_lt_zero _)
  | 0, n + 1, w, σ, h, h1, h2, h3 => by
    refine ⟨σ, oy_lp_m (X := some σ) ?_, oy_fr.rf, by rw [sp_da, List.append_nil]; exact h⟩
    unfold B_Mod_outNumber_43 J_Mod_outNumber_68
    dsimp only
    rw [if_pos (show oy_u 0 ≤ 0 from Int.le_refl _)]
  | g + 1, n + 1, w, σ, h, h1, h2, h3 => by
    have hp := oy_p10 g
    have hd10 : Nat → ox_w (Int.tdiv (10 ^ g) 10) = oy_u g := fun _ => oy_u_d (by omega)
    obtain ⟨σ1, e1, f1, g1⟩ := om_xE (x := sp_dgt v g) h hr (by omega)
    have hB : B_Mod_outNumber_43 v (10 ^ g, σ) = some (.inl (oy_u g, σ1)) := by
      have e1' : F_Mod_out (ox_w (48 + Int.tmod (ox_w (Int.tdiv v (10 ^ g))) 10)) σ = some σ1 := e1
      unfold B_Mod_outNumber_43
      dsimp only
      rw [if_neg (by omega), if_neg (by omega), e1', Option.bind_some, (hd10 0)]
    obtain ⟨τ, e2, f2, g2⟩ := om_n43 hv hr g n (w ++ [sp_dgt v g]) σ1 g1 (by rw [List.length_append]; show w.length + 1 + g ≤ 100; omega) (by omega) (by omega)
    refine ⟨τ, (oy_lp_l hB).trans e2, f1.tr f2, ?_⟩
    rw [List.append_assoc] at g2
    exact g2
theorem om_n25 {v : Int} (hv : 0 ≤ v ∧ v ≤ 999999) (hr : O.length < 100) {w : List Int} (h : oy_xo O w σ) (hw : w.length ≤ 90) : ∀ (g n : Nat), g ≤ 5 → g < n → ∃ τ, ox_lp (B_Mod_outNumber_25 v σ) n (10 ^ g) = some τ ∧ oy_fr oy_sxo σ τ ∧ oy_xo O (w ++ sp_dr v (g + 1)) τ
  | _, 0, _, h => absurd h (Nat.not_lt_zero _)
  | g, n + 1, h1, h2 => by
    have hp := oy_p10 g
    have done : 10 ^ g ≤ v ∨ g = 0 → ∃ τ, J_Mod_outNumber_43 v (10 ^ g) σ = some τ ∧ oy_fr oy_sxo σ τ ∧ oy_xo O (w ++ sp_dr v (g + 1)) τ := by
      intro z
      rw [sp_dr_all g z]
      exact om_n43 hv hr (g + 1) ox_fu w σ h (by omega) (by omega) (by show g + 1 < 100000; omega)
    by_cases q : 10 ^ g ≤ v ∨ g = 0
    · obtain ⟨τ, e, a, b⟩ := done q
      refine ⟨τ, oy_lp_m (X := some τ) ?_, a, b⟩
      unfold B_Mod_outNumber_25
      by_cases z : (10 : Int) ^ g ≤ 1
      · rw [if_pos z, e]
      · rw [if_neg z, if_pos (by
          rcases q with y | y
          · exact y
          · rw [y] at z
            exact absurd (Int.le_refl _) z), e]
    · cases g with
      | zero => exact absurd (Or.inr rfl) q
      | succ g =>
        have hg1 := oy_p10 g
        have hs : (10 : Int) ^ (g + 1) = 10 ^ g * 10 := Int.pow_succ _ _
        obtain ⟨τ, e, a, b⟩ := om_n25 hv hr h hw g n (by omega) (by omega)
        refine ⟨τ, (oy_lp_l (a' := 10 ^ g) ?_).trans e, a, ?_⟩
        · have hd : ox_w (Int.tdiv (10 ^ (g + 1)) 10) = 10 ^ g := oy_u_d (f := g + 1) (by omega)
          unfold B_Mod_outNumber_25
          rw [if_neg (by omega), if_neg (fun z => q (Or.inl z)), hd]
        · rw [sp_dr, if_neg q]
          exact b
theorem om_xN {v : Int} (hv : -999999 ≤ v ∧ v ≤ 999999) (hr : O.length < 100) {w : List Int} (h : oy_xo O w σ) (hw : w.length ≤ 80) : ∃ τ, F_Mod_outNumber v σ = some τ ∧ oy_fr oy_sxo σ τ ∧ oy_xo O (w ++ sp_num v) τ := by
  have h5 : ox_c 100000 0 = 10 ^ 5 := by decide
  have h6 : ∀ u : Int, u ≤ 999999 → sp_dr u 7 = sp_dr u 6 := fun u hu => sp_dr_lt (v := u) 1 5 (by show u < 1000000; omega)
  unfold F_Mod_outNumber J_Mod_outNumber_10 J_Mod_outNumber_21 J_Mod_outNumber_25 sp_num
  by_cases q : 0 ≤ v
  · rw [if_pos q, if_pos q, if_neg (by omega), h5, h6 v hv.2]
    exact om_n25 ⟨q, hv.2⟩ hr h (by omega) 5 ox_fu (Nat.le_refl _) (by show 5 < 100000; decide)
  · obtain ⟨σ1, e1, f1, g1⟩ := om_xE (x := 45) h hr (by omega)
    obtain ⟨τ, e2, f2, g2⟩ := om_n25 (v := -v) (by omega) hr g1 (by rw [List.length_append]; show w.length + 1 ≤ 90; omega) 5 ox_fu (Nat.le_refl _) (by show 5 < 100000; decide)
    rw [if_neg q, if_neg q, if_pos (by omega), e1, Option.bind_some, h5, oy_w (x := -v) (by omega) (by omega), h6 (-v) (by omega)]
    refine ⟨τ, e2, f1.tr f2, ?_⟩
    rw [List.append_assoc] at g2
    exact g2
theorem om_xst {l s : Nat} (hr : O.length < 100) (hs : s ≤ 5) : ∀ (k i n : Nat) (w : List Int) (σ : ox_H), i + k = s → oy_xo O w σ → w.length + k ≤ 90 → k < n → ∃ τ, ox_lp (B_Mod_show_45 (l : Int) (s : Int)) n ((i : Int), σ) = J_Mod_show_64 (l : Int) τ ∧ oy_fr oy_sxo σ τ ∧ oy_xo O (w ++ List.replicate k 42) τ
  | _, _, 0, _, _, _, _, _, h => absurd h (Nat.not_lt_zero _)
  | 0, i, n + 1, w, σ, h1, h2, h3, _ => by
    refine ⟨σ, oy_lp_m ?_, oy_fr.rf, by rw [List.replicate, List.append_nil]; exact h2⟩
    unfold B_Mod_show_45
    dsimp only
    rw [if_pos (by omega)]
  | k + 1, i, n + 1, w, σ, h1, h2, h3, h4 => by
    obtain ⟨σ1, e1, a1, b1⟩ := om_xE (x := 42) h2 hr (by omega)
    obtain ⟨τ, e, a, b⟩ := om_xst (l := l) hr hs k (i + 1) n (w ++ [42]) σ1 (by omega) b1 (by rw [List.length_append]; show w.length + 1 + k ≤ 90; omega) (by omega)
    refine ⟨τ, (oy_lp_l (a' := (((i + 1 : Nat) : Int), σ1)) ?_).trans e, a1.tr a, by
      rw [List.append_assoc] at b
      exact b⟩
    unfold B_Mod_show_45
    dsimp only
    rw [if_neg (by omega), e1, Option.bind_some, oy_w1 (by omega)]
theorem om_xsg (hT : oy_ok T) (hr : O.length < 100) {l e : Nat} (hl : l < T.length) (he : e ≤ (oy_ln T l).length) : ∀ (k i n : Nat) (w : List Int) (σ : ox_H), (i + k = e ∨ (k = 0 ∧ e ≤ i)) → oy_M T σ → σ 10 0 15 0 = e → oy_xo O w σ → w.length + k ≤ 90 → k < n → ∃ τ, ox_lp (B_Mod_show_76 (l : Int)) n ((i : Int), σ) = J_Mod_show_202 τ ∧ oy_fr oy_sxo σ τ ∧ oy_xo O (w ++ sp_xs (oy_ln T l) k i) τ
  | _, _, 0, _, _, _, _, _, _, _, h => absurd h (Nat.not_lt_zero _)
  | 0, i, n + 1, w, σ, h1, hM, h15, h2, h3, _ => by
    refine ⟨σ, oy_lp_m ?_, oy_fr.rf, by rw [sp_xs, List.append_nil]; exact h2⟩
    unfold B_Mod_show_76 J_Mod_show_102
    dsimp only
    rw [h15, if_pos (by omega)]
  | k + 1, i, n + 1, w, σ, h1, hM, h15, h2, h3, h4 => by
    have h24 := oy_len24 hT l
    obtain ⟨σ1, e1, a1, b1⟩ := om_xE (x := oy_wk (oy_ln T l) i) h2 hr (by omega)
    obtain ⟨τ, e, a, b⟩ := om_xsg hT hr hl he k (i + 1) n (w ++ [oy_wk (oy_ln T l) i]) σ1 (by omega) (hM.fr a1 rfl rfl rfl) ((a1 _ _ _ _ rfl).trans h15) b1 (by rw [List.length_append]; show w.length + 1 + k ≤ 90; omega) (by omega)
    refine ⟨τ, (oy_lp_l (a' := (((i + 1 : Nat) : Int), σ1)) ?_).trans e, a1.tr a, by
      rw [List.append_assoc] at b
      exact b⟩
    unfold B_Mod_show_76
    dsimp only
    rw [h15, if_neg (by omega), om_look hT hM hl (by omega), Option.bind_some, e1, Option.bind_some, oy_w1 (by omega)]
theorem om_xtx (hT : oy_ok T) (hr : O.length < 100) {l : Nat} (hl : l < T.length) : ∀ (k i n : Nat) (w : List Int) (σ : ox_H), i + k = (oy_ln T l).length → oy_M T σ → oy_xo O w σ → w.length + k ≤ 90 → k < n → ∃ τ, ox_lp (B_Mod_show_114 (l : Int)) n ((i : Int), σ) = J_Mod_show_202 τ ∧ oy_fr oy_sxo σ τ ∧ oy_xo O (w ++ sp_xs (oy_ln T l) k i) τ
  | _, _, 0, _, _, _, _, _, _, h => absurd h (Nat.not_lt_zero _)
  | 0, i, n + 1, w, σ, h1, hM, h2, h3, _ => by
    have h60 := hT.1
    refine ⟨σ, oy_lp_m ?_, oy_fr.rf, by rw [sp_xs, List.append_nil]; exact h2⟩
    unfold B_Mod_show_114 J_Mod_show_142
    dsimp only
    rw [if_pos (by omega), Int.toNat_natCast, hM.2.1 l hl, if_pos (by omega)]
  | k + 1, i, n + 1, w, σ, h1, hM, h2, h3, h4 => by
    have h60 := hT.1
    have h24 := oy_len24 hT l
    obtain ⟨σ1, e1, a1, b1⟩ := om_xE (x := oy_wk (oy_ln T l) i) h2 hr (by omega)
    obtain ⟨τ, e, a, b⟩ := om_xtx hT hr hl k (i + 1) n (w ++ [oy_wk (oy_ln T l) i]) σ1 (by omega) (hM.fr a1 rfl rfl rfl) b1 (by rw [List.length_append]; show w.length + 1 + k ≤ 90; omega) (by omega)
    refine ⟨τ, (oy_lp_l (a' := (((i + 1 : Nat) : Int), σ1)) ?_).trans e, a1.tr a, by
      rw [List.append_assoc] at b
      exact b⟩
    unfold B_Mod_show_114
    dsimp only
    rw [if_pos (by omega), Int.toNat_natCast, hM.2.1 l hl, if_neg (by omega), om_look hT hM hl (by omega), Option.bind_some, e1, Option.bind_some, oy_w1 (by omega)]
theorem om_xce (hT : oy_ok T) (hfi : oy_fin T f) (hr : O.length < 100) {l : Nat} (hl : l < T.length) (h4 : sp_kind (oy_ln T l) = 4) : ∀ (k c n : Nat) (w : List Int) (σ : ox_H), c + k = sp_nc T l → oy_xz T f σ → oy_xo O w σ → w.length + (sp_xcs f l k c).length ≤ 48 → k < n → ∃ τ, ox_lp (B_Mod_show_148 (l : Int)) n ((c : Int), σ) = J_Mod_show_202 τ ∧ oy_fr oy_sxs σ τ ∧ oy_xz T f τ ∧ oy_xo O (w ++ sp_xcs f l k c) τ
  | _, _, 0, _, _, _, _, _, _, h => absurd h (Nat.not_lt_zero _)
  | 0, c, n + 1, w, σ, h1, hz, h2, h3, _ => by
    have h12 := sp_nc_12 hT l
    have hb := (om_beg hT hz.1.1.1 hl h4 (show c ≤ 1000 by omega)).2 (by omega)
    refine ⟨σ, oy_lp_m ?_, oy_fr.rf, hz, by rw [sp_xcs, List.append_nil]; exact h2⟩
    unfold B_Mod_show_148
    dsimp only
    rw [hb, Option.bind_some, if_pos (by decide)]
  | k + 1, c, n + 1, w, σ, h1, hz, h2, h3, h5 => by
    have h60 := hT.1
    have h12 := sp_nc_12 hT l
    obtain ⟨b, _, hb, _, _⟩ := (om_beg hT hz.1.1.1 hl h4 (show c ≤ 1000 by omega)).1 (by omega)
    rw [sp_xcs, List.length_append] at h3
    have hxl : 1 ≤ (sp_xc f l c).length := Nat.succ_pos _
    obtain ⟨σ1, e1, a1, b1⟩ := om_xE (x := 124) h2 hr (by omega)
    have z1 : oy_xz T f σ1 := hz.fr a1 rfl rfl rfl rfl rfl rfl rfl rfl rfl rfl rfl rfl
    obtain ⟨σ2, e2, v1, v2, v3, v4⟩ := om_value hT hfi (om_levels hT hfi 400).1 hl h4 (show c < 24 by omega) z1.1 ⟨fun l' c' _ _ m => by rw [z1.2.1] at m; omega, fun y r _ _ m => by rw [z1.2.2] at m; omega⟩ (fun _ => by
      have := oy_mu_326 (ox_up σ1 10 0 41 (24 * l + c) 1)
      omega)
    have z2 : oy_xz T f σ2 := ⟨v2, fun i => (v3 i).trans (z1.2.1 i), fun i => (v4 i).trans (z1.2.2 i)⟩
    have b2 := b1.fr v1 rfl rfl rfl
    have key : ∃ σ3, (if oy_cl (f l c) = 1000000 then F_Mod_out 35 σ2 else F_Mod_outNumber (oy_cl (f l c)) σ2) = some σ3 ∧ oy_fr oy_sxo σ2 σ3 ∧ oy_xo O (w ++ sp_xc f l c) σ3 := by
      unfold sp_xc at h3 ⊢
      rw [List.length_cons] at h3
      by_cases q : oy_cl (f l c) = 1000000
      · rw [if_pos q] at h3 ⊢
        obtain ⟨σ3, e3, a3, b3⟩ := om_xE (x := 35) b2 hr (by rw [List.length_append]; show w.length + 1 < 110; omega)
        refine ⟨σ3, e3, a3, ?_⟩
        rw [List.append_assoc] at b3
        rw [if_pos q]
        exact b3
      · rw [if_neg q] at h3 ⊢
        have r := oy_cl_rg2 (hfi.rg l c) q
        obtain ⟨σ3, e3, a3, b3⟩ := om_xN (v := oy_cl (f l c)) ⟨r.1, r.2.1⟩ hr b2 (by rw [List.length_append]; show w.length + 1 ≤ 80; omega)
        refine ⟨σ3, e3, a3, ?_⟩
        rw [List.append_assoc] at b3
        rw [if_neg q]
        exact b3
    obtain ⟨σ3, e3, a3, b3⟩ := key
    have z3 : oy_xz T f σ3 := z2.fr a3 rfl rfl rfl rfl rfl rfl rfl rfl rfl rfl rfl rfl
    obtain ⟨τ, e, a, z, b'⟩ := om_xce hT hfi hr hl h4 k (c + 1) n (w ++ sp_xc f l c) σ3 (by omega) z3 b3 (by rw [List.length_append]; omega) (by omega)
    refine ⟨τ, (oy_lp_l (a' := (((c + 1 : Nat) : Int), σ3)) ?_).trans e, (a1.mono (fun _ _ => oy_sxo_s)).tr ((v1.mono (fun _ _ => oy_sv_s)).tr ((a3.mono (fun _ _ => oy_sxo_s)).tr a)), z, by
      rw [List.append_assoc] at b'
      rw [sp_xcs]
      exact b'⟩
    unfold B_Mod_show_148 J_Mod_show_196
    dsimp only
    rw [hb, Option.bind_some, if_neg (by omega), e1, Option.bind_some, e2, Option.bind_some, oy_er]
    dsimp only
    by_cases q : oy_cl (f l c) = 1000000
    · rw [if_pos q] at e3 ⊢
      rw [e3, Option.bind_some, oy_w1 (by omega)]
    · rw [if_neg q] at e3 ⊢
      rw [e3, Option.bind_some, oy_w1 (by omega)]
/-- a line of the export is ended -/
theorem om_x202 {w : List Int} (h : oy_xo O w σ) (hr : O.length < 100) (hw : oy_good 2 w) : ∃ τ, J_Mod_show_202 σ = some τ ∧ oy_fr (fun c j => c == 10 && decide (j = 45)) σ τ ∧ oy_xm (O ++ [w]) τ := by
  have f0 : oy_fr (fun c j => c == 10 && decide (j = 45)) σ (ox_up σ 10 0 45 0 ((O.length + 1 : Nat) : Int)) := oy_fr.rf.up rfl
  have hl : (O ++ [w]).length = O.length + 1 := by rw [List.length_append]; rfl
  refine ⟨ox_up σ 10 0 45 0 ((O.length + 1 : Nat) : Int), ?_, f0, ⟨?_, fun u hu => ?_⟩, ?_, fun i hi => ?_⟩
  · unfold J_Mod_show_202
    rw [h.1.2.1, oy_w1 (by omega)]
  · rw [hl]
    show O.length + 1 ≤ 100
    omega
  · rcases List.mem_append.mp hu with z | z
    · exact h.1.1.2 u z
    · rw [List.mem_singleton.mp z]
      exact hw
  · rw [oy_up_same, hl]
  · have e : oy_xr i (oy_ln (O ++ [w]) i) σ := by
      by_cases q : i = O.length
      · rw [q, oy_snoc_ln]
        exact h.2
      · rw [oy_ln_app, if_pos (by omega)]
        exact h.1.2.2 i (by omega)
    exact ⟨(f0 _ _ _ _ rfl).trans e.1, fun p hp => (f0 _ _ _ _ rfl).trans (e.2 p hp)⟩
theorem om_show (hT : oy_ok T) (hfi : oy_fin T f) (hr : O.length < 100) {l m : Nat} (hl : l < T.length) (hm : m ≤ 5) (hk : sp_kind (oy_ln T l) = 0 ∨ sp_kind (oy_ln T l) = 4 ∨ sp_kind (oy_ln T l) = 7) (hz : oy_xz T f σ) (h : oy_xm O σ) : ∃ τ, F_Mod_show (l : Int) (sp_kind (oy_ln T l)) (m : Int) σ = some τ ∧ oy_fr oy_sxs σ τ ∧ oy_xz T f τ ∧ oy_xm (O ++ [sp_xl T f l m]) τ := by
  have h24 := oy_len24 hT l
  have hok := sp_xl_ok hT hfi (m := m) hk
  have hlen : (sp_xl T f l m).length ≤ 48 := hok.1
  have c0 : 0 ≤ (O.length : Int) ∧ (O.length : Int).toNat < 100 := by omega
  have f0 : oy_fr oy_sxo σ (ox_up σ 10 0 44 O.length 0) := oy_fr.rf.up rfl
  have o0 : oy_xo O [] (ox_up σ 10 0 44 O.length 0) := ⟨⟨h.1, (oy_up_ne (by decide)).trans h.2.1, fun i hi => ⟨(oy_up_ni (by omega)).trans (h.2.2 i hi).1, fun p hp => (oy_up_ne (by decide)).trans ((h.2.2 i hi).2 p hp)⟩⟩, oy_up_same, fun p hp => absurd hp (Nat.not_lt_zero _)⟩
  have fin : ∀ σ1 w, oy_fr oy_sxs σ σ1 → oy_xz T f σ1 → oy_xo O w σ1 → w = sp_xl T f l m → ∃ τ, J_Mod_show_202 σ1 = some τ ∧ oy_fr oy_sxs σ τ ∧ oy_xz T f τ ∧ oy_xm (O ++ [sp_xl T f l m]) τ := by
    intro σ1 w f1 z1 x1 hw
    rw [hw] at x1
    obtain ⟨τ, e, a, b⟩ := om_x202 x1 hr hok
    refine ⟨τ, e, f1.tr (a.mono (fun c j y => ?_)), z1.fr a rfl rfl rfl rfl rfl rfl rfl rfl rfl rfl rfl rfl, b⟩
    rw [Bool.and_eq_true, decide_eq_true_eq, beq_iff_eq] at y
    exact oy_sxs_of y.1 (by omega)
  unfold F_Mod_show
  rw [h.2.1, if_pos c0, Int.toNat_natCast]
  have z0 : oy_xz T f (ox_up σ 10 0 44 O.length 0) := hz.fr f0 rfl rfl rfl rfl rfl rfl rfl rfl rfl rfl rfl rfl
  have g0 : oy_fr oy_sxs σ (ox_up σ 10 0 44 O.length 0) := f0.mono (fun _ _ => oy_sxo_s)
  generalize ox_up σ 10 0 44 O.length 0 = σ0 at *
  have M0 := z0.1.1.1
  unfold sp_xl at hlen fin ⊢
  by_cases q0 : sp_kind (oy_ln T l) = 0
  · rw [if_pos q0] at hlen
    have hH := sp_kind_H.mp q0
    obtain ⟨σ1, e1, f1, d1⟩ := om_heading hT M0 hl
    obtain ⟨d12, d13, d14, d15, d16⟩ := d1 hH
    rw [if_pos hH] at e1
    have z1 : oy_xz T f σ1 := z0.fr f1 rfl rfl rfl rfl rfl rfl rfl rfl rfl rfl rfl rfl
    have o1 := o0.fr f1 rfl rfl rfl
    have hst := hH.2.1
    have hx5 : sp_x5 (sp_stars (oy_ln T l) + m) ≤ 5 := by unfold sp_x5; split <;> omega
    have hto := sp_to_le (oy_ln T l)
    rw [List.length_append, List.length_replicate, List.length_cons, sp_xs_len] at hlen
    obtain ⟨σ2, e2, f2, o2⟩ := om_xst (l := l) hr hx5 (sp_x5 (sp_stars (oy_ln T l) + m)) 0 ox_fu [] σ1 (Nat.zero_add _) o1 (by show 0 + _ ≤ 90; omega) (by show _ < 100000; omega)
    rw [List.nil_append] at o2
    obtain ⟨σ3, e3, f3, o3⟩ := om_xE (x := 32) o2 hr (by rw [List.length_replicate]; omega)
    have s14 : σ3 10 0 14 0 = sp_fr (oy_ln T l) := (f3 _ _ _ _ rfl).trans ((f2 _ _ _ _ rfl).trans d14)
    have s15 : σ3 10 0 15 0 = sp_to (oy_ln T l) := (f3 _ _ _ _ rfl).trans ((f2 _ _ _ _ rfl).trans d15)
    have M3 : oy_M T σ3 := (z1.1.1.1.fr f2 rfl rfl rfl).fr f3 rfl rfl rfl
    obtain ⟨σ4, e4, f4, o4⟩ := om_xsg hT hr hl hto (sp_to (oy_ln T l) - sp_fr (oy_ln T l)) (sp_fr (oy_ln T l)) ox_fu _ σ3 (by omega) M3 s15 o3 (by
      rw [List.length_append, List.length_replicate]
      show _ + 1 + _ ≤ 90
      omega) (by show _ < 100000; omega)
    have f24 : oy_fr oy_sxo σ1 σ4 := f2.tr (f3.tr f4)
    have z4 : oy_xz T f σ4 := z1.fr f24 rfl rfl rfl rfl rfl rfl rfl rfl rfl rfl rfl rfl
    have key : ∀ s : Int, s = ((sp_x5 (sp_stars (oy_ln T l) + m) : Nat) : Int) → J_Mod_show_40 (l : Int) s σ1 = J_Mod_show_202 σ4 := by
      intro s hs
      rw [hs]
      unfold J_Mod_show_40 J_Mod_show_45
      refine Eq.trans e2 ?_
      unfold J_Mod_show_64 J_Mod_show_76
      rw [e3, Option.bind_some, s14]
      exact e4
    rw [if_pos q0, e1, Option.bind_some]
    dsimp only
    have ed : ox_w (σ1 10 0 12 0 + (m : Int)) = (sp_stars (oy_ln T l) : Int) + (m : Int) := by rw [d12, oy_w (by omega) (by omega)]
    have hfin := fin σ4 _ (g0.tr ((f1.mono (fun _ _ => oy_sp_s)).tr (f24.mono (fun _ _ => oy_sxo_s)))) z4 o4 (by
      rw [if_pos q0, List.append_assoc]
      rfl)
    by_cases z : (sp_stars (oy_ln T l) : Int) + (m : Int) ≤ 5
    · rw [if_pos (show ox_w (σ1 10 0 12 0 + (m : Int)) ≤ 5 by rw [ed]; exact z), key _ (by rw [ed]; unfold sp_x5; split <;> omega)]
      exact hfin
    · rw [if_neg (show ¬ ox_w (σ1 10 0 12 0 + (m : Int)) ≤ 5 by rw [ed]; exact z), key _ (by unfold sp_x5; split <;> omega)]
      exact hfin
  rw [if_neg q0] at hlen
  rw [if_neg q0]
  by_cases q7 : sp_kind (oy_ln T l) = 7
  · rw [if_neg (by omega)] at hlen
    rw [sp_xs_len] at hlen
    obtain ⟨σ1, e1, f1, o1⟩ := om_xtx hT hr hl (oy_ln T l).length 0 ox_fu [] σ0 (Nat.zero_add _) M0 o0 (by show 0 + _ ≤ 90; omega) (by show _ < 100000; omega)
    have z1 : oy_xz T f σ1 := z0.fr f1 rfl rfl rfl rfl rfl rfl rfl rfl rfl rfl rfl rfl
    have e1' : J_Mod_show_114 (l : Int) 0 σ0 = J_Mod_show_202 σ1 := e1
    rw [if_pos q7, e1']
    exact fin σ1 _ (g0.tr (f1.mono (fun _ _ => oy_sxo_s))) z1 o1 (by rw [if_neg q0, if_neg (show ¬ sp_kind (oy_ln T l) = 4 by omega)]; rfl)
  · have q4 : sp_kind (oy_ln T l) = 4 := by omega
    rw [if_pos q4] at hlen
    have h12 := sp_nc_12 hT l
    obtain ⟨σ1, e1, f1, z1, o1⟩ := om_xce hT hfi hr hl q4 (sp_nc T l) 0 ox_fu [] σ0 (Nat.zero_add _) z0 o0 (by show 0 + _ ≤ 48; omega) (by show _ < 100000; omega)
    have e1' : J_Mod_show_148 (l : Int) 0 σ0 = J_Mod_show_202 σ1 := e1
    rw [if_neg q7, e1']
    exact fin σ1 _ (g0.tr f1) z1 o1 (by rw [if_neg q0, if_pos q4]; rfl)
end OYN5
