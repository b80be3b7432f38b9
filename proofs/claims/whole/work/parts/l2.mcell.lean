/-! ===== the reference's answer to a cell asked ===== -/
/-- the slots that a question of a value writes -/
def oy_srs (c j : Nat) : Bool := c == 10 && (decide (11 ≤ j ∧ j ≤ 22) || decide (36 ≤ j ∧ j ≤ 42) || decide (j = 46))
theorem oy_srs_of {c j : Nat} (h1 : c = 10) (h2 : (11 ≤ j ∧ j ≤ 22) ∨ (36 ≤ j ∧ j ≤ 42) ∨ j = 46) : oy_srs c j = true := by
  unfold oy_srs
  rw [Bool.and_eq_true, Bool.or_eq_true, Bool.or_eq_true, decide_eq_true_eq, decide_eq_true_eq, decide_eq_true_eq, beq_iff_eq]
  exact ⟨h1, by omega⟩
theorem oy_sq_srs {c j : Nat} (h : oy_sq c j = true) : oy_srs c j = true := by
  unfold oy_sq at h
  rw [Bool.and_eq_true, Bool.and_eq_true, decide_eq_true_eq, decide_eq_true_eq, beq_iff_eq] at h
  exact oy_srs_of h.1 (Or.inl h.2)
theorem oy_sv_srs {c j : Nat} (h : oy_sv c j = true) : oy_srs c j = true := by
  unfold oy_sv at h
  rw [Bool.and_eq_true, Bool.or_eq_true, decide_eq_true_eq, decide_eq_true_eq, beq_iff_eq] at h
  exact oy_srs_of h.1 (by omega)
/-- the reference's memory between calls -/
def oy_mb (σ : ox_H) : Prop := (∀ i, σ 10 0 41 i = 0) ∧ (∀ i, σ 10 0 42 i = 0) ∧ (∀ i, σ 10 0 37 i ≤ σ 10 0 36 0) ∧ ∀ i, σ 10 0 39 i ≤ σ 10 0 36 0
section OYL2
variable {T : oy_T} {σ : ox_H} {f : Nat → Nat → Int}
theorem oy_mb.fr {S : Nat → Nat → Bool} {σ' : ox_H} (h : oy_mb σ) (hf : oy_fr S σ σ') (h36 : S 10 36 = false) (h37 : S 10 37 = false) (h39 : S 10 39 = false) (h41 : S 10 41 = false) (h42 : S 10 42 = false) : oy_mb σ' := by
  obtain ⟨a, b, c, d⟩ := h
  exact ⟨fun i => (hf _ _ _ _ h41).trans (a i), fun i => (hf _ _ _ _ h42).trans (b i), fun i => by rw [hf _ _ _ _ h37, hf _ _ _ _ h36]; exact c i, fun i => by rw [hf _ _ _ _ h39, hf _ _ _ _ h36]; exact d i⟩
/-- a new finding: nothing is remembered, nothing is marked -/
theorem oy_mb.new (h : oy_mb σ) (hF : oy_F T σ) (h1 : 0 ≤ σ 10 0 36 0) (h2 : σ 10 0 36 0 ≤ 1000000000) : oy_mem T f (ox_up σ 10 0 36 0 (ox_w (σ 10 0 36 0 + 1))) ∧ (∀ x, oy_lw T f (ox_up σ 10 0 36 0 (ox_w (σ 10 0 36 0 + 1))) x) ∧ ox_up σ 10 0 36 0 (ox_w (σ 10 0 36 0 + 1)) 10 0 36 0 = σ 10 0 36 0 + 1 ∧ ∀ i, ox_up σ 10 0 36 0 (ox_w (σ 10 0 36 0 + 1)) 10 0 41 i = 0 ∧ ox_up σ 10 0 36 0 (ox_w (σ 10 0 36 0 + 1)) 10 0 42 i = 0 := by
  have e36 : ox_up σ 10 0 36 0 (ox_w (σ 10 0 36 0 + 1)) 10 0 36 0 = σ 10 0 36 0 + 1 := by rw [oy_up_same, oy_w (by omega) (by omega)]
  have en : ∀ j i, j ≠ 36 → ox_up σ 10 0 36 0 (ox_w (σ 10 0 36 0 + 1)) 10 0 j i = σ 10 0 j i := fun j i z => oy_up_ne (fun q => z q.2)
  have f0 : oy_fr oy_srs σ (ox_up σ 10 0 36 0 (ox_w (σ 10 0 36 0 + 1))) := oy_fr.rf.up rfl
  have f1 : oy_fr (fun c j => c == 10 && decide (j = 36)) σ (ox_up σ 10 0 36 0 (ox_w (σ 10 0 36 0 + 1))) := oy_fr.rf.up rfl
  generalize ox_up σ 10 0 36 0 (ox_w (σ 10 0 36 0 + 1)) = τ at *
  obtain ⟨a, b, c, d⟩ := h
  have e41 : ∀ i, τ 10 0 41 i = 0 := fun i => (en 41 i (by decide)).trans (a i)
  have e42 : ∀ i, τ 10 0 42 i = 0 := fun i => (en 42 i (by decide)).trans (b i)
  refine ⟨⟨hF.fr f1 rfl rfl rfl rfl rfl, fun l k _ _ m => ?_, fun z r _ _ m => ?_, fun i => Or.inl (e41 i), fun i => Or.inl (e42 i), fun i => ?_, fun i => ?_⟩, fun x => ⟨fun l k _ _ m => ?_, fun z r _ _ m => ?_⟩, e36, fun i => ⟨e41 i, e42 i⟩⟩
  · rw [en 37 _ (by decide), e36] at m
    have := c (24 * l + k)
    omega
  · rw [en 39 _ (by decide), e36] at m
    have := d z
    omega
  · rw [en 37 _ (by decide), e36]
    have := c i
    omega
  · rw [en 39 _ (by decide), e36]
    have := d i
    omega
  · rw [e41] at m
    omega
  · rw [e42] at m
    omega
theorem om_row51 (hT : oy_ok T) (hF : oy_F T σ) {e p : Nat} (he : e < sp_n T) (hp : p < sp_en T (e + 1)) (h1 : sp_tpv T p = (p : Int)) {r : Int} (hr : 1 ≤ r ∧ r ≤ 60) : ∃ σ', J_Mod_rowOf_51 (e : Int) r (p : Int) σ = some (oy_en (sp_rw T p r), σ') ∧ oy_fr oy_sp σ σ' := by
  have h60 := hT.1
  have hn := sp_n_le (T := T)
  have ho := sp_en_own he
  obtain ⟨hk, ht⟩ := sp_tpv_is.mp h1
  obtain ⟨x, hx⟩ : ∃ x : Nat, x = p + r.toNat - 1 := ⟨_, rfl⟩
  have ew : ox_w (ox_w ((p : Int) + r) - 1) = (x : Int) := by
    rw [oy_w (x := (p : Int) + r) (by omega) (by omega), oy_w (by omega) (by omega)]
    omega
  have e21 : σ 10 0 21 (e + 1) = (sp_en T (e + 1) : Int) := hF.2.2 (e + 1) (by omega)
  unfold J_Mod_rowOf_51 J_Mod_rowOf_93 J_Mod_rowOf_94
  rw [if_neg (by omega), ew, oy_w1 (by omega), if_pos (by omega), Int.toNat_natCast, e21]
  by_cases q : sp_en T (e + 1) ≤ x
  · have en : sp_rw T p r = none := by
      cases hs : sp_rw T p r with
      | none => rfl
      | some y =>
        exfalso
        have hi := sp_rw_in hs
        rw [ht] at hi
        have hyx : y = x := by omega
        rw [hyx] at hi
        have hq : ¬ sp_kind (oy_ln T (sp_en T (e + 1))) = 4 := by
          intro z
          by_cases w : e + 1 < sp_n T
          · have := sp_kind_H.mpr (sp_en_lt w).2
            unfold sp_eln at this
            omega
          · have := sp_en_ge (T := T) (e := e + 1) (by omega)
            have h7 := sp_kind_nil (T := T) (l := sp_en T (e + 1)) (by omega)
            omega
        by_cases w : x = sp_en T (e + 1)
        · rw [← w] at hq
          exact hq hi.2.2.2.2.1
        · have := sp_top_gt hq (r := x) (by omega)
          omega
    rw [if_pos (by omega), en]
    exact ⟨σ, rfl, oy_fr.rf⟩
  rw [if_neg (by omega)]
  obtain ⟨σ1, e1, f1⟩ := om_isTable hT hF.1 (a := p) (r := x) (by omega) (by omega)
  have er : sp_rw T p r = if sp_ist T (x + 1 - p) p = true then some x else none := by
    by_cases w : x = p
    · have hu := sp_rw_up (T := T) (l := p) (n := r) hk (by omega) hr (by rw [ht]; omega)
      rw [ht, ← hx] at hu
      rw [hu, if_pos ((sp_ist_iff _ _).mpr (fun q q1 q2 => by
        rw [show q = p by omega]
        exact hk))]
    · have hu := sp_rw_dn (T := T) (l := p) (n := r) hk hr (by rw [ht]; omega) (by rw [ht]; omega)
      rw [ht, ← hx] at hu
      exact hu
  rw [e1, Option.bind_some, er]
  by_cases w : sp_ist T (x + 1 - p) p = true
  · rw [if_pos w, if_neg oy_10, if_pos w]
    exact ⟨σ1, rfl, f1⟩
  · rw [if_neg w, if_pos rfl, if_neg w]
    exact ⟨σ1, rfl, f1⟩
theorem om_rowOl (hT : oy_ok T) {e : Nat} (he : e < sp_n T) {r : Int} (hr : 1 ≤ r ∧ r ≤ 60) : ∀ (k p n : Nat) (v : Int) (σ : ox_H), oy_F T σ → p + k = sp_en T (e + 1) → 0 ≤ v → v ≤ 2147483647 → k < n → ∃ σ', ox_lp (B_Mod_rowOf_13 (e : Int) r) n (v, (p : Int), σ) = some (oy_en ((sp_tbl T k v p).bind (fun t => sp_rw T t r)), σ') ∧ oy_fr oy_sp σ σ'
  | _, _, 0, _, _, _, _, _, _, h => absurd h (Nat.not_lt_zero _)
  | 0, p, n + 1, v, σ, hF, h1, _, _, _ => by
    have h60 := hT.1
    have hn := sp_n_le (T := T)
    have e21 : σ 10 0 21 (e + 1) = (sp_en T (e + 1) : Int) := hF.2.2 (e + 1) (by omega)
    refine ⟨σ, oy_lp_m (X := some (-1, σ)) ?_, oy_fr.rf⟩
    unfold B_Mod_rowOf_13 J_Mod_rowOf_104
    dsimp only
    rw [oy_w1 (by omega), if_pos (by omega), Int.toNat_natCast, e21, if_pos (by omega)]
  | k + 1, p, n + 1, v, σ, hF, h1, h2, h3, h4 => by
    have h60 := hT.1
    have hn := sp_n_le (T := T)
    have ho := sp_en_own he
    have e21 : σ 10 0 21 (e + 1) = (sp_en T (e + 1) : Int) := hF.2.2 (e + 1) (by omega)
    obtain ⟨σ1, e1, f1⟩ := om_rowk hT hF.1 (show p < T.length by omega)
    have F1 := hF.sp f1
    rw [sp_tbl]
    by_cases q4 : sp_kind (oy_ln T p) = 4
    rotate_left
    · rw [if_neg (fun z => q4 (sp_tpv_is.mp z).1)]
      rw [if_neg q4] at e1
      obtain ⟨σ2, e2, f2⟩ := om_rowOl hT he hr k (p + 1) n v σ1 F1 (by omega) h2 h3 (by omega)
      refine ⟨σ2, (oy_lp_l (a' := (v, ((p + 1 : Nat) : Int), σ1)) ?_).trans e2, f1.tr f2⟩
      unfold B_Mod_rowOf_13 J_Mod_rowOf_98
      dsimp only
      rw [oy_w1 (by omega), if_pos (by omega), Int.toNat_natCast, e21, if_neg (by omega), e1, Option.bind_some, if_pos rfl, oy_w1 (by omega)]
    rw [if_pos q4] at e1
    obtain ⟨σ2, e2, f2⟩ := om_top hT F1.1 (show p ≤ T.length by omega)
    have F2 := F1.sp f2
    by_cases q : sp_tpv T p = (p : Int)
    · have ht := (sp_tpv_is.mp q).2
      rw [if_pos q]
      by_cases q0 : v = 0
      · rw [if_pos q0]
        obtain ⟨σ3, e3, f3⟩ := om_row51 hT F2 he (show p < sp_en T (e + 1) by omega) q hr
        refine ⟨σ3, oy_lp_m (X := some (oy_en ((some p).bind (fun t => sp_rw T t r)), σ3)) ?_, f1.tr (f2.tr f3)⟩
        unfold B_Mod_rowOf_13
        dsimp only
        rw [oy_w1 (by omega), if_pos (by omega), Int.toNat_natCast, e21, if_neg (by omega), e1, Option.bind_some, if_neg oy_10, e2, Option.bind_some, ht, if_pos rfl, if_pos q0, e3]
        rfl
      · rw [if_neg q0]
        obtain ⟨σ3, e3, f3⟩ := om_rowOl hT he hr k (p + 1) n (v - 1) σ2 F2 (by omega) (by omega) (by omega) (by omega)
        have ev : ox_w (v + (-1)) = v - 1 := by rw [oy_w (by omega) (by omega)]; omega
        refine ⟨σ3, (oy_lp_l (a' := (v - 1, ((p + 1 : Nat) : Int), σ2)) ?_).trans e3, f1.tr (f2.tr f3)⟩
        unfold B_Mod_rowOf_13 J_Mod_rowOf_98
        dsimp only
        rw [oy_w1 (by omega), if_pos (by omega), Int.toNat_natCast, e21, if_neg (by omega), e1, Option.bind_some, if_neg oy_10, e2, Option.bind_some, ht, if_pos rfl, if_neg q0, ev, oy_w1 (by omega)]
    · have ht : ¬ sp_top T p = p := fun z => q (sp_tpv_is.mpr ⟨q4, z⟩)
      rw [if_neg q]
      obtain ⟨σ3, e3, f3⟩ := om_rowOl hT he hr k (p + 1) n v σ2 F2 (by omega) h2 h3 (by omega)
      refine ⟨σ3, (oy_lp_l (a' := (v, ((p + 1 : Nat) : Int), σ2)) ?_).trans e3, f1.tr (f2.tr f3)⟩
      unfold B_Mod_rowOf_13 J_Mod_rowOf_98
      dsimp only
      rw [oy_w1 (by omega), if_pos (by omega), Int.toNat_natCast, e21, if_neg (by omega), e1, Option.bind_some, if_neg oy_10, e2, Option.bind_some, if_neg (show ¬ (sp_top T p : Int) = (p : Int) by omega), oy_w1 (by omega)]
theorem om_rowOf (hT : oy_ok T) (hF : oy_F T σ) {e : Nat} (he : e < sp_n T) {b r : Int} (hb : 0 ≤ b ∧ b ≤ 2147483647) (hr : 1 ≤ r ∧ r ≤ 60) : ∃ σ', F_Mod_rowOf (e : Int) b r σ = some (oy_en (sp_cll T e b r), σ') ∧ oy_fr oy_sp σ σ' := by
  have h60 := hT.1
  have hn := sp_n_le (T := T)
  have ho := sp_en_own he
  have e21 : σ 10 0 21 e = (sp_en T e : Int) := hF.2.2 e (by omega)
  obtain ⟨σ', e1, f1⟩ := om_rowOl hT he hr (sp_en T (e + 1) - (sp_en T e + 1)) (sp_en T e + 1) ox_fu b σ hF (by omega) hb.1 hb.2 (by show sp_en T (e + 1) - (sp_en T e + 1) < 100000; omega)
  have hk : ¬ sp_tpv T (sp_en T e) = (sp_en T e : Int) := fun z => by
    have h1 := (sp_tpv_is.mp z).1
    have h2 := sp_kind_H.mpr (sp_en_lt he).2
    unfold sp_eln at h2
    omega
  have et : sp_tbl T (sp_en T (e + 1) - sp_en T e) b (sp_en T e) = sp_tbl T (sp_en T (e + 1) - (sp_en T e + 1)) b (sp_en T e + 1) := by
    rw [show sp_en T (e + 1) - sp_en T e = (sp_en T (e + 1) - (sp_en T e + 1)) + 1 by omega, sp_tbl, if_neg hk]
  refine ⟨σ', ?_, f1⟩
  unfold F_Mod_rowOf J_Mod_rowOf_13 sp_cll
  rw [if_pos (by omega), Int.toNat_natCast, e21, oy_w1 (by omega), et]
  exact e1
end OYL2
