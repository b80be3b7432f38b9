/-! ===== the reference: tables, code lines, whose a line is ===== -/
theorem sp_top_rows {T : oy_T} : ∀ {l q : Nat}, sp_top T l ≤ q → q < l → sp_kind (oy_ln T q) = 4
  | 0, _, _, h => absurd h (Nat.not_lt_zero _)
  | l + 1, q, h1, h2 => by
    rw [sp_top] at h1
    by_cases z : sp_kind (oy_ln T l) = 4
    · rw [if_pos z] at h1
      by_cases e : q = l
      · rw [e]
        exact z
      · exact sp_top_rows h1 (by omega)
    · rw [if_neg z] at h1
      omega
theorem sp_top_eq {T : oy_T} {p : Nat} : ∀ (k : Nat), (∀ q, p ≤ q → q < p + k → sp_kind (oy_ln T q) = 4) → sp_top T (p + k) = sp_top T p
  | 0, _ => rfl
  | k + 1, h => by
    have e : p + (k + 1) = (p + k) + 1 := rfl
    rw [e, sp_top, if_pos (h (p + k) (by omega) (by omega))]
    exact sp_top_eq k (fun q q1 q2 => h q q1 (by omega))
theorem sp_top_gt {T : oy_T} {q : Nat} (hq : ¬ sp_kind (oy_ln T q) = 4) : ∀ {r : Nat}, q < r → q < sp_top T r
  | 0, h => absurd h (Nat.not_lt_zero _)
  | r + 1, h => by
    rw [sp_top]
    by_cases z : sp_kind (oy_ln T r) = 4
    · rw [if_pos z]
      by_cases e : q = r
      · rw [e] at hq
        exact absurd z hq
      · exact sp_top_gt hq (by omega)
    · rw [if_neg z]
      omega
/-- lines from a on are rows -/
def sp_ist (T : oy_T) : Nat → Nat → Bool
  | 0, _ => true
  | k + 1, a => decide (sp_kind (oy_ln T a) = 4) && sp_ist T k (a + 1)
theorem sp_ist_iff {T : oy_T} : ∀ (k a : Nat), sp_ist T k a = true ↔ ∀ q, a ≤ q → q < a + k → sp_kind (oy_ln T q) = 4
  | 0, a => ⟨fun _ q h1 h2 => absurd h1 (by omega), fun _ => rfl⟩
  | k + 1, a => by
    rw [sp_ist, Bool.and_eq_true, decide_eq_true_eq, sp_ist_iff k (a + 1)]
    constructor
    · rintro ⟨h1, h2⟩ q h3 h4
      by_cases e : q = a
      · rw [e]
        exact h1
      · exact h2 q (by omega) (by omega)
    · intro h
      exact ⟨h a (by omega) (by omega), fun q h3 h4 => h q (by omega) (by omega)⟩
/-- the row asked for is above, or below in the same table, or is none -/
theorem sp_rw_up {T : oy_T} {l : Nat} {n : Int} (h4 : sp_kind (oy_ln T l) = 4) (hl : l < 60) (hn : 1 ≤ n ∧ n ≤ 60) (hr : sp_top T l + n.toNat - 1 ≤ l) : sp_rw T l n = some (sp_top T l + n.toNat - 1) := by
  have htl := sp_top_le T l
  refine if_pos ⟨hn.1, hn.2, h4, by omega, ?_, ?_⟩
  · by_cases e : sp_top T l + n.toNat - 1 = l
    · rw [e]
      exact h4
    · exact sp_top_rows (l := l) (by omega) (by omega)
  · have h1 := sp_top_eq (T := T) (p := sp_top T l + n.toNat - 1) (l - (sp_top T l + n.toNat - 1)) (fun q q1 q2 => sp_top_rows (l := l) (by omega) (by omega))
    rw [show sp_top T l + n.toNat - 1 + (l - (sp_top T l + n.toNat - 1)) = l by omega] at h1
    exact h1.symm
theorem sp_rw_dn {T : oy_T} {l : Nat} {n : Int} (h4 : sp_kind (oy_ln T l) = 4) (hn : 1 ≤ n ∧ n ≤ 60) (hr : l < sp_top T l + n.toNat - 1) (h60 : sp_top T l + n.toNat - 1 < 60) : sp_rw T l n = if sp_ist T (sp_top T l + n.toNat - 1 + 1 - l) l = true then some (sp_top T l + n.toNat - 1) else none := by
  have htl := sp_top_le T l
  by_cases q : sp_ist T (sp_top T l + n.toNat - 1 + 1 - l) l = true
  · rw [if_pos q]
    have h := (sp_ist_iff _ _).mp q
    refine if_pos ⟨hn.1, hn.2, h4, h60, h _ (by omega) (by omega), ?_⟩
    have h1 := sp_top_eq (T := T) (p := l) (sp_top T l + n.toNat - 1 - l) (fun q q1 q2 => h q q1 (by omega))
    rw [show l + (sp_top T l + n.toNat - 1 - l) = sp_top T l + n.toNat - 1 by omega] at h1
    exact h1
  · rw [if_neg q]
    refine if_neg (fun z => q ((sp_ist_iff _ _).mpr (fun p p1 p2 => ?_)))
    by_cases e : sp_kind (oy_ln T p) = 4
    · exact e
    exfalso
    by_cases e2 : p = sp_top T l + n.toNat - 1
    · rw [e2] at e
      exact e z.2.2.2.2.1
    · have h1 := sp_top_gt e (r := sp_top T l + n.toNat - 1) (by omega)
      have h2 := z.2.2.2.2.2
      omega
theorem sp_kind_c {w : List Int} : sp_kind w = 5 ↔ sp_code w = true := by
  constructor
  · exact sp_kind_5
  · intro h
    have hc := h
    unfold sp_code at hc
    rw [Bool.and_eq_true, decide_eq_true_eq, decide_eq_true_eq] at hc
    rw [sp_kind_123 hc.1.1, if_pos h]
theorem sp_en_ow {T : oy_T} {l e : Nat} (hl : l < T.length) (he : e < sp_n T) : sp_en T e ≤ l ↔ e < (sp_esn T (l + 1)).length := by
  constructor
  · intro h
    obtain ⟨h1, h2⟩ := sp_en_lt he
    obtain ⟨h3, h4⟩ := sp_en_at h1 h2
    have h5 : (sp_esn T (sp_en T e)).length = e := by
      by_cases q : (sp_esn T (sp_en T e)).length < e
      · have := sp_en_lt3 (T := T) (j := e) q (by omega)
        omega
      by_cases q2 : e < (sp_esn T (sp_en T e)).length
      · have := sp_en_lt3 (T := T) (j := (sp_esn T (sp_en T e)).length) q2 (by omega)
        omega
      · omega
    have h6 : (sp_esn T (sp_en T e + 1)).length = (sp_esn T (sp_en T e)).length + 1 := by
      rw [sp_esn, if_pos (show sp_isH (oy_ln T (sp_en T e)) from h2), List.length_append]
      rfl
    have h7 := (sp_esn_pre T 0 (l - sp_en T e) (sp_en T e + 1) e (by omega)).1
    rw [show sp_en T e + 1 + (l - sp_en T e) = l + 1 by omega] at h7
    exact h7
  · intro h
    have h1 := (sp_en_pre (T := T) (l := l + 1) (by omega) h).2
    have h2 := (sp_esn_in T (l + 1) _ (oy_getD_lt (d := T.length) h)).1
    omega
section OYJ2
variable {T : oy_T} {σ : ox_H}
theorem om_rowk (hT : oy_ok T) (hM : oy_M T σ) {l : Nat} (hl : l < T.length) : ∃ σ', F_Mod_row (l : Int) σ = some (if sp_kind (oy_ln T l) = 4 then 1 else 0, σ') ∧ oy_fr oy_sp σ σ' := by
  obtain ⟨a, e⟩ := om_row hT hM hl
  refine ⟨oy_at σ a, ?_, oy_fr.rf.up rfl⟩
  rw [e]
  by_cases q : sp_row (oy_ln T l) = true
  · rw [if_pos q, if_pos (sp_kind_4.mpr q)]
  · rw [if_neg q, if_neg (fun z => q (sp_kind_4.mp z))]
theorem om_topl (hT : oy_ok T) : ∀ (l n : Nat) (σ : ox_H), oy_M T σ → l ≤ T.length → l < n → ∃ σ', ox_lp B_Mod_top_2 n ((l : Int), σ) = some ((sp_top T l : Int), σ') ∧ oy_fr oy_sp σ σ'
  | _, 0, _, _, _, h => absurd h (Nat.not_lt_zero _)
  | 0, n + 1, σ, _, _, _ => by
    refine ⟨σ, oy_lp_m (X := some (((0 : Nat) : Int), σ)) ?_, oy_fr.rf⟩
    unfold B_Mod_top_2 J_Mod_top_22
    dsimp only
    rw [if_pos (by decide)]
  | l + 1, n + 1, σ, hM, h1, h2 => by
    have h60 := hT.1
    obtain ⟨σ1, e1, f1⟩ := om_rowk hT hM (show l < T.length by omega)
    rw [sp_top]
    have ew : ox_w (((l + 1 : Nat) : Int) - 1) = (l : Int) := by rw [oy_w (by omega) (by omega)]; omega
    have ew2 : ox_w (((l + 1 : Nat) : Int) + (-1)) = (l : Int) := by rw [oy_w (by omega) (by omega)]; omega
    by_cases q : sp_kind (oy_ln T l) = 4
    · rw [if_pos q] at e1 ⊢
      obtain ⟨σ2, e2, f2⟩ := om_topl hT l n σ1 (hM.fr f1 rfl rfl rfl) (by omega) (by omega)
      refine ⟨σ2, (oy_lp_l (a' := ((l : Int), σ1)) ?_).trans e2, f1.tr f2⟩
      unfold B_Mod_top_2
      dsimp only
      rw [if_neg (by omega), ew, e1, Option.bind_some, if_neg oy_10, ew2]
    · rw [if_neg q] at e1 ⊢
      refine ⟨σ1, oy_lp_m (X := some (((l + 1 : Nat) : Int), σ1)) ?_, f1⟩
      unfold B_Mod_top_2 J_Mod_top_22
      dsimp only
      rw [if_neg (by omega), ew, e1, Option.bind_some, if_pos rfl]
theorem om_top (hT : oy_ok T) (hM : oy_M T σ) {l : Nat} (hl : l ≤ T.length) : ∃ σ', F_Mod_top (l : Int) σ = some ((sp_top T l : Int), σ') ∧ oy_fr oy_sp σ σ' := by
  have h60 := hT.1
  exact om_topl hT l ox_fu σ hM hl (by show l < 100000; omega)
theorem om_istl (hT : oy_ok T) {r : Nat} (hr : r < T.length) : ∀ (k a n : Nat) (v : Bool) (σ : ox_H), oy_M T σ → a + k = r + 1 → k < n → ∃ σ', ox_lp (B_Mod_isTable_5 (r : Int)) n ((if v = true then 1 else 0), (a : Int), σ) = some ((if (v && sp_ist T k a) = true then 1 else 0), σ') ∧ oy_fr oy_sp σ σ'
  | _, _, 0, _, _, _, _, h => absurd h (Nat.not_lt_zero _)
  | 0, a, n + 1, v, σ, _, h1, _ => by
    rw [sp_ist, Bool.and_true]
    refine ⟨σ, oy_lp_m (X := some ((if v = true then 1 else 0), σ)) ?_, oy_fr.rf⟩
    unfold B_Mod_isTable_5 J_Mod_isTable_26
    dsimp only
    rw [if_pos (by omega)]
    cases v <;> rfl
  | k + 1, a, n + 1, v, σ, hM, h1, h2 => by
    have h60 := hT.1
    obtain ⟨σ1, e1, f1⟩ := om_rowk hT hM (show a < T.length by omega)
    obtain ⟨σ2, e2, f2⟩ := om_istl hT hr k (a + 1) n (v && decide (sp_kind (oy_ln T a) = 4)) σ1 (hM.fr f1 rfl rfl rfl) (by omega) (by omega)
    rw [sp_ist, ← Bool.and_assoc]
    refine ⟨σ2, (oy_lp_l (a' := ((if (v && decide (sp_kind (oy_ln T a) = 4)) = true then 1 else 0), ((a + 1 : Nat) : Int), σ1)) ?_).trans e2, f1.tr f2⟩
    unfold B_Mod_isTable_5
    dsimp only
    rw [if_neg (by omega), e1, Option.bind_some, oy_w1 (by omega)]
    have ev : ox_and (if v = true then 1 else 0) (if sp_kind (oy_ln T a) = 4 then 1 else 0) = (if (v && decide (sp_kind (oy_ln T a) = 4)) = true then 1 else 0) := by
      by_cases q : sp_kind (oy_ln T a) = 4
      · rw [if_pos q, decide_eq_true q, Bool.and_true]
        cases v
        · exact oy_and01
        · exact oy_and11
      · rw [if_neg q, decide_eq_false q, Bool.and_false]
        cases v
        · exact oy_and00
        · exact oy_and10
    rw [ev]
theorem om_isTable (hT : oy_ok T) (hM : oy_M T σ) {a r : Nat} (hr : r < T.length) (ha : a ≤ r) : ∃ σ', F_Mod_isTable (a : Int) (r : Int) σ = some ((if sp_ist T (r + 1 - a) a = true then 1 else 0), σ') ∧ oy_fr oy_sp σ σ' := by
  have h60 := hT.1
  exact om_istl hT hr (r + 1 - a) a ox_fu true σ hM (by omega) (by show r + 1 - a < 100000; omega)
theorem om_codel (hT : oy_ok T) {x : Int} : ∀ (k p n : Nat) (σ : ox_H), oy_M T σ → p + k = T.length → k < n → ∃ σ', ox_lp (B_Mod_codeOf_2 (97 + x)) n ((p : Int), σ) = some (oy_en (sp_bf T x k p), σ') ∧ oy_fr oy_sp σ σ'
  | _, _, 0, _, _, _, h => absurd h (Nat.not_lt_zero _)
  | 0, p, n + 1, σ, hM, h1, _ => by
    refine ⟨σ, oy_lp_m (X := some (-1, σ)) ?_, oy_fr.rf⟩
    unfold B_Mod_codeOf_2 J_Mod_codeOf_34 J_Mod_codeOf_47
    dsimp only
    rw [hM.1, if_pos (by omega), if_pos (by omega)]
  | k + 1, p, n + 1, σ, hM, h1, h2 => by
    have h60 := hT.1
    obtain ⟨a, e1⟩ := om_code hT hM (show p < T.length by omega)
    have M1 : oy_M T (oy_at σ a) := oy_at_M hM
    have f1 : oy_fr oy_sp σ (oy_at σ a) := oy_fr.rf.up rfl
    have e2 := om_look (p := 1) hT M1 (show p < T.length by omega) (by decide)
    rw [sp_bf]
    by_cases q : sp_kind (oy_ln T p) = 5 ∧ oy_wk (oy_ln T p) 1 - 97 = x
    · rw [if_pos q]
      rw [if_pos (sp_kind_c.mp q.1)] at e1
      refine ⟨oy_at σ a, oy_lp_m (X := some ((p : Int), oy_at σ a)) ?_, f1⟩
      unfold B_Mod_codeOf_2 J_Mod_codeOf_34 J_Mod_codeOf_47
      dsimp only
      rw [hM.1, if_neg (by omega), e1, Option.bind_some, if_neg (show ¬ ((1 : Int) = 0) by decide)]
      refine (congrArg (fun o => Option.bind o _) e2).trans ?_
      have eM : (1, oy_at σ a).snd 10 0 2 0 = ((T.length : Nat) : Int) := M1.1
      rw [Option.bind_some, if_pos (by omega), if_neg (show ¬ (1, oy_at σ a).snd 10 0 2 0 ≤ (p : Int) by rw [eM]; omega)]
    · rw [if_neg q]
      obtain ⟨σ2, e3, f2⟩ := om_codel hT k (p + 1) n (oy_at σ a) M1 (by omega) (by omega)
      refine ⟨σ2, (oy_lp_l (a' := (((p + 1 : Nat) : Int), oy_at σ a)) ?_).trans e3, f1.tr f2⟩
      unfold B_Mod_codeOf_2 J_Mod_codeOf_28
      dsimp only
      rw [hM.1, if_neg (by omega), e1, Option.bind_some]
      by_cases z : sp_code (oy_ln T p) = true
      · rw [if_pos z, if_neg (show ¬ ((1 : Int) = 0) by decide)]
        refine (congrArg (fun o => Option.bind o _) e2).trans ?_
        rw [Option.bind_some, if_neg (fun y => q ⟨sp_kind_c.mpr z, by omega⟩), oy_w1 (by omega)]
      · rw [if_neg z, if_pos rfl, oy_w1 (by omega)]
theorem om_codeOf (hT : oy_ok T) (hM : oy_M T σ) (x : Int) : ∃ σ', F_Mod_codeOf (97 + x) σ = some (oy_en (sp_bk T x), σ') ∧ oy_fr oy_sp σ σ' := by
  have h60 := hT.1
  exact om_codel hT T.length 0 ox_fu σ hM (Nat.zero_add _) (by show T.length < 100000; omega)
theorem om_ownl (hT : oy_ok T) (hF : oy_F T σ) {l : Nat} (hl : l < T.length) : ∀ (e n : Nat), e ≤ sp_n T → (sp_esn T (l + 1)).length ≤ e → e < n → ox_lp (B_Mod_entryOf_7 (l : Int) σ) n ((e : Int) - 1) = some (((sp_esn T (l + 1)).length : Int) - 1)
  | _, 0, _, _, h => absurd h (Nat.not_lt_zero _)
  | 0, n + 1, _, h1, _ => by
    refine oy_lp_m (X := some (((0 : Nat) : Int) - 1)) ?_ |>.trans ?_
    · unfold B_Mod_entryOf_7 J_Mod_entryOf_27
      rw [if_pos (by decide)]
    · rw [show (sp_esn T (l + 1)).length = 0 by omega]
  | e + 1, n + 1, h0, h1, h2 => by
    have h60 := hT.1
    have hn := sp_n_le (T := T)
    have ow := sp_en_ow hl (show e < sp_n T by omega)
    have ee := hF.2.2 e (by omega)
    have ep : ((e + 1 : Nat) : Int) - 1 = (e : Int) := by omega
    rw [ep]
    by_cases q : e < (sp_esn T (l + 1)).length
    · have q2 := ow.mpr q
      refine oy_lp_m (X := some (e : Int)) ?_ |>.trans ?_
      · unfold B_Mod_entryOf_7 J_Mod_entryOf_27
        rw [if_neg (by omega), if_pos (by omega), Int.toNat_natCast, ee, if_pos (by omega)]
      · rw [show (sp_esn T (l + 1)).length = e + 1 by omega]
        congr 1
        omega
    · have q2 : ¬ sp_en T e ≤ l := fun z => q (ow.mp z)
      refine (oy_lp_l (a' := (e : Int) - 1) ?_).trans (om_ownl hT hF hl e n (by omega) (by omega) (by omega))
      unfold B_Mod_entryOf_7
      rw [if_neg (by omega), if_pos (by omega), Int.toNat_natCast, ee, if_neg (by omega), oy_w (by omega) (by omega)]
      rfl
theorem om_entryOf (hT : oy_ok T) (hF : oy_F T σ) {l : Nat} (hl : l < T.length) : F_Mod_entryOf (l : Int) σ = some (((sp_esn T (l + 1)).length : Int) - 1) := by
  have h60 := hT.1
  have hn := sp_n_le (T := T)
  have hm : (sp_esn T (l + 1)).length ≤ sp_n T := by
    by_cases q : (sp_esn T (l + 1)).length = 0
    · omega
    · have := sp_esn_n hl q
      omega
  unfold F_Mod_entryOf J_Mod_entryOf_7
  rw [hF.2.1, oy_w (by omega) (by omega)]
  exact om_ownl hT hF hl (sp_n T) ox_fu (Nat.le_refl _) hm (by show sp_n T < 100000; omega)
end OYJ2
