/-! ===== the reference finds a cell ===== -/
theorem sp_ng_dgs (w : List Int) (b : Nat) : ∀ (f a : Nat) (v : Int) (q : Nat), a ≤ q → q < (sp_ng w b f a v).1 → sp_dg (oy_wk w q)
  | 0, a, v, q, h1, h2 => by
    have h3 : q < a := h2
    exact absurd h3 (by omega)
  | f + 1, a, v, q, h1, h2 => by
    unfold sp_ng at h2
    split at h2
    · rename_i hc
      by_cases e : q = a
      · rw [e]
        exact hc.1
      · exact sp_ng_dgs w b f (a + 1) _ q (by omega) h2
    · have h3 : q < a := h2
      exact absurd h3 (by omega)
theorem sp_nu_dgs (w : List Int) (b q : Nat) (h1 : b ≤ q) (h2 : q < (sp_nu w b).1) : sp_dg (oy_wk w q) := sp_ng_dgs w b 4 b 0 q h1 h2
theorem sp_dg_nb {x : Int} (h : sp_dg x) : x ≠ 124 := by
  unfold sp_dg at h
  omega
theorem sp_term_nb (w : List Int) (a e : Nat) (h : sp_term w a = some e) (q : Nat) (h1 : a ≤ q) (h2 : q < e) : oy_wk w q ≠ 124 := by
  unfold sp_term at h
  by_cases e1 : sp_dg (oy_wk w a)
  · rw [if_pos e1] at h
    have e2 := Option.some.inj h
    exact sp_dg_nb (sp_nu_dgs w a q h1 (by omega))
  rw [if_neg e1] at h
  have two : ∀ x : Int, e = a + 2 → oy_wk w a ≠ 124 → oy_wk w (a + 1) ≠ 124 → oy_wk w q ≠ 124 := by
    intro _ h3 h4 h5
    by_cases z : q = a
    · rw [z]
      exact h4
    · rw [show q = a + 1 by omega]
      exact h5
  by_cases e2 : oy_wk w a = 83
  · rw [if_pos e2] at h
    by_cases e3 : 97 ≤ oy_wk w (a + 1) ∧ oy_wk w (a + 1) ≤ 101
    · rw [if_pos e3] at h
      exact two 0 (Option.some.inj h).symm (by omega) (by omega)
    · rw [if_neg e3] at h
      cases h
  rw [if_neg e2] at h
  by_cases e4 : oy_wk w a = 40
  · rw [if_pos e4] at h
    by_cases e3 : sp_lt (oy_wk w (a + 1)) ∧ oy_wk w (a + 2) = 41
    · rw [if_pos e3] at h
      have h5 := Option.some.inj h
      have h6 := e3.1
      unfold sp_lt at h6
      by_cases z : q = a
      · rw [z]
        omega
      by_cases z2 : q = a + 1
      · rw [z2]
        omega
      · rw [show q = a + 2 by omega]
        omega
    · rw [if_neg e3] at h
      cases h
  rw [if_neg e4] at h
  by_cases e5 : oy_wk w a = 58
  · rw [if_pos e5] at h
    by_cases e3 : sp_lt (oy_wk w (a + 1))
    · rw [if_pos e3] at h
      unfold sp_lt at e3
      exact two 0 (Option.some.inj h).symm (by omega) (by omega)
    · rw [if_neg e3] at h
      cases h
  rw [if_neg e5] at h
  by_cases e6 : (97 ≤ oy_wk w a ∧ oy_wk w a ≤ 101) ∧ (49 ≤ oy_wk w (a + 1) ∧ oy_wk w (a + 1) ≤ 57)
  · rw [if_pos e6] at h
    exact two 0 (Option.some.inj h).symm (by omega) (by omega)
  · rw [if_neg e6] at h
    cases h
theorem sp_sum_nb (w : List Int) : ∀ (f a e : Nat), sp_sum w f a = some e → ∀ q, a ≤ q → q < e → oy_wk w q ≠ 124
  | 0, _, _, h, _, _, _ => by cases h
  | f + 1, a, e, h, q, h1, h2 => by
    rw [sp_sum] at h
    cases ht : sp_term w a with
    | none =>
      rw [ht] at h
      cases h
    | some e1 =>
      rw [ht] at h
      dsimp only at h
      by_cases z : q < e1
      · exact sp_term_nb w a e1 ht q h1 z
      by_cases j : sp_jn (oy_wk w e1)
      · rw [if_pos j] at h
        by_cases z2 : q = e1
        · rw [z2]
          have := sp_jn_3 j
          omega
        · exact sp_sum_nb w f (e1 + 1) e h q (by omega) h2
      · rw [if_neg j] at h
        have := Option.some.inj h
        omega
theorem sp_cell_nb (w : List Int) (a e : Nat) (h : sp_cell w a = some e) (q : Nat) (h1 : a ≤ q) (h2 : q < e) : oy_wk w q ≠ 124 := by
  unfold sp_cell at h
  by_cases e1 : oy_wk w a = 61
  · rw [if_pos e1] at h
    by_cases z : q = a
    · rw [z]
      omega
    · exact sp_sum_nb w 6 (a + 1) e h q (by omega) h2
  rw [if_neg e1] at h
  by_cases e2 : 0 ≤ (sp_nu w (sp_sg w a)).2
  rotate_left
  · rw [if_neg e2] at h
    cases h
  rw [if_pos e2] at h
  have e3 := Option.some.inj h
  by_cases z : sp_sg w a ≤ q
  · exact sp_dg_nb (sp_nu_dgs w _ q z (by omega))
  · have hs := sp_sg_le w a
    have e4 : oy_wk w a = 45 := by
      by_cases y : oy_wk w a = 45
      · exact y
      · unfold sp_sg at z
        rw [if_neg y] at z
        omega
    rw [show q = a by omega]
    omega
/-- the place of a cell, behind its bar -/
def sp_cp (w : List Int) : Nat → Nat → Nat → Option Nat
  | 0, _, _ => none
  | f + 1, a, c => if oy_wk w a = 124 then (match sp_cell w (a + 1) with | none => none | some e => if c = 0 then some (a + 1) else sp_cp w f e (c - 1)) else none
theorem sp_cp_cls (w : List Int) : ∀ (f a c : Nat), (sp_cls w f a)[c]? = (sp_cp w f a c).map (sp_cel w)
  | 0, _, _ => rfl
  | f + 1, a, c => by
    rw [sp_cls, sp_cp]
    by_cases h1 : oy_wk w a = 124
    rotate_left
    · rw [if_neg h1, if_neg h1]
      rfl
    rw [if_pos h1, if_pos h1]
    cases hc : sp_cell w (a + 1) with
    | none => rfl
    | some e =>
      dsimp only
      cases c with
      | zero => rfl
      | succ c =>
        rw [if_neg (Nat.succ_ne_zero c), List.getElem?_cons_succ]
        exact sp_cp_cls w f e c
theorem sp_cp_in (w : List Int) : ∀ (f a c b : Nat), sp_cp w f a c = some b → a + 1 ≤ b ∧ ∃ e, sp_cell w b = some e
  | 0, _, _, _, h => by cases h
  | f + 1, a, c, b, h => by
    rw [sp_cp] at h
    by_cases h1 : oy_wk w a = 124
    rotate_left
    · rw [if_neg h1] at h
      cases h
    rw [if_pos h1] at h
    cases hc : sp_cell w (a + 1) with
    | none =>
      rw [hc] at h
      cases h
    | some e =>
      rw [hc] at h
      dsimp only at h
      by_cases z : c = 0
      · rw [if_pos z] at h
        cases h
        exact ⟨Nat.le_refl _, e, hc⟩
      · rw [if_neg z] at h
        have h3 := sp_cp_in w f e (c - 1) b h
        have h4 := sp_cell_ge w (a + 1) e hc
        exact ⟨by omega, h3.2⟩
section OYJ1
variable {T : oy_T} {σ : ox_H}
theorem om_skip (hT : oy_ok T) (hM : oy_M T σ) {l : Nat} (hl : l < T.length) {v : Int} : ∀ (k a n : Nat), a + k ≤ (oy_ln T l).length → (∀ q, a ≤ q → q < a + k → oy_wk (oy_ln T l) q ≠ 124) → ox_lp (B_Mod_begin_5 (l : Int) σ) (n + k) (v, (a : Int)) = ox_lp (B_Mod_begin_5 (l : Int) σ) n (v, ((a + k : Nat) : Int))
  | 0, _, _, _, _ => rfl
  | k + 1, a, n, h1, h2 => by
    have h60 := hT.1
    have h24 := oy_len24 hT l
    have e : n + (k + 1) = (n + k) + 1 := rfl
    rw [e]
    refine (oy_lp_l (a' := (v, ((a + 1 : Nat) : Int))) ?_).trans ?_
    · unfold B_Mod_begin_5 J_Mod_begin_40
      dsimp only
      rw [if_pos (by omega), Int.toNat_natCast, hM.2.1 l hl, if_neg (by omega), om_look hT hM hl (by omega), Option.bind_some, if_neg (h2 a (by omega) (by omega)), oy_w1 (by omega)]
    · rw [om_skip hT hM hl k (a + 1) n (by omega) (fun q q1 q2 => h2 q (by omega) (by omega)), show a + 1 + k = a + (k + 1) by omega]
theorem om_beginl (hT : oy_ok T) (hM : oy_M T σ) {l : Nat} (hl : l < T.length) : ∀ (f a c n : Nat), sp_cells (oy_ln T l) f a = true → a ≤ (oy_ln T l).length → c ≤ 1000 → ox_lp (B_Mod_begin_5 (l : Int) σ) (n + 30 * f + 1) ((c : Int), (a : Int)) = some (oy_en (sp_cp (oy_ln T l) f a c))
  | 0, _, _, _, h, _, _ => by cases h
  | f + 1, a, c, n, h, ha, hc => by
    have h60 := hT.1
    have h24 := oy_len24 hT l
    rw [sp_cells] at h
    rw [sp_cp]
    by_cases h1 : oy_wk (oy_ln T l) a = 124
    rotate_left
    · rw [if_neg h1, decide_eq_true_eq] at h
      rw [if_neg h1]
      refine oy_lp_m (X := some (-1)) ?_
      unfold B_Mod_begin_5 J_Mod_begin_46
      dsimp only
      rw [if_pos (by omega), Int.toNat_natCast, hM.2.1 l hl, if_pos (by omega)]
    rw [if_pos h1] at h ⊢
    have hlt := oy_wk_lt (w := oy_ln T l) (p := a) (by omega)
    cases hcl : sp_cell (oy_ln T l) (a + 1) with
    | none =>
      rw [hcl] at h
      cases h
    | some e =>
      rw [hcl] at h
      dsimp only at h ⊢
      have he := sp_cell_ge _ _ _ hcl
      have he2 := sp_cell_end _ _ _ hcl
      by_cases z : c = 0
      · rw [if_pos z]
        refine oy_lp_m (X := some (((a + 1 : Nat) : Int))) ?_
        unfold B_Mod_begin_5 J_Mod_begin_32
        dsimp only
        rw [if_pos (by omega), Int.toNat_natCast, hM.2.1 l hl, if_neg (by omega), om_look hT hM hl (by omega), Option.bind_some, if_pos h1, if_pos (by omega), oy_w1 (by omega)]
      · rw [if_neg z]
        refine (oy_lp_l (a' := (((c - 1 : Nat) : Int), ((a + 1 : Nat) : Int))) ?_).trans ?_
        · unfold B_Mod_begin_5 J_Mod_begin_40
          dsimp only
          rw [if_pos (by omega), Int.toNat_natCast, hM.2.1 l hl, if_neg (by omega), om_look hT hM hl (by omega), Option.bind_some, if_pos h1, if_neg (by omega), oy_w1 (by omega), oy_w (x := (c : Int) + (-1)) (by omega) (by omega), show (c : Int) + (-1) = ((c - 1 : Nat) : Int) by omega]
        · have en : n + 30 * (f + 1) = (n + (29 - (e - (a + 1))) + 30 * f + 1) + (e - (a + 1)) := by omega
          rw [en, om_skip hT hM hl (e - (a + 1)) (a + 1) _ (by omega) (fun q q1 q2 => sp_cell_nb _ _ _ hcl q q1 (by omega)), show a + 1 + (e - (a + 1)) = e by omega]
          exact om_beginl hT hM hl f e (c - 1) _ h he2 (by omega)
theorem om_begin (hT : oy_ok T) (hM : oy_M T σ) {l c : Nat} (hl : l < T.length) (h4 : sp_kind (oy_ln T l) = 4) (hc : c ≤ 1000) : F_Mod_begin (l : Int) (c : Int) σ = some (oy_en (sp_cp (oy_ln T l) 30 0 c)) := by
  have hr := sp_kind_4.mp h4
  unfold sp_row at hr
  rw [Bool.and_eq_true] at hr
  unfold F_Mod_begin J_Mod_begin_5
  have e : ox_fu = 99099 + 30 * 30 + 1 := rfl
  rw [e]
  exact om_beginl hT hM hl 30 0 c 99099 hr.2 (Nat.zero_le _) hc
end OYJ1
