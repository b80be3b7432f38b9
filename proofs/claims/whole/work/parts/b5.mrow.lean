/-! ===== the reference reads: sums, rows, code; kinds ===== -/
abbrev sp_jn (x : Int) : Prop := x = 43 ∨ x = 45 ∨ x = 42
/-- the end of a term that begins at a place -/
def sp_term (w : List Int) (a : Nat) : Option Nat :=
  if sp_dg (oy_wk w a) then some (sp_nu w a).1
  else if oy_wk w a = 83 then (if 97 ≤ oy_wk w (a + 1) ∧ oy_wk w (a + 1) ≤ 101 then some (a + 2) else none)
  else if oy_wk w a = 40 then (if sp_lt (oy_wk w (a + 1)) ∧ oy_wk w (a + 2) = 41 then some (a + 3) else none)
  else if oy_wk w a = 58 then (if sp_lt (oy_wk w (a + 1)) then some (a + 2) else none)
  else if (97 ≤ oy_wk w a ∧ oy_wk w a ≤ 101) ∧ (49 ≤ oy_wk w (a + 1) ∧ oy_wk w (a + 1) ≤ 57) then some (a + 2) else none
/-- the end of a sum that begins at a place, of f terms at most -/
def sp_sum (w : List Int) : Nat → Nat → Option Nat
  | 0, _ => none
  | f + 1, a => match sp_term w a with
    | none => none
    | some e => if sp_jn (oy_wk w e) then sp_sum w f (e + 1) else some e
/-- behind a minus that may stand there -/
def sp_sg (w : List Int) (a : Nat) : Nat := if oy_wk w a = 45 then a + 1 else a
theorem sp_sg_le (w : List Int) (a : Nat) : a ≤ sp_sg w a ∧ sp_sg w a ≤ a + 1 := by unfold sp_sg; split <;> omega
/-- the end of a cell behind its '|' -/
def sp_cell (w : List Int) (a : Nat) : Option Nat :=
  if oy_wk w a = 61 then sp_sum w 6 (a + 1) else if 0 ≤ (sp_nu w (sp_sg w a)).2 then some (sp_nu w (sp_sg w a)).1 else none
theorem oy_bn {α : Type} : oy_b (none : Option α) = 0 := rfl
theorem oy_bs {α : Type} {x : α} : oy_b (some x) = 1 := rfl
/-- cells from a place on, to the end of the line -/
def sp_cells (w : List Int) : Nat → Nat → Bool
  | 0, _ => false
  | f + 1, a => if oy_wk w a = 124 then (match sp_cell w (a + 1) with | none => false | some e => sp_cells w f e) else decide (a = w.length)
def sp_row (w : List Int) : Bool := decide (oy_wk w 0 = 124) && sp_cells w 30 0
def sp_code (w : List Int) : Bool := decide (oy_wk w 0 = 123 ∧ sp_lt (oy_wk w 1) ∧ oy_wk w 2 = 125) && decide (sp_sum w 6 3 = some w.length)
theorem sp_nu_dg (w : List Int) (a : Nat) (h : sp_dg (oy_wk w a)) : a + 1 ≤ (sp_nu w a).1 ∧ 0 ≤ (sp_nu w a).2 := by
  have hn := sp_nu_in w a
  have h1 : a + 1 ≤ (sp_nu w a).1 := by
    unfold sp_nu
    show a + 1 ≤ (sp_ng w a 4 a 0).1
    rw [sp_ng, if_pos ⟨h, Or.inl rfl⟩]
    exact (sp_ng_le w a 3 (a + 1) _).1
  refine ⟨h1, ?_⟩
  have : ¬ (sp_nu w a).2 = -1 := fun q => by have := hn.2.2.2.2.mpr q; omega
  omega
theorem sp_nu_nd (w : List Int) (a : Nat) (h : ¬ sp_dg (oy_wk w a)) : sp_nu w a = (a, -1) := by
  have e : sp_ng w a 4 a 0 = (a, 0) := by rw [sp_ng, if_neg (fun q => h q.1)]
  unfold sp_nu
  rw [e]
  show (a, if a = a then (-1 : Int) else 0) = _
  rw [if_pos rfl]
theorem sp_term_ge (w : List Int) (a e : Nat) (h : sp_term w a = some e) : a + 1 ≤ e ∧ e ≤ a + 4 ∧ a < w.length := by
  have hp : ∀ x : Int, x ≠ 0 → oy_wk w a = x → a < w.length := fun x h1 h2 => by
    by_cases hh : a < w.length
    · exact hh
    · rw [oy_wk_ge (by omega)] at h2; exact absurd h2.symm h1
  unfold sp_term at h
  by_cases h1 : sp_dg (oy_wk w a)
  · rw [if_pos h1] at h
    cases h
    have := sp_nu_in w a
    have := sp_nu_dg w a h1
    have h11 := h1.1
    exact ⟨by omega, by omega, hp (oy_wk w a) (by omega) rfl⟩
  rw [if_neg h1] at h
  by_cases h2 : oy_wk w a = 83
  · rw [if_pos h2] at h
    split at h
    · cases h; exact ⟨by omega, by omega, hp 83 (by decide) h2⟩
    · cases h
  rw [if_neg h2] at h
  by_cases h3 : oy_wk w a = 40
  · rw [if_pos h3] at h
    split at h
    · cases h; exact ⟨by omega, by omega, hp 40 (by decide) h3⟩
    · cases h
  rw [if_neg h3] at h
  by_cases h4 : oy_wk w a = 58
  · rw [if_pos h4] at h
    split at h
    · cases h; exact ⟨by omega, by omega, hp 58 (by decide) h4⟩
    · cases h
  rw [if_neg h4] at h
  split at h
  · rename_i h5
    have := h5.1.1
    cases h; exact ⟨by omega, by omega, hp (oy_wk w a) (by omega) rfl⟩
  · cases h
theorem oy_m1 : (1 : Int) % 2 = 1 := by decide
theorem oy_m0 : (0 : Int) % 2 = 0 := by decide
section OYB5
variable {T : oy_T} {σ : ox_H} {l : Nat}
theorem om_term (hT : oy_ok T) (hM : oy_M T σ) (hl : l < T.length) {a : Nat} (ha : a ≤ 100) : ∃ a', F_Mod_term (l : Int) (oy_at σ a) = some (oy_b (sp_term (oy_ln T l) a), oy_at σ a') ∧ ∀ e, sp_term (oy_ln T l) a = some e → a' = e := by
  have hM1 := oy_at_M (a := a) hM
  have w1 : ox_w ((a : Int) + 1) = ((a + 1 : Nat) : Int) := oy_w1 (by omega)
  have w2 : ox_w (((a + 1 : Nat) : Int) + 1) = ((a + 2 : Nat) : Int) := oy_w1 (by omega)
  have w3 : ox_w (((a + 2 : Nat) : Int) - 1) = ((a + 1 : Nat) : Int) := by rw [oy_w (by omega) (by omega)]; omega
  unfold F_Mod_term J_Mod_term_106 J_Mod_term_107
  rw [oy_at_get, om_look hT hM1 hl (by omega), Option.bind_some, om_dg, Option.bind_some, w1, w2, w3, oy_at_up, oy_at_up]
  by_cases h1 : sp_dg (oy_wk (oy_ln T l) a)
  · rw [if_pos h1, if_neg oy_10, om_number hT hM hl (by omega), Option.bind_some]
    have h9 := (sp_nu_dg _ _ h1).2
    have hs : sp_term (oy_ln T l) a = some (sp_nu (oy_ln T l) a).1 := by unfold sp_term; rw [if_pos h1]
    rw [hs]
    unfold J_Mod_term_31
    rw [if_neg (by omega)]
    exact ⟨_, rfl, fun e he => by cases he; rfl⟩
  rw [if_neg h1, if_pos rfl]
  by_cases h2 : oy_wk (oy_ln T l) a = 83
  · rw [if_pos h2, om_look hT (oy_at_M hM) hl (by omega), Option.bind_some, om_in, Option.bind_some]
    by_cases h3 : 97 ≤ oy_wk (oy_ln T l) (a + 1) ∧ oy_wk (oy_ln T l) (a + 1) ≤ 101
    · have hs : sp_term (oy_ln T l) a = some (a + 2) := by unfold sp_term; rw [if_neg h1, if_pos h2, if_pos h3]
      rw [if_pos h3, hs]
      exact ⟨_, rfl, fun e he => by cases he; rfl⟩
    · have hs : sp_term (oy_ln T l) a = none := by unfold sp_term; rw [if_neg h1, if_pos h2, if_neg h3]
      rw [if_neg h3, hs]
      exact ⟨_, rfl, fun e he => by cases he⟩
  rw [if_neg h2]
  by_cases h4 : oy_wk (oy_ln T l) a = 40
  · rw [if_pos h4]
    by_cases h5 : sp_lt (oy_wk (oy_ln T l) (a + 1))
    · rw [om_le1 hT hM hl (b' := a + 2) (by omega) rfl h5, Option.bind_some, if_neg oy_10]
      by_cases h6 : oy_wk (oy_ln T l) (a + 2) = 41
      · have hs : sp_term (oy_ln T l) a = some (a + 3) := by unfold sp_term; rw [if_neg h1, if_neg h2, if_pos h4, if_pos ⟨h5, h6⟩]
        rw [om_tk1 hT hM hl (b' := a + 3) (by omega) rfl h6, Option.bind_some, if_neg oy_10, hs]
        exact ⟨_, rfl, fun e he => by cases he; rfl⟩
      · have hs : sp_term (oy_ln T l) a = none := by unfold sp_term; rw [if_neg h1, if_neg h2, if_pos h4, if_neg (fun q => h6 q.2)]
        rw [om_tk0 hT hM hl (by omega) h6, Option.bind_some, if_pos rfl, hs]
        exact ⟨_, rfl, fun e he => by cases he⟩
    · have hs : sp_term (oy_ln T l) a = none := by unfold sp_term; rw [if_neg h1, if_neg h2, if_pos h4, if_neg (fun q => h5 q.1)]
      rw [om_le0 hT hM hl (by omega) h5, Option.bind_some, if_pos rfl, hs]
      exact ⟨_, rfl, fun e he => by cases he⟩
  rw [if_neg h4]
  by_cases h5 : oy_wk (oy_ln T l) a = 58
  · rw [if_pos h5]
    by_cases h6 : sp_lt (oy_wk (oy_ln T l) (a + 1))
    · have hs : sp_term (oy_ln T l) a = some (a + 2) := by unfold sp_term; rw [if_neg h1, if_neg h2, if_neg h4, if_pos h5, if_pos h6]
      rw [om_le1 hT hM hl (b' := a + 2) (by omega) rfl h6, Option.bind_some, hs]
      exact ⟨_, rfl, fun e he => by cases he; rfl⟩
    · have hs : sp_term (oy_ln T l) a = none := by unfold sp_term; rw [if_neg h1, if_neg h2, if_neg h4, if_pos h5, if_neg h6]
      rw [om_le0 hT hM hl (by omega) h6, Option.bind_some, hs]
      exact ⟨_, rfl, fun e he => by cases he⟩
  rw [if_neg h5, om_in, Option.bind_some]
  by_cases h7 : 97 ≤ oy_wk (oy_ln T l) a ∧ oy_wk (oy_ln T l) a ≤ 101
  · rw [if_pos h7, if_neg oy_10, om_look hT (oy_at_M hM) hl (by omega), Option.bind_some, om_in, Option.bind_some]
    by_cases h8 : 49 ≤ oy_wk (oy_ln T l) (a + 1) ∧ oy_wk (oy_ln T l) (a + 1) ≤ 57
    · have hs : sp_term (oy_ln T l) a = some (a + 2) := by unfold sp_term; rw [if_neg h1, if_neg h2, if_neg h4, if_neg h5, if_pos ⟨h7, h8⟩]
      rw [if_pos h8, if_neg oy_10, hs]
      exact ⟨_, rfl, fun e he => by cases he; rfl⟩
    · have hs : sp_term (oy_ln T l) a = none := by unfold sp_term; rw [if_neg h1, if_neg h2, if_neg h4, if_neg h5, if_neg (fun q => h8 q.2)]
      rw [if_neg h8, if_pos rfl, hs]
      exact ⟨_, rfl, fun e he => by cases he⟩
  · have hs : sp_term (oy_ln T l) a = none := by unfold sp_term; rw [if_neg h1, if_neg h2, if_neg h4, if_neg h5, if_neg (fun q => h7 q.1)]
    rw [if_neg h7, if_pos rfl, hs]
    exact ⟨_, rfl, fun e he => by cases he⟩
end OYB5
theorem sp_sum_ge (w : List Int) : ∀ (f a e : Nat), sp_sum w f a = some e → a + 1 ≤ e ∧ e ≤ a + 5 * f
  | 0, _, _, h => by cases h
  | f + 1, a, e, h => by
    rw [sp_sum] at h
    cases ht : sp_term w a with
    | none => rw [ht] at h; cases h
    | some e1 =>
      rw [ht] at h
      have h1 := sp_term_ge w a e1 ht
      dsimp only at h
      by_cases hj : sp_jn (oy_wk w e1)
      · rw [if_pos hj] at h
        have h2 := sp_sum_ge w f (e1 + 1) e h
        omega
      · rw [if_neg hj] at h
        cases h
        omega
theorem sp_cell_ge (w : List Int) (a e : Nat) (h : sp_cell w a = some e) : a + 1 ≤ e ∧ e ≤ a + 40 := by
  unfold sp_cell at h
  by_cases h1 : oy_wk w a = 61
  · rw [if_pos h1] at h
    have := sp_sum_ge w 6 (a + 1) e h
    omega
  · rw [if_neg h1] at h
    have hn := sp_nu_in w (sp_sg w a)
    have hg := sp_sg_le w a
    by_cases h2 : 0 ≤ (sp_nu w (sp_sg w a)).2
    · rw [if_pos h2] at h
      have h3 : ¬ (sp_nu w (sp_sg w a)).1 = sp_sg w a := fun q => by
        have := hn.2.2.2.2.mp q
        omega
      have h4 := Option.some.inj h
      omega
    · rw [if_neg h2] at h
      cases h
section OYB5b
variable {T : oy_T} {σ : ox_H} {l : Nat}
theorem om_suml (hT : oy_ok T) (hM : oy_M T σ) (hl : l < T.length) : ∀ (f n a : Nat), f ≤ 6 → a + 5 * f ≤ 90 → f + 1 < n → ∃ a', ox_lp (B_Mod_sum_4 (l : Int)) n (((6 - f : Nat) : Int), 1, oy_at σ a) = some (oy_b (sp_sum (oy_ln T l) f a), oy_at σ a') ∧ ∀ e, sp_sum (oy_ln T l) f a = some e → a' = e
  | _, 0, _, _, _, h => absurd h (Nat.not_lt_zero _)
  | 0, n + 1, a, h1, h2, h3 => by
    refine ⟨a, oy_lp_m ?_, fun e h => by cases h⟩
    unfold B_Mod_sum_4
    dsimp only
    rw [if_neg oy_10, if_pos (by decide)]
    rfl
  | f + 1, n + 1, a, h1, h2, h3 => by
    obtain ⟨a1, e1, q1⟩ := om_term hT hM hl (a := a) (by omega)
    have ev : ox_w (((6 - (f + 1) : Nat) : Int) + 1) = ((6 - f : Nat) : Int) := by rw [oy_w1 (by omega)]; omega
    have hB : (B_Mod_sum_4 (l : Int) (((6 - (f + 1) : Nat) : Int), 1, oy_at σ a) = if oy_b (sp_term (oy_ln T l) a) = 0 then some (.inr (0, oy_at σ a1)) else (if sp_jn (oy_wk (oy_ln T l) a1) then some (.inl (((6 - f : Nat) : Int), 1, oy_at σ (a1 + 1))) else some (.inl (((6 - f : Nat) : Int), 0, oy_at σ a1)))) ∨ 100 < a1 := by
      by_cases ha1 : 100 < a1
      · exact Or.inr ha1
      refine Or.inl ?_
      unfold B_Mod_sum_4 J_Mod_sum_59 J_Mod_sum_64 J_Mod_sum_79 J_Mod_sum_22
      dsimp only
      have w1 : ox_w ((a1 : Int) + 1) = ((a1 + 1 : Nat) : Int) := oy_w1 (by omega)
      have w0 : ox_w ((a1 : Int) + 0) = ((a1 : Nat) : Int) := by rw [Int.add_zero]; exact oy_w (by omega) (by omega)
      rw [if_neg oy_10, if_neg (by omega), e1, Option.bind_some, ev]
      dsimp only
      by_cases hz : oy_b (sp_term (oy_ln T l) a) = 0
      · rw [if_pos hz, if_pos hz]; (try rfl)
      rw [if_neg hz, if_neg hz, oy_at_get, om_look hT (oy_at_M hM) hl (by omega), Option.bind_some, w1, w0, oy_at_up, oy_at_up]
      simp only [oy_10, if_false, if_true]
      by_cases j1 : oy_wk (oy_ln T l) a1 = 43
      · rw [if_pos j1, if_pos (Or.inl j1)]
      rw [if_neg j1]
      by_cases j2 : oy_wk (oy_ln T l) a1 = 45
      · rw [if_pos j2, if_pos (Or.inr (Or.inl j2))]
      rw [if_neg j2]
      by_cases j3 : oy_wk (oy_ln T l) a1 = 42
      · rw [if_pos j3, if_pos (Or.inr (Or.inr j3))]
      · rw [if_neg j3, if_neg (fun q => q.elim j1 (fun q => q.elim j2 j3))]
    cases ht : sp_term (oy_ln T l) a with
    | none =>
      have es : sp_sum (oy_ln T l) (f + 1) a = none := by rw [sp_sum, ht]
      rw [ht] at e1
      refine ⟨a1, ?_, fun e h => by rw [es] at h; cases h⟩
      rw [es]
      refine oy_lp_m ?_
      unfold B_Mod_sum_4 J_Mod_sum_22
      dsimp only
      rw [if_neg oy_10, if_neg (by omega), e1, Option.bind_some]
      dsimp only
      rw [oy_bn, if_pos rfl]
    | some e9 =>
      have ha := q1 e9 ht
      subst ha
      have hb := sp_term_ge _ _ _ ht
      rcases hB with hB | hB
      rotate_left
      · omega
      rw [ht, oy_bs, if_neg oy_10] at hB
      by_cases hj : sp_jn (oy_wk (oy_ln T l) a1)
      · have es : sp_sum (oy_ln T l) (f + 1) a = sp_sum (oy_ln T l) f (a1 + 1) := by rw [sp_sum, ht]; exact if_pos hj
        rw [if_pos hj] at hB
        rw [es, oy_lp_l hB]
        exact om_suml hT hM hl f n (a1 + 1) (by omega) (by omega) (by omega)
      · have es : sp_sum (oy_ln T l) (f + 1) a = some a1 := by rw [sp_sum, ht]; exact if_neg hj
        rw [if_neg hj] at hB
        rw [es, oy_lp_l hB]
        obtain ⟨n, rfl⟩ : ∃ m, n = m + 1 := ⟨n - 1, by omega⟩
        refine ⟨a1, oy_lp_m ?_, fun e h => by cases h; rfl⟩
        unfold B_Mod_sum_4
        dsimp only
        rw [if_pos rfl]
        rfl
theorem om_sum (hT : oy_ok T) (hM : oy_M T σ) (hl : l < T.length) {a : Nat} (ha : a ≤ 50) : ∃ a', F_Mod_sum (l : Int) (oy_at σ a) = some (oy_b (sp_sum (oy_ln T l) 6 a), oy_at σ a') ∧ ∀ e, sp_sum (oy_ln T l) 6 a = some e → a' = e :=
  om_suml hT hM hl 6 ox_fu a (by omega) (by omega) (by show 6 + 1 < 100000; omega)
theorem om_rowl (hT : oy_ok T) (hM : oy_M T σ) (hl : l < T.length) : ∀ (f n a c : Nat), a ≤ 80 → (oy_ln T l).length < f + a → c + f ≤ 1000 → f < n → ∃ a', ox_lp (B_Mod_row_7 (l : Int)) n ((c : Int), oy_at σ a) = some (if (oy_wk (oy_ln T l) a = 124 ∨ 0 < c) ∧ sp_cells (oy_ln T l) f a = true then 1 else 0, oy_at σ a')
  | _, 0, _, _, _, _, _, h => absurd h (Nat.not_lt_zero _)
  | f, n + 1, a, c, h1, h2, h3, h4 => by
    have h24 := oy_len24 hT l
    by_cases hb : oy_wk (oy_ln T l) a = 124
    rotate_left
    · refine ⟨a, oy_lp_m ?_⟩
      unfold B_Mod_row_7 J_Mod_row_78 J_Mod_row_94 J_Mod_row_95
      dsimp only
      rw [om_tk0 hT hM hl (by omega) hb, Option.bind_some, if_pos rfl]
      dsimp only
      congr 1
      have hz : (oy_wk (oy_ln T l) a = 124 ∨ 0 < c) ∧ sp_cells (oy_ln T l) f a = true ↔ 0 < c ∧ a = (oy_ln T l).length := by
        cases f with
        | zero =>
          have hne : ¬ a = (oy_ln T l).length := by omega
          exact ⟨fun q => absurd (show false = true from q.2) (by decide), fun q => absurd q.2 hne⟩
        | succ f =>
          rw [sp_cells, if_neg hb, decide_eq_true_eq]
          exact ⟨fun q => ⟨q.1.elim (fun z => absurd z hb) id, q.2⟩, fun q => ⟨Or.inr q.1, q.2⟩⟩
      by_cases hc : (c : Int) ≤ 0
      · rw [if_pos hc, if_neg (fun q => by have := (hz.mp q).1; omega)]; rfl
      rw [if_neg hc]
      by_cases he : a = (oy_ln T l).length
      · rw [om_en1 hT hM hl he, Option.bind_some, if_neg oy_10, if_pos (hz.mpr ⟨by omega, he⟩)]; rfl
      · rw [om_en0 hT hM hl he, Option.bind_some, if_pos rfl, if_neg (fun q => he (hz.mp q).2)]; rfl
    have hal : a < (oy_ln T l).length := oy_wk_pos hT (by rw [hb]; decide)
    obtain ⟨f, rfl⟩ : ∃ g, f = g + 1 := ⟨f - 1, by omega⟩
    have ec : ox_w ((c : Int) + 1) = ((c + 1 : Nat) : Int) := oy_w1 (by omega)
    have hz : (oy_wk (oy_ln T l) a = 124 ∨ 0 < c) ∧ sp_cells (oy_ln T l) (f + 1) a = true ↔ (match sp_cell (oy_ln T l) (a + 1) with | none => false | some e => sp_cells (oy_ln T l) f e) = true := by
      rw [sp_cells, if_pos hb]
      exact ⟨fun q => q.2, fun q => ⟨Or.inl hb, q⟩⟩
    have go : ∀ e : Nat, sp_cell (oy_ln T l) (a + 1) = some e → B_Mod_row_7 (l : Int) ((c : Int), oy_at σ a) = some (.inl (((c + 1 : Nat) : Int), oy_at σ e)) → ∃ a', ox_lp (B_Mod_row_7 (l : Int)) (n + 1) ((c : Int), oy_at σ a) = some (if (oy_wk (oy_ln T l) a = 124 ∨ 0 < c) ∧ sp_cells (oy_ln T l) (f + 1) a = true then 1 else 0, oy_at σ a') := by
      intro e he hB
      have hge := sp_cell_ge _ _ _ he
      rw [he] at hz
      obtain ⟨a', e'⟩ := om_rowl hT hM hl f n e (c + 1) (by omega) (by omega) (by omega) (by omega)
      refine ⟨a', ?_⟩
      rw [oy_lp_l hB, e']
      by_cases q : sp_cells (oy_ln T l) f e = true
      · rw [if_pos ⟨Or.inr (by omega), q⟩, if_pos (hz.mpr q)]
      · rw [if_neg (fun z => q z.2), if_neg (fun z => q (hz.mp z))]
    have no : ∀ a' : Nat, sp_cell (oy_ln T l) (a + 1) = none → B_Mod_row_7 (l : Int) ((c : Int), oy_at σ a) = (some (0, oy_at σ a') : Option (Int × ox_H)).map .inr → ∃ a', ox_lp (B_Mod_row_7 (l : Int)) (n + 1) ((c : Int), oy_at σ a) = some (if (oy_wk (oy_ln T l) a = 124 ∨ 0 < c) ∧ sp_cells (oy_ln T l) (f + 1) a = true then 1 else 0, oy_at σ a') := by
      intro a' he hB
      rw [he] at hz
      refine ⟨a', ?_⟩
      rw [oy_lp_m hB, if_neg (fun z => absurd (show false = true from hz.mp z) (by decide))]
    have hB0 : B_Mod_row_7 (l : Int) ((c : Int), oy_at σ a) = (F_Mod_takes (l : Int) 61 (oy_at σ (a + 1))).bind fun r4 => (if r4.1 = 0 then ((F_Mod_look (l : Int) (r4.2 10 0 11 0) r4.2).bind fun r5 => (if r5 = 45 then (J_Mod_row_64 (l : Int) (ox_w ((c : Int) + 1)) 1 (r4.2 10 0 11 0) r4.2) else (J_Mod_row_64 (l : Int) (ox_w ((c : Int) + 1)) 0 (r4.2 10 0 11 0) r4.2))) else ((F_Mod_sum (l : Int) r4.2).bind fun r6 => (if r6.1 = 0 then ((J_Mod_row_38 r6.2).map .inr) else (some (.inl (ox_w ((c : Int) + 1), r6.2)))))) := by
      unfold B_Mod_row_7
      dsimp only
      rw [om_tk1 hT hM hl (by omega) rfl hb, Option.bind_some, if_neg oy_10]
    by_cases h61 : oy_wk (oy_ln T l) (a + 1) = 61
    · rw [om_tk1 hT hM hl (by omega) rfl h61, Option.bind_some, if_neg oy_10, ec] at hB0
      obtain ⟨a1, e1, q1⟩ := om_sum hT hM hl (a := a + 1 + 1) (by omega)
      dsimp only at hB0
      rw [e1, Option.bind_some] at hB0
      have hcell : sp_cell (oy_ln T l) (a + 1) = sp_sum (oy_ln T l) 6 (a + 1 + 1) := by unfold sp_cell; rw [if_pos h61]
      cases hs : sp_sum (oy_ln T l) 6 (a + 1 + 1) with
      | none =>
        rw [hs, oy_bn, if_pos rfl] at hB0
        exact no a1 (hcell.trans hs) hB0
      | some e =>
        rw [hs, oy_bs, if_neg oy_10] at hB0
        have := q1 e hs
        subst this
        exact go a1 (hcell.trans hs) hB0
    · rw [om_tk0 hT hM hl (by omega) h61, Option.bind_some, if_pos rfl, ec] at hB0
      dsimp only at hB0
      rw [oy_at_get, om_look hT (oy_at_M hM) hl (by omega), Option.bind_some] at hB0
      have w1 : ox_w (((a + 1 : Nat) : Int) + 1) = ((a + 1 + 1 : Nat) : Int) := oy_w1 (by omega)
      have w0 : ox_w (((a + 1 : Nat) : Int) + 0) = ((a + 1 : Nat) : Int) := by rw [Int.add_zero]; exact oy_w (by omega) (by omega)
      unfold J_Mod_row_64 J_Mod_row_76 at hB0
      rw [w1, w0, oy_at_up, oy_at_up] at hB0
      have hB1 : B_Mod_row_7 (l : Int) ((c : Int), oy_at σ a) = (F_Mod_number (l : Int) (oy_at σ (sp_sg (oy_ln T l) (a + 1)))).bind fun r2 => (if 0 ≤ r2.1 then (some (.inl (((c + 1 : Nat) : Int), r2.2))) else ((some (0, r2.2) : Option (Int × ox_H)).map .inr)) := by
        rw [hB0]
        unfold sp_sg
        by_cases h45 : oy_wk (oy_ln T l) (a + 1) = 45
        · rw [if_pos h45, if_pos h45]
        · rw [if_neg h45, if_neg h45]
      have hbn := sp_sg_le (oy_ln T l) (a + 1)
      have hnum := om_number hT hM hl (b := sp_sg (oy_ln T l) (a + 1)) (Nat.le_trans hbn.2 (Nat.le_trans (Nat.add_le_add_right h1 2) (by decide)))
      have hc9 : sp_cell (oy_ln T l) (a + 1) = if 0 ≤ (sp_nu (oy_ln T l) (sp_sg (oy_ln T l) (a + 1))).2 then some (sp_nu (oy_ln T l) (sp_sg (oy_ln T l) (a + 1))).1 else none := by unfold sp_cell; rw [if_neg h61]
      generalize sp_nu (oy_ln T l) (sp_sg (oy_ln T l) (a + 1)) = N at hnum hc9
      obtain ⟨N1, N2⟩ := N
      have hnum : F_Mod_number (l : Int) (oy_at σ (sp_sg (oy_ln T l) (a + 1))) = some (N2, oy_at σ N1) := hnum
      have hc9 : sp_cell (oy_ln T l) (a + 1) = if 0 ≤ N2 then some N1 else none := hc9
      rw [hnum, Option.bind_some] at hB1
      have hB1 : B_Mod_row_7 (l : Int) ((c : Int), oy_at σ a) = if 0 ≤ N2 then (some (.inl (((c + 1 : Nat) : Int), oy_at σ N1))) else ((some (0, oy_at σ N1) : Option (Int × ox_H)).map .inr) := hB1
      by_cases hn : 0 ≤ N2
      · rw [if_pos hn] at hB1 hc9
        exact go _ hc9 hB1
      · rw [if_neg hn] at hB1 hc9
        exact no _ hc9 hB1
theorem om_row (hT : oy_ok T) (hM : oy_M T σ) (hl : l < T.length) : ∃ a', F_Mod_row (l : Int) σ = some (if sp_row (oy_ln T l) = true then 1 else 0, oy_at σ a') := by
  have h24 := oy_len24 hT l
  obtain ⟨a', e⟩ := om_rowl hT hM hl 30 ox_fu 0 0 (by omega) (by omega) (by omega) (by show 30 < 100000; omega)
  refine ⟨a', ?_⟩
  unfold F_Mod_row J_Mod_row_7
  have e0 : ox_up σ 10 0 11 0 0 = oy_at σ 0 := rfl
  rw [e0]
  refine e.trans ?_
  congr 2
  unfold sp_row
  by_cases h : oy_wk (oy_ln T l) 0 = 124 ∧ sp_cells (oy_ln T l) 30 0 = true
  · rw [if_pos ⟨Or.inl h.1, h.2⟩, if_pos (by rw [Bool.and_eq_true, decide_eq_true_eq]; exact h)]
  · rw [if_neg (fun q => h ⟨q.1.elim id (fun z => absurd z (by omega)), q.2⟩), if_neg (by rw [Bool.and_eq_true, decide_eq_true_eq]; exact h)]
theorem om_code (hT : oy_ok T) (hM : oy_M T σ) (hl : l < T.length) : ∃ a', F_Mod_code (l : Int) σ = some (if sp_code (oy_ln T l) = true then 1 else 0, oy_at σ a') := by
  have e0 : ox_up σ 10 0 11 0 0 = oy_at σ 0 := rfl
  unfold F_Mod_code J_Mod_code_53 J_Mod_code_54
  rw [e0]
  have no : ¬ sp_code (oy_ln T l) = true → ∀ a' : Nat, ∃ a'', (some ((0 : Int) % 2, oy_at σ a') : Option (Int × ox_H)) = some (if sp_code (oy_ln T l) = true then 1 else 0, oy_at σ a'') := by
    intro h a'
    rw [if_neg h]
    exact ⟨a', rfl⟩
  by_cases h0 : oy_wk (oy_ln T l) 0 = 123
  rotate_left
  · rw [om_tk0 hT hM hl (by omega) h0, Option.bind_some, if_pos rfl]
    exact no (by unfold sp_code; rw [Bool.and_eq_true, decide_eq_true_eq]; exact fun q => h0 q.1.1) _
  rw [om_tk1 hT hM hl (b' := 1) (by omega) rfl h0, Option.bind_some, if_neg oy_10]
  by_cases h1 : sp_lt (oy_wk (oy_ln T l) 1)
  rotate_left
  · rw [om_le0 hT hM hl (by omega) h1, Option.bind_some, if_pos rfl]
    exact no (by unfold sp_code; rw [Bool.and_eq_true, decide_eq_true_eq]; exact fun q => h1 q.1.2.1) _
  rw [om_le1 hT hM hl (b' := 2) (by omega) rfl h1, Option.bind_some, if_neg oy_10]
  by_cases h2 : oy_wk (oy_ln T l) 2 = 125
  rotate_left
  · rw [om_tk0 hT hM hl (by omega) h2, Option.bind_some, if_pos rfl]
    exact no (by unfold sp_code; rw [Bool.and_eq_true, decide_eq_true_eq]; exact fun q => h2 q.1.2.2) _
  rw [om_tk1 hT hM hl (b' := 3) (by omega) rfl h2, Option.bind_some, if_neg oy_10]
  obtain ⟨a1, e1, q1⟩ := om_sum hT hM hl (a := 3) (by omega)
  dsimp only
  rw [e1, Option.bind_some]
  cases hs : sp_sum (oy_ln T l) 6 3 with
  | none =>
    rw [oy_bn, if_pos rfl]
    exact no (by unfold sp_code; rw [Bool.and_eq_true, decide_eq_true_eq, decide_eq_true_eq, hs]; exact fun q => nomatch q.2) _
  | some e =>
    have := q1 e hs
    subst this
    rw [oy_bs, if_neg oy_10]
    (try dsimp only)
    by_cases h5 : a1 = (oy_ln T l).length
    · rw [om_en1 hT hM hl h5, Option.bind_some, if_neg oy_10, if_pos (by unfold sp_code; rw [Bool.and_eq_true, decide_eq_true_eq, decide_eq_true_eq, hs, h5]; exact ⟨⟨h0, h1, h2⟩, rfl⟩)]
      exact ⟨a1, rfl⟩
    · rw [om_en0 hT hM hl h5, Option.bind_some, if_pos rfl]
      exact no (by unfold sp_code; rw [Bool.and_eq_true, decide_eq_true_eq, decide_eq_true_eq, hs]; exact fun q => h5 (Option.some.inj q.2)) _
/-- the kind of a line -/
def sp_kind (w : List Int) : Int := if sp_isH w then 0 else if (sp_prop w).isSome then 1 else if (sp_date w).isSome then 2 else if (sp_clock w).isSome then 3 else if sp_row w then 4 else if sp_code w then 5 else if w.length = 2 ∧ oy_wk w 0 = 33 ∧ sp_lt (oy_wk w 1) then 6 else 7
theorem oy_b0 {α : Type} {o : Option α} : oy_b o = 0 ↔ ¬ o.isSome = true := by cases o <;> simp [oy_b]
theorem om_kindOf (hT : oy_ok T) (hM : oy_M T σ) (hl : l < T.length) : ∃ σ', F_Mod_kindOf (l : Int) σ = some (sp_kind (oy_ln T l), σ') ∧ oy_fr oy_sp σ σ' ∧
    (sp_kind (oy_ln T l) = 0 → σ' 10 0 12 0 = sp_stars (oy_ln T l) ∧ σ' 10 0 13 0 = sp_state (oy_ln T l) (sp_stars (oy_ln T l) + 1) ∧ σ' 10 0 14 0 = sp_fr (oy_ln T l) ∧ σ' 10 0 15 0 = sp_to (oy_ln T l) ∧ σ' 10 0 16 0 = sp_tags (oy_ln T l)) ∧
    (sp_kind (oy_ln T l) = 3 → ∀ v, sp_clock (oy_ln T l) = some v → σ' 10 0 17 0 = v.1 ∧ σ' 10 0 18 0 = v.2) := by
  have h60 := hT.1
  obtain ⟨σ1, e1, f1, g1⟩ := om_heading hT hM hl
  have M1 := hM.fr f1 rfl rfl rfl
  obtain ⟨σ2, e2, f2, g2⟩ := om_prop hT M1 hl
  have M2 := M1.fr f2 rfl rfl rfl
  obtain ⟨σ3, e3, f3, g3⟩ := om_date hT M2 hl
  have M3 := M2.fr f3 rfl rfl rfl
  obtain ⟨σ4, e4, f4, g4⟩ := om_clock hT M3 hl
  have M4 := M3.fr f4 rfl rfl rfl
  obtain ⟨a5, e5⟩ := om_row hT M4 hl
  have M5 := oy_at_M (a := a5) M4
  obtain ⟨a6, e6⟩ := om_code hT M5 hl
  have M6 := oy_at_M (a := a6) M5
  have F4 := ((f1.tr f2).tr f3).tr f4
  have F6 : oy_fr oy_sp σ (oy_at (oy_at σ4 a5) a6) := (F4.tr oy_at_fr).tr oy_at_fr
  have n0 : ∀ x : Int, x ≠ 0 → x ≠ 3 → ∀ σ' : ox_H, oy_fr oy_sp σ σ' → sp_kind (oy_ln T l) = x → ∃ σ'', (some (x, σ') : Option (Int × ox_H)) = some (sp_kind (oy_ln T l), σ'') ∧ oy_fr oy_sp σ σ'' ∧
      (sp_kind (oy_ln T l) = 0 → σ'' 10 0 12 0 = sp_stars (oy_ln T l) ∧ σ'' 10 0 13 0 = sp_state (oy_ln T l) (sp_stars (oy_ln T l) + 1) ∧ σ'' 10 0 14 0 = sp_fr (oy_ln T l) ∧ σ'' 10 0 15 0 = sp_to (oy_ln T l) ∧ σ'' 10 0 16 0 = sp_tags (oy_ln T l)) ∧
      (sp_kind (oy_ln T l) = 3 → ∀ v, sp_clock (oy_ln T l) = some v → σ'' 10 0 17 0 = v.1 ∧ σ'' 10 0 18 0 = v.2) := by
    intro x h0 h3 σ' hf hk
    rw [hk]
    exact ⟨σ', rfl, hf, fun q => absurd q h0, fun q => absurd q h3⟩
  unfold F_Mod_kindOf J_Mod_kindOf_99 J_Mod_kindOf_101
  rw [e1, Option.bind_some]
  by_cases k1 : sp_isH (oy_ln T l)
  · have hk : sp_kind (oy_ln T l) = 0 := by unfold sp_kind; rw [if_pos k1]
    rw [if_pos k1, if_neg oy_10, hk]
    exact ⟨σ1, rfl, f1, fun _ => g1 k1, fun q => absurd q (by decide)⟩
  rw [if_neg k1, if_pos rfl]
  dsimp only
  rw [e2, Option.bind_some]
  by_cases k2 : (sp_prop (oy_ln T l)).isSome = true
  · rw [if_neg (fun q => oy_b0.mp q k2)]
    exact n0 1 (by decide) (by decide) σ2 (f1.tr f2) (by unfold sp_kind; rw [if_neg k1, if_pos k2])
  rw [if_pos (oy_b0.mpr k2)]
  dsimp only
  rw [e3, Option.bind_some]
  by_cases k3 : (sp_date (oy_ln T l)).isSome = true
  · rw [if_neg (fun q => oy_b0.mp q k3)]
    exact n0 2 (by decide) (by decide) σ3 ((f1.tr f2).tr f3) (by unfold sp_kind; rw [if_neg k1, if_neg k2, if_pos k3])
  rw [if_pos (oy_b0.mpr k3)]
  dsimp only
  rw [e4, Option.bind_some]
  by_cases k4 : (sp_clock (oy_ln T l)).isSome = true
  · have hk : sp_kind (oy_ln T l) = 3 := by unfold sp_kind; rw [if_neg k1, if_neg k2, if_neg k3, if_pos k4]
    rw [if_neg (fun q => oy_b0.mp q k4), hk]
    exact ⟨σ4, rfl, F4, fun q => absurd q (by decide), fun _ => g4⟩
  rw [if_pos (oy_b0.mpr k4)]
  dsimp only
  rw [e5, Option.bind_some]
  by_cases k5 : sp_row (oy_ln T l) = true
  · rw [if_pos k5, if_neg oy_10]
    exact n0 4 (by decide) (by decide) _ (F4.tr oy_at_fr) (by unfold sp_kind; rw [if_neg k1, if_neg k2, if_neg k3, if_neg k4, if_pos k5])
  rw [if_neg k5, if_pos rfl]
  dsimp only
  rw [e6, Option.bind_some]
  by_cases k6 : sp_code (oy_ln T l) = true
  · rw [if_pos k6, if_neg oy_10]
    exact n0 5 (by decide) (by decide) _ F6 (by unfold sp_kind; rw [if_neg k1, if_neg k2, if_neg k3, if_neg k4, if_neg k5, if_pos k6])
  rw [if_neg k6, if_pos rfl]
  dsimp only
  have h7 : ¬ ((oy_ln T l).length = 2 ∧ oy_wk (oy_ln T l) 0 = 33 ∧ sp_lt (oy_wk (oy_ln T l) 1)) → sp_kind (oy_ln T l) = 7 := fun h => by unfold sp_kind; rw [if_neg k1, if_neg k2, if_neg k3, if_neg k4, if_neg k5, if_neg k6, if_neg h]
  have h6 := M6.2.1 l hl
  rw [if_pos (by omega)]
  by_cases k7 : (oy_ln T l).length = 2
  rotate_left
  · rw [if_neg (by rw [Int.toNat_natCast, h6]; omega)]
    exact n0 7 (by decide) (by decide) _ F6 (h7 (fun q => k7 q.1))
  have l0 := om_look hT M6 hl (p := 0) (by omega)
  have l1 := om_look hT M6 hl (p := 1) (by omega)
  have l0' : F_Mod_look (l : Int) 0 (oy_at (oy_at σ4 a5) a6) = some (oy_wk (oy_ln T l) 0) := l0
  have l1' : F_Mod_look (l : Int) 1 (oy_at (oy_at σ4 a5) a6) = some (oy_wk (oy_ln T l) 1) := l1
  rw [if_pos (by rw [Int.toNat_natCast, h6]; omega), l0', Option.bind_some]
  by_cases k8 : oy_wk (oy_ln T l) 0 = 33
  rotate_left
  · rw [if_neg k8]
    exact n0 7 (by decide) (by decide) _ F6 (h7 (fun q => k8 q.2.1))
  rw [if_pos k8, l1', Option.bind_some, om_lt, Option.bind_some]
  by_cases k9 : sp_lt (oy_wk (oy_ln T l) 1)
  · rw [if_pos k9, if_neg oy_10]
    exact n0 6 (by decide) (by decide) _ F6 (by unfold sp_kind; rw [if_neg k1, if_neg k2, if_neg k3, if_neg k4, if_neg k5, if_neg k6, if_pos ⟨k7, k8, k9⟩])
  · rw [if_neg k9, if_pos rfl]
    exact n0 7 (by decide) (by decide) _ F6 (h7 (fun q => k9 q.2.2))
end OYB5b
