/-! ===== the terms of a line are in range ===== -/
/-- a term's parts are in range -/
def oy_tok (t : oy_Tm) : Prop := (t.1 = 43 ∨ t.1 = 45 ∨ t.1 = 42) ∧ (0 ≤ t.2.1 ∧ t.2.1 ≤ 4) ∧ (0 ≤ t.2.2.1 ∧ t.2.2.1 ≤ 25) ∧ ((t.2.1 = 1 ∨ t.2.1 = 2) → t.2.2.1 ≤ 4) ∧ (t.2.1 = 1 → 1 ≤ t.2.2.2 ∧ t.2.2.2 ≤ 9) ∧ (t.2.1 = 0 → 0 ≤ t.2.2.2 ∧ t.2.2.2 ≤ 9999)
theorem sp_tm_tok {w : List Int} {a e : Nat} {j : Int} (h : sp_term w a = some e) (hj : j = 43 ∨ j = 45 ∨ j = 42) : oy_tok (j, sp_tm w a) := by
  unfold sp_term at h
  unfold sp_tm oy_tok
  by_cases h1 : sp_dg (oy_wk w a)
  · rw [if_pos h1]
    have h2 := sp_nu_dg w a h1
    have h3 := sp_nu_in w a
    generalize (sp_nu w a).2 = v at h2 h3
    dsimp only
    omega
  rw [if_neg h1] at h ⊢
  by_cases h2 : oy_wk w a = 83
  · rw [if_pos h2] at h ⊢
    by_cases h3 : 97 ≤ oy_wk w (a + 1) ∧ oy_wk w (a + 1) ≤ 101
    · dsimp only
      omega
    · rw [if_neg h3] at h
      cases h
  rw [if_neg h2] at h ⊢
  by_cases h4 : oy_wk w a = 40
  · rw [if_pos h4] at h ⊢
    by_cases h3 : sp_lt (oy_wk w (a + 1)) ∧ oy_wk w (a + 2) = 41
    · have h5 := h3.1
      unfold sp_lt at h5
      dsimp only
      omega
    · rw [if_neg h3] at h
      cases h
  rw [if_neg h4] at h ⊢
  by_cases h5 : oy_wk w a = 58
  · rw [if_pos h5] at h ⊢
    by_cases h3 : sp_lt (oy_wk w (a + 1))
    · have h6 := h3
      unfold sp_lt at h6
      dsimp only
      omega
    · rw [if_neg h3] at h
      cases h
  rw [if_neg h5] at h ⊢
  by_cases h6 : (97 ≤ oy_wk w a ∧ oy_wk w a ≤ 101) ∧ (49 ≤ oy_wk w (a + 1) ∧ oy_wk w (a + 1) ≤ 57)
  · dsimp only
    omega
  · rw [if_neg h6] at h
    cases h
theorem sp_jn_3 {x : Int} (h : sp_jn x) : x = 43 ∨ x = 45 ∨ x = 42 := by
  unfold sp_jn at h
  omega
theorem sp_tl_tok (w : List Int) : ∀ (f : Nat) (j : Int) (a e : Nat), sp_sum w f a = some e → (j = 43 ∨ j = 45 ∨ j = 42) → ∀ t ∈ sp_tl w f j a, oy_tok t
  | 0, _, _, _, h, _ => by cases h
  | f + 1, j, a, e, h, hj => by
    rw [sp_sum] at h
    rw [sp_tl]
    cases ht : sp_term w a with
    | none =>
      rw [ht] at h
      cases h
    | some e1 =>
      rw [ht] at h
      dsimp only at h ⊢
      intro t hm
      rcases List.mem_cons.mp hm with rfl | hm
      · exact sp_tm_tok ht hj
      by_cases q : sp_jn (oy_wk w e1)
      · rw [if_pos q] at h hm
        exact sp_tl_tok w f _ _ e h (sp_jn_3 q) t hm
      · rw [if_neg q] at hm
        exact absurd hm (List.not_mem_nil)
theorem sp_cel_tok {w : List Int} {a e : Nat} (h : sp_cell w a = some e) : ∀ t ∈ sp_cel w a, oy_tok t := by
  unfold sp_cell at h
  unfold sp_cel
  by_cases h1 : oy_wk w a = 61
  · rw [if_pos h1] at h ⊢
    exact sp_tl_tok w 6 43 (a + 1) e h (Or.inl rfl)
  rw [if_neg h1] at h ⊢
  have h3 := sp_nu_in w (sp_sg w a)
  by_cases h2 : 0 ≤ (sp_nu w (sp_sg w a)).2
  rotate_left
  · rw [if_neg h2] at h
    cases h
  intro t hm
  have e1 := List.mem_singleton.mp hm
  generalize (sp_nu w (sp_sg w a)).2 = v at h2 h3 e1
  subst e1
  unfold oy_tok
  dsimp only
  refine ⟨?_, by omega, by omega, by omega, by omega, by omega⟩
  split <;> omega
theorem sp_cls_tok (w : List Int) : ∀ (f a : Nat), ∀ cl ∈ sp_cls w f a, 1 ≤ cl.length ∧ ∀ t ∈ cl, oy_tok t
  | 0, _, _, h => absurd h (List.not_mem_nil)
  | f + 1, a, cl, h => by
    rw [sp_cls] at h
    by_cases h1 : oy_wk w a = 124
    rotate_left
    · rw [if_neg h1] at h
      exact absurd h (List.not_mem_nil)
    rw [if_pos h1] at h
    cases hc : sp_cell w (a + 1) with
    | none =>
      rw [hc] at h
      exact absurd h (List.not_mem_nil)
    | some e =>
      rw [hc] at h
      dsimp only at h
      rcases List.mem_cons.mp h with rfl | h
      · exact ⟨(sp_cel_len w (a + 1) e hc).2, sp_cel_tok hc⟩
      · exact sp_cls_tok w f e cl h
theorem sp_kind_5 {w : List Int} (h : sp_kind w = 5) : sp_code w = true := by
  unfold sp_kind at h
  by_cases q : sp_code w = true
  · exact q
  · rw [if_neg q] at h
    revert h
    split <;> (try split) <;> (try split) <;> (try split) <;> (try split) <;> (try split) <;> intro h <;> exact absurd h (by decide)
theorem sp_kind_4 {w : List Int} : sp_kind w = 4 ↔ sp_row w = true := by
  constructor
  · intro h
    unfold sp_kind at h
    by_cases q : sp_row w = true
    · exact q
    · rw [if_neg q] at h
      revert h
      split <;> (try split) <;> (try split) <;> (try split) <;> (try split) <;> (try split) <;> intro h <;> exact absurd h (by decide)
  · intro h
    rw [sp_kind_124 (sp_row_0 h), if_pos h]
theorem sp_cc_tok (w : List Int) : ∀ cl ∈ sp_cc w, 1 ≤ cl.length ∧ ∀ t ∈ cl, oy_tok t := by
  unfold sp_cc
  by_cases h4 : sp_kind w = 4
  · rw [if_pos h4]
    exact sp_cls_tok w 30 0
  rw [if_neg h4]
  by_cases h5 : sp_kind w = 5
  · rw [if_pos h5]
    have hc := sp_kind_5 h5
    unfold sp_code at hc
    rw [Bool.and_eq_true, decide_eq_true_eq, decide_eq_true_eq] at hc
    intro cl hm
    have e1 := List.mem_singleton.mp hm
    subst e1
    exact ⟨(sp_tl_len w 6 43 3 _ hc.2).2, sp_tl_tok w 6 43 3 _ hc.2 (Or.inl rfl)⟩
  · rw [if_neg h5]
    intro cl hm
    exact absurd hm (List.not_mem_nil)
/-- a cell that is there has terms, all in range -/
theorem sp_ts_tok {T : oy_T} {l c : Nat} (h : c < sp_nc T l) : 1 ≤ (sp_ts T l c).length ∧ ∀ t ∈ sp_ts T l c, oy_tok t := by
  have h' : c < (sp_cc (oy_ln T l)).length := h
  have e : sp_ts T l c = (sp_cc (oy_ln T l))[c] := by
    unfold sp_ts
    rw [List.getD_eq_getElem?_getD, List.getElem?_eq_getElem h']
    rfl
  rw [e]
  exact sp_cc_tok _ _ (List.getElem_mem h')
theorem sp_nc_ln {T : oy_T} {l c : Nat} (h : c < sp_nc T l) : l < T.length := by
  by_cases q : l < T.length
  · exact q
  · have e : oy_ln T l = [] := by
      unfold oy_ln
      rw [List.getD_eq_getElem?_getD, List.getElem?_eq_none (by omega)]
      rfl
    have h' : c < (sp_cc (oy_ln T l)).length := h
    have e2 : (sp_cc ([] : List Int)).length = 0 := by decide
    rw [e, e2] at h'
    exact absurd h' (Nat.not_lt_zero _)
theorem sp_nc_12 {T : oy_T} (hT : oy_ok T) (l : Nat) : sp_nc T l ≤ 12 := (sp_cc_len _ (oy_len24 hT l)).2
theorem sp_own_hi (T : oy_T) (e : Nat) (c : Int) : sp_own T e c ≤ 9999 := by
  unfold sp_own
  split
  · exact (sp_nu_in _ _).2.2.2.1
  · omega
theorem sp_hasf_hi (T : oy_T) (c : Int) : ∀ f e, sp_hasf T c f e ≤ 9999
  | 0, _ => by rw [sp_hasf]; omega
  | f + 1, e => by
    rw [sp_hasf]
    split
    · exact sp_own_hi T e c
    · cases hp : sp_pa T e with
      | none =>
        dsimp only
        omega
      | some p => exact sp_hasf_hi T c f p
theorem sp_op2_rg (T : oy_T) (l : Nat) (x : Int) : oy_rg (sp_op2 T l x) := by
  have h1 := sp_hasf_hi T (97 + x) ((sp_esn T (l + 1)).length - 1 + 1) ((sp_esn T (l + 1)).length - 1)
  have h2 := sp_has_in T (97 + x) ((sp_esn T (l + 1)).length - 1 + 1) ((sp_esn T (l + 1)).length - 1)
  unfold sp_op2 sp_has oy_rg
  generalize sp_hasf T (97 + x) ((sp_esn T (l + 1)).length - 1 + 1) ((sp_esn T (l + 1)).length - 1) = v at h1 h2
  split
  · omega
  · split <;> omega
theorem sp_cv_rg {T : oy_T} {f : Nat → Nat → Int} (c : Nat) : ∀ (n p : Nat) (v : Int), oy_rg v → oy_rg (sp_cv T f c n p v)
  | 0, _, _, h => h
  | n + 1, p, v, h => by
    rw [sp_cv]
    by_cases h1 : v = 1000000
    · rw [if_pos h1]
      exact h
    rw [if_neg h1]
    by_cases h4 : c < sp_nc T p
    rotate_left
    · rw [if_neg h4]
      exact sp_cv_rg c n (p + 1) v h
    rw [if_pos h4]
    by_cases h3 : f p c = 1000001 ∨ f p c = 1000000
    · rw [if_pos h3]
      exact Or.inr h3.symm
    rw [if_neg h3]
    exact sp_cv_rg c n (p + 1) _ (sp_jo_rg _ _ _).1
theorem sp_fa_rg {f : Nat → Nat → Int} (hf : ∀ l c, oy_rg (f l c)) : ∀ (o : Option Nat) (c : Nat), oy_rg (sp_fa f o c)
  | none, _ => Or.inr (Or.inl rfl)
  | some r, c => hf r c
theorem sp_tv_rg {T : oy_T} {f : Nat → Nat → Int} (hf : ∀ l c, oy_rg (f l c)) (l : Nat) {t : oy_Tm} (ht : oy_tok t) : oy_rg (sp_tv T f l t) := by
  unfold sp_tv
  by_cases h0 : t.2.1 = 0
  · rw [if_pos h0]
    have := ht.2.2.2.2.2 h0
    unfold oy_rg
    omega
  rw [if_neg h0]
  by_cases h1 : t.2.1 = 1
  · rw [if_pos h1]
    exact sp_fa_rg hf _ _
  rw [if_neg h1]
  by_cases h2 : t.2.1 = 2
  · rw [if_pos h2]
    by_cases h4 : sp_kind (oy_ln T l) = 4
    · rw [if_pos h4]
      exact sp_cv_rg _ _ _ _ (Or.inl (by omega))
    · rw [if_neg h4]
      exact Or.inr (Or.inl rfl)
  rw [if_neg h2]
  by_cases h3 : t.2.1 = 3
  · rw [if_pos h3]
    exact sp_fa_rg hf _ _
  rw [if_neg h3]
  exact sp_op2_rg T l _
