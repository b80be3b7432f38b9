/-! ===== the class reads: sums, rows, code, lines ===== -/
theorem sp_tl_len (w : List Int) : ∀ (f : Nat) (v : Int) (a e : Nat), sp_sum w f a = some e → 2 * (sp_tl w f v a).length + a ≤ e + 1 ∧ 1 ≤ (sp_tl w f v a).length
  | 0, _, _, _, h => by cases h
  | f + 1, v, a, e, h => by
    rw [sp_sum] at h
    rw [sp_tl]
    cases ht : sp_term w a with
    | none => rw [ht] at h; cases h
    | some e1 =>
      rw [ht] at h
      have h1 := sp_term_ge w a e1 ht
      dsimp only at h ⊢
      by_cases hj : sp_jn (oy_wk w e1)
      · rw [if_pos hj] at h ⊢
        have h2 := sp_tl_len w f (oy_wk w e1) (e1 + 1) e h
        rw [List.length_cons]
        omega
      · rw [if_neg hj] at h ⊢
        cases h
        show 2 * 1 + a ≤ e + 1 ∧ 1 ≤ 1
        omega
theorem sp_ng_end (w : List Int) (b : Nat) : ∀ f a v, a ≤ w.length → (sp_ng w b f a v).1 ≤ w.length
  | 0, a, v, h => h
  | f + 1, a, v, h => by
    unfold sp_ng
    split
    · rename_i hc
      have h1 := hc.1.1
      have h2 := oy_wk_lt (w := w) (p := a) (by omega)
      exact sp_ng_end w b f (a + 1) _ (by omega)
    · exact h
theorem sp_nu_end (w : List Int) (a : Nat) (h : a ≤ w.length) : (sp_nu w a).1 ≤ w.length := sp_ng_end w a 4 a 0 h
theorem sp_term_end (w : List Int) (a e : Nat) (h : sp_term w a = some e) : e ≤ w.length := by
  have h0 := (sp_term_ge w a e h).2.2
  unfold sp_term at h
  by_cases h1 : sp_dg (oy_wk w a)
  · rw [if_pos h1] at h
    cases h
    exact sp_nu_end w a (by omega)
  rw [if_neg h1] at h
  by_cases h2 : oy_wk w a = 83
  · rw [if_pos h2] at h
    split at h
    · rename_i h3
      have h4 := h3.1
      have := oy_wk_lt (w := w) (p := a + 1) (by omega)
      cases h; omega
    · cases h
  rw [if_neg h2] at h
  by_cases h3 : oy_wk w a = 40
  · rw [if_pos h3] at h
    split at h
    · rename_i h4
      have := oy_wk_lt (w := w) (p := a + 2) (by rw [h4.2]; decide)
      cases h; omega
    · cases h
  rw [if_neg h3] at h
  by_cases h4 : oy_wk w a = 58
  · rw [if_pos h4] at h
    split at h
    · rename_i h5
      have h6 := h5.1
      have := oy_wk_lt (w := w) (p := a + 1) (by omega)
      cases h; omega
    · cases h
  rw [if_neg h4] at h
  split at h
  · rename_i h5
    have h6 := h5.2.1
    have := oy_wk_lt (w := w) (p := a + 1) (by omega)
    cases h; omega
  · cases h
theorem sp_sum_end (w : List Int) : ∀ (f a e : Nat), sp_sum w f a = some e → e ≤ w.length
  | 0, _, _, h => by cases h
  | f + 1, a, e, h => by
    rw [sp_sum] at h
    cases ht : sp_term w a with
    | none => rw [ht] at h; cases h
    | some e1 =>
      rw [ht] at h
      have h1 := sp_term_end w a e1 ht
      dsimp only at h
      by_cases hj : sp_jn (oy_wk w e1)
      · rw [if_pos hj] at h
        exact sp_sum_end w f (e1 + 1) e h
      · rw [if_neg hj] at h
        cases h
        exact h1
theorem sp_cell_end (w : List Int) (a e : Nat) (h : sp_cell w a = some e) : e ≤ w.length := by
  unfold sp_cell at h
  by_cases h1 : oy_wk w a = 61
  · rw [if_pos h1] at h
    exact sp_sum_end w 6 (a + 1) e h
  · rw [if_neg h1] at h
    have hn := sp_nu_in w (sp_sg w a)
    by_cases h2 : 0 ≤ (sp_nu w (sp_sg w a)).2
    · rw [if_pos h2] at h
      have h3 := Option.some.inj h
      rw [← h3]
      refine sp_nu_end w _ ?_
      by_cases q : sp_dg (oy_wk w (sp_sg w a))
      · have h4 := q.1
        have := oy_wk_lt (w := w) (p := sp_sg w a) (by omega)
        omega
      · have h5 := sp_nu_nd w _ q
        rw [h5] at h2
        exact absurd h2 (by show ¬ (0 : Int) ≤ -1; decide)
    · rw [if_neg h2] at h
      cases h
theorem oy_cur {cs : List (List oy_Tm)} {cur : List oy_Tm} {x : oy_Tm} : (cs.flatten ++ (cur ++ [x])).length = (cs.flatten ++ cur).length + 1 := by
  rw [← List.append_assoc, List.length_append]
  rfl
section OYC6
variable {w : List Int} {l : Nat} {cs : List (List oy_Tm)}
theorem oc_suml (hl : l < 60) : ∀ (f n a : Nat) (v : Int) (cur : List oy_Tm) (σ : ox_H), oy_R w σ → σ 3 0 3 0 = (l : Int) → oy_sm l cs cur σ → 0 ≤ v ∧ v < 65536 → 2 * (cs.flatten ++ cur).length + 2 ≤ a → a ≤ 25 → f ≤ 6 → f < n →
    ∃ r τ a', ox_lp B_Rdr_takeSum_5 n (v, ((6 - f : Nat) : Int), oy_pl σ a) = some (r, oy_pl τ a') ∧ oy_fs (oy_s6 l) σ τ ∧ (sp_sum w f a = none → r = 0) ∧ ∀ e, sp_sum w f a = some e → r = 1 ∧ a' = e ∧ oy_sm l cs (cur ++ sp_tl w f v a) τ
  | _, 0, _, _, _, _, _, _, _, _, _, _, _, h => absurd h (Nat.not_lt_zero _)
  | 0, n + 1, a, v, cur, σ, hR, h3, hs, hv, ht, ha, hf, hn => by
    refine ⟨0, σ, a, oy_lp_m ?_, oy_fs.rf, fun _ => rfl, fun e h => by cases h⟩
    unfold B_Rdr_takeSum_5
    dsimp only
    rw [if_pos (by omega)]
    rfl
  | f + 1, n + 1, a, v, cur, σ, hR, h3, hs, hv, ht, ha, hf, hn => by
    have h24 := hR.1
    obtain ⟨r, τ, a1, e1, f1, g0, g1⟩ := oc_term hR h3 hl hs (a := a) hv (by omega) (fun q => by omega) (by omega)
    have hR1 := hR.fs6 f1
    have ev : ox_w (((6 - (f + 1) : Nat) : Int) + 1) = ((6 - f : Nat) : Int) := by rw [oy_w1 (by omega)]; omega
    have hB0 : B_Rdr_takeSum_5 (v, ((6 - (f + 1) : Nat) : Int), oy_pl σ a) = (if r = 0 then ((J_Rdr_takeSum_19 (oy_pl τ a1)).map .inr) else (if oy_wk w a1 = 43 then (J_Rdr_takeSum_46 (oy_wk w a1) ((6 - (f + 1) : Nat) : Int) (oy_pl τ a1)) else (if oy_wk w a1 = 45 then (J_Rdr_takeSum_46 (oy_wk w a1) ((6 - (f + 1) : Nat) : Int) (oy_pl τ a1)) else (if oy_wk w a1 = 42 then (J_Rdr_takeSum_46 (oy_wk w a1) ((6 - (f + 1) : Nat) : Int) (oy_pl τ a1)) else ((J_Rdr_takeSum_44 (oy_pl τ a1)).map .inr))))) := by
      unfold B_Rdr_takeSum_5
      dsimp only
      rw [if_neg (by omega), e1, Option.bind_some]
      dsimp only
      rw [oc_peek hR1, Option.bind_some]
    cases hterm : sp_term w a with
    | none =>
      have es : sp_sum w (f + 1) a = none := by rw [sp_sum, hterm]
      rw [if_pos (g0 hterm)] at hB0
      refine ⟨0, τ, a1, oy_lp_m hB0, f1, fun _ => rfl, fun e h => by rw [es] at h; cases h⟩
    | some e9 =>
      obtain ⟨y1, y2, y3⟩ := g1 e9 hterm
      subst y2
      have hge := sp_term_ge w a a1 hterm
      rw [y1, if_neg oy_10] at hB0
      by_cases hj : sp_jn (oy_wk w a1)
      · have es : sp_sum w (f + 1) a = sp_sum w f (a1 + 1) := by rw [sp_sum, hterm]; exact if_pos hj
        have el : sp_tl w (f + 1) v a = (v, sp_tm w a) :: sp_tl w f (oy_wk w a1) (a1 + 1) := by rw [sp_tl, hterm]; dsimp only; rw [if_pos hj]
        have hlt := oy_wk_lt (w := w) (p := a1) (by rcases hj with q | q | q <;> rw [q] <;> decide)
        have hle := oy_R_le hR a1
        have hB : B_Rdr_takeSum_5 (v, ((6 - (f + 1) : Nat) : Int), oy_pl σ a) = some (.inl (oy_wk w a1, ((6 - f : Nat) : Int), oy_pl τ (a1 + 1))) := by
          have h46 : J_Rdr_takeSum_46 (oy_wk w a1) ((6 - (f + 1) : Nat) : Int) (oy_pl τ a1) = some (.inl (oy_wk w a1, ((6 - f : Nat) : Int), oy_pl τ (a1 + 1))) := by
            unfold J_Rdr_takeSum_46
            rw [oy_pl_step rfl (by omega), ev]
          rw [h46] at hB0
          rw [hB0]
          rcases hj with q | q | q
          · rw [if_pos q]
          · rw [if_neg (by omega), if_pos q]
          · rw [if_neg (by omega), if_neg (by omega), if_pos q]
        obtain ⟨r2, τ2, a2, e2, f2, z0, z1⟩ := oc_suml hl f n (a1 + 1) (oy_wk w a1) (cur ++ [(v, sp_tm w a)]) τ hR1 ((f1 3 0 3 0 (by unfold oy_s6; omega)).trans h3) y3 (by omega) (by rw [oy_cur]; omega) (by omega) (by omega) (by omega)
        refine ⟨r2, τ2, a2, (oy_lp_l hB).trans e2, f1.tr f2, fun h => z0 (es ▸ h), fun e h => ?_⟩
        rw [es] at h
        obtain ⟨q1, q2, q3⟩ := z1 e h
        rw [List.append_assoc] at q3
        exact ⟨q1, q2, el ▸ q3⟩
      · have es : sp_sum w (f + 1) a = some a1 := by rw [sp_sum, hterm]; exact if_neg hj
        have el : sp_tl w (f + 1) v a = [(v, sp_tm w a)] := by rw [sp_tl, hterm]; dsimp only; rw [if_neg hj]
        rw [if_neg (fun q => hj (Or.inl q)), if_neg (fun q => hj (Or.inr (Or.inl q))), if_neg (fun q => hj (Or.inr (Or.inr q)))] at hB0
        refine ⟨1, τ, a1, oy_lp_m hB0, f1, fun h => (by rw [es] at h; cases h), fun e h => ?_⟩
        rw [es] at h
        cases h
        rw [el]
        exact ⟨rfl, rfl, y3⟩
theorem oc_sum {σ : ox_H} (hR : oy_R w σ) (h3 : σ 3 0 3 0 = (l : Int)) (hl : l < 60) (hs : oy_sm l cs [] σ) {a : Nat} (ht : 2 * cs.flatten.length + 2 ≤ a) (ha : a ≤ 25) : ∃ r τ a', F_Rdr_takeSum (oy_pl σ a) = some (r, oy_pl τ a') ∧ oy_fs (oy_s6 l) σ τ ∧ (sp_sum w 6 a = none → r = 0) ∧ ∀ e, sp_sum w 6 a = some e → r = 1 ∧ a' = e ∧ oy_sm l cs (sp_tl w 6 43 a) τ :=
  oc_suml hl 6 ox_fu a 43 [] σ hR h3 hs (by decide) (by rw [List.append_nil]; exact ht) ha (Nat.le_refl _) (by show 6 < 100000; omega)
theorem oc_value {σ : ox_H} (hR : oy_R w σ) (h3 : σ 3 0 3 0 = (l : Int)) (hl : l < 60) (hs : oy_sm l cs [] σ) {a : Nat} (ht : cs.flatten.length < 12) (ha : a ≤ 30) : ∃ r τ a', F_Rdr_takeValue (oy_pl σ a) = some (r, oy_pl τ a') ∧ oy_fs (oy_s6 l) σ τ ∧ ((sp_nu w (sp_sg w a)).2 < 0 → r = 0) ∧ (0 ≤ (sp_nu w (sp_sg w a)).2 → r = 1 ∧ a' = (sp_nu w (sp_sg w a)).1 ∧ oy_sm l cs [((if oy_wk w a = 45 then 45 else 43), 0, 0, (sp_nu w (sp_sg w a)).2)] τ) := by
  have hn := sp_nu_in w (sp_sg w a)
  have hg := sp_sg_le w a
  have go : ∀ v : Int, 0 ≤ v ∧ v < 65536 → ∃ r τ a', J_Rdr_takeValue_16 v (oy_pl σ (sp_sg w a)) = some (r, oy_pl τ a') ∧ oy_fs (oy_s6 l) σ τ ∧ ((sp_nu w (sp_sg w a)).2 < 0 → r = 0) ∧ (0 ≤ (sp_nu w (sp_sg w a)).2 → r = 1 ∧ a' = (sp_nu w (sp_sg w a)).1 ∧ oy_sm l cs [(v, 0, 0, (sp_nu w (sp_sg w a)).2)] τ) := by
    intro v hv
    unfold J_Rdr_takeValue_16 J_Rdr_takeValue_47
    rw [oc_number hR (by omega), Option.bind_some]
    dsimp only
    obtain ⟨τ, e1, f1, g1⟩ := oc_addTerm hl hs (a := (sp_nu w (sp_sg w a)).1) (k := 0) (le := 0) (nu := (sp_nu w (sp_sg w a)).2) hv (by rw [List.append_nil]; omega)
    rw [oy_pl_ne (by decide), h3, e1, Option.bind_some]
    by_cases hz : (sp_nu w (sp_sg w a)).2 = -1
    · rw [if_pos hz]
      exact ⟨_, _, _, rfl, f1, fun _ => rfl, fun q => by omega⟩
    · rw [if_neg hz]
      exact ⟨_, _, _, rfl, f1, fun q => by omega, fun _ => ⟨rfl, rfl, g1 (by rw [List.append_nil]; exact ht)⟩⟩
  unfold F_Rdr_takeValue
  by_cases h45 : oy_wk w a = 45
  · have es : sp_sg w a = a + 1 := by unfold sp_sg; rw [if_pos h45]
    rw [oc_tk1 hR (b := a + 1) (by decide) h45 rfl, Option.bind_some, if_neg oy_10, if_pos h45]
    rw [es] at go ⊢
    exact go 45 (by decide)
  · have es : sp_sg w a = a := by unfold sp_sg; rw [if_neg h45]
    rw [oc_tk0 hR h45, Option.bind_some, if_pos rfl, if_neg h45]
    rw [es] at go ⊢
    exact go 43 (by decide)
theorem sp_cel_len (w : List Int) (a e : Nat) (h : sp_cell w a = some e) : 2 * (sp_cel w a).length + a ≤ e + 1 ∧ 1 ≤ (sp_cel w a).length := by
  unfold sp_cell at h
  unfold sp_cel
  by_cases h1 : oy_wk w a = 61
  · rw [if_pos h1] at h ⊢
    have := sp_tl_len w 6 43 (a + 1) e h
    omega
  · rw [if_neg h1] at h ⊢
    have hn := sp_nu_in w (sp_sg w a)
    have hg := sp_sg_le w a
    by_cases h2 : 0 ≤ (sp_nu w (sp_sg w a)).2
    · rw [if_pos h2] at h
      have h3 : ¬ (sp_nu w (sp_sg w a)).1 = sp_sg w a := fun q => by
        have := hn.2.2.2.2.mp q
        omega
      have h4 := Option.some.inj h
      have h5 : ∀ x : oy_Tm, [x].length = 1 := fun _ => rfl
      rw [h5]
      omega
    · rw [if_neg h2] at h
      cases h
theorem oc_rowl (hl : l < 60) : ∀ (f n a : Nat) (cs : List (List oy_Tm)) (σ : ox_H), oy_R w σ → σ 3 0 3 0 = (l : Int) → oy_sm l cs [] σ → 2 * cs.flatten.length ≤ a → 2 * cs.length ≤ a → a ≤ 100 → w.length < f + a → f < n →
    ∃ r τ a', ox_lp B_Rdr_takeRow_2 n (((cs.length : Nat) : Int), oy_pl σ a) = some (r, oy_pl τ a') ∧ oy_fs (oy_s6 l) σ τ ∧ ((r ≠ 0 ∧ a' = w.length) ↔ sp_cells w f a = true) ∧ (sp_cells w f a = true → oy_sm l (cs ++ sp_cls w f a) [] τ)
  | _, 0, _, _, _, _, _, _, _, _, _, _, h => absurd h (Nat.not_lt_zero _)
  | f, n + 1, a, cs, σ, hR, h3, hs, ht, hc, ha, hf, hn => by
    have h24 := hR.1
    by_cases hb : oy_wk w a = 124
    rotate_left
    · have hB : B_Rdr_takeRow_2 (((cs.length : Nat) : Int), oy_pl σ a) = (some (1, oy_pl σ a) : Option (Int × ox_H)).map .inr := by
        unfold B_Rdr_takeRow_2 J_Rdr_takeRow_61
        dsimp only
        by_cases h12 : 12 ≤ ((cs.length : Nat) : Int)
        · rw [if_pos h12]
        · rw [if_neg h12, oc_tk0 hR hb, Option.bind_some, if_pos rfl]
      refine ⟨1, σ, a, oy_lp_m hB, oy_fs.rf, ?_, fun h => ?_⟩
      · cases f with
        | zero => exact ⟨fun q => absurd q.2 (by omega), fun q => Bool.noConfusion q⟩
        | succ f =>
          rw [sp_cells, if_neg hb, decide_eq_true_eq]
          exact ⟨fun q => q.2, fun q => ⟨by decide, q⟩⟩
      · have : sp_cls w f a = [] := by
          cases f with
          | zero => rfl
          | succ f => rw [sp_cls, if_neg hb]
        rw [this, List.append_nil]
        exact hs
    have hlt := oy_wk_lt (w := w) (p := a) (by rw [hb]; decide)
    obtain ⟨f, rfl⟩ : ∃ g, f = g + 1 := ⟨f - 1, by omega⟩
    have ec : ox_w (((cs.length : Nat) : Int) + 1) = ((cs.length + 1 : Nat) : Int) := oy_w1 (by omega)
    have es : sp_cells w (f + 1) a = (match sp_cell w (a + 1) with | none => false | some e => sp_cells w f e) := by rw [sp_cells, if_pos hb]; try rfl
    have el : sp_cls w (f + 1) a = (match sp_cell w (a + 1) with | none => [] | some e => sp_cel w (a + 1) :: sp_cls w f e) := by rw [sp_cls, if_pos hb]; try rfl
    have hB0 : B_Rdr_takeRow_2 (((cs.length : Nat) : Int), oy_pl σ a) = (F_Rdr_take 61 (oy_pl σ (a + 1))).bind fun r3 => (if r3.1 = 0 then ((F_Rdr_takeValue r3.2).bind fun r4 => (J_Rdr_takeRow_37 ((cs.length : Nat) : Int) r4.1 r4.2)) else ((F_Rdr_takeSum r3.2).bind fun r5 => (J_Rdr_takeRow_37 ((cs.length : Nat) : Int) r5.1 r5.2))) := by
      unfold B_Rdr_takeRow_2
      dsimp only
      rw [if_neg (by omega), oc_tk1 hR (b := a + 1) (by decide) hb rfl, Option.bind_some, if_neg oy_10]
    /- a cell that is none -/
    have no : ∀ (τ : ox_H) (a' : Nat), sp_cell w (a + 1) = none → oy_fs (oy_s6 l) σ τ → B_Rdr_takeRow_2 (((cs.length : Nat) : Int), oy_pl σ a) = J_Rdr_takeRow_37 ((cs.length : Nat) : Int) 0 (oy_pl τ a') →
        ∃ r τ a', ox_lp B_Rdr_takeRow_2 (n + 1) (((cs.length : Nat) : Int), oy_pl σ a) = some (r, oy_pl τ a') ∧ oy_fs (oy_s6 l) σ τ ∧ ((r ≠ 0 ∧ a' = w.length) ↔ sp_cells w (f + 1) a = true) ∧ (sp_cells w (f + 1) a = true → oy_sm l (cs ++ sp_cls w (f + 1) a) [] τ) := by
      intro τ a' h1 h2 h4
      rw [h1] at es
      have es2 : sp_cells w (f + 1) a = false := es
      unfold J_Rdr_takeRow_37 J_Rdr_takeRow_42 at h4
      rw [if_pos rfl] at h4
      refine ⟨0, τ, a', oy_lp_m h4, h2, ⟨fun q => absurd rfl q.1, fun q => ?_⟩, fun q => ?_⟩
      · rw [es2] at q; exact Bool.noConfusion q
      · rw [es2] at q; exact Bool.noConfusion q
    /- a good one -/
    have yes : ∀ (τ : ox_H) (e : Nat), sp_cell w (a + 1) = some e → oy_fs (oy_s6 l) σ τ → oy_sm l cs (sp_cel w (a + 1)) τ → B_Rdr_takeRow_2 (((cs.length : Nat) : Int), oy_pl σ a) = J_Rdr_takeRow_37 ((cs.length : Nat) : Int) 1 (oy_pl τ e) →
        ∃ r τ a', ox_lp B_Rdr_takeRow_2 (n + 1) (((cs.length : Nat) : Int), oy_pl σ a) = some (r, oy_pl τ a') ∧ oy_fs (oy_s6 l) σ τ ∧ ((r ≠ 0 ∧ a' = w.length) ↔ sp_cells w (f + 1) a = true) ∧ (sp_cells w (f + 1) a = true → oy_sm l (cs ++ sp_cls w (f + 1) a) [] τ) := by
      intro τ e h1 h2 h5 h4
      rw [h1] at es el
      have es2 : sp_cells w (f + 1) a = sp_cells w f e := es
      have el2 : sp_cls w (f + 1) a = sp_cel w (a + 1) :: sp_cls w f e := el
      have hge := sp_cell_ge w (a + 1) e h1
      have hcl := sp_cel_len w (a + 1) e h1
      have hR1 := hR.fs6 h2
      have h31 : τ 3 0 3 0 = (l : Int) := (h2 3 0 3 0 (by unfold oy_s6; omega)).trans h3
      have htot : (cs.flatten ++ sp_cel w (a + 1)).length = cs.flatten.length + (sp_cel w (a + 1)).length := List.length_append
      have hend := sp_cell_end w (a + 1) e h1
      have h12 : (cs.flatten ++ sp_cel w (a + 1)).length ≤ 12 := by omega
      obtain ⟨τ2, e2, f2, g2⟩ := oc_endCell hl h5 (a := e) h12 (by omega)
      have hR2 := hR1.fs6 f2
      unfold J_Rdr_takeRow_37 at h4
      rw [if_neg oy_10, oy_pl_ne (by decide), h31, e2, Option.bind_some, ec] at h4
      have hlc : (cs ++ [sp_cel w (a + 1)]).length = cs.length + 1 := by rw [List.length_append]; rfl
      have hfl : (cs ++ [sp_cel w (a + 1)]).flatten.length = cs.flatten.length + (sp_cel w (a + 1)).length := by rw [List.flatten_append, List.length_append]; simp
      obtain ⟨r, τ3, a3, e3, f3, g3, k3⟩ := oc_rowl hl f n e (cs ++ [sp_cel w (a + 1)]) τ2 hR2 ((f2 3 0 3 0 (by unfold oy_s6; omega)).trans h31) g2 (by omega) (by omega) (by omega) (by omega) (by omega)
      rw [hlc] at e3
      refine ⟨r, τ3, a3, (oy_lp_l h4).trans e3, (h2.tr f2).tr f3, ?_, fun q => ?_⟩
      · rw [es2]; exact g3
      · rw [es2] at q
        rw [el2]
        have := k3 q
        rw [List.append_assoc] at this
        exact this
    by_cases h61 : oy_wk w (a + 1) = 61
    · have ecl : sp_cell w (a + 1) = sp_sum w 6 (a + 1 + 1) := by unfold sp_cell; rw [if_pos h61]
      have ece : sp_cel w (a + 1) = sp_tl w 6 43 (a + 1 + 1) := by unfold sp_cel; rw [if_pos h61]
      have hlt1 := oy_wk_lt (w := w) (p := a + 1) (by rw [h61]; decide)
      rw [oc_tk1 hR (b := a + 1 + 1) (by decide) h61 rfl, Option.bind_some, if_neg oy_10] at hB0
      obtain ⟨r, τ, a1, e1, f1, g0, g1⟩ := oc_sum hR h3 hl hs (a := a + 1 + 1) (by omega) (by omega)
      dsimp only at hB0
      rw [e1, Option.bind_some] at hB0
      cases hq : sp_sum w 6 (a + 1 + 1) with
      | none =>
        rw [g0 hq] at hB0
        exact no τ a1 (ecl.trans hq) f1 hB0
      | some e =>
        obtain ⟨y1, y2, y3⟩ := g1 e hq
        rw [y1, y2] at hB0
        exact yes τ e (ecl.trans hq) f1 (ece ▸ y3) hB0
    · have ece : sp_cel w (a + 1) = [((if oy_wk w (a + 1) = 45 then 45 else 43), 0, 0, (sp_nu w (sp_sg w (a + 1))).2)] := by unfold sp_cel; rw [if_neg h61]
      rw [oc_tk0 hR h61, Option.bind_some, if_pos rfl] at hB0
      obtain ⟨r, τ, a1, e1, f1, g0, g1⟩ := oc_value hR h3 hl hs (a := a + 1) (by omega) (by omega)
      dsimp only at hB0
      rw [e1, Option.bind_some] at hB0
      by_cases hq : 0 ≤ (sp_nu w (sp_sg w (a + 1))).2
      · obtain ⟨y1, y2, y3⟩ := g1 hq
        have ecl : sp_cell w (a + 1) = some (sp_nu w (sp_sg w (a + 1))).1 := by unfold sp_cell; rw [if_neg h61, if_pos hq]
        rw [y1, y2] at hB0
        exact yes τ _ ecl f1 (ece ▸ y3) hB0
      · have ecl : sp_cell w (a + 1) = none := by unfold sp_cell; rw [if_neg h61, if_neg hq]
        rw [g0 (by omega)] at hB0
        exact no τ a1 ecl f1 hB0
end OYC6
