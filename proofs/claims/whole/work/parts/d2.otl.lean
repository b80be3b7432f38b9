/-! ===== the class's outline ===== -/
theorem sp_cls_len (w : List Int) : ∀ f a, a ≤ w.length → 2 * (sp_cls w f a).flatten.length + a ≤ w.length ∧ 2 * (sp_cls w f a).length + a ≤ w.length
  | 0, a, h => by
    show 2 * 0 + a ≤ _ ∧ 2 * 0 + a ≤ _
    omega
  | f + 1, a, h => by
    rw [sp_cls]
    by_cases hb : oy_wk w a = 124
    · rw [if_pos hb]
      cases hc : sp_cell w (a + 1) with
      | none =>
        show 2 * 0 + a ≤ _ ∧ 2 * 0 + a ≤ _
        omega
      | some e =>
        have h1 := sp_cell_end w (a + 1) e hc
        have h2 := sp_cel_len w (a + 1) e hc
        have h3 := sp_cls_len w f e h1
        have e1 : (sp_cel w (a + 1) :: sp_cls w f e).flatten.length = (sp_cel w (a + 1)).length + (sp_cls w f e).flatten.length := by rw [List.flatten_cons, List.length_append]
        dsimp only
        rw [e1, List.length_cons]
        omega
    · rw [if_neg hb]
      show 2 * 0 + a ≤ _ ∧ 2 * 0 + a ≤ _
      omega
theorem sp_cc_len (w : List Int) (h : w.length ≤ 24) : (sp_cc w).flatten.length ≤ 12 ∧ (sp_cc w).length ≤ 12 := by
  unfold sp_cc
  by_cases h4 : sp_kind w = 4
  · rw [if_pos h4]
    have := sp_cls_len w 30 0 (Nat.zero_le _)
    omega
  rw [if_neg h4]
  by_cases h5 : sp_kind w = 5
  · rw [if_pos h5]
    have e1 : [sp_tl w 6 43 3].flatten = sp_tl w 6 43 3 := by simp
    rw [e1]
    cases hs : sp_sum w 6 3 with
    | none =>
      have hcode : sp_code w = true := by
        have hk := h5
        unfold sp_kind at hk
        by_cases q : sp_code w = true
        · exact q
        · exfalso
          revert hk
          rw [if_neg q]
          split <;> (try split) <;> (try split) <;> (try split) <;> (try split) <;> (try split) <;> intro hk <;> exact absurd hk (by decide)
      unfold sp_code at hcode
      rw [Bool.and_eq_true, decide_eq_true_eq, decide_eq_true_eq, hs] at hcode
      exact nomatch hcode.2
    | some e =>
      have h1 := sp_tl_len w 6 43 3 e hs
      have h2 := sp_sum_end w 6 3 e hs
      refine ⟨by omega, ?_⟩
      show 1 ≤ 12
      omega
  · rw [if_neg h5]
    exact ⟨Nat.zero_le _, Nat.zero_le _⟩
theorem oy_sm_fr {l : Nat} {cs : List (List oy_Tm)} {S : Nat → Nat → Nat → Nat → Prop} {σ σ' : ox_H} (h : oy_sm l cs [] σ) (hc : cs.flatten.length ≤ 12 ∧ cs.length ≤ 12) (hf : oy_fs S σ σ') (h6 : ∀ k j i, ((j < 2 ∧ i = l) ∨ (2 ≤ j ∧ 12 * l ≤ i ∧ i < 12 * l + 12)) → ¬ S 6 k j i) : oy_sm l cs [] σ' := by
  obtain ⟨h1, h2, h3, h4⟩ := h
  rw [List.append_nil] at h2 h4
  refine ⟨(hf _ _ _ _ (h6 _ _ _ (Or.inl ⟨by decide, rfl⟩))).trans h1, by rw [List.append_nil]; exact (hf _ _ _ _ (h6 _ _ _ (Or.inl ⟨by decide, rfl⟩))).trans h2, fun c hc2 => (hf _ _ _ _ (h6 _ _ _ (Or.inr (by omega)))).trans (h3 c hc2), fun t m hm => ?_⟩
  rw [List.append_nil] at hm
  have ht : t < cs.flatten.length := by
    by_cases q : t < cs.flatten.length
    · exact q
    · rw [List.getElem?_eq_none (by omega)] at hm; cases hm
  rw [hf _ _ _ _ (h6 _ _ _ (Or.inr (by omega))), hf _ _ _ _ (h6 _ _ _ (Or.inr (by omega))), hf _ _ _ _ (h6 _ _ _ (Or.inr (by omega))), hf _ _ _ _ (h6 _ _ _ (Or.inr (by omega)))]
  exact h4 t m hm
theorem oy_rd_fr {w : List Int} {l : Nat} {S : Nat → Nat → Nat → Nat → Prop} {σ σ' : ox_H} (h : oy_rd w l σ) (hw : w.length ≤ 24) (hf : oy_fs S σ σ') (h4 : ∀ j i, ¬ S 4 l j i) (h6 : ∀ k j i, ((j < 2 ∧ i = l) ∨ (2 ≤ j ∧ 12 * l ≤ i ∧ i < 12 * l + 12)) → ¬ S 6 k j i) : oy_rd w l σ' := by
  have e : ∀ j i, σ' 4 l j i = σ 4 l j i := fun j i => hf 4 l j i (h4 j i)
  obtain ⟨h1, h2, h3, h5, h7, h8, h9, h10⟩ := h
  unfold oy_rd oy_hd at *
  simp only [e]
  exact ⟨h1, h2, h3, h5, h7, h8, h9, oy_sm_fr h10 (sp_cc_len w hw) hf h6⟩
/-- tags with those of the entries above -/
def sp_tgf (T : oy_T) : Nat → Nat → Int
  | 0, _ => 0
  | f + 1, e => ox_or (sp_tags (sp_eln T e)) (match sp_pa T e with | none => 0 | some p => sp_tgf T f p)
def sp_tgs (T : oy_T) (e : Nat) : Int := sp_tgf T (e + 1) e
theorem sp_pa_lt {T : oy_T} {e p : Nat} (h : sp_pa T e = some p) : p < e ∧ sp_lv T p < sp_lv T e := by
  have := sp_dn_in _ _ _ h
  exact ⟨this.1, of_decide_eq_true this.2⟩
theorem sp_tgf_f (T : oy_T) : ∀ f g e, e < f → e < g → sp_tgf T f e = sp_tgf T g e
  | 0, _, _, h, _ => absurd h (Nat.not_lt_zero _)
  | _, 0, _, _, h => absurd h (Nat.not_lt_zero _)
  | f + 1, g + 1, e, h1, h2 => by
    rw [sp_tgf, sp_tgf]
    cases hp : sp_pa T e with
    | none => rfl
    | some p =>
      have := (sp_pa_lt hp).1
      dsimp only
      rw [sp_tgf_f T f g p (by omega) (by omega)]
theorem sp_tgs_eq (T : oy_T) (e : Nat) : sp_tgs T e = ox_or (sp_tags (sp_eln T e)) (match sp_pa T e with | none => 0 | some p => sp_tgs T p) := by
  unfold sp_tgs
  rw [sp_tgf]
  cases hp : sp_pa T e with
  | none => rfl
  | some p =>
    have := (sp_pa_lt hp).1
    dsimp only
    rw [sp_tgf_f T e (p + 1) p (by omega) (by omega)]
theorem sp_esn_pre (T : oy_T) (d : Nat) : ∀ f l e, e < (sp_esn T l).length → e < (sp_esn T (l + f)).length ∧ (sp_esn T (l + f)).getD e d = (sp_esn T l).getD e d
  | 0, l, e, h => ⟨h, rfl⟩
  | f + 1, l, e, h => by
    obtain ⟨q1, q2⟩ := sp_esn_pre T d f l e h
    have e1 : l + (f + 1) = (l + f) + 1 := by omega
    rw [e1, sp_esn]
    by_cases q : sp_isH (oy_ln T (l + f))
    · rw [if_pos q]
      refine ⟨by rw [List.length_append]; exact Nat.lt_add_right _ q1, ?_⟩
      rw [oy_getD_snoc, if_pos q1]
      exact q2
    · rw [if_neg q]
      exact ⟨q1, q2⟩
theorem sp_en_pre {T : oy_T} {l e : Nat} (hl : l ≤ T.length) (h : e < (sp_esn T l).length) : e < sp_n T ∧ sp_en T e = (sp_esn T l).getD e T.length := by
  have := sp_esn_pre T T.length (T.length - l) l e h
  rw [show l + (T.length - l) = T.length by omega] at this
  exact this
theorem sp_en_at {T : oy_T} {l : Nat} (hl : l < T.length) (h : sp_isH (oy_ln T l)) : (sp_esn T l).length < sp_n T ∧ sp_en T (sp_esn T l).length = l := by
  have e1 : sp_esn T (l + 1) = sp_esn T l ++ [l] := by rw [sp_esn, if_pos h]
  have h1 : (sp_esn T l).length < (sp_esn T (l + 1)).length := by rw [e1, List.length_append]; show _ < _ + 1; omega
  obtain ⟨q1, q2⟩ := sp_en_pre (T := T) (l := l + 1) (by omega) h1
  refine ⟨q1, ?_⟩
  rw [q2, e1, oy_getD_snoc, if_neg (by omega), if_pos rfl]
/-- the entries of the outline up to the m-th -/
def oy_Oe (T : oy_T) (m : Nat) (σ : ox_H) : Prop := ∀ e, e < m → σ 2 0 5 e = sp_en T e ∧ σ 2 0 6 e = sp_lv T e ∧ σ 2 0 7 e = oy_en (sp_pa T e) ∧ σ 2 0 8 e = sp_tgs T e
/-- the outline is the text's -/
def oy_O (T : oy_T) (σ : ox_H) : Prop := σ 2 0 9 0 = sp_n T ∧ oy_Oe T (sp_n T) σ ∧ (∀ l, l < T.length → σ 2 0 4 l = ((sp_esn T (l + 1)).length : Int) - 1) ∧ ∀ l, l < T.length → oy_rd (oy_ln T l) l σ
section OYD2
variable {T : oy_T} {σ : ox_H}
theorem oc_levelOf {n e : Nat} (h9 : σ 2 0 9 0 = n) (hn : n ≤ 60) (he : e < n) : F_Otl_levelOf (e : Int) σ = some (σ 2 0 6 e) := by
  unfold F_Otl_levelOf J_Otl_levelOf_22
  rw [if_neg (by omega), if_neg (by omega), if_pos (by omega), Int.toNat_natCast]
theorem oc_lineOf {n e : Nat} (h9 : σ 2 0 9 0 = n) (hn : n ≤ 60) (he : e < n) : F_Otl_lineOf (e : Int) σ = some (σ 2 0 5 e) := by
  unfold F_Otl_lineOf J_Otl_lineOf_22
  rw [if_neg (by omega), if_neg (by omega), if_pos (by omega), Int.toNat_natCast]
theorem oc_parentOf {n e : Nat} (h9 : σ 2 0 9 0 = n) (hn : n ≤ 60) (he : e < n) : F_Otl_parentOf (e : Int) σ = some (σ 2 0 7 e) := by
  unfold F_Otl_parentOf J_Otl_parentOf_22
  rw [if_neg (by omega), if_neg (by omega), if_pos (by omega), Int.toNat_natCast]
theorem oc_tagsOf {n e : Nat} (h9 : σ 2 0 9 0 = n) (hn : n ≤ 60) (he : e < n) : F_Otl_tagsOf (e : Int) σ = some (σ 2 0 8 e) := by
  unfold F_Otl_tagsOf J_Otl_tagsOf_22
  rw [if_neg (by omega), if_neg (by omega), if_pos (by omega), Int.toNat_natCast]
theorem oc_reading {n l : Nat} (h4 : σ 1 0 4 0 = n) (hn : n ≤ 60) (hl : l < n) : F_Otl_reading (l : Int) σ = some l := by
  unfold F_Otl_reading
  rw [if_neg (by omega), if_neg (by omega), if_pos (by omega), if_pos (by omega), Int.toNat_natCast]
theorem oc_pscan {m : Nat} {τ : ox_H} {l : Nat} (h9 : τ 2 0 9 0 = ((m + 1 : Nat) : Int)) (hm : m < 60) (h6 : ∀ e, e ≤ m → τ 2 0 6 e = sp_lv T e) : ∀ (k n : Nat), k ≤ m → k < n → ox_lp (B_Otl_addEntry_47 (l : Int) (m : Int) τ) n ((k : Int) - 1) = J_Otl_addEntry_70 (l : Int) (m : Int) (oy_en (sp_dn (fun x => decide (sp_lv T x < sp_lv T m)) k)) τ
  | _, 0, _, h => absurd h (Nat.not_lt_zero _)
  | 0, n + 1, _, _ => by
    refine oy_lp_m ?_
    unfold B_Otl_addEntry_47
    (try dsimp only)
    rw [if_pos (by decide)]
    rfl
  | k + 1, n + 1, h1, h2 => by
    have e : ((k + 1 : Nat) : Int) - 1 = (k : Int) := by omega
    have l1 := oc_levelOf (σ := τ) (e := k) h9 (by omega) (by omega)
    have l2 := oc_levelOf (σ := τ) (e := m) h9 (by omega) (by omega)
    rw [h6 k (by omega)] at l1
    rw [h6 m (by omega)] at l2
    rw [sp_dn, e]
    by_cases q : sp_lv T k < sp_lv T m
    · rw [if_pos (decide_eq_true q)]
      refine oy_lp_m ?_
      unfold B_Otl_addEntry_47
      (try dsimp only)
      rw [if_neg (by omega), l1, Option.bind_some, l2, Option.bind_some, if_pos (by omega)]
      rfl
    · rw [if_neg (fun z => q (of_decide_eq_true z))]
      have hB : B_Otl_addEntry_47 (l : Int) (m : Int) τ (k : Int) = some (.inl ((k : Int) - 1)) := by
        unfold B_Otl_addEntry_47
        (try dsimp only)
        rw [if_neg (by omega), l1, Option.bind_some, l2, Option.bind_some, if_neg (by omega), oy_w (by omega) (by omega)]
        rfl
      rw [oy_lp_l hB]
      exact oc_pscan h9 hm h6 k n (by omega) (by omega)
theorem oc_addEntry (hT : oy_ok T) {l : Nat} (hl : l < T.length) (h4 : σ 1 0 4 0 = T.length) (hH : sp_isH (oy_ln T l)) (hr : oy_rd (oy_ln T l) l σ) (h9 : σ 2 0 9 0 = ((sp_esn T l).length : Nat)) (hO : oy_Oe T (sp_esn T l).length σ) :
    ∃ τ, F_Otl_addEntry (l : Int) σ = some τ ∧ oy_fs (fun c _ j _ => c = 2 ∧ 5 ≤ j ∧ j ≤ 9) σ τ ∧ τ 2 0 9 0 = (((sp_esn T l).length + 1 : Nat) : Int) ∧ oy_Oe T ((sp_esn T l).length + 1) τ := by
  have h60 := hT.1
  have hlen := sp_esn_len T l
  obtain ⟨hm1, hm2⟩ := sp_en_at hl hH
  have hk : sp_kind (oy_ln T l) = 0 := sp_kind_H.mpr hH
  obtain ⟨d7, d8, d9, d10, d11⟩ := hr.2.1 hk
  generalize hm : (sp_esn T l).length = m at *
  have helm : sp_eln T m = oy_ln T l := by unfold sp_eln; rw [hm2]
  have r1 : F_Otl_reading (l : Int) (ox_up σ 2 0 5 m (l : Int)) = some l := oc_reading (n := T.length) ((oy_up_ne (by decide)).trans h4) h60 hl
  unfold F_Otl_addEntry
  rw [h9, if_pos (by omega), if_pos (by omega), Int.toNat_natCast, r1, Option.bind_some, if_pos (by omega), d7, oy_w (by omega) (by omega), oy_w1 (by omega)]
  obtain ⟨τ1, hτ1⟩ : ∃ t, t = ox_up (ox_up (ox_up σ 2 0 5 m (l : Int)) 2 0 6 m ((sp_stars (oy_ln T l) : Nat) : Int)) 2 0 9 0 ((m + 1 : Nat) : Int) := ⟨_, rfl⟩
  have F1 : oy_fs (fun c _ j _ => c = 2 ∧ 5 ≤ j ∧ j ≤ 9) σ τ1 := by
    rw [hτ1]
    exact ((oy_fs.rf.up ⟨rfl, by decide, by decide⟩).up ⟨rfl, by decide, by decide⟩).up ⟨rfl, by decide, by decide⟩
  have t9 : τ1 2 0 9 0 = ((m + 1 : Nat) : Int) := by rw [hτ1]; exact oy_up_same
  have t6 : ∀ e, e ≤ m → τ1 2 0 6 e = sp_lv T e := by
    intro e he
    rw [hτ1, oy_up_ne (by decide)]
    by_cases q : e = m
    · rw [q, oy_up_same]
      unfold sp_lv
      rw [helm]
    · rw [oy_up_ni q, oy_up_ne (by decide)]
      exact (hO e (by omega)).2.1
  have t5 : ∀ e, e ≤ m → τ1 2 0 5 e = sp_en T e := by
    intro e he
    rw [hτ1, oy_up_ne (by decide), oy_up_ne (by decide)]
    by_cases q : e = m
    · rw [q, oy_up_same, hm2]
    · rw [oy_up_ni q]
      exact (hO e (by omega)).1
  have t7 : ∀ e, e < m → τ1 2 0 7 e = oy_en (sp_pa T e) := by
    intro e he
    rw [hτ1, oy_up_ne (by decide), oy_up_ne (by decide), oy_up_ne (by decide)]
    exact (hO e he).2.2.1
  have t8 : ∀ e, e < m → τ1 2 0 8 e = sp_tgs T e := by
    intro e he
    rw [hτ1, oy_up_ne (by decide), oy_up_ne (by decide), oy_up_ne (by decide)]
    exact (hO e he).2.2.2
  have t11 : τ1 4 l 11 0 = sp_tags (oy_ln T l) := by rw [F1 4 l 11 0 (by omega)]; exact d11
  have t4 : τ1 1 0 4 0 = T.length := (F1 1 0 4 0 (by omega)).trans h4
  rw [← hτ1]
  clear hτ1
  have hs := oc_pscan (l := l) t9 (by omega) t6 m ox_fu (Nat.le_refl _) (by show m < 100000; omega)
  unfold J_Otl_addEntry_47
  rw [hs]
  have hpa : sp_dn (fun x => decide (sp_lv T x < sp_lv T m)) m = sp_pa T m := rfl
  rw [hpa]
  /- its end -/
  have fin : ∀ (v x : Int), v = oy_en (sp_pa T m) → F_Otl_tagsOf v (ox_up τ1 2 0 7 m x) = some (match sp_pa T m with | none => 0 | some p => sp_tgs T p) → x = v → ∃ τ, J_Otl_addEntry_84 (l : Int) (m : Int) v x (m : Int) τ1 = some τ ∧ oy_fs (fun c _ j _ => c = 2 ∧ 5 ≤ j ∧ j ≤ 9) σ τ ∧ τ 2 0 9 0 = ((m + 1 : Nat) : Int) ∧ oy_Oe T (m + 1) τ := by
    intro v x hv ht hx
    have r2 : F_Otl_reading (l : Int) (ox_up τ1 2 0 7 m x) = some l := oc_reading (n := T.length) ((oy_up_ne (by decide)).trans t4) h60 hl
    unfold J_Otl_addEntry_84
    rw [if_pos (by omega), Int.toNat_natCast, r2, Option.bind_some, ht, Option.bind_some, if_pos (by omega), t11]
    refine ⟨_, rfl, (F1.up ⟨rfl, by decide, by decide⟩).up ⟨rfl, by decide, by decide⟩, ?_, fun e he => ?_⟩
    · rw [oy_up_ne (by decide), oy_up_ne (by decide)]
      exact t9
    · refine ⟨?_, ?_, ?_, ?_⟩
      · rw [oy_up_ne (by decide), oy_up_ne (by decide)]
        exact t5 e (by omega)
      · rw [oy_up_ne (by decide), oy_up_ne (by decide)]
        exact t6 e (by omega)
      · rw [oy_up_ne (by decide)]
        by_cases q : e = m
        · rw [q, oy_up_same, hx, hv]
        · rw [oy_up_ni q]
          exact t7 e (by omega)
      · by_cases q : e = m
        · rw [q, oy_up_same, sp_tgs_eq, helm]
        · rw [oy_up_ni q, oy_up_ne (by decide)]
          exact t8 e (by omega)
  unfold J_Otl_addEntry_70
  cases hp : sp_pa T m with
  | none =>
    have e1 : oy_en none = -1 := rfl
    rw [hp] at fin
    rw [e1, if_pos (by decide)]
    exact fin (-1) (-1) rfl rfl rfl
  | some p =>
    have hlt := (sp_pa_lt hp).1
    have e1 : oy_en (some p) = (p : Int) := rfl
    rw [hp] at fin
    rw [e1, if_neg (by omega)]
    refine fin (p : Int) (p : Int) rfl ?_ rfl
    have := oc_tagsOf (σ := ox_up τ1 2 0 7 m (p : Int)) (n := m + 1) (e := p) ((oy_up_ne (by decide)).trans t9) (by omega) (by omega)
    rw [oy_up_ne (by decide), t8 p hlt] at this
    exact this
end OYD2
