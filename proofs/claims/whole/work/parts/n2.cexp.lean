/-! ===== the export: the class's lines ===== -/
/-- what the class has exported -/
def oy_xk (O : oy_T) (σ : ox_H) : Prop := oy_okL 2 O ∧ oy_L 2 O σ ∧ σ 1 2 1 0 = ox_wd 2 ∧ σ 1 2 0 0 = ox_ln 2
/-- with the outline and the sheet fresh -/
def oy_XQ (T : oy_T) (f : Nat → Nat → Int) (O : oy_T) (σ : ox_H) : Prop := oy_Q T σ ∧ oy_vs (fun l c => oy_cl (f l c)) σ ∧ oy_xk O σ
theorem oy_snoc_ln {O : oy_T} {w : List Int} : oy_ln (O ++ [w]) O.length = w := by
  rw [oy_ln_app, if_neg (Nat.lt_irrefl _), Nat.sub_self]
  rfl
theorem sp_put_snoc {O : oy_T} {w u : List Int} : sp_put (O ++ [w]) O.length u = O ++ [u] := by
  refine oy_extT (by rw [sp_put_len, List.length_append, List.length_append]; rfl) (fun l hl => ?_)
  rw [sp_put_len] at hl
  rw [sp_put_ln hl, oy_ln_app, oy_ln_app]
  rw [List.length_append] at hl
  have h1 : ([w] : oy_T).length = 1 := rfl
  by_cases q : l = O.length
  · rw [if_pos q, q, if_neg (Nat.lt_irrefl _), Nat.sub_self]
    rfl
  · rw [if_neg q, if_pos (by omega), if_pos (by omega)]
section OYN2
variable {T O : oy_T} {σ : ox_H} {f : Nat → Nat → Int}
theorem oy_Q.le2 {σ' : ox_H} (h : oy_Q T σ) (hf : oy_fs (oy_le 2) σ σ') : oy_Q T σ' := by
  have e1 : ∀ j i, σ' 1 0 j i = σ 1 0 j i := fun j i => hf _ _ _ _ (by unfold oy_le; omega)
  have e2 : ∀ k j i, σ' 2 k j i = σ 2 k j i := fun k j i => hf _ _ _ _ (by unfold oy_le; omega)
  have e4 : ∀ k j i, σ' 4 k j i = σ 4 k j i := fun k j i => hf _ _ _ _ (by unfold oy_le; omega)
  have e6 : ∀ k j i, σ' 6 k j i = σ 6 k j i := fun k j i => hf _ _ _ _ (by unfold oy_le; omega)
  unfold oy_Q oy_O oy_Oe oy_rd oy_hd oy_sm oy_L oy_60 at *
  simp only [e1, e2, e4, e6]
  exact h
theorem oy_XQ.ed {O' : oy_T} {N : Nat} {τ : ox_H} (h : oy_XQ T f O σ) (d : oy_ed 2 N O' σ τ) (hok : oy_okL 2 O') : oy_fs (oy_le 2) σ τ ∧ oy_XQ T f O' τ :=
  ⟨d.1, h.1.le2 d.1, fun l c hl hc => (d.1 _ _ _ _ (by unfold oy_le; omega)).trans (h.2.1 l c hl hc), hok, d.2.1, d.w.1.trans h.2.2.2.2.1, d.w.2.trans h.2.2.2.2.2⟩
theorem oc_xE {w : List Int} {x : Int} (h : oy_XQ T f (O ++ [w]) σ) (hw : w.length < 48) (hx : 32 ≤ x ∧ x ≤ 126) : ∃ τ, F_Lin_add 2 (O.length : Int) x σ = some τ ∧ oy_fs (oy_le 2) σ τ ∧ oy_XQ T f (O ++ [w ++ [x]]) τ := by
  obtain ⟨h1, h2, h3, h4⟩ := h.2.2
  obtain ⟨τ, e, d⟩ := oc_addE (l := O.length) h1 h2 h3 (by rw [List.length_append]; exact Nat.lt_succ_self _) (by rw [oy_snoc_ln]; exact hw) hx
  rw [oy_snoc_ln, sp_put_snoc] at d
  have g := sp_put_ok (a := O.length) h1 (oy_good_app (by
    have := oy_good_ln h1 O.length
    rw [oy_snoc_ln] at this
    exact this) hw hx)
  rw [sp_put_snoc] at g
  obtain ⟨a, b⟩ := h.ed d g
  exact ⟨τ, e, a, b⟩
theorem oc_xN {w : List Int} {v : Int} (h : oy_XQ T f (O ++ [w]) σ) (hv : -999999 ≤ v ∧ v ≤ 999999) (hw : w.length + (sp_num v).length ≤ 48) : ∃ τ, F_Lin_addNumber 2 (O.length : Int) v σ = some τ ∧ oy_fs (oy_le 2) σ τ ∧ oy_XQ T f (O ++ [w ++ sp_num v]) τ := by
  obtain ⟨h1, h2, h3, h4⟩ := h.2.2
  obtain ⟨τ, e, d⟩ := oc_num0 (l := O.length) hv h1 h2 h3 (by rw [List.length_append]; exact Nat.lt_succ_self _) (by rw [oy_snoc_ln]; exact hw)
  rw [oy_snoc_ln, sp_put_snoc] at d
  have g := sp_put_ok (a := O.length) h1 (oy_good_app2 (w := w) (w' := sp_num v) (by
    have := oy_good_ln h1 O.length
    rw [oy_snoc_ln] at this
    exact this) ⟨show (sp_num v).length ≤ 48 by omega, sp_num_good hv⟩ hw)
  rw [sp_put_snoc] at g
  obtain ⟨a, b⟩ := h.ed d g
  exact ⟨τ, e, a, b⟩
theorem oc_xst {s : Nat} (hs : s ≤ 5) : ∀ (k i n : Nat) (w : List Int) (σ : ox_H), i + k = s → oy_XQ T f (O ++ [w]) σ → w.length + k + 1 ≤ 48 → k < n → ∃ τ, ox_lp (B_Exp_putStars_2 (O.length : Int) (s : Int)) n ((i : Int), σ) = some τ ∧ oy_fs (oy_le 2) σ τ ∧ oy_XQ T f (O ++ [w ++ (List.replicate k 42 ++ [32])]) τ
  | _, _, 0, _, _, _, _, _, h => absurd h (Nat.not_lt_zero _)
  | 0, i, n + 1, w, σ, h1, h2, h3, _ => by
    obtain ⟨τ, e, a, b⟩ := oc_xE h2 (x := 32) (by omega) (by decide)
    refine ⟨τ, oy_lp_m (X := some τ) ?_, a, b⟩
    unfold B_Exp_putStars_2 J_Exp_putStars_23
    dsimp only
    rw [if_pos (by omega), e, Option.bind_some]
  | k + 1, i, n + 1, w, σ, h1, h2, h3, h4 => by
    obtain ⟨σ1, e1, a1, b1⟩ := oc_xE h2 (x := 42) (by omega) (by decide)
    obtain ⟨τ, e, a, b⟩ := oc_xst hs k (i + 1) n (w ++ [42]) σ1 (by omega) b1 (by rw [List.length_append]; show w.length + 1 + k + 1 ≤ 48; omega) (by omega)
    refine ⟨τ, (oy_lp_l (a' := (((i + 1 : Nat) : Int), σ1)) ?_).trans e, a1.tr a, by
      rw [List.append_assoc] at b
      exact b⟩
    unfold B_Exp_putStars_2
    dsimp only
    rw [if_neg (by omega), e1, Option.bind_some, oy_w1 (by omega)]
theorem oc_xsg (hT : oy_ok T) {l e : Nat} (he : e ≤ (oy_ln T l).length) : ∀ (k i n : Nat) (w : List Int) (σ : ox_H), (i + k = e ∨ (k = 0 ∧ e ≤ i ∧ i ≤ 100)) → oy_XQ T f (O ++ [w]) σ → w.length + k ≤ 48 → k < n → ∃ τ, ox_lp (B_Exp_putSigns_3 (O.length : Int) (l : Int) (e : Int)) n ((i : Int), σ) = some τ ∧ oy_fs (oy_le 2) σ τ ∧ oy_XQ T f (O ++ [w ++ sp_xs (oy_ln T l) k i]) τ
  | _, _, 0, _, _, _, _, _, h => absurd h (Nat.not_lt_zero _)
  | 0, i, n + 1, w, σ, h1, h2, h3, _ => by
    refine ⟨σ, oy_lp_m (X := some σ) ?_, oy_fs.rf, by rw [sp_xs, List.append_nil]; exact h2⟩
    unfold B_Exp_putSigns_3 J_Exp_putSigns_37
    dsimp only
    rw [if_pos (by omega)]
  | k + 1, i, n + 1, w, σ, h1, h2, h3, h4 => by
    have h24 := oy_len24 hT l
    have hg := oy_good_wk (oy_good_ln (oy_ok_L hT) l) (i := i) (by omega)
    obtain ⟨σ1, e1, a1, b1⟩ := oc_xE h2 (x := oy_wk (oy_ln T l) i) (by omega) hg
    obtain ⟨τ, e, a, b⟩ := oc_xsg hT he k (i + 1) n (w ++ [oy_wk (oy_ln T l) i]) σ1 (by omega) b1 (by rw [List.length_append]; show w.length + 1 + k ≤ 48; omega) (by omega)
    refine ⟨τ, (oy_lp_l (a' := (((i + 1 : Nat) : Int), σ1)) ?_).trans e, a1.tr a, by
      rw [List.append_assoc] at b
      exact b⟩
    unfold B_Exp_putSigns_3
    dsimp only
    rw [if_neg (by omega), oc_at (oy_ok_L hT) h2.1.2.1 h2.1.2.2.1, Option.bind_some, e1, Option.bind_some, oy_w1 (by omega)]
theorem oc_xce (hT : oy_ok T) (hfi : oy_fin T f) {l : Nat} (hl : l < T.length) : ∀ (k c n : Nat) (w : List Int) (σ : ox_H), c + k = sp_nc T l → oy_XQ T f (O ++ [w]) σ → w.length + (sp_xcs f l k c).length ≤ 48 → k < n → ∃ τ, ox_lp (B_Exp_putCells_2 (O.length : Int) (l : Int)) n ((c : Int), σ) = some τ ∧ oy_fs (oy_le 2) σ τ ∧ oy_XQ T f (O ++ [w ++ sp_xcs f l k c]) τ
  | _, _, 0, _, _, _, _, _, h => absurd h (Nat.not_lt_zero _)
  | 0, c, n + 1, w, σ, h1, h2, h3, _ => by
    refine ⟨σ, oy_lp_m (X := some σ) ?_, oy_fs.rf, by rw [sp_xcs, List.append_nil]; exact h2⟩
    unfold B_Exp_putCells_2 J_Exp_putCells_71
    dsimp only
    rw [oc_cellsOf h2.1 hT hl, Option.bind_some, if_pos (by omega)]
  | k + 1, c, n + 1, w, σ, h1, h2, h3, h4 => by
    have h60 := hT.1
    have h12 := sp_nc_12 hT l
    rw [sp_xcs, List.length_append] at h3
    have hxl : 1 ≤ (sp_xc f l c).length := Nat.succ_pos _
    obtain ⟨σ1, e1, a1, b1⟩ := oc_xE h2 (x := 124) (by omega) (by decide)
    have key : ∃ σ2, (if oy_cl (f l c) = 1000000 then F_Lin_add 2 (O.length : Int) 35 σ1 else F_Lin_addNumber 2 (O.length : Int) (oy_cl (f l c)) σ1) = some σ2 ∧ oy_fs (oy_le 2) σ1 σ2 ∧ oy_XQ T f (O ++ [w ++ sp_xc f l c]) σ2 := by
      unfold sp_xc at h3 ⊢
      rw [List.length_cons] at h3
      by_cases q : oy_cl (f l c) = 1000000
      · rw [if_pos q] at h3 ⊢
        obtain ⟨σ2, e2, a2, b2⟩ := oc_xE b1 (x := 35) (by rw [List.length_append]; have : ([35] : List Int).length = 1 := rfl; show w.length + 1 < 48; omega) (by decide)
        refine ⟨σ2, e2, a2, ?_⟩
        rw [List.append_assoc] at b2
        rw [if_pos q]
        exact b2
      · rw [if_neg q] at h3 ⊢
        have r := oy_cl_rg2 (hfi.rg l c) q
        obtain ⟨σ2, e2, a2, b2⟩ := oc_xN b1 (v := oy_cl (f l c)) ⟨r.1, r.2.1⟩ (by rw [List.length_append]; show w.length + 1 + _ ≤ 48; omega)
        refine ⟨σ2, e2, a2, ?_⟩
        rw [List.append_assoc] at b2
        rw [if_neg q]
        exact b2
    obtain ⟨σ2, e2, a2, b2⟩ := key
    obtain ⟨τ, e, a, b⟩ := oc_xce hT hfi hl k (c + 1) n (w ++ sp_xc f l c) σ2 (by omega) b2 (by rw [List.length_append]; omega) (by omega)
    refine ⟨τ, (oy_lp_l (a' := (((c + 1 : Nat) : Int), σ2)) ?_).trans e, a1.tr (a2.tr a), by
      rw [List.append_assoc] at b
      rw [sp_xcs]
      exact b⟩
    unfold B_Exp_putCells_2 J_Exp_putCells_65
    dsimp only
    rw [oc_cellsOf h2.1 hT hl, Option.bind_some, if_neg (by omega), oc_valueAt h2.2.1 (by omega) (by omega), Option.bind_some, e1, Option.bind_some, oy_er]
    by_cases q : oy_cl (f l c) = 1000000
    · rw [if_pos q] at e2 ⊢
      rw [e2, Option.bind_some, oy_w1 (by omega)]
    · rw [if_neg q] at e2 ⊢
      rw [e2, Option.bind_some, oy_w1 (by omega)]
/-- a line opened behind the others -/
theorem oc_xop (h : oy_XQ T f O σ) (hr : O.length < 100) : ∃ τ, F_Lin_open 2 (O.length : Int) 1 σ = some τ ∧ oy_fs (oy_le 2) σ τ ∧ oy_XQ T f (O ++ [[]]) τ := by
  obtain ⟨h1, h2, h3, h4⟩ := h.2.2
  obtain ⟨τ, e, d⟩ := oc_open (a := O.length) (m := 1) h1 h2 h3 h4 (Nat.le_refl _) (Nat.le_refl _) (show O.length + 1 ≤ 100 by omega)
  rw [sp_ins_pas, sp_pas_app] at d
  have g : oy_okL 2 (O ++ [[]]) := by
    refine ⟨by rw [List.length_append]; show O.length + 1 ≤ 100; omega, fun w hw => ?_⟩
    rcases List.mem_append.mp hw with z | z
    · exact h1.2 w z
    · rw [List.mem_singleton.mp z]
      exact oy_good_nil
  obtain ⟨a, b⟩ := h.ed d g
  exact ⟨τ, e, a, b⟩
theorem oc_xline (hT : oy_ok T) (hfi : oy_fin T f) {l m : Nat} (hl : l < T.length) (hm : m ≤ 5) (h : oy_XQ T f O σ) (hr : O.length < 100) : ∃ τ, F_Exp_putLine (l : Int) l (m : Int) σ = some τ ∧ oy_fs (oy_le 2) σ τ ∧ oy_XQ T f (O ++ (if sp_kind (oy_ln T l) = 0 ∨ sp_kind (oy_ln T l) = 4 ∨ sp_kind (oy_ln T l) = 7 then [sp_xl T f l m] else [])) τ := by
  have h24 := oy_len24 hT l
  have hrd := (oc_erd hT h.1 hl).2
  have hk : σ 4 l 0 0 = sp_kind (oy_ln T l) := hrd.1
  unfold F_Exp_putLine
  rw [hk]
  by_cases q : sp_kind (oy_ln T l) = 0 ∨ sp_kind (oy_ln T l) = 4 ∨ sp_kind (oy_ln T l) = 7
  rotate_left
  · rw [if_neg (fun z => q (Or.inl z)), if_neg (fun z => q (Or.inr (Or.inl z))), if_neg (fun z => q (Or.inr (Or.inr z))), if_neg q, List.append_nil]
    exact ⟨σ, rfl, oy_fs.rf, h⟩
  rw [if_pos q]
  have hok := sp_xl_ok hT hfi (m := m) q
  obtain ⟨σ1, e1, a1, b1⟩ := oc_xop h hr
  have hrd1 := (oc_erd hT b1.1 hl).2
  have hk1 : σ1 4 l 0 0 = sp_kind (oy_ln T l) := hrd1.1
  have main : ∃ τ, J_Exp_putLine_34 (l : Int) l (m : Int) (σ 1 2 4 0) σ = some τ ∧ oy_fs (oy_le 2) σ τ ∧ oy_XQ T f (O ++ [sp_xl T f l m]) τ := by
    have hlen : (sp_xl T f l m).length ≤ 48 := hok.1
    unfold J_Exp_putLine_34
    unfold sp_xl at hlen ⊢
    rw [h.2.2.2.1.1, e1, Option.bind_some, hk1]
    by_cases q0 : sp_kind (oy_ln T l) = 0
    · rw [if_pos q0] at hlen
      rw [if_pos q0, if_pos q0]
      obtain ⟨d7, d8, d9, d10, d11⟩ := hrd1.2.1 q0
      have hH := sp_kind_H.mp q0
      have hst := hH.2.1
      have hx5 : sp_x5 (sp_stars (oy_ln T l) + m) ≤ 5 := by unfold sp_x5; split <;> omega
      rw [List.length_append, List.length_replicate, List.length_cons, sp_xs_len] at hlen
      obtain ⟨σ2, e2, a2, b2⟩ := oc_xst hx5 (sp_x5 (sp_stars (oy_ln T l) + m)) 0 ox_fu [] σ1 (Nat.zero_add _) b1 (by show 0 + _ + 1 ≤ 48; omega) (by show _ < 100000; omega)
      have es : (if ox_w (σ1 4 l 7 0 + (m : Int)) < 5 then ox_w (σ1 4 l 7 0 + (m : Int)) else 5) = ((sp_x5 (sp_stars (oy_ln T l) + m) : Nat) : Int) := by
        rw [d7, oy_w (by omega) (by omega)]
        unfold sp_x5
        by_cases z : sp_stars (oy_ln T l) + m < 5
        · rw [if_pos (by omega), if_pos z]
          omega
        · rw [if_neg (by omega), if_neg z]
          rfl
      have hto := sp_to_le (oy_ln T l)
      have hfr : sp_fr (oy_ln T l) = sp_stars (oy_ln T l) + 1 + (if sp_state (oy_ln T l) (sp_stars (oy_ln T l) + 1) < 0 then 0 else 5) := rfl
      have hfr2 : sp_fr (oy_ln T l) ≤ 11 := by
        rw [hfr]
        split <;> omega
      have hd2 := (oc_erd hT b2.1 hl).2.2.1 q0
      obtain ⟨σ3, e3, a3, b3⟩ := oc_xsg hT hto (sp_to (oy_ln T l) - sp_fr (oy_ln T l)) (sp_fr (oy_ln T l)) ox_fu _ σ2 (by omega) b2 (by
        rw [List.nil_append, List.length_append, List.length_replicate]
        show _ + 1 + _ ≤ 48
        omega) (by show _ < 100000; omega)
      refine ⟨σ3, ?_, a1.tr (a2.tr a3), by
        rw [List.nil_append, List.append_assoc] at b3
        exact b3⟩
      unfold F_Exp_putStars J_Exp_putStars_2 F_Exp_putSigns J_Exp_putSigns_3 J_Exp_putLine_122
      have e2' : ox_lp (B_Exp_putStars_2 (O.length : Int) ((sp_x5 (sp_stars (oy_ln T l) + m) : Nat) : Int)) ox_fu (0, σ1) = some σ2 := e2
      rw [es, e2', Option.bind_some, hd2.2.2.1, hd2.2.2.2.1, e3, Option.bind_some]
    rw [if_neg q0] at hlen
    rw [if_neg q0, if_neg q0]
    by_cases q4 : sp_kind (oy_ln T l) = 4
    · rw [if_pos q4] at hlen
      rw [if_pos q4, if_pos q4]
      have h12 := sp_nc_12 hT l
      obtain ⟨σ2, e2, a2, b2⟩ := oc_xce hT hfi hl (sp_nc T l) 0 ox_fu [] σ1 (Nat.zero_add _) b1 (by show 0 + _ ≤ 48; omega) (by show _ < 100000; omega)
      refine ⟨σ2, ?_, a1.tr a2, by
        rw [List.nil_append] at b2
        exact b2⟩
      have e2' : F_Exp_putCells (O.length : Int) (l : Int) σ1 = some σ2 := e2
      unfold J_Exp_putLine_122
      rw [e2', Option.bind_some]
    · rw [if_neg q4] at hlen
      rw [if_neg q4, if_neg q4]
      obtain ⟨σ2, e2, a2, b2⟩ := oc_xsg hT (Nat.le_refl (oy_ln T l).length) (oy_ln T l).length 0 ox_fu [] σ1 (Or.inl (Nat.zero_add _)) b1 (by show 0 + _ ≤ 48; omega) (by show _ < 100000; omega)
      refine ⟨σ2, ?_, a1.tr a2, by
        rw [List.nil_append] at b2
        exact b2⟩
      have hsz : F_Lin_size 0 (l : Int) σ1 = some (((oy_ln T l).length : Nat) : Int) := oc_size (oy_ok_L hT) b1.1.2.1 l
      have e2' : F_Exp_putSigns (O.length : Int) (l : Int) 0 ((oy_ln T l).length : Int) σ1 = some σ2 := e2
      unfold J_Exp_putLine_122
      rw [hsz, Option.bind_some, e2', Option.bind_some]
  by_cases q0 : sp_kind (oy_ln T l) = 0
  · rw [if_pos q0]
    exact main
  rw [if_neg q0]
  by_cases q4 : sp_kind (oy_ln T l) = 4
  · rw [if_pos q4]
    exact main
  · rw [if_neg q4, if_pos (by omega)]
    exact main
end OYN2
