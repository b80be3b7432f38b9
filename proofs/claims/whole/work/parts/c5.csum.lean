/-! ===== the class reads: sums, rows, code ===== -/
abbrev oy_Tm : Type := Int × Int × Int × Int
/-- a term's kind, letter, number -/
def sp_tm (w : List Int) (a : Nat) : Int × Int × Int :=
  if sp_dg (oy_wk w a) then (0, 0, (sp_nu w a).2)
  else if oy_wk w a = 83 then (2, oy_wk w (a + 1) - 97, 0)
  else if oy_wk w a = 40 then (3, oy_wk w (a + 1) - 97, 0)
  else if oy_wk w a = 58 then (4, oy_wk w (a + 1) - 97, 0)
  else (1, oy_wk w a - 97, oy_wk w (a + 1) - 48)
/-- the terms of a sum -/
def sp_tl (w : List Int) : Nat → Int → Nat → List oy_Tm
  | 0, _, _ => []
  | f + 1, jn, a => match sp_term w a with
    | none => []
    | some e => (jn, sp_tm w a) :: (if sp_jn (oy_wk w e) then sp_tl w f (oy_wk w e) (e + 1) else [])
/-- the terms of a cell -/
def sp_cel (w : List Int) (a : Nat) : List oy_Tm := if oy_wk w a = 61 then sp_tl w 6 43 (a + 1) else [((if oy_wk w a = 45 then 45 else 43), 0, 0, (sp_nu w (sp_sg w a)).2)]
/-- the cells of a row -/
def sp_cls (w : List Int) : Nat → Nat → List (List oy_Tm)
  | 0, _ => []
  | f + 1, a => if oy_wk w a = 124 then (match sp_cell w (a + 1) with | none => [] | some e => sp_cel w (a + 1) :: sp_cls w f e) else []
/-- what the sums hold of a line: cells that are ended, the terms of one that is not -/
def oy_sm (l : Nat) (cs : List (List oy_Tm)) (cur : List oy_Tm) (σ : ox_H) : Prop :=
  σ 6 0 0 l = cs.length ∧ σ 6 0 1 l = (cs.flatten ++ cur).length ∧ (∀ c, c < cs.length → σ 6 0 2 (12 * l + c) = ((12 * l + ((cs.take (c + 1)).flatten).length : Nat) : Int)) ∧
  ∀ t (m : oy_Tm), (cs.flatten ++ cur)[t]? = some m → σ 6 0 3 (12 * l + t) = m.1 ∧ σ 6 0 4 (12 * l + t) = m.2.1 ∧ σ 6 0 5 (12 * l + t) = m.2.2.1 ∧ σ 6 0 6 (12 * l + t) = m.2.2.2
theorem oy_up_ni {σ : ox_H} {c k j i c' k' j' i' : Nat} {v : Int} (h : i' ≠ i) : ox_up σ c k j i v c' k' j' i' = σ c' k' j' i' := by
  unfold ox_up
  rw [if_neg (fun q => h q.2.2.2)]
theorem oy_sm_pl {l a : Nat} {cs : List (List oy_Tm)} {cur : List oy_Tm} {σ : ox_H} (h : oy_sm l cs cur σ) : oy_sm l cs cur (oy_pl σ a) := by
  obtain ⟨h1, h2, h3, h4⟩ := h
  refine ⟨(oy_pl_ne (by decide)).trans h1, (oy_pl_ne (by decide)).trans h2, fun c hc => (oy_pl_ne (by decide)).trans (h3 c hc), fun t m hm => ?_⟩
  rw [oy_pl_ne (by decide), oy_pl_ne (by decide), oy_pl_ne (by decide), oy_pl_ne (by decide)]
  exact h4 t m hm
/-- what the sums of line l are -/
def oy_s6 (l : Nat) (c k j i : Nat) : Prop := c = 6 ∧ ((j < 2 ∧ i = l) ∨ (2 ≤ j ∧ 12 * l ≤ i ∧ i < 12 * l + 12))
theorem oy_sl6 {l k j i : Nat} (h : (j < 2 ∧ i = l) ∨ (2 ≤ j ∧ 12 * l ≤ i ∧ i < 12 * l + 12)) : oy_s6 l 6 k j i := ⟨rfl, h⟩
theorem oy_s6_sl {l c k j i : Nat} (h : oy_s6 l c k j i) : oy_sl l c k j i := Or.inr (Or.inr h)
theorem oy_R.fs6 {w : List Int} {l : Nat} {σ σ' : ox_H} (h : oy_R w σ) (hf : oy_fs (oy_s6 l) σ σ') : oy_R w σ' := h.fs (hf.mono (fun _ _ _ _ => oy_s6_sl))
section OYC5
variable {w : List Int} {σ : ox_H} {l : Nat} {cs : List (List oy_Tm)} {cur : List oy_Tm}
theorem oc_addTerm (hl : l < 60) (hs : oy_sm l cs cur σ) {a : Nat} {v k le nu : Int} (hv : 0 ≤ v ∧ v < 65536) (ht : (cs.flatten ++ cur).length ≤ 12) : ∃ τ, F_Sum_addTerm (l : Int) v k le nu (oy_pl σ a) = some (oy_pl τ a) ∧ oy_fs (oy_s6 l) σ τ ∧ ((cs.flatten ++ cur).length < 12 → oy_sm l cs (cur ++ [(v, k, le, nu)]) τ) := by
  obtain ⟨h1, h2, h3, h4⟩ := hs
  generalize hL : cs.flatten ++ cur = Lx at h2 h4 ht ⊢
  have e1 : (oy_pl σ a) 6 0 1 l = ((Lx.length : Nat) : Int) := (oy_pl_ne (by decide)).trans h2
  have e2 : ox_w (ox_w ((l : Int) * 12) + ((Lx.length : Nat) : Int)) = ((12 * l + Lx.length : Nat) : Int) := by
    rw [oy_w (x := (l : Int) * 12) (by omega) (by omega), oy_w (by omega) (by omega)]
    omega
  unfold F_Sum_addTerm J_Sum_addTerm_21
  rw [if_neg (by omega), if_neg (by omega), if_pos (by omega), Int.toNat_natCast, e1, e2, Int.toNat_natCast]
  by_cases h12 : Lx.length < 12
  rotate_left
  · rw [if_neg (by omega)]
    exact ⟨σ, rfl, oy_fs.rf, fun q => absurd q h12⟩
  rw [if_pos (show ((Lx.length : Nat) : Int) < 12 by omega), if_pos (show 0 ≤ (l : Int) ∧ l < 60 by omega), if_pos (show 0 ≤ ((12 * l + Lx.length : Nat) : Int) ∧ 12 * l + Lx.length < 720 by omega), if_pos (show 0 ≤ ((12 * l + Lx.length : Nat) : Int) ∧ 12 * l + Lx.length < 720 by omega), if_pos (show 0 ≤ ((12 * l + Lx.length : Nat) : Int) ∧ 12 * l + Lx.length < 720 by omega), if_pos (show 0 ≤ ((12 * l + Lx.length : Nat) : Int) ∧ 12 * l + Lx.length < 720 by omega), if_pos (show 0 ≤ (l : Int) ∧ l < 60 by omega), if_pos (show 0 ≤ (l : Int) ∧ l < 60 by omega)]
  rw [oy_pl_com (by decide), oy_pl_com (by decide), oy_pl_com (by decide), oy_pl_com (by decide), oy_pl_com (by decide), oy_w1 (by omega), Int.emod_eq_of_lt hv.1 hv.2]
  refine ⟨_, rfl, ((((oy_fs.rf.up (oy_sl6 (Or.inr (by omega)))).up (oy_sl6 (Or.inr (by omega)))).up (oy_sl6 (Or.inr (by omega)))).up (oy_sl6 (Or.inr (by omega)))).up (oy_sl6 (Or.inl (by omega))), fun _ => ?_⟩
  have eL : cs.flatten ++ (cur ++ [(v, k, le, nu)]) = Lx ++ [(v, k, le, nu)] := by rw [← List.append_assoc, hL]
  refine ⟨?_, ?_, fun c hc => ?_, fun t m hm => ?_⟩
  · rw [oy_up_ne (by decide), oy_up_ne (by decide), oy_up_ne (by decide), oy_up_ne (by decide), oy_up_ne (by decide)]
    exact h1
  · rw [eL, List.length_append]
    exact oy_up_same
  · rw [oy_up_ne (by decide), oy_up_ne (by decide), oy_up_ne (by decide), oy_up_ne (by decide), oy_up_ne (by decide)]
    exact h3 c hc
  · rw [eL] at hm
    by_cases q : t < Lx.length
    · rw [List.getElem?_append_left q] at hm
      have hne : 12 * l + t ≠ 12 * l + Lx.length := by omega
      obtain ⟨q1, q2, q3, q4⟩ := h4 t m hm
      refine ⟨?_, ?_, ?_, ?_⟩
      · rw [oy_up_ne (by decide), oy_up_ni hne, oy_up_ni hne, oy_up_ni hne, oy_up_ni hne]; exact q1
      · rw [oy_up_ne (by decide), oy_up_ni hne, oy_up_ni hne, oy_up_ni hne, oy_up_ni hne]; exact q2
      · rw [oy_up_ne (by decide), oy_up_ni hne, oy_up_ni hne, oy_up_ni hne, oy_up_ni hne]; exact q3
      · rw [oy_up_ne (by decide), oy_up_ni hne, oy_up_ni hne, oy_up_ni hne, oy_up_ni hne]; exact q4
    · have hle : Lx.length ≤ t := by omega
      rw [List.getElem?_append_right hle] at hm
      have hz : t - Lx.length = 0 := by
        by_cases z : t - Lx.length = 0
        · exact z
        · rw [List.getElem?_eq_none (by show 1 ≤ _; omega)] at hm; cases hm
      rw [hz] at hm
      have hm2 : m = (v, k, le, nu) := (Option.some.inj hm).symm
      have hte : t = Lx.length := by omega
      rw [hm2, hte]
      refine ⟨?_, ?_, ?_, ?_⟩
      · rw [oy_up_ne (by decide), oy_up_ne (by decide), oy_up_ne (by decide), oy_up_ne (by decide)]; exact oy_up_same
      · rw [oy_up_ne (by decide), oy_up_ne (by decide), oy_up_ne (by decide)]; exact oy_up_same
      · rw [oy_up_ne (by decide), oy_up_ne (by decide)]; exact oy_up_same
      · rw [oy_up_ne (by decide)]; exact oy_up_same
theorem oc_endCell (hl : l < 60) (hs : oy_sm l cs cur σ) {a : Nat} (ht : (cs.flatten ++ cur).length ≤ 12) (hc : cs.length < 12) : ∃ τ, F_Sum_endCell (l : Int) (oy_pl σ a) = some (oy_pl τ a) ∧ oy_fs (oy_s6 l) σ τ ∧ oy_sm l (cs ++ [cur]) [] τ := by
  obtain ⟨h1, h2, h3, h4⟩ := hs
  have e0 : (oy_pl σ a) 6 0 0 l = ((cs.length : Nat) : Int) := (oy_pl_ne (by decide)).trans h1
  have e1 : (oy_pl σ a) 6 0 1 l = (((cs.flatten ++ cur).length : Nat) : Int) := (oy_pl_ne (by decide)).trans h2
  have e2 : ox_w (ox_w ((l : Int) * 12) + ((cs.length : Nat) : Int)) = ((12 * l + cs.length : Nat) : Int) := by
    rw [oy_w (x := (l : Int) * 12) (by omega) (by omega), oy_w (by omega) (by omega)]
    omega
  have e3 : ox_w (ox_w ((l : Int) * 12) + (((cs.flatten ++ cur).length : Nat) : Int)) = ((12 * l + (cs.flatten ++ cur).length : Nat) : Int) := by
    rw [oy_w (x := (l : Int) * 12) (by omega) (by omega), oy_w (by omega) (by omega)]
    omega
  unfold F_Sum_endCell J_Sum_endCell_21
  rw [if_neg (by omega), if_neg (by omega), if_pos (by omega), Int.toNat_natCast, e0, e1, e2, e3, Int.toNat_natCast]
  rw [if_pos (show ((cs.length : Nat) : Int) < 12 by omega), if_pos (show 0 ≤ (l : Int) ∧ l < 60 by omega), if_pos (show 0 ≤ (l : Int) ∧ l < 60 by omega), if_pos (show 0 ≤ ((12 * l + cs.length : Nat) : Int) ∧ 12 * l + cs.length < 720 by omega), if_pos (show 0 ≤ (l : Int) ∧ l < 60 by omega), if_pos (show 0 ≤ (l : Int) ∧ l < 60 by omega)]
  rw [oy_pl_com (by decide), oy_pl_com (by decide), oy_w1 (by omega)]
  have eL : (cs ++ [cur]).flatten ++ [] = cs.flatten ++ cur := by rw [List.append_nil, List.flatten_append]; simp
  refine ⟨_, rfl, (oy_fs.rf.up (oy_sl6 (Or.inr (by omega)))).up (oy_sl6 (Or.inl (by omega))), ?_⟩
  refine ⟨?_, ?_, fun c hc2 => ?_, fun t m hm => ?_⟩
  · refine oy_up_same.trans ?_
    rw [List.length_append]
    rfl
  · rw [eL, oy_up_ne (by decide), oy_up_ne (by decide)]
    exact h2
  · rw [List.length_append] at hc2
    have hc3 : c < cs.length + 1 := hc2
    rw [oy_up_ne (by decide)]
    by_cases q : c = cs.length
    · rw [q, oy_up_same, List.take_of_length_le (by rw [List.length_append]; exact Nat.le_refl _), ← eL, List.append_nil]
    · rw [oy_up_ni (by omega), List.take_append_of_le_length (by omega)]
      exact h3 c (by omega)
  · rw [eL] at hm
    rw [oy_up_ne (by decide), oy_up_ne (by decide), oy_up_ne (by decide), oy_up_ne (by decide), oy_up_ne (by decide), oy_up_ne (by decide), oy_up_ne (by decide), oy_up_ne (by decide)]
    exact h4 t m hm
theorem oc_term (hR : oy_R w σ) (h3 : σ 3 0 3 0 = (l : Int)) (hl : l < 60) (hs : oy_sm l cs cur σ) {a : Nat} {v : Int} (hv : 0 ≤ v ∧ v < 65536) (ht : (cs.flatten ++ cur).length ≤ 12) (ha : a < w.length → (cs.flatten ++ cur).length < 12) (ha2 : a ≤ 100) :
    ∃ r τ a', F_Rdr_takeTerm v (oy_pl σ a) = some (r, oy_pl τ a') ∧ oy_fs (oy_s6 l) σ τ ∧ (sp_term w a = none → r = 0) ∧ ∀ e, sp_term w a = some e → r = 1 ∧ a' = e ∧ oy_sm l cs (cur ++ [(v, sp_tm w a)]) τ := by
  have fin : ∀ (k le nu : Int) (b : Nat) (o : Option Nat), sp_term w a = o → (o = none → le = -1 ∨ nu = -1) → (∀ e, o = some e → le ≠ -1 ∧ nu ≠ -1 ∧ b = e ∧ sp_tm w a = (k, le, nu)) →
      ∃ r τ a', J_Rdr_takeTerm_121 v k le nu (oy_pl σ b) = some (r, oy_pl τ a') ∧ oy_fs (oy_s6 l) σ τ ∧ (sp_term w a = none → r = 0) ∧ ∀ e, sp_term w a = some e → r = 1 ∧ a' = e ∧ oy_sm l cs (cur ++ [(v, sp_tm w a)]) τ := by
    intro k le nu b o ho hn hy
    obtain ⟨τ, e1, f1, g1⟩ := oc_addTerm hl hs (a := b) (k := k) (le := le) (nu := nu) hv ht
    unfold J_Rdr_takeTerm_121 J_Rdr_takeTerm_152 J_Rdr_takeTerm_153
    rw [oy_pl_ne (by decide), h3, e1, Option.bind_some, ho]
    cases o with
    | none =>
      by_cases q1 : le = -1
      · rw [if_pos q1]
        exact ⟨_, _, _, rfl, f1, fun _ => rfl, fun e h => by cases h⟩
      · rw [if_neg q1, if_pos ((hn rfl).elim (fun z => absurd z q1) id)]
        exact ⟨_, _, _, rfl, f1, fun _ => rfl, fun e h => by cases h⟩
    | some e =>
      obtain ⟨y1, y2, y3, y4⟩ := hy e rfl
      rw [if_neg y1, if_neg y2]
      have hlt : a < w.length := (sp_term_ge w a e ho).2.2
      exact ⟨_, _, _, rfl, f1, fun h => by (cases h), fun e' h => by
        cases h
        rw [y4]
        exact ⟨rfl, y3, g1 (ha hlt)⟩⟩
  unfold F_Rdr_takeTerm J_Rdr_takeTerm_60
  by_cases h83 : oy_wk w a = 83
  · have nd : ¬ sp_dg (oy_wk w a) := fun q => by have := q.2; omega
    have hm : sp_tm w a = (2, oy_wk w (a + 1) - 97, 0) := by unfold sp_tm; rw [if_neg nd, if_pos h83]
    rw [oc_tk1 hR (b := a + 1) (by decide) h83 rfl, Option.bind_some, if_neg oy_10]
    by_cases h5 : 97 ≤ oy_wk w (a + 1) ∧ oy_wk w (a + 1) ≤ 101
    · rw [oc_le1 hR (b := a + 2) h5 rfl, Option.bind_some]
      refine fin _ _ _ _ (some (a + 2)) (by unfold sp_term; rw [if_neg nd, if_pos h83, if_pos h5]) (fun q => by cases q) (fun e h => by cases h; exact ⟨by omega, by decide, rfl, hm⟩)
    · rw [oc_le0 hR h5, Option.bind_some]
      refine fin _ _ _ _ none (by unfold sp_term; rw [if_neg nd, if_pos h83, if_neg h5]) (fun q => Or.inl rfl) (fun e h => by cases h)
  rw [oc_tk0 hR h83, Option.bind_some, if_pos rfl]
  dsimp only
  by_cases h40 : oy_wk w a = 40
  · have nd : ¬ sp_dg (oy_wk w a) := fun q => by have := q.1; omega
    have hm : sp_tm w a = (3, oy_wk w (a + 1) - 97, 0) := by unfold sp_tm; rw [if_neg nd, if_neg h83, if_pos h40]
    rw [oc_tk1 hR (b := a + 1) (by decide) h40 rfl, Option.bind_some, if_neg oy_10]
    dsimp only
    by_cases h5 : sp_lt (oy_wk w (a + 1))
    · rw [oc_le1 hR (b := a + 2) h5 rfl, Option.bind_some]
      dsimp only
      by_cases h6 : oy_wk w (a + 2) = 41
      · rw [oc_tk1 hR (b := a + 3) (by decide) h6 rfl, Option.bind_some, if_neg oy_10]
        have := h5.1
        refine fin _ _ _ _ (some (a + 3)) (by unfold sp_term; rw [if_neg nd, if_neg h83, if_pos h40, if_pos ⟨h5, h6⟩]) (fun q => by cases q) (fun e h => by cases h; exact ⟨by omega, by decide, rfl, hm⟩)
      · rw [oc_tk0 hR h6, Option.bind_some, if_pos rfl]
        refine fin _ _ _ _ none (by unfold sp_term; rw [if_neg nd, if_neg h83, if_pos h40, if_neg (fun q => h6 q.2)]) (fun q => Or.inr rfl) (fun e h => by cases h)
    · rw [oc_le0 hR h5, Option.bind_some]
      dsimp only
      have hsn : sp_term w a = none := by unfold sp_term; rw [if_neg nd, if_neg h83, if_pos h40, if_neg (fun q => h5 q.1)]
      by_cases h6 : oy_wk w (a + 1) = 41
      · rw [oc_tk1 hR (b := a + 2) (by decide) h6 rfl, Option.bind_some, if_neg oy_10]
        exact fin _ _ _ _ none hsn (fun q => Or.inl rfl) (fun e h => by cases h)
      · rw [oc_tk0 hR h6, Option.bind_some, if_pos rfl]
        exact fin _ _ _ _ none hsn (fun q => Or.inl rfl) (fun e h => by cases h)
  rw [oc_tk0 hR h40, Option.bind_some, if_pos rfl]
  dsimp only
  by_cases h58 : oy_wk w a = 58
  · have nd : ¬ sp_dg (oy_wk w a) := fun q => by have := q.2; omega
    have hm : sp_tm w a = (4, oy_wk w (a + 1) - 97, 0) := by unfold sp_tm; rw [if_neg nd, if_neg h83, if_neg h40, if_pos h58]
    rw [oc_tk1 hR (b := a + 1) (by decide) h58 rfl, Option.bind_some, if_neg oy_10]
    dsimp only
    by_cases h5 : sp_lt (oy_wk w (a + 1))
    · rw [oc_le1 hR (b := a + 2) h5 rfl, Option.bind_some]
      have := h5.1
      refine fin _ _ _ _ (some (a + 2)) (by unfold sp_term; rw [if_neg nd, if_neg h83, if_neg h40, if_pos h58, if_pos h5]) (fun q => by cases q) (fun e h => by cases h; exact ⟨by omega, by decide, rfl, hm⟩)
    · rw [oc_le0 hR h5, Option.bind_some]
      refine fin _ _ _ _ none (by unfold sp_term; rw [if_neg nd, if_neg h83, if_neg h40, if_pos h58, if_neg h5]) (fun q => Or.inl rfl) (fun e h => by cases h)
  rw [oc_tk0 hR h58, Option.bind_some, if_pos rfl]
  dsimp only
  rw [oc_peek hR, Option.bind_some]
  by_cases h97 : oy_wk w a < 97
  · rw [if_pos h97, oc_number hR (by omega), Option.bind_some]
    have hn := sp_nu_in w a
    by_cases hd : sp_dg (oy_wk w a)
    · have h9 := sp_nu_dg w a hd
      have hm : sp_tm w a = (0, 0, (sp_nu w a).2) := by unfold sp_tm; rw [if_pos hd]
      exact fin _ _ _ _ (some (sp_nu w a).1) (by unfold sp_term; rw [if_pos hd]) (fun q => by cases q) (fun e h => by cases h; exact ⟨by decide, by omega, rfl, hm⟩)
    · have h9 := sp_nu_nd w a hd
      have h10 : (sp_nu w a).2 = -1 := by rw [h9]
      exact fin _ _ _ _ none (by unfold sp_term; rw [if_neg hd, if_neg h83, if_neg h40, if_neg h58, if_neg (fun q => by have := q.1.1; omega)]) (fun q => Or.inr h10) (fun e h => by cases h)
  · have nd : ¬ sp_dg (oy_wk w a) := fun q => by have := q.2; omega
    have hm : sp_tm w a = (1, oy_wk w a - 97, oy_wk w (a + 1) - 48) := by unfold sp_tm; rw [if_neg nd, if_neg h83, if_neg h40, if_neg h58]
    rw [if_neg h97]
    by_cases h5 : 97 ≤ oy_wk w a ∧ oy_wk w a ≤ 101
    · rw [oc_le1 hR (b := a + 1) h5 rfl, Option.bind_some]
      dsimp only
      by_cases h6 : 49 ≤ oy_wk w (a + 1) ∧ oy_wk w (a + 1) ≤ 57
      · rw [oc_di1 hR (b := a + 2) (by decide) h6 rfl, Option.bind_some]
        exact fin _ _ _ _ (some (a + 2)) (by unfold sp_term; rw [if_neg nd, if_neg h83, if_neg h40, if_neg h58, if_pos ⟨h5, h6⟩]) (fun q => by cases q) (fun e h => by cases h; exact ⟨by omega, by omega, rfl, hm⟩)
      · rw [oc_di0 hR h6, Option.bind_some]
        exact fin _ _ _ _ none (by unfold sp_term; rw [if_neg nd, if_neg h83, if_neg h40, if_neg h58, if_neg (fun q => h6 q.2)]) (fun q => Or.inr rfl) (fun e h => by cases h)
    · rw [oc_le0 hR h5, Option.bind_some]
      dsimp only
      have hsn : sp_term w a = none := by unfold sp_term; rw [if_neg nd, if_neg h83, if_neg h40, if_neg h58, if_neg (fun q => h5 q.1)]
      by_cases h6 : 49 ≤ oy_wk w a ∧ oy_wk w a ≤ 57
      · rw [oc_di1 hR (b := a + 1) (by decide) h6 rfl, Option.bind_some]
        exact fin _ _ _ _ none hsn (fun q => Or.inl rfl) (fun e h => by cases h)
      · rw [oc_di0 hR h6, Option.bind_some]
        exact fin _ _ _ _ none hsn (fun q => Or.inl rfl) (fun e h => by cases h)
end OYC5
