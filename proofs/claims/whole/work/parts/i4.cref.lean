/-! ===== the class's sheet: a cell's sum; blocks, tops, open cells ===== -/
theorem oy_flat {α : Type} : ∀ (cs : List (List α)) (c : Nat), c < cs.length → ((cs.take (c + 1)).flatten).length = ((cs.take c).flatten).length + (cs.getD c []).length ∧ ∀ k t, (cs.getD c [])[k]? = some t → cs.flatten[((cs.take c).flatten).length + k]? = some t
  | [], _, h => absurd h (Nat.not_lt_zero _)
  | a :: cs, 0, _ => by
    refine ⟨by simp, fun k t h => ?_⟩
    have h' : a[k]? = some t := h
    have hk : k < a.length := by
      by_cases q : k < a.length
      · exact q
      · rw [List.getElem?_eq_none (by omega)] at h'
        cases h'
    rw [List.take_zero, List.flatten_nil, List.length_nil, Nat.zero_add, List.flatten_cons, List.getElem?_append_left hk]
    exact h'
  | a :: cs, c + 1, h => by
    obtain ⟨h1, h2⟩ := oy_flat cs c (by rw [List.length_cons] at h; omega)
    rw [List.take_succ_cons, List.take_succ_cons, List.flatten_cons, List.flatten_cons, List.flatten_cons, List.length_append, List.length_append, h1]
    refine ⟨Nat.add_assoc _ _ _ |>.symm, fun k t hk => ?_⟩
    rw [Nat.add_assoc, List.getElem?_append_right (by omega), Nat.add_sub_cancel_left]
    exact h2 k t hk
/-- the sheet alone -/
def oy_s5 (c _k _j _i : Nat) : Prop := c = 5
theorem oy_Q.fs5 {T : oy_T} {σ σ' : ox_H} (h : oy_Q T σ) (hf : oy_fs oy_s5 σ σ') : oy_Q T σ' := by
  have e1 : ∀ k j i, σ' 1 k j i = σ 1 k j i := fun k j i => hf _ _ _ _ (by unfold oy_s5; decide)
  have e2 : ∀ k j i, σ' 2 k j i = σ 2 k j i := fun k j i => hf _ _ _ _ (by unfold oy_s5; decide)
  have e4 : ∀ k j i, σ' 4 k j i = σ 4 k j i := fun k j i => hf _ _ _ _ (by unfold oy_s5; decide)
  have e6 : ∀ k j i, σ' 6 k j i = σ 6 k j i := fun k j i => hf _ _ _ _ (by unfold oy_s5; decide)
  unfold oy_Q oy_O oy_Oe oy_rd oy_hd oy_sm oy_L oy_60 at *
  simp only [e1, e2, e4, e6]
  exact h
theorem oy_td {a : Nat} : Int.tdiv (a : Int) 12 = ((a / 12 : Nat) : Int) ∧ Int.tmod (a : Int) 12 = ((a % 12 : Nat) : Int) := by
  constructor
  · rfl
  · rfl
section OYI4
variable {T : oy_T} {σ : ox_H} {f : Nat → Nat → Int}
theorem oc_suml2 (hQ : oy_Q T σ) (hT : oy_ok T) (hv : oy_vs f σ) (ht : oy_tps T σ) (hb : oy_bks T σ) (hf : ∀ l c, oy_rg (f l c)) {l e : Nat} (hl : l < T.length) (he : e ≤ 720) : ∀ (ts : List oy_Tm) (i n : Nat) (v : Int), (∀ k t, ts[k]? = some t → oy_tat (i + k) t σ) → (∀ t ∈ ts, oy_tok t) → i + ts.length = e → oy_rg v → v ≠ 1000001 → ts.length < n → ox_lp (B_She_sumOf_27 (l : Int) (e : Int) σ) n (v, (i : Int)) = some (sp_sv (sp_tv T f l) v ts)
  | _, _, 0, _, _, _, _, _, _, h => absurd h (Nat.not_lt_zero _)
  | [], i, n + 1, v, _, _, h3, _, _, _ => by
    rw [List.length_nil] at h3
    refine oy_lp_m (X := some v) ?_
    unfold B_She_sumOf_27 J_She_sumOf_90
    dsimp only
    rw [if_pos (by omega)]
  | t :: ts, i, n + 1, v, h1, h2, h3, h4, h5, h6 => by
    rw [List.length_cons] at h3 h6
    rw [sp_sv]
    by_cases e1 : v = 1000000
    · rw [if_pos e1]
      refine oy_lp_m (X := some v) ?_
      unfold B_She_sumOf_27 J_She_sumOf_90
      dsimp only
      rw [if_neg (by omega), oy_er, if_pos e1]
    rw [if_neg e1]
    have a0 : oy_tat i t σ := h1 0 t rfl
    have k0 := h2 t (List.mem_cons_self ..)
    have et := oc_termOf hQ hT hv ht hb hf hl (show i < 720 by omega) k0 a0
    have hr := sp_tv_rg hf l k0 (T := T)
    have ej : F_Sum_joinOf (i : Int) σ = some t.1 := by
      unfold F_Sum_joinOf J_Sum_joinOf_23
      rw [if_neg (by omega), if_neg (by omega), if_pos (by omega), Int.toNat_natCast, a0.1]
      have hk := k0.1
      have em : t.1 % 65536 = t.1 := by omega
      rw [em]
    generalize sp_tv T f l t = u at et hr
    by_cases e3 : u = 1000001 ∨ u = 1000000
    · rw [if_pos e3]
      refine oy_lp_m (X := some u) ?_
      unfold B_She_sumOf_27 J_She_sumOf_63
      dsimp only
      rw [if_neg (by omega), oy_er, oy_op, if_neg e1, et, Option.bind_some]
      by_cases e4 : u = 1000001
      · rw [if_pos e4]
      · rw [if_neg e4, if_pos (e3.resolve_left e4)]
    rw [if_neg e3]
    have r1 := oy_rg_nb h4 e1 h5
    have r2 := oy_rg_nb hr (fun q => e3 (Or.inr q)) (fun q => e3 (Or.inl q))
    have r3 := sp_jo_rg v t.1 u
    refine (oy_lp_l (a' := (sp_jo v t.1 u, ((i + 1 : Nat) : Int))) ?_).trans (oc_suml2 hQ hT hv ht hb hf hl he ts (i + 1) n _ (fun k t' hk => ?_) (fun t' hm => h2 t' (List.mem_cons_of_mem _ hm)) (by omega) r3.1 r3.2 (by omega))
    · unfold B_She_sumOf_27
      dsimp only
      rw [if_neg (by omega), oy_er, oy_op, if_neg e1, et, Option.bind_some, if_neg (fun q => e3 (Or.inl q)), if_neg (fun q => e3 (Or.inr q)), ej, Option.bind_some, oc_joined k0.1 r1 r2, Option.bind_some, oy_w1 (by omega)]
    · rw [show i + 1 + k = i + (k + 1) by omega]
      exact h1 (k + 1) t' hk
theorem oc_sumOf (hQ : oy_Q T σ) (hT : oy_ok T) (hv : oy_vs f σ) (ht : oy_tps T σ) (hb : oy_bks T σ) (hf : ∀ l c, oy_rg (f l c)) {l c : Nat} (hc : c < sp_nc T l) : F_She_sumOf ((12 * l + c : Nat) : Int) σ = some (sp_ce T f l c) := by
  have h60 := hT.1
  have hl := sp_nc_ln hc
  have h12 := sp_nc_12 hT l
  obtain ⟨_, _, s3, s4⟩ := (hQ.1.2.2.2 l hl).2.2.2.2.2.2.2
  rw [List.append_nil] at s4
  have hcl : c < (sp_cc (oy_ln T l)).length := hc
  have hfl := sp_cc_len (oy_ln T l) (oy_len24 hT l)
  obtain ⟨g1, g2⟩ := oy_flat _ c hcl
  have etd := oy_td (a := 12 * l + c)
  have ee : F_Sum_end ((12 * l + c : Nat) : Int) σ = some ((12 * l + (((sp_cc (oy_ln T l)).take (c + 1)).flatten).length : Nat) : Int) := by
    unfold F_Sum_end J_Sum_end_23
    rw [if_neg (by omega), if_neg (by omega), if_pos (by omega), Int.toNat_natCast, s3 c hcl]
  have ef : F_Sum_from ((12 * l + c : Nat) : Int) σ = some ((12 * l + (((sp_cc (oy_ln T l)).take c).flatten).length : Nat) : Int) := by
    unfold F_Sum_from J_Sum_from_18
    rw [etd.2]
    by_cases q : c = 0
    · subst q
      rw [if_pos (by omega), List.take_zero]
      rfl
    · rw [if_neg (by omega), show ox_w (((12 * l + c : Nat) : Int) - 1) = ((12 * l + (c - 1) : Nat) : Int) by rw [oy_w (by omega) (by omega)]; omega]
      unfold F_Sum_end J_Sum_end_23
      rw [if_neg (by omega), if_neg (by omega), if_pos (by omega), Int.toNat_natCast, s3 (c - 1) (by omega), Option.bind_some, show c - 1 + 1 = c by omega]
  have hle : (((sp_cc (oy_ln T l)).take (c + 1)).flatten).length ≤ 12 := by
    have h : ((sp_cc (oy_ln T l)).flatten).length = (((sp_cc (oy_ln T l)).take (c + 1)).flatten).length + (((sp_cc (oy_ln T l)).drop (c + 1)).flatten).length := by
      rw [← List.length_append, ← List.flatten_append, List.take_append_drop]
    omega
  unfold F_She_sumOf J_She_sumOf_27
  rw [ee, Option.bind_some, ef, Option.bind_some, etd.1, show ox_w (((12 * l + c) / 12 : Nat) : Int) = (l : Int) by rw [oy_w (by omega) (by omega)]; omega]
  unfold sp_ce
  rw [if_pos hc]
  have ok := sp_ts_tok hc
  have hlen : (sp_ts T l c).length = ((sp_cc (oy_ln T l)).getD c []).length := rfl
  exact oc_suml2 hQ hT hv ht hb hf hl (by omega) (sp_ts T l c) _ ox_fu 0 (fun k t hk => by
    have h := s4 _ t (g2 k t hk)
    unfold oy_tat
    rw [Nat.add_assoc]
    exact h) ok.2 (by omega) (Or.inl (by omega)) (by decide) (by show (sp_ts T l c).length < 100000; omega)
/-- a line's reading tells its kind -/
theorem oc_rdk (hQ : oy_Q T σ) (hT : oy_ok T) {l : Nat} (hl : l < 60) : ∃ r, F_Otl_reading (l : Int) σ = some r ∧ σ 4 r 0 0 = sp_kind (oy_ln T l) ∧ (sp_kind (oy_ln T l) = 5 → σ 4 r 1 0 = oy_wk (oy_ln T l) 1 - 97) := by
  have h60 := hT.1
  by_cases q : l < T.length
  · have h := hQ.1.2.2.2 l q
    exact ⟨l, oc_reading hQ.2.1.1 h60 q, h.1, h.2.2.2.2.2.1⟩
  · refine ⟨60, ?_, ?_, fun z => ?_⟩
    · unfold F_Otl_reading J_Otl_reading_21
      rw [if_neg (by omega), hQ.2.1.1, if_pos (by omega)]
    · rw [sp_kind_nil q]
      exact hQ.2.2.2.1
    · rw [sp_kind_nil q] at z
      exact absurd z (by decide)
theorem sp_code_in {w : List Int} (h : sp_kind w = 5) : 0 ≤ oy_wk w 1 - 97 ∧ oy_wk w 1 - 97 < 26 := by
  have hc := sp_kind_5 h
  unfold sp_code at hc
  rw [Bool.and_eq_true, decide_eq_true_eq, decide_eq_true_eq] at hc
  have h1 := hc.1.2.1
  unfold sp_lt at h1
  omega
theorem oc_fb1 : ∀ (k x n : Nat) (σ : ox_H), x + k = 26 → k < n → ∃ τ, ox_lp B_She_findBlocks_2 n ((x : Int), σ) = J_She_findBlocks_21 τ ∧ oy_fs oy_s5 σ τ ∧ (∀ i, i < 26 → x ≤ i ∨ σ 5 0 4 i = -1 → τ 5 0 4 i = -1) ∧ ∀ j i, j ≠ 4 → τ 5 0 j i = σ 5 0 j i
  | _, _, 0, _, _, h => absurd h (Nat.not_lt_zero _)
  | 0, x, n + 1, σ, h1, _ => by
    refine ⟨σ, oy_lp_m ?_, oy_fs.rf, fun i hi h => h.resolve_left (by omega), fun _ _ _ => rfl⟩
    unfold B_She_findBlocks_2
    dsimp only
    rw [if_pos (by omega)]
  | k + 1, x, n + 1, σ, h1, h2 => by
    obtain ⟨τ, e1, f1, g1, g2⟩ := oc_fb1 k (x + 1) n (ox_up σ 5 0 4 x (-1)) (by omega) (by omega)
    refine ⟨τ, (oy_lp_l (a' := (((x + 1 : Nat) : Int), ox_up σ 5 0 4 x (-1))) ?_).trans e1, (oy_fs.rf.up rfl).tr f1, fun i hi h => g1 i hi ?_, fun j i hj => (g2 j i hj).trans (oy_up_ne (fun q => hj q.2))⟩
    · unfold B_She_findBlocks_2
      dsimp only
      rw [if_neg (by omega), if_pos (by omega), Int.toNat_natCast, oy_w1 (by omega)]
    · by_cases q : i = x
      · subst q
        exact Or.inr oy_up_same
      · rw [oy_up_ni q]
        rcases h with h | h
        · exact Or.inl (by omega)
        · exact Or.inr h
theorem oc_fb2 (hT : oy_ok T) : ∀ (p n : Nat) (σ : ox_H), oy_Q T σ → p ≤ T.length → (∀ x : Nat, x < 26 → σ 5 0 4 x = oy_en (sp_bf T (x : Int) (T.length - p) p)) → p < n → ∃ τ, ox_lp B_She_findBlocks_34 n ((p : Int) - 1, σ) = some τ ∧ oy_fs oy_s5 σ τ ∧ oy_bks T τ ∧ ∀ j i, j ≠ 4 → τ 5 0 j i = σ 5 0 j i
  | _, 0, _, _, _, _, h => absurd h (Nat.not_lt_zero _)
  | 0, n + 1, σ, hQ, h1, h2, _ => by
    refine ⟨σ, oy_lp_m (X := some σ) ?_, oy_fs.rf, fun x hx => h2 x hx, fun _ _ _ => rfl⟩
    unfold B_She_findBlocks_34 J_She_findBlocks_87
    dsimp only
    rw [if_pos (by decide)]
  | p + 1, n + 1, σ, hQ, h1, h2, h3 => by
    have h60 := hT.1
    obtain ⟨r, er, ek, el⟩ := oc_rdk hQ hT (show p < 60 by omega)
    have ep : ((p + 1 : Nat) : Int) - 1 = (p : Int) := by omega
    have ew : ox_w ((p : Int) + (-1)) = (p : Int) - 1 := oy_w (by omega) (by omega)
    have eL : T.length - p = (T.length - (p + 1)) + 1 := by omega
    rw [ep]
    by_cases h5 : sp_kind (oy_ln T p) = 5
    rotate_left
    · obtain ⟨τ, e1, f1, g1, g2⟩ := oc_fb2 hT p n σ hQ (by omega) (fun x hx => by
        rw [eL, sp_bf, if_neg (fun q => h5 q.1)]
        exact h2 x hx) (by omega)
      refine ⟨τ, (oy_lp_l (a' := ((p : Int) - 1, σ)) ?_).trans e1, f1, g1, g2⟩
      unfold B_She_findBlocks_34 J_She_findBlocks_81
      dsimp only
      rw [if_neg (by omega), er, Option.bind_some, ek, if_neg h5, ew]
    have hin := sp_code_in h5
    have el5 := el h5
    obtain ⟨y, hy⟩ : ∃ y : Nat, oy_wk (oy_ln T p) 1 - 97 = (y : Int) := ⟨(oy_wk (oy_ln T p) 1 - 97).toNat, by omega⟩
    rw [hy] at hin el5
    obtain ⟨τ, e1, f1, g1, g2⟩ := oc_fb2 hT p n (ox_up σ 5 0 4 y (p : Int)) (hQ.fs5 (oy_fs.rf.up rfl)) (by omega) (fun x hx => by
        rw [eL, sp_bf]
        by_cases q : x = y
        · rw [q, if_pos ⟨h5, hy⟩]
          exact oy_up_same
        · rw [if_neg (fun z => q (by omega)), oy_up_ni q]
          exact h2 x hx) (by omega)
    refine ⟨τ, (oy_lp_l (a' := ((p : Int) - 1, ox_up σ 5 0 4 y (p : Int))) ?_).trans e1, (oy_fs.rf.up rfl).tr f1, g1, fun j i hj => (g2 j i hj).trans (oy_up_ne (fun q => hj q.2))⟩
    unfold B_She_findBlocks_34 J_She_findBlocks_81
    dsimp only
    rw [if_neg (by omega), er, Option.bind_some, ek, if_pos h5, el5, if_neg (by omega), if_neg (by omega), if_pos (by omega), Int.toNat_natCast, ew]
theorem oc_findBlocks (hT : oy_ok T) (hQ : oy_Q T σ) : ∃ τ, F_She_findBlocks σ = some τ ∧ oy_fs oy_s5 σ τ ∧ oy_bks T τ ∧ ∀ j i, j ≠ 4 → τ 5 0 j i = σ 5 0 j i := by
  have h60 := hT.1
  obtain ⟨σ1, e1, f1, g1, k1⟩ := oc_fb1 26 0 ox_fu σ rfl (by show 26 < 100000; decide)
  have Q1 := hQ.fs5 f1
  obtain ⟨σ2, e2, f2, g2, k2⟩ := oc_fb2 hT T.length ox_fu σ1 Q1 (Nat.le_refl _) (fun x hx => by
    rw [Nat.sub_self]
    exact g1 x hx (Or.inl (Nat.zero_le _))) (by show T.length < 100000; omega)
  refine ⟨σ2, ?_, f1.tr f2, g2, fun j i hj => (k2 j i hj).trans (k1 j i hj)⟩
  unfold F_She_findBlocks J_She_findBlocks_2
  refine Eq.trans e1 ?_
  unfold J_She_findBlocks_21 J_She_findBlocks_34
  rw [Q1.2.1.1, oy_w (by omega) (by omega)]
  exact e2
end OYI4
