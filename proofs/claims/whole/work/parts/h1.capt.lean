/-! ===== titles; the call capture ===== -/
/-- the first entry whose title begins so; -1: none -/
def sp_ti (T : oy_T) (c : Int) : Int := if sp_tt T c < sp_n T then (sp_tt T c : Int) else -1
/-- where what comes at its part's end is put -/
def sp_eu (T : oy_T) (p : Int) : Nat := if p < 0 then T.length else sp_en T (sp_la T p.toNat)
def sp_ow (T : oy_T) (p : Int) : Nat := if p < 0 then 1 else sp_lv T p.toNat + 1
def sp_stl (n : Nat) : List Int := List.replicate n 42
def sp_cw (n : Nat) (t : Int) : List Int := sp_stl n ++ sp_wf 5 6 0 ++ [97 + t]
def sp_caT (T : oy_T) (u t : Int) : oy_T := sp_put (sp_ins T (sp_eu T (sp_ti T (97 + u))) 1) (sp_eu T (sp_ti T (97 + u))) (sp_cw (sp_ow T (sp_ti T (97 + u))) t)
def sp_capture (T : oy_T) (u t : Int) : (Nat ⊕ Int) × oy_T := if (0 ≤ u ∧ u < 26) ∧ (0 ≤ t ∧ t < 26) then (if sp_ow T (sp_ti T (97 + u)) ≤ 5 ∧ T.length < 60 then (.inr ((sp_esn (sp_caT T u t) (sp_eu T (sp_ti T (97 + u)))).length : Int), sp_caT T u t) else (.inl 3, T)) else (.inl 2, T)
theorem sp_ti_in {T : oy_T} {c : Int} : (sp_ti T c = -1) ∨ (0 ≤ sp_ti T c ∧ sp_ti T c < sp_n T) := by
  unfold sp_ti
  split
  · exact Or.inr ⟨by omega, by omega⟩
  · exact Or.inl rfl
theorem sp_eu_le {T : oy_T} {p : Int} : sp_eu T p ≤ T.length := by
  unfold sp_eu
  split
  · exact Nat.le_refl _
  · exact sp_en_le _
theorem oy_wk_apl {a b : List Int} {i : Nat} (h : i < a.length) : oy_wk (a ++ b) i = oy_wk a i := by
  unfold oy_wk
  rw [List.getD_eq_getElem?_getD, List.getElem?_append_left h, ← List.getD_eq_getElem?_getD]
theorem sp_st5 : ∀ n, n < 6 → 1 ≤ n → sp_isH (sp_stl n ++ [32]) ∧ sp_stars (sp_stl n ++ [32]) = n ∧ sp_old (sp_stl n ++ [32]) = 0 ∧ sp_ws (sp_stl n ++ [32]) 0 (n + 1) 0 = sp_stl n ++ sp_wf 5 6 0 ∧ (sp_stl n).length = n := by decide
theorem sp_cw_good {n : Nat} {t : Int} (hn : n < 6) (ht : 0 ≤ t ∧ t < 26) : oy_good 0 (sp_cw n t) ∧ (sp_cw n t).length = n + 7 := by
  have h1 : ∀ n, n < 6 → (sp_stl n ++ sp_wf 5 6 0).length = n + 6 ∧ ∀ x ∈ sp_stl n ++ sp_wf 5 6 0, 32 ≤ x ∧ x ≤ 126 := by decide
  obtain ⟨h2, h3⟩ := h1 n hn
  refine ⟨oy_good_app (⟨by rw [h2]; show _ ≤ 24; omega, h3⟩) (by rw [h2]; show _ < 24; omega) (by omega), ?_⟩
  unfold sp_cw
  rw [List.length_append, h2]
  rfl
theorem sp_cw_H {n : Nat} {t : Int} (hn : n < 6) (h1 : 1 ≤ n) : sp_isH (sp_cw n t) := by
  obtain ⟨a1, a2, a3, a4, a5⟩ := sp_st5 n hn h1
  refine (oy_same_H (w' := sp_cw n t) a1 (fun i hi => ?_)).1
  rw [a2] at hi
  have e : sp_cw n t = (sp_stl n ++ [32]) ++ ([84, 79, 68, 79, 32] ++ [97 + t]) := by
    have : sp_wf 5 6 0 = [32] ++ [84, 79, 68, 79, 32] := by decide
    unfold sp_cw
    rw [this]
    simp only [List.append_assoc]
  rw [e, oy_wk_apl (by rw [List.length_append, a5]; show i < n + 1; omega)]
theorem sp_caT_ok {T : oy_T} {u t : Int} (hT : oy_ok T) (ht : 0 ≤ t ∧ t < 26) (ho : sp_ow T (sp_ti T (97 + u)) ≤ 5) (h60 : T.length < 60) : oy_ok (sp_caT T u t) := oy_ok_put (sp_ins_ok (k := 0) hT (by show _ ≤ 60; omega)) (sp_cw_good (by omega) ht).1
theorem sp_ow_1 {T : oy_T} {p : Int} : 1 ≤ sp_ow T p := by
  unfold sp_ow
  split <;> omega
theorem sp_ins_put {T : oy_T} {a : Nat} (ha : a ≤ T.length) : oy_ln (sp_ins T a 1) a = [] := by
  rw [sp_ins_ln (by omega), if_neg (Nat.lt_irrefl _), if_pos (by omega)]
section OYH1
variable {T : oy_T} {σ : ox_H}
theorem oc_firstSign (hT : oy_ok T) (hQ : oy_Q T σ) {e : Nat} (he : e < sp_n T) : F_Otl_firstSign (e : Int) σ = some (if sp_ini T e = -1 then 0 else sp_ini T e) := by
  have hen := sp_en_lt he
  obtain ⟨d7, d8, d9, d10, d11⟩ := oc_ehd hQ he
  obtain ⟨q1, q2⟩ := oc_erd hT hQ hen.1
  unfold F_Otl_firstSign J_Otl_firstSign_41 sp_ini
  rw [oc_eln hT hQ he, Option.bind_some, q1, Option.bind_some]
  by_cases z : sp_to (sp_eln T e) ≤ sp_fr (sp_eln T e)
  · rw [if_pos (show σ 4 (sp_en T e) 10 0 ≤ σ 4 (sp_en T e) 9 0 by rw [d9, d10]; omega), if_pos z, if_pos rfl]
    rfl
  · have hw := oy_wk_le hT (sp_en T e) (sp_fr (sp_eln T e))
    rw [if_neg (show ¬ σ 4 (sp_en T e) 10 0 ≤ σ 4 (sp_en T e) 9 0 by rw [d9, d10]; omega), if_neg z, Option.bind_some, d9, oc_at (oy_ok_L hT) hQ.2.1 hQ.2.2.1, Option.bind_some]
    have e0 : oy_ln T (sp_en T e) = sp_eln T e := rfl
    rw [e0] at hw ⊢
    rw [if_neg (by omega), Int.emod_eq_of_lt hw.1 (by omega)]
theorem oc_titled (hT : oy_ok T) (hQ : oy_Q T σ) {c : Int} (hc : 1 ≤ c) : F_Otl_titled c σ = some (sp_ti T c) := by
  have h60 := hT.1
  have hn := sp_n_le (T := T)
  unfold F_Otl_titled J_Otl_titled_2
  have hl := oy_lfC (B_Otl_titled_2 c σ) (fun e => decide (sp_ini T e = c)) (fun k => if k < sp_n T then (k : Int) else -1) 0 (sp_n T) (fun k h1 h2 hp => by
      have hp := of_decide_eq_false hp
      unfold B_Otl_titled_2
      rw [hQ.1.1, if_neg (by omega), if_neg (by omega), oc_firstSign hT hQ h2, Option.bind_some, if_neg (by split <;> omega), oy_w1 (by omega)]) (fun k h1 h2 hp => by
      have hp := of_decide_eq_true hp
      unfold B_Otl_titled_2 J_Otl_titled_23
      rw [hQ.1.1, if_neg (by omega), if_neg (by omega), oc_firstSign hT hQ h2, Option.bind_some, if_pos (by rw [if_neg (by omega)]; exact hp), if_pos h2]
      rfl) (by
      unfold B_Otl_titled_2 J_Otl_titled_31
      rw [hQ.1.1, if_pos (Int.le_refl _), if_neg (Nat.lt_irrefl _)]
      rfl) (sp_n T) ox_fu 0 (by omega) (Nat.le_refl _) (by show _ < 100000; omega)
  exact hl
theorem oc_endUnder (hT : oy_ok T) (hQ : oy_Q T σ) {p : Int} (hp : p = -1 ∨ (0 ≤ p ∧ p < sp_n T)) : F_Otl_endUnder p σ = some ((sp_eu T p : Nat) : Int) := by
  unfold F_Otl_endUnder J_Otl_endUnder_20 sp_eu
  rcases hp with rfl | ⟨h1, h2⟩
  · rw [if_pos rfl, if_pos (by decide), hQ.2.1.1]
  · obtain ⟨e, rfl⟩ : ∃ e : Nat, p = e := ⟨p.toNat, by omega⟩
    rw [if_neg (by omega), oc_partEnd hT hQ (by omega), Option.bind_some, if_neg (by omega), Int.toNat_natCast]
theorem oc_capture (hT : oy_ok T) (h : oy_cs T σ) (hv : σ 1 0 5 0 ≤ 1000000000) {u t : Int} : ∃ σ1, F_Out_capture u t σ = some ((sp_capture T u t).1, σ1) ∧ oy_st 20 T (sp_capture T u t).2 σ σ1 := by
  have h60 := hT.1
  have hn := sp_n_le (T := T)
  unfold F_Out_capture sp_capture
  rw [oc_checkLetter (a := u), Option.bind_some]
  by_cases qu : 0 ≤ u ∧ u < 26
  rotate_left
  · rw [if_neg qu, if_neg (show ¬ ((0 ≤ u ∧ u < 26) ∧ (0 ≤ t ∧ t < 26)) from fun z => qu z.1)]
    exact ⟨σ, rfl, (oy_st.rf h).mono (by omega)⟩
  rw [if_pos qu]
  dsimp only
  rw [oc_checkLetter (a := t), Option.bind_some]
  by_cases qt : 0 ≤ t ∧ t < 26
  rotate_left
  · rw [if_neg qt, if_neg (show ¬ ((0 ≤ u ∧ u < 26) ∧ (0 ≤ t ∧ t < 26)) from fun z => qt z.2)]
    exact ⟨σ, rfl, (oy_st.rf h).mono (by omega)⟩
  rw [if_pos qt, if_pos (⟨qu, qt⟩ : (0 ≤ u ∧ u < 26) ∧ (0 ≤ t ∧ t < 26))]
  obtain ⟨σ1, e1, s1, q1⟩ := oy_cs_ask hT h
  have hv1 : σ1 1 0 5 0 ≤ 1000000000 := by
    obtain ⟨-, -, d, hd, hd2, -⟩ := s1
    omega
  have ewu : Nat → ox_w (97 + u) % 65536 = 97 + u := fun _ => by rw [oy_w (by omega) (by omega), Int.emod_eq_of_lt (by omega) (by omega)]
  have ewt : Nat → ox_w (97 + t) % 65536 = 97 + t := fun _ => by rw [oy_w (by omega) (by omega), Int.emod_eq_of_lt (by omega) (by omega)]
  dsimp only
  rw [e1, Option.bind_some, (ewu 0), oc_titled hT q1 (by omega), Option.bind_some]
  have hp := sp_ti_in (T := T) (c := 97 + u)
  unfold sp_caT
  generalize sp_ti T (97 + u) = p at hp ⊢
  have how := sp_ow_1 (T := T) (p := p)
  have hle := sp_eu_le (T := T) (p := p)
  have key : ∃ σ2, J_Out_capture_47 t p ((sp_ow T p : Nat) : Int) σ1 = some ((if sp_ow T p ≤ 5 ∧ T.length < 60 then ((.inr ((sp_esn (sp_put (sp_ins T (sp_eu T p) 1) (sp_eu T p) (sp_cw (sp_ow T p) t)) (sp_eu T p)).length : Int), sp_put (sp_ins T (sp_eu T p) 1) (sp_eu T p) (sp_cw (sp_ow T p) t)) : (Nat ⊕ Int) × oy_T) else (.inl 3, T)).1, σ2) ∧ oy_st 20 T (if sp_ow T p ≤ 5 ∧ T.length < 60 then ((.inr ((sp_esn (sp_put (sp_ins T (sp_eu T p) 1) (sp_eu T p) (sp_cw (sp_ow T p) t)) (sp_eu T p)).length : Int), sp_put (sp_ins T (sp_eu T p) 1) (sp_eu T p) (sp_cw (sp_ow T p) t)) : (Nat ⊕ Int) × oy_T) else (.inl 3, T)).2 σ σ2 := by
    unfold J_Out_capture_47
    by_cases h5 : sp_ow T p ≤ 5
    rotate_left
    · rw [if_neg (show ¬ ((sp_ow T p : Nat) : Int) ≤ 5 by omega), if_neg (fun z => h5 z.1)]
      exact ⟨σ1, rfl, s1.mono (by omega)⟩
    rw [if_pos (show ((sp_ow T p : Nat) : Int) ≤ 5 by omega), oc_room s1.2.1.1.1 hT (m := 1) (by decide), Option.bind_some]
    by_cases h6 : T.length < 60
    rotate_left
    · rw [if_neg (show ¬ (T.length : Int) + 1 ≤ 60 by omega), if_neg (fun z => h6 z.2)]
      exact ⟨σ1, rfl, s1.mono (by omega)⟩
    rw [if_pos (show (T.length : Int) + 1 ≤ 60 by omega), if_pos ⟨h5, h6⟩]
    dsimp only
    rw [oc_endUnder hT q1 hp, Option.bind_some]
    obtain ⟨σ2, e2, d2⟩ := oc_open (oy_ok_L hT) q1.2.1 q1.2.2.1 s1.2.1.1.1.2.2.1 (a := sp_eu T p) (m := 1) hle (by omega) (by show _ ≤ 60; omega)
    have e2' : F_Lin_open 0 ((sp_eu T p : Nat) : Int) 1 σ1 = some σ2 := e2
    have hT1 : oy_ok (sp_ins T (sp_eu T p) 1) := sp_ins_ok (k := 0) hT (by show _ ≤ 60; omega)
    have hl1 : sp_eu T p < (sp_ins T (sp_eu T p) 1).length := by rw [sp_ins_len]; omega
    rw [e2', Option.bind_some]
    unfold J_Out_capture_93
    have hrep : ∀ i, sp_stl i ++ [42] = sp_stl (i + 1) := fun i => by
      unfold sp_stl
      rw [← List.replicate_succ']
    have hslen : ∀ i, (sp_stl i).length = i := fun i => List.length_replicate
    have hsg : ∀ i, i ≤ 5 → oy_good 0 (sp_stl i) := fun i hi => ⟨by rw [hslen]; show i ≤ 24; omega, fun x hx => by rw [List.eq_of_mem_replicate hx]; decide⟩
    have hloop : ∀ (f i n : Nat) (τ : ox_H), i + f = sp_ow T p → f < n → oy_ed 0 (1 + i) (sp_put (sp_ins T (sp_eu T p) 1) (sp_eu T p) (sp_stl i)) σ1 τ → ∃ τ', ox_lp (B_Out_capture_93 t ((sp_ow T p : Nat) : Int) ((sp_eu T p : Nat) : Int)) n ((i : Int), τ) = J_Out_capture_117 t ((sp_eu T p : Nat) : Int) τ' ∧ oy_ed 0 (1 + sp_ow T p) (sp_put (sp_ins T (sp_eu T p) 1) (sp_eu T p) (sp_stl (sp_ow T p))) σ1 τ' := by
      intro f
      induction f with
      | zero =>
        intro i n τ h1 h2 h3
        obtain ⟨n, rfl⟩ : ∃ j, n = j + 1 := ⟨n - 1, by omega⟩
        obtain rfl : i = sp_ow T p := by omega
        refine ⟨τ, oy_lp_m ?_, h3⟩
        unfold B_Out_capture_93
        dsimp only
        rw [if_pos (Int.le_refl _)]
      | succ f ih =>
        intro i n τ h1 h2 h3
        obtain ⟨n, rfl⟩ : ∃ j, n = j + 1 := ⟨n - 1, by omega⟩
        obtain ⟨τ1, t1, t2, t3⟩ := oc_apE (x := 42) (oy_ok_L hT1) (hsg i (by omega)) hl1 h3 q1.2.2.1 (by rw [hslen]; show i < 24; omega) (by decide)
        have hB : B_Out_capture_93 t ((sp_ow T p : Nat) : Int) ((sp_eu T p : Nat) : Int) ((i : Int), τ) = some (.inl (((i + 1 : Nat) : Int), τ1)) := by
          unfold B_Out_capture_93
          dsimp only
          rw [if_neg (by omega), t1, Option.bind_some, oy_w1 (by omega)]
        rw [oy_lp_l hB]
        rw [hrep] at t2
        exact ih (i + 1) n τ1 (by omega) (by omega) t2
    have e0 : sp_put (sp_ins T (sp_eu T p) 1) (sp_eu T p) (sp_stl 0) = sp_ins T (sp_eu T p) 1 := by
      have : sp_stl 0 = oy_ln (sp_ins T (sp_eu T p) 1) (sp_eu T p) := (sp_ins_put hle).symm
      rw [this, sp_put_self]
    obtain ⟨σ3, e3, d3⟩ := hloop (sp_ow T p) 0 ox_fu σ2 (by omega) (by show _ < 100000; omega) (by rw [e0]; exact d2)
    have e3' : ox_lp (B_Out_capture_93 t ((sp_ow T p : Nat) : Int) ((sp_eu T p : Nat) : Int)) ox_fu ((0 : Int), σ2) = J_Out_capture_117 t ((sp_eu T p : Nat) : Int) σ3 := e3
    rw [e3']
    have hat : oy_ln (sp_put (sp_ins T (sp_eu T p) 1) (sp_eu T p) (sp_stl (sp_ow T p))) (sp_eu T p) = sp_stl (sp_ow T p) := sp_put_at hl1
    obtain ⟨σ4, e4, d4⟩ := oc_wordl (k := 0) (l := sp_eu T p) (w := 5) (Or.inr rfl) (by decide) (by decide) 6 0 ox_fu _ σ3 (oy_ok_L (oy_ok_put hT1 (hsg _ h5))) d3.2.1 (d3.w.1.trans q1.2.2.1) (by rw [sp_put_len]; exact hl1) (by rw [hat, hslen]; show _ ≤ 24; omega) (by decide) (by show 6 < 100000; omega)
    have e4' : F_Lin_addWord 0 ((sp_eu T p : Nat) : Int) 5 σ3 = some σ4 := e4
    rw [hat, sp_put_put] at d4
    have d34 := d3.tr d4
    have hcw := sp_cw_good (n := sp_ow T p) (t := t) (by omega) qt
    have hg6 : oy_good 0 (sp_stl (sp_ow T p) ++ sp_wf 5 6 0) := by
      refine ⟨by rw [List.length_append, hslen]; show _ + 6 ≤ 24; omega, fun x hx => ?_⟩
      exact hcw.1.2 x (by unfold sp_cw; exact List.mem_append_left _ hx)
    obtain ⟨σ5, e5, d5, g5⟩ := oc_apE (x := 97 + t) (oy_ok_L hT1) hg6 hl1 d34 q1.2.2.1 (by rw [List.length_append, hslen]; show _ + 6 < 24; omega) (by omega)
    have s5 := oy_cs_ed s1.2.1 hv1 (by omega) d5
    have hT5 : oy_ok (sp_put (sp_ins T (sp_eu T p) 1) (sp_eu T p) (sp_cw (sp_ow T p) t)) := oy_ok_put hT1 hcw.1
    obtain ⟨σ6, e6, s6, q6⟩ := oy_cs_ask hT5 s5.2.1
    unfold J_Out_capture_117
    rw [e4', Option.bind_some, (ewt 0), e5, Option.bind_some, e6, Option.bind_some, oc_ownerH hT5 q6 (by rw [sp_put_len]; exact hl1) (by rw [sp_put_at hl1]; exact sp_cw_H (by omega) how), Option.bind_some]
    exact ⟨σ6, rfl, ((s1.tr s5).tr s6).mono (by omega)⟩
  rcases hp with hp | ⟨hp1, hp2⟩
  · have e : sp_ow T p = 1 := by unfold sp_ow; rw [if_pos (by omega)]
    rw [e] at key
    rw [if_pos hp, e]
    exact key
  · obtain ⟨e, rfl⟩ : ∃ e : Nat, p = e := ⟨p.toNat, by omega⟩
    have lv := sp_lv_in (T := T) (e := e) (by omega)
    have e9 : sp_ow T (e : Int) = sp_lv T e + 1 := by unfold sp_ow; rw [if_neg (by omega), Int.toNat_natCast]
    rw [if_neg (by omega), oc_elv hT q1 (by omega), Option.bind_some, oy_w1 (by omega), ← e9]
    exact key
end OYH1
