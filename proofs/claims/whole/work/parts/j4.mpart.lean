/-! ===== the reference: a term's value ===== -/
/-- value, blocked over a level are right -/
def oy_VS (T : oy_T) (f : Nat → Nat → Int) (P : Int → Int → Int → ox_H → Option (Int × ox_H)) (n : Nat) : Prop := ∀ (l c : Nat) (σ : ox_H), l < T.length → sp_kind (oy_ln T l) = 4 → c < 5 → oy_mem T f σ → oy_lw T f σ (l, c) → oy_mu σ ≤ n → ∃ σ', F_Mod_value P (l : Int) (c : Int) σ = some (oy_cl (f l c), σ') ∧ oy_ev T f σ σ'
def oy_BS (T : oy_T) (f : Nat → Nat → Int) (P : Int → Int → Int → ox_H → Option (Int × ox_H)) (n : Nat) : Prop := ∀ (z : Nat) (σ : ox_H), z < 26 → oy_mem T f σ → (∀ r, sp_bk T (z : Int) = some r → oy_lw T f σ (r, 0)) → oy_mu σ ≤ n → ∃ σ', F_Mod_blocked P (97 + (z : Int)) σ = some (oy_cl (sp_fa f (sp_bk T (z : Int)) 0), σ') ∧ oy_ev T f σ σ'
section OYJ4
variable {T : oy_T} {σ : ox_H} {f : Nat → Nat → Int} {P : Int → Int → Int → ox_H → Option (Int × ox_H)} {n : Nat}
theorem om_bound {x : Int} (hx : -2000000 ≤ x ∧ x ≤ 2000000) : F_Mod_bound x σ = some (if -999999 ≤ x ∧ x ≤ 999999 then x else 1000000) := by
  have e2 : ox_c 0 999999 = -999999 := by unfold ox_c; omega
  have e3 : ox_c 999999 0 = 999999 := by unfold ox_c; omega
  unfold F_Mod_bound J_Mod_bound_16 J_Mod_bound_24
  rw [e2, e3, oy_er]
  by_cases h1 : x < 999999
  · rw [if_pos h1, if_neg (by decide)]
    by_cases h2 : x < -999999
    · rw [if_pos h2, if_neg (by decide), if_neg (by omega)]
    rw [if_neg h2]
    by_cases h3 : x = -999999
    · rw [if_pos h3, if_pos (by decide), if_pos (by omega), oy_w (by omega) (by omega)]
    · rw [if_neg h3, if_pos (by decide), if_pos (by omega), oy_w (by omega) (by omega)]
  rw [if_neg h1]
  by_cases h4 : x = 999999
  · rw [if_pos h4, if_neg (by decide), if_neg (show ¬ x < -999999 by omega), if_neg (show ¬ x = -999999 by omega), if_pos (by decide), if_pos (show -999999 ≤ x ∧ x ≤ 999999 by omega), oy_w (by omega) (by omega)]
  · rw [if_neg h4, if_pos (by decide), if_neg (by omega)]
/-- where a row's cell begins, in the reference -/
theorem om_beg (hT : oy_ok T) (hM : oy_M T σ) {l c : Nat} (hl : l < T.length) (h4 : sp_kind (oy_ln T l) = 4) (hc : c ≤ 1000) : (c < sp_nc T l → ∃ b e : Nat, F_Mod_begin (l : Int) (c : Int) σ = some (b : Int) ∧ sp_cell (oy_ln T l) b = some e ∧ sp_ts T l c = sp_cel (oy_ln T l) b) ∧ (¬ c < sp_nc T l → F_Mod_begin (l : Int) (c : Int) σ = some (-1)) := by
  have e1 := om_begin hT hM hl h4 hc
  have e2 := sp_cp_cls (oy_ln T l) 30 0 c
  have e3 : sp_cc (oy_ln T l) = sp_cls (oy_ln T l) 30 0 := by unfold sp_cc; rw [if_pos h4]
  rw [← e3] at e2
  constructor
  · intro h
    have h' : c < (sp_cc (oy_ln T l)).length := h
    cases hcp : sp_cp (oy_ln T l) 30 0 c with
    | none =>
      rw [hcp, List.getElem?_eq_getElem h'] at e2
      cases e2
    | some b =>
      obtain ⟨_, e, he⟩ := sp_cp_in _ _ _ _ _ hcp
      rw [hcp] at e1 e2
      refine ⟨b, e, e1, he, ?_⟩
      unfold sp_ts
      rw [List.getD_eq_getElem?_getD, e2]
      rfl
  · intro h
    have h' : ¬ c < (sp_cc (oy_ln T l)).length := h
    cases hcp : sp_cp (oy_ln T l) 30 0 c with
    | none =>
      rw [hcp] at e1
      exact e1
    | some b =>
      rw [hcp, List.getElem?_eq_none (by omega)] at e2
      cases e2
theorem om_colE {l p c m : Nat} (h : 0 < m) : ox_lp (B_Mod_part_189 P (l : Int) (97 + (c : Int))) m (1000000, (p : Int), σ) = some (1000000, σ) := by
  obtain ⟨m, rfl⟩ : ∃ k, m = k + 1 := ⟨m - 1, by omega⟩
  refine oy_lp_m (X := some (1000000, σ)) ?_
  unfold B_Mod_part_189 J_Mod_part_265
  dsimp only
  by_cases q : (l : Int) ≤ (p : Int)
  · rw [if_pos q]
  · rw [if_neg q, oy_er, if_pos rfl]
theorem om_coll (hT : oy_ok T) (hfi : oy_fin T f) (hV : oy_VS T f P n) {c : Nat} (hc : c < 5) {l : Nat} (hl : l < T.length) : ∀ (k p m : Nat) (v : Int) (σ : ox_H), p + k = l → (∀ q, p ≤ q → q < l → sp_kind (oy_ln T q) = 4) → oy_mem T f σ → (∀ q, p ≤ q → q < l → c < sp_nc T q → oy_lw T f σ (q, c)) → oy_mu σ ≤ n → oy_rg v → v ≠ 1000001 → k < m → ∃ σ', ox_lp (B_Mod_part_189 P (l : Int) (97 + (c : Int))) m (v, (p : Int), σ) = some (oy_cl (sp_cv T f c k p v), σ') ∧ oy_ev T f σ σ' := by
  intro k
  induction k with
  | zero =>
    intro p m v σ h1 _ hm _ _ _ hv h2
    obtain ⟨m, rfl⟩ : ∃ k, m = k + 1 := ⟨m - 1, by omega⟩
    refine ⟨σ, oy_lp_m (X := some (v, σ)) ?_ |>.trans ?_, oy_ev.rf hm⟩
    · unfold B_Mod_part_189 J_Mod_part_265
      dsimp only
      rw [if_pos (by omega)]
    · rw [sp_cv]
      unfold oy_cl
      rw [if_neg hv]
  | succ k ih =>
    intro p m v σ h1 hr hm ha hmu hg hv h2
    obtain ⟨m, rfl⟩ : ∃ k, m = k + 1 := ⟨m - 1, by omega⟩
    have h60 := hT.1
    rw [sp_cv]
    by_cases e1 : v = 1000000
    · rw [if_pos e1]
      refine ⟨σ, oy_lp_m (X := some (v, σ)) ?_ |>.trans ?_, oy_ev.rf hm⟩
      · unfold B_Mod_part_189 J_Mod_part_265
        dsimp only
        rw [if_neg (by omega), oy_er, if_pos e1]
      · unfold oy_cl
        rw [if_neg hv]
    rw [if_neg e1]
    have r1 := oy_rg_nb hg e1 hv
    have hk := hr p (Nat.le_refl _) (by omega)
    have hb := om_beg hT hm.1.1 (show p < T.length by omega) hk (show c ≤ 1000 by omega)
    have ec : ox_w (97 + (c : Int) - 97) = (c : Int) := by rw [oy_w (by omega) (by omega)]; omega
    by_cases e2 : c < sp_nc T p
    rotate_left
    · rw [if_neg e2]
      obtain ⟨σ', e3, g3⟩ := ih (p + 1) m v σ (by omega) (fun q q1 q2 => hr q (by omega) q2) hm (fun q q1 q2 => ha q (by omega) q2) hmu hg hv (by omega)
      refine ⟨σ', (oy_lp_l (a' := (v, ((p + 1 : Nat) : Int), σ)) ?_).trans e3, g3⟩
      unfold B_Mod_part_189 J_Mod_part_232 J_Mod_part_257
      dsimp only
      rw [if_neg (by omega), oy_er, if_neg e1, ec, hb.2 e2, Option.bind_some, if_neg (by decide), if_neg (by decide), Int.add_zero, oy_w (x := v) (by omega) (by omega), om_bound (by omega), Option.bind_some, if_pos r1, oy_w1 (by omega)]
    rw [if_pos e2]
    obtain ⟨b, e, hb1, _, _⟩ := hb.1 e2
    obtain ⟨σ1, v1, g1⟩ := hV p c σ (by omega) hk hc hm (ha p (Nat.le_refl _) (by omega) e2) hmu
    have hfr := hfi.rg p c
    by_cases e3 : f p c = 1000001 ∨ f p c = 1000000
    · rw [if_pos e3]
      have e4 : oy_cl (f p c) = 1000000 := oy_cl_no (fun q => e3.elim q.2 q.1)
      rw [e4] at v1 ⊢
      refine ⟨σ1, (oy_lp_l (a' := (1000000, ((p + 1 : Nat) : Int), σ1)) ?_).trans ?_, g1⟩
      · unfold B_Mod_part_189 J_Mod_part_232 J_Mod_part_257
        dsimp only
        rw [if_neg (by omega), oy_er, if_neg e1, ec, hb1, Option.bind_some, if_pos (by omega), v1, Option.bind_some, if_pos rfl, oy_w1 (by omega)]
      · exact om_colE (by omega)
    rw [if_neg e3]
    have e4 : oy_cl (f p c) = f p c := by
      unfold oy_cl
      rw [if_neg (fun q => e3 (Or.inl q))]
    rw [e4] at v1
    have r2 := oy_rg_nb hfr (fun q => e3 (Or.inr q)) (fun q => e3 (Or.inl q))
    have r3 := sp_jo_rg v 43 (f p c)
    have ej : (if -999999 ≤ v + f p c ∧ v + f p c ≤ 999999 then v + f p c else 1000000) = sp_jo v 43 (f p c) := by
      unfold sp_jo sp_jr
      rw [if_pos (show (43 : Int) = 43 from rfl)]
    obtain ⟨σ', e5, g5⟩ := ih (p + 1) m (sp_jo v 43 (f p c)) σ1 (by omega) (fun q q1 q2 => hr q (by omega) q2) g1.2.1 (fun q q1 q2 q3 => (ha q (by omega) q2 q3).cg g1.2.2.1 g1.2.2.2) (by rw [oy_mu_cg g1.2.2.1 g1.2.2.2]; exact hmu) r3.1 r3.2 (by omega)
    refine ⟨σ', (oy_lp_l (a' := (sp_jo v 43 (f p c), ((p + 1 : Nat) : Int), σ1)) ?_).trans e5, g1.tr g5⟩
    unfold B_Mod_part_189 J_Mod_part_232 J_Mod_part_257
    dsimp only
    rw [if_neg (by omega), oy_er, if_neg e1, ec, hb1, Option.bind_some, if_pos (by omega), v1, Option.bind_some, if_neg (fun q => e3 (Or.inr q)), oy_w (x := v + f p c) (by omega) (by omega), om_bound (by omega), Option.bind_some, ej, oy_w1 (by omega)]
end OYJ4
