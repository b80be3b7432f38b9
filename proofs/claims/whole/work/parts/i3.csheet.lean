/-! ===== the class's sheet: a cell's sum out of what the sheet holds ===== -/
theorem oy_er : ox_c 1000000 0 = 1000000 := by unfold ox_c; omega
theorem oy_op : ox_c 1000001 0 = 1000001 := by unfold ox_c; omega
/-- the sheet's values, tops and blocks -/
def oy_vs (f : Nat → Nat → Int) (σ : ox_H) : Prop := ∀ l c, l < 60 → c < 12 → σ 5 0 2 (12 * l + c) = f l c
def sp_tpv (T : oy_T) (l : Nat) : Int := if sp_kind (oy_ln T l) = 4 then (sp_top T l : Int) else -1
def oy_tps (T : oy_T) (σ : ox_H) : Prop := ∀ l, l < 60 → σ 5 0 3 l = sp_tpv T l
def oy_bks (T : oy_T) (σ : ox_H) : Prop := ∀ x : Nat, x < 26 → σ 5 0 4 x = oy_en (sp_bk T (x : Int))
theorem oy_mulb {a b : Int} (h1 : -999999 ≤ a ∧ a ≤ 999999) (h2 : -999999 ≤ b ∧ b ≤ 999999) : -999998000001 ≤ a * b ∧ a * b ≤ 999998000001 := by
  have h3 : (a * b).natAbs = a.natAbs * b.natAbs := Int.natAbs_mul a b
  have h4 : a.natAbs * b.natAbs ≤ 999999 * 999999 := Nat.mul_le_mul (by omega) (by omega)
  generalize a * b = p at h3 ⊢
  omega
theorem sp_kind_nil {T : oy_T} {l : Nat} (h : ¬ l < T.length) : sp_kind (oy_ln T l) = 7 := by
  have e : oy_ln T l = [] := by
    unfold oy_ln
    rw [List.getD_eq_getElem?_getD, List.getElem?_eq_none (by omega)]
    rfl
  rw [e]
  decide
theorem sp_kind_ln {T : oy_T} {l : Nat} {k : Int} (h : sp_kind (oy_ln T l) = k) (hk : k ≠ 7) : l < T.length := by
  by_cases q : l < T.length
  · exact q
  · exact absurd (h.symm.trans (sp_kind_nil q)) hk
theorem sp_bf_in {T : oy_T} {x : Int} : ∀ (n p r : Nat), sp_bf T x n p = some r → p ≤ r ∧ r < p + n ∧ sp_kind (oy_ln T r) = 5 ∧ oy_wk (oy_ln T r) 1 - 97 = x
  | 0, _, _, h => by cases h
  | n + 1, p, r, h => by
    rw [sp_bf] at h
    by_cases q : sp_kind (oy_ln T p) = 5 ∧ oy_wk (oy_ln T p) 1 - 97 = x
    · rw [if_pos q] at h
      cases h
      exact ⟨Nat.le_refl _, by omega, q⟩
    · rw [if_neg q] at h
      have := sp_bf_in n (p + 1) r h
      omega
theorem sp_bk_in {T : oy_T} {x : Int} {r : Nat} (h : sp_bk T x = some r) : r < T.length ∧ sp_kind (oy_ln T r) = 5 ∧ oy_wk (oy_ln T r) 1 - 97 = x := by
  have := sp_bf_in _ _ _ h
  exact ⟨by omega, this.2.2⟩
theorem sp_esn_n {T : oy_T} {l : Nat} (hl : l < T.length) (h : ¬ (sp_esn T (l + 1)).length = 0) : (sp_esn T (l + 1)).length - 1 < sp_n T := by
  have h1 := (sp_esn_pre T 0 (T.length - (l + 1)) (l + 1) ((sp_esn T (l + 1)).length - 1) (by omega)).1
  rw [show l + 1 + (T.length - (l + 1)) = T.length by omega] at h1
  exact h1
section OYI3
variable {T : oy_T} {σ : ox_H} {f : Nat → Nat → Int}
theorem oc_joined {v j u : Int} (hj : j = 43 ∨ j = 45 ∨ j = 42) (hv : -999999 ≤ v ∧ v ≤ 999999) (hu : -999999 ≤ u ∧ u ≤ 999999) : F_She_joined v j u σ = some (sp_jo v j u) := by
  have fin : ∀ x : Int, -1000000000000 ≤ x ∧ x ≤ 1000000000000 → J_She_joined_36 (ox_wl x) σ = some (if -999999 ≤ x ∧ x ≤ 999999 then x else 1000000) := by
    intro x hx
    have e1 : ox_wl x = x := by unfold ox_wl; omega
    have e2 : ox_c 0 999999 = -999999 := by unfold ox_c; omega
    have e3 : ox_c 999999 0 = 999999 := by unfold ox_c; omega
    unfold J_She_joined_36 J_She_joined_52 J_She_joined_59
    rw [e1, e2, e3, oy_er]
    by_cases h1 : x < -999999
    · rw [if_pos h1, if_pos (by decide), if_neg (by omega)]
    rw [if_neg h1]
    by_cases h2 : x = -999999
    · rw [if_pos h2, if_neg (by decide), if_pos (show x < 999999 by omega), if_pos (by decide), if_pos (by omega), oy_w (by omega) (by omega)]
    rw [if_neg h2, if_neg (by decide)]
    by_cases h3 : x < 999999
    · rw [if_pos h3, if_pos (by decide), if_pos (by omega), oy_w (by omega) (by omega)]
    rw [if_neg h3]
    by_cases h4 : x = 999999
    · rw [if_pos h4, if_pos (by decide), if_pos (by omega), oy_w (by omega) (by omega)]
    · rw [if_neg h4, if_neg (by decide), if_neg (by omega)]
  have j1 : sp_jr v 43 u = v + u := by unfold sp_jr; rw [if_pos rfl]
  have j2 : sp_jr v 45 u = v - u := by unfold sp_jr; rw [if_neg (show ¬ (45 : Int) = 43 by decide), if_pos rfl]
  have j3 : sp_jr v 42 u = v * u := by unfold sp_jr; rw [if_neg (show ¬ (42 : Int) = 43 by decide), if_neg (show ¬ (42 : Int) = 45 by decide)]
  unfold F_She_joined sp_jo
  rcases hj with rfl | rfl | rfl
  · rw [j1, if_pos rfl]
    exact fin _ (by omega)
  · rw [j2, if_neg (show ¬ (45 : Int) = 43 by decide), if_pos rfl]
    exact fin _ (by omega)
  · rw [j3, if_neg (show ¬ (42 : Int) = 43 by decide), if_neg (show ¬ (42 : Int) = 45 by decide)]
    have := oy_mulb hv hu
    exact fin _ (by omega)
theorem oc_valueAt (hv : oy_vs f σ) {l c : Nat} (hl : l < 60) (hc : c < 12) : F_She_valueAt (l : Int) (c : Int) σ = some (f l c) := by
  unfold F_She_valueAt
  have e : (ox_w (ox_w ((l : Int) * 12) + (c : Int))) = ((12 * l + c : Nat) : Int) := by
    rw [oy_w (x := (l : Int) * 12) (by omega) (by omega), oy_w (by omega) (by omega)]
    omega
  rw [if_neg (by omega), if_neg (by omega), if_neg (by omega), if_pos (by omega), e, if_pos (show 0 ≤ ((12 * l + c : Nat) : Int) ∧ ((12 * l + c : Nat) : Int).toNat < 720 by omega), Int.toNat_natCast, hv l c hl hc]
theorem oc_valueNo {c : Int} : F_She_valueAt (-1) c σ = some 1000000 := by
  unfold F_She_valueAt J_She_valueAt_20
  rw [if_pos (by decide), oy_er]
theorem oc_valueFa (hv : oy_vs f σ) {o : Option Nat} {c : Nat} (ho : ∀ r, o = some r → r < 60) (hc : c < 12) : F_She_valueAt (oy_en o) (c : Int) σ = some (sp_fa f o c) := by
  cases o with
  | none => exact oc_valueNo
  | some r => exact oc_valueAt hv (ho r rfl) hc
theorem oc_cellsOf (hQ : oy_Q T σ) (hT : oy_ok T) {l : Nat} (hl : l < T.length) : F_Sum_cellsOf (l : Int) σ = some ((sp_nc T l : Nat) : Int) := by
  have h60 := hT.1
  have h6 : σ 6 0 0 l = ((sp_nc T l : Nat) : Int) := (hQ.1.2.2.2 l hl).2.2.2.2.2.2.2.1
  unfold F_Sum_cellsOf J_Sum_cellsOf_20
  rw [if_neg (by omega), if_neg (by omega), if_pos (by omega), Int.toNat_natCast, h6]
theorem oc_hasCell (hQ : oy_Q T σ) (hT : oy_ok T) {l c : Nat} (hl : l < T.length) : F_She_hasCell (l : Int) (c : Int) σ = some (if c < sp_nc T l then 1 else 0) := by
  unfold F_She_hasCell J_She_hasCell_20 J_She_hasCell_21
  rw [if_neg (by omega), oc_cellsOf hQ hT hl, Option.bind_some]
  by_cases q : c < sp_nc T l
  · rw [if_neg (by omega), if_pos q]
    rfl
  · rw [if_pos (by omega), if_neg q]
    rfl
theorem oc_topOf (ht : oy_tps T σ) {l : Nat} (hl : l < 60) : F_She_topOf (l : Int) σ = some (sp_tpv T l) := by
  unfold F_She_topOf J_She_topOf_20
  rw [if_neg (by omega), if_neg (by omega), if_pos (by omega), Int.toNat_natCast, ht l hl]
theorem oc_topNo {l : Int} (hl : l < 0 ∨ 60 ≤ l) : F_She_topOf l σ = some (-1) := by
  unfold F_She_topOf J_She_topOf_19 J_She_topOf_20
  by_cases h : l < 0
  · rw [if_pos h]
  · rw [if_neg h, if_pos (by omega)]
theorem sp_rw_in {T : oy_T} {l r : Nat} {n : Int} (h : sp_rw T l n = some r) : 1 ≤ n ∧ n ≤ 60 ∧ r < 60 ∧ sp_kind (oy_ln T l) = 4 ∧ sp_kind (oy_ln T r) = 4 ∧ r = sp_top T l + n.toNat - 1 ∧ sp_top T r = sp_top T l := by
  unfold sp_rw at h
  by_cases q : 1 ≤ n ∧ n ≤ 60 ∧ sp_kind (oy_ln T l) = 4 ∧ sp_top T l + n.toNat - 1 < 60 ∧ sp_kind (oy_ln T (sp_top T l + n.toNat - 1)) = 4 ∧ sp_top T (sp_top T l + n.toNat - 1) = sp_top T l
  · rw [if_pos q] at h
    have e := Option.some.inj h
    rw [← e]
    exact ⟨q.1, q.2.1, q.2.2.2.1, q.2.2.1, q.2.2.2.2.1, rfl, q.2.2.2.2.2⟩
  · rw [if_neg q] at h
    cases h
theorem oc_rowLine (ht : oy_tps T σ) {l : Nat} (hl : l < 60) {n : Int} : F_She_rowLine (sp_tpv T l) n σ = some (oy_en (sp_rw T l n)) := by
  have htl := sp_top_le T l
  unfold F_She_rowLine J_She_rowLine_16 J_She_rowLine_38
  unfold sp_tpv
  by_cases h4 : sp_kind (oy_ln T l) = 4
  rotate_left
  · have e : sp_rw T l n = none := if_neg (fun q => h4 q.2.2.1)
    rw [if_neg h4, if_pos rfl, e]
    rfl
  rw [if_pos h4, if_neg (by omega)]
  by_cases h1 : n < 1
  · have e : sp_rw T l n = none := if_neg (fun q => by omega)
    rw [if_pos h1, e]
    rfl
  rw [if_neg h1]
  by_cases h2 : n ≤ 60
  rotate_left
  · have e : sp_rw T l n = none := if_neg (fun q => h2 q.2.1)
    rw [if_neg h2, e]
    rfl
  rw [if_pos h2]
  have ew : ox_w (ox_w ((sp_top T l : Int) + n) - 1) = ((sp_top T l + n.toNat - 1 : Nat) : Int) := by
    rw [oy_w (x := (sp_top T l : Int) + n) (by omega) (by omega), oy_w (by omega) (by omega)]
    omega
  rw [ew]
  by_cases h3 : sp_top T l + n.toNat - 1 < 60
  rotate_left
  · have e : sp_rw T l n = none := if_neg (fun q => h3 q.2.2.2.1)
    rw [oc_topNo (Or.inr (by omega)), Option.bind_some, if_neg (by omega), e]
    rfl
  rw [oc_topOf ht h3, Option.bind_some]
  unfold sp_tpv
  by_cases h5 : sp_kind (oy_ln T (sp_top T l + n.toNat - 1)) = 4
  rotate_left
  · have e : sp_rw T l n = none := if_neg (fun q => h5 q.2.2.2.2.1)
    rw [if_neg h5, if_neg (by omega), e]
    rfl
  rw [if_pos h5]
  by_cases h6 : sp_top T (sp_top T l + n.toNat - 1) = sp_top T l
  · have e : sp_rw T l n = some (sp_top T l + n.toNat - 1) := if_pos ⟨by omega, h2, h4, h3, h5, h6⟩
    rw [if_pos (by omega), e]
    rfl
  · have e : sp_rw T l n = none := if_neg (fun q => h6 q.2.2.2.2.2)
    rw [if_neg (by omega), e]
    rfl
theorem oy_rg_nb {v : Int} (h : oy_rg v) (h0 : ¬ v = 1000000) (h1 : ¬ v = 1000001) : -999999 ≤ v ∧ v ≤ 999999 := by
  unfold oy_rg at h
  omega
theorem oc_coll (hQ : oy_Q T σ) (hT : oy_ok T) (hv : oy_vs f σ) (hf : ∀ l c, oy_rg (f l c)) {c : Nat} (hc : c < 12) {l : Nat} (hl : l ≤ T.length) : ∀ (k p n : Nat) (v : Int), p + k = l → oy_rg v → v ≠ 1000001 → k < n → ox_lp (B_She_columnOf_20 (l : Int) (c : Int) σ) n (v, (p : Int)) = some (sp_cv T f c k p v)
  | _, _, 0, _, _, _, _, h => absurd h (Nat.not_lt_zero _)
  | 0, p, n + 1, v, h1, h2, h3, _ => by
    refine oy_lp_m (X := some v) ?_
    unfold B_She_columnOf_20 J_She_columnOf_89
    dsimp only
    rw [if_pos (by omega)]
  | k + 1, p, n + 1, v, h1, h2, h3, h4 => by
    have h60 := hT.1
    rw [sp_cv]
    by_cases e1 : v = 1000000
    · rw [if_pos e1]
      refine oy_lp_m (X := some v) ?_
      unfold B_She_columnOf_20 J_She_columnOf_89
      dsimp only
      rw [if_neg (by omega), oy_er, if_pos e1]
    rw [if_neg e1]
    by_cases e2 : c < sp_nc T p
    rotate_left
    · rw [if_neg e2]
      refine (oy_lp_l (a' := (v, ((p + 1 : Nat) : Int))) ?_).trans (oc_coll hQ hT hv hf hc hl k (p + 1) n v (by omega) h2 h3 (by omega))
      unfold B_She_columnOf_20 J_She_columnOf_83
      dsimp only
      rw [if_neg (by omega), oy_er, if_neg e1, oc_hasCell hQ hT (by omega), Option.bind_some, if_neg e2, if_pos rfl, oy_w1 (by omega)]
    rw [if_pos e2]
    by_cases e3 : f p c = 1000001 ∨ f p c = 1000000
    · rw [if_pos e3]
      refine oy_lp_m (X := some (f p c)) ?_
      unfold B_She_columnOf_20 J_She_columnOf_69
      dsimp only
      rw [if_neg (by omega), oy_er, oy_op, if_neg e1, oc_hasCell hQ hT (by omega), Option.bind_some, if_pos e2, if_neg (by decide), oc_valueAt hv (by omega) hc, Option.bind_some]
      by_cases e4 : f p c = 1000001
      · rw [if_pos e4]
      · rw [if_neg e4, if_pos (e3.resolve_left e4)]
    rw [if_neg e3]
    have r1 := oy_rg_nb h2 e1 h3
    have r2 := oy_rg_nb (hf p c) (fun q => e3 (Or.inr q)) (fun q => e3 (Or.inl q))
    have r3 := sp_jo_rg v 43 (f p c)
    refine (oy_lp_l (a' := (sp_jo v 43 (f p c), ((p + 1 : Nat) : Int))) ?_).trans (oc_coll hQ hT hv hf hc hl k (p + 1) n _ (by omega) r3.1 r3.2 (by omega))
    unfold B_She_columnOf_20 J_She_columnOf_83
    dsimp only
    rw [if_neg (by omega), oy_er, oy_op, if_neg e1, oc_hasCell hQ hT (by omega), Option.bind_some, if_pos e2, if_neg (by decide), oc_valueAt hv (by omega) hc, Option.bind_some, if_neg (fun q => e3 (Or.inl q)), if_neg (fun q => e3 (Or.inr q)), oc_joined (Or.inl rfl) r1 r2, Option.bind_some, oy_w1 (by omega)]
theorem oc_columnOf (hQ : oy_Q T σ) (hT : oy_ok T) (hv : oy_vs f σ) (ht : oy_tps T σ) (hf : ∀ l c, oy_rg (f l c)) {c : Nat} (hc : c < 12) {l : Nat} (hl : l < T.length) : F_She_columnOf (l : Int) (c : Int) σ = some (if sp_kind (oy_ln T l) = 4 then sp_cv T f c (l - sp_top T l) (sp_top T l) 0 else 1000000) := by
  have h60 := hT.1
  have htl := sp_top_le T l
  unfold F_She_columnOf J_She_columnOf_20
  rw [oc_topOf ht (by omega), Option.bind_some]
  unfold sp_tpv
  by_cases h4 : sp_kind (oy_ln T l) = 4
  · rw [if_pos h4, if_pos h4, if_neg (by omega)]
    exact oc_coll hQ hT hv hf hc (Nat.le_of_lt hl) (l - sp_top T l) (sp_top T l) ox_fu 0 (by omega) (Or.inl (by omega)) (by decide) (by show l - sp_top T l < 100000; omega)
  · rw [if_neg h4, if_neg h4, if_pos rfl, oy_er]
theorem oc_blockLine (hb : oy_bks T σ) {x : Nat} (hx : x < 26) : F_She_blockLine (x : Int) σ = some (oy_en (sp_bk T (x : Int))) := by
  unfold F_She_blockLine J_She_blockLine_20
  rw [if_neg (by omega), if_neg (by omega), if_pos (by omega), Int.toNat_natCast, hb x hx]
/-- what the sums hold of a term -/
def oy_tat (i : Nat) (t : oy_Tm) (σ : ox_H) : Prop := σ 6 0 3 i = t.1 ∧ σ 6 0 4 i = t.2.1 ∧ σ 6 0 5 i = t.2.2.1 ∧ σ 6 0 6 i = t.2.2.2
theorem oc_termOf (hQ : oy_Q T σ) (hT : oy_ok T) (hv : oy_vs f σ) (ht : oy_tps T σ) (hb : oy_bks T σ) (hf : ∀ l c, oy_rg (f l c)) {l i : Nat} (hl : l < T.length) (hi : i < 720) {t : oy_Tm} (hk : oy_tok t) (ha : oy_tat i t σ) : F_She_termOf (l : Int) (i : Int) σ = some (sp_tv T f l t) := by
  have h60 := hT.1
  obtain ⟨_, a2, a3, a4⟩ := ha
  obtain ⟨_, k2, k3, k4, k5, k6⟩ := hk
  unfold F_She_termOf
  rw [if_neg (by omega), if_pos (by omega), if_pos (by omega), if_pos (by omega), if_pos (by omega), Int.toNat_natCast, a2, a3, a4]
  unfold sp_tv
  obtain ⟨x, hx⟩ : ∃ x : Nat, t.2.2.1 = (x : Int) := ⟨t.2.2.1.toNat, by omega⟩
  rw [hx] at k3 k4 ⊢
  rw [Int.toNat_natCast]
  by_cases h0 : t.2.1 = 0
  · rw [if_pos h0, if_pos (show t.2.1 = ((0 : Nat) : Int) from h0)]
  rw [if_neg h0, if_neg (show ¬ t.2.1 = ((0 : Nat) : Int) from h0)]
  by_cases h1 : t.2.1 = 1
  · rw [if_pos h1, if_pos (show t.2.1 = ((1 : Nat) : Int) from h1), oc_topOf ht (by omega), Option.bind_some, oc_rowLine ht (by omega), Option.bind_some, oc_valueFa hv (fun r hr => (sp_rw_in hr).2.2.1) (by omega), Option.bind_some]
  rw [if_neg h1, if_neg (show ¬ t.2.1 = ((1 : Nat) : Int) from h1)]
  by_cases h2 : t.2.1 = 2
  · rw [if_pos h2, if_pos (show t.2.1 = ((2 : Nat) : Int) from h2), oc_columnOf hQ hT hv ht hf (by omega) hl, Option.bind_some]
  rw [if_neg h2, if_neg (show ¬ t.2.1 = ((2 : Nat) : Int) from h2)]
  by_cases h3 : t.2.1 = 3
  · rw [if_pos h3, if_pos (show t.2.1 = ((3 : Nat) : Int) from h3), oc_blockLine hb (by omega), Option.bind_some, show (0 : Int) = ((0 : Nat) : Int) from rfl, oc_valueFa hv (fun r hr => by have := (sp_bk_in hr).1; omega) (by decide), Option.bind_some]
  rw [if_neg h3, if_neg (show ¬ t.2.1 = ((3 : Nat) : Int) from h3)]
  unfold sp_op2 J_She_termOf_145
  rw [oc_ownerOf hT hQ hl, Option.bind_some, oy_er]
  by_cases e0 : (sp_esn T (l + 1)).length = 0
  · rw [if_pos e0, show (((sp_esn T (l + 1)).length : Nat) : Int) - 1 = -1 by omega, oc_inh0, Option.bind_some, if_pos rfl]
  · rw [if_neg e0, show (((sp_esn T (l + 1)).length : Nat) : Int) - 1 = (((sp_esn T (l + 1)).length - 1 : Nat) : Int) by omega, oc_inherited hT hQ (sp_esn_n hl e0), Option.bind_some]
    split <;> rfl
end OYI3
