/-! ===== a cell asked ===== -/
/-- table number v among the k lines from p on: its first line -/
def sp_tbl (T : oy_T) : Nat → Int → Nat → Option Nat
  | 0, _, _ => none
  | k + 1, v, p => if sp_tpv T p = (p : Int) then (if v = 0 then some p else sp_tbl T k (v - 1) (p + 1)) else sp_tbl T k v (p + 1)
theorem sp_tbl_in {T : oy_T} : ∀ (k : Nat) (v : Int) (p t : Nat), sp_tbl T k v p = some t → p ≤ t ∧ t < p + k ∧ sp_tpv T t = (t : Int)
  | 0, _, _, _, h => by cases h
  | k + 1, v, p, t, h => by
    rw [sp_tbl] at h
    by_cases q : sp_tpv T p = (p : Int)
    · rw [if_pos q] at h
      by_cases q0 : v = 0
      · rw [if_pos q0] at h
        rw [← Option.some.inj h]
        exact ⟨Nat.le_refl _, by omega, q⟩
      · rw [if_neg q0] at h
        have := sp_tbl_in k _ _ _ h
        exact ⟨by omega, by omega, this.2.2⟩
    · rw [if_neg q] at h
      have := sp_tbl_in k _ _ _ h
      exact ⟨by omega, by omega, this.2.2⟩
theorem sp_tbl_neg {T : oy_T} : ∀ (k : Nat) (v : Int) (p : Nat), v < 0 → sp_tbl T k v p = none
  | 0, _, _, _ => rfl
  | k + 1, v, p, h => by
    rw [sp_tbl]
    by_cases q : sp_tpv T p = (p : Int)
    · rw [if_pos q, if_neg (by omega)]
      exact sp_tbl_neg k _ _ (by omega)
    · rw [if_neg q]
      exact sp_tbl_neg k _ _ h
theorem sp_tpv_is {T : oy_T} {p : Nat} : sp_tpv T p = (p : Int) ↔ sp_kind (oy_ln T p) = 4 ∧ sp_top T p = p := by
  unfold sp_tpv
  by_cases q : sp_kind (oy_ln T p) = 4
  · rw [if_pos q]
    exact ⟨fun h => ⟨q, by omega⟩, fun h => by rw [h.2]⟩
  · rw [if_neg q]
    exact ⟨fun h => by omega, fun h => absurd h.1 q⟩
/-- the line of row r of table b of entry e -/
def sp_cll (T : oy_T) (e : Nat) (b r : Int) : Option Nat := (sp_tbl T (sp_en T (e + 1) - sp_en T e) b (sp_en T e)).bind (fun t => sp_rw T t r)
def sp_cell2 (T : oy_T) (f : Nat → Nat → Int) (a b r c : Int) : Nat ⊕ Int := if 0 ≤ a ∧ a < sp_n T then (sp_cll T a.toNat b r).elim (.inl 1) (fun l => if 0 ≤ c ∧ c.toNat < sp_nc T l then .inr (oy_cl (f l c.toNat)) else .inl 1) else .inl 1
section OYL1
variable {T : oy_T} {σ : ox_H} {f : Nat → Nat → Int}
theorem oc_tbl (ht : oy_tps T σ) {e : Nat} (he : e ≤ 60) : ∀ (k p n : Nat) (v : Int), p + k = e → -2147483648 - (p : Int) ≤ v → v ≤ 2147483647 → k < n → ox_lp (B_She_tableLine_22 (e : Int) σ) n (ox_w v, (p : Int)) = some (oy_en (sp_tbl T k v p))
  | _, _, 0, _, _, _, _, h => absurd h (Nat.not_lt_zero _)
  | 0, p, n + 1, v, h1, _, _, _ => by
    refine oy_lp_m (X := some (-1)) ?_
    unfold B_She_tableLine_22 J_She_tableLine_83
    dsimp only
    rw [if_pos (by omega)]
  | k + 1, p, n + 1, v, h1, h2, h3, h4 => by
    have hz : ox_w v = 0 ↔ v = 0 := by unfold ox_w; omega
    have hs : ox_w (ox_w v - 1) = ox_w (v - 1) := by unfold ox_w; omega
    have hs0 : ox_w (ox_w v - 0) = ox_w v := by unfold ox_w; omega
    rw [sp_tbl]
    by_cases q : sp_tpv T p = (p : Int)
    · rw [if_pos q]
      by_cases q0 : v = 0
      · rw [if_pos q0]
        refine oy_lp_m (X := some (p : Int)) ?_
        unfold B_She_tableLine_22 J_She_tableLine_50 J_She_tableLine_61
        dsimp only
        rw [if_neg (by omega), if_neg (by omega), oc_topOf ht (by omega), Option.bind_some, if_pos q, if_neg oy_10, if_pos (hz.mpr q0)]
      · rw [if_neg q0]
        refine (oy_lp_l (a' := (ox_w (v - 1), ((p + 1 : Nat) : Int))) ?_).trans (oc_tbl ht he k (p + 1) n (v - 1) (by omega) (by omega) (by omega) (by omega))
        unfold B_She_tableLine_22 J_She_tableLine_50 J_She_tableLine_64 J_She_tableLine_75
        dsimp only
        rw [if_neg (by omega), if_neg (by omega), oc_topOf ht (by omega), Option.bind_some, if_pos q, if_neg oy_10, if_neg (fun z => q0 (hz.mp z)), if_neg oy_10, hs, oy_w1 (by omega)]
    · rw [if_neg q]
      refine (oy_lp_l (a' := (ox_w v, ((p + 1 : Nat) : Int))) ?_).trans (oc_tbl ht he k (p + 1) n v (by omega) (by omega) (by omega) (by omega))
      unfold B_She_tableLine_22 J_She_tableLine_49 J_She_tableLine_50 J_She_tableLine_64 J_She_tableLine_75
      dsimp only
      rw [if_neg (by omega), if_neg (by omega), oc_topOf ht (by omega), Option.bind_some, if_neg q, if_pos rfl, if_pos rfl, hs0, oy_w1 (by omega)]
theorem oc_tableLine (hT : oy_ok T) (hQ : oy_Q T σ) (ht : oy_tps T σ) {e : Nat} (he : e < sp_n T) {b : Int} (hb : -2147483648 ≤ b ∧ b ≤ 2147483647) : F_She_tableLine (e : Int) b σ = some (oy_en (sp_tbl T (sp_en T (e + 1) - sp_en T e) b (sp_en T e))) := by
  have h60 := hT.1
  have ho := sp_en_own he
  have h1 := oc_tbl ht (e := sp_en T (e + 1)) (by omega) (sp_en T (e + 1) - sp_en T e) (sp_en T e) ox_fu b (by omega) (by omega) (by omega) (by show sp_en T (e + 1) - sp_en T e < 100000; omega)
  rw [oy_w (x := b) (by omega) (by omega)] at h1
  unfold F_She_tableLine J_She_tableLine_22
  rw [oc_ownEnd hT hQ he, Option.bind_some, oc_eln hT hQ he, Option.bind_some]
  exact h1
theorem oc_rowLine2 (ht : oy_tps T σ) {o : Option Nat} (ho : ∀ t, o = some t → t < 60 ∧ sp_tpv T t = (t : Int)) {n : Int} : F_She_rowLine (oy_en o) n σ = some (oy_en (o.bind (fun t => sp_rw T t n))) := by
  cases o with
  | none =>
    unfold F_She_rowLine J_She_rowLine_16
    exact if_pos rfl
  | some t =>
    have h := oc_rowLine ht (ho t rfl).1 (n := n)
    rw [(ho t rfl).2] at h
    exact h
theorem oc_hasCell2 (hQ : oy_Q T σ) (hT : oy_ok T) {o : Option Nat} (ho : ∀ l, o = some l → l < T.length) {c : Int} : F_She_hasCell (oy_en o) c σ = some (if 0 ≤ c ∧ ∃ l, o = some l ∧ c.toNat < sp_nc T l then 1 else 0) := by
  by_cases h0 : 0 ≤ c
  rotate_left
  · unfold F_She_hasCell J_She_hasCell_20 J_She_hasCell_21
    rw [if_pos (by omega), if_neg (fun z => h0 z.1)]
    rfl
  obtain ⟨x, rfl⟩ : ∃ x : Nat, c = x := ⟨c.toNat, by omega⟩
  rw [Int.toNat_natCast]
  cases o with
  | none =>
    unfold F_She_hasCell F_Sum_cellsOf J_She_hasCell_20 J_She_hasCell_21 J_Sum_cellsOf_19 J_Sum_cellsOf_20
    have e : oy_en none = -1 := rfl
    rw [if_neg (by omega), e, if_pos (by decide), Option.bind_some, if_pos h0, if_neg (fun z => by
      obtain ⟨_, l, y, _⟩ := z
      cases y)]
    rfl
  | some l =>
    have h := oc_hasCell hQ hT (ho l rfl) (c := x)
    refine h.trans (congrArg some ?_)
    by_cases q : x < sp_nc T l
    · rw [if_pos q, if_pos ⟨h0, l, rfl, q⟩]
    · rw [if_neg q, if_neg (fun z => by
        obtain ⟨_, l', y, y2⟩ := z
        rw [Option.some.inj y] at q
        exact q y2)]
/-- what a question of the sheet writes -/
def oy_txs (c k j i : Nat) : Prop := oy_tx c k j i ∨ c = 5
/-- the sheet between calls: right where its version is the text's -/
def oy_SC (T : oy_T) (σ : ox_H) : Prop := σ 5 0 5 0 ≤ σ 1 0 5 0 ∧ (σ 5 0 5 0 = σ 1 0 5 0 → oy_SH T σ)
theorem oy_SH.cg {σ' : ox_H} (h : oy_SH T σ) (e : ∀ j i, σ' 5 0 j i = σ 5 0 j i) : oy_SH T σ' := by
  obtain ⟨f, h1, h2, h3, h4⟩ := h
  exact ⟨f, h1, fun l c hl hc => (e _ _).trans (h2 l c hl hc), fun l hl => (e _ _).trans (h3 l hl), fun x hx => (e _ _).trans (h4 x hx)⟩
/-- a fresh outline and the sheet behind it -/
theorem oc_shask (hT : oy_ok T) (h : oy_cs T σ) (hS : oy_SC T σ) {σ1 : ox_H} (s1 : oy_st 0 T T σ σ1) (q1 : oy_Q T σ1) (v1 : σ1 2 0 10 0 = σ1 1 0 5 0) : ∃ τ, F_She_refresh σ1 = some τ ∧ oy_fs oy_txs σ τ ∧ oy_cs T τ ∧ oy_Q T τ ∧ oy_SH T τ ∧ oy_SC T τ ∧ τ 1 0 5 0 = σ 1 0 5 0 := by
  obtain ⟨f1, c1, d, hd, ev, _⟩ := s1
  have ev0 : σ1 1 0 5 0 = σ 1 0 5 0 := by rw [ev]; omega
  have e5 : ∀ j i, σ1 5 0 j i = σ 5 0 j i := fun j i => f1 5 0 j i (by unfold oy_tx oy_le oy_rf; omega)
  obtain ⟨τ, e2, f2, S2, v2⟩ := oc_sheet hT q1 (fun z => (hS.2 (by rw [e5] at z; omega)).cg e5)
  have et : τ 1 0 5 0 = σ1 1 0 5 0 := f2 1 0 5 0 (by unfold oy_s5; omega)
  have Q2 := q1.fs5 f2
  have c2 : oy_cs T τ := c1.frame f2 (fun k j i => by unfold oy_s5; omega)
  exact ⟨τ, e2, (f1.mono (fun _ _ _ _ => Or.inl)).tr (f2.mono (fun _ _ _ _ z => Or.inr z)), c2, Q2, S2, ⟨by omega, fun _ => S2⟩, by omega⟩
theorem oy_fin_ex (hT : oy_ok T) (hQ : oy_Q T σ) : ∃ f, oy_fin T f := by
  have f0 : oy_fs oy_s5 σ (ox_up σ 5 0 5 0 (σ 2 0 10 0 - 1)) := oy_fs.rf.up rfl
  obtain ⟨τ, _, _, S, _⟩ := oc_sheet hT (hQ.fs5 f0) (fun z => by
    rw [oy_up_same, oy_up_ne (by decide)] at z
    omega)
  obtain ⟨f, hf, _⟩ := S
  exact ⟨f, hf⟩
theorem oc_cell (hT : oy_ok T) (h : oy_cs T σ) (hS : oy_SC T σ) (hfi : oy_fin T f) {a b r c : Int} (hb : -2147483648 ≤ b ∧ b ≤ 2147483647) : ∃ σ1, F_Out_cell a b r c σ = some (sp_cell2 T f a b r c, σ1) ∧ oy_fs oy_txs σ σ1 ∧ oy_cs T σ1 ∧ oy_SC T σ1 ∧ σ1 1 0 5 0 = σ 1 0 5 0 := by
  have h60 := hT.1
  have hn := sp_n_le (T := T)
  obtain ⟨σ1, e1, s1, q1, v1⟩ := oy_cs_ask2 hT h
  unfold F_Out_cell sp_cell2
  rw [e1, Option.bind_some, oc_checkEntry q1, Option.bind_some]
  by_cases q : 0 ≤ a ∧ a < sp_n T
  rotate_left
  · rw [if_neg q, if_neg q]
    obtain ⟨f1, c1, d, hd, ev, _⟩ := s1
    have ev0 : σ1 1 0 5 0 = σ 1 0 5 0 := by rw [ev]; omega
    have e5 : ∀ j i, σ1 5 0 j i = σ 5 0 j i := fun j i => f1 5 0 j i (by unfold oy_tx oy_le oy_rf; omega)
    exact ⟨σ1, rfl, f1.mono (fun _ _ _ _ => Or.inl), c1, ⟨by rw [e5, ev0]; exact hS.1, fun z => (hS.2 (by rw [e5] at z; omega)).cg e5⟩, ev0⟩
  rw [if_pos q, if_pos q]
  obtain ⟨e, rfl⟩ : ∃ l : Nat, a = l := ⟨a.toNat, by omega⟩
  have he : e < sp_n T := by omega
  have ho := sp_en_own he
  rw [Int.toNat_natCast]
  obtain ⟨τ, e2, f2, c2, Q2, S2, C2, v2⟩ := oc_shask hT h hS s1 q1 v1
  obtain ⟨f', hf', hvs, htp, hbk⟩ := S2
  have ef : f' = f := hf'.uniq hfi
  have hti := sp_tbl_in (T := T) (sp_en T (e + 1) - sp_en T e) b (sp_en T e)
  dsimp only
  rw [e2, Option.bind_some, oc_tableLine hT Q2 htp he hb, Option.bind_some, oc_rowLine2 htp (fun t y => ⟨by have := hti t y; omega, (hti t y).2.2⟩), Option.bind_some]
  have hrl : ∀ l, sp_cll T e b r = some l → l < T.length := fun l y => by
    unfold sp_cll at y
    cases hx : sp_tbl T (sp_en T (e + 1) - sp_en T e) b (sp_en T e) with
    | none =>
      rw [hx] at y
      cases y
    | some t =>
      rw [hx] at y
      exact sp_kind_ln (sp_rw_in y).2.2.2.2.1 (by decide)
  have ecl : (sp_tbl T (sp_en T (e + 1) - sp_en T e) b (sp_en T e)).bind (fun t => sp_rw T t r) = sp_cll T e b r := rfl
  rw [ecl, oc_hasCell2 Q2 hT hrl, Option.bind_some]
  by_cases z : 0 ≤ c ∧ ∃ l, sp_cll T e b r = some l ∧ c.toNat < sp_nc T l
  · rw [if_pos z, if_neg oy_10]
    obtain ⟨z0, l, z1, z2⟩ := z
    have hl := hrl l z1
    obtain ⟨x, rfl⟩ : ∃ x : Nat, c = x := ⟨c.toNat, by omega⟩
    have h12 := sp_nc_12 hT l
    rw [Int.toNat_natCast] at z2
    have ea := oc_valueAt hvs (show l < 60 by omega) (show x < 12 by omega)
    rw [ef] at ea
    have ea' : F_She_valueAt (oy_en (some l)) (x : Int) τ = some (oy_cl (f l x)) := ea
    rw [z1, ea', Option.bind_some]
    dsimp only [Option.elim]
    rw [if_pos (show 0 ≤ (x : Int) ∧ (x : Int).toNat < sp_nc T l by omega), Int.toNat_natCast]
    exact ⟨τ, rfl, f2, c2, C2, v2⟩
  · rw [if_neg z, if_pos rfl]
    have ea : (sp_cll T e b r).elim (Sum.inl 1 : Nat ⊕ Int) (fun l => if 0 ≤ c ∧ c.toNat < sp_nc T l then .inr (oy_cl (f l c.toNat)) else .inl 1) = .inl 1 := by
      cases hc : sp_cll T e b r with
      | none => rfl
      | some l =>
        dsimp only [Option.elim]
        exact if_neg (fun y => z ⟨y.1, l, hc, y.2⟩)
    rw [ea]
    exact ⟨τ, rfl, f2, c2, C2, v2⟩
end OYL1
