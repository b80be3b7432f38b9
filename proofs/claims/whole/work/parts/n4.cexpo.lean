/-! ===== the export: the class's calls ===== -/
/-- what a question of the export writes -/
def oy_txx (c k j i : Nat) : Prop := oy_tx c k j i ∨ c = 5 ∨ c = 7 ∨ oy_le 2 c k j i
/-- the export between calls: right where its version is the text's -/
def oy_XC (T : oy_T) (σ : ox_H) : Prop := (∃ O, oy_xk O σ) ∧ σ 7 0 4 0 ≤ σ 1 0 5 0 ∧ (σ 7 0 4 0 = σ 1 0 5 0 → ∃ f, oy_fin T f ∧ oy_xk (sp_exp T f) σ)
def sp_xat (O : oy_T) (a p : Int) : Nat ⊕ Int := if (0 ≤ a ∧ a < O.length) ∧ 0 ≤ p then .inr (oy_wk (oy_ln O a.toNat) p.toNat) else .inl 1
section OYN4
variable {T O : oy_T} {σ : ox_H} {f : Nat → Nat → Int}
theorem oy_xk.cg {σ' : ox_H} (h : oy_xk O σ) (e : ∀ j i, σ' 1 2 j i = σ 1 2 j i) : oy_xk O σ' := by
  obtain ⟨h1, h2, h3, h4⟩ := h
  exact ⟨h1, ⟨(e _ _).trans h2.1, fun l hl => (e _ _).trans (h2.2.1 l hl), fun l p hl hp => (e _ _).trans (h2.2.2 l p hl hp)⟩, (e _ _).trans h3, (e _ _).trans h4⟩
theorem oc_xrefresh (hT : oy_ok T) (hfi : oy_fin T f) (h : oy_cs T σ) (hS : oy_SC T σ) (hX : oy_XC T σ) : ∃ τ1 τ2 τ3, F_Otl_refresh σ = some τ1 ∧ F_She_refresh τ1 = some τ2 ∧ F_Exp_refresh τ2 = some τ3 ∧ oy_fs oy_txx σ τ3 ∧ oy_cs T τ3 ∧ oy_SC T τ3 ∧ oy_XC T τ3 ∧ oy_xk (sp_exp T f) τ3 ∧ τ3 1 0 5 0 = σ 1 0 5 0 := by
  have h60 := hT.1
  obtain ⟨σ1, e1, s1, q1, v1⟩ := oy_cs_ask2 hT h
  have f1 := s1.1
  obtain ⟨τ, e2, f2, c2, Q2, S2, C2, w2⟩ := oc_shask hT h hS s1 q1 v1
  have SC2 := C2
  obtain ⟨f', hf', hvs, htp, hbk⟩ := S2
  have ef : f' = f := hf'.uniq hfi
  rw [ef] at hvs
  have x2 : ∀ j i, τ 1 2 j i = σ 1 2 j i := fun j i => f2 _ _ _ _ (by unfold oy_txs oy_tx oy_le oy_rf; omega)
  have x7 : ∀ j i, τ 7 0 j i = σ 7 0 j i := fun j i => f2 _ _ _ _ (by unfold oy_txs oy_tx oy_le oy_rf; omega)
  have hv2 : τ 2 0 10 0 = τ 1 0 5 0 := by
    have := oc_sheet hT q1 (fun z => (hS.2 (by
      have e5 : σ1 5 0 5 0 = σ 5 0 5 0 := f1 5 0 5 0 (by unfold oy_tx oy_le oy_rf; omega)
      obtain ⟨_, _, d, hd, ev, _⟩ := s1
      omega)).cg (fun j i => f1 5 0 j i (by unfold oy_tx oy_le oy_rf; omega)))
    obtain ⟨τ', e2', f2', _, _⟩ := this
    have et : τ' = τ := Option.some.inj (e2'.symm.trans e2)
    rw [et] at f2'
    rw [f2' 2 0 10 0 (by unfold oy_s5; omega), f2' 1 0 5 0 (by unfold oy_s5; omega)]
    exact v1
  have g2 : oy_fs oy_txx σ τ := f2.mono (fun _ _ _ _ z => by
    rcases z with z | z
    · exact Or.inl z
    · exact Or.inr (Or.inl z))
  obtain ⟨⟨O, hO⟩, hX1, hX2⟩ := hX
  by_cases q : τ 7 0 4 0 = τ 2 0 10 0
  · have hx := hX2 (by rw [x7] at q; omega)
    obtain ⟨f2', hfi2, hxk⟩ := hx
    have ef2 : f2' = f := hfi2.uniq hfi
    rw [ef2] at hxk
    have hxk' := hxk.cg x2
    refine ⟨σ1, τ, τ, e1, e2, ?_, g2, c2, SC2, ⟨⟨_, hxk'⟩, by omega, fun _ => ⟨f, hfi, hxk'⟩⟩, hxk', w2⟩
    unfold F_Exp_refresh
    rw [if_pos q]
  · have f3 : oy_fs oy_txx τ (ox_up τ 7 0 4 0 (τ 2 0 10 0)) := oy_fs.rf.up (Or.inr (Or.inr (Or.inl rfl)))
    have f3' : oy_fs (fun c _ _ _ => c = 7) τ (ox_up τ 7 0 4 0 (τ 2 0 10 0)) := oy_fs.rf.up rfl
    have v3 : ox_up τ 7 0 4 0 (τ 2 0 10 0) 7 0 4 0 = τ 2 0 10 0 := oy_up_same
    have eR : F_Exp_refresh τ = (F_Lin_close 2 0 (τ 1 2 4 0) (ox_up τ 7 0 4 0 (τ 2 0 10 0))).bind fun r1 => ((K_Exp_put 5 0 (r1 1 0 4 0) 0 0 r1).bind fun r2 => (some r2)) := by
      unfold F_Exp_refresh
      rw [if_neg q]
    generalize ox_up τ 7 0 4 0 (τ 2 0 10 0) = σ3 at *
    have c3 : oy_cs T σ3 := c2.frame f3' (fun k j i => ⟨by decide, by show ¬ 2 = 7; decide, by show ¬ 4 = 7; decide, by show ¬ 6 = 7; decide⟩)
    have Q3 : oy_Q T σ3 := by
      have e1' : ∀ k j i, σ3 1 k j i = τ 1 k j i := fun k j i => f3' _ _ _ _ (by show ¬ 1 = 7; decide)
      have e2' : ∀ k j i, σ3 2 k j i = τ 2 k j i := fun k j i => f3' _ _ _ _ (by show ¬ 2 = 7; decide)
      have e4' : ∀ k j i, σ3 4 k j i = τ 4 k j i := fun k j i => f3' _ _ _ _ (by show ¬ 4 = 7; decide)
      have e6' : ∀ k j i, σ3 6 k j i = τ 6 k j i := fun k j i => f3' _ _ _ _ (by show ¬ 6 = 7; decide)
      unfold oy_Q oy_O oy_Oe oy_rd oy_hd oy_sm oy_L oy_60 at *
      simp only [e1', e2', e4', e6']
      exact Q2
    have vs3 : oy_vs (fun l c => oy_cl (f l c)) σ3 := fun l c hl hc => (f3' _ _ _ _ (by show ¬ 5 = 7; decide)).trans (hvs l c hl hc)
    have k3 : oy_xk O σ3 := (hO.cg x2).cg (fun j i => f3' _ _ _ _ (by show ¬ 1 = 7; decide))
    have X3 : oy_XQ T f O σ3 := ⟨Q3, vs3, k3⟩
    have e24 : τ 1 2 4 0 = (O.length : Int) := (x2 4 0).trans hO.2.1.1
    have cl : ∃ σ4, F_Lin_close 2 0 (τ 1 2 4 0) σ3 = some σ4 ∧ oy_fs (oy_le 2) σ3 σ4 ∧ oy_XQ T f [] σ4 := by
      rw [e24]
      by_cases z : O.length = 0
      · refine ⟨σ3, ?_, oy_fs.rf, ?_⟩
        · unfold F_Lin_close J_Lin_close_19
          rw [if_neg (by decide), if_pos (by omega)]
        · rw [List.length_eq_zero_iff.mp z] at X3
          exact X3
      · obtain ⟨σ4, e4, d4⟩ := oc_close (k := 2) (a := 0) (m := O.length) k3.1 k3.2.1 k3.2.2.1 (by omega) (by omega)
        have en : sp_del O 0 O.length = [] := by
          apply List.length_eq_zero_iff.mp
          rw [sp_del_len]
          omega
        rw [en] at d4
        obtain ⟨a4, b4⟩ := X3.ed d4 ⟨Nat.zero_le _, fun w hw => by cases hw⟩
        exact ⟨σ4, e4, a4, b4⟩
    obtain ⟨σ4, e4, a4, X4⟩ := cl
    obtain ⟨σ5, e5, a5, X5⟩ := oc_xlev hT hfi 3 0 rfl 0 T.length 0 [] σ4 (Nat.le_refl _) (by decide) (by decide) X4
    rw [List.nil_append] at X5
    have a45 := a4.tr a5
    have c5 : oy_cs T σ5 := c3.frame a45 (fun k j i => by unfold oy_le; omega)
    have v5 : σ5 1 0 5 0 = σ 1 0 5 0 := (a45 1 0 5 0 (by unfold oy_le; omega)).trans ((f3' 1 0 5 0 (by show ¬ 1 = 7; decide)).trans w2)
    have e55 : ∀ j i, σ5 5 0 j i = τ 5 0 j i := fun j i => (a45 5 0 j i (by unfold oy_le; omega)).trans (f3' 5 0 j i (by show ¬ 5 = 7; decide))
    have e57 : σ5 7 0 4 0 = τ 2 0 10 0 := (a45 7 0 4 0 (by unfold oy_le; omega)).trans v3
    refine ⟨σ1, τ, σ5, e1, e2, ?_, g2.tr (f3.tr (a45.mono (fun _ _ _ _ z => Or.inr (Or.inr (Or.inr z))))), c5, ⟨by rw [e55, v5, ← w2]; exact SC2.1, fun z => (SC2.2 (by rw [e55] at z; omega)).cg e55⟩, ⟨⟨_, X5.2.2⟩, by omega, fun _ => ⟨f, hfi, X5.2.2⟩⟩, X5.2.2, v5⟩
    have e5' : K_Exp_put 5 0 (σ4 1 0 4 0) 0 0 σ4 = some σ5 := by
      rw [X4.1.2.1.1]
      exact e5
    rw [eR, e4, Option.bind_some, e5', Option.bind_some]
theorem oc_exported (hT : oy_ok T) (hfi : oy_fin T f) (h : oy_cs T σ) (hS : oy_SC T σ) (hX : oy_XC T σ) : ∃ τ, F_Out_exported σ = some ((((sp_exp T f).length : Nat) : Int), τ) ∧ oy_fs oy_txx σ τ ∧ oy_cs T τ ∧ oy_SC T τ ∧ oy_XC T τ ∧ τ 1 0 5 0 = σ 1 0 5 0 := by
  obtain ⟨τ1, τ2, τ3, e1, e2, e3, f3, c3, S3, X3, k3, v3⟩ := oc_xrefresh hT hfi h hS hX
  refine ⟨τ3, ?_, f3, c3, S3, X3, v3⟩
  unfold F_Out_exported
  rw [e1, Option.bind_some, e2, Option.bind_some, e3, Option.bind_some, k3.2.1.1]
theorem oc_exportedAt (hT : oy_ok T) (hfi : oy_fin T f) (h : oy_cs T σ) (hS : oy_SC T σ) (hX : oy_XC T σ) {a p : Int} : ∃ τ, F_Out_exportedAt a p σ = some (sp_xat (sp_exp T f) a p, τ) ∧ oy_fs oy_txx σ τ ∧ oy_cs T τ ∧ oy_SC T τ ∧ oy_XC T τ ∧ τ 1 0 5 0 = σ 1 0 5 0 := by
  obtain ⟨τ1, τ2, τ3, e1, e2, e3, f3, c3, S3, X3, k3, v3⟩ := oc_xrefresh hT hfi h hS hX
  refine ⟨τ3, ?_, f3, c3, S3, X3, v3⟩
  unfold F_Out_exportedAt F_Out_checkPlace sp_xat
  rw [e1, Option.bind_some, e2, Option.bind_some, e3, Option.bind_some, oc_hasLine k3.2.1, Option.bind_some]
  by_cases q : 0 ≤ a ∧ a < (sp_exp T f).length
  rotate_left
  · rw [if_neg q, if_neg (show ¬ ((0 ≤ a ∧ a < (sp_exp T f).length) ∧ 0 ≤ p) from fun z => q z.1)]
    rfl
  rw [if_pos q]
  dsimp only
  by_cases q2 : 0 ≤ p
  rotate_left
  · rw [if_neg q2, if_neg (show ¬ ((0 ≤ a ∧ a < (sp_exp T f).length) ∧ 0 ≤ p) from fun z => q2 z.2)]
    rfl
  obtain ⟨l, rfl⟩ : ∃ l : Nat, a = l := ⟨a.toNat, by omega⟩
  obtain ⟨x, rfl⟩ : ∃ l : Nat, p = l := ⟨p.toNat, by omega⟩
  have hw : 0 ≤ oy_wk (oy_ln (sp_exp T f) l) x ∧ oy_wk (oy_ln (sp_exp T f) l) x ≤ 126 := by
    by_cases hx : x < (oy_ln (sp_exp T f) l).length
    · have := oy_good_wk (oy_good_ln k3.1 l) hx
      omega
    · rw [oy_wk_ge (by omega)]
      omega
  rw [if_pos q2, if_pos ⟨q, q2⟩, Option.bind_some]
  dsimp only
  rw [oc_at k3.1 k3.2.1 k3.2.2.1, Option.bind_some, Int.toNat_natCast, Int.toNat_natCast, Int.emod_eq_of_lt hw.1 (by omega)]
end OYN4
