/-! ===== the reference: a block's value over a level; all levels ===== -/
section OYK2
variable {T : oy_T} {σ : ox_H} {f : Nat → Nat → Int} {P : Int → Int → Int → ox_H → Option (Int × ox_H)} {n : Nat}
theorem oy_mem.markB (h : oy_mem T f σ) {i : Nat} : oy_mem T f (ox_up σ 10 0 42 i 1) := by
  obtain ⟨h1, h2, h3, h4, h5, h6, h7⟩ := h
  refine ⟨h1.sv (oy_fr.rf.up rfl), fun l c a b m => ?_, fun z r a b m => ?_, fun k => ?_, fun k => ?_, fun k => by rw [oy_up_ne (by decide), oy_up_ne (by decide)]; exact h6 k, fun k => by rw [oy_up_ne (by decide), oy_up_ne (by decide)]; exact h7 k⟩
  · rw [oy_up_ne (by decide)]
    rw [oy_up_ne (by decide), oy_up_ne (by decide)] at m
    exact h2 l c a b m
  · rw [oy_up_ne (by decide)]
    rw [oy_up_ne (by decide), oy_up_ne (by decide)] at m
    exact h3 z r a b m
  · rw [oy_up_ne (by decide)]
    exact h4 k
  · by_cases q : k = i
    · rw [q]
      exact Or.inr oy_up_same
    · rw [oy_up_ni q]
      exact h5 k
theorem oy_ev.doneB {z r : Nat} (hm : oy_mem T f σ) (hb : sp_bk T (z : Int) = some r) {σ1 : ox_H} (hk : ¬ σ 10 0 42 z = 1) (g : oy_ev T f (ox_up σ 10 0 42 z 1) σ1) : oy_ev T f σ (ox_up (ox_up (ox_up σ1 10 0 42 z 0) 10 0 39 z (σ1 10 0 36 0)) 10 0 40 z (oy_cl (f r 0))) := by
  obtain ⟨g1, ⟨m1, m2, m3, m4, m5, m6, m7⟩, g3, g4⟩ := g
  have hs : oy_fr oy_sv σ σ1 := oy_fr.tr (oy_fr.rf.up rfl) g1
  have e0 : σ 10 0 42 z = 0 := (hm.2.2.2.2.1 _).resolve_right hk
  refine ⟨((hs.up rfl).up rfl).up rfl, ⟨m1.sv (((oy_fr.rf.up rfl).up rfl).up rfl), fun l c a b m => ?_, fun z' r' a b m => ?_, fun k => ?_, fun k => ?_, fun k => ?_, fun k => ?_⟩, fun k => ?_, fun k => ?_⟩
  · rw [oy_up_ne (by decide), oy_up_ne (by decide), oy_up_ne (by decide)]
    rw [oy_up_ne (by decide), oy_up_ne (by decide), oy_up_ne (by decide), oy_up_ne (by decide), oy_up_ne (by decide), oy_up_ne (by decide)] at m
    exact m2 l c a b m
  · by_cases q : z' = z
    · rw [q, hb] at b
      rw [q, ← Option.some.inj b]
      exact oy_up_same
    · rw [oy_up_ni q, oy_up_ne (by decide), oy_up_ne (by decide)]
      rw [oy_up_ne (by decide), oy_up_ni q, oy_up_ne (by decide), oy_up_ne (by decide), oy_up_ne (by decide), oy_up_ne (by decide)] at m
      exact m3 z' r' a b m
  · rw [oy_up_ne (by decide), oy_up_ne (by decide), oy_up_ne (by decide)]
    exact m4 k
  · rw [oy_up_ne (by decide), oy_up_ne (by decide)]
    by_cases q : k = z
    · rw [q]
      exact Or.inl oy_up_same
    · rw [oy_up_ni q]
      exact m5 k
  · rw [oy_up3n (by decide), oy_up3n (by decide)]
    exact m6 k
  · rw [oy_up3 (by decide), oy_up3n (by decide)]
    split
    · exact Int.le_refl _
    · exact m7 k
  · rw [oy_up_ne (by decide), oy_up_ne (by decide), oy_up_ne (by decide), g3 k, oy_up_ne (by decide)]
  · rw [oy_up_ne (by decide), oy_up_ne (by decide)]
    by_cases q : k = z
    · rw [q, e0]
      exact oy_up_same
    · rw [oy_up_ni q, g4 k, oy_up_ni q]
theorem om_blocked (hT : oy_ok T) (hS : oy_TS T f P n) {z : Nat} (hz : z < 26) (hm : oy_mem T f σ) (hw : ∀ r, sp_bk T (z : Int) = some r → oy_lw T f σ (r, 0)) (hmu : ¬ σ 10 0 42 z = 1 → oy_mu (ox_up σ 10 0 42 z 1) < n) : ∃ σ', F_Mod_blocked P (97 + (z : Int)) σ = some (oy_cl (sp_fa f (sp_bk T (z : Int)) 0), σ') ∧ oy_ev T f σ σ' := by
  have h60 := hT.1
  obtain ⟨σ1, e1, f1⟩ := om_codeOf hT hm.1.1 (z : Int)
  have v1 := oy_ev.sp hm f1
  have ez : ox_w (97 + (z : Int) - 97) = (z : Int) := by rw [oy_w (by omega) (by omega)]; omega
  unfold F_Mod_blocked J_Mod_blocked_25
  rw [e1, Option.bind_some]
  dsimp only
  cases hb : sp_bk T (z : Int) with
  | none =>
    have ec : oy_cl (sp_fa f none 0) = 1000000 := if_neg (show ¬ (1000000 : Int) = 1000001 by decide)
    rw [if_pos (show oy_en none < 0 by decide), ec, oy_er]
    exact ⟨σ1, rfl, v1⟩
  | some r =>
    have hr := sp_bk_in hb
    have er : oy_en (some r) = (r : Int) := rfl
    have hw1 := (hw r hb).cg v1.2.2.1 v1.2.2.2
    have ef : sp_fa f (some r) 0 = f r 0 := rfl
    have hiz : 0 ≤ (z : Int) ∧ (z : Int).toNat < 26 := by omega
    rw [er, if_neg (by omega), ez, if_pos hiz, if_pos hiz, if_pos hiz, if_pos hiz, Int.toNat_natCast, ef]
    by_cases q1 : σ1 10 0 42 z = 1
    · rw [if_pos q1, hw1.busyB hz hb q1, oy_er]
      exact ⟨σ1, rfl, v1⟩
    rw [if_neg q1]
    by_cases q2 : σ1 10 0 39 z = σ1 10 0 36 0
    · rw [if_pos q2, v1.2.1.2.2.1 z r hz hb q2]
      exact ⟨σ1, rfl, v1⟩
    rw [if_neg q2]
    have hcc : sp_cc (oy_ln T r) = [sp_tl (oy_ln T r) 6 43 3] := by
      unfold sp_cc
      rw [if_neg (by rw [hr.2.1]; decide), if_pos hr.2.1]
    have hcn : 0 < sp_nc T r := by
      unfold sp_nc
      rw [hcc]
      exact Nat.zero_lt_one
    have hts : sp_ts T r 0 = sp_tl (oy_ln T r) 6 43 3 := by
      unfold sp_ts
      rw [hcc]
      rfl
    have hco := sp_kind_5 hr.2.1
    unfold sp_code at hco
    rw [Bool.and_eq_true, decide_eq_true_eq, decide_eq_true_eq] at hco
    have hmu1 : oy_mu (ox_up σ1 10 0 42 z 1) < n := by
      have h := hmu (fun y => q1 ((v1.2.2.2 z).trans y))
      have e : oy_mu (ox_up σ1 10 0 42 z 1) = oy_mu (ox_up σ 10 0 42 z 1) := oy_mu_cg (fun i => by rw [oy_up_ne (by decide), oy_up_ne (by decide)]; exact v1.2.2.1 i) (fun i => by
        by_cases y : i = z
        · rw [y]
          exact oy_up_same.trans oy_up_same.symm
        · rw [oy_up_ni y, oy_up_ni y]
          exact v1.2.2.2 i)
      omega
    obtain ⟨σ2, p2, g2⟩ := hS r 0 3 _ _ hr.1 hcn hco.2 hts v1.2.1.markB (hw1.markB hb) hmu1
    rw [if_neg (by rw [hr.2.1]; decide)] at p2
    have p2' : P (r : Int) 3 1 (ox_up σ1 10 0 42 z 1) = some (oy_cl (f r 0), σ2) := p2
    have hiz2 : 0 ≤ (z : Int) ∧ z < 26 := by omega
    rw [p2', Option.bind_some, if_pos hiz2, if_pos hiz2, if_pos hiz2]
    exact ⟨_, rfl, v1.tr (oy_ev.doneB v1.2.1 hb q1 g2)⟩
theorem om_levels (hT : oy_ok T) (hfi : oy_fin T f) : ∀ n, oy_TS T f (K_Mod_total n) n ∧ oy_VS T f (K_Mod_total n) n ∧ oy_BS T f (K_Mod_total n) n := by
  intro n
  have h60 := hT.1
  have key : oy_TS T f (K_Mod_total n) n → oy_TS T f (K_Mod_total n) n ∧ oy_VS T f (K_Mod_total n) n ∧ oy_BS T f (K_Mod_total n) n := by
    intro hS
    refine ⟨hS, fun l c σ hl h4 hc hm hw hmu => om_value hT hfi hS hl h4 (by omega) hm hw (fun q => ?_), fun z σ hz hm hw hmu => om_blocked hT hS hz hm hw (fun q => ?_)⟩
    · have := oy_mu_cell (show l < 60 by omega) hc q
      omega
    · have := oy_mu_blk hz q
      omega
  induction n with
  | zero => exact key (fun l c a e σ _ _ _ _ _ _ h => absurd h (Nat.not_lt_zero _))
  | succ n ih =>
    have h := ih (fun hS => ⟨hS, fun l c σ hl h4 hc hm hw hmu => om_value hT hfi hS hl h4 (by omega) hm hw (fun q => by
      have := oy_mu_cell (show l < 60 by omega) hc q
      omega), fun z σ hz hm hw hmu => om_blocked hT hS hz hm hw (fun q => by
      have := oy_mu_blk hz q
      omega)⟩)
    exact key (om_TS hT hfi h.2.1 h.2.2)
end OYK2
