/-! ===== the reference: a level's total is right ===== -/
/-- total is right at a level, for a marked cell whose sum begins at a place -/
def oy_TS (T : oy_T) (f : Nat → Nat → Int) (P : Int → Int → Int → ox_H → Option (Int × ox_H)) (n : Nat) : Prop := ∀ (l c a e : Nat) (σ : ox_H), l < T.length → c < sp_nc T l → sp_sum (oy_ln T l) 6 a = some e → sp_ts T l c = sp_tl (oy_ln T l) 6 43 a → oy_mem T f σ → oy_lo T f σ (l, c) → oy_mu σ < n → ∃ σ', P (l : Int) (a : Int) (if sp_kind (oy_ln T l) = 4 then 0 else 1) σ = some (oy_cl (f l c), σ') ∧ oy_ev T f σ σ'
section OYJ8
variable {T : oy_T} {σ : ox_H} {f : Nat → Nat → Int} {P : Int → Int → Int → ox_H → Option (Int × ox_H)} {n : Nat}
theorem om_total (hT : oy_ok T) (hfi : oy_fin T f) (hV : oy_VS T f P n) (hB : oy_BS T f P n) {l a e : Nat} (hl : l < T.length) (hs : sp_sum (oy_ln T l) 6 a = some e) (hm : oy_mem T f σ) (hq : ∀ t ∈ sp_tl (oy_ln T l) 6 43 a, ∀ y, oy_ask T l t y → oy_lw T f σ y) (hmu : oy_mu σ ≤ n) : ∃ σ', F_Mod_total P (l : Int) (a : Int) (if sp_kind (oy_ln T l) = 4 then 0 else 1) σ = some (oy_cl (sp_sv (sp_tv T f l) 0 (sp_tl (oy_ln T l) 6 43 a)), σ') ∧ oy_ev T f σ σ' := by
  have h60 := hT.1
  have h24 := oy_len24 hT l
  have hs' : sp_sum (oy_ln T l) (5 + 1) a = some e := hs
  have el : sp_tl (oy_ln T l) 6 43 a = sp_tl (oy_ln T l) (5 + 1) 43 a := rfl
  rw [sp_sum] at hs'
  cases ht : sp_term (oy_ln T l) a with
  | none =>
    rw [ht] at hs'
    cases hs'
  | some e1 =>
    rw [ht] at hs'
    dsimp only at hs'
    have hend := sp_term_end _ _ _ ht
    have hge := sp_term_ge _ _ _ ht
    have er : sp_tl (oy_ln T l) 6 43 a = ((43 : Int), sp_tm (oy_ln T l) a) :: sp_rest (oy_ln T l) 5 e1 := by
      rw [el, sp_tl, ht]
      rfl
    rw [er] at hq ⊢
    obtain ⟨σ1, p1, g1⟩ := om_part hT hfi hV hB (j := 43) hl ht (by omega) hm (hq _ (List.mem_cons_self ..)) hmu
    obtain ⟨σ2, z1, f2⟩ := om_size hT g1.2.1.1.1 hl ht (by omega)
    have g2 := g1.tr (oy_ev.sp g1.2.1 f2)
    have hu := sp_tv_rg (T := T) hfi.rg l (sp_tm_tok ht (Or.inl rfl))
    rw [sp_sv, if_neg (show ¬ (0 : Int) = 1000000 by decide)]
    generalize sp_tv T f l ((43 : Int), sp_tm (oy_ln T l) a) = u at p1 hu ⊢
    have hr : oy_rg (oy_cl u) ∧ oy_cl u ≠ 1000001 := by
      unfold oy_cl oy_rg
      unfold oy_rg at hu
      split <;> omega
    obtain ⟨σ', e5, g5⟩ := om_totl hT hfi hV hB hl 5 e1 ox_fu (oy_cl u) σ2 (by omega) (fun q => by rw [if_pos q] at hs'; exact ⟨e, hs'⟩) g2.2.1 (fun t hm' y hy => (hq t (List.mem_cons_of_mem _ hm') y hy).cg g2.2.2.1 g2.2.2.2) (by rw [oy_mu_cg g2.2.2.1 g2.2.2.2]; exact hmu) hr.1 hr.2 (by show 5 + 2 < 100000; decide)
    refine ⟨σ', ?_, g2.tr g5⟩
    unfold F_Mod_total J_Mod_total_28
    rw [p1, Option.bind_some]
    dsimp only
    rw [z1, Option.bind_some]
    dsimp only
    rw [oy_w (by omega) (by omega), show (a : Int) + ((e1 - a : Nat) : Int) = (e1 : Int) by omega]
    refine e5.trans ?_
    by_cases c2 : u = 1000001 ∨ u = 1000000
    · have ecl : oy_cl u = 1000000 := oy_cl_no (fun q => c2.elim q.2 q.1)
      rw [if_pos c2, ecl, sp_sv_er]
      rfl
    · have ecl : oy_cl u = u := if_neg (fun q => c2 (Or.inl q))
      have r2 := oy_rg_nb hu (fun q => c2 (Or.inr q)) (fun q => c2 (Or.inl q))
      have ej : sp_jo 0 43 u = u := by
        unfold sp_jo sp_jr
        rw [if_pos (show (43 : Int) = 43 from rfl), Int.zero_add, if_pos r2]
      rw [if_neg c2, ecl, ej]
theorem om_TS (hT : oy_ok T) (hfi : oy_fin T f) (hV : oy_VS T f P n) (hB : oy_BS T f P n) : oy_TS T f (F_Mod_total P) (n + 1) := by
  intro l c a e σ hl hc hs hts hm hlo hmu
  obtain ⟨σ', e1, g1⟩ := om_total hT hfi hV hB hl hs hm (fun t ht y hy => hlo.ask hfi (x := (l, c)) hc (t := t) (by rw [← hts] at ht; exact ht) hy) (by omega)
  refine ⟨σ', e1.trans ?_, g1⟩
  have ef : f l c = sp_ce T f l c := congrFun (congrFun hfi.fix l) c
  have ec : sp_ce T f l c = sp_sv (sp_tv T f l) 0 (sp_ts T l c) := if_pos hc
  rw [← hts, ← ec, ← ef]
end OYJ8
