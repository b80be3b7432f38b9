/-! ===== the reference: a sum's value ===== -/
theorem sp_sv_er {g : oy_Tm → Int} : ∀ ts, sp_sv g 1000000 ts = 1000000
  | [] => rfl
  | t :: ts => by rw [sp_sv, if_pos rfl]
/-- the terms from a join on -/
def sp_rest (w : List Int) (g p : Nat) : List oy_Tm := if sp_jn (oy_wk w p) then sp_tl w g (oy_wk w p) (p + 1) else []
section OYJ7
variable {T : oy_T} {σ : ox_H} {f : Nat → Nat → Int} {P : Int → Int → Int → ox_H → Option (Int × ox_H)} {n : Nat}
theorem om_bound2 {x : Int} : F_Mod_bound x σ = some (if -999999 ≤ x ∧ x ≤ 999999 then x else 1000000) := by
  have e2 : ox_c 0 999999 = -999999 := by unfold ox_c; omega
  have e3 : ox_c 999999 0 = 999999 := by unfold ox_c; omega
  unfold F_Mod_bound J_Mod_bound_16 J_Mod_bound_24
  rw [e2, e3, oy_er]
  by_cases h1 : x < 999999
  · rw [if_pos h1, if_neg (by decide)]
    by_cases h2 : x < -999999
    · rw [if_pos h2, if_neg (by decide), if_neg (by omega)]
    rw [if_neg h2]
    by_cases h3 : x = -999999
    · rw [if_pos h3, if_pos (by decide), if_pos (by omega), oy_w (by omega) (by omega)]
    · rw [if_neg h3, if_pos (by decide), if_pos (by omega), oy_w (by omega) (by omega)]
  rw [if_neg h1]
  by_cases h4 : x = 999999
  · rw [if_pos h4, if_neg (by decide), if_neg (show ¬ x < -999999 by omega), if_neg (show ¬ x = -999999 by omega), if_pos (by decide), if_pos (show -999999 ≤ x ∧ x ≤ 999999 by omega), oy_w (by omega) (by omega)]
  · rw [if_neg h4, if_pos (by decide), if_neg (by omega)]
theorem om_size (hT : oy_ok T) (hM : oy_M T σ) {l a e : Nat} (hl : l < T.length) (hs : sp_term (oy_ln T l) a = some e) (ha : a ≤ 60) : ∃ σ', F_Mod_size (l : Int) (a : Int) σ = some (((e - a : Nat) : Int), σ') ∧ oy_fr oy_sp σ σ' := by
  unfold sp_term at hs
  unfold F_Mod_size J_Mod_size_26
  rw [om_look hT hM hl (by omega), Option.bind_some, om_dg, Option.bind_some]
  by_cases b0 : sp_dg (oy_wk (oy_ln T l) a)
  · rw [if_pos b0] at hs ⊢
    have e1 := Option.some.inj hs
    have hn := sp_nu_in (oy_ln T l) a
    have en : F_Mod_number (l : Int) (ox_up σ 10 0 11 0 (a : Int)) = some ((sp_nu (oy_ln T l) a).2, oy_at σ (sp_nu (oy_ln T l) a).1) := om_number hT hM hl (by omega)
    have eg : oy_at σ (sp_nu (oy_ln T l) a).1 10 0 11 0 = (((sp_nu (oy_ln T l) a).1 : Nat) : Int) := oy_at_get
    unfold F_Mod_digits
    rw [if_neg oy_10, en, Option.bind_some, Option.bind_some]
    dsimp only
    rw [eg, oy_w (by omega) (by omega), show (((sp_nu (oy_ln T l) a).1 : Nat) : Int) - (a : Int) = ((e - a : Nat) : Int) by omega]
    exact ⟨_, rfl, oy_fr.rf.up rfl⟩
  rw [if_neg b0] at hs ⊢
  rw [if_pos rfl]
  have fin : ∀ v : Int, v = ((e - a : Nat) : Int) → ∃ σ', (some (v, σ) : Option (Int × ox_H)) = some (((e - a : Nat) : Int), σ') ∧ oy_fr oy_sp σ σ' := fun v hv => ⟨σ, by rw [hv], oy_fr.rf⟩
  by_cases b40 : oy_wk (oy_ln T l) a = 40
  · rw [if_pos b40]
    rw [if_neg (by omega), if_pos b40] at hs
    split at hs
    · have := Option.some.inj hs
      exact fin 3 (by omega)
    · cases hs
  · rw [if_neg b40]
    rw [if_neg b40] at hs
    refine fin 2 ?_
    split at hs
    · split at hs
      · have := Option.some.inj hs
        omega
      · cases hs
    · split at hs
      · split at hs
        · have := Option.some.inj hs
          omega
        · cases hs
      · split at hs
        · have := Option.some.inj hs
          omega
        · cases hs
theorem om_tot0 (hT : oy_ok T) {l p m g : Nat} {v : Int} (hl : l < T.length) (hp : p ≤ 24) (hm : oy_mem T f σ) (hj : ¬ sp_jn (oy_wk (oy_ln T l) p)) (hv : v ≠ 1000001) (h2 : 1 < m) : ∃ σ', ox_lp (B_Mod_total_28 P (l : Int) (if sp_kind (oy_ln T l) = 4 then 0 else 1)) m ((p : Int), v, 1, σ) = some (oy_cl (sp_sv (sp_tv T f l) v (sp_rest (oy_ln T l) g p)), σ') ∧ oy_ev T f σ σ' := by
  obtain ⟨m, rfl⟩ : ∃ k, m = k + 1 + 1 := ⟨m - 2, by omega⟩
  have er : sp_rest (oy_ln T l) g p = [] := if_neg hj
  have ecl : oy_cl v = v := if_neg hv
  rw [er, sp_sv, ecl]
  refine ⟨σ, (oy_lp_l (a' := ((p : Int), v, 0, σ)) ?_).trans (oy_lp_m (X := some (v, σ)) ?_), oy_ev.rf hm⟩
  · unfold sp_jn at hj
    unfold B_Mod_total_28 J_Mod_total_68 J_Mod_total_182
    dsimp only
    rw [if_neg oy_10, om_look hT hm.1.1 hl (by omega), Option.bind_some, if_neg (by omega), if_neg (by omega), if_neg (by omega), if_pos rfl]
  · unfold B_Mod_total_28 J_Mod_total_185
    dsimp only
    rw [if_pos rfl]
theorem om_totl (hT : oy_ok T) (hfi : oy_fin T f) (hV : oy_VS T f P n) (hB : oy_BS T f P n) {l : Nat} (hl : l < T.length) : ∀ (g p m : Nat) (v : Int) (σ : ox_H), p ≤ 24 → (sp_jn (oy_wk (oy_ln T l) p) → ∃ e, sp_sum (oy_ln T l) g (p + 1) = some e) → oy_mem T f σ → (∀ t ∈ sp_rest (oy_ln T l) g p, ∀ y, oy_ask T l t y → oy_lw T f σ y) → oy_mu σ ≤ n → oy_rg v → v ≠ 1000001 → g + 2 < m → ∃ σ', ox_lp (B_Mod_total_28 P (l : Int) (if sp_kind (oy_ln T l) = 4 then 0 else 1)) m ((p : Int), v, 1, σ) = some (oy_cl (sp_sv (sp_tv T f l) v (sp_rest (oy_ln T l) g p)), σ') ∧ oy_ev T f σ σ' := by
  have h60 := hT.1
  intro g
  induction g with
  | zero =>
    intro p m v σ hp hs hm hq hmu hg hv h2
    have hj : ¬ sp_jn (oy_wk (oy_ln T l) p) := fun q => by
      obtain ⟨e, he⟩ := hs q
      cases he
    exact om_tot0 hT hl hp hm hj hv (by omega)
  | succ g ih =>
    intro p m v σ hp hs hm hq hmu hg hv h2
    by_cases hj : sp_jn (oy_wk (oy_ln T l) p)
    rotate_left
    · exact om_tot0 hT hl hp hm hj hv (by omega)
    obtain ⟨e, he⟩ := hs hj
    rw [sp_sum] at he
    have j3 := sp_jn_3 hj
    cases ht : sp_term (oy_ln T l) (p + 1) with
    | none =>
      rw [ht] at he
      cases he
    | some e1 =>
      rw [ht] at he
      dsimp only at he
      have hend := sp_term_end _ _ _ ht
      have hge := sp_term_ge _ _ _ ht
      have h24 := oy_len24 hT l
      have er : sp_rest (oy_ln T l) (g + 1) p = (oy_wk (oy_ln T l) p, sp_tm (oy_ln T l) (p + 1)) :: sp_rest (oy_ln T l) g e1 := by
        unfold sp_rest
        rw [if_pos hj, sp_tl, ht]
      rw [er] at hq ⊢
      obtain ⟨m, rfl⟩ : ∃ k, m = k + 1 := ⟨m - 1, by omega⟩
      obtain ⟨σ1, p1, g1⟩ := om_part hT hfi hV hB (j := oy_wk (oy_ln T l) p) hl ht (by omega) hm (hq _ (List.mem_cons_self ..)) hmu
      obtain ⟨σ2, z1, f2⟩ := om_size hT g1.2.1.1.1 hl ht (by omega)
      have g2 := g1.tr (oy_ev.sp g1.2.1 f2)
      have hu := sp_tv_rg (T := T) hfi.rg l (sp_tm_tok ht j3)
      rw [sp_sv]
      generalize sp_tv T f l (oy_wk (oy_ln T l) p, sp_tm (oy_ln T l) (p + 1)) = u at p1 hu ⊢
      have step : ∀ s : Int, oy_rg s → s ≠ 1000001 → J_Mod_total_68 P (l : Int) (if sp_kind (oy_ln T l) = 4 then 0 else 1) (p : Int) v (oy_wk (oy_ln T l) p) 1 σ = J_Mod_total_164 P (l : Int) (if sp_kind (oy_ln T l) = 4 then 0 else 1) (p : Int) 1 s σ1 → ∃ σ', ox_lp (B_Mod_total_28 P (l : Int) (if sp_kind (oy_ln T l) = 4 then 0 else 1)) (m + 1) ((p : Int), v, 1, σ) = some (oy_cl (sp_sv (sp_tv T f l) s (sp_rest (oy_ln T l) g e1)), σ') ∧ oy_ev T f σ σ' := by
        intro s s1 s2 es
        obtain ⟨σ', e5, g5⟩ := ih e1 m s σ2 (by omega) (fun q => by rw [if_pos q] at he; exact ⟨e, he⟩) g2.2.1 (fun t hm' y hy => (hq t (List.mem_cons_of_mem _ hm') y hy).cg g2.2.2.1 g2.2.2.2) (by rw [oy_mu_cg g2.2.2.1 g2.2.2.2]; exact hmu) s1 s2 (by omega)
        refine ⟨σ', (oy_lp_l (a' := ((e1 : Int), s, 1, σ2)) ?_).trans e5, g2.tr g5⟩
        unfold B_Mod_total_28 J_Mod_total_63
        dsimp only
        rw [if_neg oy_10, om_look hT hm.1.1 hl (by omega), Option.bind_some, es]
        have fin : J_Mod_total_164 P (l : Int) (if sp_kind (oy_ln T l) = 4 then 0 else 1) (p : Int) 1 s σ1 = some (.inl ((e1 : Int), s, 1, σ2)) := by
          unfold J_Mod_total_164 J_Mod_total_182
          rw [oy_w1 (by omega), z1, Option.bind_some]
          dsimp only
          rw [oy_w (x := 1 + ((e1 - (p + 1) : Nat) : Int)) (by omega) (by omega), oy_w (by omega) (by omega), show (p : Int) + (1 + ((e1 - (p + 1) : Nat) : Int)) = (e1 : Int) by omega]
        rcases j3 with z | z | z
        · rw [if_pos z]
          exact fin
        · rw [if_neg (by omega), if_pos z]
          exact fin
        · rw [if_neg (by omega), if_neg (by omega), if_pos z]
          exact fin
      have e68 : J_Mod_total_68 P (l : Int) (if sp_kind (oy_ln T l) = 4 then 0 else 1) (p : Int) v (oy_wk (oy_ln T l) p) 1 σ = (if v = 1000000 then J_Mod_total_164 P (l : Int) (if sp_kind (oy_ln T l) = 4 then 0 else 1) (p : Int) 1 1000000 σ1 else (if oy_cl u = 1000000 then J_Mod_total_164 P (l : Int) (if sp_kind (oy_ln T l) = 4 then 0 else 1) (p : Int) 1 1000000 σ1 else J_Mod_total_108 P (l : Int) (if sp_kind (oy_ln T l) = 4 then 0 else 1) (p : Int) v 1 (oy_wk (oy_ln T l) p) (oy_cl u) 0 σ1)) := by
        have e108 : ∀ x : Int, J_Mod_total_108 P (l : Int) (if sp_kind (oy_ln T l) = 4 then 0 else 1) (p : Int) v 1 (oy_wk (oy_ln T l) p) x 1 σ1 = J_Mod_total_164 P (l : Int) (if sp_kind (oy_ln T l) = 4 then 0 else 1) (p : Int) 1 1000000 σ1 := by
          intro x
          unfold J_Mod_total_108
          rw [if_neg oy_10, oy_er]
        unfold J_Mod_total_68 J_Mod_total_103
        rw [if_neg oy_10, oy_w1 (by omega), p1, Option.bind_some, oy_er]
        dsimp only
        rw [e108]
      by_cases c1 : v = 1000000
      · rw [if_pos c1] at e68 ⊢
        have h := step 1000000 (Or.inr (Or.inl rfl)) (by decide) e68
        rw [sp_sv_er] at h
        rw [c1] at h ⊢
        exact h
      rw [if_neg c1] at e68 ⊢
      by_cases c2 : u = 1000001 ∨ u = 1000000
      · have ecl : oy_cl u = 1000000 := oy_cl_no (fun q => c2.elim q.2 q.1)
        rw [if_pos ecl] at e68
        rw [if_pos c2, ecl]
        have h := step 1000000 (Or.inr (Or.inl rfl)) (by decide) e68
        rw [sp_sv_er] at h
        exact h
      have ecl : oy_cl u = u := if_neg (fun q => c2 (Or.inl q))
      rw [ecl, if_neg (fun q => c2 (Or.inr q))] at e68
      rw [if_neg c2]
      have r1 := oy_rg_nb hg c1 hv
      have r2 := oy_rg_nb hu (fun q => c2 (Or.inr q)) (fun q => c2 (Or.inl q))
      have r3 := sp_jo_rg v (oy_wk (oy_ln T l) p) u
      refine step _ r3.1 r3.2 (e68.trans ?_)
      unfold J_Mod_total_108 J_Mod_total_161 sp_jo sp_jr
      rw [if_pos rfl]
      rcases j3 with z | z | z
      · rw [if_pos z, if_pos z, oy_w (x := v + u) (by omega) (by omega), om_bound2, Option.bind_some]
      · have z2 : ¬ oy_wk (oy_ln T l) p = 43 := by omega
        rw [if_neg z2, if_neg z2, if_pos z, if_pos z, oy_w (x := v - u) (by omega) (by omega), om_bound2, Option.bind_some]
      · have z2 : ¬ oy_wk (oy_ln T l) p = 43 := by omega
        have z3 : ¬ oy_wk (oy_ln T l) p = 45 := by omega
        have hb := oy_mulb r1 r2
        have ewl : ox_wl (v * u) = v * u := by
          generalize v * u = x at hb
          unfold ox_wl
          omega
        rw [if_neg z2, if_neg z2, if_neg z3, if_neg z3, ewl, om_bound2, Option.bind_some]
end OYJ7
