/-! ===== titles, capture: the reference ===== -/
section OYH2
variable {T : oy_T} {σ : ox_H}
theorem om_titled (hT : oy_ok T) (hF : oy_F T σ) (c : Int) : ∃ σ', F_Mod_titled c σ = some (sp_ti T c, σ') ∧ oy_fr oy_sp σ σ' := by
  have h60 := hT.1
  have hn := sp_n_le (T := T)
  unfold F_Mod_titled J_Mod_titled_2
  obtain ⟨b, hb, q1, q2⟩ := oy_lfM (B_Mod_titled_2 c) (fun τ => oy_F T τ ∧ oy_fr oy_sp σ τ) (fun e => decide (sp_ini T e = c)) (fun k b => b.1 = (if k < sp_n T then (k : Int) else -1) ∧ oy_fr oy_sp σ b.2) 0 (sp_n T) (fun k τ hI h1 h2 hp => by
      have hp := of_decide_eq_false hp
      obtain ⟨τ1, t1, t2⟩ := om_initial hT hI.1 h2
      refine ⟨τ1, ?_, hI.1.sp t2, hI.2.tr t2⟩
      unfold B_Mod_titled_2
      dsimp only
      rw [if_neg (show ¬ τ 10 0 22 0 ≤ (k : Int) by rw [hI.1.2.1]; omega), t1, Option.bind_some, if_neg hp, oy_w1 (by omega)]) (fun k τ hI h1 h2 hp => by
      have hp := of_decide_eq_true hp
      obtain ⟨τ1, t1, t2⟩ := om_initial hT hI.1 h2
      have F1 := hI.1.sp t2
      refine ⟨((k : Int), τ1), ?_, by rw [if_pos h2], hI.2.tr t2⟩
      unfold B_Mod_titled_2 J_Mod_titled_25 J_Mod_titled_38
      dsimp only
      rw [if_neg (show ¬ τ 10 0 22 0 ≤ (k : Int) by rw [hI.1.2.1]; omega), t1, Option.bind_some, if_pos hp]
      dsimp only
      rw [if_neg (show ¬ τ1 10 0 22 0 ≤ (k : Int) by rw [F1.2.1]; omega)]
      rfl) (fun τ hI => by
      refine ⟨((-1 : Int), τ), ?_, by rw [if_neg (Nat.lt_irrefl _)], hI.2⟩
      unfold B_Mod_titled_2 J_Mod_titled_25 J_Mod_titled_38
      dsimp only
      rw [if_pos (show τ 10 0 22 0 ≤ (sp_n T : Int) by rw [hI.1.2.1]; omega), if_pos (show τ 10 0 22 0 ≤ (sp_n T : Int) by rw [hI.1.2.1]; omega)]
      rfl) (sp_n T) ox_fu 0 σ (by omega) (Nat.le_refl _) (by show _ < 100000; omega) ⟨hF, oy_fr.rf⟩
  refine ⟨b.2, ?_, q2⟩
  have hb2 : ox_lp (B_Mod_titled_2 c) ox_fu ((0 : Int), σ) = some b := hb
  rw [hb2]
  have : b = (b.1, b.2) := rfl
  rw [this, q1]
  rfl
theorem om_capture (hT : oy_ok T) (hM : oy_M T σ) {u t : Int} : oy_rm oy_mt (sp_capture T u t).2 2 3 0 (sp_capture T u t).1 (F_Mod_capture u t σ) σ := by
  have h60 := hT.1
  have hn := sp_n_le (T := T)
  have bad : ∀ (τ : ox_H) (v2 v4 v5 c : Int) (ex : Nat), oy_M T τ → oy_fr oy_mt σ τ → 0 < c → oy_cx 2 3 0 (.inl ex) = c → oy_rm oy_mt T 2 3 0 (.inl ex) (J_Mod_capture_99 v2 v4 v5 c τ) σ := by
    intro τ v2 v4 v5 c ex hτ gτ hc he
    unfold J_Mod_capture_99
    rw [om_holds, if_neg (by omega), Option.bind_some, if_neg oy_10]
    exact ⟨_, _, rfl, oy_mt_up gτ (Or.inr (Or.inr rfl)), oy_M46 hτ, (by show ox_up τ 10 0 46 0 c 10 0 46 0 = _; rw [he]; exact oy_up_same), fun v hv => by cases hv⟩
  have bad2 : oy_rm oy_mt T 2 3 0 (.inl 2) (J_Mod_capture_26 u t σ) σ := by
    obtain ⟨σ1, e1, f1, F1⟩ := om_find hT hM
    unfold J_Mod_capture_26 J_Mod_capture_27 J_Mod_capture_48 J_Mod_capture_67
    rw [e1, Option.bind_some, if_pos rfl, if_neg (by decide), if_pos rfl]
    exact bad σ1 _ _ _ 1 2 F1.1 (oy_mt_sq f1) (by decide) rfl
  unfold F_Mod_capture sp_capture
  rw [om_in, Option.bind_some]
  by_cases qu : 0 ≤ u ∧ u < 26
  rotate_left
  · rw [if_neg (show ¬ (0 ≤ u ∧ u ≤ 25) by omega), if_neg (show ¬ ((0 ≤ u ∧ u < 26) ∧ (0 ≤ t ∧ t < 26)) from fun z => qu z.1), if_pos rfl]
    exact bad2
  rw [if_pos (show 0 ≤ u ∧ u ≤ 25 by omega), if_neg oy_10, om_in, Option.bind_some]
  by_cases qt : 0 ≤ t ∧ t < 26
  rotate_left
  · rw [if_neg (show ¬ (0 ≤ t ∧ t ≤ 25) by omega), if_neg (show ¬ ((0 ≤ u ∧ u < 26) ∧ (0 ≤ t ∧ t < 26)) from fun z => qt z.2), if_pos rfl]
    exact bad2
  rw [if_pos (show 0 ≤ t ∧ t ≤ 25 by omega), if_neg oy_10, if_pos (⟨qu, qt⟩ : (0 ≤ u ∧ u < 26) ∧ (0 ≤ t ∧ t < 26))]
  obtain ⟨σ1, e1, f1, F1⟩ := om_find hT hM
  have g1 := oy_mt_sq f1
  obtain ⟨σ2, e2, f2⟩ := om_titled hT F1 (97 + u)
  have F2 := F1.sp f2
  have g2 := g1.tr (oy_mt_sp f2)
  have ewu : Nat → ox_w (97 + u) = 97 + u := fun _ => oy_w (by omega) (by omega)
  have ewt : Nat → ox_w (97 + t) = 97 + t := fun _ => oy_w (by omega) (by omega)
  unfold J_Mod_capture_27
  rw [e1, Option.bind_some, if_neg oy_10, (ewu 0), e2, Option.bind_some]
  dsimp only
  have hp := sp_ti_in (T := T) (c := 97 + u)
  unfold sp_caT
  generalize sp_ti T (97 + u) = p at hp ⊢
  have how := sp_ow_1 (T := T) (p := p)
  have hle := sp_eu_le (T := T) (p := p)
  have key : ∀ τ : ox_H, oy_F T τ → oy_fr oy_mt σ τ → oy_rm oy_mt (if sp_ow T p ≤ 5 ∧ T.length < 60 then ((.inr ((sp_esn (sp_put (sp_ins T (sp_eu T p) 1) (sp_eu T p) (sp_cw (sp_ow T p) t)) (sp_eu T p)).length : Int), sp_put (sp_ins T (sp_eu T p) 1) (sp_eu T p) (sp_cw (sp_ow T p) t)) : (Nat ⊕ Int) × oy_T) else (.inl 3, T)).2 2 3 0 (if sp_ow T p ≤ 5 ∧ T.length < 60 then ((.inr ((sp_esn (sp_put (sp_ins T (sp_eu T p) 1) (sp_eu T p) (sp_cw (sp_ow T p) t)) (sp_eu T p)).length : Int), sp_put (sp_ins T (sp_eu T p) 1) (sp_eu T p) (sp_cw (sp_ow T p) t)) : (Nat ⊕ Int) × oy_T) else (.inl 3, T)).1 (J_Mod_capture_67 t 1 p ((sp_ow T p : Nat) : Int) τ) σ := by
    intro τ hF gτ
    have ho6 : sp_ow T p ≤ 6 := by
      unfold sp_ow
      rcases hp with hp | ⟨hp1, hp2⟩
      · rw [if_pos (by omega)]
        omega
      · rw [if_neg (by omega)]
        have := sp_lv_in (T := T) (e := p.toNat) (by omega)
        omega
    unfold J_Mod_capture_67 J_Mod_capture_94
    rw [if_neg oy_10]
    by_cases h5 : sp_ow T p ≤ 5
    rotate_left
    · rw [if_pos (show ((sp_ow T p : Nat) : Int) = 6 by omega), if_neg (show ¬ (sp_ow T p ≤ 5 ∧ T.length < 60) from fun z => h5 z.1)]
      exact bad τ _ _ _ 2 3 hF.1 gτ (by decide) rfl
    rw [if_neg (show ¬ ((sp_ow T p : Nat) : Int) = 6 by omega)]
    by_cases h6 : T.length < 60
    rotate_left
    · rw [if_pos (show τ 10 0 2 0 = 60 by rw [hF.1.1]; omega), if_neg (show ¬ (sp_ow T p ≤ 5 ∧ T.length < 60) from fun z => h6 z.2)]
      exact bad τ _ _ _ 2 3 hF.1 gτ (by decide) rfl
    rw [if_neg (show ¬ τ 10 0 2 0 = 60 by rw [hF.1.1]; omega), if_pos (show sp_ow T p ≤ 5 ∧ T.length < 60 from ⟨h5, h6⟩)]
    have F0 : oy_F T (ox_up τ 10 0 46 0 0) := hF.fr (S := fun c j => c == 10 && j == 46) (oy_fr.rf.up rfl) rfl rfl rfl rfl rfl
    have g0 : oy_fr oy_mt σ (ox_up τ 10 0 46 0 0) := oy_mt_up gτ (Or.inr (Or.inr rfl))
    have w0 : (ox_up τ 10 0 46 0 0) 10 0 46 0 = 0 := oy_up_same
    unfold J_Mod_capture_99
    rw [om_holds, if_pos (Int.le_refl _), Option.bind_some, if_pos rfl]
    dsimp only
    generalize ox_up τ 10 0 46 0 0 = τ0 at F0 g0 w0 ⊢
    /- behind the place -/
    have fin : ∀ ρ : ox_H, oy_M T ρ → oy_fr oy_mt σ ρ → ρ 10 0 46 0 = 0 → oy_rm oy_mt (sp_put (sp_ins T (sp_eu T p) 1) (sp_eu T p) (sp_cw (sp_ow T p) t)) 2 3 0 (.inr ((sp_esn (sp_put (sp_ins T (sp_eu T p) 1) (sp_eu T p) (sp_cw (sp_ow T p) t)) (sp_eu T p)).length : Int)) (J_Mod_capture_125 t ((sp_ow T p : Nat) : Int) ((sp_eu T p : Nat) : Int) ρ) σ := by
      intro ρ hρ gρ wρ
      obtain ⟨ρ1, x1, y1, z1, z2, z3⟩ := om_open hT hρ (a := sp_eu T p) (m := 1) hle (by omega) (by omega)
      have x1' : F_Mod_open ((sp_eu T p : Nat) : Int) 1 ρ = some ρ1 := x1
      have hT1 : oy_ok (sp_ins T (sp_eu T p) 1) := sp_ins_ok (k := 0) hT (by show _ ≤ 60; omega)
      have hl1 : sp_eu T p < (sp_ins T (sp_eu T p) 1).length := by rw [sp_ins_len]; omega
      unfold J_Mod_capture_125 J_Mod_capture_146
      rw [x1', Option.bind_some, if_pos (show 0 ≤ ((sp_eu T p : Nat) : Int) ∧ ((sp_eu T p : Nat) : Int).toNat < 60 by omega), Int.toNat_natCast]
      have hloop : ∀ (f i n : Nat) (κ : ox_H), i + f = sp_ow T p → f < n → ∃ κ', ox_lp (B_Mod_capture_146 t ((sp_ow T p : Nat) : Int) ((sp_eu T p : Nat) : Int)) n ((i : Int), κ) = J_Mod_capture_174 t ((sp_eu T p : Nat) : Int) κ' ∧ ∀ c k j x, κ' c k j x = if c = 10 ∧ k = 0 ∧ j = 0 ∧ 24 * sp_eu T p + i ≤ x ∧ x < 24 * sp_eu T p + sp_ow T p then 42 else κ c k j x := by
        intro f
        induction f with
        | zero =>
          intro i n κ h1 h2
          obtain ⟨n, rfl⟩ : ∃ j, n = j + 1 := ⟨n - 1, by omega⟩
          refine ⟨κ, oy_lp_m ?_, fun c k j x => by rw [if_neg (by omega)]⟩
          unfold B_Mod_capture_146
          dsimp only
          rw [if_pos (by omega)]
        | succ f ih =>
          intro i n κ h1 h2
          obtain ⟨n, rfl⟩ : ∃ j, n = j + 1 := ⟨n - 1, by omega⟩
          have ew : Nat → ox_w (ox_w (24 * ((sp_eu T p : Nat) : Int)) + (i : Int)) = ((24 * sp_eu T p + i : Nat) : Int) := fun _ => by rw [oy_w24 (by omega), oy_wn (by omega)]
          have hB : B_Mod_capture_146 t ((sp_ow T p : Nat) : Int) ((sp_eu T p : Nat) : Int) ((i : Int), κ) = some (.inl (((i + 1 : Nat) : Int), ox_up κ 10 0 0 (24 * sp_eu T p + i) 42)) := by
            unfold B_Mod_capture_146
            dsimp only
            rw [if_neg (by omega), (ew 0), Int.toNat_natCast, if_pos (by omega), oy_w1 (by omega)]
          obtain ⟨κ', e', g'⟩ := ih (i + 1) n (ox_up κ 10 0 0 (24 * sp_eu T p + i) 42) (by omega) (by omega)
          refine ⟨κ', (oy_lp_l hB).trans e', fun c k j x => ?_⟩
          rw [g']
          by_cases q : c = 10 ∧ k = 0 ∧ j = 0 ∧ 24 * sp_eu T p + (i + 1) ≤ x ∧ x < 24 * sp_eu T p + sp_ow T p
          · rw [if_pos q, if_pos (by omega)]
          · rw [if_neg q]
            by_cases z : c = 10 ∧ k = 0 ∧ j = 0 ∧ x = 24 * sp_eu T p + i
            · obtain ⟨rfl, rfl, rfl, rfl⟩ := z
              rw [oy_up_same, if_pos (by omega)]
            · rw [if_neg (by omega)]
              unfold ox_up
              rw [if_neg (by omega)]
      obtain ⟨κ, k1, k2⟩ := hloop (sp_ow T p) 0 ox_fu (ox_up ρ1 10 0 1 (sp_eu T p) ((sp_ow T p : Nat) : Int)) (by omega) (by show _ < 100000; omega)
      have k1' : ox_lp (B_Mod_capture_146 t ((sp_ow T p : Nat) : Int) ((sp_eu T p : Nat) : Int)) ox_fu ((0 : Int), ox_up ρ1 10 0 1 (sp_eu T p) ((sp_ow T p : Nat) : Int)) = J_Mod_capture_174 t ((sp_eu T p : Nat) : Int) κ := k1
      rw [k1']
      obtain ⟨a1, a2, a3, a4, a5⟩ := sp_st5 (sp_ow T p) (by omega) how
      have hstl : ∀ q, q < sp_ow T p → oy_wk (sp_stl (sp_ow T p)) q = 42 := fun q hq => by
        have h1 := sp_stars_lt (w := sp_stl (sp_ow T p) ++ [32]) (i := q) (by rw [a2]; exact hq)
        rw [oy_wk_apl (by rw [a5]; exact hq)] at h1
        exact h1
      have hf1 : oy_fr oy_m2 ρ κ := fun c k j i h => by
        have h0 : ¬ (c = 10 ∧ j ≤ 2) := fun q => by
          unfold oy_m2 at h
          rw [q.1, decide_eq_true q.2] at h
          cases h
        rw [k2, if_neg (fun q => h0 ⟨q.1, by have := q.2.2.1; omega⟩), oy_up_ne (fun q => h0 ⟨q.1, by have := q.2; omega⟩)]
        exact y1 c k j i h
      have M1 : oy_M (sp_put (sp_ins T (sp_eu T p) 1) (sp_eu T p) (sp_stl (sp_ow T p))) κ := by
        refine ⟨?_, fun x hx => ?_, fun x q hx hq => ?_⟩
        · rw [k2, if_neg (fun q => absurd q.2.2.1 (by decide)), oy_up_ne (by decide), z1, sp_put_len, sp_ins_len]
        · rw [sp_put_len, sp_ins_len] at hx
          rw [sp_put_ln (by rw [sp_ins_len]; exact hx), k2, if_neg (fun q => absurd q.2.2.1 (by decide))]
          by_cases z : x = sp_eu T p
          · rw [if_pos z, z, oy_up_same, a5]
          · rw [if_neg z, oy_up_ni z, sp_ins_ln hx]
            by_cases zz : x < sp_eu T p
            · have := z2 x (by omega)
              rw [if_pos zz] at this
              rw [if_pos zz, this]
            · have := z2 (x - 1) (by omega)
              have e : x - 1 + 1 = x := by omega
              rw [if_neg (show ¬ x - 1 < sp_eu T p by omega), e] at this
              rw [if_neg zz, if_neg (by omega), this]
        · rw [sp_put_len, sp_ins_len] at hx
          rw [sp_put_ln (by rw [sp_ins_len]; exact hx)] at hq ⊢
          rw [k2]
          by_cases z : x = sp_eu T p
          · rw [if_pos z] at hq ⊢
            rw [a5] at hq
            rw [hstl q hq, z, if_pos (by omega)]
          · rw [if_neg z, sp_ins_ln hx] at hq ⊢
            by_cases zz : x < sp_eu T p
            · have h24 := oy_len24 hT x
              rw [if_pos zz] at hq ⊢
              have := z3 x q (by omega) hq
              rw [if_pos zz] at this
              rw [if_neg (by omega), oy_up_ne (by decide), this]
            · have h24 := oy_len24 hT (x - 1)
              rw [if_neg zz, if_neg (show ¬ x < sp_eu T p + 1 by omega)] at hq ⊢
              have := z3 (x - 1) q (by omega) hq
              have e : x - 1 + 1 = x := by omega
              rw [if_neg (show ¬ x - 1 < sp_eu T p by omega), e] at this
              rw [if_neg (by omega), oy_up_ne (by decide), this]
      have hgs : oy_good 0 (sp_stl (sp_ow T p)) := ⟨by rw [a5]; show _ ≤ 24; omega, fun x hx => by rw [List.eq_of_mem_replicate hx]; decide⟩
      obtain ⟨κ1, t1, u1, v1, w1⟩ := om_apE (x := 32) hT1 hgs hl1 M1 (by rw [a5]; omega) (by decide)
      have hT2 := oy_ok_put (l := sp_eu T p) hT1 w1
      have hat : oy_ln (sp_put (sp_ins T (sp_eu T p) 1) (sp_eu T p) (sp_stl (sp_ow T p) ++ [32])) (sp_eu T p) = sp_stl (sp_ow T p) ++ [32] := sp_put_at hl1
      obtain ⟨κ2, t2, u2, v2⟩ := om_write hT2 v1 (l := sp_eu T p) (s := 0) (by rw [sp_put_len]; exact hl1) (by rw [hat]; exact a1) (by decide) (by rw [hat, a3, List.length_append, a5]; show _ + 1 - 0 + 5 ≤ 24; omega)
      rw [hat, sp_put_put, a2, a3, a4] at v2
      have hcw := sp_cw_good (n := sp_ow T p) (t := t) (by omega) qt
      have hwf : (sp_wf 5 6 0).length = 6 := by decide
      have hg6 : oy_good 0 (sp_stl (sp_ow T p) ++ sp_wf 5 6 0) := by
        refine ⟨by rw [List.length_append, a5, hwf]; show _ + 6 ≤ 24; omega, fun x hx => ?_⟩
        exact hcw.1.2 x (by unfold sp_cw; exact List.mem_append_left _ hx)
      obtain ⟨κ3, t3, u3, v3, w3⟩ := om_apE (x := 97 + t) hT1 hg6 hl1 v2 (by rw [List.length_append, a5, hwf]; omega) (by omega)
      have hT5 : oy_ok (sp_put (sp_ins T (sp_eu T p) 1) (sp_eu T p) (sp_cw (sp_ow T p) t)) := oy_ok_put hT1 hcw.1
      obtain ⟨κ4, t4, u4, v4⟩ := om_entryAt hT5 v3 (l := sp_eu T p) (by rw [sp_put_len]; exact hl1) (by rw [sp_put_at hl1]; exact sp_cw_H (by omega) how)
      unfold J_Mod_capture_174
      rw [t1, Option.bind_some, t2, Option.bind_some, (ewt 0), t3, Option.bind_some, t4, Option.bind_some]
      refine ⟨κ4, _, rfl, ((((gρ.tr (oy_mt_m2 hf1)).tr (oy_mt_m1 u1)).tr (oy_mt_m3 u2)).tr (oy_mt_m1 u3)).tr (oy_mt_sq u4), v4.1, ?_, fun v hv => Sum.inr.inj hv⟩
      rw [u4 10 0 46 0 rfl, u3 10 0 46 0 rfl, u2 10 0 46 0 rfl, u1 10 0 46 0 rfl, hf1 10 0 46 0 rfl, wρ]
      rfl
    rcases hp with hp | ⟨hp1, hp2⟩
    · have e9 : sp_eu T p = T.length := by unfold sp_eu; rw [if_pos (by omega)]
      rw [if_neg (show ¬ 0 ≤ p by omega), F0.1.1]
      rw [e9] at fin
      rw [e9]
      exact fin τ0 F0.1 g0 w0
    · obtain ⟨e, rfl⟩ : ∃ e : Nat, p = e := ⟨p.toNat, by omega⟩
      obtain ⟨τ1, t1, u1⟩ := om_end hT F0 (e := e) (by omega)
      have e9 : sp_eu T (e : Int) = sp_en T (sp_la T e) := by unfold sp_eu; rw [if_neg (by omega), Int.toNat_natCast]
      rw [if_pos (show 0 ≤ (e : Int) by omega), t1, Option.bind_some, ← e9]
      exact fin τ1 (F0.sp u1).1 (g0.tr (oy_mt_sp u1)) ((u1 10 0 46 0 rfl).trans w0)
  unfold J_Mod_capture_48
  rcases hp with hp | ⟨hp1, hp2⟩
  · have e : sp_ow T p = 1 := by unfold sp_ow; rw [if_pos (by omega)]
    rw [e] at key
    rw [if_neg (show ¬ 0 ≤ p by omega), e]
    exact key σ2 F2 g2
  · obtain ⟨e, rfl⟩ : ∃ e : Nat, p = e := ⟨p.toNat, by omega⟩
    have lv := sp_lv_in (T := T) (e := e) (by omega)
    have e9 : sp_ow T (e : Int) = sp_lv T e + 1 := by unfold sp_ow; rw [if_neg (by omega), Int.toNat_natCast]
    obtain ⟨τ1, t1, u1⟩ := om_level hT F2 (e := e) (by omega)
    rw [if_pos (show 0 ≤ (e : Int) by omega), t1, Option.bind_some]
    dsimp only
    rw [oy_w1 (by omega), ← e9]
    exact key τ1 (F2.sp u1) (g2.tr (oy_mt_sp u1))
end OYH2
