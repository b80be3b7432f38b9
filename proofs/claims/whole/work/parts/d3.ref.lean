/-! ===== the class's outline is refreshed ===== -/
/-- what refreshing the outline writes -/
def oy_rf (c k j i : Nat) : Prop := c = 2 ∨ c = 3 ∨ (c = 4 ∧ k < 60) ∨ c = 6
theorem oy_rs_rf {l c k j i : Nat} (hl : l < 60) (h : oy_rs l c k j i) : oy_rf c k j i := by
  unfold oy_rs at h
  unfold oy_rf
  omega
section OYD3
variable {T : oy_T}
theorem oc_rloop (hT : oy_ok T) : ∀ (f l n : Nat) (σ : ox_H), l + f = T.length → f < n → oy_L 0 T σ → σ 1 0 1 0 = 24 → σ 2 0 9 0 = ((sp_esn T l).length : Nat) → oy_Oe T (sp_esn T l).length σ → (∀ x, x < l → σ 2 0 4 x = ((sp_esn T (x + 1)).length : Int) - 1) → (∀ x, x < l → oy_rd (oy_ln T x) x σ) →
    ∃ σ', ox_lp B_Otl_refresh_33 n ((l : Int), σ) = some σ' ∧ oy_fs oy_rf σ σ' ∧ oy_O T σ' ∧ σ' 2 0 10 0 = σ 2 0 10 0
  | _, _, 0, _, _, h, _, _, _, _, _, _ => absurd h (Nat.not_lt_zero _)
  | 0, l, n + 1, σ, h1, h2, hL, hw, h9, hO, h4, hr => by
    obtain rfl : l = T.length := by omega
    refine ⟨σ, oy_lp_m ?_, oy_fs.rf, ⟨h9, hO, h4, hr⟩, rfl⟩
    unfold B_Otl_refresh_33
    dsimp only
    rw [hL.1, if_pos (Int.le_refl _)]
    rfl
  | f + 1, l, n + 1, σ, h1, h2, hL, hw, h9, hO, h4, hr => by
    have h60 := hT.1
    have hl : l < T.length := by omega
    have h24 := oy_len24 hT
    have hlen := sp_esn_len T l
    obtain ⟨σ1, e1, f1, g1⟩ := oc_read hT hl hL hw
    have L1 := hL.fs f1 (fun _ _ _ => oy_rs1)
    have w1 : σ1 1 0 1 0 = 24 := (f1 1 0 1 0 oy_rs1).trans hw
    have k2 : ∀ j i, σ1 2 0 j i = σ 2 0 j i := fun j i => f1 2 0 j i (by unfold oy_rs; omega)
    have r1 : ∀ x, x < l → oy_rd (oy_ln T x) x σ1 := fun x hx => oy_rd_fr (hr x hx) (h24 x) f1 (fun j i q => by unfold oy_rs at q; omega) (fun k j i h q => by unfold oy_rs at q; omega)
    have F1 : oy_fs oy_rf σ σ1 := f1.mono (fun c k j i h => oy_rs_rf (by omega) h)
    have hB0 : B_Otl_refresh_33 ((l : Int), σ) = if σ1 4 l 0 0 = 0 then ((F_Otl_addEntry (l : Int) σ1).bind fun r2 => (J_Otl_refresh_81 (l : Int) r2)) else (J_Otl_refresh_81 (l : Int) σ1) := by
      unfold B_Otl_refresh_33
      dsimp only
      rw [hL.1, if_neg (by omega), if_neg (by omega), if_pos (by omega), Int.toNat_natCast, e1, Option.bind_some, if_pos (by omega)]
    /- the line's owner, and on -/
    have fin : ∀ τ : ox_H, oy_fs oy_rf σ τ → (∀ j i, τ 1 0 j i = σ 1 0 j i) → (∀ x, x ≤ l → oy_rd (oy_ln T x) x τ) → (∀ x, x < l → τ 2 0 4 x = ((sp_esn T (x + 1)).length : Int) - 1) → τ 2 0 9 0 = ((sp_esn T (l + 1)).length : Nat) → oy_Oe T (sp_esn T (l + 1)).length τ → τ 2 0 10 0 = σ 2 0 10 0 → B_Otl_refresh_33 ((l : Int), σ) = J_Otl_refresh_81 (l : Int) τ →
        ∃ σ', ox_lp B_Otl_refresh_33 (n + 1) ((l : Int), σ) = some σ' ∧ oy_fs oy_rf σ σ' ∧ oy_O T σ' ∧ σ' 2 0 10 0 = σ 2 0 10 0 := by
      intro τ hf hc1 hrd ho h9' hO' h10 hB
      have hlen' := sp_esn_len T (l + 1)
      unfold J_Otl_refresh_81 at hB
      rw [if_pos (by omega), Int.toNat_natCast, h9', oy_w1 (p := l) (by omega), oy_w (by omega) (by omega)] at hB
      have F : oy_fs (fun c _ j _ => c = 2 ∧ j = 4) τ (ox_up τ 2 0 4 l (((sp_esn T (l + 1)).length : Int) - 1)) := oy_fs.rf.up ⟨rfl, rfl⟩
      have Lt : oy_L 0 T τ := ⟨(hc1 _ _).trans hL.1, fun x hx => (hc1 _ _).trans (hL.2.1 x hx), fun x p hx hp => (hc1 _ _).trans (hL.2.2 x p hx hp)⟩
      obtain ⟨σ', e', f', g', k'⟩ := oc_rloop hT f (l + 1) n (ox_up τ 2 0 4 l (((sp_esn T (l + 1)).length : Int) - 1)) (by omega) (by omega) (Lt.fs F (fun _ _ _ q => absurd q.1 (by decide))) ((oy_up_ne (by decide)).trans ((hc1 1 0).trans hw)) ((oy_up_ne (by decide)).trans h9') (fun e he => by
          rw [oy_up_ne (by decide), oy_up_ne (by decide), oy_up_ne (by decide), oy_up_ne (by decide)]
          exact hO' e he) (fun x hx => by
          by_cases q : x = l
          · rw [q]; exact oy_up_same
          · rw [oy_up_ni q]; exact ho x (by omega)) (fun x hx => oy_rd_fr (hrd x (by omega)) (h24 x) F (fun j i q => absurd q.1 (by decide)) (fun k j i h q => absurd q.1 (by decide)))
      exact ⟨σ', (oy_lp_l hB).trans e', (hf.up (Or.inl rfl)).tr f', g', k'.trans ((oy_up_ne (by decide)).trans h10)⟩
    by_cases q : sp_isH (oy_ln T l)
    · have es : (sp_esn T (l + 1)).length = (sp_esn T l).length + 1 := by rw [sp_esn, if_pos q, List.length_append]; rfl
      obtain ⟨τ, e2, f2, t9, tO⟩ := oc_addEntry hT hl L1.1 q g1 ((k2 9 0).trans h9) (fun e he => by
        rw [k2, k2, k2, k2]
        exact hO e he)
      rw [if_pos (by rw [g1.1]; exact sp_kind_H.mpr q), e2, Option.bind_some] at hB0
      refine fin τ (F1.tr (f2.mono (fun c k j i h => Or.inl h.1))) (fun j i => (f2 1 0 j i (by omega)).trans (f1 1 0 j i oy_rs1)) (fun x hx => ?_) (fun x hx => (f2 2 0 4 x (by omega)).trans ((k2 4 x).trans (h4 x hx))) (by rw [es]; exact t9) (by rw [es]; exact tO) ((f2 2 0 10 0 (by omega)).trans (k2 10 0)) hB0
      have hx1 : oy_rd (oy_ln T x) x σ1 := by
        by_cases z : x = l
        · rw [z]; exact g1
        · exact r1 x (by omega)
      exact oy_rd_fr hx1 (h24 x) f2 (fun j i q => absurd q.1 (by decide)) (fun k j i h q => absurd q.1 (by decide))
    · have es : sp_esn T (l + 1) = sp_esn T l := by rw [sp_esn, if_neg q]
      rw [if_neg (by rw [g1.1]; exact fun z => q (sp_kind_H.mp z))] at hB0
      refine fin σ1 F1 (fun j i => f1 1 0 j i oy_rs1) (fun x hx => ?_) (fun x hx => (k2 4 x).trans (h4 x hx)) (by rw [es]; exact (k2 9 0).trans h9) (by
        rw [es]
        intro e he
        rw [k2, k2, k2, k2]
        exact hO e he) (k2 10 0) hB0
      by_cases z : x = l
      · rw [z]; exact g1
      · exact r1 x (by omega)
/-- what the class's text and outline are, a text given -/
def oy_C (T : oy_T) (σ : ox_H) : Prop := oy_L 0 T σ ∧ σ 1 0 1 0 = 24 ∧ σ 1 0 0 0 = 60 ∧ (σ 2 0 10 0 = σ 1 0 5 0 → oy_O T σ)
theorem oc_refresh (hT : oy_ok T) {σ : ox_H} (hC : oy_C T σ) : ∃ σ', F_Otl_refresh σ = some σ' ∧ oy_fs oy_rf σ σ' ∧ oy_O T σ' ∧ σ' 2 0 10 0 = σ 1 0 5 0 ∧ (σ 2 0 10 0 = σ 1 0 5 0 → σ' = σ) := by
  obtain ⟨hL, hw, hn, hO⟩ := hC
  have h60 := hT.1
  unfold F_Otl_refresh
  by_cases q : σ 2 0 10 0 = σ 1 0 5 0
  · rw [if_pos q]
    exact ⟨σ, rfl, oy_fs.rf, hO q, q, fun _ => rfl⟩
  · rw [if_neg q]
    have F : oy_fs oy_rf σ (ox_up (ox_up σ 2 0 10 0 (σ 1 0 5 0)) 2 0 9 0 0) := (oy_fs.rf.up (Or.inl rfl)).up (Or.inl rfl)
    have hno : ∀ k j i, ¬ oy_rf 1 k j i := fun k j i => by unfold oy_rf; omega
    obtain ⟨σ', e', f', g', k'⟩ := oc_rloop hT T.length 0 ox_fu (ox_up (ox_up σ 2 0 10 0 (σ 1 0 5 0)) 2 0 9 0 0) (by omega) (by show _ < 100000; omega) (hL.fs F hno) ((F 1 0 1 0 (hno _ _ _)).trans hw) oy_up_same (fun e he => absurd he (Nat.not_lt_zero _)) (fun x hx => absurd hx (Nat.not_lt_zero _)) (fun x hx => absurd hx (Nat.not_lt_zero _))
    refine ⟨σ', e', F.tr f', g', k'.trans ?_, fun z => absurd z q⟩
    rw [oy_up_ne (by decide)]
    exact oy_up_same
end OYD3
