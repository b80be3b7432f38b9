/-! ===== the export: the reference's answers ===== -/
section OYN8
variable {T O : oy_T} {σ : ox_H} {f : Nat → Nat → Int}
theorem om_export (hT : oy_ok T) (hfi : oy_fin T f) (hM : oy_M T σ) (hmb : oy_mb σ) (h1 : 0 ≤ σ 10 0 36 0) (h2 : σ 10 0 36 0 ≤ 1000000000) : ∃ τ, F_Mod_export σ = some τ ∧ oy_fr oy_sre σ τ ∧ oy_M T τ ∧ oy_mb τ ∧ τ 10 0 36 0 = σ 10 0 36 0 + 1 ∧ oy_xm (sp_exp T f) τ ∧ τ 10 0 46 0 = σ 10 0 46 0 := by
  have h60 := hT.1
  obtain ⟨σ1, e1, f1, F1⟩ := om_find hT hM
  have m1 : oy_mb σ1 := hmb.fr f1 rfl rfl rfl rfl rfl
  have v1 : σ1 10 0 36 0 = σ 10 0 36 0 := f1 _ _ _ _ rfl
  obtain ⟨mm, _, e36, mk⟩ := m1.new (f := f) F1 (by omega) (by omega)
  have g2 : oy_fr oy_sre σ1 (ox_up σ1 10 0 36 0 (ox_w (σ1 10 0 36 0 + 1))) := oy_fr.rf.up rfl
  have g46 : ox_up σ1 10 0 36 0 (ox_w (σ1 10 0 36 0 + 1)) 10 0 46 0 = σ 10 0 46 0 := (oy_up_ne (by decide)).trans (f1 _ _ _ _ rfl)
  have lines : σ1 10 0 2 0 = (T.length : Int) := F1.1.1
  unfold F_Mod_export J_Mod_export_48
  rw [e1, Option.bind_some, lines]
  generalize ox_up σ1 10 0 36 0 (ox_w (σ1 10 0 36 0 + 1)) = σ2 at *
  have f3 : oy_fr (fun c j => c == 10 && (decide (31 ≤ j ∧ j ≤ 34) || decide (j = 45))) σ2 (ox_up (ox_up (ox_up (ox_up (ox_up σ2 10 0 45 0 0) 10 0 31 0 0) 10 0 32 0 0) 10 0 33 0 (T.length : Int)) 10 0 34 0 0) := ((((oy_fr.rf.up rfl).up rfl).up rfl).up rfl).up rfl
  have f3' : oy_fr oy_sre σ2 (ox_up (ox_up (ox_up (ox_up (ox_up σ2 10 0 45 0 0) 10 0 31 0 0) 10 0 32 0 0) 10 0 33 0 (T.length : Int)) 10 0 34 0 0) := ((((oy_fr.rf.up rfl).up rfl).up rfl).up rfl).up rfl
  have x0 : oy_xz T f σ2 := ⟨mm, fun i => (mk i).1, fun i => (mk i).2⟩
  have I : oy_xI T f [(0, T.length, 0)] [] (ox_up (ox_up (ox_up (ox_up (ox_up σ2 10 0 45 0 0) 10 0 31 0 0) 10 0 32 0 0) 10 0 33 0 (T.length : Int)) 10 0 34 0 0) := by
    refine ⟨x0.fr f3 rfl rfl rfl rfl rfl rfl rfl rfl rfl rfl rfl rfl, ⟨⟨Nat.zero_le _, fun w hw => by cases hw⟩, ?_, fun i hi => absurd hi (Nat.not_lt_zero _)⟩, ?_, ⟨⟨?_, ?_, oy_up_same⟩, trivial⟩, ⟨⟨Nat.le_refl _, Nat.zero_le _⟩, trivial⟩, show 1 ≤ 4 by decide⟩
    · rw [oy_up_ne (by decide), oy_up_ne (by decide), oy_up_ne (by decide), oy_up_ne (by decide), oy_up_same]
      rfl
    · rw [oy_up_ne (by decide), oy_up_ne (by decide), oy_up_ne (by decide), oy_up_same]
      rfl
    · rw [oy_up_ne (by decide), oy_up_ne (by decide)]
      exact oy_up_same
    · rw [oy_up_ne (by decide)]
      exact oy_up_same
  generalize ox_up (ox_up (ox_up (ox_up (ox_up σ2 10 0 45 0 0) 10 0 31 0 0) 10 0 32 0 0) 10 0 33 0 (T.length : Int)) 10 0 34 0 0 = σ3 at *
  obtain ⟨τ, e4, f4, z4, m4⟩ := om_xloop hT hfi 13121 ox_fu [(0, T.length, 0)] [] _ (by
    rw [oy_xw, oy_xw]
    show 130 * (100 - 0) + (2 * (T.length - 0) + 1 + 0) ≤ 13121
    omega) (by show 2 * 13121 < 100000; decide) I
  have fa : oy_fr oy_sre σ τ := (f1.mono (fun _ _ => oy_sq_e)).tr (g2.tr (f3'.tr (f4.mono (fun _ _ => oy_sxa_e))))
  have exp : ([] ++ oy_xp T f [(0, T.length, 0)]).take 100 = sp_exp T f := by
    rw [List.nil_append, oy_xp, oy_xp, List.append_nil]
    rfl
  rw [exp] at m4
  have e36' : τ 10 0 36 0 = σ2 10 0 36 0 := (f4 _ _ _ _ rfl).trans (f3 _ _ _ _ rfl)
  obtain ⟨⟨a1, a2, a3, a4, a5, a6, a7⟩, b1, b2⟩ := z4
  exact ⟨τ, e4, fa, a1.1, ⟨b1, b2, a6, a7⟩, by omega, m4, (f4 _ _ _ _ rfl).trans ((f3 _ _ _ _ rfl).trans g46)⟩
/-- what a question of the export leaves of the reference -/
def oy_rx (T : oy_T) (r : Nat ⊕ Int) (X : Option (Int × ox_H)) (σ : ox_H) : Prop := ∃ σ2 y, X = some (y, σ2) ∧ oy_fr oy_sre σ σ2 ∧ oy_M T σ2 ∧ oy_mb σ2 ∧ σ 10 0 36 0 ≤ σ2 10 0 36 0 ∧ σ2 10 0 36 0 ≤ σ 10 0 36 0 + 1 ∧ σ2 10 0 46 0 = oy_cx 1 0 0 r ∧ ∀ v, r = .inr v → y = v
theorem om_exported (hT : oy_ok T) (hfi : oy_fin T f) (hM : oy_M T σ) (hmb : oy_mb σ) (h1 : 0 ≤ σ 10 0 36 0) (h2 : σ 10 0 36 0 ≤ 1000000000) : oy_rx T (.inr (((sp_exp T f).length : Nat) : Int)) (F_Mod_exported σ) σ := by
  have g0 : oy_fr (fun c j => c == 10 && decide (j = 46)) σ (ox_up σ 10 0 46 0 0) := oy_fr.rf.up rfl
  have g0' : oy_fr oy_sre σ (ox_up σ 10 0 46 0 0) := oy_fr.rf.up rfl
  have v0 : ox_up σ 10 0 46 0 0 10 0 36 0 = σ 10 0 36 0 := g0 _ _ _ _ rfl
  have x0 : ox_up σ 10 0 46 0 0 10 0 46 0 = 0 := oy_up_same
  unfold F_Mod_exported
  rw [om_holds, if_pos (Int.le_refl _), Option.bind_some]
  dsimp only
  generalize ox_up σ 10 0 46 0 0 = σ0 at *
  obtain ⟨τ, e1, f1, M1, b1, v1, m1, x1⟩ := om_export hT hfi (hM.fr g0 rfl rfl rfl) (hmb.fr g0 rfl rfl rfl rfl rfl) (by omega) (by omega)
  rw [e1, Option.bind_some, m1.2.1]
  exact ⟨τ, _, rfl, g0'.tr f1, M1, b1, by omega, by omega, x1.trans x0, fun v z => Sum.inr.inj z⟩
theorem om_exportedAt (hT : oy_ok T) (hfi : oy_fin T f) (hM : oy_M T σ) (hmb : oy_mb σ) (h1 : 0 ≤ σ 10 0 36 0) (h2 : σ 10 0 36 0 ≤ 1000000000) {a p : Int} : oy_rx T (sp_xat (sp_exp T f) a p) (F_Mod_exportedAt a p σ) σ := by
  obtain ⟨τ, e1, f1, M1, b1, v1, m1, x1⟩ := om_export hT hfi hM hmb h1 h2
  generalize sp_exp T f = E at *
  have hc : E.length ≤ 100 := m1.1.1
  have g0 : ∀ v, oy_fr (fun c j => c == 10 && decide (j = 46)) τ (ox_up τ 10 0 46 0 v) := fun v => oy_fr.rf.up rfl
  have g0' : ∀ v, oy_fr oy_sre τ (ox_up τ 10 0 46 0 v) := fun v => oy_fr.rf.up rfl
  have fin : ∀ (v y : Int) (r : Nat ⊕ Int), v = oy_cx 1 0 0 r → (∀ u, r = .inr u → y = u) → oy_rx T r (some (y, ox_up τ 10 0 46 0 v)) σ := fun v y r hv hy => ⟨_, y, rfl, f1.tr (g0' v), M1.fr (g0 v) rfl rfl rfl, b1.fr (g0 v) rfl rfl rfl rfl rfl, by rw [g0 v _ _ _ _ rfl]; omega, by rw [g0 v _ _ _ _ rfl]; omega, oy_up_same.trans hv, hy⟩
  have bad : ¬ ((0 ≤ a ∧ a < E.length) ∧ 0 ≤ p) → oy_rx T (sp_xat E a p) (J_Mod_exportedAt_28 a p τ) σ := by
    intro q
    unfold J_Mod_exportedAt_28 J_Mod_exportedAt_29 sp_xat
    rw [om_holds, if_neg (show ¬ ((1 : Int) ≤ 0) by decide), Option.bind_some]
    dsimp only
    rw [if_neg oy_10, if_neg q]
    exact fin 1 0 _ rfl (fun u z => by cases z)
  unfold F_Mod_exportedAt
  rw [e1, Option.bind_some, om_in, Option.bind_some, m1.2.1, oy_w (by omega) (by omega)]
  by_cases q : 0 ≤ a ∧ a < E.length
  rotate_left
  · rw [if_neg (show ¬ (0 ≤ a ∧ a ≤ (E.length : Int) - 1) by omega), if_pos rfl]
    exact bad (fun z => q z.1)
  rw [if_pos (show 0 ≤ a ∧ a ≤ (E.length : Int) - 1 by omega), if_neg oy_10]
  by_cases q2 : 0 ≤ p
  rotate_left
  · rw [if_pos (by omega)]
    exact bad (fun z => q2 z.2)
  obtain ⟨l, rfl⟩ : ∃ l : Nat, a = l := ⟨a.toNat, by omega⟩
  obtain ⟨x, rfl⟩ : ∃ l : Nat, p = l := ⟨p.toNat, by omega⟩
  have hr := m1.2.2 l (by omega)
  have hg := oy_good_ln m1.1 l
  have hgl : (oy_ln E l).length ≤ 48 := hg.1
  unfold J_Mod_exportedAt_29 J_Mod_exportedAt_63 sp_xat
  rw [if_neg (show ¬ (x : Int) < 0 by omega), om_holds, if_pos (Int.le_refl _), Option.bind_some]
  dsimp only
  rw [if_pos rfl, if_pos ⟨q, q2⟩, if_pos (show 0 ≤ (l : Int) ∧ (l : Int).toNat < 100 by omega), Int.toNat_natCast, Int.toNat_natCast]
  have e44 : ox_up τ 10 0 46 0 0 10 0 44 l = ((oy_ln E l).length : Int) := (g0 0 _ _ _ _ rfl).trans hr.1
  by_cases hx : x < (oy_ln E l).length
  rotate_left
  · rw [if_pos (show ox_up τ 10 0 46 0 0 10 0 44 l ≤ (x : Int) by rw [e44]; omega), oy_wk_ge (by omega)]
    refine fin 0 _ _ rfl (fun u z => ?_)
    have h0 : (0 : Int) = u := Sum.inr.inj z
    rw [← h0]
    rfl
  · have hgx := oy_good_wk hg hx
    have ew : Nat → ox_w (ox_w (120 * (l : Int)) + (x : Int)) = ((120 * l + x : Nat) : Int) := fun _ => by
      rw [oy_w (x := 120 * (l : Int)) (by omega) (by omega), oy_w (by omega) (by omega)]
      omega
    have e43 : ox_up τ 10 0 46 0 0 10 0 43 (120 * l + x) = oy_wk (oy_ln E l) x := (g0 0 _ _ _ _ rfl).trans (hr.2 x hx)
    rw [if_neg (show ¬ ox_up τ 10 0 46 0 0 10 0 44 l ≤ (x : Int) by rw [e44]; omega), (ew 0), if_pos (show 0 ≤ ((120 * l + x : Nat) : Int) ∧ ((120 * l + x : Nat) : Int).toNat < 12000 by omega), Int.toNat_natCast, e43]
    refine fin 0 _ _ rfl (fun u z => ?_)
    have := Sum.inr.inj z
    omega
end OYN8
