/-! ===== the reference's answer to a cell asked: the call ===== -/
section OYL3
variable {T : oy_T} {σ : ox_H} {f : Nat → Nat → Int}
/-- what a question of a value leaves of the reference -/
def oy_rv (T : oy_T) (r : Nat ⊕ Int) (X : Option (Int × ox_H)) (σ : ox_H) : Prop := ∃ σ2 y, X = some (y, σ2) ∧ oy_fr oy_srs σ σ2 ∧ oy_M T σ2 ∧ oy_mb σ2 ∧ σ 10 0 36 0 ≤ σ2 10 0 36 0 ∧ σ2 10 0 36 0 ≤ σ 10 0 36 0 + 1 ∧ σ2 10 0 46 0 = oy_cx 1 0 0 r ∧ ∀ v, r = .inr v → y = v
theorem om_cell (hT : oy_ok T) (hfi : oy_fin T f) (hM : oy_M T σ) (hmb : oy_mb σ) (h1 : 0 ≤ σ 10 0 36 0) (h2 : σ 10 0 36 0 ≤ 1000000000) {a b r c : Int} (hbi : b ≤ 2147483647) : oy_rv T (sp_cell2 T f a b r c) (F_Mod_cell a b r c σ) σ := by
  have h60 := hT.1
  have hn := sp_n_le (T := T)
  have bad : ∀ σ1, oy_fr oy_srs σ σ1 → oy_mb σ1 → σ1 10 0 36 0 = σ 10 0 36 0 → ∀ r : Nat ⊕ Int, r = .inl 1 → ∀ v6 : Int, oy_rv T r (J_Mod_cell_77 c v6 σ1) σ := by
    intro σ1 f1 m1 e36 r hr v6
    unfold J_Mod_cell_77 J_Mod_cell_82
    rw [om_holds, if_neg (by decide), Option.bind_some]
    dsimp only
    rw [if_neg oy_10, hr]
    have f2 : oy_fr oy_srs σ1 (ox_up σ1 10 0 46 0 1) := oy_fr.rf.up rfl
    have g : oy_fr (fun c j => c == 10 && decide (j = 46)) σ1 (ox_up σ1 10 0 46 0 1) := oy_fr.rf.up rfl
    have e2 : ox_up σ1 10 0 46 0 1 10 0 36 0 = σ1 10 0 36 0 := oy_up_ne (by decide)
    exact ⟨_, _, rfl, f1.tr f2, hM.fr (f1.tr f2) rfl rfl rfl, m1.fr g rfl rfl rfl rfl rfl, by omega, by omega, oy_up_same, fun v z => by cases z⟩
  have bad2 : ∀ σ1, oy_fr oy_srs σ σ1 → oy_mb σ1 → σ1 10 0 36 0 = σ 10 0 36 0 → ∀ q : Nat ⊕ Int, q = .inl 1 → oy_rv T q (J_Mod_cell_39 a b r c σ1) σ := by
    intro σ1 f1 m1 e36 q hq
    unfold J_Mod_cell_39 J_Mod_cell_40 J_Mod_cell_58
    rw [if_pos rfl, if_pos (by decide)]
    exact bad σ1 f1 m1 e36 q hq (-1)
  obtain ⟨σ1, e1, f1, F1⟩ := om_isEntry hT hM (a := a)
  have g1 : oy_fr oy_srs σ σ1 := f1.mono (fun _ _ => oy_sq_srs)
  have m1 : oy_mb σ1 := hmb.fr f1 rfl rfl rfl rfl rfl
  have v1 : σ1 10 0 36 0 = σ 10 0 36 0 := f1 _ _ _ _ rfl
  unfold F_Mod_cell
  rw [e1, Option.bind_some]
  dsimp only
  by_cases q : 0 ≤ a ∧ a < sp_n T
  rotate_left
  · rw [if_neg q, if_pos rfl]
    exact bad2 σ1 g1 m1 v1 _ (by unfold sp_cell2; rw [if_neg q])
  rw [if_pos q, if_neg oy_10]
  obtain ⟨e, rfl⟩ : ∃ l : Nat, a = l := ⟨a.toNat, by omega⟩
  have he : e < sp_n T := by omega
  have esp : sp_cell2 T f (e : Int) b r c = (sp_cll T e b r).elim (.inl 1) (fun l => if 0 ≤ c ∧ c.toNat < sp_nc T l then .inr (oy_cl (f l c.toNat)) else .inl 1) := by
    unfold sp_cell2
    rw [if_pos q, Int.toNat_natCast]
  have hrl : ∀ l, sp_cll T e b r = some l → l < T.length ∧ sp_kind (oy_ln T l) = 4 ∧ 1 ≤ r ∧ r ≤ 60 ∧ 0 ≤ b := fun l y => by
    unfold sp_cll at y
    cases hx : sp_tbl T (sp_en T (e + 1) - sp_en T e) b (sp_en T e) with
    | none =>
      rw [hx] at y
      cases y
    | some t =>
      rw [hx] at y
      have hi := sp_rw_in y
      refine ⟨sp_kind_ln hi.2.2.2.2.1 (by decide), hi.2.2.2.2.1, hi.1, hi.2.1, ?_⟩
      by_cases hb0 : b < 0
      · rw [sp_tbl_neg _ _ _ hb0] at hx
        cases hx
      · omega
  have nol : (∀ l, sp_cll T e b r = some l → ¬ (0 ≤ c ∧ c.toNat < sp_nc T l)) → sp_cell2 T f (e : Int) b r c = .inl 1 := fun z => by
    rw [esp]
    cases hc : sp_cll T e b r with
    | none => rfl
    | some l =>
      dsimp only [Option.elim]
      rw [if_neg (z l hc)]
  by_cases qb : b < 0
  · rw [if_pos qb]
    exact bad2 σ1 g1 m1 v1 _ (nol (fun l y => by have := hrl l y; omega))
  rw [if_neg qb, om_in, Option.bind_some]
  by_cases qr : 1 ≤ r ∧ r ≤ 60
  rotate_left
  · rw [if_neg qr, if_pos rfl]
    exact bad2 σ1 g1 m1 v1 _ (nol (fun l y => by have := hrl l y; omega))
  rw [if_pos qr, if_neg oy_10, om_in, Option.bind_some]
  by_cases qc : 0 ≤ c ∧ c ≤ 24
  rotate_left
  · rw [if_neg qc, if_pos rfl]
    exact bad2 σ1 g1 m1 v1 _ (nol (fun l y => by
      have := sp_nc_12 hT l
      omega))
  rw [if_pos qc, if_neg oy_10]
  obtain ⟨σ2, e2, f2⟩ := om_rowOf hT F1 he (b := b) (by omega) qr
  have F2 := F1.sp f2
  have g2 : oy_fr oy_srs σ σ2 := g1.tr (f2.mono (fun _ _ z => oy_sq_srs (oy_sp_sq z)))
  have m2 : oy_mb σ2 := m1.fr f2 rfl rfl rfl rfl rfl
  have v2 : σ2 10 0 36 0 = σ 10 0 36 0 := (f2 _ _ _ _ rfl).trans v1
  obtain ⟨x, rfl⟩ : ∃ x : Nat, c = x := ⟨c.toNat, by omega⟩
  rw [Int.toNat_natCast] at esp nol
  unfold J_Mod_cell_40 J_Mod_cell_58
  rw [if_neg oy_10, e2, Option.bind_some]
  dsimp only
  cases hc : sp_cll T e b r with
  | none =>
    rw [if_pos (show oy_en none < 0 by decide)]
    exact bad σ2 g2 m2 v2 _ (nol (fun l y => by rw [hc] at y; cases y)) _
  | some l =>
    obtain ⟨hl, h4, _, _, _⟩ := hrl l hc
    have el : oy_en (some l) = (l : Int) := rfl
    have hbg := om_beg hT F2.1 hl h4 (show x ≤ 1000 by omega)
    rw [el, if_neg (by omega)]
    by_cases z : x < sp_nc T l
    rotate_left
    · rw [hbg.2 z, Option.bind_some, if_neg (by decide)]
      exact bad σ2 g2 m2 v2 _ (nol (fun l' y => by
        rw [hc] at y
        rw [← Option.some.inj y]
        exact fun k => z k.2)) _
    have h12 := sp_nc_12 hT l
    obtain ⟨p, _, hp, _, _⟩ := hbg.1 z
    have f3 : oy_fr oy_srs σ2 (ox_up σ2 10 0 46 0 0) := oy_fr.rf.up rfl
    have g3 : oy_fr (fun c j => c == 10 && decide (j = 46)) σ2 (ox_up σ2 10 0 46 0 0) := oy_fr.rf.up rfl
    have e46 : ox_up σ2 10 0 46 0 0 10 0 46 0 = 0 := oy_up_same
    rw [hp, Option.bind_some, if_pos (by omega)]
    unfold J_Mod_cell_82
    rw [om_holds, if_pos (Int.le_refl _), Option.bind_some]
    dsimp only
    rw [if_pos rfl]
    generalize ox_up σ2 10 0 46 0 0 = σ3 at *
    have F3 : oy_F T σ3 := F2.fr g3 rfl rfl rfl rfl rfl
    have m3 : oy_mb σ3 := m2.fr g3 rfl rfl rfl rfl rfl
    have v3 : σ3 10 0 36 0 = σ 10 0 36 0 := (g3 _ _ _ _ rfl).trans v2
    have ans : sp_cell2 T f (e : Int) b r (x : Int) = .inr (oy_cl (f l x)) := by
      rw [esp, hc]
      exact if_pos ⟨by omega, z⟩
    obtain ⟨m, w, e36, mk⟩ := m3.new (f := f) F3 (by omega) (by omega)
    have f4 : oy_fr oy_srs σ3 (ox_up σ3 10 0 36 0 (ox_w (σ3 10 0 36 0 + 1))) := oy_fr.rf.up rfl
    have e46b : ox_up σ3 10 0 36 0 (ox_w (σ3 10 0 36 0 + 1)) 10 0 46 0 = σ3 10 0 46 0 := oy_up_ne (by decide)
    generalize ox_up σ3 10 0 36 0 (ox_w (σ3 10 0 36 0 + 1)) = τ at *
    obtain ⟨σ', p1, k1, k2, k3, k4⟩ := om_value hT hfi (om_levels hT hfi 400).1 hl h4 (show x < 24 by omega) m (w (l, x)) (fun _ => by
      have := oy_mu_326 (ox_up τ 10 0 41 (24 * l + x) 1)
      omega)
    obtain ⟨_, _, _, _, _, k5, k6⟩ := k2
    have fa : oy_fr oy_srs σ σ' := g2.tr (f3.tr (f4.tr (k1.mono (fun _ _ => oy_sv_srs))))
    have e36' : σ' 10 0 36 0 = τ 10 0 36 0 := k1 10 0 36 0 rfl
    rw [p1, Option.bind_some]
    exact ⟨σ', _, rfl, fa, hM.fr fa rfl rfl rfl, ⟨fun i => (k3 i).trans (mk i).1, fun i => (k4 i).trans (mk i).2, k5, k6⟩, by omega, by omega, by rw [k1 10 0 46 0 rfl, e46b, e46, ans]; rfl, fun v y => by
      rw [ans] at y
      exact Sum.inr.inj y⟩
end OYL3
