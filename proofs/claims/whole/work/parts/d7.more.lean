/-! ===== what may be done; titles; days; sums ===== -/
theorem oy_fo_and (b : Nat → Bool) : ∀ f k (v : Int), v = 0 ∨ v = 1 → sp_fo (fun v k => ox_and v (if b k = true then 0 else 1)) f k v = if v = 1 ∧ sp_fi b f k = k + f then 1 else 0
  | 0, k, v, hv => by
    show v = _
    rcases hv with rfl | rfl
    · rw [if_neg (fun q => absurd q.1 (by decide))]
    · rw [if_pos ⟨rfl, rfl⟩]
  | f + 1, k, v, hv => by
    have hin := sp_fi_in b f (k + 1)
    rw [sp_fo, sp_fi]
    by_cases hb : b k = true
    · have e0 : ox_and v (if b k = true then 0 else 1) = 0 := by
        rw [if_pos hb]
        rcases hv with rfl | rfl <;> decide
      rw [e0, oy_fo_and b f (k + 1) 0 (Or.inl rfl), if_neg (fun q => absurd q.1 (by decide)), if_pos hb, if_neg (fun q => by have := q.2; omega)]
    · have e0 : ox_and v (if b k = true then 0 else 1) = v := by
        rw [if_neg hb]
        rcases hv with rfl | rfl <;> decide
      rw [e0, oy_fo_and b f (k + 1) v hv, if_neg hb]
      have e1 : k + 1 + f = k + (f + 1) := by omega
      rw [e1]
theorem sp_has_in (T : oy_T) (c : Int) : ∀ f e, -1 ≤ sp_hasf T c f e
  | 0, _ => by show (-1 : Int) ≤ -1; decide
  | f + 1, e => by
    rw [sp_hasf]
    split
    · omega
    · cases sp_pa T e with
      | none => exact Int.le_refl _
      | some p => exact sp_has_in T c f p
section OYD7
variable {T : oy_T} {σ : ox_H}
theorem om_canBeDone (hT : oy_ok T) (hF : oy_F T σ) {e : Nat} (he : e < sp_n T) : ∃ σ', F_Mod_canBeDone (e : Int) σ = some (if sp_mb T e = true then 1 else 0, σ') ∧ oy_fr oy_sp σ σ' := by
  have h60 := hT.1
  have hn := sp_n_le (T := T)
  have hla := sp_la_in he
  obtain ⟨τ1, e1, f1⟩ := om_last hT hF he
  unfold F_Mod_canBeDone J_Mod_canBeDone_13
  rw [e1, Option.bind_some, oy_w1 (by omega)]
  /- behind the first search -/
  have two : ∀ (v : Int) (τ : ox_H), v = 0 ∨ v = 1 → oy_F T τ → oy_fr oy_sp σ τ → ∃ σ', J_Mod_canBeDone_42 (e : Int) v τ = some (if v = 1 ∧ sp_mb2 T e = true then 1 else 0, σ') ∧ oy_fr oy_sp σ σ' := by
    intro v τ hv hF1 hf1
    obtain ⟨τ2, e2, f2⟩ := om_parent hT hF1 he
    have stop : ∀ (x : Int) (τ : ox_H), J_Mod_canBeDone_70 (e : Int) v x τ = some (v % 2, τ) := by
      intro x τ
      unfold J_Mod_canBeDone_70 J_Mod_canBeDone_71 J_Mod_canBeDone_79
      refine oy_lp_m (n := 99999) ?_
      unfold B_Mod_canBeDone_79 J_Mod_canBeDone_124
      dsimp only
      by_cases q : (e : Int) ≤ ox_w (x + 1)
      · rw [if_pos q]
      · rw [if_neg q, if_pos rfl]
    have hv2 : v % 2 = v := by rcases hv with rfl | rfl <;> decide
    unfold J_Mod_canBeDone_42
    rw [e2, Option.bind_some]
    dsimp only
    cases hp : sp_pa T e with
    | none =>
      rw [if_pos (show oy_en none < 0 by decide), stop, hv2]
      refine ⟨τ2, ?_, hf1.tr f2⟩
      rcases hv with rfl | rfl
      · rw [if_neg (fun q => absurd q.1 (by decide))]
      · rw [if_pos ⟨rfl, sp_mb2_n hp⟩]
    | some p =>
      have hlp := (sp_pa_lt hp).1
      obtain ⟨τ3, e3, f3⟩ := om_has hT (hF1.sp f2) (e := p) (by omega) 111
      rw [if_neg (show ¬ oy_en (some p) < 0 by show ¬ (p : Int) < 0; omega)]
      have e3' : F_Mod_has (oy_en (some p)) 111 τ2 = some (sp_has T 111 p, τ3) := e3
      rw [e3', Option.bind_some]
      dsimp only
      by_cases hq : sp_has T 111 p = 1
      rotate_left
      · rw [if_neg hq, stop, hv2]
        refine ⟨τ3, ?_, (hf1.tr f2).tr f3⟩
        rcases hv with rfl | rfl
        · rw [if_neg (fun q => absurd q.1 (by decide))]
        · rw [if_pos ⟨rfl, sp_mb2_f hp hq⟩]
      rw [if_pos hq]
      unfold J_Mod_canBeDone_71 J_Mod_canBeDone_79
      rw [show oy_en (some p) = (p : Int) from rfl, oy_w1 (by omega)]
      obtain ⟨b, hb, q1, q2⟩ := oy_lacM (B_Mod_canBeDone_79 (e : Int) (p : Int) 1) (fun τ => oy_F T τ ∧ oy_fr oy_sp σ τ) (fun _ _ => True) (fun v k => ox_and v (if (decide (sp_pa T k = some p) && sp_op T k) = true then 0 else 1)) (fun v b => b.1 = v % 2 ∧ oy_fr oy_sp σ b.2) (p + 1) e
        (fun k v τ hI hJ h1 h2 => by
          obtain ⟨τ4, e4, f4⟩ := om_parent hT hI.1 (e := k) (by omega)
          have F4 := hI.1.sp f4
          obtain ⟨τ5, e5, f5⟩ := om_isOpen hT F4 (e := k) (by omega)
          by_cases q : sp_pa T k = some p
          · refine ⟨τ5, ?_, ⟨F4.sp f5, (hI.2.tr f4).tr f5⟩, trivial⟩
            unfold B_Mod_canBeDone_79 J_Mod_canBeDone_111 J_Mod_canBeDone_116
            dsimp only
            rw [if_neg (by omega), if_neg oy_10, e4, Option.bind_some, if_pos (show oy_en (sp_pa T k) = (p : Int) by rw [q]; rfl)]
            dsimp only
            rw [e5, Option.bind_some, oy_w1 (by omega), decide_eq_true q, Bool.true_and]
            by_cases z : sp_op T k = true
            · rw [if_pos z, if_neg oy_10, if_pos z]
            · rw [if_neg z, if_pos rfl, if_neg z]
          · refine ⟨τ4, ?_, ⟨F4, hI.2.tr f4⟩, trivial⟩
            unfold B_Mod_canBeDone_79 J_Mod_canBeDone_111 J_Mod_canBeDone_116
            dsimp only
            rw [if_neg (by omega), if_neg oy_10, e4, Option.bind_some, if_neg (show ¬ oy_en (sp_pa T k) = (p : Int) from fun z => q (oy_en_inj.mp z)), oy_w1 (by omega), decide_eq_false q, Bool.false_and, if_neg (by decide)])
        (fun v τ hI hJ => by
          refine ⟨(v % 2, τ), ?_, rfl, hI.2⟩
          unfold B_Mod_canBeDone_79 J_Mod_canBeDone_124
          dsimp only
          rw [if_pos (Int.le_refl _)]
          rfl) (e - (p + 1)) ox_fu (p + 1) v τ3 (by omega) (Nat.le_refl _) (by show _ < 100000; omega) ⟨(hF1.sp f2).sp f3, (hf1.tr f2).tr f3⟩ trivial
      obtain ⟨b1, b2⟩ := b
      refine ⟨b2, ?_, q2⟩
      have q1' : b1 = _ := q1
      rw [oy_fo_and (fun k => decide (sp_pa T k = some p) && sp_op T k) _ _ _ hv] at q1'
      have e9 : p + 1 + (e - (p + 1)) = e := by omega
      rw [e9] at q1'
      rw [hb, q1']
      by_cases y : v = 1 ∧ sp_fi (fun k => decide (sp_pa T k = some p) && sp_op T k) (e - (p + 1)) (p + 1) = e
      · rw [if_pos y, if_pos ⟨y.1, (sp_mb2_t hp hq).mpr y.2⟩]; rfl
      · rw [if_neg y, if_neg (fun z => y ⟨z.1, (sp_mb2_t hp hq).mp z.2⟩)]; rfl
  obtain ⟨b, hb, q⟩ := oy_lacM (B_Mod_canBeDone_13 (e : Int) (sp_la T e : Int)) (fun τ => oy_F T τ ∧ oy_fr oy_sp σ τ) (fun _ v => v = 0 ∨ v = 1) (fun v k => ox_and v (if sp_op T k = true then 0 else 1)) (fun v b => b.1 = (if v = 1 ∧ sp_mb2 T e = true then 1 else 0) ∧ oy_fr oy_sp σ b.2) (e + 1) (sp_la T e)
    (fun k v τ hI hJ h1 h2 => by
      obtain ⟨τ5, e5, f5⟩ := om_isOpen hT hI.1 (e := k) (by omega)
      refine ⟨τ5, ?_, ⟨hI.1.sp f5, hI.2.tr f5⟩, ?_⟩
      · unfold B_Mod_canBeDone_13 J_Mod_canBeDone_34
        dsimp only
        rw [if_neg (by omega), e5, Option.bind_some, oy_w1 (by omega)]
        by_cases z : sp_op T k = true
        · rw [if_pos z, if_neg oy_10, if_pos z]
        · rw [if_neg z, if_pos rfl, if_neg z]
      · by_cases z : sp_op T k = true
        · rw [if_pos z]; rcases hJ with rfl | rfl <;> decide
        · rw [if_neg z]; rcases hJ with rfl | rfl <;> decide)
    (fun v τ hI hJ => by
      obtain ⟨σ', e', f'⟩ := two v τ hJ hI.1 hI.2
      refine ⟨(_, σ'), ?_, rfl, f'⟩
      unfold B_Mod_canBeDone_13
      dsimp only
      rw [if_pos (Int.le_refl _), e']
      rfl) (sp_la T e - (e + 1)) ox_fu (e + 1) 1 τ1 (by omega) (Nat.le_refl _) (by show _ < 100000; omega) ⟨hF.sp f1, f1⟩ (Or.inr rfl)
  obtain ⟨b1, b2⟩ := b
  obtain ⟨q1, q2⟩ := q
  refine ⟨b2, ?_, q2⟩
  have q1' : b1 = _ := q1
  rw [oy_fo_and (sp_op T) _ _ _ (Or.inr rfl)] at q1'
  have e9 : e + 1 + (sp_la T e - (e + 1)) = sp_la T e := by omega
  rw [e9] at q1'
  refine hb.trans ?_
  rw [q1']
  unfold sp_mb
  by_cases z : sp_fi (sp_op T) (sp_la T e - (e + 1)) (e + 1) = sp_la T e
  · rw [if_pos (show (1 : Int) = 1 ∧ _ from ⟨rfl, z⟩), decide_eq_true z, Bool.true_and]
    by_cases y : sp_mb2 T e = true
    · rw [if_pos ⟨rfl, y⟩, if_pos y]
    · rw [if_neg (fun q => y q.2), if_neg y]
  · rw [if_neg (show ¬ ((1 : Int) = 1 ∧ _) from fun y => z y.2), decide_eq_false z, Bool.false_and, if_neg (fun y => absurd y.1 (by decide)), if_neg (by decide)]
end OYD7
