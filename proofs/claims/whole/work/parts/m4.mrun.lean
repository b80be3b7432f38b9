/-! ===== blocks kept: the reference's run ===== -/
/-- the slots that a call of run writes -/
def oy_srk (c j : Nat) : Bool := c == 10 && (decide (11 ≤ j ∧ j ≤ 22) || decide (25 ≤ j ∧ j ≤ 30) || decide (36 ≤ j ∧ j ≤ 42) || decide (j = 46))
theorem oy_srk_of {c j : Nat} (h1 : c = 10) (h2 : (11 ≤ j ∧ j ≤ 22) ∨ (25 ≤ j ∧ j ≤ 30) ∨ (36 ≤ j ∧ j ≤ 42) ∨ j = 46) : oy_srk c j = true := by
  unfold oy_srk
  rw [Bool.and_eq_true, Bool.or_eq_true, Bool.or_eq_true, Bool.or_eq_true, decide_eq_true_eq, decide_eq_true_eq, decide_eq_true_eq, decide_eq_true_eq, beq_iff_eq]
  exact ⟨h1, by omega⟩
theorem oy_sq_srk {c j : Nat} (h : oy_sq c j = true) : oy_srk c j = true := by
  unfold oy_sq at h
  rw [Bool.and_eq_true, Bool.and_eq_true, decide_eq_true_eq, decide_eq_true_eq, beq_iff_eq] at h
  exact oy_srk_of h.1 (Or.inl h.2)
theorem oy_sv_srk {c j : Nat} (h : oy_sv c j = true) : oy_srk c j = true := by
  unfold oy_sv at h
  rw [Bool.and_eq_true, Bool.or_eq_true, decide_eq_true_eq, decide_eq_true_eq, beq_iff_eq] at h
  exact oy_srk_of h.1 (by omega)
theorem oy_sn_srk {c j : Nat} (h : oy_sn c j = true) : oy_srk c j = true := by
  unfold oy_sn at h
  rw [Bool.and_eq_true, Bool.or_eq_true, decide_eq_true_eq, decide_eq_true_eq, beq_iff_eq] at h
  exact oy_srk_of h.1 (by omega)
/-- what the reference keeps -/
def oy_km (K : oy_K) (σ : ox_H) : Prop := (∀ i, i < 1500 → σ 10 0 27 i = (sp_sl K.1).getD i 0) ∧ (∀ x, x < 26 → σ 10 0 26 x = K.2.1 x ∧ σ 10 0 25 x = K.2.2.1 x) ∧ σ 10 0 30 0 = K.2.2.2
section OYM4
variable {T : oy_T} {σ : ox_H} {f : Nat → Nat → Int} {K : oy_K}
theorem om_rcmp {a : Int} : ∀ (d x n : Nat) (v : Bool) (σ : ox_H), x + d = 1500 → d < n → ∃ (w : Bool) (τ : ox_H), ox_lp (B_Mod_run_37 a) n ((if v = true then 1 else 0), (x : Int), σ) = J_Mod_run_85 a (if w = true then 1 else 0) τ ∧ oy_fr (fun c j => c == 10 && decide (j = 27)) σ τ ∧ (w = true ↔ v = true ∧ ∀ i, x ≤ i → i < 1500 → σ 10 0 27 i = σ 10 0 28 i) ∧ ∀ i, i < 1500 → τ 10 0 27 i = if x ≤ i then σ 10 0 28 i else σ 10 0 27 i
  | _, _, 0, _, _, _, h => absurd h (Nat.not_lt_zero _)
  | 0, x, n + 1, v, σ, h1, _ => by
    refine ⟨v, σ, oy_lp_m ?_, oy_fr.rf, ⟨fun z => ⟨z, fun i a b => by omega⟩, fun z => z.1⟩, fun i hi => (if_neg (by omega)).symm⟩
    unfold B_Mod_run_37
    dsimp only
    rw [if_pos (by omega)]
  | d + 1, x, n + 1, v, σ, h1, h2 => by
    have f0 : oy_fr (fun c j => c == 10 && decide (j = 27)) σ (ox_up σ 10 0 27 x (σ 10 0 28 x)) := oy_fr.rf.up rfl
    obtain ⟨w, τ, e, fr, g1, g2⟩ := om_rcmp (a := a) d (x + 1) n (v && decide (σ 10 0 27 x = σ 10 0 28 x)) (ox_up σ 10 0 27 x (σ 10 0 28 x)) (by omega) (by omega)
    refine ⟨w, τ, (oy_lp_l (a' := ((if (v && decide (σ 10 0 27 x = σ 10 0 28 x)) = true then 1 else 0), ((x + 1 : Nat) : Int), ox_up σ 10 0 27 x (σ 10 0 28 x))) ?_).trans e, f0.tr fr, ?_, fun i hi => ?_⟩
    · have c0 : 0 ≤ (x : Int) ∧ (x : Int).toNat < 1500 := by omega
      unfold B_Mod_run_37 J_Mod_run_65
      dsimp only
      rw [if_neg (by omega), if_pos c0, if_pos c0, if_pos c0, if_pos c0, if_pos c0, if_pos c0, Int.toNat_natCast, oy_w1 (by omega)]
      by_cases q : σ 10 0 27 x = σ 10 0 28 x
      · rw [if_pos q, decide_eq_true q, Bool.and_true]
        cases v
        · rw [if_neg (by decide), oy_and01]
        · rw [if_pos rfl, oy_and11]
      · rw [if_neg q, decide_eq_false q, Bool.and_false]
        cases v
        · rw [if_neg (by decide), oy_and00]
        · rw [if_pos rfl, oy_and10]
          rfl
    · rw [g1, Bool.and_eq_true, decide_eq_true_eq]
      constructor
      · rintro ⟨⟨z1, z2⟩, z3⟩
        refine ⟨z1, fun i a b => ?_⟩
        by_cases y : i = x
        · rw [y]
          exact z2
        · have := z3 i (by omega) b
          rw [oy_up_ni y, oy_up_ne (by decide)] at this
          exact this
      · rintro ⟨z1, z2⟩
        refine ⟨⟨z1, z2 x (Nat.le_refl _) (by omega)⟩, fun i a b => ?_⟩
        rw [oy_up_ni (by omega), oy_up_ne (by decide)]
        exact z2 i (by omega) b
    · rw [g2 i hi]
      by_cases y : i = x
      · rw [y, if_neg (by omega), if_pos (Nat.le_refl _)]
        exact oy_up_same
      · by_cases z : x + 1 ≤ i
        · rw [if_pos z, if_pos (by omega), oy_up_ne (by decide)]
        · rw [if_neg z, if_neg (by omega), oy_up_ni y]
theorem om_rclr {a : Int} : ∀ (d x n : Nat) (σ : ox_H), x + d = 26 → d < n → ∃ τ, ox_lp (B_Mod_run_87 a 0) n ((x : Int), σ) = J_Mod_run_110 a τ ∧ oy_fr (fun c j => c == 10 && decide (j = 26)) σ τ ∧ ∀ i, i < 26 → x ≤ i ∨ σ 10 0 26 i = 0 → τ 10 0 26 i = 0
  | _, _, 0, _, _, h => absurd h (Nat.not_lt_zero _)
  | 0, x, n + 1, σ, h1, _ => by
    refine ⟨σ, oy_lp_m ?_, oy_fr.rf, fun i hi h => h.resolve_left (by omega)⟩
    unfold B_Mod_run_87
    dsimp only
    rw [if_pos (by omega)]
  | d + 1, x, n + 1, σ, h1, h2 => by
    obtain ⟨τ, e, fr, g⟩ := om_rclr (a := a) d (x + 1) n (ox_up σ 10 0 26 x 0) (by omega) (by omega)
    have f0 : oy_fr (fun c j => c == 10 && decide (j = 26)) σ (ox_up σ 10 0 26 x 0) := oy_fr.rf.up rfl
    refine ⟨τ, (oy_lp_l (a' := (((x + 1 : Nat) : Int), ox_up σ 10 0 26 x 0)) ?_).trans e, f0.tr fr, fun i hi h => g i hi ?_⟩
    · unfold B_Mod_run_87
      dsimp only
      rw [if_neg (by omega), if_pos rfl, if_pos (by omega), Int.toNat_natCast, oy_w1 (by omega)]
    · by_cases q : i = x
      · rw [q]
        exact Or.inr oy_up_same
      · rw [oy_up_ni q]
        rcases h with h | h
        · exact Or.inl (by omega)
        · exact Or.inr h
/-- a block found by the reference, if it is not kept -/
theorem om_run110 (hT : oy_ok T) (hfi : oy_fin T f) (hF : oy_F T σ) (hmb : oy_mb σ) (h1 : 0 ≤ σ 10 0 36 0) (h2 : σ 10 0 36 0 ≤ 1000000000) (hK : oy_km K σ) {x : Nat} (hx : x < 26) : ∃ τ, J_Mod_run_110 (x : Int) σ = some ((sp_k1 T f K x).1, τ) ∧ oy_fr oy_srk σ τ ∧ oy_mb τ ∧ σ 10 0 36 0 ≤ τ 10 0 36 0 ∧ τ 10 0 36 0 ≤ σ 10 0 36 0 + 1 ∧ oy_km (sp_k1 T f K x).2 τ ∧ τ 10 0 46 0 = σ 10 0 46 0 := by
  obtain ⟨σ1, e1, f1⟩ := om_codeOf hT hF.1 (x : Int)
  have F1 := hF.sp f1
  have m1 : oy_mb σ1 := hmb.fr f1 rfl rfl rfl rfl rfl
  have v1 : σ1 10 0 36 0 = σ 10 0 36 0 := f1 _ _ _ _ rfl
  have K1 : oy_km K σ1 := ⟨fun i hi => (f1 _ _ _ _ rfl).trans (hK.1 i hi), fun y hy => ⟨(f1 _ _ _ _ rfl).trans (hK.2.1 y hy).1, (f1 _ _ _ _ rfl).trans (hK.2.1 y hy).2⟩, (f1 _ _ _ _ rfl).trans hK.2.2⟩
  have g1 : oy_fr oy_srk σ σ1 := f1.mono (fun _ _ z => oy_sq_srk (oy_sp_sq z))
  have ez : ox_w (97 + (x : Int)) = 97 + (x : Int) := oy_w (by omega) (by omega)
  have c0 : 0 ≤ (x : Int) ∧ (x : Int).toNat < 26 := by omega
  unfold J_Mod_run_110 J_Mod_run_175 sp_k1
  rw [ez, e1, Option.bind_some]
  dsimp only
  cases hbk : sp_bk T (x : Int) with
  | none =>
    rw [if_neg (show ¬ 0 ≤ oy_en none by decide), if_pos rfl, oy_er]
    exact ⟨σ1, rfl, g1, m1, by omega, by omega, K1, f1 _ _ _ _ rfl⟩
  | some r =>
    have er : oy_en (some r) = (r : Int) := rfl
    rw [er, if_pos (by omega), if_neg (show ¬ (some r = (none : Option Nat)) from fun z => by cases z), if_pos c0, if_pos c0, Int.toNat_natCast]
    by_cases q : K.2.1 x = 0
    rotate_left
    · rw [if_neg (show ¬ σ1 10 0 26 x = 0 by rw [(K1.2.1 x hx).1]; exact q), if_neg q, (K1.2.1 x hx).2]
      exact ⟨σ1, rfl, g1, m1, by omega, by omega, K1, f1 _ _ _ _ rfl⟩
    rw [if_pos (show σ1 10 0 26 x = 0 by rw [(K1.2.1 x hx).1]; exact q), if_pos q]
    obtain ⟨m, w, e36, mk⟩ := m1.new (f := f) F1 (by omega) (by omega)
    have f4 : oy_fr oy_srk σ1 (ox_up σ1 10 0 36 0 (ox_w (σ1 10 0 36 0 + 1))) := oy_fr.rf.up rfl
    have f5 : oy_fr (fun c j => c == 10 && decide (j = 36)) σ1 (ox_up σ1 10 0 36 0 (ox_w (σ1 10 0 36 0 + 1))) := oy_fr.rf.up rfl
    generalize ox_up σ1 10 0 36 0 (ox_w (σ1 10 0 36 0 + 1)) = σ2 at *
    obtain ⟨σ3, p1, k1, k2, k3, k4⟩ := (om_levels hT hfi 400).2.2 x σ2 hx m (fun r' _ => w (r', 0)) (by
      have := oy_mu_326 σ2
      omega)
    obtain ⟨_, _, _, _, _, k5, k6⟩ := k2
    rw [hbk] at p1
    have e36' : σ3 10 0 36 0 = σ2 10 0 36 0 := k1 10 0 36 0 rfl
    have fa : oy_fr oy_srk σ σ3 := g1.tr (f4.tr (k1.mono (fun _ _ => oy_sv_srk)))
    have K3 : oy_km K σ3 := ⟨fun i hi => (k1 _ _ _ _ rfl).trans ((f5 _ _ _ _ rfl).trans (K1.1 i hi)), fun y hy => ⟨(k1 _ _ _ _ rfl).trans ((f5 _ _ _ _ rfl).trans (K1.2.1 y hy).1), (k1 _ _ _ _ rfl).trans ((f5 _ _ _ _ rfl).trans (K1.2.1 y hy).2)⟩, (k1 _ _ _ _ rfl).trans ((f5 _ _ _ _ rfl).trans K1.2.2)⟩
    have m3 : oy_mb σ3 := ⟨fun i => (k3 i).trans (mk i).1, fun i => (k4 i).trans (mk i).2, k5, k6⟩
    have e46 : σ3 10 0 46 0 = σ 10 0 46 0 := (k1 _ _ _ _ rfl).trans ((f5 _ _ _ _ rfl).trans (f1 _ _ _ _ rfl))
    generalize oy_cl (sp_fa f (some r) 0) = v at *
    have fb : oy_fr oy_srk σ3 (ox_up (ox_up (ox_up σ3 10 0 25 x v) 10 0 26 x 1) 10 0 30 0 (ox_w (σ3 10 0 30 0 + 1))) := ((oy_fr.rf.up rfl).up rfl).up rfl
    have fc : oy_fr (fun c j => c == 10 && decide (25 ≤ j ∧ j ≤ 30)) σ3 (ox_up (ox_up (ox_up σ3 10 0 25 x v) 10 0 26 x 1) 10 0 30 0 (ox_w (σ3 10 0 30 0 + 1))) := ((oy_fr.rf.up rfl).up rfl).up rfl
    have e36b := fc 10 0 36 0 rfl
    have c1 : 0 ≤ (x : Int) ∧ x < 26 := by omega
    rw [p1, Option.bind_some, if_pos c1, if_pos c1, if_pos c1]
    dsimp only
    refine ⟨_, congrArg some (Prod.ext ?_ rfl), fa.tr fb, m3.fr fc rfl rfl rfl rfl rfl, by omega, by omega, ⟨fun i hi => ?_, fun y hy => ⟨?_, ?_⟩, ?_⟩, (fc _ _ _ _ rfl).trans e46⟩
    · dsimp only
      rw [oy_up_ne (by decide), oy_up_ne (by decide), oy_up_same]
    · rw [oy_up_ne (by decide), oy_up_ne (by decide), oy_up_ne (by decide)]
      exact K3.1 i hi
    · dsimp only
      rw [oy_up_ne (by decide)]
      by_cases z : y = x
      · rw [z, if_pos rfl]
        exact oy_up_same
      · rw [if_neg z, oy_up_ni z, oy_up_ne (by decide)]
        exact (K3.2.1 y hy).1
    · dsimp only
      rw [oy_up_ne (by decide), oy_up_ne (by decide)]
      by_cases z : y = x
      · rw [z, if_pos rfl]
        exact oy_up_same
      · rw [if_neg z, oy_up_ni z]
        exact (K3.2.1 y hy).2
    · dsimp only
      rw [oy_up_same, K3.2.2]
theorem om_run (hT : oy_ok T) (hfi : oy_fin T f) (hM : oy_M T σ) (hmb : oy_mb σ) (h1 : 0 ≤ σ 10 0 36 0) (h2 : σ 10 0 36 0 ≤ 1000000000) (hS : oy_okL 3 K.1) (hK : oy_km K σ) {a : Int} : ∃ τ y, F_Mod_run a σ = some (y, τ) ∧ oy_fr oy_srk σ τ ∧ oy_M T τ ∧ oy_mb τ ∧ σ 10 0 36 0 ≤ τ 10 0 36 0 ∧ τ 10 0 36 0 ≤ σ 10 0 36 0 + 1 ∧ oy_km (sp_run T f K a).2 τ ∧ τ 10 0 46 0 = oy_cx 2 0 0 (sp_run T f K a).1 ∧ ∀ v, (sp_run T f K a).1 = .inr v → y = v := by
  have fh : ∀ v, oy_fr (fun c j => c == 10 && decide (j = 46)) σ (ox_up σ 10 0 46 0 v) := fun v => oy_fr.rf.up rfl
  have fh2 : ∀ v, oy_fr oy_srk σ (ox_up σ 10 0 46 0 v) := fun v => oy_fr.rf.up rfl
  have eh : ∀ v, ox_up σ 10 0 46 0 v 10 0 46 0 = v := fun v => oy_up_same
  have Kh : ∀ v, oy_km K (ox_up σ 10 0 46 0 v) := fun v => ⟨fun i hi => (fh v _ _ _ _ rfl).trans (hK.1 i hi), fun y hy => ⟨(fh v _ _ _ _ rfl).trans (hK.2.1 y hy).1, (fh v _ _ _ _ rfl).trans (hK.2.1 y hy).2⟩, (fh v _ _ _ _ rfl).trans hK.2.2⟩
  have e36h : ∀ v, ox_up σ 10 0 46 0 v 10 0 36 0 = σ 10 0 36 0 := fun v => fh v _ _ _ _ rfl
  unfold F_Mod_run J_Mod_run_17 sp_run
  rw [om_in, Option.bind_some]
  by_cases q : 0 ≤ a ∧ a < 26
  rotate_left
  · rw [if_neg (show ¬ (0 ≤ a ∧ a ≤ 25) by omega), if_pos rfl, if_neg q, om_holds, if_neg (by decide), Option.bind_some]
    dsimp only
    rw [if_neg oy_10]
    exact ⟨_, _, rfl, fh2 1, hM.fr (fh2 1) rfl rfl rfl, hmb.fr (fh 1) rfl rfl rfl rfl rfl, by rw [e36h]; exact Int.le_refl _, by rw [e36h]; omega, Kh 1, eh 1, fun v z => by cases z⟩
  rw [if_pos (show 0 ≤ a ∧ a ≤ 25 by omega), if_neg oy_10, if_pos q, om_holds, if_pos (Int.le_refl _), Option.bind_some]
  dsimp only
  rw [if_pos rfl]
  obtain ⟨x, rfl⟩ : ∃ x : Nat, a = x := ⟨a.toNat, by omega⟩
  rw [Int.toNat_natCast]
  have g0 := fh2 0
  have M0 : oy_M T (ox_up σ 10 0 46 0 0) := hM.fr g0 rfl rfl rfl
  have m0 : oy_mb (ox_up σ 10 0 46 0 0) := hmb.fr (fh 0) rfl rfl rfl rfl rfl
  have K0 := Kh 0
  have v0 := e36h 0
  have x0 := eh 0
  generalize ox_up σ 10 0 46 0 0 = σ0 at *
  clear fh fh2 eh Kh e36h
  obtain ⟨σ1, e1, f1, F1⟩ := om_find hT M0
  have m1 : oy_mb σ1 := m0.fr f1 rfl rfl rfl rfl rfl
  obtain ⟨σ2, e2, f2, N2⟩ := om_note hT F1.1
  have F2 : oy_F T σ2 := F1.fr f2 rfl rfl rfl rfl rfl
  have m2 : oy_mb σ2 := m1.fr f2 rfl rfl rfl rfl rfl
  have K2 : oy_km K σ2 := ⟨fun i hi => (f2 _ _ _ _ rfl).trans ((f1 _ _ _ _ rfl).trans (K0.1 i hi)), fun y hy => ⟨(f2 _ _ _ _ rfl).trans ((f1 _ _ _ _ rfl).trans (K0.2.1 y hy).1), (f2 _ _ _ _ rfl).trans ((f1 _ _ _ _ rfl).trans (K0.2.1 y hy).2)⟩, (f2 _ _ _ _ rfl).trans ((f1 _ _ _ _ rfl).trans K0.2.2)⟩
  rw [e1, Option.bind_some, e2, Option.bind_some]
  obtain ⟨w, σ3, e3, f3, g3, n3⟩ := om_rcmp (a := (x : Int)) 1500 0 ox_fu true σ2 rfl (by show 1500 < 100000; decide)
  rw [if_pos rfl] at e3
  have e3' : J_Mod_run_37 (x : Int) 1 0 σ2 = J_Mod_run_85 (x : Int) (if w = true then 1 else 0) σ3 := e3
  have F3 : oy_F T σ3 := F2.fr f3 rfl rfl rfl rfl rfl
  have m3 : oy_mb σ3 := m2.fr f3 rfl rfl rfl rfl rfl
  have hw : w = true ↔ K.1 = sp_kp T := by
    rw [g3]
    constructor
    · rintro ⟨_, z⟩
      have l1 := sp_sl_len K.1 (fun w' hw' => (hS.2 w' hw').1)
      have l2 := sp_sl_len (sp_kp T) (fun w' hw' => ((sp_kp_ok hT).2 w' hw').1)
      have l3 : K.1.length ≤ 60 := hS.1
      have l4 : (sp_kp T).length ≤ 60 := (sp_kp_ok hT).1
      refine sp_sl_inj _ _ (fun i => ?_)
      by_cases hi : i < 1500
      · rw [← K2.1 i hi, ← N2 i hi]
        exact z i (Nat.zero_le _) hi
      · rw [oy_gdn (by omega), oy_gdn (by omega)]
    · intro z
      refine ⟨rfl, fun i _ hi => ?_⟩
      rw [K2.1 i hi, N2 i hi, z]
  have s27 : ∀ i, i < 1500 → σ3 10 0 27 i = (sp_sl (sp_kp T)).getD i 0 := fun i hi => by
    rw [n3 i hi, if_pos (Nat.zero_le _)]
    exact N2 i hi
  have cl : ∃ σ4, J_Mod_run_85 (x : Int) (if w = true then 1 else 0) σ3 = J_Mod_run_110 (x : Int) σ4 ∧ oy_fr (fun c j => c == 10 && decide (j = 26)) σ3 σ4 ∧ oy_km (sp_k0 T K) σ4 := by
    unfold J_Mod_run_85 J_Mod_run_87
    by_cases z : K.1 = sp_kp T
    · rw [if_pos (hw.mpr z)]
      refine ⟨σ3, oy_lp_m ?_, oy_fr.rf, s27, fun y hy => ⟨?_, ?_⟩, ?_⟩
      · unfold B_Mod_run_87
        dsimp only
        rw [if_neg (by decide), if_neg oy_10]
      · unfold sp_k0
        rw [if_pos z]
        exact (f3 _ _ _ _ rfl).trans (K2.2.1 y hy).1
      · exact (f3 _ _ _ _ rfl).trans (K2.2.1 y hy).2
      · exact (f3 _ _ _ _ rfl).trans K2.2.2
    · rw [if_neg (fun y => z (hw.mp y))]
      obtain ⟨σ4, e4, f4, g4⟩ := om_rclr (a := (x : Int)) 26 0 ox_fu σ3 rfl (by show 26 < 100000; decide)
      refine ⟨σ4, e4, f4, fun i hi => (f4 _ _ _ _ rfl).trans (s27 i hi), fun y hy => ⟨?_, ?_⟩, ?_⟩
      · unfold sp_k0
        rw [if_neg z]
        exact g4 y hy (Or.inl (Nat.zero_le _))
      · exact (f4 _ _ _ _ rfl).trans ((f3 _ _ _ _ rfl).trans (K2.2.1 y hy).2)
      · exact (f4 _ _ _ _ rfl).trans ((f3 _ _ _ _ rfl).trans K2.2.2)
  obtain ⟨σ4, e4, f4, K4⟩ := cl
  have F4 : oy_F T σ4 := F3.fr f4 rfl rfl rfl rfl rfl
  have m4 : oy_mb σ4 := m3.fr f4 rfl rfl rfl rfl rfl
  have v4 : σ4 10 0 36 0 = σ 10 0 36 0 := (f4 _ _ _ _ rfl).trans ((f3 _ _ _ _ rfl).trans ((f2 _ _ _ _ rfl).trans ((f1 _ _ _ _ rfl).trans v0)))
  have x4 : σ4 10 0 46 0 = 0 := (f4 _ _ _ _ rfl).trans ((f3 _ _ _ _ rfl).trans ((f2 _ _ _ _ rfl).trans ((f1 _ _ _ _ rfl).trans x0)))
  obtain ⟨τ, e5, f5, m5, v5, v6, K5, x5⟩ := om_run110 hT hfi F4 m4 (by omega) (by omega) K4 (show x < 26 by omega)
  have s26 : ∀ {c j : Nat}, (c == 10 && decide (j = 26)) = true → oy_srk c j = true := fun h => by
    rw [Bool.and_eq_true, decide_eq_true_eq, beq_iff_eq] at h
    exact oy_srk_of h.1 (by omega)
  have s27' : ∀ {c j : Nat}, (c == 10 && decide (j = 27)) = true → oy_srk c j = true := fun h => by
    rw [Bool.and_eq_true, decide_eq_true_eq, beq_iff_eq] at h
    exact oy_srk_of h.1 (by omega)
  have fa : oy_fr oy_srk σ τ := g0.tr ((f1.mono (fun _ _ => oy_sq_srk)).tr ((f2.mono (fun _ _ => oy_sn_srk)).tr ((f3.mono (fun _ _ => s27')).tr ((f4.mono (fun _ _ => s26)).tr f5))))
  rw [e3', e4, e5]
  exact ⟨τ, _, rfl, fa, hM.fr fa rfl rfl rfl, m5, by omega, by omega, K5, x5.trans x4, fun v z => Sum.inr.inj z⟩
theorem om_runs (hK : oy_km K σ) : ∃ τ, F_Mod_runs σ = some (K.2.2.2, τ) ∧ oy_fr (fun c j => c == 10 && decide (j = 46)) σ τ ∧ τ 10 0 46 0 = 0 := by
  have f0 : oy_fr (fun c j => c == 10 && decide (j = 46)) σ (ox_up σ 10 0 46 0 0) := oy_fr.rf.up rfl
  refine ⟨ox_up σ 10 0 46 0 0, ?_, f0, oy_up_same⟩
  unfold F_Mod_runs
  rw [om_holds, if_pos (Int.le_refl _), Option.bind_some]
  dsimp only
  rw [f0 10 0 30 0 rfl, hK.2.2]
end OYM4
