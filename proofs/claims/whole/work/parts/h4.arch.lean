/-! ===== the archive: the reference ===== -/
def oy_am (A : oy_A) (σ : ox_H) : Prop := oy_aok A ∧ σ 10 0 10 0 = A.length ∧ ∀ i, i < A.length → σ 10 0 8 i = ((oy_ag A i).1.length : Int) ∧ σ 10 0 9 i = (oy_ag A i).2 ∧ oy_ro 6 (60 * i) (oy_ag A i).1 σ
def oy_mA (c j : Nat) : Bool := c == 10 && decide (j ≤ 22 ∨ j = 46)
theorem oy_mA_mt {σ σ' : ox_H} (h : oy_fr oy_mt σ σ') : oy_fr oy_mA σ σ' := h.mono (fun c j q => by
  unfold oy_mt at q
  unfold oy_mA
  rw [Bool.and_eq_true, decide_eq_true_eq] at q ⊢
  exact ⟨q.1, by omega⟩)
theorem oy_mA_up {σ σ1 : ox_H} {j i : Nat} {v : Int} (h : oy_fr oy_mA σ σ1) (hj : j ≤ 22 ∨ j = 46) : oy_fr oy_mA σ (ox_up σ1 10 0 j i v) := h.up (by unfold oy_mA; rw [decide_eq_true hj]; rfl)
theorem oy_aok_ag {A : oy_A} (h : oy_aok A) {i : Nat} (hi : i < A.length) : 1 ≤ (oy_ag A i).1.length ∧ (oy_ag A i).1.length ≤ 60 ∧ oy_24 (oy_ag A i).1 ∧ ((oy_ag A i).2 = -1 ∨ (32 ≤ (oy_ag A i).2 ∧ (oy_ag A i).2 ≤ 126)) := by
  refine h.2 _ ?_
  unfold oy_ag
  rw [List.getD_eq_getElem?_getD, List.getElem?_eq_getElem hi]
  exact List.getElem_mem hi
theorem oy_am.mt {A : oy_A} {σ σ' : ox_H} (h : oy_am A σ) (hf : oy_fr oy_mt σ σ') : oy_am A σ' := by
  have e : ∀ j i, 6 ≤ j → j ≤ 10 → σ' 10 0 j i = σ 10 0 j i := fun j i h1 h2 => hf 10 0 j i (by
    unfold oy_mt
    rw [decide_eq_false (by omega)]
    rfl)
  exact ⟨h.1, (e 10 0 (by decide) (by decide)).trans h.2.1, fun i hi => ⟨(e 8 i (by decide) (by decide)).trans (h.2.2 i hi).1, (e 9 i (by decide) (by decide)).trans (h.2.2 i hi).2.1, ⟨fun l hl => (e 7 _ (by decide) (by decide)).trans ((h.2.2 i hi).2.2.1 l hl), fun l p hl hp => (e 6 _ (by decide) (by decide)).trans ((h.2.2 i hi).2.2.2 l p hl hp)⟩⟩⟩
theorem oy_am.e {A : oy_A} {σ σ' : ox_H} (h : oy_am A σ) (e : ∀ j i, 6 ≤ j → j ≤ 10 → σ' 10 0 j i = σ 10 0 j i) : oy_am A σ' := ⟨h.1, (e 10 0 (by decide) (by decide)).trans h.2.1, fun i hi => ⟨(e 8 i (by decide) (by decide)).trans (h.2.2 i hi).1, (e 9 i (by decide) (by decide)).trans (h.2.2 i hi).2.1, ⟨fun l hl => (e 7 _ (by decide) (by decide)).trans ((h.2.2 i hi).2.2.1 l hl), fun l p hl hp => (e 6 _ (by decide) (by decide)).trans ((h.2.2 i hi).2.2.2 l p hl hp)⟩⟩⟩
/-- what a call of the reference that changes the archive answers -/
def oy_rma (T' : oy_T) (A' : oy_A) (a b c : Nat) (r : Nat ⊕ Int) (X : Option (Int × ox_H)) (σ : ox_H) : Prop := ∃ σ2 y, X = some (y, σ2) ∧ oy_fr oy_mA σ σ2 ∧ oy_M T' σ2 ∧ oy_am A' σ2 ∧ σ2 10 0 46 0 = oy_cx a b c r ∧ ∀ v, r = .inr v → y = v
/-- a row's signs copied by a loop -/
theorem oy_cplP {β : Type} (g : Int × ox_H → Option ((Int × ox_H) ⊕ β)) (X : ox_H → Option β) (P : ox_H → Prop) (j0 sp j dp : Nat) (hP : ∀ (τ : ox_H) (i : Nat) (v : Int), P τ → P (ox_up τ 10 0 j i v)) (hd : j0 ≠ j ∨ dp + 24 ≤ sp ∨ sp + 24 ≤ dp) (hE : ∀ τ, P τ → g (((24 : Nat) : Int), τ) = (X τ).map .inr)
    (hB : ∀ (y : Nat) (τ : ox_H), y < 24 → P τ → g ((y : Int), τ) = some (.inl (((y + 1 : Nat) : Int), ox_up τ 10 0 j (dp + y) (τ 10 0 j0 (sp + y))))) : ∀ (f y n : Nat) (τ : ox_H), y + f = 24 → f < n → P τ → ox_lp g n ((y : Int), τ) = X (ox_cp τ 10 0 j0 (sp + y) 10 0 j (dp + y) f)
  | _, _, 0, _, _, h, _ => absurd h (Nat.not_lt_zero _)
  | 0, y, n + 1, τ, h1, h2, hp => by
    obtain rfl : y = 24 := by omega
    rw [oy_cp_0]
    exact oy_lp_m (hE τ hp)
  | f + 1, y, n + 1, τ, h1, h2, hp => by
    rw [oy_lp_l (hB y τ (by omega) hp), oy_cplP g X P j0 sp j dp hP hd hE hB f (y + 1) n _ (by omega) (by omega) (hP _ _ _ hp)]
    have hh : ox_cp (ox_up τ 10 0 j (dp + y) (τ 10 0 j0 (sp + y))) 10 0 j0 (sp + (y + 1)) 10 0 j (dp + (y + 1)) f = ox_cp τ 10 0 j0 (sp + y) 10 0 j (dp + y) (f + 1) := by
      funext c' k' j' i'
      rw [oy_cp_def, oy_cp_def]
      by_cases q : c' = 10 ∧ j' = j ∧ k' = 0 ∧ dp + y ≤ i' ∧ i' < dp + y + (f + 1)
      · rw [if_pos q]
        by_cases z : i' = dp + y
        · rw [if_neg (by omega), z, q.1, q.2.1, q.2.2.1, oy_up_same, Nat.sub_self]
          rfl
        · have ei : sp + (y + 1) + (i' - (dp + (y + 1))) = sp + y + (i' - (dp + y)) := by omega
          rw [if_pos (by omega), ei]
          by_cases z2 : j0 = j
          · rw [oy_up_ni (by omega)]
          · rw [oy_up_ne (by omega)]
      · rw [if_neg q, if_neg (by omega)]
        unfold ox_up
        rw [if_neg (by omega)]
    rw [hh]
section OYH4
variable {T : oy_T} {A : oy_A} {σ : ox_H}
theorem om_archive (hT : oy_ok T) (hM : oy_M T σ) (hA : oy_am A σ) {a : Int} : oy_rma (sp_arch T A a).2.1 (sp_arch T A a).2.2 1 3 0 (sp_arch T A a).1 (F_Mod_archive a σ) σ := by
  have h60 := hT.1
  have hn := sp_n_le (T := T)
  obtain ⟨σ1, e1, f1, F1⟩ := om_isEntry hT hM (a := a)
  have g1 := oy_mt_sq f1
  have A1 := hA.mt g1
  have bad : ∀ (c : Int) (ex : Nat), 0 < c → oy_cx 1 3 0 (.inl ex) = c → oy_rma T A 1 3 0 (.inl ex) (J_Mod_archive_26 a c σ1) σ := by
    intro c ex hc he
    unfold J_Mod_archive_26
    rw [om_holds, if_neg (by omega), Option.bind_some, if_neg oy_10]
    exact ⟨_, _, rfl, oy_mA_mt (oy_mt_up g1 (Or.inr (Or.inr rfl))), oy_M46 F1.1, A1.mt (oy_mt_up oy_fr.rf (Or.inr (Or.inr rfl))), (by show ox_up σ1 10 0 46 0 c 10 0 46 0 = _; rw [he]; exact oy_up_same), fun v hv => by cases hv⟩
  unfold F_Mod_archive sp_arch
  rw [e1, Option.bind_some]
  by_cases q : 0 ≤ a ∧ a < sp_n T
  rotate_left
  · rw [if_neg q, if_neg q, if_pos rfl]
    exact bad 1 1 (by decide) rfl
  rw [if_pos q, if_pos q, if_neg oy_10]
  dsimp only
  by_cases q5 : A.length < 5
  rotate_left
  · have h5 : A.length = 5 := by have := A1.1.1; omega
    rw [if_pos (show σ1 10 0 10 0 = 5 by rw [A1.2.1, h5]; rfl), if_neg q5]
    exact bad 2 3 (by decide) rfl
  rw [if_neg (show ¬ σ1 10 0 10 0 = 5 by rw [A1.2.1]; omega), if_pos q5]
  obtain ⟨e, rfl⟩ : ∃ l : Nat, a = l := ⟨a.toNat, by omega⟩
  have he : e < sp_n T := by omega
  have hla := sp_la_in he
  have hr := sp_rfm_in he
  have hee := sp_en_lt3 (T := T) hla.1 hla.2
  have hle := sp_en_le (T := T) (sp_la T e)
  rw [Int.toNat_natCast]
  have ewm : Nat → ox_w ((sp_en T (sp_la T e) : Int) - (sp_en T e : Int)) = ((sp_rfm T e : Nat) : Int) := fun _ => oy_wsb (by omega) (by omega)
  have F0 : oy_F T (ox_up σ1 10 0 46 0 0) := F1.fr (S := fun c j => c == 10 && j == 46) (oy_fr.rf.up rfl) rfl rfl rfl rfl rfl
  have g0 : oy_fr oy_mt σ (ox_up σ1 10 0 46 0 0) := oy_mt_up g1 (Or.inr (Or.inr rfl))
  have w0 : (ox_up σ1 10 0 46 0 0) 10 0 46 0 = 0 := oy_up_same
  unfold J_Mod_archive_26
  rw [om_holds, if_pos (Int.le_refl _), Option.bind_some, if_pos rfl]
  dsimp only
  generalize ox_up σ1 10 0 46 0 0 = τ0 at F0 g0 w0 ⊢
  have A0 := hA.mt g0
  /- behind the sign -/
  have fin : ∀ ρ : ox_H, oy_F T ρ → oy_fr oy_mt σ ρ → ρ 10 0 46 0 = 0 → oy_rma (sp_del T (sp_en T e) (sp_rfm T e)) (A ++ [(sp_prt T e, sp_asg T e)]) 1 3 0 (.inr ((A.length : Int) + 1)) (J_Mod_archive_61 (e : Int) (sp_asg T e) (A.length : Int) ρ) σ := by
    intro ρ hF gρ wρ
    have Aρ := hA.mt gρ
    have e21 : ρ 10 0 21 e = (sp_en T e : Int) := hF.2.2 e (by omega)
    have Fu : oy_F T (ox_up ρ 10 0 9 A.length (sp_asg T e)) := hF.fr (S := fun c j => c == 10 && j == 9) (oy_fr.rf.up rfl) rfl rfl rfl rfl rfl
    obtain ⟨ρ1, x1, y1⟩ := om_end hT Fu he
    have F2 := Fu.sp y1
    obtain ⟨ρ2, x2, y2, r2, v2⟩ := om_lift hT F2.1 (a := sp_en T e) (m := sp_rfm T e) hr.2
    have M2 := F2.1.fr y2 rfl rfl rfl
    have hother : ∀ j i, 6 ≤ j → j ≤ 10 → j ≠ 9 → ρ2 10 0 j i = ρ 10 0 j i := fun j i h1 h2 h3 => by
      rw [y2 10 0 j i (by show ((10 : Nat) == 10 && (decide (3 ≤ j) && decide (j ≤ 5))) = false; rw [decide_eq_false (show ¬ j ≤ 5 by omega), Bool.and_false]; rfl), y1 10 0 j i (by unfold oy_sp; rw [decide_eq_false (show ¬ 11 ≤ j by omega)]; rfl), oy_up_ne (by omega)]
    have h9 : ∀ i, ρ2 10 0 9 i = if i = A.length then sp_asg T e else ρ 10 0 9 i := fun i => by
      rw [y2 10 0 9 i rfl, y1 10 0 9 i rfl]
      by_cases z : i = A.length
      · rw [if_pos z, z, oy_up_same]
      · rw [if_neg z, oy_up_ni z]
    have n10 : ρ2 10 0 10 0 = (A.length : Int) := (hother 10 0 (by decide) (by decide) (by decide)).trans Aρ.2.1
    unfold J_Mod_archive_61
    rw [if_pos (show 0 ≤ (A.length : Int) ∧ (A.length : Int).toNat < 5 by omega), if_pos (show 0 ≤ (e : Int) ∧ (e : Int).toNat < 61 by omega), Int.toNat_natCast, Int.toNat_natCast, x1, Option.bind_some]
    dsimp only
    rw [e21, (ewm 0), x2, Option.bind_some, if_pos (show 0 ≤ ρ2 10 0 10 0 ∧ (ρ2 10 0 10 0).toNat < 5 by rw [n10]; omega), n10, Int.toNat_natCast]
    unfold J_Mod_archive_99
    have hl := oy_rcl (B_Mod_archive_99 (sp_en T e : Int) ((sp_rfm T e : Nat) : Int)) (fun τ => J_Mod_archive_185 (sp_en T e : Int) ((sp_rfm T e : Nat) : Int) τ) (fun τ => τ 10 0 10 0 = (A.length : Int)) 3 0 6 (60 * A.length) 0 (sp_rfm T e) (by omega) (by omega) (fun τ x hp => by rw [oy_rc_n (by omega)]; exact hp) (fun τ hp => by
        unfold B_Mod_archive_99
        dsimp only
        rw [if_pos (by omega)]) (fun x τ hx hp => by
        have ew1 : Nat → ox_w (ox_w (60 * (A.length : Int)) + ((0 + x : Nat) : Int)) = ((60 * A.length + x : Nat) : Int) := fun _ => by
          rw [oy_w (x := 60 * (A.length : Int)) (by omega) (by omega), oy_w (by omega) (by omega)]
          omega
        have hi := oy_cplP (B_Mod_archive_131 (sp_en T e : Int) ((sp_rfm T e : Nat) : Int) ((0 + x : Nat) : Int)) (fun τ => some (.inl (((0 + (x + 1) : Nat) : Int), τ))) (fun τ => τ 10 0 10 0 = (A.length : Int)) 3 (24 * (0 + x)) 6 (24 * (60 * A.length + x)) (fun τ i v h => by rw [oy_up_ne (by decide)]; exact h) (by omega) (fun τ hp2 => by
            unfold B_Mod_archive_131 J_Mod_archive_179
            dsimp only
            rw [if_pos (by decide), oy_w1 (by omega)]
            rfl) (fun y κ hy hp2 => by
            have ew2 : Nat → ox_w (ox_w (24 * ((0 + x : Nat) : Int)) + (y : Int)) = ((24 * (0 + x) + y : Nat) : Int) := fun _ => by rw [oy_w24 (by omega), oy_wn (by omega)]
            have ew3 : Nat → ox_w (ox_w (ox_w (1440 * (A.length : Int)) + ox_w (24 * ((0 + x : Nat) : Int))) + (y : Int)) = ((24 * (60 * A.length + x) + y : Nat) : Int) := fun _ => by
              rw [oy_w24 (by omega), oy_w (x := 1440 * (A.length : Int)) (by omega) (by omega), oy_w (x := 1440 * (A.length : Int) + _) (by omega) (by omega), oy_w (by omega) (by omega)]
              omega
            unfold B_Mod_archive_131
            dsimp only
            rw [hp2, if_neg (by omega), (ew2 0), (ew3 0), Int.toNat_natCast, Int.toNat_natCast, if_pos (by omega), if_pos (by omega), oy_w1 (by omega)]) 24 0 ox_fu (ox_up τ 10 0 7 (60 * A.length + x) (τ 10 0 4 (0 + x))) (by omega) (by show 24 < 100000; omega) ((oy_up_ne (by decide)).trans hp)
        unfold B_Mod_archive_99 J_Mod_archive_131
        dsimp only
        rw [hp, if_neg (by omega), (ew1 0), Int.toNat_natCast, Int.toNat_natCast, if_pos (by omega), if_pos (by omega)]
        refine hi.trans ?_
        exact congrArg (fun t : ox_H => (some (.inl (((0 + (x + 1) : Nat) : Int), t)) : Option ((Int × ox_H) ⊕ Int × ox_H))) (oy_rc1 (j0 := 3) (s := 0 + x) (j := 6) (d := 60 * A.length + x) ⟨rfl, rfl⟩)) (sp_rfm T e) 0 ox_fu (ox_up ρ2 10 0 8 A.length ((sp_rfm T e : Nat) : Int)) (by omega) (by show _ < 100000; omega) ((oy_up_ne (by decide)).trans n10)
    have hl2 : ox_lp (B_Mod_archive_99 (sp_en T e : Int) ((sp_rfm T e : Nat) : Int)) ox_fu ((0 : Int), ox_up ρ2 10 0 8 A.length ((sp_rfm T e : Nat) : Int)) = J_Mod_archive_185 (sp_en T e : Int) ((sp_rfm T e : Nat) : Int) (oy_rc (ox_up ρ2 10 0 8 A.length ((sp_rfm T e : Nat) : Int)) 3 (0 + 0) 6 (60 * A.length + 0) (sp_rfm T e)) := hl
    rw [hl2]
    generalize hρ3 : oy_rc (ox_up ρ2 10 0 8 A.length ((sp_rfm T e : Nat) : Int)) 3 (0 + 0) 6 (60 * A.length + 0) (sp_rfm T e) = ρ3
    have f23 : oy_fr (fun c j => c == 10 && decide (6 ≤ j ∧ j ≤ 8)) ρ2 ρ3 := by
      rw [← hρ3]
      exact (oy_fr.rf.up rfl).rc rfl rfl
    have M3 : oy_M T ρ3 := M2.fr f23 rfl rfl rfl
    have ePl : (sp_prt T e).length = sp_rfm T e := sp_sub_len
    have n3 : ρ3 10 0 10 0 = (A.length : Int) := (f23 10 0 10 0 rfl).trans n10
    have A3 : ∀ i, i < A.length + 1 → ρ3 10 0 8 i = ((oy_ag (A ++ [(sp_prt T e, sp_asg T e)]) i).1.length : Int) ∧ ρ3 10 0 9 i = (oy_ag (A ++ [(sp_prt T e, sp_asg T e)]) i).2 ∧ oy_ro 6 (60 * i) (oy_ag (A ++ [(sp_prt T e, sp_asg T e)]) i).1 ρ3 := by
      intro i hi
      have w8 : ρ3 10 0 8 i = if i = A.length then ((sp_rfm T e : Nat) : Int) else ρ2 10 0 8 i := by
        rw [← hρ3, oy_rc_n (by omega)]
        by_cases z : i = A.length
        · rw [if_pos z, z, oy_up_same]
        · rw [if_neg z, oy_up_ni z]
      rw [oy_ag_snoc hi, w8, f23 10 0 9 i rfl, h9]
      by_cases z : i < A.length
      · have c := Aρ.2.2 i z
        have ok := oy_aok_ag Aρ.1 z
        rw [if_pos z, if_neg (show ¬ i = A.length by omega), if_neg (show ¬ i = A.length by omega), hother 8 i (by decide) (by decide) (by decide)]
        refine ⟨c.1, c.2.1, ?_⟩
        rw [← hρ3]
        have r0 : oy_ro 6 (60 * i) (oy_ag A i).1 (ox_up ρ2 10 0 8 A.length ((sp_rfm T e : Nat) : Int)) := ⟨fun l hl => by rw [oy_up_ne (by decide), hother 7 _ (by decide) (by decide) (by decide)]; exact c.2.2.1 l hl, fun l p hl hp => by rw [oy_up_ne (by decide), hother 6 _ (by decide) (by decide) (by decide)]; exact c.2.2.2 l p hl hp⟩
        exact r0.off ok.2.2.1 ⟨rfl, rfl, rfl⟩ (Or.inr (Or.inl (by omega)))
      · obtain rfl : i = A.length := by omega
        rw [if_neg z, if_pos rfl, if_pos rfl]
        refine ⟨by show ((sp_rfm T e : Nat) : Int) = ((sp_prt T e).length : Int); rw [ePl], rfl, ?_⟩
        rw [← hρ3]
        have r3 : oy_ro 3 0 (sp_prt T e) (ox_up ρ2 10 0 8 A.length ((sp_rfm T e : Nat) : Int)) := r2.fr (S := fun c j => c == 10 && j == 8) (oy_fr.rf.up rfl) rfl rfl
        have r4 := r3.rc (j := 6) (d := 60 * A.length) (oy_24_sub (oy_24_ok hT)) ⟨rfl, rfl⟩
        rw [ePl] at r4
        exact r4
    obtain ⟨ρ4, x4, y4, z4⟩ := om_close hT M3 (a := sp_en T e) (m := sp_rfm T e) hr.1 hr.2
    have e4 : ∀ j i, 3 ≤ j → ρ4 10 0 j i = ρ3 10 0 j i := fun j i hj => y4 10 0 j i (by show ((10 : Nat) == 10 && decide (j ≤ 2)) = false; rw [decide_eq_false (show ¬ j ≤ 2 by omega), Bool.and_false])
    unfold J_Mod_archive_185
    rw [x4, Option.bind_some, e4 10 0 (by decide), n3, oy_w1 (by omega)]
    have Lsn : (A ++ [(sp_prt T e, sp_asg T e)]).length = A.length + 1 := by rw [List.length_append]; rfl
    refine ⟨_, _, rfl, ?_, ?_, ⟨sp_arch_aok hT he hA.1 q5, ?_, fun i hi => ?_⟩, ?_, fun v hv => ?_⟩
    · refine oy_mA_up ?_ (Or.inl (by decide))
      have gA : oy_fr oy_mA σ ρ := oy_mA_mt gρ
      have k1 : oy_fr oy_mA ρ (ox_up ρ 10 0 9 A.length (sp_asg T e)) := oy_mA_up oy_fr.rf (Or.inl (by decide))
      have k2 : oy_fr oy_mA ρ1 ρ2 := y2.mono (fun c j h => by unfold oy_mA; rw [Bool.and_eq_true, Bool.and_eq_true, decide_eq_true_eq, decide_eq_true_eq] at h; rw [Bool.and_eq_true, decide_eq_true_eq]; exact ⟨h.1, by omega⟩)
      have k3 : oy_fr oy_mA ρ2 ρ3 := f23.mono (fun c j h => by unfold oy_mA; rw [Bool.and_eq_true, decide_eq_true_eq] at h ⊢; exact ⟨h.1, by omega⟩)
      have k4 : oy_fr oy_mA ρ3 ρ4 := y4.mono (fun c j h => by unfold oy_mA; rw [Bool.and_eq_true, decide_eq_true_eq] at h ⊢; exact ⟨h.1, by omega⟩)
      exact ((((gA.tr k1).tr (oy_mA_mt (oy_mt_sp y1))).tr k2).tr k3).tr k4
    · exact z4.fr (S := fun c j => c == 10 && j == 10) (oy_fr.rf.up rfl) rfl rfl rfl
    · rw [oy_up_same, Lsn]
    · rw [Lsn] at hi
      have c := A3 i hi
      refine ⟨?_, ?_, ⟨fun l hl => ?_, fun l p hl hp => ?_⟩⟩
      · rw [oy_up_ne (by decide), e4 8 i (by decide)]; exact c.1
      · rw [oy_up_ne (by decide), e4 9 i (by decide)]; exact c.2.1
      · rw [oy_up_ne (by decide), e4 7 _ (by decide)]; exact c.2.2.1 l hl
      · rw [oy_up_ne (by decide), e4 6 _ (by decide)]; exact c.2.2.2 l p hl hp
    · rw [oy_up_ne (by decide), e4 46 0 (by decide), f23 10 0 46 0 rfl, y2 10 0 46 0 rfl, y1 10 0 46 0 rfl, oy_up_ne (by decide), wρ]
      rfl
    · have := Sum.inr.inj hv
      rw [← this]
      rfl
  obtain ⟨τ1, t1, u1⟩ := om_parent hT F0 he
  have F5 := F0.sp u1
  have g5 := g0.tr (oy_mt_sp u1)
  have w5 : τ1 10 0 46 0 = 0 := (u1 10 0 46 0 rfl).trans w0
  have n5 : τ1 10 0 10 0 = (A.length : Int) := (hA.mt g5).2.1
  rw [t1, Option.bind_some]
  dsimp only
  cases hp : sp_pa T e with
  | none =>
    have e9 : sp_asg T e = -1 := by unfold sp_asg; rw [hp]
    rw [e9] at fin
    rw [if_neg (show ¬ 0 ≤ oy_en none by decide), n5, e9]
    exact fin τ1 F5 g5 w5
  | some p =>
    have hlt := (sp_pa_lt hp).1
    have e9 : sp_asg T e = sp_ini T p := by unfold sp_asg; rw [hp]
    obtain ⟨τ2, t2, u2⟩ := om_initial hT F5 (e := p) (by omega)
    have t2' : F_Mod_initial (oy_en (some p)) τ1 = some (sp_ini T p, τ2) := t2
    rw [e9] at fin
    rw [if_pos (show 0 ≤ oy_en (some p) by show 0 ≤ (p : Int); omega), t2', Option.bind_some, n5, e9]
    exact fin τ2 (F5.sp u2) (g5.tr (oy_mt_sp u2)) ((u2 10 0 46 0 rfl).trans w5)
theorem om_back (hT : oy_ok T) (hM : oy_M T σ) (hA : oy_am A σ) : oy_rma (sp_back T A).2.1 (sp_back T A).2.2 3 0 0 (sp_back T A).1 (F_Mod_bringBack σ) σ := by
  have h60 := hT.1
  have bad : oy_rma T A 3 0 0 (.inl 3) (J_Mod_bringBack_29 σ) σ := by
    unfold J_Mod_bringBack_29 J_Mod_bringBack_34
    rw [om_holds, if_neg (by decide), Option.bind_some, if_neg oy_10]
    have g := oy_mt_up (σ := σ) (j := 46) (i := 0) (v := 1) oy_fr.rf (Or.inr (Or.inr rfl))
    exact ⟨_, _, rfl, oy_mA_mt g, oy_M46 hM, hA.mt g, (by show ox_up σ 10 0 46 0 1 10 0 46 0 = 1; exact oy_up_same), fun v hv => by cases hv⟩
  unfold F_Mod_bringBack sp_back
  by_cases qn : 1 ≤ A.length
  rotate_left
  · rw [if_pos (show σ 10 0 10 0 = 0 by rw [hA.2.1]; omega), if_neg (fun z => qn z.1)]
    exact bad
  obtain ⟨B, P, s, rfl⟩ : ∃ B P s, A = B ++ [(P, s)] := by
    refine ⟨A.dropLast, (A.getLast (List.ne_nil_of_length_pos qn)).1, (A.getLast (List.ne_nil_of_length_pos qn)).2, ?_⟩
    exact (List.dropLast_concat_getLast _).symm
  have hlen : (B ++ [(P, s)]).length = B.length + 1 := by rw [List.length_append]; rfl
  have hag : oy_ag (B ++ [(P, s)]) ((B ++ [(P, s)]).length - 1) = (P, s) := by
    rw [hlen, oy_ag_snoc (by omega), if_neg (by omega)]
  have ok := oy_aok_ag hA.1 (i := B.length) (by omega)
  have i1 := hA.2.2 B.length (by omega)
  rw [oy_ag_snoc (by omega), if_neg (by omega)] at i1 ok
  have ok : 1 ≤ P.length ∧ P.length ≤ 60 ∧ oy_24 P ∧ (s = -1 ∨ (32 ≤ s ∧ s ≤ 126)) := ok
  have i1 : σ 10 0 8 B.length = (P.length : Int) ∧ σ 10 0 9 B.length = s ∧ oy_ro 6 (60 * B.length) P σ := i1
  have hB5 : B.length + 1 ≤ 5 := by have := hA.1.1; omega
  have hBok : oy_aok B := ⟨by omega, fun Q hQ => hA.1.2 Q (List.mem_append_left _ hQ)⟩
  have n10 : σ 10 0 10 0 = ((B.length + 1 : Nat) : Int) := by rw [hA.2.1, hlen]
  have ewc : Nat → ox_w (((B.length + 1 : Nat) : Int) - 1) = ((B.length : Nat) : Int) := fun _ => by rw [oy_w (by omega) (by omega)]; omega
  rw [hag, List.dropLast_concat]
  dsimp only
  rw [if_neg (show ¬ σ 10 0 10 0 = 0 by rw [n10]; omega), n10, (ewc 0), if_pos (show 0 ≤ (B.length : Int) ∧ (B.length : Int).toNat < 5 by omega), Int.toNat_natCast, i1.1, hM.1, oy_wn (by omega)]
  by_cases qr : T.length + P.length ≤ 60
  rotate_left
  · rw [if_neg (show ¬ ((T.length + P.length : Nat) : Int) ≤ 60 by omega), if_neg (fun z => qr z.2)]
    exact bad
  rw [if_pos (show ((T.length + P.length : Nat) : Int) ≤ 60 by omega), if_pos (show 1 ≤ (B ++ [(P, s)]).length ∧ T.length + P.length ≤ 60 from ⟨by omega, qr⟩)]
  have w0 : (ox_up σ 10 0 46 0 0) 10 0 46 0 = 0 := oy_up_same
  have n100 : (ox_up σ 10 0 46 0 0) 10 0 10 0 = ((B.length + 1 : Nat) : Int) := (oy_up_ne (by decide)).trans n10
  unfold J_Mod_bringBack_34
  rw [om_holds, if_pos (Int.le_refl _), Option.bind_some, if_pos rfl]
  dsimp only
  rw [n100, (ewc 0)]
  have M1 : oy_M T (ox_up (ox_up σ 10 0 46 0 0) 10 0 10 0 (B.length : Int)) := (oy_M46 (v := 0) hM).fr (S := fun c j => c == 10 && j == 10) (oy_fr.rf.up rfl) rfl rfl rfl
  have h1 : ∀ j i, 6 ≤ j → j ≤ 9 → (ox_up (ox_up σ 10 0 46 0 0) 10 0 10 0 (B.length : Int)) 10 0 j i = σ 10 0 j i := fun j i h1 h2 => by rw [oy_up_ne (by omega), oy_up_ne (by omega)]
  have n1 : (ox_up (ox_up σ 10 0 46 0 0) 10 0 10 0 (B.length : Int)) 10 0 10 0 = (B.length : Int) := oy_up_same
  have g1 : oy_fr oy_mA σ (ox_up (ox_up σ 10 0 46 0 0) 10 0 10 0 (B.length : Int)) := oy_mA_up (oy_mA_up oy_fr.rf (Or.inr rfl)) (Or.inl (by decide))
  have w1 : (ox_up (ox_up σ 10 0 46 0 0) 10 0 10 0 (B.length : Int)) 10 0 46 0 = 0 := (oy_up_ne (by decide)).trans w0
  generalize ox_up (ox_up σ 10 0 46 0 0) 10 0 10 0 (B.length : Int) = σ1 at M1 h1 n1 g1 w1 ⊢
  obtain ⟨σ2, e2, f2, F2⟩ := om_find hT M1
  have h2 : ∀ j i, 6 ≤ j → j ≤ 10 → σ2 10 0 j i = σ1 10 0 j i := fun j i h1 h2 => f2 10 0 j i (by unfold oy_sq; rw [decide_eq_false (show ¬ 11 ≤ j by omega)]; rfl)
  have n2 : σ2 10 0 10 0 = (B.length : Int) := (h2 10 0 (by decide) (by decide)).trans n1
  have s2 : σ2 10 0 9 B.length = s := (h2 9 _ (by decide) (by decide)).trans ((h1 9 _ (by decide) (by decide)).trans i1.2.1)
  /- behind the title -/
  have fin : ∀ (ρ : ox_H), oy_F T ρ → oy_fr oy_sp σ2 ρ → oy_rma (sp_pas T (sp_bat T s) P) B 3 0 0 (.inr (((B ++ [(P, s)]).length : Int) - 1)) (J_Mod_bringBack_102 ((sp_bat T s : Nat) : Int) ρ) σ := by
    intro ρ hF fρ
    have h3 : ∀ j i, 6 ≤ j → j ≤ 10 → ρ 10 0 j i = σ1 10 0 j i := fun j i a b => (fρ 10 0 j i (by unfold oy_sp; rw [decide_eq_false (show ¬ 11 ≤ j by omega)]; rfl)).trans (h2 j i a b)
    have n3 : ρ 10 0 10 0 = (B.length : Int) := (h3 10 0 (by decide) (by decide)).trans n1
    have s8 : ρ 10 0 8 B.length = (P.length : Int) := (h3 8 _ (by decide) (by decide)).trans ((h1 8 _ (by decide) (by decide)).trans i1.1)
    unfold J_Mod_bringBack_102 J_Mod_bringBack_118
    rw [if_pos (show 0 ≤ ρ 10 0 10 0 ∧ (ρ 10 0 10 0).toNat < 5 by rw [n3]; omega), n3, Int.toNat_natCast, s8]
    have hl := oy_rcl (B_Mod_bringBack_118 ((sp_bat T s : Nat) : Int)) (fun τ => J_Mod_bringBack_201 ((sp_bat T s : Nat) : Int) τ) (fun τ => τ 10 0 10 0 = (B.length : Int) ∧ τ 10 0 5 0 = (P.length : Int)) 6 (60 * B.length) 3 0 0 P.length (by omega) (by omega) (fun τ x hp => ⟨by rw [oy_rc_n (by omega)]; exact hp.1, by rw [oy_rc_n (by omega)]; exact hp.2⟩) (fun τ hp => by
        unfold B_Mod_bringBack_118
        dsimp only
        rw [hp.2, if_pos (by omega)]) (fun x τ hx hp => by
        have ew1 : Nat → ox_w (ox_w (60 * (B.length : Int)) + ((0 + x : Nat) : Int)) = ((60 * B.length + x : Nat) : Int) := fun _ => by
          rw [oy_w (x := 60 * (B.length : Int)) (by omega) (by omega), oy_w (by omega) (by omega)]
          omega
        have hi := oy_cplP (B_Mod_bringBack_149 ((sp_bat T s : Nat) : Int) ((0 + x : Nat) : Int)) (fun τ => some (.inl (((0 + (x + 1) : Nat) : Int), τ))) (fun τ => τ 10 0 10 0 = (B.length : Int)) 6 (24 * (60 * B.length + x)) 3 (24 * (0 + x)) (fun τ i v h => by rw [oy_up_ne (by decide)]; exact h) (by omega) (fun τ hp2 => by
            unfold B_Mod_bringBack_149 J_Mod_bringBack_195
            dsimp only
            rw [if_pos (by decide), oy_w1 (by omega)]
            rfl) (fun y κ hy hp2 => by
            have ew2 : Nat → ox_w (ox_w (24 * ((0 + x : Nat) : Int)) + (y : Int)) = ((24 * (0 + x) + y : Nat) : Int) := fun _ => by rw [oy_w24 (by omega), oy_wn (by omega)]
            have ew3 : Nat → ox_w (ox_w (ox_w (1440 * (B.length : Int)) + ox_w (24 * ((0 + x : Nat) : Int))) + (y : Int)) = ((24 * (60 * B.length + x) + y : Nat) : Int) := fun _ => by
              rw [oy_w24 (by omega), oy_w (x := 1440 * (B.length : Int)) (by omega) (by omega), oy_w (x := 1440 * (B.length : Int) + _) (by omega) (by omega), oy_w (by omega) (by omega)]
              omega
            unfold B_Mod_bringBack_149
            dsimp only
            rw [hp2, if_neg (by omega), (ew2 0), (ew3 0), Int.toNat_natCast, Int.toNat_natCast, if_pos (by omega), if_pos (by omega), oy_w1 (by omega)]) 24 0 ox_fu (ox_up τ 10 0 4 (0 + x) (τ 10 0 7 (60 * B.length + x))) (by omega) (by show 24 < 100000; omega) ((oy_up_ne (by decide)).trans hp.1)
        unfold B_Mod_bringBack_118 J_Mod_bringBack_149
        dsimp only
        rw [hp.1, hp.2, if_neg (by omega), (ew1 0), Int.toNat_natCast, Int.toNat_natCast, if_pos (by omega), if_pos (by omega)]
        refine hi.trans ?_
        exact congrArg (fun t : ox_H => (some (.inl (((0 + (x + 1) : Nat) : Int), t)) : Option ((Int × ox_H) ⊕ Int × ox_H))) (oy_rc1 (j0 := 6) (s := 60 * B.length + x) (j := 3) (d := 0 + x) ⟨rfl, rfl⟩)) P.length 0 ox_fu (ox_up ρ 10 0 5 0 (P.length : Int)) (by omega) (by show _ < 100000; omega) ⟨(oy_up_ne (by decide)).trans n3, oy_up_same⟩
    have hl2 : ox_lp (B_Mod_bringBack_118 ((sp_bat T s : Nat) : Int)) ox_fu ((0 : Int), ox_up ρ 10 0 5 0 (P.length : Int)) = J_Mod_bringBack_201 ((sp_bat T s : Nat) : Int) (oy_rc (ox_up ρ 10 0 5 0 (P.length : Int)) 6 (60 * B.length + 0) 3 (0 + 0) P.length) := hl
    rw [hl2]
    have r0 : oy_ro 6 (60 * B.length) P (ox_up ρ 10 0 5 0 (P.length : Int)) := ⟨fun l hl => by rw [oy_up_ne (by decide), h3 7 _ (by decide) (by decide), h1 7 _ (by decide) (by decide)]; exact i1.2.2.1 l hl, fun l p hl hp => by rw [oy_up_ne (by decide), h3 6 _ (by decide) (by decide), h1 6 _ (by decide) (by decide)]; exact i1.2.2.2 l p hl hp⟩
    have r1 := r0.rc (j := 3) (d := 0) ok.2.2.1 ⟨rfl, rfl⟩
    have r1 : oy_ro 3 0 P (oy_rc (ox_up ρ 10 0 5 0 (P.length : Int)) 6 (60 * B.length + 0) 3 (0 + 0) P.length) := r1
    have f3 : oy_fr oy_mr ρ (oy_rc (ox_up ρ 10 0 5 0 (P.length : Int)) 6 (60 * B.length + 0) 3 (0 + 0) P.length) := (oy_fr.rf.up rfl).rc rfl rfl
    have n5 : (oy_rc (ox_up ρ 10 0 5 0 (P.length : Int)) 6 (60 * B.length + 0) 3 (0 + 0) P.length) 10 0 5 0 = (P.length : Int) := by rw [oy_rc_n (by omega), oy_up_same]
    have hM3 : oy_M T (oy_rc (ox_up ρ 10 0 5 0 (P.length : Int)) 6 (60 * B.length + 0) 3 (0 + 0) P.length) := hF.1.fr (S := fun c j => c == 10 && decide (3 ≤ j ∧ j ≤ 5)) ((oy_fr.rf.up rfl).rc rfl rfl) rfl rfl rfl
    generalize oy_rc (ox_up ρ 10 0 5 0 (P.length : Int)) 6 (60 * B.length + 0) 3 (0 + 0) P.length = ρ3 at r1 f3 n5 hM3 ⊢
    obtain ⟨ρ4, x4, y4, z4⟩ := om_lay hT hM3 r1 ok.2.2.1 n5 (a := sp_bat T s) sp_eu_le ok.1 qr
    have e4 : ∀ j i, 6 ≤ j → j ≤ 10 → ρ4 10 0 j i = σ1 10 0 j i := fun j i a b => by
      rw [y4 10 0 j i (by unfold oy_m2; rw [decide_eq_false (show ¬ j ≤ 2 by omega)]; rfl), f3 10 0 j i (by unfold oy_mr; rw [decide_eq_false (show ¬ j ≤ 5 by omega)]; rfl), h3 j i a b]
    unfold J_Mod_bringBack_201
    rw [x4, Option.bind_some, e4 10 0 (by decide) (by decide), n1]
    refine ⟨_, _, rfl, ?_, z4, ⟨hBok, (e4 10 0 (by decide) (by decide)).trans n1, fun i hi => ?_⟩, ?_, fun v hv => ?_⟩
    · exact (((g1.tr (oy_mA_mt (oy_mt_sq f2))).tr (oy_mA_mt (oy_mt_sp fρ))).tr (oy_mA_mt (oy_mt_w (P := fun j => j ≤ 5) (fun c j => rfl) (fun j h => by omega) f3))).tr (oy_mA_mt (oy_mt_m2 y4))
    · have c := hA.2.2 i (by omega)
      rw [oy_ag_snoc (by omega), if_pos hi] at c
      refine ⟨?_, ?_, ⟨fun l hl => ?_, fun l p hl hp => ?_⟩⟩
      · rw [e4 8 i (by decide) (by decide), h1 8 i (by decide) (by decide)]; exact c.1
      · rw [e4 9 i (by decide) (by decide), h1 9 i (by decide) (by decide)]; exact c.2.1
      · rw [e4 7 _ (by decide) (by decide), h1 7 _ (by decide) (by decide)]; exact c.2.2.1 l hl
      · rw [e4 6 _ (by decide) (by decide), h1 6 _ (by decide) (by decide)]; exact c.2.2.2 l p hl hp
    · rw [y4 10 0 46 0 rfl, f3 10 0 46 0 rfl, fρ 10 0 46 0 rfl, f2 10 0 46 0 rfl, w1]
      rfl
    · have := Sum.inr.inj hv
      rw [← this, hlen]
      omega
  rw [e2, Option.bind_some, if_pos (show 0 ≤ σ2 10 0 10 0 ∧ (σ2 10 0 10 0).toNat < 5 by rw [n2]; omega), if_pos (show 0 ≤ σ2 10 0 10 0 ∧ (σ2 10 0 10 0).toNat < 5 by rw [n2]; omega)]
  have e9 : ∀ x : Int, x = σ2 10 0 10 0 → σ2 10 0 9 x.toNat = s := fun x hx => by rw [hx, n2, Int.toNat_natCast]; exact s2
  by_cases z : s = -1
  · have ebat : sp_bat T s = T.length := by
      unfold sp_bat sp_eu
      rw [if_pos z, if_pos (by decide)]
    rw [if_neg (show ¬ 0 ≤ σ2 10 0 9 (σ2 10 0 10 0).toNat by rw [e9 _ rfl, z]; decide)]
    unfold J_Mod_bringBack_85
    rw [if_neg (by decide), F2.1.1]
    have := fin σ2 F2 oy_fr.rf
    rw [ebat] at this
    rw [ebat]
    exact this
  · have hs : 0 ≤ s := by omega
    obtain ⟨σ3, e3, f3⟩ := om_titled hT F2 s
    have F3 := F2.sp f3
    have hp := sp_ti_in (T := T) (c := s)
    have ebat : sp_bat T s = sp_eu T (sp_ti T s) := by unfold sp_bat; rw [if_neg z]
    rw [if_pos (show 0 ≤ σ2 10 0 9 (σ2 10 0 10 0).toNat by rw [e9 _ rfl]; exact hs), e9 _ rfl, e3, Option.bind_some]
    unfold J_Mod_bringBack_85
    dsimp only
    rcases hp with hp | ⟨hp1, hp2⟩
    · have e8 : sp_bat T s = T.length := by
        rw [ebat, hp]
        unfold sp_eu
        rw [if_pos (by decide)]
      rw [if_neg (show ¬ 0 ≤ sp_ti T s by omega), F3.1.1]
      have := fin σ3 F3 f3
      rw [e8] at this
      rw [e8]
      exact this
    · obtain ⟨e, he⟩ : ∃ e : Nat, sp_ti T s = e := ⟨(sp_ti T s).toNat, by omega⟩
      obtain ⟨σ4, e4, f4⟩ := om_end hT F3 (e := e) (by omega)
      have e8 : sp_bat T s = sp_en T (sp_la T e) := by
        rw [ebat, he]
        unfold sp_eu
        rw [if_neg (by omega), Int.toNat_natCast]
      rw [if_pos (show 0 ≤ sp_ti T s by omega), he, e4, Option.bind_some]
      have := fin σ4 (F3.sp f4) (f3.tr f4)
      rw [e8] at this
      rw [e8]
      exact this
end OYH4
