/-! ===== agendas, days, links ===== -/
/-- the place-th that holds -/
def sp_kth (p : Nat → Bool) : Nat → Nat → Int → Int
  | 0, _, _ => -1
  | f + 1, k, v => if p k = true then (if v = 0 then (k : Int) else sp_kth p f (k + 1) (v - 1)) else sp_kth p f (k + 1) v
def sp_agb (T : oy_T) (d w b : Int) (e : Nat) : Bool := sp_on T e d && (decide (ox_and (sp_tgs T e) w = w) && decide (ox_and (sp_tgs T e) b = 0))
def sp_ag (T : oy_T) (d w b p : Int) : Nat ⊕ Int := if 0 ≤ p then (if (0 ≤ d ∧ d ≤ 9999) ∧ (0 ≤ w ∧ w ≤ 67108863) ∧ (0 ≤ b ∧ b ≤ 67108863) then .inr (sp_kth (sp_agb T d w b) (sp_n T) 0 p) else .inl 2) else .inl 1
def sp_lkb (w : List Int) (i : Nat) : Bool := decide (oy_wk w i = 91 ∧ sp_lt (oy_wk w (i + 1)) ∧ oy_wk w (i + 2) = 93)
def sp_lk (T : oy_T) (l : Nat) (p : Int) : Int := if sp_kind (oy_ln T l) = 7 then (if 0 ≤ sp_kth (sp_lkb (oy_ln T l)) ((oy_ln T l).length - 2) 0 p then sp_ti T (oy_wk (oy_ln T l) ((sp_kth (sp_lkb (oy_ln T l)) ((oy_ln T l).length - 2) 0 p).toNat + 1)) else -1) else -1
def sp_link (T : oy_T) (a p : Int) : Nat ⊕ Int := if (0 ≤ a ∧ a < T.length) ∧ 0 ≤ p then .inr (sp_lk T a.toNat p) else .inl 1
section OYH6
variable {T : oy_T} {σ : ox_H}
theorem oc_checkDay {d : Int} : F_Out_checkDay d σ = some (if 0 ≤ d ∧ d ≤ 9999 then .inr () else .inl 2) := by
  unfold F_Out_checkDay J_Out_checkDay_11
  by_cases h1 : d < 0
  · rw [if_pos h1, if_neg (show ¬ (0 ≤ d ∧ d ≤ 9999) by omega)]
  rw [if_neg h1]
  by_cases h2 : d ≤ 9999
  · rw [if_pos h2, if_pos (show 0 ≤ d ∧ d ≤ 9999 by omega)]
  · rw [if_neg h2, if_neg (show ¬ (0 ≤ d ∧ d ≤ 9999) by omega)]
theorem oc_checkTags {d : Int} : F_Out_checkTags d σ = some (if 0 ≤ d ∧ d ≤ 67108863 then .inr () else .inl 2) := by
  have e : ox_c 67108863 0 = 67108863 := by decide
  unfold F_Out_checkTags J_Out_checkTags_11
  rw [e]
  by_cases h1 : d < 0
  · rw [if_pos h1, if_neg (show ¬ (0 ≤ d ∧ d ≤ 67108863) by omega)]
  rw [if_neg h1]
  by_cases h2 : d ≤ 67108863
  · rw [if_pos h2, if_pos (show 0 ≤ d ∧ d ≤ 67108863 by omega)]
  · rw [if_neg h2, if_neg (show ¬ (0 ≤ d ∧ d ≤ 67108863) by omega)]
theorem oc_agenda (hT : oy_ok T) (h : oy_cs T σ) {d w b p : Int} (hp : p < 2147483648) : ∃ σ1, F_Out_agenda d w b p σ = some (sp_ag T d w b p, σ1) ∧ oy_st 0 T T σ σ1 := by
  have h60 := hT.1
  have hn := sp_n_le (T := T)
  unfold F_Out_agenda sp_ag
  by_cases qp : 0 ≤ p
  rotate_left
  · rw [if_neg qp, if_neg qp]
    exact ⟨σ, rfl, oy_st.rf h⟩
  rw [if_pos qp, if_pos qp, oc_checkDay, Option.bind_some]
  by_cases qd : 0 ≤ d ∧ d ≤ 9999
  rotate_left
  · rw [if_neg qd, if_neg (show ¬ ((0 ≤ d ∧ d ≤ 9999) ∧ (0 ≤ w ∧ w ≤ 67108863) ∧ (0 ≤ b ∧ b ≤ 67108863)) from fun z => qd z.1)]
    exact ⟨σ, rfl, oy_st.rf h⟩
  rw [if_pos qd]
  dsimp only
  rw [oc_checkTags (d := w), Option.bind_some]
  by_cases qw : 0 ≤ w ∧ w ≤ 67108863
  rotate_left
  · rw [if_neg qw, if_neg (show ¬ ((0 ≤ d ∧ d ≤ 9999) ∧ (0 ≤ w ∧ w ≤ 67108863) ∧ (0 ≤ b ∧ b ≤ 67108863)) from fun z => qw z.2.1)]
    exact ⟨σ, rfl, oy_st.rf h⟩
  rw [if_pos qw]
  dsimp only
  rw [oc_checkTags (d := b), Option.bind_some]
  by_cases qb : 0 ≤ b ∧ b ≤ 67108863
  rotate_left
  · rw [if_neg qb, if_neg (show ¬ ((0 ≤ d ∧ d ≤ 9999) ∧ (0 ≤ w ∧ w ≤ 67108863) ∧ (0 ≤ b ∧ b ≤ 67108863)) from fun z => qb z.2.2)]
    exact ⟨σ, rfl, oy_st.rf h⟩
  rw [if_pos qb, if_pos (show (0 ≤ d ∧ d ≤ 9999) ∧ (0 ≤ w ∧ w ≤ 67108863) ∧ (0 ≤ b ∧ b ≤ 67108863) from ⟨qd, qw, qb⟩)]
  obtain ⟨σ1, e1, s1, q1⟩ := oy_cs_ask hT h
  dsimp only
  rw [e1, Option.bind_some]
  refine ⟨σ1, ?_, s1⟩
  have hloop : ∀ (f k n : Nat) (v : Int), k + f = sp_n T → f < n → 0 ≤ v ∧ v < 2147483648 → ox_lp (B_Out_agenda_41 d w b σ1) n (v, (k : Int)) = some (.inr (sp_kth (sp_agb T d w b) f k v), σ1) := by
    intro f
    induction f with
    | zero =>
      intro k n v h1 h2 h3
      obtain ⟨n, rfl⟩ : ∃ j, n = j + 1 := ⟨n - 1, by omega⟩
      refine oy_lp_m ?_
      unfold B_Out_agenda_41 J_Out_agenda_112
      dsimp only
      rw [if_pos (show σ1 2 0 9 0 ≤ (k : Int) by rw [q1.1.1]; omega)]
      rfl
    | succ f ih =>
      intro k n v h1 h2 h3
      obtain ⟨n, rfl⟩ : ∃ j, n = j + 1 := ⟨n - 1, by omega⟩
      have ew : Nat → ox_w ((k : Int) + 1) = ((k + 1 : Nat) : Int) := fun _ => oy_w1 (by omega)
      have ewv : Nat → v ≠ 0 → ox_w (v + (-1)) = v - 1 := fun _ hv => by rw [oy_w (by omega) (by omega)]; omega
      have hB0 : B_Out_agenda_41 d w b σ1 (v, (k : Int)) = (if ox_and (sp_tgs T k) w = w then (if ox_and (sp_tgs T k) b = 0 then (if (if sp_on T k d = true then (1 : Int) else 0) = 0 then some (.inl (v, ((k + 1 : Nat) : Int))) else (if v = 0 then some (.inr (.inr (k : Int), σ1)) else some (.inl (ox_w (v + (-1)), ((k + 1 : Nat) : Int))))) else some (.inl (v, ((k + 1 : Nat) : Int)))) else some (.inl (v, ((k + 1 : Nat) : Int)))) := by
        unfold B_Out_agenda_41 J_Out_agenda_106 J_Out_agenda_100
        dsimp only
        rw [if_neg (show ¬ σ1 2 0 9 0 ≤ (k : Int) by rw [q1.1.1]; omega), oc_etg hT q1 (by omega), Option.bind_some, oc_isOn hT q1 (by omega) (by omega), Option.bind_some, (ew 0)]
        rfl
      by_cases hb : sp_agb T d w b k = true
      · have hb2 := hb
        unfold sp_agb at hb2
        rw [Bool.and_eq_true, Bool.and_eq_true, decide_eq_true_eq, decide_eq_true_eq] at hb2
        rw [if_pos hb2.2.1, if_pos hb2.2.2, if_pos hb2.1, if_neg oy_10] at hB0
        rw [sp_kth, if_pos hb]
        by_cases hv : v = 0
        · rw [if_pos hv] at hB0
          rw [if_pos hv, oy_lp_r hB0]
        · rw [if_neg hv, (ewv 0 hv)] at hB0
          rw [if_neg hv, oy_lp_l hB0]
          exact ih (k + 1) n (v - 1) (by omega) (by omega) (by omega)
      · have hB : B_Out_agenda_41 d w b σ1 (v, (k : Int)) = some (.inl (v, ((k + 1 : Nat) : Int))) := by
          rw [hB0]
          by_cases c1 : ox_and (sp_tgs T k) w = w
          · rw [if_pos c1]
            by_cases c2 : ox_and (sp_tgs T k) b = 0
            · rw [if_pos c2]
              by_cases c3 : sp_on T k d = true
              · exfalso
                apply hb
                unfold sp_agb
                rw [c3, decide_eq_true c1, decide_eq_true c2]
                rfl
              · rw [if_neg c3, if_pos rfl]
            · rw [if_neg c2]
          · rw [if_neg c1]
        rw [sp_kth, if_neg hb, oy_lp_l hB]
        exact ih (k + 1) n v (by omega) (by omega) h3
  exact hloop (sp_n T) 0 ox_fu p (by omega) (by show _ < 100000; omega) ⟨qp, hp⟩
theorem om_agenda (hT : oy_ok T) (hM : oy_M T σ) {d w b p : Int} (hp : p < 2147483648) : oy_rm oy_mt T 1 2 0 (sp_ag T d w b p) (F_Mod_agenda d w b p σ) σ := by
  have h60 := hT.1
  have hn := sp_n_le (T := T)
  have e26 : ox_c 67108863 0 = 67108863 := by decide
  have bad : ∀ (c : Int) (ex : Nat), 0 < c → oy_cx 1 2 0 (.inl ex) = c → oy_rm oy_mt T 1 2 0 (.inl ex) (J_Mod_agenda_63 d w b p c σ) σ := by
    intro c ex hc he
    unfold J_Mod_agenda_63
    rw [om_holds, if_neg (by omega), Option.bind_some, if_neg oy_10]
    exact ⟨_, _, rfl, oy_mt_up oy_fr.rf (Or.inr (Or.inr rfl)), oy_M46 hM, (by show ox_up σ 10 0 46 0 c 10 0 46 0 = _; rw [he]; exact oy_up_same), fun v hv => by cases hv⟩
  have bad2 : ¬ ((0 ≤ d ∧ d ≤ 9999) ∧ (0 ≤ w ∧ w ≤ 67108863) ∧ (0 ≤ b ∧ b ≤ 67108863)) → oy_rm oy_mt T 1 2 0 (sp_ag T d w b p) (J_Mod_agenda_40 d w b p σ) σ := by
    intro hc
    unfold J_Mod_agenda_40 J_Mod_agenda_41 sp_ag
    by_cases qp : 0 ≤ p
    · rw [if_pos qp, if_neg hc, if_pos qp, if_pos rfl]
      exact bad 2 2 (by decide) rfl
    · rw [if_neg qp, if_neg qp]
      exact bad 1 1 (by decide) rfl
  unfold F_Mod_agenda
  rw [e26, om_in, Option.bind_some]
  by_cases qd : 0 ≤ d ∧ d ≤ 9999
  rotate_left
  · rw [if_neg qd, if_pos rfl]
    exact bad2 (fun z => qd z.1)
  rw [if_pos qd, if_neg oy_10, om_in, Option.bind_some]
  by_cases qw : 0 ≤ w ∧ w ≤ 67108863
  rotate_left
  · rw [if_neg qw, if_pos rfl]
    exact bad2 (fun z => qw z.2.1)
  rw [if_pos qw, if_neg oy_10, om_in, Option.bind_some]
  by_cases qb : 0 ≤ b ∧ b ≤ 67108863
  rotate_left
  · rw [if_neg qb, if_pos rfl]
    exact bad2 (fun z => qb z.2.2)
  rw [if_pos qb, if_neg oy_10]
  unfold J_Mod_agenda_41 sp_ag
  by_cases qp : 0 ≤ p
  rotate_left
  · rw [if_neg qp, if_neg qp]
    exact bad 1 1 (by decide) rfl
  rw [if_pos qp, if_pos (show (0 ≤ d ∧ d ≤ 9999) ∧ (0 ≤ w ∧ w ≤ 67108863) ∧ (0 ≤ b ∧ b ≤ 67108863) from ⟨qd, qw, qb⟩), if_pos qp, if_neg oy_10]
  have M0 := oy_M46 (v := 0) hM
  have w0 : (ox_up σ 10 0 46 0 0) 10 0 46 0 = 0 := oy_up_same
  have g0 : oy_fr oy_mt σ (ox_up σ 10 0 46 0 0) := oy_mt_up oy_fr.rf (Or.inr (Or.inr rfl))
  unfold J_Mod_agenda_63 J_Mod_agenda_82
  rw [om_holds, if_pos (Int.le_refl _), Option.bind_some, if_pos rfl]
  dsimp only
  generalize ox_up σ 10 0 46 0 0 = τ0 at M0 w0 g0 ⊢
  obtain ⟨τ1, e1, f1, F1⟩ := om_find hT M0
  rw [e1, Option.bind_some]
  have hloop : ∀ (f k n : Nat) (v : Int) (τ : ox_H), k + f = sp_n T → f < n → 0 ≤ v ∧ v < 2147483648 → oy_F T τ → oy_fr oy_sp τ1 τ → ∃ τ', ox_lp (B_Mod_agenda_82 d w b) n (v, (k : Int), τ) = some (sp_kth (sp_agb T d w b) f k v, τ') ∧ oy_F T τ' ∧ oy_fr oy_sp τ1 τ' := by
    intro f
    induction f with
    | zero =>
      intro k n v τ h1 h2 h3 h4 h5
      obtain ⟨n, rfl⟩ : ∃ j, n = j + 1 := ⟨n - 1, by omega⟩
      refine ⟨τ, oy_lp_m ?_, h4, h5⟩
      unfold B_Mod_agenda_82 J_Mod_agenda_141
      dsimp only
      rw [if_pos (show τ 10 0 22 0 ≤ (k : Int) by rw [h4.2.1]; omega)]
      rfl
    | succ f ih =>
      intro k n v τ h1 h2 h3 h4 h5
      obtain ⟨n, rfl⟩ : ∃ j, n = j + 1 := ⟨n - 1, by omega⟩
      have ew : Nat → ox_w ((k : Int) + 1) = ((k + 1 : Nat) : Int) := fun _ => oy_w1 (by omega)
      have ewv : Nat → v ≠ 0 → ox_w (v + (-1)) = v - 1 := fun _ hv => by rw [oy_w (by omega) (by omega)]; omega
      obtain ⟨κ1, x1, y1⟩ := om_tagsOf hT h4 (e := k) (by omega)
      obtain ⟨κ2, x2, y2⟩ := om_isOn hT (h4.sp y1) (e := k) (by omega) (d := d) (by omega)
      have F2 := (h4.sp y1).sp y2
      have g2 := (h5.tr y1).tr y2
      have hB0 : B_Mod_agenda_82 d w b (v, (k : Int), τ) = (if (if sp_on T k d = true then (1 : Int) else 0) = 0 then some (.inl (v, ((k + 1 : Nat) : Int), κ2)) else (if ox_and (sp_tgs T k) w = w then (if ox_and (sp_tgs T k) b = 0 then (if v = 0 then some (.inr ((k : Int), κ2)) else some (.inl (ox_w (v + (-1)), ((k + 1 : Nat) : Int), κ2))) else some (.inl (v, ((k + 1 : Nat) : Int), κ2))) else some (.inl (v, ((k + 1 : Nat) : Int), κ2)))) := by
        unfold B_Mod_agenda_82 J_Mod_agenda_135 J_Mod_agenda_129
        dsimp only
        rw [if_neg (show ¬ τ 10 0 22 0 ≤ (k : Int) by rw [h4.2.1]; omega), x1, Option.bind_some]
        dsimp only
        rw [x2, Option.bind_some]
        dsimp only
        rw [(ew 0)]
        rfl
      by_cases hb : sp_agb T d w b k = true
      · have hb2 := hb
        unfold sp_agb at hb2
        rw [Bool.and_eq_true, Bool.and_eq_true, decide_eq_true_eq, decide_eq_true_eq] at hb2
        rw [if_pos hb2.1, if_neg oy_10, if_pos hb2.2.1, if_pos hb2.2.2] at hB0
        rw [sp_kth, if_pos hb]
        by_cases hv : v = 0
        · rw [if_pos hv] at hB0
          rw [if_pos hv, oy_lp_r hB0]
          exact ⟨κ2, rfl, F2, g2⟩
        · rw [if_neg hv, (ewv 0 hv)] at hB0
          rw [if_neg hv, oy_lp_l hB0]
          exact ih (k + 1) n (v - 1) κ2 (by omega) (by omega) (by omega) F2 g2
      · have hB : B_Mod_agenda_82 d w b (v, (k : Int), τ) = some (.inl (v, ((k + 1 : Nat) : Int), κ2)) := by
          rw [hB0]
          by_cases c3 : sp_on T k d = true
          · rw [if_pos c3, if_neg oy_10]
            by_cases c1 : ox_and (sp_tgs T k) w = w
            · rw [if_pos c1]
              by_cases c2 : ox_and (sp_tgs T k) b = 0
              · exfalso
                apply hb
                unfold sp_agb
                rw [c3, decide_eq_true c1, decide_eq_true c2]
                rfl
              · rw [if_neg c2]
            · rw [if_neg c1]
          · rw [if_neg c3, if_pos rfl]
        rw [sp_kth, if_neg hb, oy_lp_l hB]
        exact ih (k + 1) n v κ2 (by omega) (by omega) h3 F2 g2
  obtain ⟨τ2, e2, F2, f2⟩ := hloop (sp_n T) 0 ox_fu p τ1 (by omega) (by show _ < 100000; omega) ⟨qp, hp⟩ F1 oy_fr.rf
  have e2' : ox_lp (B_Mod_agenda_82 d w b) ox_fu (p, (0 : Int), τ1) = some (sp_kth (sp_agb T d w b) (sp_n T) 0 p, τ2) := e2
  rw [e2']
  refine ⟨τ2, _, rfl, (g0.tr (oy_mt_sq f1)).tr (oy_mt_sp f2), F2.1, ?_, fun v hv => Sum.inr.inj hv⟩
  rw [f2 10 0 46 0 rfl, f1 10 0 46 0 rfl, w0]
  rfl
/-! links -/
theorem oc_link (hT : oy_ok T) (h : oy_cs T σ) {a p : Int} (hp : p < 2147483648) : ∃ σ1, F_Out_link a p σ = some (sp_link T a p, σ1) ∧ oy_st 0 T T σ σ1 := by
  have h60 := hT.1
  unfold F_Out_link F_Out_checkPlace sp_link
  rw [oc_hasLine h.1.1.1, Option.bind_some]
  by_cases q : 0 ≤ a ∧ a < T.length
  rotate_left
  · rw [if_neg q, if_neg (show ¬ ((0 ≤ a ∧ a < T.length) ∧ 0 ≤ p) from fun z => q z.1)]
    exact ⟨σ, rfl, oy_st.rf h⟩
  rw [if_pos q]
  dsimp only
  by_cases qp : 0 ≤ p
  rotate_left
  · rw [if_neg qp, if_neg (show ¬ ((0 ≤ a ∧ a < T.length) ∧ 0 ≤ p) from fun z => qp z.2)]
    exact ⟨σ, rfl, oy_st.rf h⟩
  rw [if_pos qp, Option.bind_some, if_pos (show (0 ≤ a ∧ a < T.length) ∧ 0 ≤ p from ⟨q, qp⟩)]
  obtain ⟨l, rfl⟩ : ∃ l : Nat, a = l := ⟨a.toNat, by omega⟩
  obtain ⟨σ1, e1, s1, q1⟩ := oy_cs_ask hT h
  obtain ⟨r1, r2⟩ := oc_erd hT q1 (l := l) (by omega)
  have h24 := oy_len24 hT l
  refine ⟨σ1, ?_, s1⟩
  dsimp only
  rw [e1, Option.bind_some, r1, Option.bind_some, Int.toNat_natCast]
  unfold sp_lk
  by_cases hk : sp_kind (oy_ln T l) = 7
  rotate_left
  · rw [if_neg (show ¬ σ1 4 l 0 0 = 7 by rw [r2.1]; exact hk), if_neg hk]
  rw [if_pos (show σ1 4 l 0 0 = 7 by rw [r2.1]; exact hk), if_pos hk]
  unfold J_Out_link_39
  have hat : ∀ x : Nat, F_Lin_at 0 (l : Int) (x : Int) σ1 = some (oy_wk (oy_ln T l) x) := fun x => oc_at (oy_ok_L hT) q1.2.1 q1.2.2.1 l x
  have hwk : ∀ x, 0 ≤ oy_wk (oy_ln T l) x ∧ oy_wk (oy_ln T l) x ≤ 126 := fun x => oy_wk_le hT l x
  generalize hw : oy_ln T l = w at h24 hat hwk ⊢
  have hsz : F_Lin_size 0 (l : Int) σ1 = some ((w.length : Nat) : Int) := by rw [← hw]; exact oc_size (oy_ok_L hT) q1.2.1 l
  have hloop : ∀ (f k n : Nat) (v : Int), k + f = w.length - 2 → f < n → 0 ≤ v ∧ v < 2147483648 → ox_lp (B_Out_link_39 (l : Int) σ1) n (v, (k : Int)) = some (.inr (if 0 ≤ sp_kth (sp_lkb w) f k v then sp_ti T (oy_wk w ((sp_kth (sp_lkb w) f k v).toNat + 1)) else -1), σ1) := by
    intro f
    induction f with
    | zero =>
      intro k n v h1 h2 h3
      obtain ⟨n, rfl⟩ : ∃ j, n = j + 1 := ⟨n - 1, by omega⟩
      have ew2 : Nat → ox_w ((k : Int) + 2) = ((k + 2 : Nat) : Int) := fun _ => oy_wn (a := k) (b := 2) (by omega)
      refine oy_lp_m ?_
      unfold B_Out_link_39 J_Out_link_159
      dsimp only
      rw [hsz, Option.bind_some, (ew2 0), if_pos (by omega)]
      rfl
    | succ f ih =>
      intro k n v h1 h2 h3
      obtain ⟨n, rfl⟩ : ∃ j, n = j + 1 := ⟨n - 1, by omega⟩
      have ew : Nat → ox_w ((k : Int) + 1) = ((k + 1 : Nat) : Int) := fun _ => oy_w1 (by omega)
      have ew2 : Nat → ox_w ((k : Int) + 2) = ((k + 2 : Nat) : Int) := fun _ => oy_wn (a := k) (b := 2) (by omega)
      have ewv0 : Nat → ox_w (v - 0) = v := fun _ => by rw [oy_w (by omega) (by omega)]; omega
      have ewv1 : Nat → v ≠ 0 → ox_w (v - 1) = v - 1 := fun _ hv => oy_w (by omega) (by omega)
      have no : J_Out_link_118 (l : Int) v (k : Int) (oy_wk w (k + 1)) σ1 = some (.inl (v, ((k + 1 : Nat) : Int))) := by
        unfold J_Out_link_118 J_Out_link_119 J_Out_link_140 J_Out_link_151
        rw [if_pos rfl, if_pos rfl, (ewv0 0), (ew 0)]
      have hB0 : B_Out_link_39 (l : Int) σ1 (v, (k : Int)) = (if oy_wk w k = 91 then (if oy_wk w (k + 2) = 93 then (if oy_wk w (k + 1) < 97 then some (.inl (v, ((k + 1 : Nat) : Int))) else (if 122 < oy_wk w (k + 1) then some (.inl (v, ((k + 1 : Nat) : Int))) else J_Out_link_119 (l : Int) v (k : Int) (oy_wk w (k + 1)) 1 σ1)) else some (.inl (v, ((k + 1 : Nat) : Int)))) else some (.inl (v, ((k + 1 : Nat) : Int)))) := by
        unfold B_Out_link_39
        dsimp only
        rw [hsz, Option.bind_some, (ew2 0), if_neg (show ¬ ((w.length : Nat) : Int) ≤ ((k + 2 : Nat) : Int) by omega), (ew 0), hat, Option.bind_some, hat, Option.bind_some, no, hat, Option.bind_some]
      by_cases hb : sp_lkb w k = true
      · have hb2 := of_decide_eq_true hb
        have hc := hb2.2.1
        rw [if_pos hb2.1, if_pos hb2.2.2, if_neg (by omega), if_neg (by omega)] at hB0
        unfold J_Out_link_119 J_Out_link_140 J_Out_link_151 J_Out_link_130 at hB0
        rw [if_neg oy_10] at hB0
        rw [sp_kth, if_pos hb]
        by_cases hv : v = 0
        · rw [if_pos hv, oc_titled hT q1 (by omega), Option.bind_some] at hB0
          rw [if_pos hv, oy_lp_r (b := (.inr (sp_ti T (oy_wk w (k + 1))), σ1)) hB0, if_pos (by omega), Int.toNat_natCast]
        · rw [if_neg hv, if_neg oy_10, (ewv1 0 hv), (ew 0)] at hB0
          rw [if_neg hv, oy_lp_l hB0]
          exact ih (k + 1) n (v - 1) (by omega) (by omega) (by omega)
      · have hB : B_Out_link_39 (l : Int) σ1 (v, (k : Int)) = some (.inl (v, ((k + 1 : Nat) : Int))) := by
          rw [hB0]
          by_cases c1 : oy_wk w k = 91
          · rw [if_pos c1]
            by_cases c2 : oy_wk w (k + 2) = 93
            · rw [if_pos c2]
              by_cases c3 : oy_wk w (k + 1) < 97
              · rw [if_pos c3]
              · rw [if_neg c3]
                by_cases c4 : 122 < oy_wk w (k + 1)
                · rw [if_pos c4]
                · exact absurd (decide_eq_true ⟨c1, ⟨by omega, by omega⟩, c2⟩) hb
            · rw [if_neg c2]
          · rw [if_neg c1]
        rw [sp_kth, if_neg hb, oy_lp_l hB]
        exact ih (k + 1) n v (by omega) (by omega) h3
  exact hloop (w.length - 2) 0 ox_fu p (by omega) (by show _ < 100000; omega) ⟨qp, hp⟩
theorem om_link (hT : oy_ok T) (hM : oy_M T σ) {a p : Int} (hp : p < 2147483648) : oy_rm oy_mt T 1 0 0 (sp_link T a p) (F_Mod_link a p σ) σ := by
  have h60 := hT.1
  have bad : oy_rm oy_mt T 1 0 0 (.inl 1) (J_Mod_link_17 a p σ) σ := by
    unfold J_Mod_link_17 J_Mod_link_18
    rw [om_holds, if_neg (by decide), Option.bind_some, if_neg oy_10]
    exact ⟨_, _, rfl, oy_mt_up oy_fr.rf (Or.inr (Or.inr rfl)), oy_M46 hM, (by show ox_up σ 10 0 46 0 1 10 0 46 0 = 1; exact oy_up_same), fun v hv => by cases hv⟩
  unfold F_Mod_link sp_link
  rw [om_isLine hM hT, Option.bind_some]
  by_cases q : 0 ≤ a ∧ a < T.length
  rotate_left
  · rw [if_neg q, if_neg (show ¬ ((0 ≤ a ∧ a < T.length) ∧ 0 ≤ p) from fun z => q z.1), if_pos rfl]
    exact bad
  rw [if_pos q, if_neg oy_10]
  by_cases qp : 0 ≤ p
  rotate_left
  · rw [if_pos (show p < 0 by omega), if_neg (show ¬ ((0 ≤ a ∧ a < T.length) ∧ 0 ≤ p) from fun z => qp z.2)]
    exact bad
  rw [if_neg (show ¬ p < 0 by omega), if_pos (show (0 ≤ a ∧ a < T.length) ∧ 0 ≤ p from ⟨q, qp⟩)]
  obtain ⟨l, rfl⟩ : ∃ l : Nat, a = l := ⟨a.toNat, by omega⟩
  have hl : l < T.length := by omega
  have h24 := oy_len24 hT l
  have M0 := oy_M46 (v := 0) hM
  have w0 : (ox_up σ 10 0 46 0 0) 10 0 46 0 = 0 := oy_up_same
  have g0 : oy_fr oy_mt σ (ox_up σ 10 0 46 0 0) := oy_mt_up oy_fr.rf (Or.inr (Or.inr rfl))
  unfold J_Mod_link_18
  rw [om_holds, if_pos (Int.le_refl _), Option.bind_some, if_pos rfl, Int.toNat_natCast]
  dsimp only
  generalize ox_up σ 10 0 46 0 0 = τ0 at M0 w0 g0 ⊢
  obtain ⟨τ1, e1, f1, F1⟩ := om_find hT M0
  obtain ⟨τ2, e2, f2, -⟩ := om_kindOf hT F1.1 hl
  have F2 := F1.sp f2
  have g2 := (g0.tr (oy_mt_sq f1)).tr (oy_mt_sp f2)
  have w2 : τ2 10 0 46 0 = 0 := by rw [f2 10 0 46 0 rfl, f1 10 0 46 0 rfl, w0]
  rw [e1, Option.bind_some, e2, Option.bind_some]
  dsimp only
  unfold sp_lk J_Mod_link_47 J_Mod_link_52
  have hsz : τ2 10 0 1 l = ((oy_ln T l).length : Int) := F2.1.2.1 l hl
  have hlk : ∀ x : Nat, F_Mod_look (l : Int) (x : Int) τ2 = some (oy_wk (oy_ln T l) x) := fun x => om_look' hT F2.1 hl
  by_cases hk : sp_kind (oy_ln T l) = 7
  rotate_left
  · rw [if_neg hk, if_neg hk]
    have hB : ox_lp (B_Mod_link_52 (l : Int) 0 τ2) ox_fu (p, (0 : Int)) = some (-1, τ2) := by
      refine oy_lp_m (n := 99999) ?_
      unfold B_Mod_link_52 J_Mod_link_139
      dsimp only
      rw [if_pos (show 0 ≤ (l : Int) ∧ (l : Int).toNat < 60 by omega), if_pos rfl]
      split <;> rfl
    rw [hB]
    exact ⟨τ2, _, rfl, g2, F2.1, w2.trans rfl, fun v hv => Sum.inr.inj hv⟩
  rw [if_pos hk, if_pos hk]
  generalize oy_ln T l = w at h24 hsz hlk ⊢
  have hloop : ∀ (f k n : Nat) (v : Int), k + f = w.length - 2 → f < n → 0 ≤ v ∧ v < 2147483648 → ∃ τ', ox_lp (B_Mod_link_52 (l : Int) 1 τ2) n (v, (k : Int)) = some ((if 0 ≤ sp_kth (sp_lkb w) f k v then sp_ti T (oy_wk w ((sp_kth (sp_lkb w) f k v).toNat + 1)) else -1), τ') ∧ oy_fr oy_sp τ2 τ' := by
    intro f
    induction f with
    | zero =>
      intro k n v h1 h2 h3
      obtain ⟨n, rfl⟩ : ∃ j, n = j + 1 := ⟨n - 1, by omega⟩
      have ew2 : Nat → ox_w ((k : Int) + 2) = ((k + 2 : Nat) : Int) := fun _ => oy_wn (a := k) (b := 2) (by omega)
      refine ⟨τ2, oy_lp_m ?_, oy_fr.rf⟩
      unfold B_Mod_link_52 J_Mod_link_139
      dsimp only
      rw [if_pos (show 0 ≤ (l : Int) ∧ (l : Int).toNat < 60 by omega), (ew2 0), Int.toNat_natCast, if_pos (show τ2 10 0 1 l ≤ ((k + 2 : Nat) : Int) by rw [hsz]; omega)]
      rfl
    | succ f ih =>
      intro k n v h1 h2 h3
      obtain ⟨n, rfl⟩ : ∃ j, n = j + 1 := ⟨n - 1, by omega⟩
      have ew : Nat → ox_w ((k : Int) + 1) = ((k + 1 : Nat) : Int) := fun _ => oy_w1 (by omega)
      have ew2 : Nat → ox_w ((k : Int) + 2) = ((k + 2 : Nat) : Int) := fun _ => oy_wn (a := k) (b := 2) (by omega)
      have ewv1 : Nat → v ≠ 0 → ox_w (v + (-1)) = v - 1 := fun _ hv => by rw [oy_w (by omega) (by omega)]; omega
      have hB0 : B_Mod_link_52 (l : Int) 1 τ2 (v, (k : Int)) = (if oy_wk w k = 91 then (if (if sp_lt (oy_wk w (k + 1)) then (1 : Int) else 0) = 0 then some (.inl (v, ((k + 1 : Nat) : Int))) else (if oy_wk w (k + 2) = 93 then (if v = 0 then ((J_Mod_link_116 (l : Int) (k : Int) τ2).map .inr) else some (.inl (ox_w (v + (-1)), ((k + 1 : Nat) : Int)))) else some (.inl (v, ((k + 1 : Nat) : Int))))) else some (.inl (v, ((k + 1 : Nat) : Int)))) := by
        unfold B_Mod_link_52 J_Mod_link_133
        dsimp only
        rw [if_pos (show 0 ≤ (l : Int) ∧ (l : Int).toNat < 60 by omega), (ew2 0), Int.toNat_natCast, if_neg (show ¬ τ2 10 0 1 l ≤ ((k + 2 : Nat) : Int) by rw [hsz]; omega), if_neg oy_10, hlk, Option.bind_some, (ew 0), hlk, Option.bind_some, om_lt, Option.bind_some, hlk, Option.bind_some]
      by_cases hb : sp_lkb w k = true
      · have hb2 := of_decide_eq_true hb
        rw [if_pos hb2.1, if_pos hb2.2.1, if_neg oy_10, if_pos hb2.2.2] at hB0
        rw [sp_kth, if_pos hb]
        by_cases hv : v = 0
        · obtain ⟨τ3, e3, f3⟩ := om_titled hT F2 (oy_wk w (k + 1))
          unfold J_Mod_link_116 at hB0
          rw [if_pos hv, (ew 0), hlk, Option.bind_some, e3, Option.bind_some] at hB0
          refine ⟨τ3, ?_, f3⟩
          rw [if_pos hv, oy_lp_r (b := (sp_ti T (oy_wk w (k + 1)), τ3)) hB0, if_pos (by omega), Int.toNat_natCast]
        · rw [if_neg hv, (ewv1 0 hv)] at hB0
          rw [if_neg hv, oy_lp_l hB0]
          exact ih (k + 1) n (v - 1) (by omega) (by omega) (by omega)
      · have hB : B_Mod_link_52 (l : Int) 1 τ2 (v, (k : Int)) = some (.inl (v, ((k + 1 : Nat) : Int))) := by
          rw [hB0]
          by_cases c1 : oy_wk w k = 91
          · rw [if_pos c1]
            by_cases c2 : sp_lt (oy_wk w (k + 1))
            · rw [if_pos c2, if_neg oy_10]
              by_cases c3 : oy_wk w (k + 2) = 93
              · exact absurd (decide_eq_true ⟨c1, c2, c3⟩) hb
              · rw [if_neg c3]
            · rw [if_neg c2, if_pos rfl]
          · rw [if_neg c1]
        rw [sp_kth, if_neg hb, oy_lp_l hB]
        exact ih (k + 1) n v (by omega) (by omega) h3
  obtain ⟨τ3, e3, f3⟩ := hloop (w.length - 2) 0 ox_fu p (by omega) (by show _ < 100000; omega) ⟨qp, hp⟩
  have e3' : ox_lp (B_Mod_link_52 (l : Int) 1 τ2) ox_fu (p, (0 : Int)) = some ((if 0 ≤ sp_kth (sp_lkb w) (w.length - 2) 0 p then sp_ti T (oy_wk w ((sp_kth (sp_lkb w) (w.length - 2) 0 p).toNat + 1)) else -1), τ3) := e3
  rw [e3']
  exact ⟨τ3, _, rfl, g2.tr (oy_mt_sp f3), (F2.sp f3).1, (f3 10 0 46 0 rfl).trans (w2.trans rfl), fun v hv => Sum.inr.inj hv⟩
end OYH6
