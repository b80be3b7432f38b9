/-! ===== the call shift; entries that stay; where an entry is ===== -/
theorem sp_sc_lt (w : List Int) : ∀ f s i, s ≤ i → i < sp_sc w f s → oy_wk w i = 42
  | 0, s, i, h1, h2 => by
    have e : sp_sc w 0 s = s := rfl
    omega
  | f + 1, s, i, h1, h2 => by
    rw [sp_sc] at h2
    by_cases q : oy_wk w s = 42
    · rw [if_pos q] at h2
      by_cases z : i = s
      · rw [z]; exact q
      · exact sp_sc_lt w f (s + 1) i (by omega) h2
    · rw [if_neg q] at h2
      omega
theorem sp_sc_eq (w : List Int) : ∀ f s c, s ≤ c → c < s + f → (∀ i, s ≤ i → i < c → oy_wk w i = 42) → oy_wk w c ≠ 42 → sp_sc w f s = c
  | 0, s, c, h1, h2, h3, h4 => by omega
  | f + 1, s, c, h1, h2, h3, h4 => by
    rw [sp_sc]
    by_cases q : c = s
    · rw [← q, if_neg h4]
    · rw [if_pos (h3 s (Nat.le_refl _) (by omega))]
      exact sp_sc_eq w f (s + 1) c (by omega) (by omega) (fun i h5 h6 => h3 i (by omega) h6) h4
theorem sp_stars_lt {w : List Int} {i : Nat} (h : i < sp_stars w) : oy_wk w i = 42 := sp_sc_lt w 30 0 i (Nat.zero_le _) h
theorem sp_stars_eq {w : List Int} {c : Nat} (h : c < 30) (h1 : ∀ i, i < c → oy_wk w i = 42) (h2 : oy_wk w c ≠ 42) : sp_stars w = c := sp_sc_eq w 30 0 c (Nat.zero_le _) (by omega) (fun i _ hi => h1 i hi) h2
theorem sp_sb_H {b : Int} {w : List Int} (hH : sp_isH w) (h1 : 1 ≤ (sp_stars w : Int) + b) (h5 : (sp_stars w : Int) + b ≤ 5) : sp_isH (sp_sb b w) ∧ (sp_stars (sp_sb b w) : Int) = (sp_stars w : Int) + b := by
  have hl := sp_H_len hH
  obtain ⟨s, hs⟩ : ∃ s : Nat, (s : Int) = (sp_stars w : Int) + b := ⟨((sp_stars w : Int) + b).toNat, by omega⟩
  have hat : oy_wk (sp_sb b w) s = 32 := by
    have e : ((s : Int) - b).toNat = sp_stars w := by omega
    rw [sp_sb_wk (by omega), if_neg (by omega), e]
    exact hH.2.2
  have e := sp_stars_eq (w := sp_sb b w) (c := s) (by omega) (fun i hi => by
    rw [sp_sb_wk (by omega)]
    by_cases q : (i : Int) < b
    · rw [if_pos q]
    · rw [if_neg q]
      exact sp_stars_lt (by omega)) (by rw [hat]; decide)
  exact ⟨⟨by omega, by omega, by rw [e]; exact hat⟩, by rw [e]; exact hs⟩
/-- the same entries -/
def oy_se (T T' : oy_T) : Prop := T'.length = T.length ∧ ∀ l, l < T.length → (sp_isH (oy_ln T' l) ↔ sp_isH (oy_ln T l))
theorem oy_se_esn {T T' : oy_T} (h : oy_se T T') : ∀ l, l ≤ T.length → sp_esn T' l = sp_esn T l
  | 0, _ => rfl
  | l + 1, hl => by
    have h1 := h.2 l (by omega)
    rw [sp_esn, sp_esn, oy_se_esn h l (by omega)]
    by_cases q : sp_isH (oy_ln T l)
    · rw [if_pos q, if_pos (h1.mpr q)]
    · rw [if_neg q, if_neg (fun z => q (h1.mp z))]
theorem oy_se_n {T T' : oy_T} (h : oy_se T T') : sp_n T' = sp_n T ∧ ∀ e, sp_en T' e = sp_en T e := by
  have e1 : sp_es T' = sp_es T := by
    unfold sp_es
    rw [h.1]
    exact oy_se_esn h _ (Nat.le_refl _)
  refine ⟨by unfold sp_n; rw [e1], fun e => ?_⟩
  unfold sp_en
  rw [e1, h.1]
theorem oy_se_F {T T' : oy_T} {σ σ' : ox_H} (h : oy_se T T') (hM : oy_M T' σ') (h21 : ∀ x, σ' 10 0 21 x = σ 10 0 21 x) (h22 : σ' 10 0 22 0 = σ 10 0 22 0) (hF : oy_F T σ) : oy_F T' σ' := by
  obtain ⟨h1, h2⟩ := oy_se_n h
  refine ⟨hM, by rw [h22, h1]; exact hF.2.1, fun e he => ?_⟩
  rw [h21, h2]
  exact hF.2.2 e (by omega)
/-- what edits of the reference's text write, the archive's aside -/
def oy_mt (c j : Nat) : Bool := c == 10 && decide (j ≤ 5 ∨ (11 ≤ j ∧ j ≤ 22) ∨ j = 46)
theorem oy_mt_w {S : Nat → Nat → Bool} {P : Nat → Prop} [∀ j, Decidable (P j)] (hS : ∀ c j, S c j = (c == 10 && decide (P j))) (hP : ∀ j, P j → (j ≤ 5 ∨ (11 ≤ j ∧ j ≤ 22) ∨ j = 46)) {σ σ' : ox_H} (h : oy_fr S σ σ') : oy_fr oy_mt σ σ' := h.mono (fun c j q => by
  rw [hS, Bool.and_eq_true, decide_eq_true_eq] at q
  unfold oy_mt
  rw [Bool.and_eq_true, decide_eq_true_eq]
  exact ⟨q.1, hP j q.2⟩)
theorem oy_mt_sp {σ σ' : ox_H} (h : oy_fr oy_sp σ σ') : oy_fr oy_mt σ σ' := oy_mt_w (P := fun j => 11 ≤ j ∧ j ≤ 20) (fun c j => by unfold oy_sp; rw [← Bool.decide_and]) (fun j h => by omega) h
theorem oy_mt_sq {σ σ' : ox_H} (h : oy_fr oy_sq σ σ') : oy_fr oy_mt σ σ' := oy_mt_w (P := fun j => 11 ≤ j ∧ j ≤ 22) (fun c j => by unfold oy_sq; rw [← Bool.decide_and]) (fun j h => by omega) h
theorem oy_mt_m1 {σ σ' : ox_H} (h : oy_fr oy_mx1 σ σ') : oy_fr oy_mt σ σ' := oy_mt_w (P := fun j => j ≤ 1) (fun c j => rfl) (fun j h => by omega) h
theorem oy_mt_m2 {σ σ' : ox_H} (h : oy_fr oy_m2 σ σ') : oy_fr oy_mt σ σ' := oy_mt_w (P := fun j => j ≤ 2) (fun c j => rfl) (fun j h => by omega) h
theorem oy_mt_up {σ σ1 : ox_H} {j i : Nat} {v : Int} (h : oy_fr oy_mt σ σ1) (hj : j ≤ 5 ∨ (11 ≤ j ∧ j ≤ 22) ∨ j = 46) : oy_fr oy_mt σ (ox_up σ1 10 0 j i v) := h.up (by unfold oy_mt; rw [decide_eq_true hj]; rfl)
theorem oy_mt_m3 {σ σ' : ox_H} (h : oy_fr oy_m3 σ σ') : oy_fr oy_mt σ σ' := h.mono (fun c j q => by
  unfold oy_m3 at q
  rw [Bool.or_eq_true] at q
  unfold oy_mx1 oy_sp at q
  unfold oy_mt
  rcases q with q | q
  · rw [Bool.and_eq_true, decide_eq_true_eq] at q
    rw [Bool.and_eq_true, decide_eq_true_eq]
    exact ⟨q.1, by omega⟩
  · rw [Bool.and_eq_true, Bool.and_eq_true, decide_eq_true_eq, decide_eq_true_eq] at q
    rw [Bool.and_eq_true, decide_eq_true_eq]
    exact ⟨q.1, by omega⟩)
def sp_b (m : Int) : Int := if m = 0 then -1 else 1
def sp_shift (T : oy_T) (a m : Int) : (Nat ⊕ Int) × oy_T := if 0 ≤ a ∧ a < sp_n T then (if sp_okS T a.toNat (sp_b m) = true then (.inr ((sp_lv T a.toNat : Int) + sp_b m), sp_gs T T 0 a.toNat (sp_la T a.toNat) (sp_b m)) else (.inl 3, T)) else (.inl 1, T)
theorem sp_gs_se {T : oy_T} {e i : Nat} {b : Int} (he : e < sp_n T) (hei : e ≤ i) (hi : i ≤ sp_la T e) (hok : sp_okS T e b = true) : oy_se T (sp_gs T T 0 e i b) := by
  refine ⟨sp_gs_len, fun l hl => ?_⟩
  have hla := sp_la_in he
  rw [sp_gs_ln hl, Nat.add_zero]
  by_cases q : sp_en T e ≤ l ∧ l < sp_en T i ∧ sp_isH (oy_ln T l)
  · rw [if_pos q]
    obtain ⟨j, hj1, hj2⟩ := sp_en_of hl q.2.2
    have hj3 : e ≤ j := by
      by_cases z : e ≤ j
      · exact z
      · have := sp_en_lt3 (T := T) (i := j) (j := e) (by omega) (by omega)
        omega
    have hj4 : j < i := by
      by_cases z : j < i
      · exact z
      · have := sp_en_le3 (T := T) (i := i) (j := j) (by omega) (by omega)
        omega
    have hj5 := sp_okS_all he hok hj3 (by omega)
    have e9 : sp_lv T j = sp_stars (oy_ln T l) := by unfold sp_lv sp_eln; rw [hj2]
    rw [e9] at hj5
    exact ⟨fun _ => q.2.2, fun h => (sp_sb_H h (by omega) (by omega)).1⟩
  · rw [if_neg q]
theorem sp_gs_at {T : oy_T} {e i x : Nat} {b : Int} (hex : e ≤ x) (hxi : x < i) (hi : i ≤ sp_n T) : oy_ln (sp_gs T T 0 e i b) (sp_en T x) = sp_sb b (sp_eln T x) := by
  have h1 := sp_en_le3 (T := T) hex (by omega)
  have h2 := sp_en_lt3 (T := T) hxi hi
  have h3 := sp_en_lt (T := T) (e := x) (by omega)
  rw [sp_gs_ln h3.1, Nat.add_zero, if_pos ⟨h1, h2, h3.2⟩]
  rfl
theorem sp_gs_ok2 {T : oy_T} {e i : Nat} {b : Int} (hT : oy_ok T) (he : e < sp_n T) (hok : sp_okS T e b = true) (hei : e ≤ i) (hi : i ≤ sp_la T e) : oy_ok (sp_gs T T 0 e i b) := oy_okL_mk (k := 0) hT.1 (fun l hl => by
  have hla := sp_la_in he
  by_cases z : sp_en T e ≤ l + 0 ∧ l + 0 < sp_en T i ∧ sp_isH (oy_ln T (l + 0))
  · rw [if_pos z]
    refine sp_sb_good (oy_good_ln (oy_ok_L hT) l) ?_
    obtain ⟨j, hj1, hj2⟩ := sp_en_of (T := T) (x := l) hl z.2.2
    have hj3 : e ≤ j := by
      by_cases y : e ≤ j
      · exact y
      · have := sp_en_lt3 (T := T) (i := j) (j := e) (by omega) (by omega)
        omega
    have hj4 : j < i := by
      by_cases y : j < i
      · exact y
      · have := sp_en_le3 (T := T) (i := i) (j := j) (by omega) (by omega)
        omega
    have hj5 := sp_okS_all he hok hj3 (by omega)
    have e9 : sp_eln T j = oy_ln T l := by unfold sp_eln; rw [hj2]
    rw [e9] at hj5
    exact hj5.2.2
  · rw [if_neg z]
    exact oy_good_ln (oy_ok_L hT) l)
theorem sp_gs_ok {T : oy_T} {e : Nat} {b : Int} (hT : oy_ok T) (he : e < sp_n T) (hok : sp_okS T e b = true) : oy_ok (sp_gs T T 0 e (sp_la T e) b) := sp_gs_ok2 hT he hok (Nat.le_of_lt (sp_la_in he).1) (Nat.le_refl _)
section OYG3
variable {T : oy_T} {σ : ox_H}
theorem oc_shift (hT : oy_ok T) (h : oy_cs T σ) (hv : σ 1 0 5 0 ≤ 1000000000) {a m : Int} : ∃ σ1, F_Out_shift a m σ = some ((sp_shift T a m).1, σ1) ∧ oy_st 400 T (sp_shift T a m).2 σ σ1 := by
  have h60 := hT.1
  have hn := sp_n_le (T := T)
  obtain ⟨σ1, e1, s1, q1⟩ := oy_cs_ask hT h
  have hv1 : σ1 1 0 5 0 ≤ 1000000000 := by
    obtain ⟨-, -, d, hd, hd2, -⟩ := s1
    omega
  unfold F_Out_shift sp_shift
  rw [e1, Option.bind_some, oc_checkEntry q1, Option.bind_some]
  by_cases q : 0 ≤ a ∧ a < sp_n T
  rotate_left
  · rw [if_neg q, if_neg q]
    exact ⟨σ1, rfl, s1.mono (by omega)⟩
  rw [if_pos q, if_pos q]
  obtain ⟨e, rfl⟩ : ∃ l : Nat, a = l := ⟨a.toNat, by omega⟩
  have he : e < sp_n T := by omega
  have hla := sp_la_in he
  have hle := sp_en_le (T := T) (sp_la T e)
  rw [Int.toNat_natCast]
  have key : ∀ b : Int, -1 ≤ b → b ≤ 1 → ∃ σ', J_Out_shift_21 (e : Int) b σ1 = some ((if sp_okS T e b = true then ((.inr ((sp_lv T e : Int) + b), sp_gs T T 0 e (sp_la T e) b) : (Nat ⊕ Int) × oy_T) else (.inl 3, T)).1, σ') ∧ oy_st 400 T (if sp_okS T e b = true then ((.inr ((sp_lv T e : Int) + b), sp_gs T T 0 e (sp_la T e) b) : (Nat ⊕ Int) × oy_T) else (.inl 3, T)).2 σ σ' := by
    intro b hb1 hb2
    unfold J_Out_shift_21
    rw [oc_checkStars hT q1 he (by omega), Option.bind_some]
    by_cases hok : sp_okS T e b = true
    rotate_left
    · rw [if_neg hok, if_neg hok]
      exact ⟨σ1, rfl, s1.mono (by omega)⟩
    rw [if_pos hok, if_pos hok]
    obtain ⟨σ2, e2, d2⟩ := oc_giveStars (k := 0) (h := 0) (T0 := T) hT q1 he (b := b) (by omega) hok rfl (oy_ok_L hT) q1.2.1 q1.2.2.1 q1.Or (oc_below hT q1 he) (Nat.zero_le _) (by omega) (fun i _ _ => rfl)
    have e2' : F_Out_giveStars (e : Int) b 0 0 σ1 = some σ2 := e2
    have s2 := oy_cs_ed s1.2.1 hv1 (by omega) d2
    have hT2 : oy_ok (sp_gs T T 0 e (sp_la T e) b) := sp_gs_ok hT he hok
    obtain ⟨σ3, e3, s3, q3⟩ := oy_cs_ask hT2 s2.2.1
    have hse := sp_gs_se he (Nat.le_of_lt hla.1) (Nat.le_refl _) hok
    obtain ⟨n1, n2⟩ := oy_se_n hse
    have hx := sp_okS_all he hok (Nat.le_refl _) hla.1
    have hlv : ((sp_lv (sp_gs T T 0 e (sp_la T e) b) e : Nat) : Int) = (sp_lv T e : Int) + b := by
      have h9 : sp_eln (sp_gs T T 0 e (sp_la T e) b) e = sp_sb b (sp_eln T e) := by
        unfold sp_eln
        rw [n2]
        exact sp_gs_at (Nat.le_refl _) hla.1 hla.2
      unfold sp_lv at hx ⊢
      rw [h9]
      exact (sp_sb_H (sp_en_lt he).2 hx.1 hx.2.1).2
    dsimp only
    rw [e2', Option.bind_some, e3, Option.bind_some, oc_elv hT2 q3 (by omega), Option.bind_some, hlv]
    exact ⟨σ3, rfl, ((s1.tr s2).tr s3).mono (by omega)⟩
  dsimp only
  by_cases hm : m = 0
  · have hb : sp_b m = -1 := by unfold sp_b; rw [if_pos hm]
    rw [if_pos hm, hb]
    exact key (-1) (by decide) (by decide)
  · have hb : sp_b m = 1 := by unfold sp_b; rw [if_neg hm]
    rw [if_neg hm, hb]
    exact key 1 (by decide) (by decide)
theorem om_shift (hT : oy_ok T) (hM : oy_M T σ) {a m : Int} : oy_rm oy_mt (sp_shift T a m).2 1 3 0 (sp_shift T a m).1 (F_Mod_shift a m σ) σ := by
  have h60 := hT.1
  have hn := sp_n_le (T := T)
  obtain ⟨σ1, e1, f1, F1⟩ := om_isEntry hT hM (a := a)
  have g1 := oy_mt_sq f1
  unfold F_Mod_shift sp_shift
  rw [e1, Option.bind_some]
  by_cases q : 0 ≤ a ∧ a < sp_n T
  rotate_left
  · rw [if_neg q, if_neg q, if_pos rfl]
    unfold J_Mod_shift_22 J_Mod_shift_33 J_Mod_shift_35
    dsimp only
    rw [if_pos rfl]
    have hB : ox_lp (B_Mod_shift_35 a m 0 0) ox_fu ((0 : Int), (0 : Int), σ1) = J_Mod_shift_103 a m 0 0 0 σ1 := by
      refine oy_lp_m (n := 99999) ?_
      unfold B_Mod_shift_35
      dsimp only
      rw [if_pos (Int.le_refl _)]
    rw [hB]
    unfold J_Mod_shift_103 J_Mod_shift_122
    rw [if_pos rfl, om_holds, if_neg (by decide), Option.bind_some, if_neg oy_10]
    exact ⟨_, _, rfl, oy_mt_up g1 (Or.inr (Or.inr rfl)), oy_M46 F1.1, (by show ox_up σ1 10 0 46 0 1 10 0 46 0 = 1; exact oy_up_same), fun v hv => by cases hv⟩
  rw [if_pos q, if_pos q, if_neg oy_10]
  obtain ⟨e, rfl⟩ : ∃ l : Nat, a = l := ⟨a.toNat, by omega⟩
  have he : e < sp_n T := by omega
  have hla := sp_la_in he
  have hle := sp_en_le (T := T) (sp_la T e)
  rw [Int.toNat_natCast]
  obtain ⟨σ2, e2, f2⟩ := om_last hT F1 he
  dsimp only
  rw [e2, Option.bind_some]
  have F2 := F1.sp f2
  have g2 := g1.tr (oy_mt_sp f2)
  unfold J_Mod_shift_22 J_Mod_shift_33 J_Mod_shift_35
  dsimp only
  rw [if_neg oy_10]
  have hb1 : -1 ≤ sp_b m ∧ sp_b m ≤ 1 ∧ sp_b m ≠ 0 := by unfold sp_b; split <;> omega
  have ev : ((sp_lv T e : Int) + sp_b m) = (sp_lv T e : Int) + sp_b m := rfl
  /- behind the look at the headings -/
  have fin : ∀ (v : Int) (τ : ox_H), ((v = 0 ∧ ∀ x, e ≤ x → x < sp_la T e → sp_bad T (sp_b m) x = false) ∨ (v = 1 ∧ ∃ x, e ≤ x ∧ x < sp_la T e ∧ sp_bad T (sp_b m) x = true)) → oy_F T τ → oy_fr oy_mt σ τ → ∃ b : Int × ox_H, J_Mod_shift_103 (e : Int) m 1 v (sp_la T e : Int) τ = some b ∧ oy_rm oy_mt (if sp_okS T e (sp_b m) = true then ((.inr ((sp_lv T e : Int) + sp_b m), sp_gs T T 0 e (sp_la T e) (sp_b m)) : (Nat ⊕ Int) × oy_T) else (.inl 3, T)).2 1 3 0 (if sp_okS T e (sp_b m) = true then ((.inr ((sp_lv T e : Int) + sp_b m), sp_gs T T 0 e (sp_la T e) (sp_b m)) : (Nat ⊕ Int) × oy_T) else (.inl 3, T)).1 (some b) σ := by
    intro v τ hv F9 g9
    unfold J_Mod_shift_103 J_Mod_shift_122
    rw [if_neg oy_10]
    rcases hv with ⟨rfl, hv⟩ | ⟨rfl, x, hx1, hx2, hx3⟩
    rotate_left
    · have hok : ¬ sp_okS T e (sp_b m) = true := fun h => by
        have h2 := sp_okS_all he h hx1 hx2
        have h3 := of_decide_eq_true hx3
        omega
      rw [if_neg oy_10, om_holds, if_neg (by decide), Option.bind_some, if_neg oy_10, if_neg hok]
      exact ⟨_, rfl, _, _, rfl, oy_mt_up g9 (Or.inr (Or.inr rfl)), oy_M46 F9.1, (by show ox_up τ 10 0 46 0 2 10 0 46 0 = 2; exact oy_up_same), fun v hv => by cases hv⟩
    have hok : sp_okS T e (sp_b m) = true := by
      have h2 : sp_fi (sp_bad T (sp_b m)) (sp_la T e - e) e = e + (sp_la T e - e) := sp_fi_all _ |>.mpr (fun k h1 h2 => hv k h1 (by omega))
      exact decide_eq_true (by omega)
    rw [if_pos rfl, om_holds, if_pos (Int.le_refl _), Option.bind_some, if_pos rfl, if_pos hok]
    dsimp only
    have M0 := oy_M46 (v := 0) F9.1
    have F0 : oy_F T (ox_up τ 10 0 46 0 0) := F9.fr (S := fun c j => c == 10 && j == 46) (oy_fr.rf.up rfl) rfl rfl rfl rfl rfl
    have g0 : oy_fr oy_mt σ (ox_up τ 10 0 46 0 0) := oy_mt_up g9 (Or.inr (Or.inr rfl))
    have w0 : (ox_up τ 10 0 46 0 0) 10 0 46 0 = 0 := oy_up_same
    generalize ox_up τ 10 0 46 0 0 = τ0 at M0 F0 g0 w0 ⊢
    have hloop : ∀ (f k n : Nat) (ρ : ox_H), k + f = sp_la T e → e ≤ k → f < n → oy_M (sp_gs T T 0 e k (sp_b m)) ρ → oy_fr oy_mx1 τ0 ρ → ∃ r : Int × ox_H, ox_lp (B_Mod_shift_133 (e : Int) m (sp_la T e : Int)) n ((k : Int), ρ) = some r ∧ oy_fr oy_m3 τ0 r.2 ∧ oy_M (sp_gs T T 0 e (sp_la T e) (sp_b m)) r.2 ∧ r.1 = (sp_lv T e : Int) + sp_b m := by
      intro f
      induction f with
      | zero =>
        intro k n ρ h1 h2 h3 h4 h5
        obtain ⟨n, rfl⟩ : ∃ j, n = j + 1 := ⟨n - 1, by omega⟩
        obtain rfl : k = sp_la T e := by omega
        have hse := sp_gs_se he (Nat.le_of_lt hla.1) (Nat.le_refl _) hok
        obtain ⟨n1, n2⟩ := oy_se_n hse
        have hT2 : oy_ok (sp_gs T T 0 e (sp_la T e) (sp_b m)) := sp_gs_ok hT he hok
        have F5 := oy_se_F hse h4 (fun x => h5 10 0 21 x rfl) (h5 10 0 22 0 rfl) F0
        obtain ⟨ρ1, t1, t2⟩ := om_level hT2 F5 (e := e) (by omega)
        have hx := sp_okS_all he hok (Nat.le_refl _) hla.1
        have hlv : ((sp_lv (sp_gs T T 0 e (sp_la T e) (sp_b m)) e : Nat) : Int) = (sp_lv T e : Int) + sp_b m := by
          have h9 : sp_eln (sp_gs T T 0 e (sp_la T e) (sp_b m)) e = sp_sb (sp_b m) (sp_eln T e) := by
            unfold sp_eln
            rw [n2]
            exact sp_gs_at (Nat.le_refl _) hla.1 hla.2
          unfold sp_lv at hx ⊢
          rw [h9]
          exact (sp_sb_H (sp_en_lt he).2 hx.1 hx.2.1).2
        refine ⟨((sp_lv (sp_gs T T 0 e (sp_la T e) (sp_b m)) e : Int), ρ1), oy_lp_m ?_, (h5.mono (fun c j h => oy_mx1_3 h)).tr (t2.mono (fun c j h => oy_sp_3 h)), h4.fr t2 rfl rfl rfl, hlv⟩
        unfold B_Mod_shift_133 J_Mod_shift_166
        dsimp only
        rw [if_pos (Int.le_refl _), t1, Option.bind_some]
      | succ f ih =>
        intro k n ρ h1 h2 h3 h4 h5
        obtain ⟨n, rfl⟩ : ∃ j, n = j + 1 := ⟨n - 1, by omega⟩
        have hen := sp_en_lt (T := T) (e := k) (by omega)
        have hx := sp_okS_all he hok h2 (by omega)
        have hHl := sp_H_len hen.2
        have hlv : sp_lv T k = sp_stars (sp_eln T k) := rfl
        have hat : oy_ln (sp_gs T T 0 e k (sp_b m)) (sp_en T k) = sp_eln T k := by
          rw [sp_gs_ln hen.1, if_neg (by omega)]
          rfl
        obtain ⟨ρ1, t1, t2, t3⟩ := om_star (l := sp_en T k) (b := sp_b m) (sp_gs_ok2 hT he hok h2 (by omega)) h4 (by rw [sp_gs_len]; exact hen.1) (by rw [hat]; omega) (by rw [hat]; omega)
        have e21 : ρ 10 0 21 k = (sp_en T k : Int) := (h5 10 0 21 k rfl).trans (F0.2.2 k (by omega))
        have hB : B_Mod_shift_133 (e : Int) m (sp_la T e : Int) ((k : Int), ρ) = some (.inl (((k + 1 : Nat) : Int), ρ1)) := by
          unfold B_Mod_shift_133 J_Mod_shift_157
          dsimp only
          rw [if_neg (by omega), if_pos (show 0 ≤ (k : Int) ∧ (k : Int).toNat < 61 by omega), Int.toNat_natCast, e21]
          by_cases hm : m = 0
          · have hb : sp_b m = -1 := by unfold sp_b; rw [if_pos hm]
            rw [hb] at t1
            rw [if_pos hm, t1, Option.bind_some, oy_w1 (by omega)]
          · have hb : sp_b m = 1 := by unfold sp_b; rw [if_neg hm]
            rw [hb] at t1
            rw [if_neg hm, t1, Option.bind_some, oy_w1 (by omega)]
        rw [oy_lp_l hB]
        refine ih (k + 1) n ρ1 (by omega) (by omega) (by omega) ?_ (h5.tr t2)
        rw [hat] at t3
        have h9 := sp_gs_1 (T := T) (T0 := T) (h := 0) (b := sp_b m) h2 (by omega) (Nat.zero_le _) (by omega)
        rw [Nat.sub_zero] at h9
        rw [← h9]
        exact t3
    unfold J_Mod_shift_133
    obtain ⟨r, r1, r2, r3, r4⟩ := hloop (sp_la T e - e) e ox_fu τ0 (by omega) (Nat.le_refl _) (by show _ < 100000; omega) (by rw [sp_gs_0]; exact M0) oy_fr.rf
    refine ⟨r, r1, r.2, r.1, rfl, g0.tr (oy_mt_m3 r2), r3, (r2 10 0 46 0 rfl).trans w0, fun v hv => ?_⟩
    rw [r4]
    exact Sum.inr.inj hv
  obtain ⟨r, hr, hQ⟩ := oy_lacM (B_Mod_shift_35 (e : Int) m 1 (sp_la T e : Int)) (fun τ => oy_F T τ ∧ oy_fr oy_mt σ τ) (fun k v => (v = 0 ∧ ∀ x, e ≤ x → x < k → sp_bad T (sp_b m) x = false) ∨ (v = 1 ∧ ∃ x, e ≤ x ∧ x < k ∧ sp_bad T (sp_b m) x = true)) (fun v k => ox_or v (if sp_bad T (sp_b m) k = true then 1 else 0)) (fun _ b => oy_rm oy_mt (if sp_okS T e (sp_b m) = true then ((.inr ((sp_lv T e : Int) + sp_b m), sp_gs T T 0 e (sp_la T e) (sp_b m)) : (Nat ⊕ Int) × oy_T) else (.inl 3, T)).2 1 3 0 (if sp_okS T e (sp_b m) = true then ((.inr ((sp_lv T e : Int) + sp_b m), sp_gs T T 0 e (sp_la T e) (sp_b m)) : (Nat ⊕ Int) × oy_T) else (.inl 3, T)).1 (some b) σ) e (sp_la T e) (fun k v τ hI hJ h1 h2 => by
      have hlv := sp_lv_in (T := T) (e := k) (by omega)
      have h24 := oy_len24 hT (sp_en T k)
      have hen := sp_en_lt (T := T) (e := k) (by omega)
      have e2 : oy_ln T (sp_en T k) = sp_eln T k := rfl
      rw [e2] at h24
      obtain ⟨τ1, t1, t2⟩ := om_level hT hI.1 (e := k) (by omega)
      have F3 := hI.1.sp t2
      have g3 := hI.2.tr (oy_mt_sp t2)
      have e21 : τ1 10 0 21 k = (sp_en T k : Int) := F3.2.2 k (by omega)
      have e1l : τ1 10 0 1 (sp_en T k) = ((sp_eln T k).length : Int) := F3.1.2.1 _ hen.1
      have ew : Nat → ox_w ((k : Int) + 1) = ((k + 1 : Nat) : Int) := fun _ => oy_w1 (by omega)
      have hJ1 : sp_bad T (sp_b m) k = true → ((ox_or v 1 = 0 ∧ ∀ x, e ≤ x → x < k + 1 → sp_bad T (sp_b m) x = false) ∨ (ox_or v 1 = 1 ∧ ∃ x, e ≤ x ∧ x < k + 1 ∧ sp_bad T (sp_b m) x = true)) := fun hb => by
        refine Or.inr ⟨?_, k, h1, by omega, hb⟩
        rcases hJ with ⟨rfl, -⟩ | ⟨rfl, -⟩ <;> decide
      have hJ0 : sp_bad T (sp_b m) k = false → ((ox_or v 0 = 0 ∧ ∀ x, e ≤ x → x < k + 1 → sp_bad T (sp_b m) x = false) ∨ (ox_or v 0 = 1 ∧ ∃ x, e ≤ x ∧ x < k + 1 ∧ sp_bad T (sp_b m) x = true)) := fun hb => by
        rcases hJ with ⟨rfl, hJ⟩ | ⟨rfl, x, hx1, hx2, hx3⟩
        · refine Or.inl ⟨by decide, fun x hx1 hx2 => ?_⟩
          by_cases z : x = k
          · rw [z]; exact hb
          · exact hJ x hx1 (by omega)
        · exact Or.inr ⟨by decide, x, hx1, by omega, hx3⟩
      have yes : sp_bad T (sp_b m) k = true → ∃ σ', (some (.inl (ox_or v 1, ((k + 1 : Nat) : Int), τ1)) : Option ((Int × Int × ox_H) ⊕ Int × ox_H)) = some (.inl (ox_or v (if sp_bad T (sp_b m) k = true then 1 else 0), ((k + 1 : Nat) : Int), σ')) ∧ (oy_F T σ' ∧ oy_fr oy_mt σ σ') ∧ ((ox_or v (if sp_bad T (sp_b m) k = true then 1 else 0) = 0 ∧ ∀ x, e ≤ x → x < k + 1 → sp_bad T (sp_b m) x = false) ∨ (ox_or v (if sp_bad T (sp_b m) k = true then 1 else 0) = 1 ∧ ∃ x, e ≤ x ∧ x < k + 1 ∧ sp_bad T (sp_b m) x = true)) := fun hb => by
        rw [if_pos hb]
        exact ⟨τ1, rfl, ⟨F3, g3⟩, hJ1 hb⟩
      have no : sp_bad T (sp_b m) k = false → ∃ σ', (some (.inl (ox_or v 0, ((k + 1 : Nat) : Int), τ1)) : Option ((Int × Int × ox_H) ⊕ Int × ox_H)) = some (.inl (ox_or v (if sp_bad T (sp_b m) k = true then 1 else 0), ((k + 1 : Nat) : Int), σ')) ∧ (oy_F T σ' ∧ oy_fr oy_mt σ σ') ∧ ((ox_or v (if sp_bad T (sp_b m) k = true then 1 else 0) = 0 ∧ ∀ x, e ≤ x → x < k + 1 → sp_bad T (sp_b m) x = false) ∨ (ox_or v (if sp_bad T (sp_b m) k = true then 1 else 0) = 1 ∧ ∃ x, e ≤ x ∧ x < k + 1 ∧ sp_bad T (sp_b m) x = true)) := fun hb => by
        rw [if_neg (by rw [hb]; decide)]
        exact ⟨τ1, rfl, ⟨F3, g3⟩, hJ0 hb⟩
      unfold B_Mod_shift_35
      dsimp only
      rw [if_neg (show ¬ (sp_la T e : Int) ≤ (k : Int) by omega)]
      by_cases hm : m = 0
      · have hb : sp_b m = -1 := by unfold sp_b; rw [if_pos hm]
        unfold J_Mod_shift_75
        rw [if_pos hm, if_pos hm, t1, Option.bind_some]
        unfold J_Mod_shift_89 J_Mod_shift_93 J_Mod_shift_94
        dsimp only
        rw [(ew 0)]
        by_cases z : (sp_lv T k : Int) = 1
        · rw [if_pos z]
          exact yes (decide_eq_true (by omega))
        · rw [if_neg z]
          exact no (decide_eq_false (by omega))
      · have hb : sp_b m = 1 := by unfold sp_b; rw [if_neg hm]
        rw [if_neg hm, t1, Option.bind_some]
        unfold J_Mod_shift_75 J_Mod_shift_89 J_Mod_shift_93 J_Mod_shift_94
        dsimp only
        rw [if_neg hm, if_pos (show 0 ≤ (k : Int) ∧ (k : Int).toNat < 61 by omega), Int.toNat_natCast, (ew 0), if_pos (show 0 ≤ τ1 10 0 21 k ∧ (τ1 10 0 21 k).toNat < 60 by rw [e21]; omega)]
        by_cases z : (sp_lv T k : Int) = 5
        · rw [if_pos z]
          exact yes (decide_eq_true (by omega))
        rw [if_neg z]
        by_cases z2 : ((sp_eln T k).length : Int) = 24
        · rw [if_pos (show τ1 10 0 1 (τ1 10 0 21 k).toNat = 24 by rw [e21, Int.toNat_natCast, e1l]; exact z2)]
          exact yes (decide_eq_true (by omega))
        · rw [if_neg (show ¬ τ1 10 0 1 (τ1 10 0 21 k).toNat = 24 by rw [e21, Int.toNat_natCast, e1l]; exact z2)]
          exact no (decide_eq_false (by omega))) (fun v τ hI hJ => by
      obtain ⟨b, b1, b2⟩ := fin v τ hJ hI.1 hI.2
      refine ⟨b, ?_, b2⟩
      unfold B_Mod_shift_35
      dsimp only
      rw [if_pos (Int.le_refl _), b1]
      rfl) (sp_la T e - e) ox_fu e 0 σ2 (by omega) (Nat.le_refl _) (by show _ < 100000; omega) ⟨F2, g2⟩ (Or.inl ⟨rfl, fun x h1 h2 => by omega⟩)
  have hr2 : ox_lp (B_Mod_shift_35 (e : Int) m 1 (sp_la T e : Int)) ox_fu ((0 : Int), (e : Int), σ2) = some r := hr
  rw [hr2]
  exact hQ
end OYG3
