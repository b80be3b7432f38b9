/-! ===== the call refile: the reference ===== -/
/-- headings' lines from a to l - 1 with other stars -/
def sp_hs (Y : oy_T) (a l : Nat) (b : Int) : oy_T := oy_mk Y.length (fun i => if a ≤ i ∧ i < l ∧ sp_isH (oy_ln Y i) then sp_sb b (oy_ln Y i) else oy_ln Y i)
theorem sp_hs_len {Y : oy_T} {a l : Nat} {b : Int} : (sp_hs Y a l b).length = Y.length := oy_mk_len
theorem sp_hs_ln {Y : oy_T} {a l i : Nat} {b : Int} (hi : i < Y.length) : oy_ln (sp_hs Y a l b) i = if a ≤ i ∧ i < l ∧ sp_isH (oy_ln Y i) then sp_sb b (oy_ln Y i) else oy_ln Y i := by
  unfold sp_hs
  rw [oy_mk_ln, if_pos hi]
theorem sp_hs_0 {Y : oy_T} {a : Nat} {b : Int} : sp_hs Y a a b = Y := by
  refine oy_extT sp_hs_len (fun i hi => ?_)
  rw [sp_hs_len] at hi
  rw [sp_hs_ln hi, if_neg (by omega)]
theorem sp_hs_y {Y : oy_T} {a l : Nat} {b : Int} (hal : a ≤ l) (hH : sp_isH (oy_ln Y l)) : sp_put (sp_hs Y a l b) l (sp_sb b (oy_ln Y l)) = sp_hs Y a (l + 1) b := by
  refine oy_extT (by rw [sp_put_len, sp_hs_len, sp_hs_len]) (fun i hi => ?_)
  rw [sp_put_len, sp_hs_len] at hi
  rw [sp_put_ln (by rw [sp_hs_len]; exact hi), sp_hs_ln hi, sp_hs_ln hi]
  by_cases q : i = l
  · rw [if_pos q, q, if_pos ⟨hal, by omega, hH⟩]
  · rw [if_neg q]
    by_cases z : a ≤ i ∧ i < l ∧ sp_isH (oy_ln Y i)
    · rw [if_pos z, if_pos ⟨z.1, by omega, z.2.2⟩]
    · rw [if_neg z, if_neg (fun y => z ⟨y.1, by omega, y.2.2⟩)]
theorem sp_hs_n {Y : oy_T} {a l : Nat} {b : Int} (hH : ¬ sp_isH (oy_ln Y l)) : sp_hs Y a l b = sp_hs Y a (l + 1) b := by
  refine oy_extT (by rw [sp_hs_len, sp_hs_len]) (fun i hi => ?_)
  rw [sp_hs_len] at hi
  rw [sp_hs_ln hi, sp_hs_ln hi]
  by_cases z : a ≤ i ∧ i < l ∧ sp_isH (oy_ln Y i)
  · rw [if_pos z, if_pos ⟨z.1, by omega, z.2.2⟩]
  · rw [if_neg z, if_neg (fun y => ?_)]
    by_cases q : i = l
    · exact hH (q ▸ y.2.2)
    · exact z ⟨y.1, by omega, y.2.2⟩
section OYG6
variable {T : oy_T} {σ : ox_H}
theorem om_starl {Y : oy_T} {a m : Nat} {b : Int} (hY : oy_ok Y) (hr : a + m ≤ Y.length) (hb : -5 ≤ b ∧ b ≤ 5) (hg : ∀ i, a ≤ i → i < a + m → sp_isH (oy_ln Y i) → 1 ≤ ((sp_stars (oy_ln Y i) : Nat) : Int) + b ∧ ((oy_ln Y i).length : Int) + b ≤ 24) : ∀ (f l n : Nat) (τ : ox_H), l + f = a + m → a ≤ l → f < n → oy_M (sp_hs Y a l b) τ → ∃ τ', ox_lp (B_Mod_refile_273 b (m : Int) (a : Int)) n ((l : Int), τ) = J_Mod_refile_306 (a : Int) τ' ∧ oy_fr oy_m3 τ τ' ∧ oy_M (sp_hs Y a (a + m) b) τ'
  | _, _, 0, _, _, _, h, _ => absurd h (Nat.not_lt_zero _)
  | 0, l, n + 1, τ, h1, h2, h3, h4 => by
    have h60 := hY.1
    obtain rfl : l = a + m := by omega
    refine ⟨τ, oy_lp_m ?_, oy_fr.rf, h4⟩
    unfold B_Mod_refile_273
    dsimp only
    rw [oy_wn (by omega), if_pos (Int.le_refl _)]
  | f + 1, l, n + 1, τ, h1, h2, h3, h4 => by
    have h60 := hY.1
    have hl : l < Y.length := by omega
    have hat : oy_ln (sp_hs Y a l b) l = oy_ln Y l := by rw [sp_hs_ln hl, if_neg (by omega)]
    have hok : oy_ok (sp_hs Y a l b) := oy_okL_mk (k := 0) h60 (fun i hi => by
      by_cases z : a ≤ i ∧ i < l ∧ sp_isH (oy_ln Y i)
      · rw [if_pos z]
        exact sp_sb_good (oy_24_ok hY i) (hg i z.1 (by omega) z.2.2).2
      · rw [if_neg z]
        exact oy_24_ok hY i)
    obtain ⟨τ1, t1, t2, t3⟩ := om_heading hok h4 (l := l) (by rw [sp_hs_len]; exact hl)
    rw [hat] at t1
    have M1 := h4.fr t2 rfl rfl rfl
    have ew : Nat → ox_w ((l : Int) + 1) = ((l + 1 : Nat) : Int) := fun _ => oy_w1 (by omega)
    by_cases q : sp_isH (oy_ln Y l)
    · have hx := hg l h2 (by omega) q
      have hsl := sp_H_len q
      obtain ⟨τ2, u1, u2, u3⟩ := om_star hok M1 (l := l) (b := b) (by rw [sp_hs_len]; exact hl) (by rw [hat]; omega) (by rw [hat]; exact hx.2)
      rw [hat, sp_hs_y h2 q] at u3
      have hB : B_Mod_refile_273 b (m : Int) (a : Int) ((l : Int), τ) = some (.inl (((l + 1 : Nat) : Int), τ2)) := by
        unfold B_Mod_refile_273 J_Mod_refile_300
        dsimp only
        rw [oy_wn (a := a) (b := m) (by omega), if_neg (by omega), t1, Option.bind_some, if_pos q]
        dsimp only
        rw [if_neg oy_10, u1, Option.bind_some, (ew 0)]
      obtain ⟨τ', v1, v2, v3⟩ := om_starl hY hr hb hg f (l + 1) n τ2 (by omega) (by omega) (by omega) u3
      exact ⟨τ', (oy_lp_l hB).trans v1, ((t2.mono (fun c j h => oy_sp_3 h)).tr (u2.mono (fun c j h => oy_mx1_3 h))).tr v2, v3⟩
    · have hB : B_Mod_refile_273 b (m : Int) (a : Int) ((l : Int), τ) = some (.inl (((l + 1 : Nat) : Int), τ1)) := by
        unfold B_Mod_refile_273 J_Mod_refile_300
        dsimp only
        rw [oy_wn (a := a) (b := m) (by omega), if_neg (by omega), t1, Option.bind_some, if_neg q]
        dsimp only
        rw [if_pos rfl, (ew 0)]
      rw [sp_hs_n q] at M1
      obtain ⟨τ', v1, v2, v3⟩ := om_starl hY hr hb hg f (l + 1) n τ1 (by omega) (by omega) (by omega) M1
      exact ⟨τ', (oy_lp_l hB).trans v1, (t2.mono (fun c j h => oy_sp_3 h)).tr v2, v3⟩
theorem sp_rf_hs {e t : Nat} {s : Int} : sp_hs (sp_pas (sp_rf1 T e s) (sp_rfa T e t s) (sp_sub T (sp_en T e) (sp_rfm T e))) (sp_rfa T e t s) (sp_rfa T e t s + sp_rfm T e) (sp_rfb T e t) = sp_rfT T e t s := by
  unfold sp_rfT
  refine oy_extT (by rw [sp_hs_len, sp_pas_len, sp_pas_len, sp_sub_len, sp_rfP_len]) (fun l hl => ?_)
  rw [sp_hs_len] at hl
  have hl2 := hl
  rw [sp_pas_len, sp_sub_len] at hl2
  rw [sp_hs_ln hl, sp_pas_ln (by rw [sp_sub_len]; exact hl2), sp_pas_ln (by rw [sp_rfP_len]; exact hl2), sp_sub_len, sp_rfP_len]
  by_cases q1 : l < sp_rfa T e t s
  · rw [if_neg (by omega), if_pos q1, if_pos q1]
  rw [if_neg q1, if_neg q1]
  by_cases q2 : l < sp_rfa T e t s + sp_rfm T e
  · rw [if_pos q2, if_pos q2, sp_sub_ln (by omega), sp_rfP_ln (by omega)]
    by_cases q3 : sp_isH (oy_ln T (sp_en T e + (l - sp_rfa T e t s)))
    · rw [if_pos ⟨by omega, q2, q3⟩, if_pos q3]
    · rw [if_neg (fun z => q3 z.2.2), if_neg q3]
  · rw [if_neg q2, if_neg q2, if_neg (fun z => q2 z.2.1)]
theorem om_refile (hT : oy_ok T) (hM : oy_M T σ) {a c s : Int} : oy_rm oy_mt (sp_refile T a c s).2 1 3 0 (sp_refile T a c s).1 (F_Mod_refile a c s σ) σ := by
  have h60 := hT.1
  have hn := sp_n_le (T := T)
  obtain ⟨σ1, e1, f1, F1⟩ := om_isEntry hT hM (a := a)
  have g1 := oy_mt_sq f1
  have bad1 : ∀ τ : ox_H, oy_M T τ → oy_fr oy_mt σ τ → oy_rm oy_mt T 1 3 0 (.inl 1) (J_Mod_refile_20 a c s τ) σ := by
    intro τ hτ gτ
    unfold J_Mod_refile_20 J_Mod_refile_21 J_Mod_refile_172 J_Mod_refile_192
    rw [if_pos rfl, if_pos rfl, om_holds, if_neg (by decide), Option.bind_some, if_neg oy_10]
    exact ⟨_, _, rfl, oy_mt_up gτ (Or.inr (Or.inr rfl)), oy_M46 hτ, (by show ox_up τ 10 0 46 0 1 10 0 46 0 = 1; exact oy_up_same), fun v hv => by cases hv⟩
  unfold F_Mod_refile sp_refile
  rw [e1, Option.bind_some]
  by_cases qa : 0 ≤ a ∧ a < sp_n T
  rotate_left
  · rw [if_neg qa, if_neg (show ¬ ((0 ≤ a ∧ a < sp_n T) ∧ (0 ≤ c ∧ c < sp_n T)) from fun z => qa z.1), if_pos rfl]
    exact bad1 σ1 F1.1 g1
  rw [if_pos qa, if_neg oy_10]
  obtain ⟨σ2, e2, f2, F2⟩ := om_isEntry hT F1.1 (a := c)
  have g2 := g1.tr (oy_mt_sq f2)
  dsimp only
  rw [e2, Option.bind_some]
  by_cases qc : 0 ≤ c ∧ c < sp_n T
  rotate_left
  · rw [if_neg qc, if_neg (show ¬ ((0 ≤ a ∧ a < sp_n T) ∧ (0 ≤ c ∧ c < sp_n T)) from fun z => qc z.2), if_pos rfl]
    exact bad1 σ2 F2.1 g2
  rw [if_pos qc, if_neg oy_10, if_pos (⟨qa, qc⟩ : (0 ≤ a ∧ a < sp_n T) ∧ (0 ≤ c ∧ c < sp_n T))]
  obtain ⟨e, rfl⟩ : ∃ l : Nat, a = l := ⟨a.toNat, by omega⟩
  obtain ⟨t, rfl⟩ : ∃ l : Nat, c = l := ⟨c.toNat, by omega⟩
  have he : e < sp_n T := by omega
  have ht : t < sp_n T := by omega
  have hla := sp_la_in he
  have hlt := sp_la_in ht
  have hle := sp_en_le (T := T) (sp_la T e)
  have hlte := sp_en_le (T := T) (sp_la T t)
  have hee := sp_en_lt3 (T := T) hla.1 hla.2
  have lv1 := sp_lv_in he
  have lv2 := sp_lv_in ht
  have hm : sp_rfm T e = sp_en T (sp_la T e) - sp_en T e := rfl
  have hbb : sp_rfb T e t = (sp_lv T t : Int) + 1 - sp_lv T e := rfl
  rw [Int.toNat_natCast, Int.toNat_natCast]
  generalize hR : (if sp_rfk T e t s = true then ((.inr ((sp_esn (sp_rfT T e t s) (sp_rfa T e t s)).length : Int), sp_rfT T e t s) : (Nat ⊕ Int) × oy_T) else (.inl 3, T)) = R
  /- barred -/
  have bad : ∀ (τ : ox_H) (b : Int), oy_F T τ → oy_fr oy_mt σ τ → ¬ sp_rfk T e t s = true → oy_rm oy_mt R.2 1 3 0 R.1 (J_Mod_refile_172 (e : Int) (t : Int) s 1 1 b τ) σ := by
    intro τ b hτ gτ hk
    rw [if_neg hk] at hR
    rw [← hR]
    unfold J_Mod_refile_172 J_Mod_refile_192
    rw [if_neg oy_10, if_neg oy_10, om_holds, if_neg (by decide), Option.bind_some, if_neg oy_10]
    exact ⟨_, _, rfl, oy_mt_up gτ (Or.inr (Or.inr rfl)), oy_M46 hτ.1, (by show ox_up τ 10 0 46 0 2 10 0 46 0 = 2; exact oy_up_same), fun v hv => by cases hv⟩
  have ewm : Nat → ox_w ((sp_en T (sp_la T e) : Int) - (sp_en T e : Int)) = ((sp_rfm T e : Nat) : Int) := fun _ => oy_wsb (by omega) (by omega)
  /- not barred -/
  have good : ∀ (τ : ox_H), oy_F T τ → oy_fr oy_mt σ τ → sp_rfk T e t s = true → oy_rm oy_mt R.2 1 3 0 R.1 (J_Mod_refile_172 (e : Int) (t : Int) s 1 0 (sp_rfb T e t) τ) σ := by
    intro τ hτ gτ hk
    rw [if_pos hk] at hR
    rw [← hR]
    have hk2 := hk
    unfold sp_rfk at hk2
    rw [Bool.and_eq_true, Bool.and_eq_true] at hk2
    have hok := hk2.2.1
    have hin : 1 ≤ sp_rfm T e ∧ sp_en T e + sp_rfm T e ≤ T.length ∧ sp_rfa T e t s ≤ (sp_rf1 T e s).length ∧ (sp_rf1 T e s).length + sp_rfm T e ≤ 60 := by
      rcases sp_rf_in he ht hk with z | z
      · exact z
      · omega
    unfold J_Mod_refile_172 J_Mod_refile_192
    rw [if_neg oy_10, if_pos rfl, om_holds, if_pos (Int.le_refl _), Option.bind_some, if_pos rfl]
    dsimp only
    have F0 : oy_F T (ox_up τ 10 0 46 0 0) := hτ.fr (S := fun c j => c == 10 && j == 46) (oy_fr.rf.up rfl) rfl rfl rfl rfl rfl
    have g0 : oy_fr oy_mt σ (ox_up τ 10 0 46 0 0) := oy_mt_up gτ (Or.inr (Or.inr rfl))
    have w0 : (ox_up τ 10 0 46 0 0) 10 0 46 0 = 0 := oy_up_same
    generalize ox_up τ 10 0 46 0 0 = τ0 at F0 g0 w0 ⊢
    have e21 : τ0 10 0 21 e = (sp_en T e : Int) := F0.2.2 e (by omega)
    obtain ⟨τ1, t1, u1⟩ := om_end hT F0 he
    obtain ⟨τ2, t2, u2⟩ := om_end hT (F0.sp u1) ht
    have F2 := (F0.sp u1).sp u2
    obtain ⟨τ3, t3, u3, r3, v3⟩ := om_lift hT F2.1 (a := sp_en T e) (m := sp_rfm T e) hin.2.1
    have M3 := F2.1.fr u3 rfl rfl rfl
    have g3 : oy_fr oy_mt σ τ3 := ((g0.tr (oy_mt_sp u1)).tr (oy_mt_sp u2)).tr (oy_mt_w (P := fun j => 3 ≤ j ∧ j ≤ 5) (fun c j => by rw [← Bool.decide_and]) (fun j h => by omega) u3)
    have w3 : τ3 10 0 46 0 = 0 := (u3 10 0 46 0 rfl).trans ((u2 10 0 46 0 rfl).trans ((u1 10 0 46 0 rfl).trans w0))
    rw [if_pos (show 0 ≤ (e : Int) ∧ (e : Int).toNat < 61 by omega), Int.toNat_natCast, t1, Option.bind_some]
    dsimp only
    rw [t2, Option.bind_some]
    simp only [e21]
    rw [(ewm 0)]
    rw [t3, Option.bind_some]
    /- behind the taking out -/
    have fin : ∀ ρ : ox_H, oy_M (sp_rf1 T e s) ρ → oy_fr oy_m2 τ3 ρ → oy_rm oy_mt (sp_rfT T e t s) 1 3 0 (.inr ((sp_esn (sp_rfT T e t s) (sp_rfa T e t s)).length : Int)) (J_Mod_refile_263 (sp_rfb T e t) ((sp_rfm T e : Nat) : Int) ((sp_rfa T e t s : Nat) : Int) ρ) σ := by
      intro ρ hρ uρ
      have hsub : (sp_sub T (sp_en T e) (sp_rfm T e)).length = sp_rfm T e := sp_sub_len
      obtain ⟨ρ1, x1, y1, z1⟩ := om_lay (P := sp_sub T (sp_en T e) (sp_rfm T e)) (a := sp_rfa T e t s) (sp_rf1_ok (e := e) (s := s) hT) hρ (r3.fr uρ rfl rfl) (oy_24_sub (oy_24_ok hT)) (by rw [uρ 10 0 5 0 rfl, v3, hsub]) hin.2.2.1 (by rw [hsub]; exact hin.1) (by rw [hsub]; exact hin.2.2.2)
      have hYok : oy_ok (sp_pas (sp_rf1 T e s) (sp_rfa T e t s) (sp_sub T (sp_en T e) (sp_rfm T e))) := sp_pas_ok (k := 0) (sp_rf1_ok hT) (fun l => oy_24_sub (oy_24_ok hT) l) (by rw [hsub]; exact hin.2.2.2)
      have hYlen : (sp_pas (sp_rf1 T e s) (sp_rfa T e t s) (sp_sub T (sp_en T e) (sp_rfm T e))).length = (sp_rf1 T e s).length + sp_rfm T e := by rw [sp_pas_len, hsub]
      have hYln : ∀ i, sp_rfa T e t s ≤ i → i < sp_rfa T e t s + sp_rfm T e → oy_ln (sp_pas (sp_rf1 T e s) (sp_rfa T e t s) (sp_sub T (sp_en T e) (sp_rfm T e))) i = oy_ln T (sp_en T e + (i - sp_rfa T e t s)) := fun i hi1 hi2 => by
        rw [sp_pas_ln (by rw [hsub]; omega), if_neg (by omega), hsub, if_pos hi2, sp_sub_ln (by omega)]
      obtain ⟨ρ2, x2, y2, z2⟩ := om_starl (a := sp_rfa T e t s) (m := sp_rfm T e) (b := sp_rfb T e t) hYok (by rw [hYlen]; omega) (by omega) (fun i hi1 hi2 hH => by
        rw [hYln i hi1 hi2] at hH ⊢
        obtain ⟨j, j1, j2, j3⟩ := sp_part_of he (by omega) (by omega) hH
        have h := sp_okS_all he hok j1 j2
        have e9 : sp_eln T j = oy_ln T (sp_en T e + (i - sp_rfa T e t s)) := by unfold sp_eln; rw [j3]
        have e8 : sp_lv T j = sp_stars (sp_eln T j) := rfl
        rw [e8, e9] at h
        exact ⟨h.1, h.2.2⟩) (sp_rfm T e) (sp_rfa T e t s) ox_fu ρ1 rfl (Nat.le_refl _) (by show _ < 100000; omega) (by rw [sp_hs_0]; exact z1)
      rw [sp_rf_hs] at z2
      obtain ⟨hl, hH⟩ := sp_rfT_H hT he ht hk
      obtain ⟨ρ3, x3, y3, z3⟩ := om_entryAt (sp_rfT_ok hT he ht hk) z2 hl hH
      unfold J_Mod_refile_263 J_Mod_refile_273
      rw [x1, Option.bind_some, x2]
      unfold J_Mod_refile_306
      rw [x3, Option.bind_some]
      refine ⟨ρ3, _, rfl, ?_, z3.1, ?_, fun v hv => Sum.inr.inj hv⟩
      · exact (((g3.tr (oy_mt_m2 uρ)).tr (oy_mt_m2 y1)).tr (oy_mt_m3 y2)).tr (oy_mt_sq y3)
      · rw [y3 10 0 46 0 rfl, y2 10 0 46 0 rfl, y1 10 0 46 0 rfl, uρ 10 0 46 0 rfl, w3]
        rfl
    by_cases hs : s = 0
    · obtain ⟨ρ, x1, y1, z1⟩ := om_close hT M3 (a := sp_en T e) (m := sp_rfm T e) hin.1 hin.2.1
      have er1 : sp_rf1 T e s = sp_del T (sp_en T e) (sp_rfm T e) := by unfold sp_rf1; rw [if_pos hs]
      rw [if_pos hs, x1, Option.bind_some]
      have f5 := fin ρ (by rw [er1]; exact z1) y1
      unfold J_Mod_refile_260
      by_cases z : (sp_en T (sp_la T t) : Int) ≤ (sp_en T e : Int)
      · have ea : sp_rfa T e t s = sp_en T (sp_la T t) := by unfold sp_rfa; rw [if_pos hs, if_pos (by omega)]
        have ew3 : Nat → ox_w ((sp_en T (sp_la T t) : Int) - 0) = ((sp_rfa T e t s : Nat) : Int) := fun _ => by rw [ea]; exact oy_wsb (b := 0) (Nat.zero_le _) (by omega)
        rw [if_pos z, (ew3 0)]
        exact f5
      · have ea : sp_rfa T e t s = sp_en T (sp_la T t) - sp_rfm T e := by unfold sp_rfa; rw [if_pos hs, if_neg (by omega)]
        have kin := of_decide_eq_true hk2.1
        have hge : sp_rfm T e ≤ sp_en T (sp_la T t) := by
          by_cases y : sp_la T e ≤ sp_la T t
          · have := sp_en_le3 (T := T) y hlt.2
            omega
          · exfalso
            have y1 : e < sp_la T t := by
              by_cases y2 : e < sp_la T t
              · exact y2
              · have := sp_en_le3 (T := T) (i := sp_la T t) (j := e) (by omega) (by omega)
                omega
            have := sp_la_nest (by omega) y1 he ht
            omega
        have ew3 : Nat → ox_w ((sp_en T (sp_la T t) : Int) - ((sp_rfm T e : Nat) : Int)) = ((sp_rfa T e t s : Nat) : Int) := fun _ => by rw [ea]; exact oy_wsb hge (by omega)
        rw [if_neg z, (ew3 0)]
        exact f5
    · have er1 : sp_rf1 T e s = T := by unfold sp_rf1; rw [if_neg hs]
      have ea : sp_rfa T e t s = sp_en T (sp_la T t) := by unfold sp_rfa; rw [if_neg hs]
      rw [if_neg hs, ← ea]
      exact fin τ3 (by rw [er1]; exact M3) oy_fr.rf
  /- behind the look at the headings -/
  have look : ∀ (v : Int) (τ : ox_H), oy_F T τ → oy_fr oy_mt σ τ → ((v = 0 ∧ ¬ (e ≤ t ∧ t < sp_la T e) ∧ sp_okS T e (sp_rfb T e t) = true) ∨ (v = 1 ∧ ¬ sp_rfk T e t s = true)) → oy_rm oy_mt R.2 1 3 0 R.1 (J_Mod_refile_136 (e : Int) (t : Int) s 1 v (sp_rfb T e t) τ) σ := by
    intro v τ hτ gτ hv
    unfold J_Mod_refile_136 J_Mod_refile_168 J_Mod_refile_169
    have hkeq : ∀ b : Bool, decide (s = 0 ∨ T.length + sp_rfm T e ≤ 60) = b → v = 0 → sp_rfk T e t s = b := by
      intro b hb hv0
      rcases hv with ⟨-, h1, h2⟩ | ⟨h1, -⟩
      · unfold sp_rfk
        rw [decide_eq_true h1, h2, hb]
        rfl
      · omega
    by_cases hs : s = 0
    · rw [if_pos hs]
      rcases hv with ⟨rfl, h1, h2⟩ | ⟨rfl, h1⟩
      · exact good τ hτ gτ (hkeq true (decide_eq_true (Or.inl hs)) rfl)
      · exact bad τ _ hτ gτ h1
    · obtain ⟨τ1, t1, u1⟩ := om_end hT hτ he
      have F1 := hτ.sp u1
      have g1 := gτ.tr (oy_mt_sp u1)
      have e21 : τ1 10 0 21 e = (sp_en T e : Int) := F1.2.2 e (by omega)
      rw [if_neg hs, t1, Option.bind_some, if_pos (show 0 ≤ (e : Int) ∧ (e : Int).toNat < 61 by omega), Int.toNat_natCast]
      dsimp only
      have ewr : Nat → ox_w (ox_w (τ 10 0 2 0 + (sp_en T (sp_la T e) : Int)) - τ1 10 0 21 e) = (T.length : Int) + ((sp_rfm T e : Nat) : Int) := fun _ => by
        rw [e21, hτ.1.1, oy_wn (by omega), oy_wsb (by omega) (by omega)]
        omega
      by_cases hr : T.length + sp_rfm T e ≤ 60
      · rw [if_pos (show ox_w (ox_w (τ 10 0 2 0 + (sp_en T (sp_la T e) : Int)) - τ1 10 0 21 e) ≤ 60 by rw [(ewr 0)]; omega)]
        rcases hv with ⟨rfl, h1, h2⟩ | ⟨rfl, h1⟩
        · exact good τ1 F1 g1 (hkeq true (decide_eq_true (Or.inr hr)) rfl)
        · exact bad τ1 _ F1 g1 h1
      · rw [if_neg (show ¬ ox_w (ox_w (τ 10 0 2 0 + (sp_en T (sp_la T e) : Int)) - τ1 10 0 21 e) ≤ 60 by rw [(ewr 0)]; omega)]
        rcases hv with ⟨rfl, h1, h2⟩ | ⟨rfl, h1⟩
        · have := hkeq false (decide_eq_false (by omega)) rfl
          exact bad τ1 _ F1 g1 (by rw [this]; decide)
        · exact bad τ1 _ F1 g1 h1
  /- the look at the headings -/
  have loop : ∀ (v0 : Int) (τ : ox_H), oy_F T τ → oy_fr oy_mt σ τ → ((v0 = 0 ∧ ¬ (e ≤ t ∧ t < sp_la T e)) ∨ (v0 = 1 ∧ ¬ sp_rfk T e t s = true)) → oy_rm oy_mt R.2 1 3 0 R.1 (J_Mod_refile_68 (e : Int) (t : Int) s 1 (sp_rfb T e t) v0 τ) σ := by
    intro v0 τ hτ gτ hv0
    obtain ⟨τ1, t1, u1⟩ := om_last hT hτ he
    have F1 := hτ.sp u1
    have g1 := gτ.tr (oy_mt_sp u1)
    unfold J_Mod_refile_68 J_Mod_refile_80
    rw [t1, Option.bind_some]
    dsimp only
    have hkbad : ∀ k, e ≤ k → k < sp_la T e → sp_bad T (sp_rfb T e t) k = true → ¬ sp_rfk T e t s = true := fun k h1 h2 h3 z => by
      unfold sp_rfk at z
      rw [Bool.and_eq_true, Bool.and_eq_true] at z
      have h4 := sp_okS_all he z.2.1 h1 h2
      have h5 := of_decide_eq_true h3
      omega
    obtain ⟨r, hr, hQ⟩ := oy_lacM (B_Mod_refile_80 (e : Int) (t : Int) s 1 (sp_rfb T e t) (sp_la T e : Int)) (fun τ => oy_F T τ ∧ oy_fr oy_mt σ τ) (fun k v => (v = 0 ∧ ¬ (e ≤ t ∧ t < sp_la T e) ∧ ∀ x, e ≤ x → x < k → sp_bad T (sp_rfb T e t) x = false) ∨ (v = 1 ∧ ¬ sp_rfk T e t s = true)) (fun v k => ox_or v (if sp_bad T (sp_rfb T e t) k = true then 1 else 0)) (fun _ b => oy_rm oy_mt R.2 1 3 0 R.1 (some b) σ) e (sp_la T e) (fun k v τ hI hJ h1 h2 => by
        have hlv := sp_lv_in (T := T) (e := k) (by omega)
        have hlk := sp_la_lv he h1 h2
        have h24 := oy_len24 hT (sp_en T k)
        have hen := sp_en_lt (T := T) (e := k) (by omega)
        have e2 : oy_ln T (sp_en T k) = sp_eln T k := rfl
        rw [e2] at h24
        obtain ⟨τ1, t1, t2⟩ := om_level hT hI.1 (e := k) (by omega)
        have F3 := hI.1.sp t2
        have g3 := hI.2.tr (oy_mt_sp t2)
        have e21 : τ1 10 0 21 k = (sp_en T k : Int) := F3.2.2 k (by omega)
        have e1l : τ1 10 0 1 (sp_en T k) = ((sp_eln T k).length : Int) := F3.1.2.1 _ hen.1
        have ew : Nat → ox_w ((k : Int) + 1) = ((k + 1 : Nat) : Int) := fun _ => oy_w1 (by omega)
        have ewl : Nat → ox_w ((sp_lv T k : Int) + sp_rfb T e t) = (sp_lv T k : Int) + sp_rfb T e t := fun _ => oy_w (by omega) (by omega)
        have ewn : Nat → ox_w (τ1 10 0 1 (τ1 10 0 21 k).toNat + sp_rfb T e t) = ((sp_eln T k).length : Int) + sp_rfb T e t := fun _ => by
          rw [e21, Int.toNat_natCast, e1l]
          exact oy_w (by omega) (by omega)
        have yes : sp_bad T (sp_rfb T e t) k = true → ∃ σ', (some (.inl (ox_or v 1, ((k + 1 : Nat) : Int), τ1)) : Option ((Int × Int × ox_H) ⊕ Int × ox_H)) = some (.inl (ox_or v (if sp_bad T (sp_rfb T e t) k = true then 1 else 0), ((k + 1 : Nat) : Int), σ')) ∧ (oy_F T σ' ∧ oy_fr oy_mt σ σ') ∧ ((ox_or v (if sp_bad T (sp_rfb T e t) k = true then 1 else 0) = 0 ∧ ¬ (e ≤ t ∧ t < sp_la T e) ∧ ∀ x, e ≤ x → x < k + 1 → sp_bad T (sp_rfb T e t) x = false) ∨ (ox_or v (if sp_bad T (sp_rfb T e t) k = true then 1 else 0) = 1 ∧ ¬ sp_rfk T e t s = true)) := fun hb => by
          rw [if_pos hb]
          refine ⟨τ1, rfl, ⟨F3, g3⟩, Or.inr ⟨?_, hkbad k h1 h2 hb⟩⟩
          rcases hJ with ⟨rfl, -⟩ | ⟨rfl, -⟩ <;> decide
        have no : sp_bad T (sp_rfb T e t) k = false → ∃ σ', (some (.inl (ox_or v 0, ((k + 1 : Nat) : Int), τ1)) : Option ((Int × Int × ox_H) ⊕ Int × ox_H)) = some (.inl (ox_or v (if sp_bad T (sp_rfb T e t) k = true then 1 else 0), ((k + 1 : Nat) : Int), σ')) ∧ (oy_F T σ' ∧ oy_fr oy_mt σ σ') ∧ ((ox_or v (if sp_bad T (sp_rfb T e t) k = true then 1 else 0) = 0 ∧ ¬ (e ≤ t ∧ t < sp_la T e) ∧ ∀ x, e ≤ x → x < k + 1 → sp_bad T (sp_rfb T e t) x = false) ∨ (ox_or v (if sp_bad T (sp_rfb T e t) k = true then 1 else 0) = 1 ∧ ¬ sp_rfk T e t s = true)) := fun hb => by
          rw [if_neg (by rw [hb]; decide)]
          refine ⟨τ1, rfl, ⟨F3, g3⟩, ?_⟩
          rcases hJ with ⟨rfl, hi, hJ⟩ | ⟨rfl, hJ⟩
          · refine Or.inl ⟨by decide, hi, fun x hx1 hx2 => ?_⟩
            by_cases z : x = k
            · rw [z]; exact hb
            · exact hJ x hx1 (by omega)
          · exact Or.inr ⟨by decide, hJ⟩
        unfold B_Mod_refile_80 J_Mod_refile_122 J_Mod_refile_127
        dsimp only
        rw [if_neg (show ¬ (sp_la T e : Int) ≤ (k : Int) by omega), t1, Option.bind_some]
        dsimp only
        rw [(ewl 0), (ew 0), if_pos (show 0 ≤ (k : Int) ∧ (k : Int).toNat < 61 by omega), Int.toNat_natCast, if_pos (show 0 ≤ τ1 10 0 21 k ∧ (τ1 10 0 21 k).toNat < 60 by rw [e21]; omega)]
        by_cases z : 5 < (sp_lv T k : Int) + sp_rfb T e t
        · rw [if_pos z]
          exact yes (decide_eq_true (by omega))
        rw [if_neg z]
        by_cases z2 : ((sp_eln T k).length : Int) + sp_rfb T e t ≤ 24
        · rw [if_pos (show ox_w (τ1 10 0 1 (τ1 10 0 21 k).toNat + sp_rfb T e t) ≤ 24 by rw [(ewn 0)]; exact z2)]
          exact no (decide_eq_false (by omega))
        · rw [if_neg (show ¬ ox_w (τ1 10 0 1 (τ1 10 0 21 k).toNat + sp_rfb T e t) ≤ 24 by rw [(ewn 0)]; exact z2)]
          exact yes (decide_eq_true (by omega))) (fun v τ hI hJ => by
        have hv : (v = 0 ∧ ¬ (e ≤ t ∧ t < sp_la T e) ∧ sp_okS T e (sp_rfb T e t) = true) ∨ (v = 1 ∧ ¬ sp_rfk T e t s = true) := by
          rcases hJ with ⟨h1, h2, h3⟩ | h
          · refine Or.inl ⟨h1, h2, ?_⟩
            have h4 : sp_fi (sp_bad T (sp_rfb T e t)) (sp_la T e - e) e = e + (sp_la T e - e) := sp_fi_all _ |>.mpr (fun k h1 h2 => h3 k h1 (by omega))
            exact decide_eq_true (by omega)
          · exact Or.inr h
        obtain ⟨σ2, y, b1, b2⟩ := look v τ hI.1 hI.2 hv
        refine ⟨(y, σ2), ?_, ⟨σ2, y, rfl, b2⟩⟩
        unfold B_Mod_refile_80
        dsimp only
        rw [if_pos (Int.le_refl _), b1]
        rfl) (sp_la T e - e) ox_fu e v0 τ1 (by omega) (Nat.le_refl _) (by show _ < 100000; omega) ⟨F1, g1⟩ (by
        rcases hv0 with ⟨h1, h2⟩ | h
        · exact Or.inl ⟨h1, h2, fun x h3 h4 => by omega⟩
        · exact Or.inr h)
    rw [hr]
    exact hQ
  obtain ⟨τ1, t1, u1⟩ := om_level hT F2 ht
  have F3 := F2.sp u1
  have g3 := g2.tr (oy_mt_sp u1)
  obtain ⟨τ2, t2, u2⟩ := om_level hT F3 he
  have F4 := F3.sp u2
  have g4 := g3.tr (oy_mt_sp u2)
  have ew1 : Nat → ox_w (ox_w ((sp_lv T t : Int) + 1) - (sp_lv T e : Int)) = sp_rfb T e t := fun _ => by
    rw [oy_w (x := (sp_lv T t : Int) + 1) (by omega) (by omega), oy_w (by omega) (by omega)]
    rfl
  unfold J_Mod_refile_21
  rw [if_neg oy_10, t1, Option.bind_some]
  dsimp only
  rw [t2, Option.bind_some]
  unfold J_Mod_refile_67
  dsimp only
  rw [(ew1 0)]
  by_cases z1 : t < e
  · rw [if_pos (show (t : Int) < (e : Int) by omega)]
    exact loop 0 τ2 F4 g4 (Or.inl ⟨rfl, by omega⟩)
  · obtain ⟨τ3, t3, u3⟩ := om_last hT F4 he
    have F5 := F4.sp u3
    have g5 := g4.tr (oy_mt_sp u3)
    rw [if_neg (show ¬ (t : Int) < (e : Int) by omega), t3, Option.bind_some]
    dsimp only
    by_cases z2 : sp_la T e ≤ t
    · rw [if_pos (show (sp_la T e : Int) ≤ (t : Int) by omega)]
      exact loop 0 τ3 F5 g5 (Or.inl ⟨rfl, by omega⟩)
    · have hk : ¬ sp_rfk T e t s = true := fun z => by
        unfold sp_rfk at z
        rw [Bool.and_eq_true] at z
        have := of_decide_eq_true z.1
        omega
      rw [if_neg (show ¬ (sp_la T e : Int) ≤ (t : Int) by omega)]
      exact loop 1 τ3 F5 g5 (Or.inr ⟨rfl, hk⟩)
end OYG6
