/-! ===== clocks ===== -/
theorem sp_kind_3 {w : List Int} : sp_kind w = 3 ↔ (sp_clock w).isSome = true := by
  constructor
  · intro h
    by_cases q : oy_wk w 0 = 37
    · rw [sp_kind_37 q] at h
      by_cases z : (sp_clock w).isSome = true
      · exact z
      · rw [if_neg z] at h
        exact absurd h (by decide)
    · exfalso
      unfold sp_kind at h
      by_cases c0 : sp_isH w
      · rw [if_pos c0] at h; exact absurd h (by decide)
      rw [if_neg c0] at h
      by_cases c1 : (sp_prop w).isSome = true
      · rw [if_pos c1] at h; exact absurd h (by decide)
      rw [if_neg c1] at h
      by_cases c2 : (sp_date w).isSome = true
      · rw [if_pos c2] at h; exact absurd h (by decide)
      rw [if_neg c2] at h
      by_cases c3 : (sp_clock w).isSome = true
      · exact q (sp_clock_0 c3)
      rw [if_neg c3] at h
      by_cases c4 : sp_row w = true
      · rw [if_pos c4] at h; exact absurd h (by decide)
      rw [if_neg c4] at h
      by_cases c5 : sp_code w = true
      · rw [if_pos c5] at h; exact absurd h (by decide)
      rw [if_neg c5] at h
      split at h <;> exact absurd h (by decide)
  · intro h
    rw [sp_kind_37 (sp_clock_0 h), if_pos h]
theorem sp_clock_in {w : List Int} {v : Int × Int} (h : sp_clock w = some v) : 0 ≤ v.1 ∧ v.1 ≤ 9999 ∧ ((v.2 = -1 ∧ w.length ≤ 6) ∨ (v.1 ≤ v.2 ∧ v.2 ≤ 9999)) := by
  have h1 := sp_nu_in w 1
  have h2 := sp_nu_in w ((sp_nu w 1).1 + 1)
  unfold sp_clock at h
  by_cases c1 : oy_wk w 0 = 37 ∧ 0 ≤ (sp_nu w 1).2 ∧ oy_wk w (sp_nu w 1).1 = 45
  rotate_left
  · rw [if_neg c1] at h; cases h
  rw [if_pos c1] at h
  by_cases c2 : (sp_nu w 1).1 + 1 = w.length
  · rw [if_pos c2] at h
    obtain rfl := Option.some.inj h
    exact ⟨c1.2.1, h1.2.2.2.1, Or.inl ⟨rfl, by omega⟩⟩
  · rw [if_neg c2] at h
    by_cases c3 : (sp_c2 w).1 = w.length ∧ (sp_nu w 1).2 ≤ (sp_c2 w).2
    · rw [if_pos c3] at h
      obtain rfl := Option.some.inj h
      exact ⟨c1.2.1, h1.2.2.2.1, Or.inr ⟨c3.2, h2.2.2.2.1⟩⟩
    · rw [if_neg c3] at h; cases h
/-- where a clock that runs began -/
def sp_rn (w : List Int) : Option Int := match sp_clock w with
  | none => none
  | some v => if v.2 = -1 then some v.1 else none
def sp_mx (f t : Int) : Int := if f < t then t else f
def sp_ecl (t : Int) (w : List Int) : List Int := match sp_rn w with
  | none => w
  | some f => w ++ sp_dgs (sp_mx f t)
def sp_ecm (T : oy_T) (t : Int) (i : Nat) : oy_T := oy_mk T.length (fun l => if l < i then sp_ecl t (oy_ln T l) else oy_ln T l)
def sp_ec (T : oy_T) (t : Int) : oy_T := sp_ecm T t T.length
def sp_ecn (T : oy_T) (f k : Nat) (v : Int) : Int := sp_fo (fun v l => v + (if (sp_rn (oy_ln T l)).isSome = true then 1 else 0)) f k v
theorem sp_ecm_len {T : oy_T} {t : Int} {i : Nat} : (sp_ecm T t i).length = T.length := oy_mk_len
theorem sp_ecm_ln {T : oy_T} {t : Int} {i l : Nat} (hl : l < T.length) : oy_ln (sp_ecm T t i) l = if l < i then sp_ecl t (oy_ln T l) else oy_ln T l := by
  unfold sp_ecm
  rw [oy_mk_ln, if_pos hl]
theorem sp_ecm_0 {T : oy_T} {t : Int} : sp_ecm T t 0 = T := by
  refine oy_extT sp_ecm_len (fun l hl => ?_)
  rw [sp_ecm_len] at hl
  rw [sp_ecm_ln hl, if_neg (Nat.not_lt_zero _)]
theorem sp_ecm_1 {T : oy_T} {t : Int} {i : Nat} : sp_put (sp_ecm T t i) i (sp_ecl t (oy_ln T i)) = sp_ecm T t (i + 1) := by
  refine oy_extT (by rw [sp_put_len, sp_ecm_len, sp_ecm_len]) (fun l hl => ?_)
  rw [sp_put_len, sp_ecm_len] at hl
  rw [sp_put_ln (by rw [sp_ecm_len]; exact hl), sp_ecm_ln hl, sp_ecm_ln hl]
  by_cases q : l = i
  · rw [if_pos q, if_pos (by omega), q]
  · rw [if_neg q]
    by_cases z : l < i
    · rw [if_pos z, if_pos (by omega)]
    · rw [if_neg z, if_neg (by omega)]
theorem sp_rn_in {w : List Int} {f : Int} (h : sp_rn w = some f) : ∃ v, sp_clock w = some v ∧ v.1 = f ∧ v.2 = -1 ∧ 0 ≤ f ∧ f ≤ 9999 ∧ w.length ≤ 6 := by
  unfold sp_rn at h
  cases hc : sp_clock w with
  | none => rw [hc] at h; cases h
  | some v =>
    rw [hc] at h
    dsimp only at h
    by_cases z : v.2 = -1
    · rw [if_pos z] at h
      obtain rfl := Option.some.inj h
      have := sp_clock_in hc
      exact ⟨v, rfl, rfl, z, by omega, by omega, by omega⟩
    · rw [if_neg z] at h; cases h
theorem sp_ecl_good {t : Int} {w : List Int} (ht : t ≤ 9999) (h : oy_good 0 w) : oy_good 0 (sp_ecl t w) := by
  unfold sp_ecl
  cases hr : sp_rn w with
  | none => exact h
  | some f =>
    obtain ⟨v, -, -, -, h1, h2, h3⟩ := sp_rn_in hr
    have hm : 0 ≤ sp_mx f t ∧ sp_mx f t ≤ 9999 := by unfold sp_mx; split <;> omega
    have hd := sp_dgs_len (v := sp_mx f t) hm.2
    exact oy_good_app2 h (sp_dr_good (by omega) 6 (by omega)) (by show _ ≤ 24; have : (sp_dr (sp_mx f t) 6) = sp_dgs (sp_mx f t) := rfl; omega)
theorem sp_ecm_ok {T : oy_T} {t : Int} {i : Nat} (ht : t ≤ 9999) (hT : oy_ok T) : oy_ok (sp_ecm T t i) := oy_okL_mk (k := 0) hT.1 (fun l hl => by
  split
  · exact sp_ecl_good ht (oy_24_ok hT l)
  · exact oy_24_ok hT l)
/-- an edit that keeps to the text's object alone -/
theorem oy_Q.rdle {T : oy_T} {k : Nat} {σ τ : ox_H} (hQ : oy_Q T σ) (hf : oy_fs (oy_le k) σ τ) {l : Nat} (hl : l < T.length) : oy_rd (oy_ln T l) l τ := by
  have e : ∀ c k' j i, c ≠ 1 → τ c k' j i = σ c k' j i := fun c k' j i hc => hf c k' j i (fun q => hc q.1)
  have r := hQ.1.2.2.2 l hl
  unfold oy_rd oy_hd at r ⊢
  unfold oy_sm at r ⊢
  simp only [e 4 _ _ _ (by decide), e 6 _ _ _ (by decide)]
  exact r
def sp_ckw (n : Int) : List Int := [37] ++ sp_dgs n ++ [45]
def sp_ciT (T : oy_T) (n : Int) (e : Nat) : oy_T := sp_put (sp_ins (sp_ec T n) (sp_en T e + 1) 1) (sp_en T e + 1) (sp_ckw n)
def sp_clockIn (T : oy_T) (n a : Int) : (Nat ⊕ Int) × oy_T := if 0 ≤ a ∧ a < sp_n T then (if T.length < 60 then (.inr (sp_ecn T T.length 0 0), sp_ciT T n a.toNat) else (.inl 3, T)) else (.inl 1, T)
def sp_clockOut (T : oy_T) (n i : Int) : (Nat ⊕ Int) × oy_T := if 0 ≤ i ∧ i ≤ 9999 then (.inr (sp_ecn T T.length 0 0), sp_ec T (n - i)) else (.inl 2, T)
/-- the times of the clocks that are ended -/
def sp_ckt (w : List Int) : Int := match sp_clock w with
  | none => 0
  | some v => if v.2 = -1 then 0 else v.2 - v.1
def sp_cked (T : oy_T) (e : Nat) : Int := sp_fo (fun v l => v + sp_ckt (oy_ln T l)) (sp_en T (sp_la T e) - sp_en T e) (sp_en T e) 0
section OYH5
variable {T : oy_T} {σ : ox_H}
theorem oc_rdl (hT : oy_ok T) {l : Nat} (h4 : σ 1 0 4 0 = T.length) (hl : l < T.length) : F_Otl_reading (l : Int) σ = some l := oc_reading h4 hT.1 hl
theorem oc_endClocks (hT : oy_ok T) (hQ : oy_Q T σ) {t : Int} (ht : -10000 ≤ t ∧ t ≤ 9999) : ∃ σ', F_Out_endClocks t σ = some (sp_ecn T T.length 0 0, σ') ∧ oy_ed 0 480 (sp_ec T t) σ σ' := by
  have h60 := hT.1
  have hloop : ∀ (f i n : Nat) (v : Int) (τ : ox_H), i + f = T.length → f < n → 0 ≤ v ∧ v ≤ (i : Int) → oy_ed 0 (8 * i) (sp_ecm T t i) σ τ → ∃ σ', ox_lp (B_Out_endClocks_4 t) n (v, (i : Int), τ) = some (sp_ecn T f i v, σ') ∧ oy_ed 0 480 (sp_ec T t) σ σ' := by
    intro f
    induction f with
    | zero =>
      intro i n v τ h1 h2 h3 h4
      obtain ⟨n, rfl⟩ : ∃ j, n = j + 1 := ⟨n - 1, by omega⟩
      obtain rfl : i = T.length := by omega
      refine ⟨τ, oy_lp_m ?_, h4.mono (by omega)⟩
      unfold B_Out_endClocks_4 J_Out_endClocks_69
      dsimp only
      rw [if_pos (show τ 1 0 4 0 ≤ (T.length : Int) by rw [h4.2.1.1, sp_ecm_len]; omega)]
      rfl
    | succ f ih =>
      intro i n v τ h1 h2 h3 h4
      obtain ⟨n, rfl⟩ : ∃ j, n = j + 1 := ⟨n - 1, by omega⟩
      have hi : i < T.length := by omega
      have h4c : τ 1 0 4 0 = (T.length : Int) := by rw [h4.2.1.1, sp_ecm_len]
      have hr := hQ.rdle h4.1 hi
      have hat : oy_ln (sp_ecm T t i) i = oy_ln T i := by rw [sp_ecm_ln hi, if_neg (Nat.lt_irrefl _)]
      have estep : sp_ecn T (f + 1) i v = sp_ecn T f (i + 1) (v + (if (sp_rn (oy_ln T i)).isSome = true then 1 else 0)) := rfl
      have ew : Nat → ox_w ((i : Int) + 1) = ((i + 1 : Nat) : Int) := fun _ => oy_w1 (by omega)
      have ewv : Nat → ox_w (v + 1) = v + 1 := fun _ => oy_w (by omega) (by omega)
      /- a line that stays -/
      have stay : sp_rn (oy_ln T i) = none → B_Out_endClocks_4 t (v, (i : Int), τ) = some (.inl (v, ((i + 1 : Nat) : Int), τ)) → ∃ σ', ox_lp (B_Out_endClocks_4 t) (n + 1) (v, (i : Int), τ) = some (sp_ecn T (f + 1) i v, σ') ∧ oy_ed 0 480 (sp_ec T t) σ σ' := by
        intro hn hB
        have e1 : sp_ecm T t i = sp_ecm T t (i + 1) := by
          rw [← sp_ecm_1]
          have : sp_ecl t (oy_ln T i) = oy_ln (sp_ecm T t i) i := by rw [hat]; unfold sp_ecl; rw [hn]
          rw [this, sp_put_self]
        rw [oy_lp_l hB, estep, hn, if_neg (by decide), Int.add_zero]
        exact ih (i + 1) n v τ (by omega) (by omega) (by omega) ((e1 ▸ h4).mono (by omega))
      have hB0 : B_Out_endClocks_4 t (v, (i : Int), τ) = (if τ 4 i 0 0 = 3 then (if τ 4 i 4 0 = -1 then ((F_Lin_addNumber 0 (i : Int) (if τ 4 i 3 0 < t then t else τ 4 i 3 0) τ).bind fun r2 => some (.inl (v + 1, ((i + 1 : Nat) : Int), r2))) else some (.inl (v, ((i + 1 : Nat) : Int), τ))) else some (.inl (v, ((i + 1 : Nat) : Int), τ))) := by
        unfold B_Out_endClocks_4 J_Out_endClocks_63
        dsimp only
        rw [if_neg (show ¬ τ 1 0 4 0 ≤ (i : Int) by rw [h4c]; omega), oc_rdl hT h4c hi, Option.bind_some, (ew 0), (ewv 0)]
      by_cases hk : sp_kind (oy_ln T i) = 3
      rotate_left
      · have hn : sp_rn (oy_ln T i) = none := by
          unfold sp_rn
          cases hc : sp_clock (oy_ln T i) with
          | none => rfl
          | some u => exact absurd (sp_kind_3.mpr (by rw [hc]; rfl)) hk
        exact stay hn (by rw [hB0, if_neg (show ¬ τ 4 i 0 0 = 3 by rw [hr.1]; exact hk)])
      obtain ⟨u, hu⟩ := Option.isSome_iff_exists.mp (sp_kind_3.mp hk)
      obtain ⟨w3, w4⟩ := hr.2.2.2.2.1 hk u hu
      have hin := sp_clock_in hu
      by_cases hz : u.2 = -1
      rotate_left
      · have hn : sp_rn (oy_ln T i) = none := by
          unfold sp_rn
          rw [hu]
          dsimp only
          rw [if_neg hz]
        exact stay hn (by rw [hB0, if_pos (show τ 4 i 0 0 = 3 by rw [hr.1]; exact hk), if_neg (show ¬ τ 4 i 4 0 = -1 by rw [w4]; exact hz)])
      have hn : sp_rn (oy_ln T i) = some u.1 := by
        unfold sp_rn
        rw [hu]
        dsimp only
        rw [if_pos hz]
      have hm : 0 ≤ sp_mx u.1 t ∧ sp_mx u.1 t ≤ 9999 := by unfold sp_mx; split <;> omega
      have hd := sp_dgs_len (v := sp_mx u.1 t) hm.2
      have en := sp_num_dgs (v := sp_mx u.1 t) (by omega)
      obtain ⟨τ1, t1, d1⟩ := oc_num0 (k := 0) (l := i) (v := sp_mx u.1 t) (by omega) (oy_ok_L (sp_ecm_ok ht.2 hT)) h4.2.1 (h4.w.1.trans hQ.2.2.1) (by rw [sp_ecm_len]; exact hi) (by rw [hat, en]; show _ ≤ 24; omega)
      have ecl : sp_ecl t (oy_ln T i) = oy_ln T i ++ sp_dgs (sp_mx u.1 t) := by unfold sp_ecl; rw [hn]
      rw [hat, en, ← ecl, sp_ecm_1] at d1
      have hB : B_Out_endClocks_4 t (v, (i : Int), τ) = some (.inl (v + 1, ((i + 1 : Nat) : Int), τ1)) := by
        have emx : (if τ 4 i 3 0 < t then t else τ 4 i 3 0) = sp_mx u.1 t := by rw [w3]; rfl
        rw [hB0, if_pos (show τ 4 i 0 0 = 3 by rw [hr.1]; exact hk), if_pos (show τ 4 i 4 0 = -1 by rw [w4]; exact hz), emx, t1, Option.bind_some]
      rw [oy_lp_l hB, estep, hn, if_pos (show (some u.1 : Option Int).isSome = true from rfl)]
      exact ih (i + 1) n (v + 1) τ1 (by omega) (by omega) (by omega) ((h4.tr d1).mono (by omega))
  unfold F_Out_endClocks J_Out_endClocks_4
  exact hloop T.length 0 ox_fu 0 σ (by omega) (by show _ < 100000; omega) (by omega) (by rw [sp_ecm_0]; exact (oy_ed.rf hQ.2.1).mono (by omega))
theorem om_stop (hT : oy_ok T) (hM : oy_M T σ) {d n : Int} (h24 : σ 10 0 24 0 = n) (ht : -10000 ≤ n - d ∧ n - d ≤ 9999) : ∃ σ', F_Mod_stop d σ = some (sp_ecn T T.length 0 0, σ') ∧ oy_fr oy_m3 σ σ' ∧ oy_M (sp_ec T (n - d)) σ' := by
  have h60 := hT.1
  have hloop : ∀ (f i m : Nat) (v : Int) (τ : ox_H), i + f = T.length → f < m → 0 ≤ v ∧ v ≤ (i : Int) → oy_M (sp_ecm T (n - d) i) τ → oy_fr oy_m3 σ τ → ∃ σ', ox_lp (B_Mod_stop_4 d) m (v, (i : Int), τ) = some (sp_ecn T f i v, σ') ∧ oy_fr oy_m3 σ σ' ∧ oy_M (sp_ec T (n - d)) σ' := by
    intro f
    induction f with
    | zero =>
      intro i m v τ h1 h2 h3 h4 h5
      obtain ⟨m, rfl⟩ : ∃ j, m = j + 1 := ⟨m - 1, by omega⟩
      obtain rfl : i = T.length := by omega
      refine ⟨τ, oy_lp_m ?_, h5, h4⟩
      unfold B_Mod_stop_4 J_Mod_stop_68
      dsimp only
      rw [if_pos (show τ 10 0 2 0 ≤ (T.length : Int) by rw [h4.1, sp_ecm_len]; omega)]
      rfl
    | succ f ih =>
      intro i m v τ h1 h2 h3 h4 h5
      obtain ⟨m, rfl⟩ : ∃ j, m = j + 1 := ⟨m - 1, by omega⟩
      have hi : i < T.length := by omega
      have hok : oy_ok (sp_ecm T (n - d) i) := sp_ecm_ok ht.2 hT
      have hat : oy_ln (sp_ecm T (n - d) i) i = oy_ln T i := by rw [sp_ecm_ln hi, if_neg (Nat.lt_irrefl _)]
      have estep : sp_ecn T (f + 1) i v = sp_ecn T f (i + 1) (v + (if (sp_rn (oy_ln T i)).isSome = true then 1 else 0)) := rfl
      have ew : Nat → ox_w ((i : Int) + 1) = ((i + 1 : Nat) : Int) := fun _ => oy_w1 (by omega)
      have ewv : Nat → ox_w (v + 1) = v + 1 := fun _ => oy_w (by omega) (by omega)
      obtain ⟨τ1, t1, t2, -, t3⟩ := om_kindOf hok h4 (l := i) (by rw [sp_ecm_len]; exact hi)
      rw [hat] at t1 t3
      have M1 := h4.fr t2 rfl rfl rfl
      have g1 := h5.tr (t2.mono (fun c j h => oy_sp_3 h))
      have n1 : τ1 10 0 24 0 = n := (g1 10 0 24 0 rfl).trans h24
      have hB0 : B_Mod_stop_4 d (v, (i : Int), τ) = (if sp_kind (oy_ln T i) = 3 then (if 0 ≤ τ1 10 0 18 0 then some (.inl (v, ((i + 1 : Nat) : Int), τ1)) else (if n - d ≤ τ1 10 0 17 0 then ((F_Mod_add (i : Int) (τ1 10 0 17 0) τ1).bind fun r1 => some (.inl (v + 1, ((i + 1 : Nat) : Int), r1))) else ((F_Mod_add (i : Int) (n - d) τ1).bind fun r1 => some (.inl (v + 1, ((i + 1 : Nat) : Int), r1))))) else some (.inl (v, ((i + 1 : Nat) : Int), τ1))) := by
        have ewn : Nat → ox_w (τ1 10 0 24 0 - d) = n - d := fun _ => by rw [n1]; exact oy_w (by omega) (by omega)
        unfold B_Mod_stop_4 J_Mod_stop_62 J_Mod_stop_56 J_Mod_stop_62
        dsimp only
        rw [if_neg (show ¬ τ 10 0 2 0 ≤ (i : Int) by rw [h4.1, sp_ecm_len]; omega), t1, Option.bind_some]
        dsimp only
        simp only [ewn 0, ew 0, ewv 0]
      have stay : sp_rn (oy_ln T i) = none → B_Mod_stop_4 d (v, (i : Int), τ) = some (.inl (v, ((i + 1 : Nat) : Int), τ1)) → ∃ σ', ox_lp (B_Mod_stop_4 d) (m + 1) (v, (i : Int), τ) = some (sp_ecn T (f + 1) i v, σ') ∧ oy_fr oy_m3 σ σ' ∧ oy_M (sp_ec T (n - d)) σ' := by
        intro hn hB
        have e1 : sp_ecm T (n - d) i = sp_ecm T (n - d) (i + 1) := by
          rw [← sp_ecm_1]
          have : sp_ecl (n - d) (oy_ln T i) = oy_ln (sp_ecm T (n - d) i) i := by rw [hat]; unfold sp_ecl; rw [hn]
          rw [this, sp_put_self]
        rw [oy_lp_l hB, estep, hn, if_neg (by decide), Int.add_zero]
        exact ih (i + 1) m v τ1 (by omega) (by omega) (by omega) (e1 ▸ M1) g1
      by_cases hk : sp_kind (oy_ln T i) = 3
      rotate_left
      · have hn : sp_rn (oy_ln T i) = none := by
          unfold sp_rn
          cases hc : sp_clock (oy_ln T i) with
          | none => rfl
          | some u => exact absurd (sp_kind_3.mpr (by rw [hc]; rfl)) hk
        exact stay hn (by rw [hB0, if_neg hk])
      obtain ⟨u, hu⟩ := Option.isSome_iff_exists.mp (sp_kind_3.mp hk)
      obtain ⟨w3, w4⟩ := t3 hk u hu
      have hin := sp_clock_in hu
      by_cases hz : u.2 = -1
      rotate_left
      · have hn : sp_rn (oy_ln T i) = none := by
          unfold sp_rn
          rw [hu]
          dsimp only
          rw [if_neg hz]
        exact stay hn (by rw [hB0, if_pos hk, if_pos (show 0 ≤ τ1 10 0 18 0 by rw [w4]; omega)])
      have hn : sp_rn (oy_ln T i) = some u.1 := by
        unfold sp_rn
        rw [hu]
        dsimp only
        rw [if_pos hz]
      have hm : 0 ≤ sp_mx u.1 (n - d) ∧ sp_mx u.1 (n - d) ≤ 9999 := by unfold sp_mx; split <;> omega
      have hd := sp_dgs_len (v := sp_mx u.1 (n - d)) hm.2
      obtain ⟨τ2, x1, x2, x3⟩ := om_add hok M1 (l := i) (v := sp_mx u.1 (n - d)) (by rw [sp_ecm_len]; exact hi) hm (by rw [hat]; omega)
      have ecl : sp_ecl (n - d) (oy_ln T i) = oy_ln T i ++ sp_dgs (sp_mx u.1 (n - d)) := by unfold sp_ecl; rw [hn]
      rw [hat, ← ecl, sp_ecm_1] at x3
      have hB : B_Mod_stop_4 d (v, (i : Int), τ) = some (.inl (v + 1, ((i + 1 : Nat) : Int), τ2)) := by
        rw [hB0, if_pos hk, if_neg (show ¬ 0 ≤ τ1 10 0 18 0 by rw [w4]; omega)]
        by_cases z : n - d ≤ u.1
        · have emx : sp_mx u.1 (n - d) = u.1 := by unfold sp_mx; rw [if_neg (by omega)]
          rw [emx] at x1
          rw [if_pos (show n - d ≤ τ1 10 0 17 0 by rw [w3]; exact z), w3, x1, Option.bind_some]
        · have emx : sp_mx u.1 (n - d) = n - d := by unfold sp_mx; rw [if_pos (by omega)]
          rw [emx] at x1
          rw [if_neg (show ¬ n - d ≤ τ1 10 0 17 0 by rw [w3]; exact z), x1, Option.bind_some]
      rw [oy_lp_l hB, estep, hn, if_pos (show (some u.1 : Option Int).isSome = true from rfl)]
      exact ih (i + 1) m (v + 1) τ2 (by omega) (by omega) (by omega) x3 (g1.tr (x2.mono (fun c j h => oy_mx1_3 h)))
  unfold F_Mod_stop J_Mod_stop_4
  exact hloop T.length 0 ox_fu 0 σ (by omega) (by show _ < 100000; omega) (by omega) (by rw [sp_ecm_0]; exact hM) oy_fr.rf
theorem om_open0 (hT : oy_ok T) (hM : oy_M T σ) {l : Nat} (ha : l ≤ T.length) (hr : T.length < 60) : ∃ σ3, F_Mod_open (l : Int) 1 σ = some σ3 ∧ oy_fr oy_m2 σ σ3 ∧ oy_M (sp_ins T l 1) (ox_up σ3 10 0 1 l 0) := by
  obtain ⟨σ3, e3, f3, g1, g2, g3⟩ := om_open hT hM (a := l) (m := 1) ha (by omega) (by omega)
  refine ⟨σ3, e3, f3, ?_, fun x hx => ?_, fun x p hx hp => ?_⟩
  · rw [oy_up_ne (by decide), g1, sp_ins_len]
  · rw [sp_ins_len] at hx
    rw [sp_ins_ln hx]
    by_cases z : x = l
    · rw [z, oy_up_same, if_neg (Nat.lt_irrefl _), if_pos (by omega)]
      rfl
    · rw [oy_up_ni z]
      by_cases z1 : x < l
      · have := g2 x (by omega)
        rw [if_pos z1] at this ⊢
        exact this
      · have := g2 (x - 1) (by omega)
        have e : x - 1 + 1 = x := by omega
        rw [if_neg (show ¬ x - 1 < l by omega), e] at this
        rw [if_neg z1, if_neg (by omega)]
        exact this
  · rw [sp_ins_len] at hx
    rw [oy_up_ne (by decide)]
    rw [sp_ins_ln hx] at hp ⊢
    by_cases z : x = l
    · rw [z, if_neg (Nat.lt_irrefl _), if_pos (by omega)] at hp
      exact absurd hp (Nat.not_lt_zero _)
    · by_cases z1 : x < l
      · rw [if_pos z1] at hp ⊢
        have := g3 x p (by omega) hp
        rw [if_pos z1] at this
        exact this
      · rw [if_neg z1, if_neg (show ¬ x < l + 1 by omega)] at hp ⊢
        have := g3 (x - 1) p (by omega) hp
        have e : x - 1 + 1 = x := by omega
        rw [if_neg (show ¬ x - 1 < l by omega), e] at this
        exact this
theorem oc_clockIn (hT : oy_ok T) (h : oy_cs T σ) (hv : σ 1 0 5 0 ≤ 1000000000) {n a : Int} (h8 : σ 0 0 8 0 = n) (hn9 : 0 ≤ n ∧ n ≤ 9999) : ∃ σ1, F_Out_clockIn a σ = some ((sp_clockIn T n a).1, σ1) ∧ oy_st 500 T (sp_clockIn T n a).2 σ σ1 := by
  have h60 := hT.1
  have hn := sp_n_le (T := T)
  obtain ⟨σ1, e1, s1, q1⟩ := oy_cs_ask hT h
  have hv1 : σ1 1 0 5 0 ≤ 1000000000 := by
    obtain ⟨-, -, d, hd, hd2, -⟩ := s1
    omega
  have h81 : σ1 0 0 8 0 = n := (s1.1 0 0 8 0 (by unfold oy_tx oy_le oy_rf; omega)).trans h8
  unfold F_Out_clockIn sp_clockIn
  rw [e1, Option.bind_some, oc_checkEntry q1, Option.bind_some]
  by_cases q : 0 ≤ a ∧ a < sp_n T
  rotate_left
  · rw [if_neg q, if_neg q]
    exact ⟨σ1, rfl, s1.mono (by omega)⟩
  rw [if_pos q, if_pos q]
  obtain ⟨e, rfl⟩ : ∃ l : Nat, a = l := ⟨a.toNat, by omega⟩
  have he : e < sp_n T := by omega
  have hen := sp_en_lt he
  dsimp only
  rw [oc_room s1.2.1.1.1 hT (m := 1) (by decide), Option.bind_some]
  by_cases h6 : T.length < 60
  rotate_left
  · rw [if_neg (show ¬ (T.length : Int) + 1 ≤ 60 by omega), if_neg h6]
    exact ⟨σ1, rfl, s1.mono (by omega)⟩
  rw [if_pos (show (T.length : Int) + 1 ≤ 60 by omega), if_pos h6, Int.toNat_natCast]
  dsimp only
  obtain ⟨σ2, e2, d2⟩ := oc_endClocks hT q1 (t := n) (by omega)
  have ewl : Nat → ox_w ((sp_en T e : Int) + 1) = ((sp_en T e + 1 : Nat) : Int) := fun _ => oy_w1 (by omega)
  have hT1 : oy_ok (sp_ec T n) := sp_ecm_ok hn9.2 hT
  have hl1 : (sp_ec T n).length = T.length := sp_ecm_len
  obtain ⟨σ3, e3, d3⟩ := oc_open (oy_ok_L hT1) d2.2.1 (d2.w.1.trans q1.2.2.1) (d2.w.2.trans s1.2.1.1.1.2.2.1) (a := sp_en T e + 1) (m := 1) (by rw [hl1]; omega) (by omega) (by rw [hl1]; show _ ≤ 60; omega)
  have e3' : F_Lin_open 0 ((sp_en T e + 1 : Nat) : Int) 1 σ2 = some σ3 := e3
  have d13 := d2.tr d3
  have hT2 : oy_ok (sp_ins (sp_ec T n) (sp_en T e + 1) 1) := sp_ins_ok (k := 0) hT1 (by rw [hl1]; show _ ≤ 60; omega)
  have hl2 : sp_en T e + 1 < (sp_ins (sp_ec T n) (sp_en T e + 1) 1).length := by rw [sp_ins_len, hl1]; omega
  have e0 : sp_put (sp_ins (sp_ec T n) (sp_en T e + 1) 1) (sp_en T e + 1) [] = sp_ins (sp_ec T n) (sp_en T e + 1) 1 := by
    have : ([] : List Int) = oy_ln (sp_ins (sp_ec T n) (sp_en T e + 1) 1) (sp_en T e + 1) := (sp_ins_put (by rw [hl1]; omega)).symm
    rw [this, sp_put_self]
  obtain ⟨σ4, e4, d4, g4⟩ := oc_apE (x := 37) (oy_ok_L hT2) oy_good_nil hl2 (e0.symm ▸ d13) q1.2.2.1 (by decide) (by decide)
  obtain ⟨σ5, e5, d5, g5⟩ := oc_apN (v := n) (oy_ok_L hT2) g4 hl2 d4 q1.2.2.1 hn9 (by decide)
  have hd := sp_dgs_len (v := n) hn9.2
  obtain ⟨σ6, e6, d6, g6⟩ := oc_apE (x := 45) (oy_ok_L hT2) g5 hl2 d5 q1.2.2.1 (by rw [List.length_append]; show 1 + _ < 24; omega) (by decide)
  have h84 : σ4 0 0 8 0 = n := (d4.1 0 0 8 0 (fun q => absurd q.1 (by decide))).trans h81
  have s6 := oy_cs_ed s1.2.1 hv1 (by omega) d6
  rw [oc_eln hT q1 he, Option.bind_some, h81, e2, Option.bind_some, (ewl 0)]
  dsimp only
  rw [e3', Option.bind_some, e4, Option.bind_some, h84, e5, Option.bind_some, e6, Option.bind_some]
  exact ⟨σ6, rfl, (s1.tr s6).mono (by omega)⟩
theorem om_clockIn (hT : oy_ok T) (hM : oy_M T σ) {n a : Int} (h24 : σ 10 0 24 0 = n) (hn9 : 0 ≤ n ∧ n ≤ 9999) : oy_rm oy_mt (sp_clockIn T n a).2 1 3 0 (sp_clockIn T n a).1 (F_Mod_clockIn a σ) σ := by
  have h60 := hT.1
  have hn := sp_n_le (T := T)
  obtain ⟨σ1, e1, f1, F1⟩ := om_isEntry hT hM (a := a)
  have g1 := oy_mt_sq f1
  have bad : ∀ (c : Int) (ex : Nat), 0 < c → oy_cx 1 3 0 (.inl ex) = c → oy_rm oy_mt T 1 3 0 (.inl ex) (J_Mod_clockIn_27 a c σ1) σ := by
    intro c ex hc he
    unfold J_Mod_clockIn_27
    rw [om_holds, if_neg (by omega), Option.bind_some, if_neg oy_10]
    exact ⟨_, _, rfl, oy_mt_up g1 (Or.inr (Or.inr rfl)), oy_M46 F1.1, (by show ox_up σ1 10 0 46 0 c 10 0 46 0 = _; rw [he]; exact oy_up_same), fun v hv => by cases hv⟩
  unfold F_Mod_clockIn sp_clockIn
  rw [e1, Option.bind_some]
  by_cases q : 0 ≤ a ∧ a < sp_n T
  rotate_left
  · rw [if_neg q, if_neg q, if_pos rfl]
    exact bad 1 1 (by decide) rfl
  rw [if_pos q, if_pos q, if_neg oy_10]
  dsimp only
  by_cases h6 : T.length < 60
  rotate_left
  · rw [if_pos (show σ1 10 0 2 0 = 60 by rw [F1.1.1]; omega), if_neg h6]
    exact bad 2 3 (by decide) rfl
  rw [if_neg (show ¬ σ1 10 0 2 0 = 60 by rw [F1.1.1]; omega), if_pos h6]
  obtain ⟨e, rfl⟩ : ∃ l : Nat, a = l := ⟨a.toNat, by omega⟩
  have he : e < sp_n T := by omega
  have hen := sp_en_lt he
  rw [Int.toNat_natCast]
  have F0 : oy_F T (ox_up σ1 10 0 46 0 0) := F1.fr (S := fun c j => c == 10 && j == 46) (oy_fr.rf.up rfl) rfl rfl rfl rfl rfl
  have g0 : oy_fr oy_mt σ (ox_up σ1 10 0 46 0 0) := oy_mt_up g1 (Or.inr (Or.inr rfl))
  have w0 : (ox_up σ1 10 0 46 0 0) 10 0 46 0 = 0 := oy_up_same
  unfold J_Mod_clockIn_27
  rw [om_holds, if_pos (Int.le_refl _), Option.bind_some, if_pos rfl]
  dsimp only
  generalize ox_up σ1 10 0 46 0 0 = τ0 at F0 g0 w0 ⊢
  have n0 : τ0 10 0 24 0 = n := (g0 10 0 24 0 rfl).trans h24
  obtain ⟨τ1, t1, t2, t3⟩ := om_stop hT F0.1 (d := 0) n0 (by omega)
  have en0 : n - 0 = n := Int.sub_zero n
  rw [en0] at t3
  have e21 : τ1 10 0 21 e = (sp_en T e : Int) := (t2 10 0 21 e rfl).trans (F0.2.2 e (by omega))
  have ewl : Nat → ox_w (τ1 10 0 21 e + 1) = ((sp_en T e + 1 : Nat) : Int) := fun _ => by rw [e21]; exact oy_w1 (by omega)
  have hT1 : oy_ok (sp_ec T n) := sp_ecm_ok hn9.2 hT
  have hl1 : (sp_ec T n).length = T.length := sp_ecm_len
  obtain ⟨τ2, x1, x2, x3⟩ := om_open0 hT1 t3 (l := sp_en T e + 1) (by rw [hl1]; omega) (by rw [hl1]; exact h6)
  have hT2 : oy_ok (sp_ins (sp_ec T n) (sp_en T e + 1) 1) := sp_ins_ok (k := 0) hT1 (by rw [hl1]; show _ ≤ 60; omega)
  have hl2 : sp_en T e + 1 < (sp_ins (sp_ec T n) (sp_en T e + 1) 1).length := by rw [sp_ins_len, hl1]; omega
  have e0 : sp_put (sp_ins (sp_ec T n) (sp_en T e + 1) 1) (sp_en T e + 1) [] = sp_ins (sp_ec T n) (sp_en T e + 1) 1 := by
    have : ([] : List Int) = oy_ln (sp_ins (sp_ec T n) (sp_en T e + 1) 1) (sp_en T e + 1) := (sp_ins_put (by rw [hl1]; omega)).symm
    rw [this, sp_put_self]
  obtain ⟨τ4, y1, y2, y3, y4⟩ := om_apE (x := 37) hT2 oy_good_nil hl2 (e0.symm ▸ x3) (by decide) (by decide)
  have g3 : oy_fr oy_mt σ τ4 := ((((g0.tr (oy_mt_m3 t2)).tr (oy_mt_m2 x2)).tr (oy_mt_up oy_fr.rf (Or.inl (by decide)))).tr (oy_mt_m1 y2))
  have n4 : τ4 10 0 24 0 = n := (g3 10 0 24 0 rfl).trans h24
  obtain ⟨τ5, z1, z2, z3, z4⟩ := om_apN (v := n) hT2 y4 hl2 y3 hn9 (by decide)
  have hd := sp_dgs_len (v := n) hn9.2
  obtain ⟨τ6, u1, u2, u3, u4⟩ := om_apE (x := 45) hT2 z4 hl2 z3 (by rw [List.length_append]; show 1 + _ < 24; omega) (by decide)
  have x1' : F_Mod_open ((sp_en T e + 1 : Nat) : Int) 1 τ1 = some τ2 := x1
  rw [t1, Option.bind_some, if_pos (show 0 ≤ (e : Int) ∧ (e : Int).toNat < 61 by omega), Int.toNat_natCast]
  dsimp only
  simp only [ewl 0]
  rw [x1', Option.bind_some, if_pos (show 0 ≤ ((sp_en T e + 1 : Nat) : Int) ∧ ((sp_en T e + 1 : Nat) : Int).toNat < 60 by omega), Int.toNat_natCast, y1, Option.bind_some, n4, z1, Option.bind_some, u1, Option.bind_some]
  refine ⟨τ6, _, rfl, (g3.tr (oy_mt_m1 z2)).tr (oy_mt_m1 u2), u3, ?_, fun v hv => Sum.inr.inj hv⟩
  rw [u2 10 0 46 0 rfl, z2 10 0 46 0 rfl, y2 10 0 46 0 rfl, oy_up_ne (by decide), x2 10 0 46 0 rfl, t2 10 0 46 0 rfl, w0]
  rfl
theorem oc_clockOut (hT : oy_ok T) (h : oy_cs T σ) (hv : σ 1 0 5 0 ≤ 1000000000) {n i : Int} (h8 : σ 0 0 8 0 = n) (hn9 : 0 ≤ n ∧ n ≤ 9999) : ∃ σ1, F_Out_clockOut i σ = some ((sp_clockOut T n i).1, σ1) ∧ oy_st 500 T (sp_clockOut T n i).2 σ σ1 := by
  have h60 := hT.1
  unfold F_Out_clockOut J_Out_clockOut_11 sp_clockOut
  by_cases q : 0 ≤ i ∧ i ≤ 9999
  rotate_left
  · rw [if_neg q]
    by_cases z : i < 0
    · rw [if_pos z]
      exact ⟨σ, rfl, (oy_st.rf h).mono (by omega)⟩
    · rw [if_neg z, if_neg (show ¬ i ≤ 9999 by omega)]
      exact ⟨σ, rfl, (oy_st.rf h).mono (by omega)⟩
  obtain ⟨σ1, e1, s1, q1⟩ := oy_cs_ask hT h
  have hv1 : σ1 1 0 5 0 ≤ 1000000000 := by
    obtain ⟨-, -, d, hd, hd2, -⟩ := s1
    omega
  have h81 : σ1 0 0 8 0 = n := (s1.1 0 0 8 0 (by unfold oy_tx oy_le oy_rf; omega)).trans h8
  obtain ⟨σ2, e2, d2⟩ := oc_endClocks hT q1 (t := n - i) (by omega)
  have s2 := oy_cs_ed s1.2.1 hv1 (by omega) d2
  rw [if_pos q, if_neg (show ¬ i < 0 by omega), if_pos q.2, e1, Option.bind_some, h81, oy_w (by omega) (by omega), e2, Option.bind_some]
  exact ⟨σ2, rfl, (s1.tr s2).mono (by omega)⟩
theorem om_clockOut (hT : oy_ok T) (hM : oy_M T σ) {n i : Int} (h24 : σ 10 0 24 0 = n) (hn9 : 0 ≤ n ∧ n ≤ 9999) : oy_rm oy_mt (sp_clockOut T n i).2 2 0 0 (sp_clockOut T n i).1 (F_Mod_clockOut i σ) σ := by
  unfold F_Mod_clockOut J_Mod_clockOut_18 J_Mod_clockOut_33 sp_clockOut
  rw [om_in, Option.bind_some]
  by_cases q : 0 ≤ i ∧ i ≤ 9999
  rotate_left
  · rw [if_neg q, if_neg q, if_pos rfl, om_holds, if_neg (by decide), Option.bind_some, if_neg oy_10]
    exact ⟨_, _, rfl, oy_mt_up oy_fr.rf (Or.inr (Or.inr rfl)), oy_M46 hM, (by show ox_up σ 10 0 46 0 1 10 0 46 0 = 1; exact oy_up_same), fun v hv => by cases hv⟩
  have w0 : (ox_up σ 10 0 46 0 0) 10 0 46 0 = 0 := oy_up_same
  obtain ⟨τ1, t1, t2, t3⟩ := om_stop hT (oy_M46 (v := 0) hM) (d := i) (n := n) ((oy_up_ne (by decide)).trans h24) (by omega)
  rw [if_pos q, if_pos q, if_neg oy_10, om_holds, if_pos (Int.le_refl _), Option.bind_some, if_pos rfl]
  dsimp only
  rw [t1, Option.bind_some]
  refine ⟨τ1, _, rfl, (oy_mt_up oy_fr.rf (Or.inr (Or.inr rfl))).tr (oy_mt_m3 t2), t3, ?_, fun v hv => Sum.inr.inj hv⟩
  rw [t2 10 0 46 0 rfl, w0]
  rfl
theorem sp_ckt_in {w : List Int} : 0 ≤ sp_ckt w ∧ sp_ckt w ≤ 9999 := by
  unfold sp_ckt
  cases hc : sp_clock w with
  | none => exact ⟨by decide, by decide⟩
  | some v =>
    have := sp_clock_in hc
    dsimp only
    split <;> omega
theorem oc_clocked (hT : oy_ok T) (h : oy_cs T σ) {a : Int} : ∃ σ1, F_Out_clocked a σ = some (if 0 ≤ a ∧ a < sp_n T then .inr (sp_cked T a.toNat) else .inl 1, σ1) ∧ oy_st 0 T T σ σ1 := by
  have h60 := hT.1
  have hn := sp_n_le (T := T)
  obtain ⟨σ1, e1, s1, q1⟩ := oy_cs_ask hT h
  unfold F_Out_clocked
  rw [e1, Option.bind_some, oc_checkEntry q1, Option.bind_some]
  by_cases q : 0 ≤ a ∧ a < sp_n T
  rotate_left
  · rw [if_neg q, if_neg q]
    exact ⟨σ1, rfl, s1⟩
  rw [if_pos q, if_pos q]
  obtain ⟨e, rfl⟩ : ∃ l : Nat, a = l := ⟨a.toNat, by omega⟩
  have he : e < sp_n T := by omega
  have hla := sp_la_in he
  have hee := sp_en_lt3 (T := T) hla.1 hla.2
  have hle := sp_en_le (T := T) (sp_la T e)
  rw [Int.toNat_natCast]
  dsimp only
  rw [oc_partEnd hT q1 he, Option.bind_some, oc_eln hT q1 he, Option.bind_some]
  unfold J_Out_clocked_33
  have hl := oy_lacC (B_Out_clocked_33 (sp_en T (sp_la T e) : Int) σ1) (fun k v => 0 ≤ v ∧ v ≤ 10000 * k) (fun v k => v + sp_ckt (oy_ln T k)) (fun v => ((.inr v, σ1) : (Nat ⊕ Int) × ox_H)) (sp_en T e) (sp_en T (sp_la T e)) (fun k v hJ h1 h2 => by
      obtain ⟨r1, r2⟩ := oc_erd hT q1 (l := k) (by omega)
      have hck := sp_ckt_in (w := oy_ln T k)
      refine ⟨?_, by omega⟩
      have ew : Nat → ox_w ((k : Int) + 1) = ((k + 1 : Nat) : Int) := fun _ => oy_w1 (by omega)
      unfold B_Out_clocked_33 J_Out_clocked_82
      dsimp only
      rw [if_neg (show ¬ (sp_en T (sp_la T e) : Int) ≤ (k : Int) by omega), r1, Option.bind_some]
      simp only [ew 0]
      by_cases hk : sp_kind (oy_ln T k) = 3
      · obtain ⟨u, hu⟩ := Option.isSome_iff_exists.mp (sp_kind_3.mp hk)
        obtain ⟨w3, w4⟩ := r2.2.2.2.2.1 hk u hu
        have hin := sp_clock_in hu
        rw [if_pos (show σ1 4 k 0 0 = 3 by rw [r2.1]; exact hk)]
        by_cases hz : u.2 = -1
        · have ec : sp_ckt (oy_ln T k) = 0 := by unfold sp_ckt; rw [hu]; dsimp only; rw [if_pos hz]
          rw [if_pos (show σ1 4 k 4 0 = -1 by rw [w4]; exact hz), ec, Int.add_zero]
        · have ec : sp_ckt (oy_ln T k) = u.2 - u.1 := by unfold sp_ckt; rw [hu]; dsimp only; rw [if_neg hz]
          have ewd : Nat → ox_w (v + ox_w (σ1 4 k 4 0 - σ1 4 k 3 0)) = v + (u.2 - u.1) := fun _ => by rw [w3, w4, oy_w (x := u.2 - u.1) (by omega) (by omega), oy_w (by omega) (by omega)]
          rw [if_neg (show ¬ σ1 4 k 4 0 = -1 by rw [w4]; exact hz), (ewd 0), ec]
      · have ec : sp_ckt (oy_ln T k) = 0 := by
          unfold sp_ckt
          cases hc : sp_clock (oy_ln T k) with
          | none => rfl
          | some u => exact absurd (sp_kind_3.mpr (by rw [hc]; rfl)) hk
        rw [if_neg (show ¬ σ1 4 k 0 0 = 3 by rw [r2.1]; exact hk), ec, Int.add_zero]) (fun v hJ => by
      unfold B_Out_clocked_33 J_Out_clocked_88
      dsimp only
      rw [if_pos (Int.le_refl _)]
      rfl) (sp_en T (sp_la T e) - sp_en T e) ox_fu (sp_en T e) 0 (by omega) (Nat.le_refl _) (by show _ < 100000; omega) (by omega)
  refine ⟨σ1, ?_, s1⟩
  exact hl
theorem om_clocked (hT : oy_ok T) (hM : oy_M T σ) {a : Int} : oy_rm oy_mt T 1 0 0 (if 0 ≤ a ∧ a < sp_n T then .inr (sp_cked T a.toNat) else .inl 1) (F_Mod_clocked a σ) σ := by
  have h60 := hT.1
  have hn := sp_n_le (T := T)
  obtain ⟨σ1, e1, f1, F1⟩ := om_isEntry hT hM (a := a)
  have g1 := oy_mt_sq f1
  unfold F_Mod_clocked J_Mod_clocked_14
  rw [e1, Option.bind_some]
  by_cases q : 0 ≤ a ∧ a < sp_n T
  rotate_left
  · rw [if_neg q, if_neg q, if_pos rfl, om_holds, if_neg (by decide), Option.bind_some, if_neg oy_10]
    exact ⟨_, _, rfl, oy_mt_up g1 (Or.inr (Or.inr rfl)), oy_M46 F1.1, (by show ox_up σ1 10 0 46 0 1 10 0 46 0 = 1; exact oy_up_same), fun v hv => by cases hv⟩
  rw [if_pos q, if_pos q, if_neg oy_10, om_holds, if_pos (Int.le_refl _), Option.bind_some, if_pos rfl]
  obtain ⟨e, rfl⟩ : ∃ l : Nat, a = l := ⟨a.toNat, by omega⟩
  have he : e < sp_n T := by omega
  have hla := sp_la_in he
  have hee := sp_en_lt3 (T := T) hla.1 hla.2
  have hle := sp_en_le (T := T) (sp_la T e)
  rw [Int.toNat_natCast]
  have F0 : oy_F T (ox_up σ1 10 0 46 0 0) := F1.fr (S := fun c j => c == 10 && j == 46) (oy_fr.rf.up rfl) rfl rfl rfl rfl rfl
  have g0 : oy_fr oy_mt σ (ox_up σ1 10 0 46 0 0) := oy_mt_up g1 (Or.inr (Or.inr rfl))
  have w0 : (ox_up σ1 10 0 46 0 0) 10 0 46 0 = 0 := oy_up_same
  dsimp only
  generalize ox_up σ1 10 0 46 0 0 = τ0 at F0 g0 w0 ⊢
  obtain ⟨τ1, t1, t2⟩ := om_end hT F0 he
  have F2 := F0.sp t2
  have e21 : τ1 10 0 21 e = (sp_en T e : Int) := F2.2.2 e (by omega)
  rw [t1, Option.bind_some, if_pos (show 0 ≤ (e : Int) ∧ e < 61 by omega)]
  dsimp only
  rw [e21]
  unfold J_Mod_clocked_38
  obtain ⟨b, hb, q2, q3⟩ := oy_lacM (B_Mod_clocked_38 (sp_en T (sp_la T e) : Int)) (fun τ => oy_M T τ ∧ oy_fr oy_sp τ1 τ) (fun k v => 0 ≤ v ∧ v ≤ 10000 * k) (fun v k => v + sp_ckt (oy_ln T k)) (fun v b => b.1 = v ∧ oy_M T b.2 ∧ oy_fr oy_sp τ1 b.2) (sp_en T e) (sp_en T (sp_la T e)) (fun k v τ hI hJ h1 h2 => by
      obtain ⟨κ, x1, x2, -, x3⟩ := om_kindOf hT hI.1 (l := k) (by omega)
      have hck := sp_ckt_in (w := oy_ln T k)
      have ew : Nat → ox_w ((k : Int) + 1) = ((k + 1 : Nat) : Int) := fun _ => oy_w1 (by omega)
      have ewv : Nat → ox_w (v + 0) = v := fun _ => by rw [oy_w (by omega) (by omega)]; omega
      refine ⟨κ, ?_, ⟨hI.1.fr x2 rfl rfl rfl, hI.2.tr x2⟩, by omega⟩
      unfold B_Mod_clocked_38 J_Mod_clocked_74 J_Mod_clocked_75
      dsimp only
      rw [if_neg (show ¬ (sp_en T (sp_la T e) : Int) ≤ (k : Int) by omega), x1, Option.bind_some]
      dsimp only
      simp only [ew 0, ewv 0]
      by_cases hk : sp_kind (oy_ln T k) = 3
      · obtain ⟨u, hu⟩ := Option.isSome_iff_exists.mp (sp_kind_3.mp hk)
        obtain ⟨w3, w4⟩ := x3 hk u hu
        have hin := sp_clock_in hu
        rw [if_pos hk]
        by_cases hz : u.2 = -1
        · have ec : sp_ckt (oy_ln T k) = 0 := by unfold sp_ckt; rw [hu]; dsimp only; rw [if_pos hz]
          rw [if_pos (show κ 10 0 18 0 < 0 by rw [w4]; omega), ec, Int.add_zero]
        · have ec : sp_ckt (oy_ln T k) = u.2 - u.1 := by unfold sp_ckt; rw [hu]; dsimp only; rw [if_neg hz]
          have ewd : Nat → ox_w (v + ox_w (κ 10 0 18 0 - κ 10 0 17 0)) = v + (u.2 - u.1) := fun _ => by rw [w3, w4, oy_w (x := u.2 - u.1) (by omega) (by omega), oy_w (by omega) (by omega)]
          rw [if_neg (show ¬ κ 10 0 18 0 < 0 by rw [w4]; omega), (ewd 0), ec]
      · have ec : sp_ckt (oy_ln T k) = 0 := by
          unfold sp_ckt
          cases hc : sp_clock (oy_ln T k) with
          | none => rfl
          | some u => exact absurd (sp_kind_3.mpr (by rw [hc]; rfl)) hk
        rw [if_neg hk, ec, Int.add_zero]) (fun v τ hI hJ => by
      refine ⟨(v, τ), ?_, rfl, hI.1, hI.2⟩
      unfold B_Mod_clocked_38 J_Mod_clocked_83
      dsimp only
      rw [if_pos (Int.le_refl _)]
      rfl) (sp_en T (sp_la T e) - sp_en T e) ox_fu (sp_en T e) 0 τ1 (by omega) (Nat.le_refl _) (by show _ < 100000; omega) ⟨F2.1, oy_fr.rf⟩ (by omega)
  have hb2 : ox_lp (B_Mod_clocked_38 (sp_en T (sp_la T e) : Int)) ox_fu ((0 : Int), (sp_en T e : Int), τ1) = some b := hb
  rw [hb2]
  refine ⟨b.2, b.1, rfl, (g0.tr (oy_mt_sp t2)).tr (oy_mt_sp q3.2), q3.1, ?_, fun v hv => ?_⟩
  · rw [q3.2 10 0 46 0 rfl, t2 10 0 46 0 rfl, w0]
    rfl
  · rw [q2]
    exact Sum.inr.inj hv
end OYH5
