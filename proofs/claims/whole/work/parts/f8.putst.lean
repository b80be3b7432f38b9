/-! ===== states and numbers written, both sides ===== -/
theorem sp_ws_len {w : List Int} {s : Int} {p old : Nat} : (sp_ws w s p old).length = w.length - old + (if s < 0 then 0 else 5) := oy_mk_len
theorem sp_ws_wk {w : List Int} {s : Int} {p old i : Nat} (hi : i < w.length - old + (if s < 0 then 0 else 5)) : oy_wk (sp_ws w s p old) i = if i < p then oy_wk w i else if 0 ≤ s ∧ i < p + 5 then ox_sa s.toNat (i - p) else oy_wk w (i - (if s < 0 then 0 else 5) + old) := by
  unfold sp_ws
  rw [oy_wk_mk, if_pos hi]
def sp_new (s : Int) : Nat := if s < 0 then 0 else 5
/-- letters of a word -/
def sp_wf (w : Nat) : Nat → Nat → List Int
  | 0, _ => []
  | f + 1, i => ox_sa w i :: sp_wf w f (i + 1)
/-- a number as Lines writes it -/
def sp_num (v : Int) : List Int := if v < 0 then 45 :: sp_dr (-v) 7 else sp_dr v 7
theorem sp_num_dgs {v : Int} (hv : 0 ≤ v ∧ v ≤ 999999) : sp_num v = sp_dgs v := by
  unfold sp_num sp_dgs
  rw [if_neg (by omega)]
  exact sp_dr_lt 1 5 (by show v < 1000000; omega)
section OYF8
variable {T : oy_T} {σ : ox_H}
theorem om_strB {l p new old s : Nat} (hl : l < 60) (hs : σ 10 0 1 l = s) (h24 : s ≤ 24) (hn : new ≤ 5) (ho : p + old ≤ s) (hr : s - old + new ≤ 24) : ∃ r, F_Mod_stretch (l : Int) (p : Int) (ox_w ((new : Int) - (old : Int))) σ = some r ∧ oy_fr oy_mx1 σ r ∧ r 10 0 1 l = ((s - old + new : Nat) : Int) ∧ (∀ i, i ≠ l → r 10 0 1 i = σ 10 0 1 i) ∧ (∀ i, ¬ (24 * l ≤ i ∧ i < 24 * l + 24) → r 10 0 0 i = σ 10 0 0 i) ∧ (∀ q, q < p → r 10 0 0 (24 * l + q) = σ 10 0 0 (24 * l + q)) ∧ ∀ q, p + new ≤ q → q < s - old + new → r 10 0 0 (24 * l + q) = σ 10 0 0 (24 * l + (q - new + old)) := by
  by_cases hb : new ≤ old
  · have e : Nat → ox_w ((new : Int) - (old : Int)) = -((old - new : Nat) : Int) := fun _ => by rw [oy_w (by omega) (by omega)]; omega
    rw [(e 0), om_strD hl hs h24 (by omega)]
    refine ⟨_, rfl, fun c k j i h => ?_, ?_, fun i hi => ?_, fun i hi => ?_, fun q hq => ?_, fun q hq hq2 => ?_⟩
    · rw [oy_up_ne (fun q => by rw [q.1, q.2] at h; cases h), oy_cp_ne (fun q => by rw [q.1, q.2] at h; cases h)]
    · rw [oy_up_same]
      omega
    · rw [oy_up_ni hi, oy_cp_ne (by decide)]
    · rw [oy_up_ne (by decide), oy_cp_in, if_neg (by omega)]
    · rw [oy_up_ne (by decide), oy_cp_in, if_neg (by omega)]
    · have e2 : 24 * l + p + (old - new) + (24 * l + q - (24 * l + p)) = 24 * l + (q - new + old) := by omega
      rw [oy_up_ne (by decide), oy_cp_in, if_pos (by omega), e2]
  · have e : Nat → ox_w ((new : Int) - (old : Int)) = ((new - old : Nat) : Int) := fun _ => by rw [oy_w (by omega) (by omega)]; omega
    rw [(e 0), om_strU hl hs (by omega) (by omega) (by omega)]
    refine ⟨_, rfl, fun c k j i h => ?_, ?_, fun i hi => ?_, fun i hi => ?_, fun q hq => ?_, fun q hq hq2 => ?_⟩
    · rw [oy_up_ne (fun q => by rw [q.1, q.2] at h; cases h), oy_cp_ne (fun q => by rw [q.1, q.2] at h; cases h)]
    · rw [oy_up_same]
      omega
    · rw [oy_up_ni hi, oy_cp_ne (by decide)]
    · rw [oy_up_ne (by decide), oy_cp_in, if_neg (by omega)]
    · rw [oy_up_ne (by decide), oy_cp_in, if_neg (by omega)]
    · have e2 : 24 * l + p + (24 * l + q - (24 * l + p + (new - old))) = 24 * l + (q - new + old) := by omega
      rw [oy_up_ne (by decide), oy_cp_in, if_pos (by omega), e2]
/-- a line's change, with what reading it leaves -/
def oy_m3 (c j : Nat) : Bool := oy_mx1 c j || oy_sp c j
theorem oy_mx1_3 {c j : Nat} (h : oy_mx1 c j = true) : oy_m3 c j = true := by unfold oy_m3; rw [h]; rfl
theorem oy_sp_3 {c j : Nat} (h : oy_sp c j = true) : oy_m3 c j = true := by unfold oy_m3; rw [h, Bool.or_true]
theorem om_write (hT : oy_ok T) (hM : oy_M T σ) {l : Nat} (hl : l < T.length) (hH : sp_isH (oy_ln T l)) {s : Int} (hs : -1 ≤ s ∧ s ≤ 3) (hr : (oy_ln T l).length - sp_old (oy_ln T l) + sp_new s ≤ 24) : ∃ σ', F_Mod_write (l : Int) s σ = some σ' ∧ oy_fr oy_m3 σ σ' ∧ oy_M (sp_put T l (sp_ws (oy_ln T l) s (sp_stars (oy_ln T l) + 1) (sp_old (oy_ln T l)))) σ' := by
  have h60 := hT.1
  have h24 := oy_len24 hT l
  obtain ⟨σ1, e1, f1, g1⟩ := om_heading hT hM hl
  obtain ⟨g12, g13, -⟩ := g1 hH
  have M1 : oy_M T σ1 := hM.fr f1 rfl rfl rfl
  have hin := sp_old_in hH
  have ho5 : sp_old (oy_ln T l) = if sp_state (oy_ln T l) (sp_stars (oy_ln T l) + 1) < 0 then 0 else 5 := rfl
  have hn5 : sp_new s = if s < 0 then 0 else 5 := rfl
  have hnn : sp_new s ≤ 5 := by rw [hn5]; split <;> omega
  obtain ⟨r, er, fr, r1, r2, r3, r4, r5⟩ := om_strB (σ := σ1) (l := l) (p := sp_stars (oy_ln T l) + 1) (new := sp_new s) (old := sp_old (oy_ln T l)) (by omega) (M1.2.1 l hl) h24 hnn hin hr
  have hst := sp_stars_le (oy_ln T l) h24
  have eP : Nat → ox_w (((sp_stars (oy_ln T l) : Nat) : Int) + 1) = ((sp_stars (oy_ln T l) + 1 : Nat) : Int) := fun _ => oy_w1 (by omega)
  have hgp := fun q => M1.2.2 l q hl
  unfold F_Mod_write J_Mod_write_25
  rw [e1, Option.bind_some, if_pos hH]
  dsimp only
  rw [g12, (eP 0)]
  generalize hp : sp_stars (oy_ln T l) + 1 = p at *
  have fin : ∀ σ' : ox_H, oy_fr oy_mx1 r σ' → σ' 10 0 1 l = r 10 0 1 l → (∀ i, i ≠ l → σ' 10 0 1 i = r 10 0 1 i) → (∀ i, ¬ (24 * l ≤ i ∧ i < 24 * l + 24) → σ' 10 0 0 i = r 10 0 0 i) → (∀ q, q < p ∨ p + sp_new s ≤ q → σ' 10 0 0 (24 * l + q) = r 10 0 0 (24 * l + q)) → (0 ≤ s → ∀ q, p ≤ q → q < p + 5 → σ' 10 0 0 (24 * l + q) = ox_sa s.toNat (q - p)) → oy_fr oy_m3 σ σ' ∧ oy_M (sp_put T l (sp_ws (oy_ln T l) s p (sp_old (oy_ln T l)))) σ' := by
    intro σ' a1 a2 a3 a4 a5 a6
    refine ⟨((f1.mono (fun c j h => oy_sp_3 h)).tr (fr.mono (fun c j h => oy_mx1_3 h))).tr (a1.mono (fun c j h => oy_mx1_3 h)), om_putM hT M1 ?_ (fun i hi => (a3 i hi).trans (r2 i hi)) ?_ (fun i hi => (a4 i hi).trans (r3 i hi)) (fun q hq => ?_)⟩
    · rw [a1 10 0 2 0 rfl, fr 10 0 2 0 rfl]
    · rw [a2, r1, sp_ws_len]
      rfl
    · rw [sp_ws_len] at hq
      rw [sp_ws_wk hq]
      by_cases q1 : q < p
      · rw [if_pos q1, a5 q (Or.inl q1), r4 q q1]
        exact hgp q (by omega)
      rw [if_neg q1]
      by_cases q2 : 0 ≤ s ∧ q < p + 5
      · rw [if_pos q2]
        exact a6 q2.1 q (by omega) q2.2
      · have hq3 : p + sp_new s ≤ q := by
          rw [hn5]
          split <;> omega
        have hq4 : q < (oy_ln T l).length - sp_old (oy_ln T l) + sp_new s := hq
        rw [if_neg q2, a5 q (Or.inr hq3), r5 q hq3 hq4]
        exact hgp _ (by omega)
  by_cases hs0 : 0 ≤ s
  · obtain ⟨n, rfl⟩ : ∃ n : Nat, s = n := ⟨s.toNat, by omega⟩
    have hn : sp_new (n : Int) = 5 := by rw [hn5, if_neg (by omega)]
    have er' : ∀ d : Int, (sp_old (oy_ln T l) : Int) = d → F_Mod_stretch (l : Int) (p : Int) (ox_w (5 - d)) σ1 = some r := fun d hd => by
      rw [hn, hd] at er
      exact er
    have key : ∀ d : Int, (sp_old (oy_ln T l) : Int) = d → ∃ σ', J_Mod_write_37 (l : Int) (n : Int) (p : Int) d 5 (p : Int) (l : Int) σ1 = some σ' ∧ oy_fr oy_m3 σ σ' ∧ oy_M (sp_put T l (sp_ws (oy_ln T l) (n : Int) p (sp_old (oy_ln T l)))) σ' := by
      intro d hd
      refine ⟨_, om_word5 (by omega) (by omega) (by omega) d σ1 r (er' d hd), fin _ ?_ ?_ (fun i hi => ?_) (fun i hi => ?_) (fun q hq => ?_) (fun _ q hq1 hq2 => ?_)⟩
      · exact ((((oy_fr.rf.up rfl).up rfl).up rfl).up rfl).up rfl
      · rw [oy_up_ne (by decide), oy_up_ne (by decide), oy_up_ne (by decide), oy_up_ne (by decide), oy_up_ne (by decide)]
      · rw [oy_up_ne (by decide), oy_up_ne (by decide), oy_up_ne (by decide), oy_up_ne (by decide), oy_up_ne (by decide)]
      · rw [oy_up_ni (by omega), oy_up_ni (by omega), oy_up_ni (by omega), oy_up_ni (by omega), oy_up_ni (by omega)]
      · rw [hn] at hq
        rw [oy_up_ni (by omega), oy_up_ni (by omega), oy_up_ni (by omega), oy_up_ni (by omega), oy_up_ni (by omega)]
      · rw [Int.toNat_natCast]
        have hc : q = p ∨ q = p + 1 ∨ q = p + 2 ∨ q = p + 3 ∨ q = p + 4 := by omega
        rcases hc with rfl | rfl | rfl | rfl | rfl
        · rw [oy_up_ni (by omega), oy_up_ni (by omega), oy_up_ni (by omega), oy_up_ni (by omega), oy_up_same, Nat.sub_self]
        · have e2 : p + 1 - p = 1 := by omega
          rw [oy_up_ni (by omega), oy_up_ni (by omega), oy_up_ni (by omega), e2]
          exact oy_up_same
        · have e2 : p + 2 - p = 2 := by omega
          rw [oy_up_ni (by omega), oy_up_ni (by omega), e2]
          exact oy_up_same
        · have e2 : p + 3 - p = 3 := by omega
          rw [oy_up_ni (by omega), e2]
          exact oy_up_same
        · have e2 : p + 4 - p = 4 := by omega
          rw [e2]
          exact oy_up_same
    rw [if_pos (by omega)]
    by_cases hd : 0 ≤ sp_state (oy_ln T l) p
    · rw [if_pos (show 0 ≤ σ1 10 0 13 0 by rw [g13]; exact hd)]
      exact key 5 (by rw [ho5, if_neg (by omega)]; rfl)
    · rw [if_neg (show ¬ 0 ≤ σ1 10 0 13 0 by rw [g13]; exact hd)]
      exact key 0 (by rw [ho5, if_pos (by omega)]; rfl)
  · have hn : sp_new s = 0 := by rw [hn5, if_pos (by omega)]
    have key : ∀ d : Int, (sp_old (oy_ln T l) : Int) = d → ∃ σ', J_Mod_write_37 (l : Int) s (p : Int) d 0 (p : Int) (l : Int) σ1 = some σ' ∧ oy_fr oy_m3 σ σ' ∧ oy_M (sp_put T l (sp_ws (oy_ln T l) s p (sp_old (oy_ln T l)))) σ' := by
      intro d hd
      rw [hn, hd] at er
      have er2 : F_Mod_stretch (l : Int) (p : Int) (ox_w (0 - d)) σ1 = some r := er
      unfold J_Mod_write_37 J_Mod_write_188
      rw [er2, Option.bind_some, if_pos (by omega)]
      exact ⟨r, rfl, fin r oy_fr.rf rfl (fun i hi => rfl) (fun i hi => rfl) (fun q hq => rfl) (fun h => absurd h hs0)⟩
    rw [if_neg hs0]
    by_cases hd : 0 ≤ sp_state (oy_ln T l) p
    · rw [if_pos (show 0 ≤ σ1 10 0 13 0 by rw [g13]; exact hd)]
      exact key 5 (by rw [ho5, if_neg (by omega)]; rfl)
    · rw [if_neg (show ¬ 0 ≤ σ1 10 0 13 0 by rw [g13]; exact hd)]
      exact key 0 (by rw [ho5, if_pos (by omega)]; rfl)
/-! the class -/
theorem oc_addl {k l : Nat} {v : Int} (hv : 0 ≤ v ∧ v ≤ 999999) : ∀ (f n : Nat) (T : oy_T) (σ : ox_H), oy_okL k T → oy_L k T σ → σ 1 k 1 0 = ox_wd k → l < T.length → (oy_ln T l).length + (sp_dr v f).length ≤ ox_wd k → f ≤ 7 → f < n → ∃ σ', ox_lp (B_Lin_addNumber_20 k (l : Int) v) n (oy_u f, σ) = some σ' ∧ oy_ed k f (sp_put T l (oy_ln T l ++ sp_dr v f)) σ σ'
  | _, 0, _, _, _, _, _, _, _, _, h => absurd h (Nat.not_lt_zero _)
  | 0, n + 1, T, σ, hT, hL, hw, hl, h1, h2, h3 => by
    refine ⟨σ, oy_lp_m ?_, ?_⟩
    · unfold B_Lin_addNumber_20 J_Lin_addNumber_63
      dsimp only
      rw [if_pos (show oy_u 0 ≤ 0 from Int.le_refl _)]
    · rw [sp_dr, List.append_nil, sp_put_self]
      exact oy_ed.rf hL
  | f + 1, n + 1, T, σ, hT, hL, hw, hl, h1, h2, h3 => by
    have hp := oy_p10 f
    have hd := sp_dgt_in (v := v) (by omega) f
    have hd10 : Nat → ox_w (Int.tdiv (10 ^ f) 10) = oy_u f := fun _ => oy_u_d (by omega)
    by_cases q : 10 ^ f ≤ v ∨ f = 0
    · have es : sp_dr v (f + 1) = sp_dgt v f :: sp_dr v f := by rw [sp_dr, if_pos q]
      rw [es, List.length_cons] at h1
      obtain ⟨σ1, e1, d1⟩ := oc_addE hT hL hw hl (x := sp_dgt v f) (by omega) (by omega)
      have h37 : J_Lin_addNumber_37 k (l : Int) v (10 ^ f) σ = some (.inl (oy_u f, σ1)) := by
        have e1' : F_Lin_add k (l : Int) (ox_w (48 + Int.tmod (ox_w (Int.tdiv v (10 ^ f))) 10) % 65536) σ = some σ1 := by
          have : ox_w (48 + Int.tmod (ox_w (Int.tdiv v (10 ^ f))) 10) = sp_dgt v f := rfl
          rw [this, Int.emod_eq_of_lt (by omega) (by omega)]
          exact e1
        unfold J_Lin_addNumber_37 J_Lin_addNumber_53
        rw [if_neg (by omega), e1', Option.bind_some, (hd10 0)]
      have hB : B_Lin_addNumber_20 k (l : Int) v (10 ^ f, σ) = some (.inl (oy_u f, σ1)) := by
        unfold B_Lin_addNumber_20
        dsimp only
        rw [if_neg (by omega)]
        by_cases z : (10 : Int) ^ f ≤ v
        · rw [if_pos z, h37]
        · rw [if_neg z, if_pos (by
            rcases q with q | q
            · exact absurd q z
            · rw [q]; rfl), h37]
      have g1 : oy_good k (oy_ln T l ++ [sp_dgt v f]) := oy_good_app (oy_good_ln hT l) (by omega) (by omega)
      obtain ⟨σ', e', d'⟩ := oc_addl hv f n (sp_put T l (oy_ln T l ++ [sp_dgt v f])) σ1 (sp_put_ok hT g1) d1.2.1 (d1.w.1.trans hw) (by rw [sp_put_len]; exact hl) (by rw [sp_put_at hl, List.length_append]; show _ + 1 + _ ≤ _; omega) (by omega) (by omega)
      refine ⟨σ', (oy_lp_l hB).trans e', ?_⟩
      rw [sp_put_at hl, sp_put_put, List.append_assoc] at d'
      rw [es]
      exact (d1.tr d').mono (by omega)
    · have es : sp_dr v (f + 1) = sp_dr v f := by rw [sp_dr, if_neg q]
      rw [es] at h1 ⊢
      have hf1 : ¬ (10 : Int) ^ f = 1 := by
        cases f with
        | zero => exact absurd (Or.inr rfl) q
        | succ g =>
          have hg1 := oy_p10 g
          rw [Int.pow_succ]
          omega
      have hB : B_Lin_addNumber_20 k (l : Int) v (10 ^ f, σ) = some (.inl (oy_u f, σ)) := by
        unfold B_Lin_addNumber_20 J_Lin_addNumber_53
        dsimp only
        rw [if_neg (by omega), if_neg (fun z => q (Or.inl z)), if_neg hf1, (hd10 0)]
      obtain ⟨σ', e', d'⟩ := oc_addl hv f n T σ hT hL hw hl h1 (by omega) (by omega)
      exact ⟨σ', (oy_lp_l hB).trans e', d'.mono (by omega)⟩
theorem oc_num0 {k l : Nat} {v : Int} (hv : -999999 ≤ v ∧ v ≤ 999999) (hT : oy_okL k T) (hL : oy_L k T σ) (hw : σ 1 k 1 0 = ox_wd k) (hl : l < T.length) (hr : (oy_ln T l).length + (sp_num v).length ≤ ox_wd k) : ∃ σ', F_Lin_addNumber k (l : Int) v σ = some σ' ∧ oy_ed k 8 (sp_put T l (oy_ln T l ++ sp_num v)) σ σ' := by
  have h6 : ox_c 1000000 0 = 10 ^ 6 := by decide
  unfold F_Lin_addNumber J_Lin_addNumber_11 J_Lin_addNumber_20
  by_cases q : v < 0
  · have es : sp_num v = 45 :: sp_dr (-v) 7 := by unfold sp_num; rw [if_pos q]
    rw [es, List.length_cons] at hr
    obtain ⟨σ1, e1, d1⟩ := oc_addE hT hL hw hl (x := 45) (by omega) (by decide)
    have g1 : oy_good k (oy_ln T l ++ [45]) := oy_good_app (oy_good_ln hT l) (by omega) (by decide)
    obtain ⟨σ', e', d'⟩ := oc_addl (k := k) (l := l) (v := -v) (by omega) 7 ox_fu (sp_put T l (oy_ln T l ++ [45])) σ1 (sp_put_ok hT g1) d1.2.1 (d1.w.1.trans hw) (by rw [sp_put_len]; exact hl) (by rw [sp_put_at hl, List.length_append]; show _ + 1 + _ ≤ _; omega) (by omega) (by show 7 < 100000; omega)
    have en : Nat → ox_w (0 - v) = -v := fun _ => by rw [oy_w (by omega) (by omega)]; omega
    rw [if_neg (by omega), e1, Option.bind_some, if_neg (by omega), (en 0), h6]
    refine ⟨σ', e', ?_⟩
    rw [sp_put_at hl, sp_put_put, List.append_assoc] at d'
    rw [es]
    exact (d1.tr d').mono (by omega)
  · have es : sp_num v = sp_dr v 7 := by unfold sp_num; rw [if_neg q]
    rw [es] at hr ⊢
    obtain ⟨σ', e', d'⟩ := oc_addl (k := k) (l := l) (v := v) (by omega) 7 ox_fu T σ hT hL hw hl hr (by omega) (by show 7 < 100000; omega)
    rw [if_pos (by omega), if_pos (by omega), h6]
    exact ⟨σ', e', d'.mono (by omega)⟩
theorem oc_wordl {k l w : Nat} (hw5 : w < 4 ∨ w = 5) (hsl : ox_sl w ≤ 6) (hsa : ∀ i, i < ox_sl w → 32 ≤ ox_sa w i ∧ ox_sa w i ≤ 126) : ∀ (f i n : Nat) (T : oy_T) (σ : ox_H), oy_okL k T → oy_L k T σ → σ 1 k 1 0 = ox_wd k → l < T.length → (oy_ln T l).length + f ≤ ox_wd k → i + f = ox_sl w → f < n → ∃ σ', ox_lp (B_Lin_addWord_2 k (l : Int) w) n ((i : Int), σ) = some σ' ∧ oy_ed k f (sp_put T l (oy_ln T l ++ sp_wf w f i)) σ σ'
  | _, _, 0, _, _, _, _, _, _, _, _, h => absurd h (Nat.not_lt_zero _)
  | 0, i, n + 1, T, σ, hT, hL, hw, hl, h1, h2, h3 => by
    refine ⟨σ, oy_lp_m ?_, ?_⟩
    · unfold B_Lin_addWord_2 J_Lin_addWord_26
      dsimp only
      rw [if_pos (by omega)]
    · rw [sp_wf, List.append_nil, sp_put_self]
      exact oy_ed.rf hL
  | f + 1, i, n + 1, T, σ, hT, hL, hw, hl, h1, h2, h3 => by
    have hx := hsa i (by omega)
    obtain ⟨σ1, e1, d1⟩ := oc_addE hT hL hw hl (x := ox_sa w i) (by omega) hx
    have hB : B_Lin_addWord_2 k (l : Int) w ((i : Int), σ) = some (.inl (((i + 1 : Nat) : Int), σ1)) := by
      unfold B_Lin_addWord_2
      dsimp only
      rw [if_neg (by omega), if_pos (by omega), Int.toNat_natCast, e1, Option.bind_some, oy_w1 (by omega)]
    have g1 : oy_good k (oy_ln T l ++ [ox_sa w i]) := oy_good_app (oy_good_ln hT l) (by omega) hx
    obtain ⟨σ', e', d'⟩ := oc_wordl hw5 hsl hsa f (i + 1) n (sp_put T l (oy_ln T l ++ [ox_sa w i])) σ1 (sp_put_ok hT g1) d1.2.1 (d1.w.1.trans hw) (by rw [sp_put_len]; exact hl) (by rw [sp_put_at hl, List.length_append]; show _ + 1 + _ ≤ _; omega) (by omega) (by omega)
    refine ⟨σ', (oy_lp_l hB).trans e', ?_⟩
    rw [sp_put_at hl, sp_put_put, List.append_assoc] at d'
    exact (d1.tr d').mono (by omega)
end OYF8
