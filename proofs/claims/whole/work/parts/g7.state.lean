/-! ===== states set: the class ===== -/
theorem oy_same_H {w w' : List Int} (hH : sp_isH w) (h : ∀ i, i ≤ sp_stars w → oy_wk w' i = oy_wk w i) : sp_isH w' ∧ sp_stars w' = sp_stars w := by
  have e := sp_stars_eq (w := w') (c := sp_stars w) (by have := hH.2.1; omega) (fun i hi => by
    rw [h i (by omega)]
    exact sp_stars_lt hi) (by rw [h _ (Nat.le_refl _), hH.2.2]; decide)
  exact ⟨⟨by rw [e]; exact hH.1, by rw [e]; exact hH.2.1, by rw [e, h _ (Nat.le_refl _)]; exact hH.2.2⟩, e⟩
theorem sp_cut_len {w : List Int} {p m : Nat} : (sp_cut w p m).length = w.length - m := oy_mk_len
theorem sp_cut_wk {w : List Int} {p m i : Nat} (hi : i < w.length - m) : oy_wk (sp_cut w p m) i = if i < p then oy_wk w i else oy_wk w (i + m) := by
  unfold sp_cut
  rw [oy_wk_mk, if_pos hi]
theorem sp_cut_0 {w : List Int} {p : Nat} : sp_cut w p 0 = w := by
  refine oy_ext sp_cut_len (fun i hi => ?_)
  rw [sp_cut_len] at hi
  rw [sp_cut_wk hi, Nat.add_zero]
  split <;> rfl
theorem sp_cut_all {w : List Int} : sp_cut w 0 w.length = [] := List.length_eq_zero_iff.mp (by rw [sp_cut_len, Nat.sub_self])
theorem sp_ws_H {w : List Int} {s : Int} (hH : sp_isH w) : sp_isH (sp_ws w s (sp_stars w + 1) (sp_old w)) ∧ sp_stars (sp_ws w s (sp_stars w + 1) (sp_old w)) = sp_stars w := by
  have hin := sp_old_in hH
  refine oy_same_H hH (fun i hi => ?_)
  rw [sp_ws_wk (by omega), if_pos (by omega)]
theorem sp_pin_len {w : List Int} {p : Nat} {x : Int} : (sp_pin w p x).length = w.length + 1 := oy_mk_len
/-- a word put in, so many letters of it -/
def sp_pw (w : List Int) (p wd i : Nat) : List Int := oy_mk (w.length + i) (fun q => if q < p then oy_wk w q else if q < p + i then ox_sa wd (q - p) else oy_wk w (q - i))
theorem sp_pw_len {w : List Int} {p wd i : Nat} : (sp_pw w p wd i).length = w.length + i := oy_mk_len
theorem sp_pw_wk {w : List Int} {p wd i q : Nat} (hq : q < w.length + i) : oy_wk (sp_pw w p wd i) q = if q < p then oy_wk w q else if q < p + i then ox_sa wd (q - p) else oy_wk w (q - i) := by
  unfold sp_pw
  rw [oy_wk_mk, if_pos hq]
theorem sp_pw_0 {w : List Int} {p wd : Nat} : sp_pw w p wd 0 = w := by
  refine oy_ext sp_pw_len (fun q hq => ?_)
  rw [sp_pw_len] at hq
  rw [sp_pw_wk hq]
  by_cases z : q < p
  · rw [if_pos z]
  · rw [if_neg z, if_neg (by omega)]
    rfl
theorem sp_pw_1 {w : List Int} {p wd i : Nat} (hp : p ≤ w.length) : sp_pin (sp_pw w p wd i) (p + i) (ox_sa wd i) = sp_pw w p wd (i + 1) := by
  refine oy_ext (by rw [sp_pin_len, sp_pw_len, sp_pw_len]; omega) (fun q hq => ?_)
  rw [sp_pin_len, sp_pw_len] at hq
  rw [sp_pin_wk (by rw [sp_pw_len]; exact hq), sp_pw_wk (i := i + 1) (by omega)]
  by_cases z1 : q < p + i
  · rw [if_pos z1, sp_pw_wk (by omega)]
    by_cases z2 : q < p
    · rw [if_pos z2, if_pos z2]
    · rw [if_neg z2, if_neg z2, if_pos z1, if_pos (by omega)]
  · rw [if_neg z1, if_neg (show ¬ q < p by omega)]
    by_cases z2 : q = p + i
    · have e : q - p = i := by omega
      rw [if_pos z2, if_pos (by omega), e]
    · have e : q - 1 - i = q - (i + 1) := by omega
      rw [if_neg z2, sp_pw_wk (by omega), if_neg (by omega), if_neg (by omega), if_neg (by omega), e]
theorem sp_pw_ws {w : List Int} {s : Int} {p old wd n : Nat} (ho : p + old ≤ w.length) (h : (0 ≤ s ∧ wd = s.toNat ∧ n = 5) ∨ (s < 0 ∧ n = 0)) : sp_pw (sp_cut w p old) p wd n = sp_ws w s p old := by
  have hn : (if s < 0 then 0 else 5) = n := by split <;> omega
  refine oy_ext (by rw [sp_pw_len, sp_cut_len, sp_ws_len, hn]) (fun q hq => ?_)
  rw [sp_pw_len, sp_cut_len] at hq
  rw [sp_pw_wk (by rw [sp_cut_len]; exact hq), sp_ws_wk (by rw [hn]; exact hq), hn]
  by_cases z : q < p
  · rw [if_pos z, if_pos z, sp_cut_wk (by omega), if_pos z]
  rw [if_neg z, if_neg z]
  by_cases z2 : q < p + n
  · rcases h with ⟨h1, h2, h3⟩ | ⟨h1, h2⟩
    · rw [if_pos z2, if_pos ⟨h1, by omega⟩, h2]
    · omega
  · rw [if_neg z2, if_neg (by omega), sp_cut_wk (by omega), if_neg (by omega)]
theorem sp_dgs_len {v : Int} (hv : v ≤ 9999) : (sp_dgs v).length ≤ 4 := by
  have h := sp_dr_lt (v := v) 2 3 (by show v < 10000; omega)
  unfold sp_dgs
  rw [h]
  exact sp_dr_le 4
theorem sp_dr_good {k : Nat} {v : Int} (hv : 0 ≤ v ∧ v ≤ 999999) : ∀ f, f ≤ 20 → oy_good k (sp_dr v f)
  | 0, _ => oy_good_nil
  | f + 1, hf => by
    have hd := sp_dgt_in (v := v) (by omega) f
    have ih := sp_dr_good (k := k) hv f (by omega)
    have hl := sp_dr_le (v := v) (f + 1)
    have h24 := oy_wdk k
    refine ⟨by omega, fun x hx => ?_⟩
    rw [sp_dr] at hx
    split at hx
    · rcases List.mem_cons.mp hx with h | h
      · omega
      · exact ih.2 x h
    · exact ih.2 x hx
theorem oy_good_app2 {k : Nat} {w w' : List Int} (h : oy_good k w) (h' : oy_good k w') (hl : w.length + w'.length ≤ ox_wd k) : oy_good k (w ++ w') := by
  refine ⟨by rw [List.length_append]; exact hl, fun x hx => ?_⟩
  rcases List.mem_append.mp hx with h1 | h1
  · exact h.2 x h1
  · exact h'.2 x h1
/-- a DATE's line written -/
def sp_dw (a b d m : Int) : List Int := (([64] ++ sp_dgs a ++ (if b = a then [] else [45] ++ sp_dgs b)) ++ [43] ++ sp_dgs d) ++ (if m = 0 then [] else [m])
/-- the day that a date goes on to -/
def sp_nd (today : Int) (v : Int × Int × Int × Int) : Int := if v.2.2.2 = 46 then today + v.2.2.1 else if v.2.2.2 = 43 ∧ v.1 ≤ today then v.1 + v.2.2.1 * (Int.tdiv (today - v.1) v.2.2.1 + 1) else v.1 + v.2.2.1
theorem sp_date_mark {w : List Int} {v : Int × Int × Int × Int} (h : sp_date w = some v) : (v.2.2.2 = 0 ∨ v.2.2.2 = 43 ∨ v.2.2.2 = 46) ∧ oy_wk w 0 = 64 := by
  unfold sp_date at h
  by_cases c1 : oy_wk w 0 = 64 ∧ 0 ≤ (sp_nu w 1).2 ∧ (sp_nu w 1).2 ≤ (sp_d2 w).2
  rotate_left
  · rw [if_neg c1] at h; cases h
  rw [if_pos c1] at h
  refine ⟨?_, c1.1⟩
  by_cases c2 : oy_wk w (sp_d2 w).1 = 43
  · rw [if_pos c2] at h
    by_cases c3 : oy_wk w (sp_d3 w).1 = 43 ∨ oy_wk w (sp_d3 w).1 = 46
    · rw [if_pos c3] at h
      split at h
      · obtain rfl := Option.some.inj h
        exact Or.inr c3
      · cases h
    · rw [if_neg c3] at h
      split at h
      · next c4 =>
        obtain rfl := Option.some.inj h
        exact Or.inl (oy_wk_ge (by omega))
      · cases h
  · rw [if_neg c2] at h
    split at h
    · obtain rfl := Option.some.inj h
      exact Or.inl rfl
    · cases h
theorem sp_nd_in {today : Int} {w : List Int} {v : Int × Int × Int × Int} (h : sp_date w = some v) (ht : 0 ≤ today ∧ today ≤ 9999) (hd : 0 < v.2.2.1) : 0 ≤ sp_nd today v ∧ sp_nd today v ≤ 30000 ∧ (v.1 ≤ today → 0 ≤ v.2.2.1 * (Int.tdiv (today - v.1) v.2.2.1) ∧ v.2.2.1 * (Int.tdiv (today - v.1) v.2.2.1) ≤ today - v.1 ∧ today - v.1 < v.2.2.1 * (Int.tdiv (today - v.1) v.2.2.1) + v.2.2.1 ∧ 0 ≤ Int.tdiv (today - v.1) v.2.2.1 ∧ Int.tdiv (today - v.1) v.2.2.1 ≤ today - v.1) := by
  have hin := sp_date_in h
  have key : v.1 ≤ today → 0 ≤ v.2.2.1 * (Int.tdiv (today - v.1) v.2.2.1) ∧ v.2.2.1 * (Int.tdiv (today - v.1) v.2.2.1) ≤ today - v.1 ∧ today - v.1 < v.2.2.1 * (Int.tdiv (today - v.1) v.2.2.1) + v.2.2.1 ∧ 0 ≤ Int.tdiv (today - v.1) v.2.2.1 ∧ Int.tdiv (today - v.1) v.2.2.1 ≤ today - v.1 := by
    intro h1
    have h2 := oy_tm (x := today - v.1) (y := v.2.2.1) (by omega) hd
    have h3 := Int.mul_tdiv_add_tmod (today - v.1) v.2.2.1
    have h4 : 0 ≤ Int.tdiv (today - v.1) v.2.2.1 := Int.tdiv_nonneg (by omega) (by omega)
    have h5 : Int.tdiv (today - v.1) v.2.2.1 ≤ today - v.1 := Int.tdiv_le_self _ (by omega)
    have h6 : 0 ≤ v.2.2.1 * (Int.tdiv (today - v.1) v.2.2.1) := Int.mul_nonneg (by omega) h4
    generalize v.2.2.1 * Int.tdiv (today - v.1) v.2.2.1 = x at h3 h6 ⊢
    omega
  refine ⟨?_, ?_, key⟩
  · unfold sp_nd
    split
    · omega
    · split
      · next c =>
        have := key c.2
        rw [Int.mul_add, Int.mul_one]
        omega
      · omega
  · unfold sp_nd
    split
    · omega
    · split
      · next c =>
        have := key c.2
        rw [Int.mul_add, Int.mul_one]
        omega
      · omega
section OYG7
variable {T : oy_T} {σ : ox_H}
theorem oc_apE {k l N : Nat} {w : List Int} {τ : ox_H} {x : Int} (hT : oy_okL k T) (hg : oy_good k w) (hl : l < T.length) (h : oy_ed k N (sp_put T l w) σ τ) (hw : σ 1 k 1 0 = ox_wd k) (hr : w.length < ox_wd k) (hx : 32 ≤ x ∧ x ≤ 126) : ∃ τ', F_Lin_add k (l : Int) x τ = some τ' ∧ oy_ed k (N + 1) (sp_put T l (w ++ [x])) σ τ' ∧ oy_good k (w ++ [x]) := by
  have hat : oy_ln (sp_put T l w) l = w := sp_put_at hl
  obtain ⟨τ', e', d'⟩ := oc_addE (x := x) (sp_put_ok hT hg) h.2.1 (h.w.1.trans hw) (by rw [sp_put_len]; exact hl) (by rw [hat]; exact hr) hx
  rw [hat, sp_put_put] at d'
  exact ⟨τ', e', h.tr d', oy_good_app hg hr hx⟩
theorem oc_apN {k l N : Nat} {w : List Int} {τ : ox_H} {v : Int} (hT : oy_okL k T) (hg : oy_good k w) (hl : l < T.length) (h : oy_ed k N (sp_put T l w) σ τ) (hw : σ 1 k 1 0 = ox_wd k) (hv : 0 ≤ v ∧ v ≤ 9999) (hr : w.length + 4 ≤ ox_wd k) : ∃ τ', F_Lin_addNumber k (l : Int) v τ = some τ' ∧ oy_ed k (N + 8) (sp_put T l (w ++ sp_dgs v)) σ τ' ∧ oy_good k (w ++ sp_dgs v) := by
  have hat : oy_ln (sp_put T l w) l = w := sp_put_at hl
  have hd := sp_dgs_len (v := v) hv.2
  have en := sp_num_dgs (v := v) (by omega)
  obtain ⟨τ', e', d'⟩ := oc_num0 (v := v) (by omega) (sp_put_ok hT hg) h.2.1 (h.w.1.trans hw) (by rw [sp_put_len]; exact hl) (by rw [hat, en]; omega)
  rw [hat, sp_put_put, en] at d'
  exact ⟨τ', e', h.tr d', oy_good_app2 hg (sp_dr_good (by omega) 6 (by omega)) (by omega)⟩
theorem oc_putState (hT : oy_ok T) (hQ : oy_Q T σ) {e : Nat} (he : e < sp_n T) {s : Int} (hs : -1 ≤ s ∧ s ≤ 3) : (¬ (sp_eln T e).length - sp_old (sp_eln T e) + sp_new s ≤ 24 → F_Out_putState (e : Int) s σ = some (.inl 3, σ)) ∧ ((sp_eln T e).length - sp_old (sp_eln T e) + sp_new s ≤ 24 → ∃ σ', F_Out_putState (e : Int) s σ = some (.inr (), σ') ∧ oy_ed 0 10 (sp_put T (sp_en T e) (sp_ws (sp_eln T e) s (sp_lv T e + 1) (sp_old (sp_eln T e)))) σ σ') := by
  have h60 := hT.1
  have hen := sp_en_lt he
  have h24 := oy_len24 hT (sp_en T e)
  have hin := sp_old_in hen.2
  have hlv := sp_lv_in he
  have e0 : oy_ln T (sp_en T e) = sp_eln T e := rfl
  have e1 : sp_stars (sp_eln T e) = sp_lv T e := rfl
  rw [e0] at h24
  rw [e1] at hin
  have hold : sp_old (sp_eln T e) = if sp_es_st T e < 0 then 0 else 5 := rfl
  have hst := sp_state_cs (sp_eln T e) (sp_lv T e + 1)
  have hst2 : sp_state (sp_eln T e) (sp_lv T e + 1) = sp_es_st T e := rfl
  rw [hst2] at hst
  have hnew : sp_new s = if s < 0 then 0 else 5 := rfl
  have ewl : Nat → ox_w ((sp_lv T e : Int) + 1) = ((sp_lv T e + 1 : Nat) : Int) := fun _ => oy_w1 (by omega)
  /- the word -/
  obtain ⟨wd, hwd, hsl, hsa, hpw⟩ : ∃ wd : Nat, F_Out_stateWord s σ = some wd ∧ ox_sl wd = sp_new s ∧ (∀ i, i < ox_sl wd → 32 ≤ ox_sa wd i ∧ ox_sa wd i ≤ 126) ∧ ((0 ≤ s ∧ wd = s.toNat ∧ sp_new s = 5) ∨ (s < 0 ∧ sp_new s = 0)) := by
    unfold F_Out_stateWord
    have hc : s = -1 ∨ s = 0 ∨ s = 1 ∨ s = 2 ∨ s = 3 := by omega
    rcases hc with rfl | rfl | rfl | rfl | rfl
    · exact ⟨4, rfl, rfl, fun i hi => absurd hi (Nat.not_lt_zero _), Or.inr ⟨by decide, rfl⟩⟩
    · exact ⟨0, rfl, rfl, fun i hi => oy_sa_in 0 (by decide) i hi, Or.inl ⟨by decide, rfl, rfl⟩⟩
    · exact ⟨1, rfl, rfl, fun i hi => oy_sa_in 1 (by decide) i hi, Or.inl ⟨by decide, rfl, rfl⟩⟩
    · exact ⟨2, rfl, rfl, fun i hi => oy_sa_in 2 (by decide) i hi, Or.inl ⟨by decide, rfl, rfl⟩⟩
    · exact ⟨3, rfl, rfl, fun i hi => oy_sa_in 3 (by decide) i hi, Or.inl ⟨by decide, rfl, rfl⟩⟩
  have hnn : sp_new s ≤ 5 := by rcases hpw with h | h <;> omega
  have key : ∀ o : Nat, o = sp_old (sp_eln T e) → (¬ (sp_eln T e).length - sp_old (sp_eln T e) + sp_new s ≤ 24 → J_Out_putState_26 (e : Int) s (sp_en T e : Int) (o : Int) σ = some (.inl 3, σ)) ∧ ((sp_eln T e).length - sp_old (sp_eln T e) + sp_new s ≤ 24 → ∃ σ', J_Out_putState_26 (e : Int) s (sp_en T e : Int) (o : Int) σ = some (.inr (), σ') ∧ oy_ed 0 10 (sp_put T (sp_en T e) (sp_ws (sp_eln T e) s (sp_lv T e + 1) (sp_old (sp_eln T e)))) σ σ') := by
    intro o ho
    rw [← ho] at hin ⊢
    have ho5 : o ≤ 5 := by rw [ho, hold]; split <;> omega
    have ewo : Nat → ox_w (ox_w (((sp_eln T e).length : Int) - (o : Int)) + ((ox_sl wd : Nat) : Int)) = (((sp_eln T e).length - o + sp_new s : Nat) : Int) := fun _ => by rw [hsl, oy_wsb (by omega) (by omega), oy_wn (by omega)]
    have hsz : F_Lin_size 0 (sp_en T e : Int) σ = some (((sp_eln T e).length : Nat) : Int) := oc_size (oy_ok_L hT) hQ.2.1 (sp_en T e)
    unfold J_Out_putState_26
    rw [hwd, Option.bind_some, hsz, Option.bind_some, (ewo 0)]
    refine ⟨fun h => by rw [if_neg (by omega)], fun h => ?_⟩
    rw [if_pos (by omega), oc_elv hT hQ he, Option.bind_some, (ewl 0)]
    /- the old word taken out -/
    have htk : ∃ σ1, F_Lin_takeOut 0 (sp_en T e : Int) ((sp_lv T e + 1 : Nat) : Int) (o : Int) σ = some σ1 ∧ oy_ed 0 1 (sp_put T (sp_en T e) (sp_cut (sp_eln T e) (sp_lv T e + 1) o)) σ σ1 := by
      by_cases z : o = 0
      · refine ⟨σ, ?_, ?_⟩
        · unfold F_Lin_takeOut J_Lin_takeOut_33
          rw [hQ.2.1.1, if_neg (by omega), if_neg (by omega), if_neg (by omega), if_pos (by omega)]
        · rw [z, sp_cut_0, ← e0, sp_put_self]
          exact (oy_ed.rf hQ.2.1).mono (by omega)
      · exact oc_takeOut (oy_ok_L hT) hQ.2.1 hQ.2.2.1 hen.1 (by omega) (by rw [e0]; omega)
    obtain ⟨σ1, x1, d1⟩ := htk
    rw [x1, Option.bind_some]
    have hcl : (sp_cut (sp_eln T e) (sp_lv T e + 1) o).length = (sp_eln T e).length - o := sp_cut_len
    have hcg : oy_good 0 (sp_cut (sp_eln T e) (sp_lv T e + 1) o) := sp_cut_good (oy_24_ok hT (sp_en T e))
    have hloop : ∀ (f i n : Nat) (τ : ox_H), i + f = sp_new s → f < n → oy_ed 0 (1 + i) (sp_put T (sp_en T e) (sp_pw (sp_cut (sp_eln T e) (sp_lv T e + 1) o) (sp_lv T e + 1) wd i)) σ τ → oy_good 0 (sp_pw (sp_cut (sp_eln T e) (sp_lv T e + 1) o) (sp_lv T e + 1) wd i) → ∃ σ', ox_lp (B_Out_putState_94 (sp_en T e : Int) wd ((sp_lv T e + 1 : Nat) : Int)) n ((i : Int), τ) = some (.inr (), σ') ∧ oy_ed 0 (1 + sp_new s) (sp_put T (sp_en T e) (sp_pw (sp_cut (sp_eln T e) (sp_lv T e + 1) o) (sp_lv T e + 1) wd (sp_new s))) σ σ' := by
      intro f
      induction f with
      | zero =>
        intro i n τ h1 h2 h3 h4
        obtain ⟨n, rfl⟩ : ∃ j, n = j + 1 := ⟨n - 1, by omega⟩
        obtain rfl : i = sp_new s := by omega
        refine ⟨τ, oy_lp_m ?_, h3⟩
        unfold B_Out_putState_94 J_Out_putState_130
        dsimp only
        rw [if_pos (by omega)]
      | succ f ih =>
        intro i n τ h1 h2 h3 h4
        obtain ⟨n, rfl⟩ : ∃ j, n = j + 1 := ⟨n - 1, by omega⟩
        have hpl : (sp_pw (sp_cut (sp_eln T e) (sp_lv T e + 1) o) (sp_lv T e + 1) wd i).length = (sp_eln T e).length - o + i := by rw [sp_pw_len, hcl]
        have hat : oy_ln (sp_put T (sp_en T e) (sp_pw (sp_cut (sp_eln T e) (sp_lv T e + 1) o) (sp_lv T e + 1) wd i)) (sp_en T e) = sp_pw (sp_cut (sp_eln T e) (sp_lv T e + 1) o) (sp_lv T e + 1) wd i := sp_put_at hen.1
        obtain ⟨τ1, t1, t2⟩ := oc_putIn (l := sp_en T e) (p := sp_lv T e + 1 + i) (x := ox_sa wd i) (oy_ok_L (oy_ok_put hT h4)) h3.2.1 (h3.w.1.trans hQ.2.2.1) (by rw [sp_put_len]; exact hen.1) (by rw [hat, hpl]; omega) (by rw [hat, hpl]; show _ < 24; omega) (hsa i (by omega))
        rw [hat, sp_put_put, sp_pw_1 (by rw [hcl]; omega)] at t2
        have ewp : Nat → ox_w (((sp_lv T e + 1 : Nat) : Int) + (i : Int)) = ((sp_lv T e + 1 + i : Nat) : Int) := fun _ => oy_wn (by omega)
        have hB : B_Out_putState_94 (sp_en T e : Int) wd ((sp_lv T e + 1 : Nat) : Int) ((i : Int), τ) = some (.inl (((i + 1 : Nat) : Int), τ1)) := by
          unfold B_Out_putState_94
          dsimp only
          rw [if_neg (by omega), if_pos (by omega), Int.toNat_natCast, (ewp 0), t1, Option.bind_some, oy_w1 (by omega)]
        rw [oy_lp_l hB]
        refine ih (i + 1) n τ1 (by omega) (by omega) ((h3.tr t2).mono (by omega)) ?_
        rw [← sp_pw_1 (by rw [hcl]; omega)]
        exact sp_pin_good h4 (by rw [hpl]; show _ < 24; omega) (by rw [hpl]; omega) (hsa i (by omega))
    obtain ⟨σ', y1, y2⟩ := hloop (sp_new s) 0 ox_fu σ1 (by omega) (by show _ < 100000; omega) (by rw [sp_pw_0]; exact d1) (by rw [sp_pw_0]; exact hcg)
    rw [sp_pw_ws hin (by omega)] at y2
    exact ⟨σ', y1, y2.mono (by omega)⟩
  unfold F_Out_putState
  rw [oc_eln hT hQ he, Option.bind_some, oc_est hT hQ he, Option.bind_some]
  by_cases z : sp_es_st T e = -1
  · rw [if_pos z]
    exact key 0 (by rw [hold, if_pos (by omega)])
  · rw [if_neg z]
    exact key 5 (by rw [hold, if_neg (by omega)])
end OYG7
