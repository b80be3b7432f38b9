/-! ===== the call state: the class ===== -/
/-- where an entry's date is that repeats: its line, what it says -/
def sp_rep (T : oy_T) (e : Nat) : Option (Int × Int × Int × Int) := if sp_dl T e < sp_en T (e + 1) then (match sp_date (oy_ln T (sp_dl T e)) with | none => none | some v => if 0 < v.2.2.1 then some v else none) else none
def sp_roomS (T : oy_T) (e : Nat) (s : Int) : Bool := decide ((sp_eln T e).length - sp_old (sp_eln T e) + sp_new s ≤ 24)
def sp_putS (T : oy_T) (e : Nat) (s : Int) : oy_T := sp_put T (sp_en T e) (sp_ws (sp_eln T e) s (sp_lv T e + 1) (sp_old (sp_eln T e)))
def sp_repD (td : Int) (v : Int × Int × Int × Int) : List Int := sp_dw (sp_nd td v) (sp_nd td v + v.2.1 - v.1) v.2.2.1 v.2.2.2
/-- what the text is once an entry has a state; none: it can't have it -/
def sp_stT (T : oy_T) (td : Int) (e : Nat) (s : Int) : Option oy_T :=
  if s = 2 then (if sp_mb T e = true then (match sp_rep T e with
    | none => if sp_roomS T e 2 = true then some (sp_putS T e 2) else none
    | some v => if sp_nd td v + v.2.1 - v.1 ≤ 9999 ∧ sp_roomS T e 0 = true then some (sp_put (sp_putS T e 0) (sp_dl T e) (sp_repD td v)) else none) else none)
  else if sp_roomS T e s = true then some (sp_putS T e s) else none
def sp_state2 (T : oy_T) (td : Int) (e : Nat) (s : Int) : (Nat ⊕ Int) × oy_T := match sp_stT T td e s with
  | none => (.inl 3, T)
  | some T' => (.inr (sp_es_st T' e), T')
def sp_statec (T : oy_T) (td a s : Int) : (Nat ⊕ Int) × oy_T := if 0 ≤ a ∧ a < sp_n T then (if -1 ≤ s ∧ s ≤ 3 then sp_state2 T td a.toNat s else (.inl 2, T)) else (.inl 1, T)
theorem sp_dl_in {T : oy_T} {e : Nat} (he : e < sp_n T) (h : sp_dl T e < sp_en T (e + 1)) : sp_en T e < sp_dl T e ∧ sp_dl T e < T.length := by
  have h1 := sp_fi_in (fun l => (sp_date (oy_ln T l)).isSome) (sp_en T (e + 1) - (sp_en T e + 1)) (sp_en T e + 1)
  have h2 := sp_en_le (T := T) (e + 1)
  have e1 : sp_dl T e = sp_fi (fun l => (sp_date (oy_ln T l)).isSome) (sp_en T (e + 1) - (sp_en T e + 1)) (sp_en T e + 1) := rfl
  omega
theorem sp_rep_some {T : oy_T} {e : Nat} {v : Int × Int × Int × Int} (h : sp_rep T e = some v) : sp_dl T e < sp_en T (e + 1) ∧ sp_date (oy_ln T (sp_dl T e)) = some v ∧ 0 < v.2.2.1 := by
  unfold sp_rep at h
  by_cases q : sp_dl T e < sp_en T (e + 1)
  · rw [if_pos q] at h
    cases hd : sp_date (oy_ln T (sp_dl T e)) with
    | none => rw [hd] at h; cases h
    | some u =>
      rw [hd] at h
      dsimp only at h
      by_cases z : 0 < u.2.2.1
      · rw [if_pos z] at h
        obtain rfl := Option.some.inj h
        exact ⟨q, rfl, z⟩
      · rw [if_neg z] at h; cases h
  · rw [if_neg q] at h; cases h
theorem sp_putS_ok {T : oy_T} {e : Nat} {s : Int} (hT : oy_ok T) (he : e < sp_n T) (hs : s ≤ 3) (hr : sp_roomS T e s = true) : oy_ok (sp_putS T e s) := oy_ok_put hT (sp_ws_good (oy_24_ok hT (sp_en T e)) hs (sp_old_in (sp_en_lt he).2) (of_decide_eq_true hr))
theorem oy_se_put {T : oy_T} {l : Nat} {w : List Int} (h : sp_isH w ↔ sp_isH (oy_ln T l)) : oy_se T (sp_put T l w) := by
  refine ⟨sp_put_len, fun x hx => ?_⟩
  rw [sp_put_ln hx]
  by_cases q : x = l
  · rw [if_pos q, q]
    exact h
  · rw [if_neg q]
theorem oy_se.tr {T T' T'' : oy_T} (h : oy_se T T') (h' : oy_se T' T'') : oy_se T T'' := ⟨h'.1.trans h.1, fun l hl => (h'.2 l (by rw [h.1]; exact hl)).trans (h.2 l hl)⟩
theorem sp_putS_se {T : oy_T} {e : Nat} {s : Int} (he : e < sp_n T) : oy_se T (sp_putS T e s) := oy_se_put ⟨fun _ => (sp_en_lt he).2, fun h => (sp_ws_H h).1⟩
theorem sp_dw_0 {a b d m : Int} : oy_wk (sp_dw a b d m) 0 = 64 := rfl
theorem sp_not_H {w : List Int} (h : oy_wk w 0 ≠ 42) : ¬ sp_isH w := fun q => h (sp_isH_0 q)
theorem sp_stT_ok {T T' : oy_T} {td : Int} {e : Nat} {s : Int} (hT : oy_ok T) (he : e < sp_n T) (hs : -1 ≤ s ∧ s ≤ 3) (htd : 0 ≤ td ∧ td ≤ 9999) (h : sp_stT T td e s = some T') : oy_ok T' ∧ oy_se T T' := by
  unfold sp_stT at h
  by_cases h2 : s = 2
  rotate_left
  · rw [if_neg h2] at h
    by_cases hr : sp_roomS T e s = true
    · rw [if_pos hr] at h
      obtain rfl := Option.some.inj h
      exact ⟨sp_putS_ok hT he hs.2 hr, sp_putS_se he⟩
    · rw [if_neg hr] at h; cases h
  rw [if_pos h2] at h
  by_cases hm : sp_mb T e = true
  rotate_left
  · rw [if_neg hm] at h; cases h
  rw [if_pos hm] at h
  cases hp : sp_rep T e with
  | none =>
    rw [hp] at h
    dsimp only at h
    by_cases hr : sp_roomS T e 2 = true
    · rw [if_pos hr] at h
      obtain rfl := Option.some.inj h
      exact ⟨sp_putS_ok hT he (by decide) hr, sp_putS_se he⟩
    · rw [if_neg hr] at h; cases h
  | some v =>
    rw [hp] at h
    dsimp only at h
    obtain ⟨r1, r2, r3⟩ := sp_rep_some hp
    by_cases hr : sp_nd td v + v.2.1 - v.1 ≤ 9999 ∧ sp_roomS T e 0 = true
    rotate_left
    · rw [if_neg hr] at h; cases h
    rw [if_pos hr] at h
    obtain rfl := Option.some.inj h
    have hin := sp_date_in r2
    have hnd := sp_nd_in r2 htd r3
    have hmk := sp_date_mark r2
    have hdl := sp_dl_in he r1
    have l1 := sp_dgs_len (v := sp_nd td v) (by omega)
    have l2 := sp_dgs_len (v := sp_nd td v + v.2.1 - v.1) hr.1
    have l3 := sp_dgs_len (v := v.2.2.1) (by omega)
    refine ⟨oy_ok_put (sp_putS_ok hT he (by decide) hr.2) ?_, (sp_putS_se he).tr (oy_se_put ?_)⟩
    · have g0 : ∀ x, 32 ≤ x ∧ x ≤ 126 → oy_good 0 [x] := fun x hx => ⟨by show 1 ≤ 24; omega, fun y hy => by rw [List.mem_singleton.mp hy]; exact hx⟩
      have gd : ∀ v : Int, 0 ≤ v ∧ v ≤ 9999 → oy_good 0 (sp_dgs v) := fun v hv => sp_dr_good (by omega) 6 (by omega)
      unfold sp_repD sp_dw
      have p1 : oy_good 0 ([64] ++ sp_dgs (sp_nd td v)) := oy_good_app2 (g0 64 (by decide)) (gd _ (by omega)) (by show 1 + _ ≤ 24; omega)
      have p2 : oy_good 0 ([64] ++ sp_dgs (sp_nd td v) ++ (if sp_nd td v + v.2.1 - v.1 = sp_nd td v then [] else [45] ++ sp_dgs (sp_nd td v + v.2.1 - v.1))) ∧ ([64] ++ sp_dgs (sp_nd td v) ++ (if sp_nd td v + v.2.1 - v.1 = sp_nd td v then [] else [45] ++ sp_dgs (sp_nd td v + v.2.1 - v.1))).length ≤ 10 := by
        split
        · rw [List.append_nil, List.length_append]
          exact ⟨p1, by show 1 + _ ≤ 10; omega⟩
        · refine ⟨oy_good_app2 p1 (oy_good_app2 (g0 45 (by decide)) (gd _ (by omega)) (by show 1 + _ ≤ 24; omega)) ?_, ?_⟩
          · rw [List.length_append, List.length_append]
            show 1 + _ + (1 + _) ≤ 24
            omega
          · rw [List.length_append, List.length_append, List.length_append]
            show 1 + _ + (1 + _) ≤ 10
            omega
      have p3 := oy_good_app2 p2.1 (g0 43 (by decide)) (by have := p2.2; show _ + 1 ≤ 24; omega)
      have p4 := oy_good_app2 p3 (gd v.2.2.1 (by omega)) (by rw [List.length_append]; have := p2.2; show _ + 1 + _ ≤ 24; omega)
      by_cases qm : v.2.2.2 = 0
      · rw [if_pos qm, List.append_nil]
        exact p4
      · rw [if_neg qm]
        refine oy_good_app2 p4 (g0 _ (by omega)) ?_
        rw [List.length_append, List.length_append]
        have := p2.2
        show _ + 1 + _ + 1 ≤ 24
        omega
    · have hne : ¬ sp_dl T e = sp_en T e := by omega
      have e9 : oy_ln (sp_putS T e 0) (sp_dl T e) = oy_ln T (sp_dl T e) := by
        unfold sp_putS
        rw [sp_put_ln hdl.2, if_neg hne]
      rw [e9]
      exact ⟨fun q => absurd q (sp_not_H (by show oy_wk (sp_dw _ _ _ _) 0 ≠ 42; rw [sp_dw_0]; decide)), fun q => absurd q (sp_not_H (by rw [hmk.2]; decide))⟩
section OYG8
variable {T : oy_T} {σ : ox_H}
theorem oc_nextDay {k : Nat} {w : List Int} {v : Int × Int × Int × Int} {td : Int} (hv : sp_date w = some v) (htd : 0 ≤ td ∧ td ≤ 9999) (hd : 0 < v.2.2.1) (h3 : σ 4 k 3 0 = v.1) (h5 : σ 4 k 5 0 = v.2.2.1) (h6 : σ 4 k 6 0 = v.2.2.2) : F_Rdg_nextDay k td σ = some (sp_nd td v) := by
  have hin := sp_date_in hv
  have hnd := sp_nd_in hv htd hd
  unfold F_Rdg_nextDay J_Rdg_nextDay_64 sp_nd
  rw [h3, h5]
  by_cases c1 : v.2.2.2 = 46
  · rw [if_pos (show σ 4 k 6 0 = 46 by rw [h6]; exact c1), if_pos c1, oy_w (by omega) (by omega)]
  rw [if_neg (show ¬ σ 4 k 6 0 = 46 by rw [h6]; exact c1), if_neg c1]
  by_cases c2 : v.2.2.2 = 43
  · rw [if_pos (show σ 4 k 6 0 = 43 by rw [h6]; exact c2), if_neg (show ¬ v.2.2.1 ≤ 0 by omega)]
    by_cases c3 : v.1 ≤ td
    · have hx := hnd.2.2 c3
      rw [if_neg (show ¬ td < v.1 by omega), if_neg (show ¬ v.2.2.1 = 0 by omega), if_pos ⟨c2, c3⟩, oy_w (x := td - v.1) (by omega) (by omega), oy_w (x := Int.tdiv (td - v.1) v.2.2.1) (by omega) (by omega), oy_w (x := Int.tdiv (td - v.1) v.2.2.1 + 1) (by omega) (by omega), Int.mul_add, Int.mul_one]
      generalize v.2.2.1 * Int.tdiv (td - v.1) v.2.2.1 = x at hx ⊢
      rw [oy_w (x := x + v.2.2.1) (by omega) (by omega), oy_w (by omega) (by omega)]
    · rw [if_pos (show td < v.1 by omega), if_neg (fun q => c3 q.2), oy_w (by omega) (by omega)]
  · rw [if_neg (show ¬ σ 4 k 6 0 = 43 by rw [h6]; exact c2), if_neg (fun q => c2 q.1), oy_w (by omega) (by omega)]
theorem oc_writeDate {l N : Nat} {τ : ox_H} {k : Nat} {T1 : oy_T} {next last d m : Int} (hT : oy_ok T1) (hl : l < T1.length) (hd : oy_ed 0 N T1 σ τ) (hw : σ 1 0 1 0 = 24) (h5 : σ 4 k 5 0 = d) (h6 : σ 4 k 6 0 = m) (hlen : 1 ≤ (oy_ln T1 l).length) (r1 : 0 ≤ next ∧ next ≤ 9999) (r2 : 0 ≤ last ∧ last ≤ 9999) (r3 : 0 ≤ d ∧ d ≤ 9999) (r4 : m = 0 ∨ m = 43 ∨ m = 46) : ∃ σ', F_Out_writeDate (l : Int) next last k τ = some σ' ∧ oy_ed 0 (N + 30) (sp_put T1 l (sp_dw next last d m)) σ σ' := by
  have l1 := sp_dgs_len (v := next) r1.2
  have l2 := sp_dgs_len (v := last) r2.2
  have l3 := sp_dgs_len (v := d) r3.2
  have keep : ∀ {M : Nat} {T' : oy_T} {ρ : ox_H} {j : Nat}, oy_ed 0 M T' σ ρ → ρ 4 k j 0 = σ 4 k j 0 := fun h => h.1 4 k _ 0 (fun q => absurd q.1 (by decide))
  have hTl := oy_ok_L hT
  obtain ⟨τ1, t1, d1⟩ := oc_takeOut (l := l) (p := 0) (m := (oy_ln T1 l).length) hTl hd.2.1 (hd.w.1.trans hw) hl hlen (by omega)
  rw [sp_cut_all] at d1
  have d1 := hd.tr d1
  have hcl : F_Lin_clear 0 (l : Int) τ = some τ1 := by
    unfold F_Lin_clear
    rw [oc_size hTl hd.2.1, Option.bind_some]
    have t1' : F_Lin_takeOut 0 (l : Int) 0 (((oy_ln T1 l).length : Nat) : Int) τ = some τ1 := t1
    rw [t1', Option.bind_some]
  obtain ⟨τ2, t2, d2, g2⟩ := oc_apE (x := 64) hTl oy_good_nil hl d1 hw (by decide) (by decide)
  obtain ⟨τ3, t3, d3, g3⟩ := oc_apN (v := next) hTl g2 hl d2 hw r1 (by decide)
  unfold F_Out_writeDate
  rw [hcl, Option.bind_some, t2, Option.bind_some, t3, Option.bind_some]
  /- the end -/
  have fin : ∀ (w : List Int) (M : Nat) (ρ : ox_H), M ≤ N + 20 → w.length ≤ 10 → oy_good 0 w → oy_ed 0 M (sp_put T1 l w) σ ρ → ∃ σ', J_Out_writeDate_51 (l : Int) k ρ = some σ' ∧ oy_ed 0 (N + 30) (sp_put T1 l ((w ++ [43] ++ sp_dgs d) ++ (if m = 0 then [] else [m]))) σ σ' := by
    intro w M ρ hM hwl hwg hρ
    obtain ⟨ρ1, x1, y1, z1⟩ := oc_apE (x := 43) hTl hwg hl hρ hw (by show w.length < 24; omega) (by decide)
    obtain ⟨ρ2, x2, y2, z2⟩ := oc_apN (v := d) hTl z1 hl y1 hw r3 (by rw [List.length_append]; show w.length + 1 + 4 ≤ 24; omega)
    unfold J_Out_writeDate_51 J_Out_writeDate_95
    rw [x1, Option.bind_some, keep y1, h5, x2, Option.bind_some]
    by_cases q : m = 0
    · rw [if_pos (show ρ2 4 k 6 0 = 0 by rw [keep y2, h6]; exact q), if_pos q, List.append_nil]
      exact ⟨ρ2, rfl, y2.mono (by omega)⟩
    · obtain ⟨ρ3, x3, y3, z3⟩ := oc_apE (x := m) hTl z2 hl y2 hw (by rw [List.length_append, List.length_append]; show w.length + 1 + _ < 24; omega) (by omega)
      rw [if_neg (show ¬ ρ2 4 k 6 0 = 0 by rw [keep y2, h6]; exact q), keep y2, h6, x3, Option.bind_some, if_neg q]
      exact ⟨ρ3, rfl, y3.mono (by omega)⟩
  unfold sp_dw
  by_cases q : last = next
  · rw [if_pos q, if_pos q, List.append_nil]
    exact fin _ _ τ3 (by omega) (by rw [List.length_append]; show 1 + _ ≤ 10; omega) g3 d3
  · rw [if_neg q, if_neg q]
    obtain ⟨τ4, t4, d4, g4⟩ := oc_apE (x := 45) hTl g3 hl d3 hw (by rw [List.length_append]; show 1 + _ < 24; omega) (by decide)
    obtain ⟨τ5, t5, d5, g5⟩ := oc_apN (v := last) hTl g4 hl d4 hw r2 (by rw [List.length_append, List.length_append]; show 1 + _ + 1 + 4 ≤ 24; omega)
    rw [t4, Option.bind_some, t5, Option.bind_some]
    rw [List.append_assoc] at g5 d5
    exact fin _ _ τ5 (by omega) (by rw [List.length_append, List.length_append, List.length_append]; show 1 + _ + (1 + _) ≤ 10; omega) g5 d5
theorem oc_makeDone (hT : oy_ok T) (hQ : oy_Q T σ) {e : Nat} (he : e < sp_n T) {td : Int} (htd : 0 ≤ td ∧ td ≤ 9999) (h7 : σ 0 0 7 0 = td) : (sp_stT T td e 2 = none → F_Out_makeDone (e : Int) σ = some (.inl 3, σ)) ∧ (∀ T', sp_stT T td e 2 = some T' → ∃ σ', F_Out_makeDone (e : Int) σ = some (.inr (), σ') ∧ oy_ed 0 60 T' σ σ') := by
  have h60 := hT.1
  have hp2 := oc_putState hT hQ he (s := 2) (by decide)
  have hp0 := oc_putState hT hQ he (s := 0) (by decide)
  have spec0 : ¬ sp_mb T e = true → sp_stT T td e 2 = none := fun h => by
    unfold sp_stT
    rw [if_pos rfl, if_neg h]
  have spec1 : sp_mb T e = true → sp_rep T e = none → sp_stT T td e 2 = if sp_roomS T e 2 = true then some (sp_putS T e 2) else none := fun h h2 => by
    unfold sp_stT
    rw [if_pos rfl, if_pos h, h2]
  have spec2 : ∀ v, sp_mb T e = true → sp_rep T e = some v → sp_stT T td e 2 = if sp_nd td v + v.2.1 - v.1 ≤ 9999 ∧ sp_roomS T e 0 = true then some (sp_put (sp_putS T e 0) (sp_dl T e) (sp_repD td v)) else none := fun v h h2 => by
    unfold sp_stT
    rw [if_pos rfl, if_pos h, h2]
  unfold F_Out_makeDone
  rw [oc_mayBeDone hT hQ he, Option.bind_some]
  by_cases hm : sp_mb T e = true
  rotate_left
  · rw [if_neg hm, if_pos rfl, spec0 hm]
    exact ⟨fun _ => rfl, fun T' h => by cases h⟩
  rw [if_pos hm, if_neg oy_10, oc_dateLine hT hQ he, Option.bind_some]
  /- no date that repeats -/
  have none2 : sp_rep T e = none → (sp_stT T td e 2 = none → (F_Out_putState (e : Int) 2 σ).bind (fun r4 => match r4.1 with | .inl e6 => (some (.inl e6, r4.2) : Option ((Nat ⊕ Unit) × ox_H)) | .inr x5 => (some (.inr (), r4.2))) = some (.inl 3, σ)) ∧ (∀ T', sp_stT T td e 2 = some T' → ∃ σ', (F_Out_putState (e : Int) 2 σ).bind (fun r4 => match r4.1 with | .inl e6 => (some (.inl e6, r4.2) : Option ((Nat ⊕ Unit) × ox_H)) | .inr x5 => (some (.inr (), r4.2))) = some (.inr (), σ') ∧ oy_ed 0 60 T' σ σ') := by
    intro hrep
    rw [spec1 hm hrep]
    by_cases hr : (sp_eln T e).length - sp_old (sp_eln T e) + sp_new 2 ≤ 24
    · have hroom : sp_roomS T e 2 = true := decide_eq_true hr
      obtain ⟨σ', x1, x2⟩ := hp2.2 hr
      rw [if_pos hroom, x1, Option.bind_some]
      exact ⟨fun h => (by cases h), fun T' h => ⟨σ', rfl, by obtain rfl := Option.some.inj h; exact x2.mono (by omega)⟩⟩
    · have hroom : ¬ sp_roomS T e 2 = true := fun h => hr (of_decide_eq_true h)
      rw [if_neg hroom, hp2.1 hr, Option.bind_some]
      exact ⟨fun _ => rfl, fun T' h => by cases h⟩
  by_cases hd : sp_dl T e < sp_en T (e + 1)
  rotate_left
  · have hrep : sp_rep T e = none := by unfold sp_rep; rw [if_neg hd]
    have hr60 : F_Otl_reading (-1) σ = some 60 := by
      unfold F_Otl_reading J_Otl_reading_21
      rw [if_pos (by decide)]
    have h5 : σ 4 60 5 0 = -1 := hQ.2.2.2.2.2.2.1
    rw [if_neg hd, hr60, Option.bind_some, if_pos h5]
    exact none2 hrep
  have hdl := sp_dl_in he hd
  obtain ⟨v, hv⟩ := sp_dl_some he hd
  obtain ⟨q1, q2⟩ := oc_erd hT hQ hdl.2
  have hk2 : sp_kind (oy_ln T (sp_dl T e)) = 2 := sp_kind_2.mpr (by rw [hv]; rfl)
  obtain ⟨w3, w4, w5, w6⟩ := q2.2.2.2.1 hk2 v hv
  rw [if_pos hd, q1, Option.bind_some]
  by_cases hz : v.2.2.1 = 0
  · have hrep : sp_rep T e = none := by
      unfold sp_rep
      rw [if_pos hd, hv]
      dsimp only
      rw [if_neg (by omega)]
    rw [if_pos hz] at w5
    rw [if_pos w5]
    exact none2 hrep
  have hin := sp_date_in hv
  have hpos : 0 < v.2.2.1 := by omega
  have hrep : sp_rep T e = some v := by
    unfold sp_rep
    rw [if_pos hd, hv]
    dsimp only
    rw [if_pos hpos]
  rw [if_neg hz] at w5
  have hnd := sp_nd_in hv htd hpos
  have hmk := sp_date_mark hv
  have hn1 : sp_nd td v ≤ sp_nd td v + v.2.1 - v.1 := by omega
  rw [if_neg (show ¬ σ 4 (sp_dl T e) 5 0 = -1 by rw [w5]; omega), h7, oc_nextDay hv htd hpos w3 w5 w6, Option.bind_some, w4, w3, oy_w (x := sp_nd td v + v.2.1) (by omega) (by omega), oy_w (x := sp_nd td v + v.2.1 - v.1) (by omega) (by omega), spec2 v hm hrep]
  by_cases hl9 : sp_nd td v + v.2.1 - v.1 ≤ 9999
  rotate_left
  · rw [if_neg hl9, if_neg (fun z => hl9 z.1)]
    exact ⟨fun _ => rfl, fun T' h => by cases h⟩
  rw [if_pos hl9]
  by_cases hr : (sp_eln T e).length - sp_old (sp_eln T e) + sp_new 0 ≤ 24
  rotate_left
  · have hroom : ¬ sp_roomS T e 0 = true := fun h => hr (of_decide_eq_true h)
    rw [if_neg (fun z => hroom z.2), hp0.1 hr, Option.bind_some]
    exact ⟨fun _ => rfl, fun T' h => by cases h⟩
  have hroom : sp_roomS T e 0 = true := decide_eq_true hr
  obtain ⟨σ1, x1, x2⟩ := hp0.2 hr
  have hT1 : oy_ok (sp_putS T e 0) := sp_putS_ok hT he (by decide) hroom
  have hat : oy_ln (sp_putS T e 0) (sp_dl T e) = oy_ln T (sp_dl T e) := by
    unfold sp_putS
    rw [sp_put_ln hdl.2, if_neg (by omega)]
  obtain ⟨σ2, y1, y2⟩ := oc_writeDate (σ := σ) (k := sp_dl T e) (T1 := sp_putS T e 0) (l := sp_dl T e) (next := sp_nd td v) (last := sp_nd td v + v.2.1 - v.1) (d := v.2.2.1) (m := v.2.2.2) hT1 (by unfold sp_putS; rw [sp_put_len]; exact hdl.2) x2 hQ.2.2.1 w5 w6 (by rw [hat]; exact oy_wk_lt (w := oy_ln T (sp_dl T e)) (p := 0) (by rw [hmk.2]; decide)) (by omega) (by omega) (by omega) hmk.1
  rw [if_pos ⟨hl9, hroom⟩, x1, Option.bind_some]
  dsimp only
  rw [y1, Option.bind_some]
  exact ⟨fun h => (by cases h), fun T' h => ⟨σ2, rfl, by obtain rfl := Option.some.inj h; exact y2.mono (by omega)⟩⟩
theorem oc_state2 (hT : oy_ok T) (h : oy_cs T σ) (hv : σ 1 0 5 0 ≤ 1000000000) {td : Int} (htd : 0 ≤ td ∧ td ≤ 9999) (h7 : σ 0 0 7 0 = td) {a s : Int} : ∃ σ1, F_Out_state a s σ = some ((sp_statec T td a s).1, σ1) ∧ oy_st 60 T (sp_statec T td a s).2 σ σ1 := by
  have h60 := hT.1
  have hn := sp_n_le (T := T)
  obtain ⟨σ1, e1, s1, q1⟩ := oy_cs_ask hT h
  have hv1 : σ1 1 0 5 0 ≤ 1000000000 := by
    obtain ⟨-, -, d, hd, hd2, -⟩ := s1
    omega
  have h71 : σ1 0 0 7 0 = td := (s1.1 0 0 7 0 (by unfold oy_tx oy_le oy_rf; omega)).trans h7
  unfold F_Out_state sp_statec
  rw [e1, Option.bind_some, oc_checkEntry q1, Option.bind_some]
  by_cases q : 0 ≤ a ∧ a < sp_n T
  rotate_left
  · rw [if_neg q, if_neg q]
    exact ⟨σ1, rfl, s1.mono (by omega)⟩
  rw [if_pos q, if_pos q]
  obtain ⟨e, rfl⟩ : ∃ l : Nat, a = l := ⟨a.toNat, by omega⟩
  have he : e < sp_n T := by omega
  rw [Int.toNat_natCast]
  dsimp only
  unfold J_Out_state_22
  by_cases q2 : -1 ≤ s ∧ s ≤ 3
  rotate_left
  · rw [if_neg q2]
    by_cases q3 : s < -1
    · rw [if_pos q3]
      exact ⟨σ1, rfl, s1.mono (by omega)⟩
    · rw [if_neg q3, if_neg (show ¬ s ≤ 3 by omega)]
      exact ⟨σ1, rfl, s1.mono (by omega)⟩
  rw [if_pos q2, if_neg (show ¬ s < -1 by omega), if_pos q2.2]
  /- behind the change -/
  have fin : ∀ (T' : oy_T) (σ2 : ox_H), sp_stT T td e s = some T' → oy_ed 0 60 T' σ1 σ2 → ∃ σ3, J_Out_state_51 (e : Int) σ2 = some (.inr (sp_es_st T' e), σ3) ∧ oy_st 60 T T' σ σ3 := by
    intro T' σ2 hst d2
    obtain ⟨hT', hse⟩ := sp_stT_ok hT he q2 htd hst
    have s2 := oy_cs_ed s1.2.1 hv1 (by omega) d2
    obtain ⟨σ3, e3, s3, q3⟩ := oy_cs_ask hT' s2.2.1
    obtain ⟨n1, n2⟩ := oy_se_n hse
    unfold J_Out_state_51
    rw [e3, Option.bind_some, oc_est hT' q3 (by omega), Option.bind_some]
    exact ⟨σ3, rfl, ((s1.tr s2).tr s3).mono (by omega)⟩
  unfold sp_state2
  by_cases h2 : s = 2
  · obtain ⟨m1, m2⟩ := oc_makeDone hT q1 he htd h71
    rw [if_pos h2]
    cases hst : sp_stT T td e s with
    | none =>
      rw [h2] at hst
      rw [m1 hst, Option.bind_some]
      exact ⟨σ1, rfl, s1.mono (by omega)⟩
    | some T' =>
      have hst2 := hst
      rw [h2] at hst2
      obtain ⟨σ2, x1, x2⟩ := m2 T' hst2
      rw [x1, Option.bind_some]
      exact fin T' σ2 hst x2
  · obtain ⟨m1, m2⟩ := oc_putState hT q1 he (s := s) q2
    rw [if_neg h2]
    by_cases hr : (sp_eln T e).length - sp_old (sp_eln T e) + sp_new s ≤ 24
    · have hst : sp_stT T td e s = some (sp_putS T e s) := by
        unfold sp_stT
        rw [if_neg h2, if_pos (show sp_roomS T e s = true from decide_eq_true hr)]
      obtain ⟨σ2, x1, x2⟩ := m2 hr
      rw [hst, x1, Option.bind_some]
      exact fin _ σ2 hst (x2.mono (by omega))
    · have hst : sp_stT T td e s = none := by
        unfold sp_stT
        rw [if_neg h2, if_neg (show ¬ sp_roomS T e s = true from fun z => hr (of_decide_eq_true z))]
      rw [hst, m1 hr, Option.bind_some]
      exact ⟨σ1, rfl, s1.mono (by omega)⟩
end OYG8
