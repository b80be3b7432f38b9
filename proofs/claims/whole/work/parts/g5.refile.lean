/-! ===== the call refile: the class ===== -/
def oy_tx1 (c k j i : Nat) : Prop := oy_tx c k j i ∨ oy_le 1 c k j i
/-- the class's row of what is moved -/
def oy_mo (σ : ox_H) : Prop := ∃ P, oy_okL 1 P ∧ oy_L 1 P σ ∧ σ 1 1 1 0 = 24 ∧ σ 1 1 0 0 = 60
theorem oy_cs.le1 {T : oy_T} {k : Nat} {σ σ' : ox_H} (h : oy_cs T σ) (hf : oy_fs (oy_le k) σ σ') (hk : 0 ≠ k) : oy_cs T σ' := by
  have e0 : ∀ c k' j i, ¬ (c = 1 ∧ k' = k) → σ' c k' j i = σ c k' j i := fun c k' j i hc => hf c k' j i (fun q => hc ⟨q.1, q.2.1⟩)
  obtain ⟨⟨⟨h1, h2, h3, h4⟩, h5⟩, h6, h7, h8⟩ := h
  have e1 : ∀ j i, σ' 1 0 j i = σ 1 0 j i := fun j i => e0 1 0 j i (fun q => hk q.2)
  have e2 : ∀ c k' j i, c ≠ 1 → σ' c k' j i = σ c k' j i := fun c k' j i hc => e0 c k' j i (fun q => hc q.1)
  refine ⟨⟨⟨h1.le hf hk, (e1 _ _).trans h2, (e1 _ _).trans h3, fun q => ?_⟩, oy_60_fs h5 hf (fun j i q => absurd q.1 (by decide))⟩, ?_, ?_, ?_⟩
  · rw [e2 2 0 10 0 (by decide), e1] at q
    obtain ⟨o1, o2, o3, o4⟩ := h4 q
    refine ⟨(e2 _ _ _ _ (by decide)).trans o1, fun e he => ?_, fun l hl => (e2 _ _ _ _ (by decide)).trans (o3 l hl), fun l hl => ?_⟩
    · rw [e2 2 0 5 e (by decide), e2 2 0 6 e (by decide), e2 2 0 7 e (by decide), e2 2 0 8 e (by decide)]
      exact o2 e he
    · have r := o4 l hl
      unfold oy_rd oy_hd at r ⊢
      unfold oy_sm at r ⊢
      simp only [e2 4 _ _ _ (by decide), e2 6 _ _ _ (by decide)]
      exact r
  · rw [e1]; exact h6
  · rw [e2 2 0 10 0 (by decide)]; exact h7
  · rw [e2 2 0 10 0 (by decide), e1]; exact h8
theorem oy_Q.cs {T : oy_T} {σ : ox_H} (h : oy_cs T σ) (hv : σ 2 0 10 0 = σ 1 0 5 0) : oy_Q T σ := ⟨h.1.1.2.2.2 hv, h.1.1.1, h.1.1.2.1, h.1.2⟩
theorem oy_cs_ask2 {T : oy_T} {σ : ox_H} (hT : oy_ok T) (h : oy_cs T σ) : ∃ σ1, F_Otl_refresh σ = some σ1 ∧ oy_st 0 T T σ σ1 ∧ oy_Q T σ1 ∧ σ1 2 0 10 0 = σ1 1 0 5 0 := by
  obtain ⟨σ1, e1, ⟨f1, f2, f3⟩, q1, v1⟩ := oc_ask hT h.1
  have hv := f1 1 0 5 0 oy_rf1
  have h0 := h.2.1
  exact ⟨σ1, e1, ⟨f1.mono (fun _ _ _ _ => Or.inr), ⟨f2, by omega, by omega, by omega⟩, 0, Nat.le_refl _, by rw [hv]; exact (Int.add_zero _).symm, fun _ => rfl⟩, q1, v1⟩
/-- a part moved: where to, what the text is then -/
def sp_rfb (T : oy_T) (e t : Nat) : Int := (sp_lv T t : Int) + 1 - sp_lv T e
def sp_rfm (T : oy_T) (e : Nat) : Nat := sp_en T (sp_la T e) - sp_en T e
def sp_rfP (T : oy_T) (e t : Nat) : oy_T := sp_gs T (sp_sub T (sp_en T e) (sp_rfm T e)) (sp_en T e) e (sp_la T e) (sp_rfb T e t)
def sp_rfa (T : oy_T) (e t : Nat) (s : Int) : Nat := if s = 0 then (if sp_en T (sp_la T t) ≤ sp_en T e then sp_en T (sp_la T t) else sp_en T (sp_la T t) - sp_rfm T e) else sp_en T (sp_la T t)
def sp_rf1 (T : oy_T) (e : Nat) (s : Int) : oy_T := if s = 0 then sp_del T (sp_en T e) (sp_rfm T e) else T
def sp_rfT (T : oy_T) (e t : Nat) (s : Int) : oy_T := sp_pas (sp_rf1 T e s) (sp_rfa T e t s) (sp_rfP T e t)
def sp_rfk (T : oy_T) (e t : Nat) (s : Int) : Bool := decide (¬ (e ≤ t ∧ t < sp_la T e)) && (sp_okS T e (sp_rfb T e t) && decide (s = 0 ∨ T.length + sp_rfm T e ≤ 60))
def sp_refile (T : oy_T) (a c s : Int) : (Nat ⊕ Int) × oy_T := if (0 ≤ a ∧ a < sp_n T) ∧ (0 ≤ c ∧ c < sp_n T) then (if sp_rfk T a.toNat c.toNat s = true then (.inr ((sp_esn (sp_rfT T a.toNat c.toNat s) (sp_rfa T a.toNat c.toNat s)).length : Int), sp_rfT T a.toNat c.toNat s) else (.inl 3, T)) else (.inl 1, T)
section OYG5
variable {T : oy_T} {σ : ox_H}
theorem sp_rf_in {e t : Nat} {s : Int} (he : e < sp_n T) (ht : t < sp_n T) (hk : sp_rfk T e t s = true) : 1 ≤ sp_rfm T e ∧ sp_en T e + sp_rfm T e ≤ T.length ∧ sp_rfa T e t s ≤ (sp_rf1 T e s).length ∧ (sp_rf1 T e s).length + sp_rfm T e ≤ 60 ∨ 60 < T.length := by
  by_cases h60 : 60 < T.length
  · exact Or.inr h60
  refine Or.inl ?_
  have hla := sp_la_in he
  have hlt := sp_la_in ht
  have h1 := sp_en_lt3 (T := T) hla.1 hla.2
  have h2 := sp_en_le (T := T) (sp_la T e)
  have h3 := sp_en_le (T := T) (sp_la T t)
  have hm : sp_rfm T e = sp_en T (sp_la T e) - sp_en T e := rfl
  unfold sp_rfk at hk
  rw [Bool.and_eq_true, Bool.and_eq_true] at hk
  have k1 := of_decide_eq_true hk.1
  have k3 := of_decide_eq_true hk.2.2
  unfold sp_rfa sp_rf1
  by_cases hs : s = 0
  · rw [if_pos hs, if_pos hs, sp_del_len]
    refine ⟨by omega, by omega, ?_, by omega⟩
    by_cases q : sp_en T (sp_la T t) ≤ sp_en T e
    · rw [if_pos q]
      omega
    · rw [if_neg q]
      omega
  · rw [if_neg hs, if_neg hs]
    omega
theorem sp_rfP_len {e t : Nat} : (sp_rfP T e t).length = sp_rfm T e := by
  unfold sp_rfP
  rw [sp_gs_len, sp_sub_len]
theorem sp_rfP_ln {e t l : Nat} (hl : l < sp_rfm T e) : oy_ln (sp_rfP T e t) l = if sp_isH (oy_ln T (sp_en T e + l)) then sp_sb (sp_rfb T e t) (oy_ln T (sp_en T e + l)) else oy_ln T (sp_en T e + l) := by
  unfold sp_rfP
  have e1 : l + sp_en T e = sp_en T e + l := by omega
  have hm : sp_rfm T e = sp_en T (sp_la T e) - sp_en T e := rfl
  rw [sp_gs_ln (by rw [sp_sub_len]; exact hl), sp_sub_ln hl, e1]
  by_cases q : sp_isH (oy_ln T (sp_en T e + l))
  · rw [if_pos ⟨by omega, by omega, q⟩, if_pos q]
  · rw [if_neg (fun z => q z.2.2), if_neg q]
/-- a heading's line in the part -/
theorem sp_part_of {e l : Nat} (he : e < sp_n T) (h1 : sp_en T e ≤ l) (h2 : l < sp_en T (sp_la T e)) (hH : sp_isH (oy_ln T l)) : ∃ j, e ≤ j ∧ j < sp_la T e ∧ sp_en T j = l := by
  have hla := sp_la_in he
  have h3 := sp_en_le (T := T) (sp_la T e)
  obtain ⟨j, hj1, hj2⟩ := sp_en_of (T := T) (x := l) (by omega) hH
  refine ⟨j, ?_, ?_, hj2⟩
  · by_cases y : e ≤ j
    · exact y
    · have := sp_en_lt3 (T := T) (i := j) (j := e) (by omega) (by omega)
      omega
  · by_cases y : j < sp_la T e
    · exact y
    · have := sp_en_le3 (T := T) (i := sp_la T e) (j := j) (by omega) (by omega)
      omega
theorem sp_rfP_good {e t : Nat} (hT : oy_ok T) (he : e < sp_n T) (hok : sp_okS T e (sp_rfb T e t) = true) (l : Nat) : oy_good 0 (oy_ln (sp_rfP T e t) l) := by
  have hm : sp_rfm T e = sp_en T (sp_la T e) - sp_en T e := rfl
  by_cases hl : l < sp_rfm T e
  · rw [sp_rfP_ln hl]
    by_cases q : sp_isH (oy_ln T (sp_en T e + l))
    · rw [if_pos q]
      refine sp_sb_good (oy_good_ln (oy_ok_L hT) _) ?_
      obtain ⟨j, j1, j2, j3⟩ := sp_part_of he (by omega) (by omega) q
      have h := sp_okS_all he hok j1 j2
      have e9 : sp_eln T j = oy_ln T (sp_en T e + l) := by unfold sp_eln; rw [j3]
      rw [e9] at h
      exact h.2.2
    · rw [if_neg q]
      exact oy_good_ln (oy_ok_L hT) _
  · rw [oy_ln_ge (by rw [sp_rfP_len]; omega)]
    exact oy_good_nil
theorem sp_rf1_ok {e : Nat} {s : Int} (hT : oy_ok T) : oy_ok (sp_rf1 T e s) := by
  unfold sp_rf1
  split
  · exact sp_del_ok (k := 0) hT
  · exact hT
theorem sp_rfT_ok {e t : Nat} {s : Int} (hT : oy_ok T) (he : e < sp_n T) (ht : t < sp_n T) (hk : sp_rfk T e t s = true) : oy_ok (sp_rfT T e t s) := by
  have hk2 := hk
  unfold sp_rfk at hk2
  rw [Bool.and_eq_true, Bool.and_eq_true] at hk2
  have h60 := hT.1
  rcases sp_rf_in he ht hk with h | h
  · exact sp_pas_ok (k := 0) (sp_rf1_ok hT) (sp_rfP_good hT he hk2.2.1) (by rw [sp_rfP_len]; exact h.2.2.2)
  · omega
theorem sp_rfT_H {e t : Nat} {s : Int} (hT : oy_ok T) (he : e < sp_n T) (ht : t < sp_n T) (hk : sp_rfk T e t s = true) : sp_rfa T e t s < (sp_rfT T e t s).length ∧ sp_isH (oy_ln (sp_rfT T e t s) (sp_rfa T e t s)) := by
  have hk2 := hk
  unfold sp_rfk at hk2
  rw [Bool.and_eq_true, Bool.and_eq_true] at hk2
  have h60 := hT.1
  have hla := sp_la_in he
  rcases sp_rf_in he ht hk with h | h
  · have hl : sp_rfa T e t s < (sp_rf1 T e s).length + (sp_rfP T e t).length := by rw [sp_rfP_len]; omega
    refine ⟨by unfold sp_rfT; rw [sp_pas_len]; exact hl, ?_⟩
    unfold sp_rfT
    have hH := (sp_en_lt he).2
    have hx := sp_okS_all he hk2.2.1 (Nat.le_refl _) hla.1
    have e1 : sp_en T e + 0 = sp_en T e := rfl
    rw [sp_pas_ln hl, if_neg (Nat.lt_irrefl _), sp_rfP_len, if_pos (by omega), Nat.sub_self, sp_rfP_ln (by omega), e1, if_pos (show sp_isH (oy_ln T (sp_en T e)) from hH)]
    exact (sp_sb_H hH hx.1 hx.2.1).1
  · omega
theorem sp_la_nest {t e : Nat} (h1 : t < e) (h2 : e < sp_la T t) (he : e < sp_n T) (ht : t < sp_n T) : sp_la T e ≤ sp_la T t := by
  by_cases q : sp_la T e ≤ sp_la T t
  · exact q
  exfalso
  have hla := sp_la_in he
  have hlt := sp_la_in ht
  have h3 := sp_la_lv he (k := sp_la T t) (by omega) (by omega)
  have h4 : sp_lv T (sp_la T t) ≤ sp_lv T t := of_decide_eq_true (sp_fi_p (fun k => decide (sp_lv T k ≤ sp_lv T t)) (sp_n T - (t + 1)) (t + 1) (by
    have : sp_la T t = sp_fi (fun k => decide (sp_lv T k ≤ sp_lv T t)) (sp_n T - (t + 1)) (t + 1) := rfl
    omega))
  have h5 : ¬ sp_lv T e ≤ sp_lv T t := of_decide_eq_false (sp_fi_n (fun k => decide (sp_lv T k ≤ sp_lv T t)) (sp_n T - (t + 1)) (t + 1) e (by omega) h2)
  omega
theorem oc_refile (hT : oy_ok T) (h : oy_cs T σ) (hmo : oy_mo σ) (hv : σ 1 0 5 0 ≤ 1000000000) {a c s : Int} : ∃ σ1, F_Out_refile a c s σ = some ((sp_refile T a c s).1, σ1) ∧ oy_fs oy_tx1 σ σ1 ∧ oy_cs (sp_refile T a c s).2 σ1 ∧ oy_mo σ1 ∧ ∃ d : Nat, d ≤ 2 ∧ σ1 1 0 5 0 = σ 1 0 5 0 + (d : Int) ∧ (d = 0 → (sp_refile T a c s).2 = T) := by
  have h60 := hT.1
  have hn := sp_n_le (T := T)
  obtain ⟨σ1, e1, s1, q1, v1⟩ := oy_cs_ask2 hT h
  have hmo1 : oy_mo σ1 := by
    obtain ⟨P, p1, p2, p3, p4⟩ := hmo
    have e : ∀ j i, σ1 1 1 j i = σ 1 1 j i := fun j i => s1.1 1 1 j i (by unfold oy_tx oy_le oy_rf; omega)
    exact ⟨P, p1, ⟨(e _ _).trans p2.1, fun l hl => (e _ _).trans (p2.2.1 l hl), fun l p hl hp => (e _ _).trans (p2.2.2 l p hl hp)⟩, (e _ _).trans p3, (e _ _).trans p4⟩
  have hbad : ∀ r : Nat ⊕ Int, ∃ σ2, (some (r, σ1) : Option ((Nat ⊕ Int) × ox_H)) = some (r, σ2) ∧ oy_fs oy_tx1 σ σ2 ∧ oy_cs T σ2 ∧ oy_mo σ2 ∧ ∃ d : Nat, d ≤ 2 ∧ σ2 1 0 5 0 = σ 1 0 5 0 + (d : Int) ∧ (d = 0 → T = T) := fun r => by
    obtain ⟨x1, x2, d, x3, x4, x5⟩ := s1
    exact ⟨σ1, rfl, x1.mono (fun _ _ _ _ => Or.inl), x2, hmo1, d, by omega, x4, fun _ => rfl⟩
  unfold F_Out_refile sp_refile
  rw [e1, Option.bind_some, oc_checkEntry (a := a) q1, Option.bind_some]
  by_cases qa : 0 ≤ a ∧ a < sp_n T
  rotate_left
  · rw [if_neg qa, if_neg (show ¬ ((0 ≤ a ∧ a < sp_n T) ∧ (0 ≤ c ∧ c < sp_n T)) from fun z => qa z.1)]
    exact hbad _
  rw [if_pos qa]
  dsimp only
  rw [oc_checkEntry (a := c) q1, Option.bind_some]
  by_cases qc : 0 ≤ c ∧ c < sp_n T
  rotate_left
  · rw [if_neg qc, if_neg (show ¬ ((0 ≤ a ∧ a < sp_n T) ∧ (0 ≤ c ∧ c < sp_n T)) from fun z => qc z.2)]
    exact hbad _
  rw [if_pos qc, if_pos (⟨qa, qc⟩ : (0 ≤ a ∧ a < sp_n T) ∧ (0 ≤ c ∧ c < sp_n T))]
  obtain ⟨e, rfl⟩ : ∃ l : Nat, a = l := ⟨a.toNat, by omega⟩
  obtain ⟨t, rfl⟩ : ∃ l : Nat, c = l := ⟨c.toNat, by omega⟩
  have he : e < sp_n T := by omega
  have ht : t < sp_n T := by omega
  have hla := sp_la_in he
  have hlt := sp_la_in ht
  have hle := sp_en_le (T := T) (sp_la T e)
  have hlte := sp_en_le (T := T) (sp_la T t)
  have hee := sp_en_lt3 (T := T) hla.1 hla.2
  have lv1 := sp_lv_in he
  have lv2 := sp_lv_in ht
  have hm : sp_rfm T e = sp_en T (sp_la T e) - sp_en T e := rfl
  have hbb : sp_rfb T e t = (sp_lv T t : Int) + 1 - sp_lv T e := rfl
  rw [Int.toNat_natCast, Int.toNat_natCast]
  dsimp only
  have key : ¬ (e ≤ t ∧ t < sp_la T e) → ∃ σ2, J_Out_refile_46 (e : Int) (t : Int) s σ1 = some ((if sp_rfk T e t s = true then ((.inr ((sp_esn (sp_rfT T e t s) (sp_rfa T e t s)).length : Int), sp_rfT T e t s) : (Nat ⊕ Int) × oy_T) else (.inl 3, T)).1, σ2) ∧ oy_fs oy_tx1 σ σ2 ∧ oy_cs (if sp_rfk T e t s = true then ((.inr ((sp_esn (sp_rfT T e t s) (sp_rfa T e t s)).length : Int), sp_rfT T e t s) : (Nat ⊕ Int) × oy_T) else (.inl 3, T)).2 σ2 ∧ oy_mo σ2 ∧ ∃ d : Nat, d ≤ 2 ∧ σ2 1 0 5 0 = σ 1 0 5 0 + (d : Int) ∧ (d = 0 → (if sp_rfk T e t s = true then ((.inr ((sp_esn (sp_rfT T e t s) (sp_rfa T e t s)).length : Int), sp_rfT T e t s) : (Nat ⊕ Int) × oy_T) else (.inl 3, T)).2 = T) := by
    intro hin
    have ew1 : Nat → ox_w (ox_w ((sp_lv T t : Int) + 1) - (sp_lv T e : Int)) = sp_rfb T e t := fun _ => by
      rw [oy_w (x := (sp_lv T t : Int) + 1) (by omega) (by omega), oy_w (by omega) (by omega)]
      rfl
    have ew2 : Nat → ox_w ((sp_en T (sp_la T e) : Int) - (sp_en T e : Int)) = ((sp_rfm T e : Nat) : Int) := fun _ => oy_wsb (by omega) (by omega)
    unfold J_Out_refile_46
    rw [oc_elv hT q1 ht, Option.bind_some, oc_elv hT q1 he, Option.bind_some, (ew1 0), oc_checkStars hT q1 he (by omega), Option.bind_some]
    by_cases hok : sp_okS T e (sp_rfb T e t) = true
    rotate_left
    · have hk : ¬ sp_rfk T e t s = true := fun z => by
        unfold sp_rfk at z
        rw [Bool.and_eq_true, Bool.and_eq_true] at z
        exact hok z.2.1
      rw [if_neg hok, if_neg hk]
      exact hbad _
    rw [if_pos hok]
    dsimp only
    rw [oc_eln hT q1 he, Option.bind_some, oc_partEnd hT q1 he, Option.bind_some, (ew2 0)]
    have key2 : ∀ x : Int, x = (if s = 0 then 0 else ((sp_rfm T e : Nat) : Int)) → ∃ σ2, J_Out_refile_108 (e : Int) (t : Int) s (sp_rfb T e t) (sp_en T e : Int) ((sp_rfm T e : Nat) : Int) x σ1 = some ((if sp_rfk T e t s = true then ((.inr ((sp_esn (sp_rfT T e t s) (sp_rfa T e t s)).length : Int), sp_rfT T e t s) : (Nat ⊕ Int) × oy_T) else (.inl 3, T)).1, σ2) ∧ oy_fs oy_tx1 σ σ2 ∧ oy_cs (if sp_rfk T e t s = true then ((.inr ((sp_esn (sp_rfT T e t s) (sp_rfa T e t s)).length : Int), sp_rfT T e t s) : (Nat ⊕ Int) × oy_T) else (.inl 3, T)).2 σ2 ∧ oy_mo σ2 ∧ ∃ d : Nat, d ≤ 2 ∧ σ2 1 0 5 0 = σ 1 0 5 0 + (d : Int) ∧ (d = 0 → (if sp_rfk T e t s = true then ((.inr ((sp_esn (sp_rfT T e t s) (sp_rfa T e t s)).length : Int), sp_rfT T e t s) : (Nat ⊕ Int) × oy_T) else (.inl 3, T)).2 = T) := by
      intro x hx
      unfold J_Out_refile_108
      rw [oc_room s1.2.1.1.1 hT (m := x) (by rw [hx]; split <;> omega), Option.bind_some]
      have hroom : (T.length : Int) + x ≤ 60 ↔ (s = 0 ∨ T.length + sp_rfm T e ≤ 60) := by
        rw [hx]
        by_cases z : s = 0
        · rw [if_pos z]
          exact ⟨fun _ => Or.inl z, fun _ => by omega⟩
        · rw [if_neg z]
          omega
      by_cases hr : (T.length : Int) + x ≤ 60
      rotate_left
      · have hk : ¬ sp_rfk T e t s = true := fun z => by
          unfold sp_rfk at z
          rw [Bool.and_eq_true, Bool.and_eq_true] at z
          exact hr (hroom.mpr (of_decide_eq_true z.2.2))
        rw [if_neg hr, if_neg hk]
        exact hbad _
      have hk : sp_rfk T e t s = true := by
        unfold sp_rfk
        rw [decide_eq_true hin, hok, decide_eq_true (hroom.mp hr)]
        rfl
      rw [if_pos hr, if_pos hk]
      dsimp only
      rw [oc_partEnd hT q1 ht, Option.bind_some]
      /- the moved lines -/
      obtain ⟨P, p1, p2, p3, p4⟩ := hmo1
      have hcl : ∃ σ2, F_Lin_close 1 0 (σ1 1 1 4 0) σ1 = some σ2 ∧ oy_ed 1 1 [] σ1 σ2 := by
        rw [p2.1]
        by_cases z : P.length = 0
        · have e0 : P = [] := List.length_eq_zero_iff.mp z
          refine ⟨σ1, ?_, (oy_ed.rf (e0 ▸ p2)).mono (by omega)⟩
          unfold F_Lin_close J_Lin_close_19
          rw [if_neg (by decide), if_pos (by omega)]
        · obtain ⟨σ2, x1, x2⟩ := oc_close p1 p2 p3 (a := 0) (m := P.length) (by omega) (by omega)
          have e0 : sp_del P 0 P.length = [] := List.length_eq_zero_iff.mp (by rw [sp_del_len, Nat.sub_self])
          rw [e0] at x2
          exact ⟨σ2, x1, x2⟩
      obtain ⟨σ2, e2, d2⟩ := hcl
      have hnil : oy_okL 1 [] := ⟨Nat.zero_le _, fun w hw => by cases hw⟩
      have c2 := s1.2.1.le1 d2.1 (by decide)
      have i1 : 1 ≤ sp_rfm T e := by omega
      obtain ⟨σ3, e3, d3⟩ := oc_copy (k := 1) (k1 := 0) (a := sp_en T e) (m := sp_rfm T e) (b := 0) hnil d2.2.1 (d2.w.1.trans p3) (d2.w.2.trans p4) (oy_ok_L hT) c2.1.1.1 c2.1.1.2.1 rfl (by decide) i1 (by omega) (Nat.le_refl _) (by show 0 + sp_rfm T e ≤ 60; omega)
      have e3' : F_Lin_copy 1 0 (sp_en T e : Int) ((sp_rfm T e : Nat) : Int) 0 σ2 = some σ3 := e3
      have epas : sp_pas [] 0 (sp_sub T (sp_en T e) (sp_rfm T e)) = sp_sub T (sp_en T e) (sp_rfm T e) := by
        refine oy_extT (by rw [sp_pas_len]; exact Nat.zero_add _) (fun l hl => ?_)
        rw [sp_pas_len, sp_sub_len] at hl
        have hl2 : l < sp_rfm T e := by have : ([] : oy_T).length = 0 := rfl; omega
        rw [sp_pas_ln (by rw [sp_sub_len]; exact hl), if_neg (Nat.not_lt_zero _), sp_sub_len, if_pos (by omega), Nat.sub_zero]
      rw [epas] at d3
      have d13 := d2.tr d3
      have q3 : oy_Q T σ3 := oy_Q.cs (s1.2.1.le1 d13.1 (by decide)) (by rw [d13.1 2 0 10 0 (fun q => absurd q.1 (by decide)), d13.1 1 0 5 0 (fun q => absurd q.2.1 (by decide))]; exact v1)
      obtain ⟨σ4, e4, d4⟩ := oc_giveStars (k := 1) (h := sp_en T e) (T0 := sp_sub T (sp_en T e) (sp_rfm T e)) hT q3 he (b := sp_rfb T e t) (by omega) hok rfl (sp_sub_ok (k := 0) (j := 1) hT rfl (by show sp_rfm T e ≤ 60; omega)) d13.2.1 (d13.w.1.trans p3) q3.Or (oc_below hT q3 he) (Nat.le_refl _) (by rw [sp_sub_len]; omega) (fun i hi1 hi2 => by
        have h1 := sp_en_le3 (T := T) hi1 (by omega)
        have h2 := sp_en_lt3 (T := T) hi2 hla.2
        have e9 : sp_en T e + (sp_en T i - sp_en T e) = sp_en T i := by omega
        rw [sp_sub_ln (by omega), e9]
        rfl)
      have d14 := d13.tr d4
      have c4 := s1.2.1.le1 d14.1 (by decide)
      have hv4 : σ4 1 0 5 0 ≤ 1000000000 := by
        obtain ⟨-, -, d, x3, x4, -⟩ := s1
        rw [d14.1 1 0 5 0 (fun q => absurd q.2.1 (by decide))]
        omega
      rw [e2, Option.bind_some, e3', Option.bind_some, e4, Option.bind_some]
      have hP : sp_gs T (sp_sub T (sp_en T e) (sp_rfm T e)) (sp_en T e) e (sp_la T e) (sp_rfb T e t) = sp_rfP T e t := rfl
      have L4 : oy_L 1 (sp_rfP T e t) σ4 := d4.2.1
      have hPok : oy_okL 1 (sp_rfP T e t) := ⟨by rw [sp_rfP_len]; show sp_rfm T e ≤ 60; omega, fun w hw => by
        obtain ⟨i, hi, rfl⟩ := List.getElem_of_mem hw
        have := sp_rfP_good hT he hok (t := t) i
        unfold oy_ln at this
        rw [List.getD_eq_getElem?_getD, List.getElem?_eq_getElem hi] at this
        exact this⟩
      have hin4 := sp_rf_in he ht hk
      have hin5 : 1 ≤ sp_rfm T e ∧ sp_en T e + sp_rfm T e ≤ T.length ∧ sp_rfa T e t s ≤ (sp_rf1 T e s).length ∧ (sp_rf1 T e s).length + sp_rfm T e ≤ 60 := by
        rcases hin4 with z | z
        · exact z
        · omega
      /- behind the text's change -/
      have fin : ∀ (σ5 : ox_H) (N : Nat), N ≤ 1 → oy_ed 0 N (sp_rf1 T e s) σ4 σ5 → ∃ σ6, J_Out_refile_199 ((sp_rfm T e : Nat) : Int) ((sp_rfa T e t s : Nat) : Int) σ5 = some (.inr ((sp_esn (sp_rfT T e t s) (sp_rfa T e t s)).length : Int), σ6) ∧ oy_fs oy_tx1 σ σ6 ∧ oy_cs (sp_rfT T e t s) σ6 ∧ oy_mo σ6 ∧ ∃ d : Nat, d ≤ 2 ∧ σ6 1 0 5 0 = σ 1 0 5 0 + (d : Int) ∧ (d = 0 → sp_rfT T e t s = T) := by
        intro σ5 N hN d5
        have L5 := L4.le d5.1 (by decide)
        have w5 : σ5 1 1 1 0 = 24 := (d5.1 1 1 1 0 (fun q => absurd q.2.1 (by decide))).trans (d14.w.1.trans p3)
        obtain ⟨σ6, e6, d6⟩ := oc_copy (k := 0) (k1 := 1) (a := 0) (m := sp_rfm T e) (b := sp_rfa T e t s) (oy_ok_L (sp_rf1_ok (e := e) (s := s) hT)) d5.2.1 (d5.w.1.trans c4.1.1.2.1) (d5.w.2.trans c4.1.1.2.2.1) hPok L5 w5 rfl (by decide) hin5.1 (by rw [sp_rfP_len]; omega) hin5.2.2.1 hin5.2.2.2
        have e6' : F_Lin_copy 0 1 0 ((sp_rfm T e : Nat) : Int) ((sp_rfa T e t s : Nat) : Int) σ5 = some σ6 := e6
        have esub : sp_sub (sp_rfP T e t) 0 (sp_rfm T e) = sp_rfP T e t := by
          have := sp_sub_all (T := sp_rfP T e t)
          rw [sp_rfP_len] at this
          exact this
        rw [esub] at d6
        have d46 := d5.tr d6
        have s6 := oy_cs_ed c4 hv4 (by omega) d46
        obtain ⟨σ7, e7, s7, q7⟩ := oy_cs_ask (sp_rfT_ok hT he ht hk) s6.2.1
        have s67 := s6.tr s7
        obtain ⟨hl, hH⟩ := sp_rfT_H hT he ht hk
        unfold J_Out_refile_199
        rw [e6', Option.bind_some, e7, Option.bind_some, oc_ownerH (sp_rfT_ok hT he ht hk) q7 hl hH, Option.bind_some]
        refine ⟨σ7, rfl, ((s1.1.mono (fun _ _ _ _ => Or.inl)).tr (d14.1.mono (fun _ _ _ _ => Or.inr))).tr (s67.1.mono (fun _ _ _ _ => Or.inl)), s67.2.1, ⟨sp_rfP T e t, hPok, ?_, ?_, ?_⟩, ?_⟩
        · have e : ∀ j i, σ7 1 1 j i = σ4 1 1 j i := fun j i => s67.1 1 1 j i (by unfold oy_tx oy_le oy_rf; omega)
          exact ⟨(e _ _).trans L4.1, fun l hl => (e _ _).trans (L4.2.1 l hl), fun l p hl hp => (e _ _).trans (L4.2.2 l p hl hp)⟩
        · rw [s67.1 1 1 1 0 (by unfold oy_tx oy_le oy_rf; omega), d14.w.1]
          exact p3
        · rw [s67.1 1 1 0 0 (by unfold oy_tx oy_le oy_rf; omega), d14.w.2]
          exact p4
        · obtain ⟨-, -, d, x3, x4, x5⟩ := s1
          obtain ⟨-, -, d', y3, y4, y5⟩ := s67
          have z := d14.1 1 0 5 0 (fun q => absurd q.2.1 (by decide))
          exact ⟨d', by omega, by omega, fun y => y5 y⟩
      by_cases hs : s = 0
      · obtain ⟨σ5, e5, d5⟩ := oc_close (oy_ok_L hT) c4.1.1.1 c4.1.1.2.1 (a := sp_en T e) (m := sp_rfm T e) hin5.1 hin5.2.1
        have er1 : sp_rf1 T e s = sp_del T (sp_en T e) (sp_rfm T e) := by unfold sp_rf1; rw [if_pos hs]
        rw [if_pos hs, e5, Option.bind_some]
        have f5 := fin σ5 1 (Nat.le_refl _) (by rw [er1]; exact d5)
        unfold J_Out_refile_197
        by_cases z : (sp_en T (sp_la T t) : Int) ≤ (sp_en T e : Int)
        · have ea : sp_rfa T e t s = sp_en T (sp_la T t) := by unfold sp_rfa; rw [if_pos hs, if_pos (by omega)]
          rw [if_pos z, ← ea]
          exact f5
        · have ea : sp_rfa T e t s = sp_en T (sp_la T t) - sp_rfm T e := by unfold sp_rfa; rw [if_pos hs, if_neg (by omega)]
          have hge : sp_rfm T e ≤ sp_en T (sp_la T t) := by
            by_cases y : sp_la T e ≤ sp_la T t
            · have := sp_en_le3 (T := T) y hlt.2
              omega
            · exfalso
              have y1 : e < sp_la T t := by
                by_cases y2 : e < sp_la T t
                · exact y2
                · have := sp_en_le3 (T := T) (i := sp_la T t) (j := e) (by omega) (by omega)
                  omega
              have := sp_la_nest (by omega) y1 he ht
              omega
          have ew3 : Nat → ox_w ((sp_en T (sp_la T t) : Int) - ((sp_rfm T e : Nat) : Int)) = ((sp_rfa T e t s : Nat) : Int) := fun _ => by rw [ea]; exact oy_wsb hge (by omega)
          rw [if_neg z, (ew3 0)]
          exact f5
      · have er1 : sp_rf1 T e s = T := by unfold sp_rf1; rw [if_neg hs]
        have ea : sp_rfa T e t s = sp_en T (sp_la T t) := by unfold sp_rfa; rw [if_neg hs]
        rw [if_neg hs, ← ea]
        exact fin σ4 0 (by omega) (by rw [er1]; exact oy_ed.rf c4.1.1.1)
    by_cases hs : s = 0
    · rw [if_pos hs]
      exact key2 0 (by rw [if_pos hs])
    · rw [if_neg hs]
      exact key2 _ (by rw [if_neg hs])
  by_cases z1 : t < e
  · rw [if_pos (show (t : Int) < (e : Int) by omega)]
    exact key (by omega)
  · have ew4 : Nat → ox_w ((e : Int) + ((sp_la T e : Int) - e - 1)) = (sp_la T e : Int) - 1 := fun _ => by rw [oy_w (by omega) (by omega)]; omega
    rw [if_neg (show ¬ (t : Int) < (e : Int) by omega), oc_below hT q1 he, Option.bind_some, (ew4 0)]
    by_cases z2 : sp_la T e ≤ t
    · rw [if_pos (show (sp_la T e : Int) - 1 < (t : Int) by omega)]
      exact key (by omega)
    · have hk : ¬ sp_rfk T e t s = true := fun z => by
        unfold sp_rfk at z
        rw [Bool.and_eq_true] at z
        have := of_decide_eq_true z.1
        omega
      rw [if_neg (show ¬ (sp_la T e : Int) - 1 < (t : Int) by omega), if_neg hk]
      exact hbad _
end OYG5
