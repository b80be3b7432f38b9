/-! ===== blocks kept: the lines that count; the class ===== -/
/-- a line that counts for what is kept -/
def sp_ct (w : List Int) : Bool := decide (sp_kind w = 5 ∨ sp_kind w = 1 ∨ sp_kind w = 0)
/-- the lines that count, of k lines from p on -/
def sp_kq (T : oy_T) : Nat → Nat → oy_T
  | 0, _ => []
  | k + 1, p => if sp_ct (oy_ln T p) = true then oy_ln T p :: sp_kq T k (p + 1) else sp_kq T k (p + 1)
def sp_kp (T : oy_T) : oy_T := sp_kq T T.length 0
theorem sp_kq_len (T : oy_T) : ∀ k p, (sp_kq T k p).length ≤ k
  | 0, _ => Nat.le_refl _
  | k + 1, p => by
    have := sp_kq_len T k (p + 1)
    rw [sp_kq]
    split
    · rw [List.length_cons]
      omega
    · omega
theorem sp_kq_good {T : oy_T} (hT : oy_ok T) : ∀ k p, ∀ w ∈ sp_kq T k p, w.length ≤ 24 ∧ ∀ x ∈ w, 32 ≤ x ∧ x ≤ 126
  | 0, _, w, h => by cases h
  | k + 1, p, w, h => by
    rw [sp_kq] at h
    by_cases q : sp_ct (oy_ln T p) = true
    · rw [if_pos q] at h
      rcases List.mem_cons.mp h with e | e
      · rw [e]
        exact oy_good_ln (oy_ok_L hT) p
      · exact sp_kq_good hT k (p + 1) w e
    · rw [if_neg q] at h
      exact sp_kq_good hT k (p + 1) w h
theorem sp_kp_ok {T : oy_T} (hT : oy_ok T) : oy_okL 3 (sp_kp T) := by
  have h60 := hT.1
  have := sp_kq_len T T.length 0
  exact ⟨by show (sp_kq T T.length 0).length ≤ 60; omega, sp_kq_good hT _ _⟩
/-- what the class has seen -/
def oy_kl (S : oy_T) (σ : ox_H) : Prop := oy_okL 3 S ∧ oy_L 3 S σ ∧ σ 1 3 1 0 = ox_wd 3 ∧ σ 1 3 0 0 = ox_ln 3
/-- what keeping writes -/
def oy_s8 (c k j i : Nat) : Prop := c = 8 ∨ oy_le 3 c k j i
theorem oy_drop {α : Type} {a : List α} {i : Nat} {d : α} (h : i < a.length) : a.drop i = a.getD i d :: a.drop (i + 1) := by
  rw [List.drop_eq_getElem_cons h, List.getD_eq_getElem?_getD, List.getElem?_eq_getElem h]
  rfl
section OYM1
variable {T S : oy_T} {σ : ox_H}
theorem oy_Q.s8 {σ' : ox_H} (h : oy_Q T σ) (hf : oy_fs oy_s8 σ σ') : oy_Q T σ' := by
  have e1 : ∀ j i, σ' 1 0 j i = σ 1 0 j i := fun j i => hf _ _ _ _ (by unfold oy_s8 oy_le; omega)
  have e2 : ∀ k j i, σ' 2 k j i = σ 2 k j i := fun k j i => hf _ _ _ _ (by unfold oy_s8 oy_le; omega)
  have e4 : ∀ k j i, σ' 4 k j i = σ 4 k j i := fun k j i => hf _ _ _ _ (by unfold oy_s8 oy_le; omega)
  have e6 : ∀ k j i, σ' 6 k j i = σ 6 k j i := fun k j i => hf _ _ _ _ (by unfold oy_s8 oy_le; omega)
  unfold oy_Q oy_O oy_Oe oy_rd oy_hd oy_sm oy_L oy_60 at *
  simp only [e1, e2, e4, e6]
  exact h
theorem oc_likel {k k2 : Nat} {T1 T2 : oy_T} (h1 : oy_okL k T1) (L1 : oy_L k T1 σ) (w1 : σ 1 k 1 0 = ox_wd k) (h2 : oy_okL k2 T2) (L2 : oy_L k2 T2 σ) (w2 : σ 1 k2 1 0 = ox_wd k2) {a b : Nat} (hl : (oy_ln T1 a).length = (oy_ln T2 b).length) (h60 : (oy_ln T1 a).length ≤ 1000) : ∀ (d i n : Nat), i + d = (oy_ln T1 a).length → d < n → ox_lp (B_Lin_isLike_18 k (a : Int) k2 (b : Int) σ) n (i : Int) = some (if (oy_ln T1 a).drop i = (oy_ln T2 b).drop i then 1 else 0)
  | _, _, 0, _, h => absurd h (Nat.not_lt_zero _)
  | 0, i, n + 1, hi, _ => by
    have e1 : (oy_ln T1 a).drop i = [] := List.drop_eq_nil_of_le (by omega)
    have e2 : (oy_ln T2 b).drop i = [] := List.drop_eq_nil_of_le (by omega)
    rw [e1, e2, if_pos rfl]
    refine oy_lp_m (X := some 1) ?_
    unfold B_Lin_isLike_18 J_Lin_isLike_53
    rw [oc_size h1 L1 a, Option.bind_some, if_pos (by omega)]
  | d + 1, i, n + 1, hi, hn => by
    have e1 : (oy_ln T1 a).drop i = oy_wk (oy_ln T1 a) i :: (oy_ln T1 a).drop (i + 1) := oy_drop (by omega)
    have e2 : (oy_ln T2 b).drop i = oy_wk (oy_ln T2 b) i :: (oy_ln T2 b).drop (i + 1) := oy_drop (by omega)
    rw [e1, e2]
    by_cases q : oy_wk (oy_ln T1 a) i = oy_wk (oy_ln T2 b) i
    · have ih := oc_likel h1 L1 w1 h2 L2 w2 hl h60 d (i + 1) n (by omega) (by omega)
      have e3 : (if oy_wk (oy_ln T1 a) i :: (oy_ln T1 a).drop (i + 1) = oy_wk (oy_ln T2 b) i :: (oy_ln T2 b).drop (i + 1) then (1 : Int) else 0) = if (oy_ln T1 a).drop (i + 1) = (oy_ln T2 b).drop (i + 1) then 1 else 0 := by
        by_cases z : (oy_ln T1 a).drop (i + 1) = (oy_ln T2 b).drop (i + 1)
        · rw [if_pos z, if_pos (by rw [q, z])]
        · rw [if_neg z, if_neg (fun y => z (List.cons.inj y).2)]
      rw [e3]
      refine (oy_lp_l (a' := ((i + 1 : Nat) : Int)) ?_).trans ih
      unfold B_Lin_isLike_18
      rw [oc_size h1 L1 a, Option.bind_some, if_neg (by omega), oc_at h1 L1 w1, Option.bind_some, oc_at h2 L2 w2, Option.bind_some, if_pos q, oy_w1 (by omega)]
    · rw [if_neg (fun y => q (List.cons.inj y).1)]
      refine oy_lp_m (X := some 0) ?_
      unfold B_Lin_isLike_18 J_Lin_isLike_45
      rw [oc_size h1 L1 a, Option.bind_some, if_neg (by omega), oc_at h1 L1 w1, Option.bind_some, oc_at h2 L2 w2, Option.bind_some, if_neg q]
theorem oc_isLike {k k2 : Nat} {T1 T2 : oy_T} (h1 : oy_okL k T1) (L1 : oy_L k T1 σ) (w1 : σ 1 k 1 0 = ox_wd k) (h2 : oy_okL k2 T2) (L2 : oy_L k2 T2 σ) (w2 : σ 1 k2 1 0 = ox_wd k2) {a b : Nat} : F_Lin_isLike k (a : Int) k2 (b : Int) σ = some (if oy_ln T1 a = oy_ln T2 b then 1 else 0) := by
  have g1 := (oy_good_ln h1 a).1
  have g3 := oy_WN k
  unfold F_Lin_isLike J_Lin_isLike_18
  rw [oc_size h1 L1 a, Option.bind_some, oc_size h2 L2 b, Option.bind_some]
  by_cases q : (oy_ln T1 a).length = (oy_ln T2 b).length
  · rw [if_pos (by omega)]
    have h := oc_likel h1 L1 w1 h2 L2 w2 q (by omega) (oy_ln T1 a).length 0 ox_fu (Nat.zero_add _) (by show _ < 100000; omega)
    rw [List.drop_zero, List.drop_zero] at h
    exact h
  · rw [if_neg (by omega), if_neg (fun y => q (by rw [y]))]
theorem oc_counts (hQ : oy_Q T σ) (hT : oy_ok T) {l : Nat} (hl : l < 60) : F_Kep_counts (l : Int) σ = some (if sp_ct (oy_ln T l) = true then 1 else 0) := by
  obtain ⟨r, e1, e2, _⟩ := oc_rdk hQ hT hl
  unfold F_Kep_counts J_Kep_counts_26 J_Kep_counts_31 sp_ct
  rw [e1, Option.bind_some, e2]
  by_cases q5 : sp_kind (oy_ln T l) = 5
  · rw [if_pos q5, if_pos (decide_eq_true (Or.inl q5))]
    rfl
  rw [if_neg q5]
  by_cases q1 : sp_kind (oy_ln T l) = 1
  · rw [if_pos q1, if_pos (decide_eq_true (Or.inr (Or.inl q1)))]
    rfl
  rw [if_neg q1]
  by_cases q0 : sp_kind (oy_ln T l) = 0
  · rw [if_pos q0, if_pos (decide_eq_true (Or.inr (Or.inr q0)))]
    rfl
  · rw [if_neg q0, if_neg (fun y => by
      rw [decide_eq_true_eq] at y
      omega)]
    rfl
theorem oc_lhas {k : Nat} (hL : oy_L k S σ) {v : Nat} : F_Lin_has k (v : Int) σ = some (if v < S.length then 1 else 0) := by
  unfold F_Lin_has J_Lin_has_16 J_Lin_has_17
  rw [if_neg (by omega), hL.1]
  by_cases q : v < S.length
  · rw [if_neg (by omega), if_pos q]
    rfl
  · rw [if_pos (by omega), if_neg q]
    rfl
theorem oc_asl (hT : oy_ok T) (hQ : oy_Q T σ) (hS : oy_kl S σ) : ∀ (k p n v : Nat), p + k = T.length → v ≤ S.length → k < n → ox_lp (B_Kep_isAsSeen_4 σ) n ((v : Int), (p : Int)) = some (if S.drop v = sp_kq T k p then 1 else 0)
  | _, _, 0, _, _, _, h => absurd h (Nat.not_lt_zero _)
  | 0, p, n + 1, v, h1, h2, _ => by
    refine oy_lp_m (X := some (if S.drop v = sp_kq T 0 p then 1 else 0)) ?_
    unfold B_Kep_isAsSeen_4 J_Kep_isAsSeen_70 J_Kep_isAsSeen_86
    dsimp only
    rw [hQ.2.1.1, if_pos (by omega), hS.2.1.1, sp_kq]
    by_cases q : v = S.length
    · rw [if_pos (by omega), if_pos (List.drop_eq_nil_of_le (by omega))]
      rfl
    · rw [if_neg (by omega), if_neg (fun y => by
        have := congrArg List.length y
        rw [List.length_drop, List.length_nil] at this
        omega)]
      rfl
  | k + 1, p, n + 1, v, h1, h2, h3 => by
    have h60 := hT.1
    have hs60 : S.length ≤ 60 := hS.1.1
    rw [sp_kq]
    by_cases q : sp_ct (oy_ln T p) = true
    rotate_left
    · rw [if_neg q]
      refine (oy_lp_l (a' := ((v : Int), ((p + 1 : Nat) : Int))) ?_).trans (oc_asl hT hQ hS k (p + 1) n v (by omega) h2 (by omega))
      unfold B_Kep_isAsSeen_4 J_Kep_isAsSeen_64
      dsimp only
      rw [hQ.2.1.1, if_neg (by omega), oc_counts hQ hT (by omega), Option.bind_some, if_neg q, if_pos rfl, oy_w1 (by omega)]
    rw [if_pos q]
    by_cases q2 : v < S.length
    rotate_left
    · rw [if_neg (fun y => by
        have := congrArg List.length y
        rw [List.length_drop, List.length_cons] at this
        omega)]
      refine oy_lp_m (X := some 0) ?_
      unfold B_Kep_isAsSeen_4 J_Kep_isAsSeen_59
      dsimp only
      rw [hQ.2.1.1, if_neg (by omega), oc_counts hQ hT (by omega), Option.bind_some, if_pos q, if_neg oy_10, oc_lhas hS.2.1, Option.bind_some, if_neg q2, if_pos rfl]
    have ed : S.drop v = oy_ln S v :: S.drop (v + 1) := oy_drop q2
    have el := oc_isLike hS.1 hS.2.1 hS.2.2.1 (oy_ok_L hT) hQ.2.1 hQ.2.2.1 (a := v) (b := p)
    rw [ed]
    by_cases q3 : oy_ln S v = oy_ln T p
    · have e3 : (if oy_ln S v :: S.drop (v + 1) = oy_ln T p :: sp_kq T k (p + 1) then (1 : Int) else 0) = if S.drop (v + 1) = sp_kq T k (p + 1) then 1 else 0 := by
        by_cases z : S.drop (v + 1) = sp_kq T k (p + 1)
        · rw [if_pos z, if_pos (by rw [q3, z])]
        · rw [if_neg z, if_neg (fun y => z (List.cons.inj y).2)]
      rw [e3]
      refine (oy_lp_l (a' := (((v + 1 : Nat) : Int), ((p + 1 : Nat) : Int))) ?_).trans (oc_asl hT hQ hS k (p + 1) n (v + 1) (by omega) q2 (by omega))
      unfold B_Kep_isAsSeen_4 J_Kep_isAsSeen_64
      dsimp only
      rw [hQ.2.1.1, if_neg (by omega), oc_counts hQ hT (by omega), Option.bind_some, if_pos q, if_neg oy_10, oc_lhas hS.2.1, Option.bind_some, if_pos q2, if_neg oy_10, el, Option.bind_some, if_pos q3, if_neg oy_10, oy_w1 (by omega), oy_w1 (by omega)]
    · rw [if_neg (fun y => q3 (List.cons.inj y).1)]
      refine oy_lp_m (X := some 0) ?_
      unfold B_Kep_isAsSeen_4 J_Kep_isAsSeen_59
      dsimp only
      rw [hQ.2.1.1, if_neg (by omega), oc_counts hQ hT (by omega), Option.bind_some, if_pos q, if_neg oy_10, oc_lhas hS.2.1, Option.bind_some, if_pos q2, if_neg oy_10, el, Option.bind_some, if_neg q3, if_pos rfl]
theorem oc_isAsSeen (hT : oy_ok T) (hQ : oy_Q T σ) (hS : oy_kl S σ) : F_Kep_isAsSeen σ = some (if S = sp_kp T then 1 else 0) := by
  have h60 := hT.1
  have h := oc_asl hT hQ hS T.length 0 ox_fu 0 (Nat.zero_add _) (Nat.zero_le _) (by show T.length < 100000; omega)
  rw [List.drop_zero] at h
  exact h
end OYM1
