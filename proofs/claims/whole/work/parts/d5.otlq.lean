/-! ===== the class: questions of the outline ===== -/
theorem sp_kind_1 {w : List Int} : sp_kind w = 1 ↔ (sp_prop w).isSome = true := by
  constructor
  · intro h
    unfold sp_kind at h
    by_cases q : (sp_prop w).isSome = true
    · exact q
    · rw [if_neg q] at h
      revert h
      split <;> (try split) <;> (try split) <;> (try split) <;> (try split) <;> (try split) <;> intro h <;> exact absurd h (by decide)
  · intro h
    rw [sp_kind_58 (sp_prop_0 h), if_pos h]
theorem sp_kind_2 {w : List Int} : sp_kind w = 2 ↔ (sp_date w).isSome = true := by
  constructor
  · intro h
    unfold sp_kind at h
    by_cases q : (sp_date w).isSome = true
    · exact q
    · rw [if_neg q] at h
      revert h
      split <;> (try split) <;> (try split) <;> (try split) <;> (try split) <;> (try split) <;> intro h <;> exact absurd h (by decide)
  · intro h
    rw [sp_kind_64 (sp_date_0 h), if_pos h]
theorem oy_lfC {β : Type} (g : Int → Option (Int ⊕ β)) (p : Nat → Bool) (Q : Nat → β) (lo hi : Nat)
    (hs : ∀ k, lo ≤ k → k < hi → p k = false → g (k : Int) = some (.inl ((k + 1 : Nat) : Int)))
    (ht : ∀ k, lo ≤ k → k < hi → p k = true → g (k : Int) = some (.inr (Q k)))
    (he : g (hi : Int) = some (.inr (Q hi))) : ∀ f n k, k + f = hi → lo ≤ k → f < n → ox_lp g n (k : Int) = some (Q (sp_fi p f k))
  | _, 0, _, _, _, h => absurd h (Nat.not_lt_zero _)
  | 0, n + 1, k, h1, h2, h3 => by
    obtain rfl : k = hi := by omega
    exact oy_lp_r he
  | f + 1, n + 1, k, h1, h2, h3 => by
    rw [sp_fi]
    cases hp : p k with
    | true =>
      rw [if_pos rfl]
      exact oy_lp_r (ht k h2 (by omega) hp)
    | false =>
      rw [if_neg (by decide), oy_lp_l (hs k h2 (by omega) hp)]
      exact oy_lfC g p Q lo hi hs ht he f n (k + 1) (by omega) (by omega) (by omega)
/-- the reading of no line -/
def oy_60 (σ : ox_H) : Prop := σ 4 60 0 0 = 7 ∧ σ 4 60 3 0 = -1 ∧ σ 4 60 4 0 = -1 ∧ σ 4 60 5 0 = -1 ∧ σ 4 60 6 0 = 0 ∧ σ 4 60 8 0 = -1 ∧ σ 4 60 9 0 = 0 ∧ σ 4 60 10 0 = 0
/-- the class with its outline fresh -/
def oy_Q (T : oy_T) (σ : ox_H) : Prop := oy_O T σ ∧ oy_L 0 T σ ∧ σ 1 0 1 0 = 24 ∧ oy_60 σ
section OYD5
variable {T : oy_T} {σ : ox_H}
theorem oc_has {a : Int} (hQ : oy_Q T σ) : F_Otl_has a σ = some (if 0 ≤ a ∧ a < sp_n T then 1 else 0) := by
  have h9 := hQ.1.1
  unfold F_Otl_has J_Otl_has_16 J_Otl_has_17
  by_cases h1 : a < 0
  · rw [if_pos h1, if_neg (by omega)]; rfl
  rw [if_neg h1]
  by_cases h2 : σ 2 0 9 0 ≤ a
  · rw [if_pos h2, if_neg (by omega)]; rfl
  · rw [if_neg h2, if_pos (by omega)]; rfl
theorem oc_elv (hT : oy_ok T) (hQ : oy_Q T σ) {e : Nat} (he : e < sp_n T) : F_Otl_levelOf (e : Int) σ = some (sp_lv T e : Int) := by
  have h60 := hT.1
  have hn := sp_n_le (T := T)
  rw [oc_levelOf hQ.1.1 (by omega) he, (hQ.1.2.1 e he).2.1]
theorem oc_eln (hT : oy_ok T) (hQ : oy_Q T σ) {e : Nat} (he : e < sp_n T) : F_Otl_lineOf (e : Int) σ = some (sp_en T e : Int) := by
  have h60 := hT.1
  have hn := sp_n_le (T := T)
  rw [oc_lineOf hQ.1.1 (by omega) he, (hQ.1.2.1 e he).1]
theorem oc_epa (hT : oy_ok T) (hQ : oy_Q T σ) {e : Nat} (he : e < sp_n T) : F_Otl_parentOf (e : Int) σ = some (oy_en (sp_pa T e)) := by
  have h60 := hT.1
  have hn := sp_n_le (T := T)
  rw [oc_parentOf hQ.1.1 (by omega) he, (hQ.1.2.1 e he).2.2.1]
theorem oc_etg (hT : oy_ok T) (hQ : oy_Q T σ) {e : Nat} (he : e < sp_n T) : F_Otl_tagsOf (e : Int) σ = some (sp_tgs T e) := by
  have h60 := hT.1
  have hn := sp_n_le (T := T)
  rw [oc_tagsOf hQ.1.1 (by omega) he, (hQ.1.2.1 e he).2.2.2]
theorem oc_erd (hT : oy_ok T) (hQ : oy_Q T σ) {l : Nat} (hl : l < T.length) : F_Otl_reading (l : Int) σ = some l ∧ oy_rd (oy_ln T l) l σ := ⟨oc_reading hQ.2.1.1 hT.1 hl, hQ.1.2.2.2 l hl⟩
theorem oc_ehd (hQ : oy_Q T σ) {e : Nat} (he : e < sp_n T) : oy_hd (sp_eln T e) (sp_en T e) σ := by
  obtain ⟨h1, h2⟩ := sp_en_lt he
  exact (hQ.1.2.2.2 _ h1).2.1 (sp_kind_H.mpr h2)
theorem oc_est (hT : oy_ok T) (hQ : oy_Q T σ) {e : Nat} (he : e < sp_n T) : F_Otl_stateOf (e : Int) σ = some (sp_es_st T e) := by
  obtain ⟨h1, h2⟩ := sp_en_lt he
  unfold F_Otl_stateOf
  rw [oc_eln hT hQ he, Option.bind_some, (oc_erd hT hQ h1).1, Option.bind_some, (oc_ehd hQ he).2.1]
  rfl
theorem oc_below (hT : oy_ok T) (hQ : oy_Q T σ) {e : Nat} (he : e < sp_n T) : F_Otl_below (e : Int) σ = some ((sp_la T e : Int) - e - 1) := by
  have h60 := hT.1
  have hn := sp_n_le (T := T)
  have hla := sp_la_in he
  unfold F_Otl_below J_Otl_below_10
  rw [oc_elv hT hQ he, Option.bind_some, oy_w1 (by omega)]
  have h := oy_lfC (B_Otl_below_10 (e : Int) (sp_lv T e : Int) σ) (fun k => decide (sp_lv T k ≤ sp_lv T e)) (fun k => ox_w (ox_w ((k : Int) - e) - 1)) (e + 1) (sp_n T)
    (fun k h1 h2 hp => by
      have hp' : ¬ sp_lv T k ≤ sp_lv T e := of_decide_eq_false hp
      unfold B_Otl_below_10
      (try dsimp only)
      rw [hQ.1.1, if_neg (by omega), oc_elv hT hQ h2, Option.bind_some, if_neg (by omega), oy_w1 (by omega)])
    (fun k h1 h2 hp => by
      have hp' : sp_lv T k ≤ sp_lv T e := of_decide_eq_true hp
      unfold B_Otl_below_10
      (try dsimp only)
      rw [hQ.1.1, if_neg (by omega), oc_elv hT hQ h2, Option.bind_some, if_pos (by omega)]
      rfl)
    (by
      unfold B_Otl_below_10
      (try dsimp only)
      rw [hQ.1.1, if_pos (Int.le_refl _)]
      rfl) (sp_n T - (e + 1)) ox_fu (e + 1) (by omega) (Nat.le_refl _) (by show _ < 100000; omega)
  rw [h]
  have e1 : sp_fi (fun k => decide (sp_lv T k ≤ sp_lv T e)) (sp_n T - (e + 1)) (e + 1) = sp_la T e := rfl
  rw [e1, oy_w (x := (sp_la T e : Int) - e) (by omega) (by omega), oy_w (by omega) (by omega)]
theorem oc_ownEnd (hT : oy_ok T) (hQ : oy_Q T σ) {e : Nat} (he : e < sp_n T) : F_Otl_ownEnd (e : Int) σ = some (sp_en T (e + 1) : Int) := by
  have h60 := hT.1
  have hn := sp_n_le (T := T)
  unfold F_Otl_ownEnd J_Otl_ownEnd_25 J_Otl_ownEnd_32
  rw [oy_w1 (by omega), if_neg (by omega), hQ.1.1]
  by_cases q : sp_n T ≤ e + 1
  · rw [if_pos (by omega), hQ.2.1.1, sp_en_ge q]
  · rw [if_neg (by omega), if_pos (by omega), Int.toNat_natCast, (hQ.1.2.1 (e + 1) (by omega)).1]
theorem oc_partEnd (hT : oy_ok T) (hQ : oy_Q T σ) {e : Nat} (he : e < sp_n T) : F_Otl_partEnd (e : Int) σ = some (sp_en T (sp_la T e) : Int) := by
  have h60 := hT.1
  have hn := sp_n_le (T := T)
  have hla := sp_la_in he
  have e1 : ox_w ((e : Int) + ((sp_la T e : Int) - e - 1)) = ((sp_la T e - 1 : Nat) : Int) := by rw [oy_w (by omega) (by omega)]; omega
  have e2 : sp_la T e - 1 + 1 = sp_la T e := by omega
  unfold F_Otl_partEnd
  rw [oc_below hT hQ he, Option.bind_some, e1, oc_ownEnd hT hQ (by omega), Option.bind_some, e2]
theorem oc_dateLine (hT : oy_ok T) (hQ : oy_Q T σ) {e : Nat} (he : e < sp_n T) : F_Otl_dateLine (e : Int) σ = some (if sp_dl T e < sp_en T (e + 1) then (sp_dl T e : Int) else -1) := by
  have h60 := hT.1
  have hn := sp_n_le (T := T)
  obtain ⟨ho1, ho2⟩ := sp_en_own he
  unfold F_Otl_dateLine J_Otl_dateLine_14
  rw [oc_ownEnd hT hQ he, Option.bind_some, oc_eln hT hQ he, Option.bind_some, oy_w1 (by omega)]
  exact oy_lfC (B_Otl_dateLine_14 (sp_en T (e + 1) : Int) σ) (fun l => (sp_date (oy_ln T l)).isSome) (fun l => if l < sp_en T (e + 1) then (l : Int) else -1) (sp_en T e + 1) (sp_en T (e + 1))
    (fun k h1 h2 hp => by
      obtain ⟨r1, r2⟩ := oc_erd hT hQ (l := k) (by omega)
      unfold B_Otl_dateLine_14
      (try dsimp only)
      rw [if_neg (by omega), r1, Option.bind_some, if_neg (by rw [r2.1, sp_kind_2, hp]; decide), oy_w1 (by omega)])
    (fun k h1 h2 hp => by
      obtain ⟨r1, r2⟩ := oc_erd hT hQ (l := k) (by omega)
      unfold B_Otl_dateLine_14
      (try dsimp only)
      rw [if_neg (by omega), r1, Option.bind_some, if_pos (by rw [r2.1, sp_kind_2]; exact hp), if_pos h2]
      rfl)
    (by
      unfold B_Otl_dateLine_14
      (try dsimp only)
      rw [if_pos (Int.le_refl _), if_neg (Nat.lt_irrefl _)]
      rfl) (sp_en T (e + 1) - (sp_en T e + 1)) ox_fu (sp_en T e + 1) (by omega) (Nat.le_refl _) (by show _ < 100000; omega)
theorem oc_own (hT : oy_ok T) (hQ : oy_Q T σ) {e : Nat} (he : e < sp_n T) (x : Int) : F_Otl_own (e : Int) x σ = some (sp_own T e (97 + x)) := by
  have h60 := hT.1
  have hn := sp_n_le (T := T)
  obtain ⟨ho1, ho2⟩ := sp_en_own he
  unfold F_Otl_own J_Otl_own_15
  rw [oc_ownEnd hT hQ he, Option.bind_some, oc_eln hT hQ he, Option.bind_some, oy_w1 (by omega)]
  exact oy_lfC (B_Otl_own_15 x (sp_en T (e + 1) : Int) σ) (fun l => (sp_prop (oy_ln T l)).isSome && decide (oy_wk (oy_ln T l) 1 = 97 + x)) (fun l => if l < sp_en T (e + 1) then (sp_nu (oy_ln T l) 3).2 else -1) (sp_en T e + 1) (sp_en T (e + 1))
    (fun k h1 h2 hp => by
      obtain ⟨r1, r2⟩ := oc_erd hT hQ (l := k) (by omega)
      unfold B_Otl_own_15 J_Otl_own_53
      (try dsimp only)
      rw [if_neg (by omega), r1, Option.bind_some, oy_w1 (by omega)]
      by_cases z : (sp_prop (oy_ln T k)).isSome = true
      · have hk := sp_kind_1.mpr z
        have hd := r2.2.2.1 hk
        rw [if_pos (by rw [r2.1]; exact hk), if_neg (fun y => by
          rw [z, decide_eq_true (show oy_wk (oy_ln T k) 1 = 97 + x by rw [hd.1] at y; omega)] at hp
          exact Bool.noConfusion hp)]
      · rw [if_neg (by rw [r2.1]; exact fun y => z (sp_kind_1.mp y))])
    (fun k h1 h2 hp => by
      obtain ⟨r1, r2⟩ := oc_erd hT hQ (l := k) (by omega)
      rw [Bool.and_eq_true, decide_eq_true_eq] at hp
      have hk := sp_kind_1.mpr hp.1
      have hd := r2.2.2.1 hk
      unfold B_Otl_own_15 J_Otl_own_47
      (try dsimp only)
      rw [if_neg (by omega), r1, Option.bind_some, if_pos (by rw [r2.1]; exact hk), if_pos (by rw [hd.1]; omega), if_pos h2, hd.2]
      rfl)
    (by
      unfold B_Otl_own_15
      (try dsimp only)
      rw [if_pos (Int.le_refl _), if_neg (Nat.lt_irrefl _)]
      rfl) (sp_en T (e + 1) - (sp_en T e + 1)) ox_fu (sp_en T e + 1) (by omega) (Nat.le_refl _) (by show _ < 100000; omega)
end OYD5
