/-! ===== rows of the reference: copied ===== -/
/-- n rows (signs in j, sizes in j + 1) copied -/
def oy_rc (σ : ox_H) (j0 s j d n : Nat) : ox_H := ox_cp (ox_cp σ 10 0 j0 (24 * s) 10 0 j (24 * d) (24 * n)) 10 0 (j0 + 1) s 10 0 (j + 1) d n
theorem oy_rc_0 {σ : ox_H} {j0 s j d n i : Nat} : oy_rc σ j0 s j d n 10 0 j i = if 24 * d ≤ i ∧ i < 24 * d + 24 * n then σ 10 0 j0 (24 * s + (i - 24 * d)) else σ 10 0 j i := by
  unfold oy_rc
  rw [oy_cp_ne (by omega), oy_cp_in]
theorem oy_rc_1 {σ : ox_H} {j0 s j d n i : Nat} (h : j0 + 1 ≠ j) : oy_rc σ j0 s j d n 10 0 (j + 1) i = if d ≤ i ∧ i < d + n then σ 10 0 (j0 + 1) (s + (i - d)) else σ 10 0 (j + 1) i := by
  unfold oy_rc
  rw [oy_cp_in, oy_cp_ne (by omega), oy_cp_ne (by omega)]
theorem oy_rc_n {σ : ox_H} {j0 s j d n c' k' j' i' : Nat} (h : ¬ (c' = 10 ∧ (j' = j ∨ j' = j + 1))) : oy_rc σ j0 s j d n c' k' j' i' = σ c' k' j' i' := by
  unfold oy_rc
  rw [oy_cp_ne (by omega), oy_cp_ne (by omega)]
theorem oy_rc_k {σ : ox_H} {j0 s j d n c' k' j' i' : Nat} (h : k' ≠ 0) : oy_rc σ j0 s j d n c' k' j' i' = σ c' k' j' i' := by
  unfold oy_rc
  rw [oy_cp_def, if_neg (fun q => h q.2.2.1), oy_cp_def, if_neg (fun q => h q.2.2.1)]
theorem oy_rc_nil {σ : ox_H} {j0 s j d : Nat} : oy_rc σ j0 s j d 0 = σ := by
  unfold oy_rc
  rw [Nat.mul_zero, oy_cp_0, oy_cp_0]
theorem oy_rc_ext {σ' σ : ox_H} {j0 s j d n : Nat} (h0 : ∀ i, σ' 10 0 j i = oy_rc σ j0 s j d n 10 0 j i) (h1 : ∀ i, σ' 10 0 (j + 1) i = oy_rc σ j0 s j d n 10 0 (j + 1) i) (h2 : ∀ c k j' i, ¬ (c = 10 ∧ k = 0 ∧ (j' = j ∨ j' = j + 1)) → σ' c k j' i = σ c k j' i) : σ' = oy_rc σ j0 s j d n := by
  funext c k j' i
  by_cases q : c = 10 ∧ k = 0 ∧ (j' = j ∨ j' = j + 1)
  · obtain ⟨rfl, rfl, q⟩ := q
    rcases q with rfl | rfl
    · exact h0 i
    · exact h1 i
  · rw [h2 c k j' i q]
    by_cases z : k = 0
    · rw [oy_rc_n (by omega)]
    · rw [oy_rc_k z]
theorem oy_rc1 {σ : ox_H} {j0 s j d : Nat} (h3 : j0 % 3 = 0 ∧ j % 3 = 0) : ox_cp (ox_up σ 10 0 (j + 1) d (σ 10 0 (j0 + 1) s)) 10 0 j0 (24 * s) 10 0 j (24 * d) 24 = oy_rc σ j0 s j d 1 := by
  refine oy_rc_ext (fun i => ?_) (fun i => ?_) (fun c k j' i h => ?_)
  · rw [oy_cp_in, oy_rc_0, oy_up_ne (by omega), oy_up_ne (by omega)]
  · rw [oy_cp_ne (by omega), oy_rc_1 (by omega)]
    by_cases q : i = d
    · rw [q, oy_up_same, if_pos (by omega), Nat.sub_self]
      rfl
    · rw [oy_up_ni q, if_neg (by omega)]
  · rw [oy_cp_def, if_neg (by omega)]
    unfold ox_up
    rw [if_neg (by omega)]
theorem oy_rc_step {σ : ox_H} {j0 s j d n : Nat} (h3 : j0 % 3 = 0 ∧ j % 3 = 0) (h : j0 ≠ j ∨ d < s) : oy_rc (oy_rc σ j0 s j d 1) j0 (s + 1) j (d + 1) n = oy_rc σ j0 s j d (n + 1) := by
  refine oy_rc_ext (fun i => ?_) (fun i => ?_) (fun c k j' i q => ?_)
  · rw [oy_rc_0 (σ := oy_rc σ j0 s j d 1), oy_rc_0 (n := n + 1)]
    by_cases q : 24 * (d + 1) ≤ i ∧ i < 24 * (d + 1) + 24 * n
    · have ei : 24 * (s + 1) + (i - 24 * (d + 1)) = 24 * s + (i - 24 * d) := by omega
      rw [if_pos q, if_pos (by omega), ei]
      by_cases z : j0 = j
      · rw [z, oy_rc_0, if_neg (by omega)]
      · rw [oy_rc_n (by omega)]
    · rw [if_neg q, oy_rc_0]
      by_cases z : 24 * d ≤ i ∧ i < 24 * d + 24 * 1
      · rw [if_pos z, if_pos (by omega)]
      · rw [if_neg z, if_neg (by omega)]
  · rw [oy_rc_1 (σ := oy_rc σ j0 s j d 1) (by omega), oy_rc_1 (n := n + 1) (by omega)]
    by_cases q : d + 1 ≤ i ∧ i < d + 1 + n
    · have ei : s + 1 + (i - (d + 1)) = s + (i - d) := by omega
      rw [if_pos q, if_pos (by omega), ei]
      by_cases z : j0 = j
      · rw [z, oy_rc_1 (by omega), if_neg (by omega)]
      · rw [oy_rc_n (by omega)]
    · rw [if_neg q, oy_rc_1 (by omega)]
      by_cases z : d ≤ i ∧ i < d + 1
      · rw [if_pos z, if_pos (by omega)]
      · rw [if_neg z, if_neg (by omega)]
  · by_cases z : k = 0
    · rw [oy_rc_n (by omega), oy_rc_n (by omega)]
    · rw [oy_rc_k z, oy_rc_k z]
/-- a row's signs copied by a loop -/
theorem oy_cpl {β : Type} (g : Int × ox_H → Option ((Int × ox_H) ⊕ β)) (X : ox_H → Option β) (j0 sp j dp : Nat) (hd : j0 ≠ j ∨ dp + 24 ≤ sp ∨ sp + 24 ≤ dp) (hE : ∀ τ, g (((24 : Nat) : Int), τ) = (X τ).map .inr)
    (hB : ∀ (y : Nat) (τ : ox_H), y < 24 → g ((y : Int), τ) = some (.inl (((y + 1 : Nat) : Int), ox_up τ 10 0 j (dp + y) (τ 10 0 j0 (sp + y))))) : ∀ (f y n : Nat) (τ : ox_H), y + f = 24 → f < n → ox_lp g n ((y : Int), τ) = X (ox_cp τ 10 0 j0 (sp + y) 10 0 j (dp + y) f)
  | _, _, 0, _, _, h => absurd h (Nat.not_lt_zero _)
  | 0, y, n + 1, τ, h1, h2 => by
    obtain rfl : y = 24 := by omega
    rw [oy_cp_0]
    exact oy_lp_m (hE τ)
  | f + 1, y, n + 1, τ, h1, h2 => by
    rw [oy_lp_l (hB y τ (by omega)), oy_cpl g X j0 sp j dp hd hE hB f (y + 1) n _ (by omega) (by omega)]
    have hh : ox_cp (ox_up τ 10 0 j (dp + y) (τ 10 0 j0 (sp + y))) 10 0 j0 (sp + (y + 1)) 10 0 j (dp + (y + 1)) f = ox_cp τ 10 0 j0 (sp + y) 10 0 j (dp + y) (f + 1) := by
      funext c' k' j' i'
      rw [oy_cp_def, oy_cp_def]
      by_cases q : c' = 10 ∧ j' = j ∧ k' = 0 ∧ dp + y ≤ i' ∧ i' < dp + y + (f + 1)
      · rw [if_pos q]
        by_cases z : i' = dp + y
        · rw [if_neg (by omega), z, q.1, q.2.1, q.2.2.1, oy_up_same, Nat.sub_self]
          rfl
        · have ei : sp + (y + 1) + (i' - (dp + (y + 1))) = sp + y + (i' - (dp + y)) := by omega
          rw [if_pos (by omega), ei]
          by_cases z2 : j0 = j
          · rw [oy_up_ni (by omega)]
          · rw [oy_up_ne (by omega)]
      · rw [if_neg q, if_neg (by omega)]
        unfold ox_up
        rw [if_neg (by omega)]
    rw [hh]
/-- rows copied by a loop, upwards -/
theorem oy_rcl {β : Type} (g : Int × ox_H → Option ((Int × ox_H) ⊕ β)) (X : ox_H → Option β) (P : ox_H → Prop) (j0 s j d b N : Nat) (h3 : j0 % 3 = 0 ∧ j % 3 = 0) (hd : j0 ≠ j ∨ d < s) (hP : ∀ (τ : ox_H) (x : Nat), P τ → P (oy_rc τ j0 (s + x) j (d + x) 1)) (hE : ∀ τ, P τ → g (((b + N : Nat) : Int), τ) = (X τ).map .inr)
    (hB : ∀ (x : Nat) (τ : ox_H), x < N → P τ → g (((b + x : Nat) : Int), τ) = some (.inl (((b + (x + 1) : Nat) : Int), oy_rc τ j0 (s + x) j (d + x) 1))) : ∀ (f x n : Nat) (τ : ox_H), x + f = N → f < n → P τ → ox_lp g n (((b + x : Nat) : Int), τ) = X (oy_rc τ j0 (s + x) j (d + x) f)
  | _, _, 0, _, _, h, _ => absurd h (Nat.not_lt_zero _)
  | 0, x, n + 1, τ, h1, h2, hp => by
    obtain rfl : x = N := by omega
    rw [oy_rc_nil]
    exact oy_lp_m (hE τ hp)
  | f + 1, x, n + 1, τ, h1, h2, hp => by
    rw [oy_lp_l (hB x τ (by omega) hp), oy_rcl g X P j0 s j d b N h3 hd hP hE hB f (x + 1) n _ (by omega) (by omega) (hP τ x hp)]
    have e1 : s + (x + 1) = (s + x) + 1 := by omega
    have e2 : d + (x + 1) = (d + x) + 1 := by omega
    rw [e1, e2, oy_rc_step h3 (by omega)]
theorem oy_w24 {x : Nat} (h : x ≤ 10000) : ox_w (24 * (x : Int)) = ((24 * x : Nat) : Int) := by
  rw [oy_w (by omega) (by omega)]
  omega
/-- rows hold lines -/
def oy_ro (j a : Nat) (P : oy_T) (σ : ox_H) : Prop := (∀ l, l < P.length → σ 10 0 (j + 1) (a + l) = (oy_ln P l).length) ∧ ∀ l p, l < P.length → p < (oy_ln P l).length → σ 10 0 j (24 * (a + l) + p) = oy_wk (oy_ln P l) p
def oy_24 (P : oy_T) : Prop := ∀ l, oy_good 0 (oy_ln P l)
theorem oy_24_ok {T : oy_T} (h : oy_ok T) : oy_24 T := fun l => oy_good_ln (oy_ok_L h) l
theorem oy_24_sub {T : oy_T} {a m : Nat} (h : oy_24 T) : oy_24 (sp_sub T a m) := fun l => by
  unfold sp_sub
  rw [oy_mk_ln]
  split
  · exact h _
  · exact oy_good_nil
theorem oy_M.ro {T : oy_T} {σ : ox_H} (h : oy_M T σ) : oy_ro 0 0 T σ := by
  refine ⟨fun l hl => ?_, fun l p hl hp => ?_⟩
  · have e : 0 + l = l := Nat.zero_add l
    rw [e]
    exact h.2.1 l hl
  · have e : 0 + l = l := Nat.zero_add l
    rw [e]
    exact h.2.2 l p hl hp
theorem oy_ro.M {T : oy_T} {σ : ox_H} (h : oy_ro 0 0 T σ) (h2 : σ 10 0 2 0 = T.length) : oy_M T σ := by
  refine ⟨h2, fun l hl => ?_, fun l p hl hp => ?_⟩
  · have e : 0 + l = l := Nat.zero_add l
    have := h.1 l hl
    rw [e] at this
    exact this
  · have e : 0 + l = l := Nat.zero_add l
    have := h.2 l p hl hp
    rw [e] at this
    exact this
theorem oy_ro.sub {T : oy_T} {σ : ox_H} {j a b m : Nat} (h : oy_ro j a T σ) (hr : b + m ≤ T.length) : oy_ro j (a + b) (sp_sub T b m) σ := by
  refine ⟨fun l hl => ?_, fun l p hl hp => ?_⟩
  · rw [sp_sub_len] at hl
    rw [sp_sub_ln hl, Nat.add_assoc]
    exact h.1 (b + l) (by omega)
  · rw [sp_sub_len] at hl
    rw [sp_sub_ln hl] at hp ⊢
    rw [Nat.add_assoc]
    exact h.2 (b + l) p (by omega) hp
theorem oy_ro.rc {P : oy_T} {σ : ox_H} {j0 s j d : Nat} (h : oy_ro j0 s P σ) (hP : oy_24 P) (h3 : j0 % 3 = 0 ∧ j % 3 = 0) : oy_ro j d P (oy_rc σ j0 s j d P.length) := by
  refine ⟨fun l hl => ?_, fun l p hl hp => ?_⟩
  · have e : s + (d + l - d) = s + l := by omega
    rw [oy_rc_1 (by omega), if_pos (by omega), e]
    exact h.1 l hl
  · have h24 : (oy_ln P l).length ≤ 24 := (hP l).1
    have e : 24 * s + (24 * (d + l) + p - 24 * d) = 24 * (s + l) + p := by omega
    rw [oy_rc_0, if_pos (by omega), e]
    exact h.2 l p hl hp
theorem oy_ro.off {P : oy_T} {σ : ox_H} {j0 s j d n j' a : Nat} (h : oy_ro j' a P σ) (hP : oy_24 P) (h3 : j' % 3 = 0 ∧ j % 3 = 0 ∧ j0 % 3 = 0) (hd : j' ≠ j ∨ a + P.length ≤ d ∨ d + n ≤ a) : oy_ro j' a P (oy_rc σ j0 s j d n) := by
  refine ⟨fun l hl => ?_, fun l p hl hp => ?_⟩
  · rw [← h.1 l hl]
    by_cases q : j' = j
    · rw [q, oy_rc_1 (by omega), if_neg (by omega)]
    · rw [oy_rc_n (by omega)]
  · have h24 : (oy_ln P l).length ≤ 24 := (hP l).1
    rw [← h.2 l p hl hp]
    by_cases q : j' = j
    · rw [q, oy_rc_0, if_neg (by omega)]
    · rw [oy_rc_n (by omega)]
theorem oy_ro.fr {P : oy_T} {S : Nat → Nat → Bool} {σ σ' : ox_H} {j a : Nat} (h : oy_ro j a P σ) (hf : oy_fr S σ σ') (h0 : S 10 j = false) (h1 : S 10 (j + 1) = false) : oy_ro j a P σ' := ⟨fun l hl => (hf 10 0 _ _ h1).trans (h.1 l hl), fun l p hl hp => (hf 10 0 _ _ h0).trans (h.2 l p hl hp)⟩
/-- what moving rows writes -/
def oy_mr (c j : Nat) : Bool := c == 10 && decide (j ≤ 5)
theorem oy_fr.rc {S : Nat → Nat → Bool} {σ σ1 : ox_H} {j0 s j d n : Nat} (h : oy_fr S σ σ1) (h0 : S 10 j = true) (h1 : S 10 (j + 1) = true) : oy_fr S σ (oy_rc σ1 j0 s j d n) := fun c k j' i h' => by
  rw [oy_rc_n (fun q => by
    rw [q.1] at h'
    rcases q.2 with z | z <;> rw [z] at h'
    · rw [h0] at h'; cases h'
    · rw [h1] at h'; cases h')]
  exact h c k j' i h'
section OYF5
variable {T : oy_T} {σ : ox_H}
theorem om_closei {a m x : Nat} {τ : ox_H} (hx : x + m < 60) (hm : 1 ≤ m) : J_Mod_close_37 (m : Int) (x : Int) 0 τ = some (.inl (((x + 1 : Nat) : Int), ox_cp τ 10 0 0 (24 * (x + m)) 10 0 0 (24 * x) 24)) := by
  unfold J_Mod_close_37
  refine oy_cpl (B_Mod_close_37 (m : Int) (x : Int)) (fun τ => some (.inl (((x + 1 : Nat) : Int), τ))) 0 (24 * (x + m)) 0 (24 * x) (by omega) (fun τ => ?_) (fun y τ hy => ?_) 24 0 ox_fu τ (by omega) (by show 24 < 100000; omega)
  · unfold B_Mod_close_37 J_Mod_close_76
    dsimp only
    rw [if_pos (by decide), oy_w1 (by omega)]
  · have e1 : ox_w (ox_w (24 * ox_w ((x : Int) + (m : Int))) + (y : Int)) = ((24 * (x + m) + y : Nat) : Int) := by rw [oy_wn (by omega), oy_w24 (by omega), oy_wn (by omega)]
    have e2 : ox_w (ox_w (24 * (x : Int)) + (y : Int)) = ((24 * x + y : Nat) : Int) := by rw [oy_w24 (by omega), oy_wn (by omega)]
    unfold B_Mod_close_37
    dsimp only
    rw [if_neg (by omega), e1, e2, Int.toNat_natCast, Int.toNat_natCast, if_pos (by omega), if_pos (by omega), oy_w1 (by omega)]
theorem om_close (hT : oy_ok T) (hM : oy_M T σ) {a m : Nat} (hm : 1 ≤ m) (hr : a + m ≤ T.length) : ∃ σ', F_Mod_close (a : Int) (m : Int) σ = some σ' ∧ oy_fr (fun c j => c == 10 && decide (j ≤ 2)) σ σ' ∧ oy_M (sp_del T a m) σ' := by
  have h60 := hT.1
  have e0 : ox_w (σ 10 0 2 0 - (m : Int)) = ((T.length - m : Nat) : Int) := by rw [hM.1, oy_wsb (by omega) (by omega)]
  unfold F_Mod_close J_Mod_close_12
  rw [e0]
  have hl := oy_rcl (B_Mod_close_12 (m : Int)) (fun τ => some τ) (fun τ => τ 10 0 2 0 = ((T.length - m : Nat) : Int)) 0 (a + m) 0 a a (T.length - m - a) (by omega) (by omega) (fun τ x hp => by rw [oy_rc_n (by omega)]; exact hp) (fun τ hp => by
      unfold B_Mod_close_12 J_Mod_close_82
      dsimp only
      rw [hp, if_pos (by omega)]) (fun x τ hx hp => by
      have e1 : ox_w (((a + x : Nat) : Int) + (m : Int)) = ((a + x + m : Nat) : Int) := oy_wn (by omega)
      unfold B_Mod_close_12
      dsimp only
      rw [hp, if_neg (by omega), e1, Int.toNat_natCast, Int.toNat_natCast, if_pos (by omega), if_pos (by omega), om_closei (a := a) (by omega) hm, oy_rc1 (j0 := 0) (j := 0) ⟨rfl, rfl⟩]
      have e2 : a + x + m = a + m + x := by omega
      have e3 : a + x + 1 = a + (x + 1) := by omega
      rw [e2, e3]) (T.length - m - a) 0 ox_fu (ox_up σ 10 0 2 0 ((T.length - m : Nat) : Int)) (by omega) (by show _ < 100000; omega) oy_up_same
  rw [Nat.add_zero] at hl
  rw [hl]
  refine ⟨_, rfl, (oy_fr.rf.up rfl).rc rfl rfl, ?_⟩
  have hd : ∀ l, oy_ln (sp_del T a m) l = if l < T.length - m then (if l < a then oy_ln T l else oy_ln T (l + m)) else [] := fun l => by
    unfold sp_del
    rw [oy_mk_ln]
  refine ⟨?_, fun l hl => ?_, fun l p hl hp => ?_⟩
  · rw [oy_rc_n (by omega), oy_up_same, sp_del_len]
  · rw [sp_del_len] at hl
    rw [sp_del_ln hl, oy_rc_1 (by omega)]
    by_cases q : l < a
    · rw [if_pos q, if_neg (by omega), oy_up_ne (by decide)]
      exact hM.2.1 l (by omega)
    · have e : a + m + 0 + (l - a) = l + m := by omega
      rw [if_neg q, if_pos (by omega), oy_up_ne (by decide), e]
      exact hM.2.1 (l + m) (by omega)
  · rw [sp_del_len] at hl
    rw [sp_del_ln hl] at hp ⊢
    rw [oy_rc_0]
    by_cases q : l < a
    · have h24 := oy_len24 hT l
      rw [if_pos q] at hp ⊢
      rw [if_neg (by omega), oy_up_ne (by decide)]
      exact hM.2.2 l p (by omega) hp
    · have h24 := oy_len24 hT (l + m)
      have e : 24 * (a + m + 0) + (24 * l + p - 24 * a) = 24 * (l + m) + p := by omega
      rw [if_neg q] at hp ⊢
      rw [if_pos (by omega), oy_up_ne (by decide), e]
      exact hM.2.2 (l + m) p (by omega) hp
theorem om_lift (hT : oy_ok T) (hM : oy_M T σ) {a m : Nat} (hr : a + m ≤ T.length) : ∃ σ', F_Mod_lift (a : Int) (m : Int) σ = some σ' ∧ oy_fr (fun c j => c == 10 && (decide (3 ≤ j) && decide (j ≤ 5))) σ σ' ∧ oy_ro 3 0 (sp_sub T a m) σ' ∧ σ' 10 0 5 0 = m := by
  have h60 := hT.1
  unfold F_Mod_lift J_Mod_lift_7
  have hl := oy_rcl (B_Mod_lift_7 (a : Int) (m : Int)) (fun τ => some τ) (fun _ => True) 0 a 3 0 0 m (by omega) (by omega) (fun τ x hp => trivial) (fun τ hp => by
      unfold B_Mod_lift_7 J_Mod_lift_74
      dsimp only
      rw [if_pos (by omega)]) (fun x τ hx hp => by
      have e1 : ox_w ((a : Int) + ((0 + x : Nat) : Int)) = ((a + x : Nat) : Int) := by rw [oy_wn (by omega), Nat.zero_add]
      have hi := oy_cpl (B_Mod_lift_29 (a : Int) (m : Int) ((0 + x : Nat) : Int)) (fun τ => some (.inl (((0 + (x + 1) : Nat) : Int), τ))) 0 (24 * (a + x)) 3 (24 * (0 + x)) (by omega) (fun τ => by
          unfold B_Mod_lift_29 J_Mod_lift_68
          dsimp only
          rw [if_pos (by decide), oy_w1 (by omega)]
          rfl) (fun y τ hy => by
          have e2 : ox_w (ox_w (24 * ox_w ((a : Int) + ((0 + x : Nat) : Int))) + (y : Int)) = ((24 * (a + x) + y : Nat) : Int) := by rw [e1, oy_w24 (by omega), oy_wn (by omega)]
          have e3 : ox_w (ox_w (24 * ((0 + x : Nat) : Int)) + (y : Int)) = ((24 * (0 + x) + y : Nat) : Int) := by rw [oy_w24 (by omega), oy_wn (by omega)]
          unfold B_Mod_lift_29
          dsimp only
          rw [if_neg (by omega), e2, e3, Int.toNat_natCast, Int.toNat_natCast, if_pos (by omega), if_pos (by omega), oy_w1 (by omega)]) 24 0 ox_fu (ox_up τ 10 0 4 (0 + x) (τ 10 0 1 (a + x))) (by omega) (by show 24 < 100000; omega)
      unfold B_Mod_lift_7 J_Mod_lift_29
      dsimp only
      rw [if_neg (by omega), e1, Int.toNat_natCast, Int.toNat_natCast, if_pos (by omega), if_pos (by omega)]
      refine hi.trans ?_
      exact congrArg (fun t : ox_H => (some (.inl (((0 + (x + 1) : Nat) : Int), t)) : Option ((Int × ox_H) ⊕ ox_H))) (oy_rc1 (j0 := 0) (s := a + x) (j := 3) (d := 0 + x) ⟨rfl, rfl⟩)) m 0 ox_fu (ox_up σ 10 0 5 0 (m : Int)) (by omega) (by show m < 100000; omega) trivial
  refine ⟨_, hl, (oy_fr.rf.up rfl).rc rfl rfl, ?_, ?_⟩
  · have h1 : oy_ro 0 (0 + a) (sp_sub T a m) (ox_up σ 10 0 5 0 (m : Int)) := (hM.ro.sub hr).fr (S := fun c j => c == 10 && j == 5) (oy_fr.rf.up rfl) rfl rfl
    rw [Nat.zero_add] at h1
    have h2 := h1.rc (j := 3) (d := 0) (oy_24_sub (oy_24_ok hT)) ⟨rfl, rfl⟩
    rw [sp_sub_len] at h2
    exact h2
  · rw [oy_rc_n (by omega), oy_up_same]
end OYF5
