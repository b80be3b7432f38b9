/-! ===== lines opened: the class; the call line ===== -/
section OYF4
variable {T : oy_T} {σ : ox_H}
theorem oc_gap {k a m : Nat} (hr : a + m ≤ ox_ln k) : ∀ (f x n : Nat) (τ : ox_H), x + f = a + m → f < n → ∃ τ', ox_lp (B_Lin_open_90 k (a : Int) (m : Int)) n ((x : Int), τ) = J_Lin_open_110 k (m : Int) τ' ∧ ∀ c k' j i, τ' c k' j i = if c = 1 ∧ k' = k ∧ j = 3 ∧ x ≤ i ∧ i < a + m then 0 else τ c k' j i
  | _, _, 0, _, _, h => absurd h (Nat.not_lt_zero _)
  | 0, x, n + 1, τ, h1, h2 => by
    have h3 := oy_lnk k
    refine ⟨τ, oy_lp_m ?_, fun c k' j i => by rw [if_neg (by omega)]⟩
    unfold B_Lin_open_90
    dsimp only
    rw [oy_w (by omega) (by omega), if_pos (by omega)]
  | f + 1, x, n + 1, τ, h1, h2 => by
    have h3 := oy_lnk k
    have hB : B_Lin_open_90 k (a : Int) (m : Int) ((x : Int), τ) = some (.inl (((x + 1 : Nat) : Int), ox_up τ 1 k 3 x 0)) := by
      unfold B_Lin_open_90
      dsimp only
      rw [oy_w (x := (a : Int) + m) (by omega) (by omega), if_neg (by omega), if_pos (by omega), Int.toNat_natCast, oy_w1 (by omega)]
    obtain ⟨τ', e', g'⟩ := oc_gap hr f (x + 1) n (ox_up τ 1 k 3 x 0) (by omega) (by omega)
    refine ⟨τ', (oy_lp_l hB).trans e', fun c k' j i => ?_⟩
    rw [g']
    by_cases q : c = 1 ∧ k' = k ∧ j = 3 ∧ x + 1 ≤ i ∧ i < a + m
    · rw [if_pos q, if_pos (by omega)]
    · rw [if_neg q]
      by_cases z : c = 1 ∧ k' = k ∧ j = 3 ∧ i = x
      · obtain ⟨rfl, rfl, rfl, rfl⟩ := z
        rw [oy_up_same, if_pos (by omega)]
      · rw [if_neg (by omega)]
        unfold ox_up
        rw [if_neg (by omega)]
theorem oc_open {k a m : Nat} (hT : oy_okL k T) (hL : oy_L k T σ) (hw : σ 1 k 1 0 = ox_wd k) (hn : σ 1 k 0 0 = ox_ln k) (ha : a ≤ T.length) (hm : 1 ≤ m) (hr : T.length + m ≤ ox_ln k) : ∃ σ', F_Lin_open k (a : Int) (m : Int) σ = some σ' ∧ oy_fs (oy_le k) σ σ' ∧ oy_L k (sp_ins T a m) σ' ∧ σ' 1 k 5 0 = ox_w (σ 1 k 5 0 + 1) := by
  have h1 := oy_wdk k
  have h2 := oy_lnk k
  have p1 : ox_w (ox_w ((T.length : Int) - (a : Int)) * (ox_wd k : Int)) = (((T.length - a) * ox_wd k : Nat) : Int) := by
    rw [oy_w (x := (T.length : Int) - (a : Int)) (by omega) (by omega)]
    rcases h1 with q | q <;> rw [q] <;> rw [oy_w (by omega) (by omega)] <;> omega
  have p2 : ox_w (ox_w ((a : Int) + (m : Int)) * (ox_wd k : Int)) = (((a + m) * ox_wd k : Nat) : Int) := by
    rw [oy_w (x := (a : Int) + (m : Int)) (by omega) (by omega)]
    rcases h1 with q | q <;> rw [q] <;> rw [oy_w (by omega) (by omega)] <;> omega
  have p3 : ox_w ((a : Int) * (ox_wd k : Int)) = ((a * ox_wd k : Nat) : Int) := by
    rcases h1 with q | q <;> rw [q] <;> rw [oy_w (by omega) (by omega)] <;> omega
  have p4 : ox_w ((T.length : Int) - (a : Int)) = ((T.length - a : Nat) : Int) := by rw [oy_w (by omega) (by omega)]; omega
  have p5 : ox_w ((a : Int) + (m : Int)) = ((a + m : Nat) : Int) := by rw [oy_w (by omega) (by omega)]; omega
  have c1 : 0 ≤ (((T.length - a) * ox_wd k : Nat) : Int) ∧ 0 ≤ (((a + m) * ox_wd k : Nat) : Int) ∧ 0 ≤ ((a * ox_wd k : Nat) : Int) ∧ ((a * ox_wd k : Nat) : Int) + (((T.length - a) * ox_wd k : Nat) : Int) ≤ ((ox_ln k * ox_wd k : Nat) : Int) ∧ (((a + m) * ox_wd k : Nat) : Int) + (((T.length - a) * ox_wd k : Nat) : Int) ≤ ((ox_ln k * ox_wd k : Nat) : Int) := by
    rcases h1 with q | q <;> rw [q] <;> omega
  unfold F_Lin_open
  rw [hL.1, hn, hw, if_neg (by omega), if_neg (by omega), if_neg (by omega), oy_w (x := (ox_ln k : Int) - (T.length : Int)) (by omega) (by omega), if_pos (by omega), p1, p2, p3, p4, p5]
  rw [if_pos c1, if_pos (by omega)]
  simp only [Int.toNat_natCast]
  unfold J_Lin_open_90
  obtain ⟨τ, e, g⟩ := oc_gap (k := k) (a := a) (m := m) (by omega) m a ox_fu (ox_cp (ox_cp σ 1 k 2 (a * ox_wd k) 1 k 2 ((a + m) * ox_wd k) ((T.length - a) * ox_wd k)) 1 k 3 a 1 k 3 (a + m) (T.length - a)) (by omega) (by show m < 100000; omega)
  rw [e]
  have t : ∀ j i, j ≠ 2 → j ≠ 3 → ∀ c k', τ c k' j i = σ c k' j i := fun j i q1 q2 c k' => by
    rw [g, if_neg (by omega), oy_cp_def, if_neg (by omega), oy_cp_def, if_neg (by omega)]
  have t3 : ∀ i, τ 1 k 3 i = if a ≤ i ∧ i < a + m then 0 else if a + m ≤ i ∧ i < T.length + m then σ 1 k 3 (i - m) else σ 1 k 3 i := fun i => by
    rw [g]
    by_cases q : a ≤ i ∧ i < a + m
    · rw [if_pos ⟨rfl, rfl, rfl, q.1, q.2⟩, if_pos q]
    · rw [if_neg (by omega), if_neg q, oy_cp_def]
      by_cases z : a + m ≤ i ∧ i < T.length + m
      · have ei : a + (i - (a + m)) = i - m := by omega
        rw [if_pos ⟨rfl, rfl, rfl, z.1, by omega⟩, if_pos z, oy_cp_def, if_neg (by omega), ei]
      · rw [if_neg (by omega), if_neg z, oy_cp_def, if_neg (by omega)]
  have t2 : ∀ i, τ 1 k 2 i = if (a + m) * ox_wd k ≤ i ∧ i < (a + m) * ox_wd k + (T.length - a) * ox_wd k then σ 1 k 2 (a * ox_wd k + (i - (a + m) * ox_wd k)) else σ 1 k 2 i := fun i => by
    rw [g, if_neg (by omega), oy_cp_def, if_neg (by omega), oy_cp_def]
    by_cases q : (a + m) * ox_wd k ≤ i ∧ i < (a + m) * ox_wd k + (T.length - a) * ox_wd k
    · rw [if_pos ⟨rfl, rfl, rfl, q.1, q.2⟩, if_pos q]
    · rw [if_neg (fun z => q ⟨z.2.2.2.1, z.2.2.2.2⟩), if_neg q]
  have F : oy_fs (oy_le k) σ τ := fun c k' j i h => by
    unfold oy_le at h
    rw [g, if_neg (by omega), oy_cp_def, if_neg (by omega), oy_cp_def, if_neg (by omega)]
  have hlen : (sp_ins T a m).length = T.length + m := oy_mk_len
  have el : ∀ l, l < T.length + m → oy_ln (sp_ins T a m) l = if l < a then oy_ln T l else if l < a + m then [] else oy_ln T (l - m) := fun l hl => by
    unfold sp_ins
    rw [oy_mk_ln, if_pos hl]
  unfold J_Lin_open_110
  refine ⟨_, rfl, (F.up ⟨rfl, rfl, by decide, by decide⟩).up ⟨rfl, rfl, by decide, by decide⟩, ⟨?_, fun l hl => ?_, fun l p hl hp => ?_⟩, ?_⟩
  · rw [oy_up_ne (by decide), oy_up_same, t 4 0 (by decide) (by decide), hL.1, hlen, oy_w (by omega) (by omega)]
    omega
  · rw [hlen] at hl
    rw [oy_up_ne (by decide), oy_up_ne (by decide), t3, el l hl]
    by_cases q1 : l < a
    · rw [if_pos q1, if_neg (by omega), if_neg (by omega)]
      exact hL.2.1 l (by omega)
    rw [if_neg q1]
    by_cases q2 : l < a + m
    · rw [if_pos q2, if_pos (by omega)]; rfl
    · rw [if_neg q2, if_neg (by omega), if_pos (by omega)]
      exact hL.2.1 (l - m) (by omega)
  · rw [hlen] at hl
    rw [el l hl] at hp ⊢
    rw [oy_up_ne (by decide), oy_up_ne (by decide), t2]
    by_cases q1 : l < a
    · have hlw := oy_okL_len hT l
      rw [if_pos q1] at hp ⊢
      rw [if_neg (by rcases h1 with q | q <;> rw [q] at hlw ⊢ <;> omega)]
      exact hL.2.2 l p (by omega) hp
    rw [if_neg q1] at hp ⊢
    by_cases q2 : l < a + m
    · rw [if_pos q2] at hp
      exact absurd hp (Nat.not_lt_zero _)
    · have hlw := oy_okL_len hT (l - m)
      rw [if_neg q2] at hp ⊢
      have ei : a * ox_wd k + (ox_wd k * l + p - (a + m) * ox_wd k) = ox_wd k * (l - m) + p := by rcases h1 with q | q <;> rw [q] <;> omega
      rw [if_pos (by rcases h1 with q | q <;> rw [q] at hlw ⊢ <;> omega), ei]
      exact hL.2.2 (l - m) p (by omega) hp
  · rw [oy_up_same, oy_up_ne (by decide), t 5 0 (by decide) (by decide)]
end OYF4
