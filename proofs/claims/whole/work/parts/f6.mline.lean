/-! ===== lines of the reference: opened, laid, changed ===== -/
theorem oy_ext {a b : List Int} (h : a.length = b.length) (h2 : ∀ i, i < a.length → oy_wk a i = oy_wk b i) : a = b := by
  refine List.ext_getElem h (fun i h3 h4 => ?_)
  have := h2 i h3
  unfold oy_wk at this
  rw [List.getD_eq_getElem?_getD, List.getElem?_eq_getElem h3, List.getD_eq_getElem?_getD, List.getElem?_eq_getElem h4] at this
  exact this
theorem oy_extT {A B : oy_T} (h : A.length = B.length) (h2 : ∀ l, l < A.length → oy_ln A l = oy_ln B l) : A = B := by
  refine List.ext_getElem h (fun i h3 h4 => ?_)
  have := h2 i h3
  unfold oy_ln at this
  rw [List.getD_eq_getElem?_getD, List.getElem?_eq_getElem h3, List.getD_eq_getElem?_getD, List.getElem?_eq_getElem h4] at this
  exact this
/-- what an edit of the reference's text writes -/
def oy_m2 (c j : Nat) : Bool := c == 10 && decide (j ≤ 2)
section OYF6
variable {T : oy_T} {σ : ox_H}
theorem om_open (hT : oy_ok T) (hM : oy_M T σ) {a m : Nat} (ha : a ≤ T.length) (hm : 1 ≤ m) (hr : T.length + m ≤ 60) : ∃ σ', F_Mod_open (a : Int) (m : Int) σ = some σ' ∧ oy_fr oy_m2 σ σ' ∧ σ' 10 0 2 0 = ((T.length + m : Nat) : Int) ∧ (∀ l, l < T.length → σ' 10 0 1 (if l < a then l else l + m) = (oy_ln T l).length) ∧ ∀ l p, l < T.length → p < (oy_ln T l).length → σ' 10 0 0 (24 * (if l < a then l else l + m) + p) = oy_wk (oy_ln T l) p := by
  obtain ⟨τ, e, g⟩ := om_openl (a := a) hm (T.length - a) T.length ox_fu σ (by omega) hr (by show _ < 100000; omega)
  unfold F_Mod_open J_Mod_open_7
  rw [hM.1, oy_w (by omega) (by omega), e]
  unfold J_Mod_open_74
  have g2 : τ 10 0 2 0 = T.length := by rw [g, oy_mv_n (by omega)]; exact hM.1
  refine ⟨_, rfl, ?_, ?_, fun l hl => ?_, fun l p hl hp => ?_⟩
  · refine oy_fr.up (fun c k j i h => ?_) rfl
    rw [g]
    refine oy_mv_n (fun q => ?_)
    rw [q.1] at h
    rcases q.2.2 with z | z <;> rw [z] at h <;> cases h
  · rw [oy_up_same, g2, oy_wn (by omega)]
  · rw [oy_up_ne (by decide), g, oy_mv_1]
    by_cases q1 : l < a
    · rw [if_pos q1, if_neg (by omega)]
      exact hM.2.1 l (by omega)
    · have ei : a + (l + m - (a + m)) = l := by omega
      rw [if_neg q1, if_pos (by omega), ei]
      exact hM.2.1 l (by omega)
  · have h24 := oy_len24 hT l
    rw [oy_up_ne (by decide), g, oy_mv_0]
    by_cases q1 : l < a
    · rw [if_pos q1, if_neg (by omega)]
      exact hM.2.2 l p (by omega) hp
    · have ei : 24 * a + (24 * (l + m) + p - 24 * (a + m)) = 24 * l + p := by omega
      rw [if_neg q1, if_pos (by omega), ei]
      exact hM.2.2 l p (by omega) hp
theorem om_lay {P : oy_T} (hT : oy_ok T) (hM : oy_M T σ) (hP : oy_ro 3 0 P σ) (h24P : oy_24 P) (h5 : σ 10 0 5 0 = P.length) {a : Nat} (ha : a ≤ T.length) (hm : 1 ≤ P.length) (hr : T.length + P.length ≤ 60) : ∃ σ', F_Mod_lay (a : Int) σ = some σ' ∧ oy_fr oy_m2 σ σ' ∧ oy_M (sp_pas T a P) σ' := by
  obtain ⟨σ1, e1, f1, g0, g1, g2⟩ := om_open hT hM ha hm hr
  have h51 : σ1 10 0 5 0 = P.length := (f1 10 0 5 0 rfl).trans h5
  have hP1 : oy_ro 3 0 P σ1 := hP.fr f1 rfl rfl
  unfold F_Mod_lay J_Mod_lay_11
  rw [h5, e1, Option.bind_some]
  have hl := oy_rcl (B_Mod_lay_11 (a : Int)) (fun τ => some τ) (fun τ => τ 10 0 5 0 = P.length) 3 0 0 a 0 P.length (by omega) (by omega) (fun τ x hp => by rw [oy_rc_n (by omega)]; exact hp) (fun τ hp => by
      unfold B_Mod_lay_11 J_Mod_lay_77
      dsimp only
      rw [hp, if_pos (by omega)]) (fun x τ hx hp => by
      have e1 : Nat → ox_w ((a : Int) + ((0 + x : Nat) : Int)) = ((a + x : Nat) : Int) := fun _ => by rw [oy_wn (by omega), Nat.zero_add]
      have hi := oy_cpl (B_Mod_lay_35 (a : Int) ((0 + x : Nat) : Int)) (fun τ => some (.inl (((0 + (x + 1) : Nat) : Int), τ))) 3 (24 * (0 + x)) 0 (24 * (a + x)) (by omega) (fun τ => by
          unfold B_Mod_lay_35 J_Mod_lay_71
          dsimp only
          rw [if_pos (by decide), oy_w1 (by omega)]
          rfl) (fun y τ hy => by
          have e2 : Nat → ox_w (ox_w (24 * ox_w ((a : Int) + ((0 + x : Nat) : Int))) + (y : Int)) = ((24 * (a + x) + y : Nat) : Int) := fun _ => by rw [(e1 0), oy_w24 (by omega), oy_wn (by omega)]
          have e3 : Nat → ox_w (ox_w (24 * ((0 + x : Nat) : Int)) + (y : Int)) = ((24 * (0 + x) + y : Nat) : Int) := fun _ => by rw [oy_w24 (by omega), oy_wn (by omega)]
          unfold B_Mod_lay_35
          dsimp only
          rw [if_neg (by omega), (e2 0), (e3 0), Int.toNat_natCast, Int.toNat_natCast, if_pos (by omega), if_pos (by omega), oy_w1 (by omega)]) 24 0 ox_fu (ox_up τ 10 0 1 (a + x) (τ 10 0 4 (0 + x))) (by omega) (by show 24 < 100000; omega)
      unfold B_Mod_lay_11 J_Mod_lay_35
      dsimp only
      rw [hp, if_neg (by omega), (e1 0), Int.toNat_natCast, Int.toNat_natCast, if_pos (by omega), if_pos (by omega)]
      refine hi.trans ?_
      exact congrArg (fun t : ox_H => (some (.inl (((0 + (x + 1) : Nat) : Int), t)) : Option ((Int × ox_H) ⊕ ox_H))) (oy_rc1 (j0 := 3) (s := 0 + x) (j := 0) (d := a + x) ⟨rfl, rfl⟩)) P.length 0 ox_fu σ1 (by omega) (by show _ < 100000; omega) h51
  refine ⟨_, hl, f1.rc rfl rfl, ?_, fun l hl => ?_, fun l p hl hp => ?_⟩
  · rw [oy_rc_n (by omega), g0, sp_pas_len]
  · rw [sp_pas_len] at hl
    rw [sp_pas_ln hl, oy_rc_1 (by omega)]
    by_cases q1 : l < a
    · have h := g1 l (by omega)
      rw [if_pos q1] at h ⊢
      rw [if_neg (by omega), h]
    rw [if_neg q1]
    by_cases q2 : l < a + P.length
    · have e : 0 + 0 + (l - (a + 0)) = 0 + (l - a) := by omega
      rw [if_pos q2, if_pos (by omega), e]
      exact hP1.1 (l - a) (by omega)
    · have h := g1 (l - P.length) (by omega)
      have e : l - P.length + P.length = l := by omega
      rw [if_neg (show ¬ l - P.length < a by omega), e] at h
      rw [if_neg q2, if_neg (by omega), h]
  · rw [sp_pas_len] at hl
    rw [sp_pas_ln hl] at hp ⊢
    rw [oy_rc_0]
    by_cases q1 : l < a
    · have h24 := oy_len24 hT l
      rw [if_pos q1] at hp ⊢
      have h := g2 l p (by omega) hp
      rw [if_pos q1] at h
      rw [if_neg (by omega), h]
    rw [if_neg q1] at hp ⊢
    by_cases q2 : l < a + P.length
    · have h24 : (oy_ln P (l - a)).length ≤ 24 := (h24P (l - a)).1
      have e : 24 * (0 + 0) + (24 * l + p - 24 * (a + 0)) = 24 * (0 + (l - a)) + p := by omega
      rw [if_pos q2] at hp ⊢
      rw [if_pos (by omega), e]
      exact hP1.2 (l - a) p (by omega) hp
    · have h24 := oy_len24 hT (l - P.length)
      rw [if_neg q2] at hp ⊢
      have h := g2 (l - P.length) p (by omega) hp
      have e : l - P.length + P.length = l := by omega
      rw [if_neg (show ¬ l - P.length < a by omega), e] at h
      rw [if_neg (by omega), h]
theorem om_putM {σ' : ox_H} {l : Nat} {w : List Int} (hT : oy_ok T) (hM : oy_M T σ) (h2 : σ' 10 0 2 0 = σ 10 0 2 0) (h1 : ∀ i, i ≠ l → σ' 10 0 1 i = σ 10 0 1 i) (h1l : σ' 10 0 1 l = (w.length : Int)) (h0 : ∀ i, ¬ (24 * l ≤ i ∧ i < 24 * l + 24) → σ' 10 0 0 i = σ 10 0 0 i) (h0l : ∀ p, p < w.length → σ' 10 0 0 (24 * l + p) = oy_wk w p) : oy_M (sp_put T l w) σ' := by
  refine ⟨?_, fun x hx => ?_, fun x p hx hp => ?_⟩
  · rw [h2, hM.1, sp_put_len]
  · rw [sp_put_len] at hx
    rw [sp_put_ln hx]
    by_cases q : x = l
    · rw [if_pos q, q, h1l]
    · rw [if_neg q, h1 x q]
      exact hM.2.1 x hx
  · rw [sp_put_len] at hx
    rw [sp_put_ln hx] at hp ⊢
    by_cases q : x = l
    · rw [if_pos q] at hp ⊢
      rw [q]
      exact h0l p hp
    · rw [if_neg q] at hp ⊢
      have h24 := oy_len24 hT x
      rw [h0 _ (by omega)]
      exact hM.2.2 x p hx hp
/-- a line's signs moved, away from its begin or to it -/
theorem om_strU {l p b s : Nat} (hl : l < 60) (hs : σ 10 0 1 l = s) (hb : 1 ≤ b) (hr : s + b ≤ 24) (hp : p ≤ s) : F_Mod_stretch (l : Int) (p : Int) (b : Int) σ = some (ox_up (ox_cp σ 10 0 0 (24 * l + p) 10 0 0 (24 * l + p + b) (s - p)) 10 0 1 l ((s + b : Nat) : Int)) := by
  have hloop : ∀ (f n : Nat) (τ : ox_H), p + f ≤ 24 → f < n → τ 10 0 1 l = s → p + f + b ≤ 24 → ox_lp (B_Mod_stretch_14 (l : Int) (p : Int) (b : Int)) n (((p + f : Nat) : Int) - 1, τ) = some (ox_up (ox_cp τ 10 0 0 (24 * l + p) 10 0 0 (24 * l + p + b) f) 10 0 1 l ((s + b : Nat) : Int)) := by
    intro f
    induction f with
    | zero =>
      intro n τ h1 h2 h3 h4
      obtain ⟨n, rfl⟩ : ∃ k, n = k + 1 := ⟨n - 1, by omega⟩
      rw [oy_cp_0]
      refine oy_lp_m ?_
      unfold B_Mod_stretch_14 J_Mod_stretch_52 J_Mod_stretch_103
      dsimp only
      rw [if_pos (by omega), if_pos (by omega), if_pos (by omega), Int.toNat_natCast, h3, oy_wn (by omega)]
    | succ f ih =>
      intro n τ h1 h2 h3 h4
      obtain ⟨n, rfl⟩ : ∃ k, n = k + 1 := ⟨n - 1, by omega⟩
      have ea : ((p + (f + 1) : Nat) : Int) - 1 = ((p + f : Nat) : Int) := by omega
      have e1 : Nat → ox_w (ox_w (24 * (l : Int)) + ((p + f : Nat) : Int)) = ((24 * l + (p + f) : Nat) : Int) := fun _ => by rw [oy_w24 (by omega), oy_wn (by omega)]
      have e2 : Nat → ox_w (ox_w (ox_w (24 * (l : Int)) + ((p + f : Nat) : Int)) + (b : Int)) = ((24 * l + (p + f) + b : Nat) : Int) := fun _ => by rw [(e1 0), oy_wn (by omega)]
      have e3 : Nat → ox_w (((p + f : Nat) : Int) + (-1)) = ((p + f : Nat) : Int) - 1 := fun _ => by rw [oy_w (by omega) (by omega)]; omega
      have hB : B_Mod_stretch_14 (l : Int) (p : Int) (b : Int) (((p + f : Nat) : Int), τ) = some (.inl (((p + f : Nat) : Int) - 1, ox_up τ 10 0 0 (24 * l + (p + f) + b) (τ 10 0 0 (24 * l + (p + f))))) := by
        unfold B_Mod_stretch_14
        dsimp only
        rw [if_neg (by omega), (e2 0), (e1 0), Int.toNat_natCast, Int.toNat_natCast, if_pos (by omega), if_pos (by omega), (e3 0)]
      rw [ea, oy_lp_l hB, ih n _ (by omega) (by omega) ((oy_up_ne (by decide)).trans h3) (by omega)]
      have hh : ox_cp (ox_up τ 10 0 0 (24 * l + (p + f) + b) (τ 10 0 0 (24 * l + (p + f)))) 10 0 0 (24 * l + p) 10 0 0 (24 * l + p + b) f = ox_cp τ 10 0 0 (24 * l + p) 10 0 0 (24 * l + p + b) (f + 1) := by
        funext c k j i
        by_cases hc : c = 10 ∧ k = 0 ∧ j = 0
        · obtain ⟨rfl, rfl, rfl⟩ := hc
          rw [oy_cp_in, oy_cp_in]
          by_cases q : 24 * l + p + b ≤ i ∧ i < 24 * l + p + b + f
          · rw [if_pos q, if_pos (by omega), oy_up_ni (by omega)]
          · rw [if_neg q]
            by_cases z : i = 24 * l + (p + f) + b
            · have ei : 24 * l + p + (24 * l + (p + f) + b - (24 * l + p + b)) = 24 * l + (p + f) := by omega
              rw [z, oy_up_same, if_pos (by omega), ei]
            · rw [oy_up_ni z, if_neg (by omega)]
        · rw [oy_cp_def, oy_cp_def, if_neg (by omega), if_neg (by omega)]
          unfold ox_up
          rw [if_neg (by omega)]
      rw [hh]
  have e0 : Nat → ox_w ((s : Int) - 1) = ((p + (s - p) : Nat) : Int) - 1 := fun _ => by rw [oy_w (by omega) (by omega)]; omega
  unfold F_Mod_stretch J_Mod_stretch_14
  rw [if_neg (by omega), if_pos (by omega), Int.toNat_natCast, hs, (e0 0)]
  exact hloop (s - p) ox_fu σ (by omega) (by show _ < 100000; omega) hs (by omega)
theorem om_strD {l p b s : Nat} (hl : l < 60) (hs : σ 10 0 1 l = s) (h24 : s ≤ 24) (hp : p + b ≤ s) : F_Mod_stretch (l : Int) (p : Int) (-(b : Int)) σ = some (ox_up (ox_cp σ 10 0 0 (24 * l + p + b) 10 0 0 (24 * l + p) (s - b - p)) 10 0 1 l ((s - b : Nat) : Int)) := by
  have e5 : Nat → ox_w ((s : Int) + -(b : Int)) = ((s - b : Nat) : Int) := fun _ => by rw [oy_w (by omega) (by omega)]; omega
  have hloop : ∀ (f x n : Nat) (τ : ox_H), p + x + f = s - b → f < n → τ 10 0 1 l = s → ox_lp (B_Mod_stretch_58 (l : Int) (-(b : Int))) n (((p + x : Nat) : Int), τ) = some (ox_up (ox_cp τ 10 0 0 (24 * l + (p + x) + b) 10 0 0 (24 * l + (p + x)) f) 10 0 1 l ((s - b : Nat) : Int)) := by
    intro f
    induction f with
    | zero =>
      intro x n τ h1 h2 h3
      obtain ⟨n, rfl⟩ : ∃ k, n = k + 1 := ⟨n - 1, by omega⟩
      rw [oy_cp_0]
      refine oy_lp_m ?_
      unfold B_Mod_stretch_58 J_Mod_stretch_103
      dsimp only
      rw [if_pos (by omega), Int.toNat_natCast, h3, (e5 0), if_pos (by omega), if_pos (by omega), if_pos (by omega)]
    | succ f ih =>
      intro x n τ h1 h2 h3
      obtain ⟨n, rfl⟩ : ∃ k, n = k + 1 := ⟨n - 1, by omega⟩
      have e1 : Nat → ox_w (ox_w (24 * (l : Int)) + ((p + x : Nat) : Int)) = ((24 * l + (p + x) : Nat) : Int) := fun _ => by rw [oy_w24 (by omega), oy_wn (by omega)]
      have e2 : Nat → ox_w (ox_w (ox_w (24 * (l : Int)) + ((p + x : Nat) : Int)) - -(b : Int)) = ((24 * l + (p + x) + b : Nat) : Int) := fun _ => by
        rw [(e1 0), oy_w (by omega) (by omega)]
        omega
      have hB : B_Mod_stretch_58 (l : Int) (-(b : Int)) (((p + x : Nat) : Int), τ) = some (.inl (((p + (x + 1) : Nat) : Int), ox_up τ 10 0 0 (24 * l + (p + x)) (τ 10 0 0 (24 * l + (p + x) + b)))) := by
        unfold B_Mod_stretch_58
        dsimp only
        rw [if_pos (by omega), Int.toNat_natCast, h3, (e5 0), if_neg (by omega), (e2 0), (e1 0), Int.toNat_natCast, Int.toNat_natCast, if_pos (by omega), if_pos (by omega), oy_w1 (by omega)]
        rfl
      rw [oy_lp_l hB, ih (x + 1) n _ (by omega) (by omega) ((oy_up_ne (by decide)).trans h3)]
      have hh : ox_cp (ox_up τ 10 0 0 (24 * l + (p + x)) (τ 10 0 0 (24 * l + (p + x) + b))) 10 0 0 (24 * l + (p + (x + 1)) + b) 10 0 0 (24 * l + (p + (x + 1))) f = ox_cp τ 10 0 0 (24 * l + (p + x) + b) 10 0 0 (24 * l + (p + x)) (f + 1) := by
        funext c k j i
        by_cases hc : c = 10 ∧ k = 0 ∧ j = 0
        · obtain ⟨rfl, rfl, rfl⟩ := hc
          rw [oy_cp_in, oy_cp_in]
          by_cases q : 24 * l + (p + (x + 1)) ≤ i ∧ i < 24 * l + (p + (x + 1)) + f
          · have ei : 24 * l + (p + (x + 1)) + b + (i - (24 * l + (p + (x + 1)))) = 24 * l + (p + x) + b + (i - (24 * l + (p + x))) := by omega
            rw [if_pos q, if_pos (by omega), oy_up_ni (by omega), ei]
          · rw [if_neg q]
            by_cases z : i = 24 * l + (p + x)
            · rw [z, oy_up_same, if_pos (by omega), Nat.sub_self, Nat.add_zero]
            · rw [oy_up_ni z, if_neg (by omega)]
        · rw [oy_cp_def, oy_cp_def, if_neg (by omega), if_neg (by omega)]
          unfold ox_up
          rw [if_neg (by omega)]
      rw [hh]
  unfold F_Mod_stretch J_Mod_stretch_58
  rw [if_pos (by omega)]
  have := hloop (s - b - p) 0 ox_fu σ (by omega) (by show _ < 100000; omega) hs
  rw [Nat.add_zero] at this
  exact this
end OYF6
