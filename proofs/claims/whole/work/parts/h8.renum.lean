/-! ===== footnotes numbered anew: the reference; days ===== -/
/-- what numbering writes in the reference -/
def oy_mN (c j : Nat) : Bool := c == 10 && decide (j ≤ 5 ∨ (11 ≤ j ∧ j ≤ 22) ∨ j = 35 ∨ j = 46)
section OYH8
variable {T : oy_T} {σ : ox_H}
theorem om_rline {T1 : oy_T} {l : Nat} (hT1 : oy_ok T1) (hl : l < T1.length) : ∀ (f j n : Nat) (w : List Int) (g : Nat → Int) (c : Int) (τ : ox_H), j + f = w.length → 1 ≤ j ∨ w.length = 0 → f < n → oy_good 0 w → oy_gk g c → oy_M (sp_put T1 l w) τ → (∀ d, d < 10 → τ 10 0 35 d = g d) →
    ∃ τ', ox_lp (B_Mod_renumber_51 (l : Int)) n (c, (j : Int) - 1, τ) = some (.inl ((sp_rl f j (w, g, c)).2.2, ((l + 1 : Nat) : Int), τ')) ∧ oy_fr (fun c j => c == 10 && (j == 0 || j == 35)) τ τ' ∧ oy_M (sp_put T1 l (sp_rl f j (w, g, c)).1) τ' ∧ (∀ d, d < 10 → τ' 10 0 35 d = (sp_rl f j (w, g, c)).2.1 d) ∧ oy_good 0 (sp_rl f j (w, g, c)).1 ∧ oy_gk (sp_rl f j (w, g, c)).2.1 (sp_rl f j (w, g, c)).2.2
  | _, _, 0, _, _, _, _, _, _, h, _, _, _, _ => absurd h (Nat.not_lt_zero _)
  | 0, j, n + 1, w, g, c, τ, h1, h1b, h2, h4, h5, h6, h8 => by
    have h60 := hT1.1
    have h24 : w.length ≤ 24 := h4.1
    have hat : oy_ln (sp_put T1 l w) l = w := sp_put_at hl
    have hsz := h6.2.1 l (by rw [sp_put_len]; exact hl)
    rw [hat] at hsz
    refine ⟨τ, oy_lp_m ?_, oy_fr.rf, h6, h8, h4, h5⟩
    have ew : Nat → ox_w ((j : Int) - 1 + 1) = (j : Int) := fun _ => by rw [oy_w (by omega) (by omega)]; omega
    unfold B_Mod_renumber_51 J_Mod_renumber_174
    dsimp only
    rw [(ew 0), if_pos (show 0 ≤ (l : Int) ∧ (l : Int).toNat < 60 by omega), Int.toNat_natCast, if_pos (show τ 10 0 1 l ≤ (j : Int) by rw [hsz]; omega), oy_w1 (by omega)]
    rfl
  | f + 1, j, n + 1, w, g, c, τ, h1, h1b, h2, h4, h5, h6, h8 => by
    have h60 := hT1.1
    have h24 : w.length ≤ 24 := h4.1
    have hj : 1 ≤ j := by omega
    have hT2 := oy_ok_put (l := l) hT1 h4
    have hl2 : l < (sp_put T1 l w).length := by rw [sp_put_len]; exact hl
    have hat : oy_ln (sp_put T1 l w) l = w := sp_put_at hl
    have hsz := h6.2.1 l hl2
    have hlk : ∀ x : Nat, F_Mod_look (l : Int) (x : Int) τ = some (oy_wk w x) := fun x => by
      have := om_look' (p := x) hT2 h6 hl2
      rw [hat] at this
      exact this
    rw [hat] at hsz
    have hok := sp_rs_ok (s := (w, g, c)) (j := j) h5 h4
    have ej : (j : Int) - 1 = ((j - 1 : Nat) : Int) := by omega
    have ewj : Nat → ox_w (((j - 1 : Nat) : Int) + 1) = (j : Int) := fun _ => by rw [oy_w (by omega) (by omega)]; omega
    have hwj := oy_good_wk h4 (i := j) (by omega)
    have ewd : Nat → ox_w (oy_wk w j - 48) = oy_wk w j - 48 := fun _ => oy_w (by omega) (by omega)
    have est : sp_rl (f + 1) j (w, g, c) = sp_rl f (j + 1) (sp_rs (w, g, c) j) := rfl
    have ejj : (j : Int) = ((j + 1 : Nat) : Int) - 1 := by omega
    rw [est, ej]
    have hB0 : B_Mod_renumber_51 (l : Int) (c, ((j - 1 : Nat) : Int), τ) = (if oy_wk w (j - 1) = 94 then (if (if 1 ≤ oy_wk w j - 48 ∧ oy_wk w j - 48 ≤ 9 then (1 : Int) else 0) = 0 then some (.inl (c, (j : Int), τ)) else (if 0 ≤ oy_wk w j - 48 ∧ (oy_wk w j - 48).toNat < 10 then (if τ 10 0 35 (oy_wk w j - 48).toNat = 0 then (J_Mod_renumber_115 (l : Int) ((j - 1 : Nat) : Int) (oy_wk w j - 48) 1 c τ) else (J_Mod_renumber_115 (l : Int) ((j - 1 : Nat) : Int) (oy_wk w j - 48) 0 c τ)) else none)) else some (.inl (c, (j : Int), τ))) := by
      unfold B_Mod_renumber_51 J_Mod_renumber_168
      dsimp only
      rw [if_pos (show 0 ≤ (l : Int) ∧ (l : Int).toNat < 60 by omega), (ewj 0), Int.toNat_natCast, if_neg (show ¬ τ 10 0 1 l ≤ (j : Int) by rw [hsz]; omega), hlk, Option.bind_some, hlk, Option.bind_some]
      simp only [ewd 0, om_in, Option.bind_some]
    by_cases q : sp_rc w j
    rotate_left
    · have ers : sp_rs (w, g, c) j = (w, g, c) := by unfold sp_rs; rw [if_neg q]
      have hB : B_Mod_renumber_51 (l : Int) (c, ((j - 1 : Nat) : Int), τ) = some (.inl (c, (j : Int), τ)) := by
        rw [hB0]
        by_cases c1 : oy_wk w (j - 1) = 94
        · rw [if_pos c1, if_neg (show ¬ (1 ≤ oy_wk w j - 48 ∧ oy_wk w j - 48 ≤ 9) from fun c3 => q ⟨c1, by omega, by omega⟩), if_pos rfl]
        · rw [if_neg c1]
      rw [ers, oy_lp_l hB, ejj]
      exact om_rline hT1 hl f (j + 1) n w g c τ (by omega) (Or.inl (by omega)) (by omega) h4 h5 h6 h8
    have hd : 1 ≤ sp_rd w j ∧ sp_rd w j ≤ 9 := by have := q.2; unfold sp_rd; omega
    have erd : (oy_wk w j - 48).toNat = sp_rd w j := rfl
    have q1 := q.1
    have q2 := q.2
    rw [if_pos q1, if_pos (show 1 ≤ oy_wk w j - 48 ∧ oy_wk w j - 48 ≤ 9 by omega), if_neg oy_10, if_pos (by omega), erd] at hB0
    have hg8 : τ 10 0 35 (sp_rd w j) = g (sp_rd w j) := h8 _ (by omega)
    have hgin := oy_gk_in h5
    have ewp : Nat → ox_w (ox_w (ox_w (24 * (l : Int)) + ((j - 1 : Nat) : Int)) + 1) = ((24 * l + j : Nat) : Int) := fun _ => by
      rw [oy_w24 (by omega), oy_wn (by omega), oy_w1 (by omega)]
      omega
    /- the sign is set -/
    have setx : ∀ (s0 c' : Int), 1 ≤ s0 ∧ s0 ≤ 9 → ∃ κ', J_Mod_renumber_144 c' (l : Int) ((j - 1 : Nat) : Int) (oy_wk w j - 48) s0 (oy_wk w j - 48) τ = some (.inl (c', (j : Int), κ')) ∧ oy_fr (fun c j => c == 10 && (j == 0 || j == 35)) τ κ' ∧ oy_M (sp_put T1 l (sp_set w j (48 + s0))) κ' ∧ ∀ d, κ' 10 0 35 d = if d = sp_rd w j then s0 else τ 10 0 35 d := by
      intro s0 c' hs0
      have e48 : Nat → ox_w (48 + s0) = 48 + s0 := fun _ => oy_w (by omega) (by omega)
      refine ⟨ox_up (ox_up τ 10 0 35 (sp_rd w j) s0) 10 0 0 (24 * l + j) (48 + s0), ?_, (oy_fr.rf.up rfl).up rfl, ?_, fun d => ?_⟩
      · unfold J_Mod_renumber_144 J_Mod_renumber_168
        rw [erd, if_pos (show 0 ≤ oy_wk w j - 48 ∧ sp_rd w j < 10 by omega), if_pos (show 0 ≤ oy_wk w j - 48 ∧ sp_rd w j < 10 by omega), (ewp 0), if_pos (by omega), Int.toNat_natCast, oy_up_same, (e48 0), (ewj 0)]
      · have h := om_putM (σ' := ox_up (ox_up τ 10 0 35 (sp_rd w j) s0) 10 0 0 (24 * l + j) (48 + s0)) (l := l) (w := sp_set w j (48 + s0)) hT2 h6 (by rw [oy_up_ne (by decide), oy_up_ne (by decide)]) (fun i hi => by rw [oy_up_ne (by decide), oy_up_ne (by decide)]) (by
          have hl3 : (sp_set w j (48 + s0)).length = w.length := oy_mk_len
          rw [oy_up_ne (by decide), oy_up_ne (by decide), hsz, hl3]) (fun i hi => by rw [oy_up_ni (by omega), oy_up_ne (by decide)]) (fun p hp => by
          have hp2 : p < w.length := by unfold sp_set at hp; rw [oy_mk_len] at hp; exact hp
          unfold sp_set
          rw [oy_wk_mk, if_pos hp2]
          by_cases z : p = j
          · rw [if_pos z, z, oy_up_same]
          · have h9 := h6.2.2 l p hl2 (by rw [hat]; exact hp2)
            rw [hat] at h9
            rw [if_neg z, oy_up_ni (by omega), oy_up_ne (by decide)]
            exact h9)
        rw [sp_put_put] at h
        exact h
      · rw [oy_up_ne (by decide)]
        by_cases z : d = sp_rd w j
        · rw [if_pos z, z, oy_up_same]
        · rw [if_neg z, oy_up_ni z]
    by_cases z : g (sp_rd w j) = 0
    · have ers : sp_rs (w, g, c) j = (sp_set w j (48 + (c + 1)), oy_gu g (sp_rd w j) (c + 1), c + 1) := by
        unfold sp_rs
        rw [if_pos q, if_pos z]
      rw [ers] at hok ⊢
      have ewc : Nat → ox_w (c + 1) = c + 1 := fun _ => oy_w (by omega) (by omega)
      have hg2 := oy_gk_in hok.2.1
      have hg3 : c + 1 ≤ 9 := hg2.2
      obtain ⟨κ', y1, y2, y3, y4⟩ := setx (c + 1) (c + 1) (by omega)
      have h115 : J_Mod_renumber_115 (l : Int) ((j - 1 : Nat) : Int) (oy_wk w j - 48) 1 c τ = some (.inl (c + 1, (j : Int), κ')) := by
        unfold J_Mod_renumber_115
        rw [erd, if_pos (show 0 ≤ oy_wk w j - 48 ∧ sp_rd w j < 10 by omega), if_pos (show τ 10 0 35 (sp_rd w j) = 0 by rw [hg8]; exact z), (ewc 0), y1]
      rw [if_pos (show τ 10 0 35 (sp_rd w j) = 0 by rw [hg8]; exact z), h115] at hB0
      rw [oy_lp_l hB0, ejj]
      obtain ⟨τ', u1, u2, u3⟩ := om_rline hT1 hl f (j + 1) n (sp_set w j (48 + (c + 1))) (oy_gu g (sp_rd w j) (c + 1)) (c + 1) κ' (by have hl2 : (sp_set w j (48 + (c + 1))).length = w.length := oy_mk_len; omega) (Or.inl (by omega)) (by omega) hok.1 hok.2.1 y3 (fun d hd => by
        rw [y4]
        unfold oy_gu
        by_cases y : d = sp_rd w j
        · rw [if_pos y, if_pos y]
        · rw [if_neg y, if_neg y]
          exact h8 d hd)
      exact ⟨τ', u1, y2.tr u2, u3⟩
    · have ers : sp_rs (w, g, c) j = (sp_set w j (48 + g (sp_rd w j)), g, c) := by
        unfold sp_rs
        rw [if_pos q, if_neg z]
      rw [ers] at hok ⊢
      have hgd := h5.2.2 (sp_rd w j)
      have ewc : Nat → ox_w (c + 0) = c := fun _ => by rw [oy_w (by omega) (by omega)]; omega
      obtain ⟨κ', y1, y2, y3, y4⟩ := setx (g (sp_rd w j)) c (by omega)
      have h115 : J_Mod_renumber_115 (l : Int) ((j - 1 : Nat) : Int) (oy_wk w j - 48) 0 c τ = some (.inl (c, (j : Int), κ')) := by
        unfold J_Mod_renumber_115
        rw [erd, if_pos (show 0 ≤ oy_wk w j - 48 ∧ sp_rd w j < 10 by omega), if_neg (show ¬ τ 10 0 35 (sp_rd w j) = 0 by rw [hg8]; exact z), if_pos (show 0 ≤ oy_wk w j - 48 ∧ sp_rd w j < 10 by omega), (ewc 0), hg8, y1]
      rw [if_neg (show ¬ τ 10 0 35 (sp_rd w j) = 0 by rw [hg8]; exact z), h115] at hB0
      rw [oy_lp_l hB0, ejj]
      obtain ⟨τ', u1, u2, u3⟩ := om_rline hT1 hl f (j + 1) n (sp_set w j (48 + g (sp_rd w j))) g c κ' (by have hl2 : (sp_set w j (48 + g (sp_rd w j))).length = w.length := oy_mk_len; omega) (Or.inl (by omega)) (by omega) hok.1 hok.2.1 y3 (fun d hd => by
        rw [y4]
        by_cases y : d = sp_rd w j
        · rw [if_pos y, y]
        · rw [if_neg y]
          exact h8 d hd)
      exact ⟨τ', u1, y2.tr u2, u3⟩
theorem om_renum (hT : oy_ok T) (hM : oy_M T σ) : ∃ σ2, F_Mod_renumber σ = some ((sp_rnum T).2.2, σ2) ∧ oy_fr oy_mN σ σ2 ∧ oy_M (sp_rnum T).1 σ2 ∧ σ2 10 0 46 0 = 0 := by
  have h60 := hT.1
  /- the row of turns -/
  have hz : ∀ (f x n : Nat) (τ : ox_H), x + f = 10 → f < n → ∃ τ', ox_lp (B_Mod_renumber_10 0) n ((x : Int), τ) = J_Mod_renumber_29 0 τ' ∧ ∀ c k j i, τ' c k j i = if c = 10 ∧ k = 0 ∧ j = 35 ∧ x ≤ i ∧ i < 10 then 0 else τ c k j i := by
    intro f
    induction f with
    | zero =>
      intro x n τ h1 h2
      obtain ⟨n, rfl⟩ : ∃ j, n = j + 1 := ⟨n - 1, by omega⟩
      refine ⟨τ, oy_lp_m ?_, fun c k j i => by rw [if_neg (by omega)]⟩
      unfold B_Mod_renumber_10
      dsimp only
      rw [if_pos (by omega)]
    | succ f ih =>
      intro x n τ h1 h2
      obtain ⟨n, rfl⟩ : ∃ j, n = j + 1 := ⟨n - 1, by omega⟩
      have hB : B_Mod_renumber_10 0 ((x : Int), τ) = some (.inl (((x + 1 : Nat) : Int), ox_up τ 10 0 35 x 0)) := by
        unfold B_Mod_renumber_10
        dsimp only
        rw [if_neg (by omega), if_pos (by omega), Int.toNat_natCast, oy_w1 (by omega)]
      obtain ⟨τ', e', g'⟩ := ih (x + 1) n (ox_up τ 10 0 35 x 0) (by omega) (by omega)
      refine ⟨τ', (oy_lp_l hB).trans e', fun c k j i => ?_⟩
      rw [g']
      by_cases q : c = 10 ∧ k = 0 ∧ j = 35 ∧ x + 1 ≤ i ∧ i < 10
      · rw [if_pos q, if_pos (by omega)]
      · rw [if_neg q]
        by_cases z : c = 10 ∧ k = 0 ∧ j = 35 ∧ i = x
        · obtain ⟨rfl, rfl, rfl, rfl⟩ := z
          rw [oy_up_same, if_pos (by omega)]
        · rw [if_neg (by omega)]
          unfold ox_up
          rw [if_neg (by omega)]
  obtain ⟨τ1, e1, g1⟩ := hz 10 0 ox_fu (ox_up σ 10 0 46 0 0) rfl (by show 10 < 100000; omega)
  have f1 : oy_fr oy_mN σ τ1 := fun c k j i h => by
    rw [g1, if_neg (fun q => by rw [q.1, q.2.2.1] at h; cases h), oy_up_ne (fun q => by rw [q.1, q.2] at h; cases h)]
  have M1 : oy_M T τ1 := (oy_M46 (v := 0) hM).fr (S := fun c j => c == 10 && j == 35) (fun c k j i h => by
    rw [g1, if_neg (fun q => by rw [q.1, q.2.2.1] at h; cases h)]) rfl rfl rfl
  have z1 : ∀ d, d < 10 → τ1 10 0 35 d = 0 := fun d hd => by rw [g1, if_pos ⟨rfl, rfl, rfl, Nat.zero_le _, hd⟩]
  have w1 : τ1 10 0 46 0 = 0 := by rw [g1, if_neg (by omega), oy_up_same]
  have e1' : ox_lp (B_Mod_renumber_10 0) ox_fu ((0 : Int), ox_up σ 10 0 46 0 0) = J_Mod_renumber_29 0 τ1 := e1
  have hwide : ∀ {τ τ' : ox_H}, oy_fr (fun c j => c == 10 && (j == 0 || j == 35)) τ τ' → oy_fr oy_mN τ τ' := fun h => h.mono (fun c j q => by
    rw [Bool.and_eq_true, Bool.or_eq_true, beq_iff_eq, beq_iff_eq, beq_iff_eq] at q
    unfold oy_mN
    rw [Bool.and_eq_true, decide_eq_true_eq, beq_iff_eq]
    exact ⟨q.1, by omega⟩)
  have hwsp : ∀ {τ τ' : ox_H}, oy_fr oy_sp τ τ' → oy_fr oy_mN τ τ' := fun h => h.mono (fun c j q => by
    unfold oy_sp at q
    rw [Bool.and_eq_true, Bool.and_eq_true, decide_eq_true_eq, decide_eq_true_eq] at q
    unfold oy_mN
    rw [Bool.and_eq_true, decide_eq_true_eq]
    exact ⟨q.1, by omega⟩)
  have hloop : ∀ (f l n : Nat) (s : oy_Rt) (τ : ox_H), l + f = T.length → f < n → s.1.length = T.length → (∀ x, l ≤ x → oy_ln s.1 x = oy_ln T x) → oy_ok s.1 → oy_gk s.2.1 s.2.2 → oy_M s.1 τ → oy_fr oy_mN σ τ → τ 10 0 46 0 = 0 → (∀ d, d < 10 → τ 10 0 35 d = s.2.1 d) → ∃ τ', ox_lp B_Mod_renumber_31 n (s.2.2, (l : Int), τ) = some ((sp_rt f l s).2.2, τ') ∧ oy_fr oy_mN σ τ' ∧ oy_M (sp_rt f l s).1 τ' ∧ τ' 10 0 46 0 = 0 := by
    intro f
    induction f with
    | zero =>
      intro l n s τ h1 h2 h4 h5 h6 h7 h8 h9 h9b h10
      obtain ⟨n, rfl⟩ : ∃ j, n = j + 1 := ⟨n - 1, by omega⟩
      refine ⟨τ, oy_lp_m ?_, h9, h8, h9b⟩
      unfold B_Mod_renumber_31 J_Mod_renumber_180
      dsimp only
      rw [if_pos (show τ 10 0 2 0 ≤ (l : Int) by rw [h8.1, h4]; omega)]
      rfl
    | succ f ih =>
      intro l n s τ h1 h2 h4 h5 h6 h7 h8 h9 h9b h10
      obtain ⟨n, rfl⟩ : ∃ j, n = j + 1 := ⟨n - 1, by omega⟩
      have hl : l < T.length := by omega
      have hls : l < s.1.length := by omega
      have eln := h5 l (Nat.le_refl _)
      have ewl : Nat → ox_w ((l : Int) + 1) = ((l + 1 : Nat) : Int) := fun _ => oy_w1 (by omega)
      obtain ⟨κ, x1, x2, -⟩ := om_kindOf h6 h8 hls
      rw [eln] at x1
      have Mk := h8.fr x2 rfl rfl rfl
      have fk := h9.tr (hwsp x2)
      have wk : κ 10 0 46 0 = 0 := (x2 10 0 46 0 rfl).trans h9b
      have gk : ∀ d, d < 10 → κ 10 0 35 d = s.2.1 d := fun d hd => (x2 10 0 35 d rfl).trans (h10 d hd)
      have hB0 : B_Mod_renumber_31 (s.2.2, (l : Int), τ) = (if sp_kind (oy_ln T l) = 7 then (J_Mod_renumber_51 s.2.2 (l : Int) 0 κ) else some (.inl (s.2.2, ((l + 1 : Nat) : Int), κ))) := by
        unfold B_Mod_renumber_31 J_Mod_renumber_174
        dsimp only
        rw [if_neg (show ¬ τ 10 0 2 0 ≤ (l : Int) by rw [h8.1, h4]; omega), x1, Option.bind_some, (ewl 0)]
      have est : sp_rt (f + 1) l s = sp_rt f (l + 1) (sp_r1 s l) := rfl
      rw [est]
      by_cases hk : sp_kind (oy_ln T l) = 7
      rotate_left
      · have er : sp_r1 s l = s := by unfold sp_r1; rw [eln, if_neg hk]
        rw [if_neg hk] at hB0
        rw [er, oy_lp_l hB0]
        exact ih (l + 1) n s κ (by omega) (by omega) h4 (fun x hx => h5 x (by omega)) h6 h7 Mk fk wk gk
      · have h24 := oy_len24 hT l
        have hw : oy_good 0 (oy_ln T l) := oy_24_ok hT l
        have hput : sp_put s.1 l (oy_ln T l) = s.1 := by rw [← eln, sp_put_self]
        have hline : ∃ τ', J_Mod_renumber_51 s.2.2 (l : Int) 0 κ = some (.inl ((sp_rl ((oy_ln T l).length - 1) 1 (oy_ln T l, s.2.1, s.2.2)).2.2, ((l + 1 : Nat) : Int), τ')) ∧ oy_fr (fun c j => c == 10 && (j == 0 || j == 35)) κ τ' ∧ oy_M (sp_put s.1 l (sp_rl ((oy_ln T l).length - 1) 1 (oy_ln T l, s.2.1, s.2.2)).1) τ' ∧ (∀ d, d < 10 → τ' 10 0 35 d = (sp_rl ((oy_ln T l).length - 1) 1 (oy_ln T l, s.2.1, s.2.2)).2.1 d) ∧ oy_good 0 (sp_rl ((oy_ln T l).length - 1) 1 (oy_ln T l, s.2.1, s.2.2)).1 ∧ oy_gk (sp_rl ((oy_ln T l).length - 1) 1 (oy_ln T l, s.2.1, s.2.2)).2.1 (sp_rl ((oy_ln T l).length - 1) 1 (oy_ln T l, s.2.1, s.2.2)).2.2 := by
          unfold J_Mod_renumber_51
          by_cases hz : (oy_ln T l).length = 0
          · have e0 : (oy_ln T l).length - 1 = 0 := by omega
            rw [e0]
            have hsz := Mk.2.1 l hls
            rw [eln] at hsz
            refine ⟨κ, oy_lp_m (n := 99999) ?_, oy_fr.rf, ?_, gk, hw, h7⟩
            · unfold B_Mod_renumber_51 J_Mod_renumber_174
              dsimp only
              rw [if_pos (show 0 ≤ (l : Int) ∧ (l : Int).toNat < 60 by omega), Int.toNat_natCast, if_pos (show κ 10 0 1 l ≤ ox_w (0 + 1) by rw [hsz, hz]; decide), (ewl 0)]
              rfl
            · show oy_M (sp_put s.1 l (oy_ln T l)) κ
              rw [hput]
              exact Mk
          · exact om_rline h6 hls ((oy_ln T l).length - 1) 1 ox_fu (oy_ln T l) s.2.1 s.2.2 κ (by omega) (Or.inl (Nat.le_refl _)) (by show _ < 100000; omega) hw h7 (by rw [hput]; exact Mk) gk
        obtain ⟨τ', y1, y2, y3, y4, y5, y6⟩ := hline
        have er : sp_r1 s l = (sp_put s.1 l (sp_rl ((oy_ln T l).length - 1) 1 (oy_ln T l, s.2.1, s.2.2)).1, (sp_rl ((oy_ln T l).length - 1) 1 (oy_ln T l, s.2.1, s.2.2)).2.1, (sp_rl ((oy_ln T l).length - 1) 1 (oy_ln T l, s.2.1, s.2.2)).2.2) := by
          unfold sp_r1
          rw [eln, if_pos hk]
        rw [if_pos hk, y1] at hB0
        rw [oy_lp_l hB0, er]
        clear hB0 er y1 hput
        generalize sp_rl ((oy_ln T l).length - 1) 1 (oy_ln T l, s.2.1, s.2.2) = r at y3 y4 y5 y6 ⊢
        have hs1 : (sp_put s.1 l r.1).length = T.length := by rw [sp_put_len, h4]
        have hs2 : ∀ x, l + 1 ≤ x → oy_ln (sp_put s.1 l r.1) x = oy_ln T x := fun x hx => by
          by_cases z : x < s.1.length
          · rw [sp_put_ln z, if_neg (by omega)]
            exact h5 x (by omega)
          · rw [oy_ln_ge (by rw [sp_put_len]; omega), oy_ln_ge (by omega)]
        exact ih (l + 1) n (sp_put s.1 l r.1, r.2.1, r.2.2) τ' (by omega) (by omega) hs1 hs2 (oy_ok_put h6 y5) y6 y3 (fk.tr (hwide y2)) ((y2 10 0 46 0 rfl).trans wk) y4
  have gk0 : oy_gk (fun _ => 0) 0 := ⟨Int.le_refl _, by decide, fun d => ⟨Int.le_refl _, Int.le_refl _⟩⟩
  obtain ⟨τ', y1, y2, y3, y4⟩ := hloop T.length 0 ox_fu (T, (fun _ => 0), 0) τ1 (by omega) (by show _ < 100000; omega) rfl (fun x _ => rfl) hT gk0 M1 f1 w1 z1
  have eT : sp_rt T.length 0 (T, (fun _ => 0), 0) = sp_rnum T := rfl
  rw [eT] at y1 y3
  unfold F_Mod_renumber J_Mod_renumber_10
  rw [om_holds, if_pos (Int.le_refl _), Option.bind_some]
  dsimp only
  rw [e1']
  exact ⟨τ', y1, y2, y3, y4⟩
/-! days -/
def sp_today (d a : Int) : (Nat ⊕ Int) × Int := if 0 ≤ a ∧ a ≤ 9999 then (.inr d, a) else (.inl 2, d)
def sp_pass (n a : Int) : (Nat ⊕ Int) × Int := if 1 ≤ a ∧ a ≤ 500 then (if n + a ≤ 9999 then (.inr (n + a), n + a) else (.inl 3, n)) else (.inl 2, n)
theorem oc_today {d a : Int} (h7 : σ 0 0 7 0 = d) : ∃ σ1, F_Out_today a σ = some ((sp_today d a).1, σ1) ∧ oy_fs (fun c _ j _ => c = 0 ∧ j = 7) σ σ1 ∧ σ1 0 0 7 0 = (sp_today d a).2 := by
  unfold F_Out_today sp_today
  rw [oc_checkDay, Option.bind_some]
  by_cases q : 0 ≤ a ∧ a ≤ 9999
  · rw [if_pos q, if_pos q, h7]
    exact ⟨_, rfl, oy_fs.rf.up ⟨rfl, rfl⟩, oy_up_same⟩
  · rw [if_neg q, if_neg q]
    exact ⟨σ, rfl, oy_fs.rf, h7⟩
theorem om_today {d a : Int} (h23 : σ 10 0 23 0 = d) : ∃ σ2 y, F_Mod_today a σ = some (y, σ2) ∧ oy_fr (fun c j => c == 10 && (j == 23 || j == 46)) σ σ2 ∧ σ2 10 0 23 0 = (sp_today d a).2 ∧ σ2 10 0 46 0 = oy_cx 2 0 0 (sp_today d a).1 ∧ ∀ v, (sp_today d a).1 = .inr v → y = v := by
  unfold F_Mod_today J_Mod_today_18 sp_today
  rw [om_in, Option.bind_some]
  by_cases q : 0 ≤ a ∧ a ≤ 9999
  · rw [if_pos q, if_pos q, if_neg oy_10, om_holds, if_pos (Int.le_refl _), Option.bind_some, if_pos rfl]
    dsimp only
    refine ⟨_, _, rfl, (oy_fr.rf.up rfl).up rfl, oy_up_same, ?_, fun v hv => ?_⟩
    · rw [oy_up_ne (by decide), oy_up_same]
      rfl
    · rw [oy_up_ne (by decide), h23]
      exact Sum.inr.inj hv
  · rw [if_neg q, if_neg q, if_pos rfl, om_holds, if_neg (by decide), Option.bind_some, if_neg oy_10]
    exact ⟨_, _, rfl, oy_fr.rf.up rfl, (by show ox_up σ 10 0 46 0 1 10 0 23 0 = d; rw [oy_up_ne (by decide)]; exact h23), (by show ox_up σ 10 0 46 0 1 10 0 46 0 = 1; exact oy_up_same), fun v hv => by cases hv⟩
theorem oc_pass {n a : Int} (h8 : σ 0 0 8 0 = n) (hn : 0 ≤ n ∧ n ≤ 9999) : ∃ σ1, F_Out_pass a σ = some ((sp_pass n a).1, σ1) ∧ oy_fs (fun c _ j _ => c = 0 ∧ j = 8) σ σ1 ∧ σ1 0 0 8 0 = (sp_pass n a).2 := by
  unfold F_Out_pass J_Out_pass_12 sp_pass
  by_cases q : 1 ≤ a ∧ a ≤ 500
  rotate_left
  · rw [if_neg q]
    by_cases z : a < 1
    · rw [if_pos z]
      exact ⟨σ, rfl, oy_fs.rf, h8⟩
    · rw [if_neg z, if_neg (show ¬ a ≤ 500 by omega)]
      exact ⟨σ, rfl, oy_fs.rf, h8⟩
  rw [if_pos q, if_neg (show ¬ a < 1 by omega), if_pos q.2, h8, oy_w (by omega) (by omega)]
  by_cases z : n + a ≤ 9999
  · rw [if_pos z, if_pos z]
    exact ⟨_, rfl, oy_fs.rf.up ⟨rfl, rfl⟩, oy_up_same⟩
  · rw [if_neg z, if_neg z]
    exact ⟨σ, rfl, oy_fs.rf, h8⟩
theorem om_pass {n a : Int} (h24 : σ 10 0 24 0 = n) (hn : 0 ≤ n ∧ n ≤ 9999) : ∃ σ2 y, F_Mod_pass a σ = some (y, σ2) ∧ oy_fr (fun c j => c == 10 && (j == 24 || j == 46)) σ σ2 ∧ σ2 10 0 24 0 = (sp_pass n a).2 ∧ σ2 10 0 46 0 = oy_cx 2 3 0 (sp_pass n a).1 ∧ ∀ v, (sp_pass n a).1 = .inr v → y = v := by
  have bad : ∀ (c : Int) (ex : Nat), 0 < c → oy_cx 2 3 0 (.inl ex) = c → ∃ σ2 y, J_Mod_pass_34 a c σ = some (y, σ2) ∧ oy_fr (fun c j => c == 10 && (j == 24 || j == 46)) σ σ2 ∧ σ2 10 0 24 0 = n ∧ σ2 10 0 46 0 = oy_cx 2 3 0 (.inl ex) ∧ ∀ v, (Sum.inl ex : Nat ⊕ Int) = .inr v → y = v := by
    intro c ex hc he
    unfold J_Mod_pass_34
    rw [om_holds, if_neg (by omega), Option.bind_some, if_neg oy_10]
    exact ⟨_, _, rfl, oy_fr.rf.up rfl, (by show ox_up σ 10 0 46 0 c 10 0 24 0 = n; rw [oy_up_ne (by decide)]; exact h24), (by show ox_up σ 10 0 46 0 c 10 0 46 0 = _; rw [he]; exact oy_up_same), fun v hv => by cases hv⟩
  unfold F_Mod_pass sp_pass
  rw [om_in, Option.bind_some]
  by_cases q : 1 ≤ a ∧ a ≤ 500
  rotate_left
  · rw [if_neg q, if_neg q, if_pos rfl]
    exact bad 1 2 (by decide) rfl
  have ew : Nat → ox_w (n + a) = n + a := fun _ => oy_w (by omega) (by omega)
  rw [if_pos q, if_pos q, if_neg oy_10, h24, (ew 0)]
  by_cases z : n + a ≤ 9999
  rotate_left
  · rw [if_neg z, if_neg z]
    exact bad 2 3 (by decide) rfl
  have e24 : (ox_up σ 10 0 46 0 0) 10 0 24 0 = n := (oy_up_ne (by decide)).trans h24
  rw [if_pos z, if_pos z]
  unfold J_Mod_pass_34
  rw [om_holds, if_pos (Int.le_refl _), Option.bind_some, if_pos rfl]
  dsimp only
  rw [e24, (ew 0)]
  refine ⟨_, _, rfl, (oy_fr.rf.up rfl).up rfl, oy_up_same, ?_, fun v hv => Sum.inr.inj hv⟩
  rw [oy_up_ne (by decide), oy_up_same]
  rfl
end OYH8
