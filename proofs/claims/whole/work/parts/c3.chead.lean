/-! ===== the class reads: headings, properties, dates, clocks ===== -/
def oy_en (o : Option Nat) : Int := match o with | none => -1 | some b => (b : Int)
theorem sp_bl_self (w : List Int) : ∀ fr, sp_bl w fr fr = none
  | 0 => rfl
  | fr + 1 => by rw [sp_bl, if_pos (Nat.lt_succ_self fr)]
theorem sp_bl_in (w : List Int) (fr : Nat) : ∀ j b, sp_bl w fr j = some b → fr ≤ b ∧ b < j ∧ oy_wk w b = 32
  | 0, _, h => by cases h
  | j + 1, b, h => by
    rw [sp_bl] at h
    by_cases h1 : j < fr
    · rw [if_pos h1] at h; cases h
    rw [if_neg h1] at h
    by_cases h2 : oy_wk w j = 32
    · rw [if_pos h2] at h
      cases h
      exact ⟨by omega, by omega, h2⟩
    · rw [if_neg h2] at h
      have := sp_bl_in w fr j b h
      exact ⟨this.1, by omega, this.2.2⟩
theorem sp_sc_ge (w : List Int) : ∀ f s, s ≤ sp_sc w f s ∧ sp_sc w f s ≤ s + f
  | 0, s => ⟨Nat.le_refl _, Nat.le_refl _⟩
  | f + 1, s => by
    rw [sp_sc]
    split
    · have := sp_sc_ge w f (s + 1)
      omega
    · omega
theorem sp_sc_min (w : List Int) (g : Nat) : ∀ f s, sp_sc w f s = min (sp_sc w (f + g) s) (s + f)
  | 0, s => by
    have := (sp_sc_ge w g s).1
    rw [Nat.zero_add, Nat.add_zero, Nat.min_eq_right this]
    rfl
  | f + 1, s => by
    have e : f + 1 + g = (f + g) + 1 := by omega
    rw [e, sp_sc, sp_sc]
    by_cases h : oy_wk w s = 42
    · rw [if_pos h, if_pos h, sp_sc_min w g f (s + 1)]
      have e2 : s + 1 + f = s + (f + 1) := by omega
      rw [e2]
    · rw [if_neg h, if_neg h, Nat.min_eq_left (by omega)]
theorem sp_sc6 (w : List Int) : sp_sc w 6 0 = min (sp_stars w) 6 := by
  have := sp_sc_min w 24 6 0
  rw [Nat.zero_add] at this
  exact this
theorem oy_up_pl {σ : ox_H} {a b : Nat} {x : Int} (h : x = (b : Int)) : ox_up (oy_pl σ a) 3 0 5 0 x = oy_pl σ b := by rw [h, oy_pl_up]
section OYC3
variable {w : List Int} {σ : ox_H}
theorem oc_tagscan (hR : oy_R w σ) {k fr a : Nat} : ∀ (f j n : Nat), j + f = w.length → fr ≤ j → f < n → ox_lp (B_Rdr_takeTags_7 k (oy_pl σ a)) n (oy_en (sp_bl w fr j), (j : Int)) = J_Rdr_takeTags_38 k (oy_en (sp_bl w fr w.length)) (oy_pl σ a)
  | _, _, 0, _, _, h => absurd h (Nat.not_lt_zero _)
  | 0, j, n + 1, h1, h2, h3 => by
    obtain rfl : j = w.length := by omega
    refine oy_lp_m ?_
    unfold B_Rdr_takeTags_7
    dsimp only
    rw [oy_pl_ne (by decide), hR.2.2.1, if_pos (by omega)]
  | f + 1, j, n + 1, h1, h2, h3 => by
    have h24 := hR.1
    have hB : B_Rdr_takeTags_7 k (oy_pl σ a) (oy_en (sp_bl w fr j), (j : Int)) = some (.inl (oy_en (sp_bl w fr (j + 1)), ((j + 1 : Nat) : Int))) := by
      unfold B_Rdr_takeTags_7 J_Rdr_takeTags_31
      dsimp only
      rw [oy_pl_ne (by decide), hR.2.2.1, if_neg (show ¬ (w.length : Int) ≤ (j : Int) by omega), if_pos (by omega), Int.toNat_natCast, oy_pl_ne (by decide), hR.2.2.2 j (by omega), oy_w1 (by omega), sp_bl, if_neg (show ¬ j < fr by omega)]
      by_cases h : oy_wk w j = 32
      · rw [if_pos h, if_pos h]; rfl
      · rw [if_neg h, if_neg h]
    rw [oy_lp_l hB]
    exact oc_tagscan hR f (j + 1) n (by omega) (by omega) (by omega)
theorem oc_tags (hR : oy_R w σ) {k fr a : Nat} (hfr : fr ≤ w.length) (h9 : σ 4 k 9 0 = fr) (h10 : σ 4 k 10 0 = w.length) (h11 : σ 4 k 11 0 = 0) : ∃ τ, F_Rdr_takeTags k (oy_pl σ a) = some τ ∧ (∀ c k' j i, ¬ (c = 3 ∧ j = 5) → ¬ (c = 4 ∧ k' = k ∧ (j = 10 ∨ j = 11)) → τ c k' j i = σ c k' j i) ∧ τ 4 k 10 0 = ((match sp_bl w fr w.length with | none => w.length | some b => if sp_tf w (b + 1) = 0 then w.length else b : Nat) : Int) ∧ τ 4 k 11 0 = (match sp_bl w fr w.length with | none => 0 | some b => sp_tf w (b + 1)) := by
  have h24 := hR.1
  have hs := oc_tagscan hR (k := k) (fr := fr) (a := a) (w.length - fr) fr ox_fu (by omega) (Nat.le_refl _) (by show _ < 100000; omega)
  rw [sp_bl_self] at hs
  have hs' : ox_lp (B_Rdr_takeTags_7 k (oy_pl σ a)) ox_fu (-1, (fr : Int)) = J_Rdr_takeTags_38 k (oy_en (sp_bl w fr w.length)) (oy_pl σ a) := hs
  unfold F_Rdr_takeTags J_Rdr_takeTags_7
  rw [oy_pl_ne (by decide), h9, hs']
  unfold J_Rdr_takeTags_38 J_Rdr_takeTags_81
  cases hb : sp_bl w fr w.length with
  | none =>
    have e1 : oy_en none = -1 := rfl
    rw [e1, if_pos rfl]
    exact ⟨_, rfl, fun c k' j i h1 _ => oy_pl_ne h1, (oy_pl_ne (by decide)).trans h10, (oy_pl_ne (by decide)).trans h11⟩
  | some b =>
    have hbi := sp_bl_in _ _ _ _ hb
    have e1 : oy_en (some b) = (b : Int) := rfl
    obtain ⟨a', e', q'⟩ := oc_tagl hR (p := b + 1) (by omega)
    rw [e1, if_neg (by omega), oy_w1 (by omega), oy_pl_up, e', Option.bind_some]
    dsimp only
    by_cases ht : sp_tf w (b + 1) = 0
    · rw [if_pos ht, if_pos ht]
      exact ⟨_, rfl, fun c k' j i h1 _ => oy_pl_ne h1, (oy_pl_ne (by decide)).trans h10, ((oy_pl_ne (by decide)).trans h11).trans ht.symm⟩
    · rw [if_neg ht, if_neg ht, if_pos (show oy_pl σ a' 3 0 5 0 = oy_pl σ a' 3 0 4 0 by rw [oy_pl_get, oy_pl_ne (by decide), hR.2.2.1, q' ht])]
      refine ⟨_, rfl, fun c k' j i h1 h2 => ?_, oy_up_same, ?_⟩
      · unfold ox_up
        rw [if_neg (fun q => h2 ⟨q.1, q.2.2.1, Or.inl q.2.1⟩), if_neg (fun q => h2 ⟨q.1, q.2.2.1, Or.inr q.2.1⟩)]
        exact oy_pl_ne h1
      · rw [oy_up_ne (by decide)]
        exact oy_up_same
theorem oc_hloop (hR : oy_R w σ) {k : Nat} : ∀ (f s n : Nat), s + f = 6 → f < n → ox_lp (B_Rdr_takeHeading_0 k) n (oy_pl (ox_up σ 4 k 7 0 (s : Int)) s) = J_Rdr_takeHeading_30 k (oy_pl (ox_up σ 4 k 7 0 ((sp_sc w f s : Nat) : Int)) (sp_sc w f s))
  | _, _, 0, _, h => absurd h (Nat.not_lt_zero _)
  | 0, s, n + 1, h1, h2 => by
    refine oy_lp_m ?_
    unfold B_Rdr_takeHeading_0
    (try dsimp only)
    rw [oy_pl_ne (by decide), oy_up_same, if_pos (by omega)]
    rfl
  | f + 1, s, n + 1, h1, h2 => by
    have hR1 : oy_R w (ox_up σ 4 k 7 0 (s : Int)) := oy_R_up hR rfl
    rw [sp_sc]
    by_cases h : oy_wk w s = 42
    · have hB : B_Rdr_takeHeading_0 k (oy_pl (ox_up σ 4 k 7 0 (s : Int)) s) = some (.inl (oy_pl (ox_up σ 4 k 7 0 ((s + 1 : Nat) : Int)) (s + 1))) := by
        unfold B_Rdr_takeHeading_0
        (try dsimp only)
        rw [oy_pl_ne (by decide), oy_up_same, if_neg (by omega), oc_tk1 hR1 (b := s + 1) (by decide) h rfl, Option.bind_some, if_neg oy_10]
        (try dsimp only)
        rw [oy_pl_ne (by decide), oy_up_same, oy_w1 (by omega), oy_pl_com (by decide), oy_up_up]
      rw [oy_lp_l hB, if_pos h]
      exact oc_hloop hR f (s + 1) n (by omega) (by omega)
    · rw [if_neg h]
      refine oy_lp_m ?_
      unfold B_Rdr_takeHeading_0
      (try dsimp only)
      rw [oy_pl_ne (by decide), oy_up_same, if_neg (by omega), oc_tk0 hR1 h, Option.bind_some, if_pos rfl]
theorem sp_isw_len (w : List Int) (p k : Nat) (h : sp_isw w p k) : p + 5 ≤ w.length := by
  have := oy_wk_lt (w := w) (p := p + 4) (by rw [h.2.2.2.2]; decide)
  omega
theorem sp_state_cs (w : List Int) (p : Nat) : sp_state w p = -1 ∨ (0 ≤ sp_state w p ∧ sp_state w p ≤ 3 ∧ p + 5 ≤ w.length) := by
  unfold sp_state
  by_cases h3 : sp_isw w p 3
  · rw [if_pos h3]; exact Or.inr ⟨by decide, by decide, sp_isw_len w p 3 h3⟩
  rw [if_neg h3]
  by_cases h2 : sp_isw w p 2
  · rw [if_pos h2]; exact Or.inr ⟨by decide, by decide, sp_isw_len w p 2 h2⟩
  rw [if_neg h2]
  by_cases h1 : sp_isw w p 1
  · rw [if_pos h1]; exact Or.inr ⟨by decide, by decide, sp_isw_len w p 1 h1⟩
  rw [if_neg h1]
  by_cases h0 : sp_isw w p 0
  · rw [if_pos h0]; exact Or.inr ⟨by decide, by decide, sp_isw_len w p 0 h0⟩
  rw [if_neg h0]
  exact Or.inl rfl
/-- the heading's fields -/
def oy_hd (w : List Int) (k : Nat) (τ : ox_H) : Prop := τ 4 k 7 0 = sp_stars w ∧ τ 4 k 8 0 = sp_state w (sp_stars w + 1) ∧ τ 4 k 9 0 = sp_fr w ∧ τ 4 k 10 0 = sp_to w ∧ τ 4 k 11 0 = sp_tags w
theorem oc_heading (hR : oy_R w σ) {k : Nat} (h42 : oy_wk w 0 = 42) (h7 : σ 4 k 7 0 = 0) (h11 : σ 4 k 11 0 = 0) : ∃ τ, F_Rdr_takeHeading k (oy_pl σ 0) = some (if sp_isH w then 1 else 0, τ) ∧ oy_fs (oy_s4 k) σ τ ∧ (sp_isH w → τ 3 0 5 0 = w.length ∧ oy_hd w k τ) := by
  have h24 := hR.1
  have hl := oc_hloop hR (k := k) 6 0 ox_fu (by omega) (by show 6 < 100000; omega)
  have e0 : ox_up σ 4 k 7 0 ((0 : Nat) : Int) = σ := by rw [show ((0 : Nat) : Int) = σ 4 k 7 0 from h7.symm]; exact oy_up_self
  rw [e0, sp_sc6] at hl
  have hs1 : 1 ≤ sp_stars w := by
    have := sp_sc_ge w 29 1
    have e : sp_stars w = sp_sc w 29 1 := by unfold sp_stars; rw [sp_sc, if_pos h42]
    omega
  unfold F_Rdr_takeHeading J_Rdr_takeHeading_0
  rw [hl]
  have no : ∀ (a : Nat) (v : Int), ¬ sp_isH w → ∃ τ, (some (0, oy_pl (ox_up σ 4 k 7 0 v) a) : Option (Int × ox_H)) = some (if sp_isH w then 1 else 0, τ) ∧ oy_fs (oy_s4 k) σ τ ∧ (sp_isH w → τ 3 0 5 0 = w.length ∧ oy_hd w k τ) := by
    intro a v h
    rw [if_neg h]
    exact ⟨_, rfl, oy_plfs4 (oy_fs.rf.up (oy_s44 (by decide))), fun q => absurd q h⟩
  unfold J_Rdr_takeHeading_30 J_Rdr_takeHeading_47
  rw [oy_pl_ne (by decide), oy_up_same]
  by_cases h5 : 5 < sp_stars w
  · rw [if_pos (by omega)]
    exact no _ _ (fun q => by have := q.2.1; omega)
  rw [if_neg (by omega), Nat.min_eq_left (by omega)]
  have hR1 : oy_R w (ox_up σ 4 k 7 0 ((sp_stars w : Nat) : Int)) := oy_R_up hR rfl
  by_cases h32 : oy_wk w (sp_stars w) = 32
  rotate_left
  · rw [oc_tk0 hR1 h32, Option.bind_some, if_pos rfl]
    exact no _ _ (fun q => h32 q.2.2)
  have hH : sp_isH w := ⟨hs1, by omega, h32⟩
  have hlt := oy_wk_lt (w := w) (p := sp_stars w) (by rw [h32]; decide)
  rw [oc_tk1 hR1 (b := sp_stars w + 1) (by decide) h32 rfl, Option.bind_some, if_neg oy_10]
  dsimp only
  rw [oc_state hR1, Option.bind_some]
  dsimp only
  have efr : sp_stars w + 1 + (if sp_state w (sp_stars w + 1) < 0 then 0 else 5) = sp_fr w := rfl
  rw [efr, oy_pl_get, oy_pl_ne (by decide), hR1.2.2.1]
  have hfr : sp_fr w ≤ w.length := by
    rw [← efr]
    rcases sp_state_cs w (sp_stars w + 1) with q | q
    · rw [q, if_pos (by decide)]; omega
    · rw [if_neg (by omega)]; omega
  rw [oy_pl_com (by decide), oy_pl_com (by decide), oy_pl_com (by decide)]
  have hR2 : oy_R w (ox_up (ox_up (ox_up (ox_up σ 4 k 7 0 ((sp_stars w : Nat) : Int)) 4 k 8 0 (sp_state w (sp_stars w + 1))) 4 k 9 0 ((sp_fr w : Nat) : Int)) 4 k 10 0 ((w.length : Nat) : Int)) := oy_R_up (oy_R_up (oy_R_up hR1 rfl) rfl) rfl
  obtain ⟨τ, e, f, g1, g2⟩ := oc_tags hR2 (k := k) (a := sp_fr w) hfr (by rw [oy_up_ne (by decide)]; exact oy_up_same) oy_up_same (by rw [oy_up_ne (by decide), oy_up_ne (by decide), oy_up_ne (by decide), oy_up_ne (by decide)]; exact h11)
  rw [e, Option.bind_some, if_pos hH]
  have F : oy_fs (oy_s4 k) σ (ox_up (ox_up (ox_up (ox_up σ 4 k 7 0 ((sp_stars w : Nat) : Int)) 4 k 8 0 (sp_state w (sp_stars w + 1))) 4 k 9 0 ((sp_fr w : Nat) : Int)) 4 k 10 0 ((w.length : Nat) : Int)) := (((oy_fs.rf.up (oy_s44 (by decide))).up (oy_s44 (by decide))).up (oy_s44 (by decide))).up (oy_s44 (by decide))
  have F2 : oy_fs (oy_s4 k) σ τ := fun c k' j i h => (f c k' j i (fun q => h (Or.inl q)) (fun q => h (Or.inr ⟨q.1, q.2.1, by omega⟩))).trans (F c k' j i h)
  have g0 : τ 3 0 4 0 = w.length := (hR.fs4 F2).2.2.1
  refine ⟨_, rfl, F2.up oy_s43, fun _ => ⟨oy_up_same.trans g0, ?_, ?_, ?_, ?_, ?_⟩⟩
  · rw [oy_up_ne (by decide), f 4 k 7 0 (by decide) (by omega), oy_up_ne (by decide), oy_up_ne (by decide), oy_up_ne (by decide)]
    exact oy_up_same
  · rw [oy_up_ne (by decide), f 4 k 8 0 (by decide) (by omega), oy_up_ne (by decide), oy_up_ne (by decide)]
    exact oy_up_same
  · rw [oy_up_ne (by decide), f 4 k 9 0 (by decide) (by omega), oy_up_ne (by decide)]
    exact oy_up_same
  · rw [oy_up_ne (by decide)]
    exact g1
  · rw [oy_up_ne (by decide)]
    exact g2
end OYC3
