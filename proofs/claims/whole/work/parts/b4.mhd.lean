/-! ===== the reference reads: headings ===== -/
theorem oy_lp_m {α β : Type} {g : α → Option (α ⊕ β)} {n : Nat} {a : α} {X : Option β} (h : g a = X.map .inr) : ox_lp g (n + 1) a = X := by
  have e : ox_lp g (n + 1) a = (match g a with | none => none | some (.inl a') => ox_lp g n a' | some (.inr r) => some r) := rfl
  rw [e, h]
  cases X <;> rfl
section OYB4
variable {T : oy_T} {σ : ox_H} {l : Nat}
/-- the blank's search, to its end -/
theorem om_hblank (hT : oy_ok T) (hM : oy_M T σ) (hl : l < T.length) {fr : Nat} (hfr : σ 10 0 14 0 = fr) : ∀ (k n : Nat), k ≤ 30 → k < n → ox_lp (B_Mod_heading_144 (l : Int) σ) n ((k : Int) - 1) = some ((1 : Int), ox_up (ox_up σ 10 0 16 0 (match sp_bl (oy_ln T l) fr k with | none => 0 | some b => sp_tf (oy_ln T l) (b + 1))) 10 0 15 0 (((match sp_bl (oy_ln T l) fr k with | none => (oy_ln T l).length | some b => if sp_tf (oy_ln T l) (b + 1) = 0 then (oy_ln T l).length else b) : Nat) : Int))
  | _, 0, _, h => absurd h (Nat.not_lt_zero _)
  | 0, n + 1, _, _ => by
    have h60 := hT.1
    refine oy_lp_m ?_
    unfold B_Mod_heading_144
    (try dsimp only)
    rw [hfr, if_pos (by omega)]
    congr 1
    unfold J_Mod_heading_169 J_Mod_heading_190 J_Mod_heading_211
    rw [hfr, if_pos (by omega), if_pos rfl, if_pos (by omega), Int.toNat_natCast, hM.2.1 l hl]
    rfl
  | k + 1, n + 1, h1, h2 => by
    have h60 := hT.1
    have h24 := oy_len24 hT l
    have ek : (((k + 1 : Nat) : Int) - 1) = (k : Int) := by omega
    rw [ek]
    by_cases hk : k < fr
    · refine oy_lp_m ?_
      have e9 : sp_bl (oy_ln T l) fr (k + 1) = none := by rw [sp_bl, if_pos hk]
      rw [e9]
      unfold B_Mod_heading_144
      (try dsimp only)
      rw [hfr, if_pos (by omega)]
      congr 1
      unfold J_Mod_heading_169 J_Mod_heading_190 J_Mod_heading_211
      rw [hfr, if_pos (by omega), if_pos rfl, if_pos (by omega), Int.toNat_natCast, hM.2.1 l hl]
    · by_cases h32 : oy_wk (oy_ln T l) k = 32
      · refine oy_lp_m ?_
        have e9 : sp_bl (oy_ln T l) fr (k + 1) = some k := by rw [sp_bl, if_neg hk, if_pos h32]
        rw [e9]
        unfold B_Mod_heading_144
        (try dsimp only)
        rw [hfr, if_neg (by omega), om_look hT hM hl (by omega), Option.bind_some, if_pos h32]
        congr 1
        unfold J_Mod_heading_169
        rw [hfr, if_neg (by omega), oy_wa (q := k + 1) rfl (by omega) (by omega), om_tagsFrom hT hM hl (by omega), Option.bind_some]
        unfold J_Mod_heading_190 J_Mod_heading_211
        by_cases h0 : sp_tf (oy_ln T l) (k + 1) = 0
        · rw [if_pos h0, if_pos (by omega), Int.toNat_natCast, hM.2.1 l hl, if_pos h0]
        · rw [if_neg h0, if_neg h0]
      · have e9 : sp_bl (oy_ln T l) fr (k + 1) = sp_bl (oy_ln T l) fr k := by rw [sp_bl, if_neg hk, if_neg h32]
        rw [e9, oy_lp_l (a' := (k : Int) - 1) (by
          unfold B_Mod_heading_144
          (try dsimp only)
          rw [hfr, if_neg (by omega), om_look hT hM hl (by omega), Option.bind_some, if_neg h32, oy_w (by omega) (by omega)]
          rfl)]
        exact om_hblank hT hM hl hfr k n (by omega) (by omega)
/-- the state's search -/
theorem om_hword (hT : oy_ok T) (hM : oy_M T σ) (hl : l < T.length) {p k : Nat} {x : Int} (hp : σ 10 0 14 0 = p) (hp2 : p ≤ 100) (hk : k < 4) : B_Mod_heading_78 (l : Int) ((k : Int), ox_up σ 10 0 13 0 x) = some (.inl (((k + 1 : Nat) : Int), ox_up σ 10 0 13 0 (if sp_isw (oy_ln T l) p k then (k : Int) else x))) := by
  unfold B_Mod_heading_78 J_Mod_heading_105
  (try dsimp only)
  rw [if_neg (by omega), oy_up_ne (by decide), hp, om_word hT (oy_M_up hM rfl) hl (by omega) hk, Option.bind_some, oy_wa (q := k + 1) rfl (by omega) (by omega)]
  by_cases h : sp_isw (oy_ln T l) p k
  · rw [if_pos h, if_neg oy_10, if_pos h, oy_up_up]
  · rw [if_neg h, if_pos rfl, if_neg h, oy_up_up, oy_up_same]
theorem om_hstate (hT : oy_ok T) (hM : oy_M T σ) (hl : l < T.length) {p : Nat} (hp : σ 10 0 14 0 = p) (hp2 : p ≤ 100) : J_Mod_heading_78 (l : Int) 0 (ox_up σ 10 0 13 0 (-1)) = J_Mod_heading_114 (l : Int) (ox_up σ 10 0 13 0 (sp_state (oy_ln T l) p)) := by
  unfold J_Mod_heading_78
  have hf : ox_fu = 99995 + 1 + 1 + 1 + 1 + 1 := rfl
  rw [hf]
  have s0 := om_hword hT hM hl (x := -1) hp hp2 (show 0 < 4 by decide)
  have s1 := om_hword hT hM hl (x := if sp_isw (oy_ln T l) p 0 then ((0 : Nat) : Int) else -1) hp hp2 (show 1 < 4 by decide)
  have s2 := om_hword hT hM hl (x := if sp_isw (oy_ln T l) p 1 then ((1 : Nat) : Int) else if sp_isw (oy_ln T l) p 0 then ((0 : Nat) : Int) else -1) hp hp2 (show 2 < 4 by decide)
  have s3 := om_hword hT hM hl (x := if sp_isw (oy_ln T l) p 2 then ((2 : Nat) : Int) else if sp_isw (oy_ln T l) p 1 then ((1 : Nat) : Int) else if sp_isw (oy_ln T l) p 0 then ((0 : Nat) : Int) else -1) hp hp2 (show 3 < 4 by decide)
  have s0' : B_Mod_heading_78 (l : Int) (0, ox_up σ 10 0 13 0 (-1)) = _ := s0
  rw [oy_lp_l s0', oy_lp_l s1, oy_lp_l s2, oy_lp_l s3]
  refine oy_lp_m ?_
  unfold B_Mod_heading_78
  (try dsimp only)
  rw [if_pos (by omega)]
  rfl
theorem om_hloop (hT : oy_ok T) (hM : oy_M T σ) (hl : l < T.length) : ∀ (f n s : Nat), (oy_ln T l).length < f + s → s ≤ 40 → f < n → ox_lp (B_Mod_heading_5 (l : Int)) n (ox_up σ 10 0 12 0 (s : Int)) = J_Mod_heading_32 (l : Int) (ox_up σ 10 0 12 0 ((sp_sc (oy_ln T l) f s : Nat) : Int))
  | _, 0, _, _, _, h => absurd h (Nat.not_lt_zero _)
  | 0, n + 1, s, h1, h2, h3 => by
    refine oy_lp_m ?_
    unfold B_Mod_heading_5
    (try dsimp only)
    rw [oy_up_same, om_look hT (oy_M_up hM rfl) hl (by omega), Option.bind_some, oy_wk_ge (by omega), if_neg (by decide)]
    rfl
  | f + 1, n + 1, s, h1, h2, h3 => by
    have h24 := oy_len24 hT l
    rw [sp_sc]
    by_cases h42 : oy_wk (oy_ln T l) s = 42
    · have hs : s < (oy_ln T l).length := oy_wk_pos hT (by rw [h42]; decide)
      rw [if_pos h42, oy_lp_l (a' := ox_up σ 10 0 12 0 ((s + 1 : Nat) : Int)) (by
        unfold B_Mod_heading_5
        (try dsimp only)
        rw [oy_up_same, om_look hT (oy_M_up hM rfl) hl (by omega), Option.bind_some, if_pos h42, oy_up_up, oy_wa (q := s + 1) rfl (by omega) (by omega)])]
      exact om_hloop hT hM hl f n (s + 1) (by omega) (by omega) (by omega)
    · rw [if_neg h42]
      refine oy_lp_m ?_
      unfold B_Mod_heading_5
      (try dsimp only)
      rw [oy_up_same, om_look hT (oy_M_up hM rfl) hl (by omega), Option.bind_some, if_neg h42]
theorem om_heading (hT : oy_ok T) (hM : oy_M T σ) (hl : l < T.length) : ∃ σ', F_Mod_heading (l : Int) σ = some (if sp_isH (oy_ln T l) then 1 else 0, σ') ∧ oy_fr oy_sp σ σ' ∧ (sp_isH (oy_ln T l) → σ' 10 0 12 0 = sp_stars (oy_ln T l) ∧ σ' 10 0 13 0 = sp_state (oy_ln T l) (sp_stars (oy_ln T l) + 1) ∧ σ' 10 0 14 0 = sp_fr (oy_ln T l) ∧ σ' 10 0 15 0 = sp_to (oy_ln T l) ∧ σ' 10 0 16 0 = sp_tags (oy_ln T l)) := by
  have h60 := hT.1
  have h24 := oy_len24 hT l
  have hsl := sp_stars_le (oy_ln T l) h24
  unfold F_Mod_heading J_Mod_heading_5
  have e0 : ox_up σ 10 0 12 0 0 = ox_up σ 10 0 12 0 ((0 : Nat) : Int) := rfl
  rw [e0, om_hloop hT hM hl 30 ox_fu 0 (by omega) (by omega) (by show 30 < 100000; omega)]
  have es : sp_sc (oy_ln T l) 30 0 = sp_stars (oy_ln T l) := rfl
  rw [es]
  have hM1 : oy_M T (ox_up σ 10 0 12 0 ((sp_stars (oy_ln T l) : Nat) : Int)) := oy_M_up hM rfl
  unfold J_Mod_heading_32
  rw [oy_up_same, om_in, Option.bind_some]
  by_cases h1 : (1 : Int) ≤ (sp_stars (oy_ln T l) : Int) ∧ (sp_stars (oy_ln T l) : Int) ≤ 5
  rotate_left
  · rw [if_neg h1, if_pos rfl, if_neg (fun q : sp_isH (oy_ln T l) => h1 ⟨by have := q.1; omega, by have := q.2.1; omega⟩)]
    exact ⟨_, rfl, oy_fr.rf.up rfl, fun q => absurd q (fun q => h1 ⟨by have := q.1; omega, by have := q.2.1; omega⟩)⟩
  rw [if_pos h1, if_neg oy_10, om_look hT hM1 hl (by omega), Option.bind_some]
  by_cases h2 : oy_wk (oy_ln T l) (sp_stars (oy_ln T l)) = 32
  rotate_left
  · rw [if_neg h2, if_neg (fun q : sp_isH (oy_ln T l) => h2 q.2.2)]
    exact ⟨_, rfl, oy_fr.rf.up rfl, fun q => absurd q.2.2 h2⟩
  have hH : sp_isH (oy_ln T l) := ⟨by omega, by omega, h2⟩
  rw [if_pos h2, if_pos hH, oy_wa (q := sp_stars (oy_ln T l) + 1) rfl (by omega) (by omega)]
  generalize hτ : ox_up (ox_up σ 10 0 12 0 ((sp_stars (oy_ln T l) : Nat) : Int)) 10 0 14 0 ((sp_stars (oy_ln T l) + 1 : Nat) : Int) = τ
  have hMt : oy_M T τ := by rw [← hτ]; exact oy_M_up hM1 rfl
  have hft : oy_fr oy_sp σ τ := by rw [← hτ]; exact (oy_fr.rf.up rfl).up rfl
  have t14 : τ 10 0 14 0 = ((sp_stars (oy_ln T l) + 1 : Nat) : Int) := by rw [← hτ]; exact oy_up_same
  have t12 : τ 10 0 12 0 = (sp_stars (oy_ln T l) : Int) := by rw [← hτ, oy_up_ne (by decide)]; exact oy_up_same
  rw [om_hstate hT hMt hl t14 (by omega)]
  unfold J_Mod_heading_114
  rw [oy_up_same, oy_up_ne (by decide), t14]
  have hst : -1 ≤ sp_state (oy_ln T l) (sp_stars (oy_ln T l) + 1) ∧ sp_state (oy_ln T l) (sp_stars (oy_ln T l) + 1) ≤ 3 := by
    unfold sp_state
    split
    · omega
    · split
      · omega
      · split
        · omega
        · split <;> omega
  have fin : ∀ z : Int, z = (if sp_state (oy_ln T l) (sp_stars (oy_ln T l) + 1) < 0 then (0 : Nat) else 5 : Nat) → ∃ σ', J_Mod_heading_131 (l : Int) z ((sp_stars (oy_ln T l) + 1 : Nat) : Int) (ox_up τ 10 0 13 0 (sp_state (oy_ln T l) (sp_stars (oy_ln T l) + 1))) = some (1, σ') ∧ oy_fr oy_sp σ σ' ∧ (sp_isH (oy_ln T l) → σ' 10 0 12 0 = sp_stars (oy_ln T l) ∧ σ' 10 0 13 0 = sp_state (oy_ln T l) (sp_stars (oy_ln T l) + 1) ∧ σ' 10 0 14 0 = sp_fr (oy_ln T l) ∧ σ' 10 0 15 0 = sp_to (oy_ln T l) ∧ σ' 10 0 16 0 = sp_tags (oy_ln T l)) := by
    intro z hz
    have hfr : ((sp_stars (oy_ln T l) + 1 : Nat) : Int) + z = ((sp_fr (oy_ln T l) : Nat) : Int) := by
      unfold sp_fr
      rw [hz]
      omega
    have hfl : sp_fr (oy_ln T l) ≤ 40 := by
      unfold sp_fr
      split <;> omega
    unfold J_Mod_heading_131 J_Mod_heading_144
    rw [if_pos (by omega), Int.toNat_natCast, oy_up_ne (by decide), hMt.2.1 l hl, hfr, oy_w (x := ((sp_fr (oy_ln T l) : Nat) : Int)) (by omega) (by omega), oy_w (x := ((oy_ln T l).length : Int) - 1) (by omega) (by omega)]
    rw [om_hblank (σ := ox_up (ox_up τ 10 0 13 0 (sp_state (oy_ln T l) (sp_stars (oy_ln T l) + 1))) 10 0 14 0 ((sp_fr (oy_ln T l) : Nat) : Int)) hT (oy_M_up (oy_M_up hMt rfl) rfl) hl oy_up_same (oy_ln T l).length ox_fu (by omega) (by show _ < 100000; omega)]
    refine ⟨_, rfl, (((hft.up rfl).up rfl).up rfl).up rfl, fun _ => ⟨?_, ?_, ?_, ?_, ?_⟩⟩
    · rw [oy_up_ne (by decide), oy_up_ne (by decide), oy_up_ne (by decide), oy_up_ne (by decide)]; exact t12
    · rw [oy_up_ne (by decide), oy_up_ne (by decide), oy_up_ne (by decide)]; exact oy_up_same
    · rw [oy_up_ne (by decide), oy_up_ne (by decide)]; exact oy_up_same
    · exact oy_up_same
    · rw [oy_up_ne (by decide)]; exact oy_up_same
  by_cases h3 : 0 ≤ sp_state (oy_ln T l) (sp_stars (oy_ln T l) + 1)
  · rw [if_pos h3]
    exact fin 5 (by rw [if_neg (by omega)]; rfl)
  · rw [if_neg h3]
    exact fin 0 (by rw [if_pos (by omega)]; rfl)
end OYB4
