/-! ===== the reference reads: words, tags ===== -/
theorem oy_wa {p : Nat} {k x : Int} {q : Nat} (hx : x = (p : Int) + k) (hq : (q : Int) = (p : Int) + k) (h1 : q ≤ 1000000) : ox_w x = (q : Int) := by
  rw [hx, ← hq]
  exact oy_w (by omega) (by omega)
/-- the four states' words, with the blank behind -/
def sp_wd (k : Nat) : List Int := [[84, 79, 68, 79], [87, 65, 73, 84], [68, 79, 78, 69], [68, 82, 79, 80]].getD k []
abbrev sp_isw (w : List Int) (p k : Nat) : Prop := oy_wk w p = (sp_wd k).getD 0 0 ∧ oy_wk w (p + 1) = (sp_wd k).getD 1 0 ∧ oy_wk w (p + 2) = (sp_wd k).getD 2 0 ∧ oy_wk w (p + 3) = (sp_wd k).getD 3 0 ∧ oy_wk w (p + 4) = 32
/-- tags from a place on: pairs of a letter and ':' to the end -/
def sp_tg (w : List Int) : Nat → Nat → Int → Option Int
  | 0, _, _ => none
  | f + 1, k, s => if w.length ≤ k then some s else if sp_lt (oy_wk w k) ∧ oy_wk w (k + 1) = 58 then sp_tg w f (k + 2) (ox_or s (ox_shl 1 (oy_wk w k - 97))) else none
def sp_tf (w : List Int) (p : Nat) : Int := if oy_wk w p = 58 then (sp_tg w 30 (p + 1) 0).getD 0 else 0
section OYB2
variable {T : oy_T} {σ : ox_H} {l : Nat}
theorem om_word (hT : oy_ok T) (hM : oy_M T σ) (hl : l < T.length) {p k : Nat} (hp : p ≤ 1000) (hk : k < 4) : F_Mod_isWord (l : Int) (p : Int) (k : Int) σ = some (if sp_isw (oy_ln T l) p k then 1 else 0) := by
  have h120 : ∀ a b c d : Int, J_Mod_isWord_120 (l : Int) (p : Int) a b c d σ = some (if oy_wk (oy_ln T l) p = a ∧ oy_wk (oy_ln T l) (p + 1) = b ∧ oy_wk (oy_ln T l) (p + 2) = c ∧ oy_wk (oy_ln T l) (p + 3) = d ∧ oy_wk (oy_ln T l) (p + 4) = 32 then 1 else 0) := by
    intro a b c d
    unfold J_Mod_isWord_120 J_Mod_isWord_189 J_Mod_isWord_190
    rw [om_look hT hM hl (by omega), Option.bind_some]
    by_cases h1 : oy_wk (oy_ln T l) p = a
    · rw [if_pos h1, oy_wa (q := p + 1) rfl (by omega) (by omega), om_look hT hM hl (by omega), Option.bind_some]
      by_cases h2 : oy_wk (oy_ln T l) (p + 1) = b
      · rw [if_pos h2, oy_wa (q := p + 2) rfl (by omega) (by omega), om_look hT hM hl (by omega), Option.bind_some]
        by_cases h3 : oy_wk (oy_ln T l) (p + 2) = c
        · rw [if_pos h3, oy_wa (q := p + 3) rfl (by omega) (by omega), om_look hT hM hl (by omega), Option.bind_some]
          by_cases h4 : oy_wk (oy_ln T l) (p + 3) = d
          · rw [if_pos h4, oy_wa (q := p + 4) rfl (by omega) (by omega), om_look hT hM hl (by omega), Option.bind_some]
            by_cases h5 : oy_wk (oy_ln T l) (p + 4) = 32
            · rw [if_pos h5, if_pos ⟨h1, h2, h3, h4, h5⟩]; rfl
            · rw [if_neg h5, if_neg (fun q => h5 q.2.2.2.2)]; rfl
          · rw [if_neg h4, if_neg (fun q => h4 q.2.2.2.1)]; rfl
        · rw [if_neg h3, if_neg (fun q => h3 q.2.2.1)]; rfl
      · rw [if_neg h2, if_neg (fun q => h2 q.2.1)]; rfl
    · rw [if_neg h1, if_neg (fun q => h1 q.1)]; rfl
  have hk4 : k = 0 ∨ k = 1 ∨ k = 2 ∨ k = 3 := by omega
  unfold F_Mod_isWord J_Mod_isWord_21 J_Mod_isWord_54 J_Mod_isWord_87
  simp only [h120]
  rcases hk4 with rfl | rfl | rfl | rfl <;> rfl
theorem oy_and00 : ox_and 0 0 = 0 := by decide
theorem oy_and01 : ox_and 0 1 = 0 := by decide
theorem oy_and10 : ox_and 1 0 = 0 := by decide
theorem oy_and11 : ox_and 1 1 = 1 := by decide
theorem om_tstep (hT : oy_ok T) (hM : oy_M T σ) (hl : l < T.length) {k : Nat} {s g : Int} (hk : k < (oy_ln T l).length) (hg : g = 0 ∨ g = 1) :
    (¬ (g = 1 ∧ sp_lt (oy_wk (oy_ln T l) k) ∧ oy_wk (oy_ln T l) (k + 1) = 58) → ∃ s', B_Mod_tagsFrom_51 (l : Int) σ (s, g, (k : Int)) = some (.inl (s', 0, ((k + 2 : Nat) : Int)))) ∧
    ((g = 1 ∧ sp_lt (oy_wk (oy_ln T l) k) ∧ oy_wk (oy_ln T l) (k + 1) = 58) → B_Mod_tagsFrom_51 (l : Int) σ (s, g, (k : Int)) = some (.inl (ox_or s (ox_shl 1 (oy_wk (oy_ln T l) k - 97)), 1, ((k + 2 : Nat) : Int)))) := by
  have h60 := hT.1
  have h24 := oy_len24 hT l
  have hx := oy_wk_le hT l k
  have hB : B_Mod_tagsFrom_51 (l : Int) σ (s, g, (k : Int)) = if sp_lt (oy_wk (oy_ln T l) k) then (if oy_wk (oy_ln T l) (k + 1) = 58 then J_Mod_tagsFrom_97 (l : Int) s (k : Int) 1 g σ else J_Mod_tagsFrom_96 (l : Int) s (k : Int) g σ) else J_Mod_tagsFrom_96 (l : Int) s (k : Int) g σ := by
    unfold B_Mod_tagsFrom_51
    dsimp only
    rw [if_pos (by omega), Int.toNat_natCast, hM.2.1 l hl, if_neg (by omega), om_look hT hM hl (by omega), Option.bind_some, om_lt, Option.bind_some]
    by_cases h1 : sp_lt (oy_wk (oy_ln T l) k)
    · rw [if_pos h1, if_neg (by omega), if_pos h1, oy_wa (q := k + 1) rfl (by omega) (by omega), om_look hT hM hl (by omega), Option.bind_some]
    · rw [if_neg h1, if_pos rfl, if_neg h1]
  have h2 : ox_w ((k : Int) + 2) = ((k + 2 : Nat) : Int) := oy_wa rfl (by omega) (by omega)
  have h0 : ∀ s0 : Int, ox_and g s0 = 0 → J_Mod_tagsFrom_97 (l : Int) s (k : Int) s0 g σ = some (.inl (ox_or s 0, 0, ((k + 2 : Nat) : Int))) := by
    intro s0 hz
    unfold J_Mod_tagsFrom_97 J_Mod_tagsFrom_122
    rw [hz, if_pos rfl, h2]
  refine ⟨fun hn => ?_, fun hy => ?_⟩
  · rw [hB]
    by_cases h1 : sp_lt (oy_wk (oy_ln T l) k)
    · rw [if_pos h1]
      by_cases h3 : oy_wk (oy_ln T l) (k + 1) = 58
      · have hg0 : g = 0 := by
          rcases hg with rfl | rfl
          · rfl
          · exact absurd ⟨rfl, h1, h3⟩ hn
        rw [if_pos h3]
        exact ⟨_, h0 1 (by rw [hg0]; exact oy_and01)⟩
      · rw [if_neg h3]
        exact ⟨_, h0 0 (by rcases hg with rfl | rfl <;> decide)⟩
    · rw [if_neg h1]
      exact ⟨_, h0 0 (by rcases hg with rfl | rfl <;> decide)⟩
  · obtain ⟨rfl, h1, h3⟩ := hy
    rw [hB, if_pos h1, if_pos h3]
    unfold J_Mod_tagsFrom_97 J_Mod_tagsFrom_122
    rw [oy_and11, if_neg (by decide), om_look hT hM hl (by omega), Option.bind_some, h2, oy_w (by omega) (by omega)]
theorem om_tbad (hT : oy_ok T) (hM : oy_M T σ) (hl : l < T.length) : ∀ (n k : Nat) (s : Int), k ≤ 100 → 100 < n + k → ox_lp (B_Mod_tagsFrom_51 (l : Int) σ) n (s, 0, (k : Int)) = some 0
  | 0, k, s, h1, h2 => by omega
  | n + 1, k, s, h1, h2 => by
    have h60 := hT.1
    have h24 := oy_len24 hT l
    by_cases hk : k < (oy_ln T l).length
    · obtain ⟨s', h3⟩ := (om_tstep hT hM hl (s := s) (g := 0) hk (Or.inl rfl)).1 (fun q => absurd q.1 (by decide))
      rw [oy_lp_l h3]
      exact om_tbad hT hM hl n (k + 2) s' (by omega) (by omega)
    · have h3 : B_Mod_tagsFrom_51 (l : Int) σ (s, 0, (k : Int)) = some (.inr 0) := by
        unfold B_Mod_tagsFrom_51
        dsimp only
        rw [if_pos (by omega), Int.toNat_natCast, hM.2.1 l hl, if_pos (by omega)]
        rfl
      exact oy_lp_r h3
theorem om_tgood (hT : oy_ok T) (hM : oy_M T σ) (hl : l < T.length) : ∀ (f n k : Nat) (s : Int), k ≤ 100 → 1 ≤ f ∧ 26 < 2 * f + k → f + 100 < n → ox_lp (B_Mod_tagsFrom_51 (l : Int) σ) n (s, 1, (k : Int)) = some ((sp_tg (oy_ln T l) f k s).getD 0)
  | 0, n, k, s, h1, h2, h3 => by
    have h24 := oy_len24 hT l
    omega
  | f + 1, n, k, s, h1, h2, h3 => by
    have h60 := hT.1
    have h24 := oy_len24 hT l
    obtain ⟨n, rfl⟩ : ∃ m, n = m + 1 := ⟨n - 1, by omega⟩
    rw [sp_tg]
    by_cases hk : k < (oy_ln T l).length
    · rw [if_neg (by omega)]
      by_cases hc : sp_lt (oy_wk (oy_ln T l) k) ∧ oy_wk (oy_ln T l) (k + 1) = 58
      · rw [oy_lp_l ((om_tstep hT hM hl (s := s) (g := 1) hk (Or.inr rfl)).2 ⟨rfl, hc⟩), if_pos hc]
        exact om_tgood hT hM hl f n (k + 2) _ (by omega) (by omega) (by omega)
      · obtain ⟨s', h4⟩ := (om_tstep hT hM hl (s := s) (g := 1) hk (Or.inr rfl)).1 (fun q => hc q.2)
        rw [oy_lp_l h4, if_neg hc]
        exact om_tbad hT hM hl n (k + 2) s' (by omega) (by omega)
    · have h4 : B_Mod_tagsFrom_51 (l : Int) σ (s, 1, (k : Int)) = some (.inr s) := by
        unfold B_Mod_tagsFrom_51
        dsimp only
        rw [if_pos (by omega), Int.toNat_natCast, hM.2.1 l hl, if_pos (by omega)]
        rfl
      rw [oy_lp_r h4, if_pos (by omega)]
      rfl
/-- an odd rest is no row of pairs -/
theorem sp_tg_odd (w : List Int) : ∀ (f k : Nat) (s : Int), k < w.length → (w.length - k) % 2 = 1 → sp_tg w f k s = none
  | 0, _, _, _, _ => rfl
  | f + 1, k, s, h1, h2 => by
    rw [sp_tg, if_neg (by omega)]
    by_cases hc : sp_lt (oy_wk w k) ∧ oy_wk w (k + 1) = 58
    · rw [if_pos hc]
      by_cases h3 : k + 2 < w.length
      · exact sp_tg_odd w f (k + 2) _ h3 (by omega)
      · have : w.length ≤ k + 1 := by omega
        rw [oy_wk_ge this] at hc
        exact absurd hc.2 (by decide)
    · rw [if_neg hc]
theorem om_tagsFrom (hT : oy_ok T) (hM : oy_M T σ) (hl : l < T.length) {p : Nat} (hp : p ≤ 30) : F_Mod_tagsFrom (l : Int) (p : Int) σ = some (sp_tf (oy_ln T l) p) := by
  have h60 := hT.1
  have h24 := oy_len24 hT l
  have hbad : J_Mod_tagsFrom_43 (l : Int) (p : Int) 0 σ = some 0 := by
    unfold J_Mod_tagsFrom_43 J_Mod_tagsFrom_44 J_Mod_tagsFrom_51
    rw [oy_wa (q := p + 1) rfl (by omega) (by omega)]
    exact om_tbad hT hM hl ox_fu (p + 1) 0 (by omega) (by show 100 < 100000 + (p + 1); omega)
  unfold F_Mod_tagsFrom
  rw [om_look hT hM hl (by omega), Option.bind_some]
  unfold sp_tf
  by_cases h58 : oy_wk (oy_ln T l) p = 58
  · have hpl : p < (oy_ln T l).length := oy_wk_pos hT (by rw [h58]; decide)
    rw [if_pos h58, if_pos h58, if_pos (by omega), Int.toNat_natCast, hM.2.1 l hl, oy_w (x := ((oy_ln T l).length : Int) - p) (by omega) (by omega)]
    by_cases h3 : ((oy_ln T l).length : Int) - p < 3
    · rw [if_pos h3, hbad]
      by_cases h1 : (oy_ln T l).length = p + 1
      · rw [show sp_tg (oy_ln T l) 30 (p + 1) 0 = some 0 by rw [sp_tg, if_pos (by omega)]]
        rfl
      · rw [sp_tg_odd (oy_ln T l) 30 (p + 1) 0 (by omega) (by omega)]
        rfl
    · rw [if_neg h3, if_pos (by omega)]
      have et : Int.tmod (((oy_ln T l).length : Int) - p) 2 = ((((oy_ln T l).length - p) % 2 : Nat) : Int) := by
        rw [show ((oy_ln T l).length : Int) - p = (((oy_ln T l).length - p : Nat) : Int) by omega]
        rfl
      rw [et]
      by_cases hodd : ((oy_ln T l).length - p) % 2 = 1
      · rw [if_pos (by omega)]
        unfold J_Mod_tagsFrom_44 J_Mod_tagsFrom_51
        rw [oy_wa (q := p + 1) rfl (by omega) (by omega)]
        exact om_tgood hT hM hl 30 ox_fu (p + 1) 0 (by omega) (by omega) (by show 30 + 100 < 100000; omega)
      · rw [if_neg (by omega), hbad, sp_tg_odd (oy_ln T l) 30 (p + 1) 0 (by omega) (by omega)]
        rfl
  · rw [if_neg h58, if_neg h58, hbad]
end OYB2
