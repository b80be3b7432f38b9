/-! ===== the class reads: headings ===== -/
def oy_fs (S : Nat → Nat → Nat → Nat → Prop) (σ σ' : ox_H) : Prop := ∀ c k j i, ¬ S c k j i → σ' c k j i = σ c k j i
theorem oy_fs.rf {S : Nat → Nat → Nat → Nat → Prop} {σ : ox_H} : oy_fs S σ σ := fun _ _ _ _ _ => rfl
theorem oy_fs.tr {S : Nat → Nat → Nat → Nat → Prop} {σ σ1 σ2 : ox_H} (h1 : oy_fs S σ σ1) (h2 : oy_fs S σ1 σ2) : oy_fs S σ σ2 := fun c k j i h => (h2 c k j i h).trans (h1 c k j i h)
theorem oy_fs.up {S : Nat → Nat → Nat → Nat → Prop} {σ σ1 : ox_H} {c k j i : Nat} {v : Int} (h : oy_fs S σ σ1) (hS : S c k j i) : oy_fs S σ (ox_up σ1 c k j i v) := fun c' k' j' i' h' => by
  unfold ox_up
  rw [if_neg (fun q => by rw [q.1, q.2.1, q.2.2.1, q.2.2.2] at h'; exact h' hS)]
  exact h c' k' j' i' h'
theorem oy_fs.mono {S S' : Nat → Nat → Nat → Nat → Prop} {σ σ' : ox_H} (h : oy_fs S σ σ') (hS : ∀ c k j i, S c k j i → S' c k j i) : oy_fs S' σ σ' := fun c k j i h' => h c k j i (fun q => h' (hS c k j i q))
/-- what reading line l writes: the place, its reading, its sums -/
def oy_sl (l : Nat) (c k j i : Nat) : Prop := (c = 3 ∧ j = 5) ∨ (c = 4 ∧ k = l ∧ j ≠ 0) ∨ (c = 6 ∧ ((j < 2 ∧ i = l) ∨ (2 ≤ j ∧ 12 * l ≤ i ∧ i < 12 * l + 12)))
theorem oy_sl3 {l k i : Nat} : oy_sl l 3 k 5 i := Or.inl ⟨rfl, rfl⟩
theorem oy_sl4 {l j i : Nat} (h : j ≠ 0) : oy_sl l 4 l j i := Or.inr (Or.inl ⟨rfl, rfl, h⟩)
theorem oy_R.fs {w : List Int} {l : Nat} {σ σ' : ox_H} (h : oy_R w σ) (hf : oy_fs (oy_sl l) σ σ') : oy_R w σ' := ⟨h.1, h.2.1, (hf 3 0 4 0 (by unfold oy_sl; omega)).trans h.2.2.1, fun p hp => (hf 3 0 2 p (by unfold oy_sl; omega)).trans (h.2.2.2 p hp)⟩
theorem oy_plfs {l a : Nat} {σ σ1 : ox_H} (h : oy_fs (oy_sl l) σ σ1) : oy_fs (oy_sl l) σ (oy_pl σ1 a) := h.up oy_sl3
theorem sp_wd_sa : ∀ k, k < 4 → ∀ i, i < 5 → ox_sa k i = if i < 4 then (sp_wd k).getD i 0 else 32 := by decide
/-- only one of the words can stand at a place -/
theorem sp_isw_one (w : List Int) (p : Nat) : ∀ k, k < 4 → ∀ k', k' < 4 → sp_isw w p k → sp_isw w p k' → k = k' := by
  intro k hk k' hk' h1 h2
  have q0 := h1.1.symm.trans h2.1
  have q1 := h1.2.1.symm.trans h2.2.1
  exact (show ∀ k, k < 4 → ∀ k', k' < 4 → (sp_wd k).getD 0 0 = (sp_wd k').getD 0 0 → (sp_wd k).getD 1 0 = (sp_wd k').getD 1 0 → k = k' by decide) k hk k' hk' q0 q1
def oy_s4 (l : Nat) (c k j i : Nat) : Prop := (c = 3 ∧ j = 5) ∨ (c = 4 ∧ k = l ∧ j ≠ 0)
theorem oy_s43 {l k i : Nat} : oy_s4 l 3 k 5 i := Or.inl ⟨rfl, rfl⟩
theorem oy_s44 {l j i : Nat} (h : j ≠ 0) : oy_s4 l 4 l j i := Or.inr ⟨rfl, rfl, h⟩
theorem oy_s4_sl {l c k j i : Nat} (h : oy_s4 l c k j i) : oy_sl l c k j i := h.elim Or.inl (fun q => Or.inr (Or.inl q))
theorem oy_R.fs4 {w : List Int} {l : Nat} {σ σ' : ox_H} (h : oy_R w σ) (hf : oy_fs (oy_s4 l) σ σ') : oy_R w σ' := h.fs (hf.mono (fun _ _ _ _ => oy_s4_sl))
theorem oy_plfs4 {l a : Nat} {σ σ1 : ox_H} (h : oy_fs (oy_s4 l) σ σ1) : oy_fs (oy_s4 l) σ (oy_pl σ1 a) := h.up oy_s43
section OYC2
variable {w : List Int} {σ : ox_H}
theorem oc_wloop (hR : oy_R w σ) {p k : Nat} (hk : k < 4) : ∀ (f i n : Nat), f + i = 5 → f < n → (∀ j, j < i → oy_wk w (p + j) = ox_sa k j) → ox_lp (B_Rdr_takeWord_7 k (p : Int)) n ((i : Int), oy_pl σ (p + i)) = some (if sp_isw w p k then 1 else 0, oy_pl σ (if sp_isw w p k then p + 5 else p))
  | _, _, 0, _, h, _ => absurd h (Nat.not_lt_zero _)
  | 0, i, n + 1, h1, h2, h3 => by
    obtain rfl : i = 5 := by omega
    have hs : sp_isw w p k := by
      have e := sp_wd_sa k hk
      refine ⟨?_, ?_, ?_, ?_, ?_⟩
      · have := h3 0 (by omega); rw [e 0 (by omega)] at this; exact this
      · have := h3 1 (by omega); rw [e 1 (by omega)] at this; exact this
      · have := h3 2 (by omega); rw [e 2 (by omega)] at this; exact this
      · have := h3 3 (by omega); rw [e 3 (by omega)] at this; exact this
      · have := h3 4 (by omega); rw [e 4 (by omega)] at this; exact this
    rw [if_pos hs, if_pos hs]
    refine oy_lp_m ?_
    unfold B_Rdr_takeWord_7
    (try dsimp only)
    have e5 : ox_sl k = 5 := (show ∀ k, k < 4 → ox_sl k = 5 by decide) k hk
    rw [e5, if_pos (by omega)]
    rfl
  | f + 1, i, n + 1, h1, h2, h3 => by
    have e5 : ox_sl k = 5 := (show ∀ k, k < 4 → ox_sl k = 5 by decide) k hk
    have hne : ox_sa k i ≠ 0 := (show ∀ k, k < 4 → ∀ i, i < 5 → ox_sa k i ≠ 0 by decide) k hk i (by omega)
    by_cases h : oy_wk w (p + i) = ox_sa k i
    · have hB : B_Rdr_takeWord_7 k (p : Int) ((i : Int), oy_pl σ (p + i)) = some (.inl (((i + 1 : Nat) : Int), oy_pl σ (p + (i + 1)))) := by
        unfold B_Rdr_takeWord_7
        dsimp only
        rw [e5, if_neg (by omega), if_pos (by omega), Int.toNat_natCast, oc_tk1 hR (b := p + (i + 1)) hne h (by omega), Option.bind_some, if_neg oy_10, oy_w1 (by omega)]
      rw [oy_lp_l hB]
      exact oc_wloop hR hk f (i + 1) n (by omega) (by omega) (fun j hj => by
        by_cases hj2 : j = i
        · rw [hj2]; exact h
        · exact h3 j (by omega))
    · have hs : ¬ sp_isw w p k := by
        intro q
        apply h
        have e := sp_wd_sa k hk i (by omega)
        rw [e]
        have hi : i = 0 ∨ i = 1 ∨ i = 2 ∨ i = 3 ∨ i = 4 := by omega
        rcases hi with rfl | rfl | rfl | rfl | rfl
        · exact q.1
        · exact q.2.1
        · exact q.2.2.1
        · exact q.2.2.2.1
        · exact q.2.2.2.2
      rw [if_neg hs, if_neg hs]
      refine oy_lp_m ?_
      unfold B_Rdr_takeWord_7 J_Rdr_takeWord_27
      dsimp only
      rw [e5, if_neg (by omega), if_pos (by omega), Int.toNat_natCast, oc_tk0 hR h, Option.bind_some, if_pos rfl]
      dsimp only
      rw [oy_pl_up]
theorem oc_word (hR : oy_R w σ) {p k : Nat} (hk : k < 4) : F_Rdr_takeWord k (oy_pl σ p) = some (if sp_isw w p k then 1 else 0, oy_pl σ (if sp_isw w p k then p + 5 else p)) := by
  unfold F_Rdr_takeWord J_Rdr_takeWord_7
  rw [oy_pl_get]
  exact oc_wloop hR hk 5 0 ox_fu (by omega) (by show 5 < 100000; omega) (fun j hj => by omega)
/-- the state word at a place, and where it ends -/
theorem oc_sstep (hR : oy_R w σ) {p k : Nat} (hk : k < 4) : B_Rdr_takeState_2 ((k : Int), oy_pl σ p) = if sp_isw w p k then some (.inr ((k : Int), oy_pl σ (p + 5))) else some (.inl (((k + 1 : Nat) : Int), oy_pl σ p)) := by
  have hw : F_Out_stateWord (k : Int) (oy_pl σ p) = some k := by
    have hk4 : k = 0 ∨ k = 1 ∨ k = 2 ∨ k = 3 := by omega
    unfold F_Out_stateWord
    rcases hk4 with rfl | rfl | rfl | rfl
    · rw [if_pos rfl]
    · rw [if_neg (by decide), if_pos rfl]
    · rw [if_neg (by decide), if_neg (by decide), if_pos rfl]
    · rw [if_neg (by decide), if_neg (by decide), if_neg (by decide), if_pos rfl]
  unfold B_Rdr_takeState_2 J_Rdr_takeState_18
  dsimp only
  rw [if_neg (by omega), hw, Option.bind_some, oc_word hR hk, Option.bind_some, oy_w1 (by omega)]
  by_cases h : sp_isw w p k
  · rw [if_pos h, if_neg oy_10, if_pos h, if_pos h]
    rfl
  · rw [if_neg h, if_pos rfl, if_neg h, if_neg h]
theorem oc_state (hR : oy_R w σ) {p : Nat} : F_Rdr_takeState (oy_pl σ p) = some (sp_state w p, oy_pl σ (p + (if sp_state w p < 0 then 0 else 5))) := by
  unfold F_Rdr_takeState J_Rdr_takeState_2
  have hf : ox_fu = 99995 + 1 + 1 + 1 + 1 + 1 := rfl
  rw [hf]
  have s0 := oc_sstep hR (p := p) (show 0 < 4 by decide)
  have s1 := oc_sstep hR (p := p) (show 1 < 4 by decide)
  have s2 := oc_sstep hR (p := p) (show 2 < 4 by decide)
  have s3 := oc_sstep hR (p := p) (show 3 < 4 by decide)
  have one := sp_isw_one w p
  have s0' : B_Rdr_takeState_2 (0, oy_pl σ p) = if sp_isw w p 0 then some (.inr (((0 : Nat) : Int), oy_pl σ (p + 5))) else some (.inl (((0 + 1 : Nat) : Int), oy_pl σ p)) := s0
  unfold sp_state
  by_cases h0 : sp_isw w p 0
  · rw [if_pos h0] at s0'
    rw [oy_lp_r s0', if_neg (fun q => absurd (one 0 (by decide) 3 (by decide) h0 q) (by decide)), if_neg (fun q => absurd (one 0 (by decide) 2 (by decide) h0 q) (by decide)), if_neg (fun q => absurd (one 0 (by decide) 1 (by decide) h0 q) (by decide)), if_pos h0]
    rfl
  rw [if_neg h0] at s0'
  rw [oy_lp_l s0']
  by_cases h1 : sp_isw w p 1
  · rw [if_pos h1] at s1
    rw [oy_lp_r s1, if_neg (fun q => absurd (one 1 (by decide) 3 (by decide) h1 q) (by decide)), if_neg (fun q => absurd (one 1 (by decide) 2 (by decide) h1 q) (by decide)), if_pos h1]
    rfl
  rw [if_neg h1] at s1
  rw [oy_lp_l s1]
  by_cases h2 : sp_isw w p 2
  · rw [if_pos h2] at s2
    rw [oy_lp_r s2, if_neg (fun q => absurd (one 2 (by decide) 3 (by decide) h2 q) (by decide)), if_pos h2]
    rfl
  rw [if_neg h2] at s2
  rw [oy_lp_l s2]
  by_cases h3 : sp_isw w p 3
  · rw [if_pos h3] at s3
    rw [oy_lp_r s3, if_pos h3]
    rfl
  rw [if_neg h3] at s3
  rw [oy_lp_l s3, if_neg h3, if_neg h2, if_neg h1, if_neg h0]
  refine oy_lp_m ?_
  unfold B_Rdr_takeState_2
  dsimp only
  rw [if_pos (by decide)]
  rfl
/-- pairs of a letter and ':' -/
theorem oc_tgl (hR : oy_R w σ) : ∀ (f k i n : Nat) (s : Int), 1 ≤ f ∧ 26 < 2 * f + k → k ≤ w.length → 2 * i ≤ k → f < n → ox_lp B_Rdr_takeTagLetters_15 n (s, (i : Int), oy_pl σ k) = some ((sp_tg w f k s).getD 0, oy_pl σ (if (sp_tg w f k s).isSome then w.length else 0)) ∨ (sp_tg w f k s = none ∧ ∃ a, ox_lp B_Rdr_takeTagLetters_15 n (s, (i : Int), oy_pl σ k) = some (0, oy_pl σ a))
  | _, _, _, 0, _, _, _, _, h => absurd h (Nat.not_lt_zero _)
  | 0, _, _, _ + 1, _, h, _, _, _ => absurd h.1 (by omega)
  | f + 1, k, i, n + 1, s, h1, h2, h3, h4 => by
    have h24 := hR.1
    have hle := oy_R_le hR k
    by_cases hk : k = w.length
    · have e : sp_tg w (f + 1) k s = some s := by rw [sp_tg, if_pos (by omega)]
      rw [e]
      refine Or.inl (oy_lp_m ?_)
      unfold B_Rdr_takeTagLetters_15 J_Rdr_takeTagLetters_67
      dsimp only
      rw [if_neg (by omega), oy_pl_get, oy_pl_ne (by decide), hR.2.2.1, if_pos (by omega), hk]
      rfl
    have hB : B_Rdr_takeTagLetters_15 (s, (i : Int), oy_pl σ k) = (F_Rdr_takeLetter 122 (oy_pl σ k)).bind fun r1 => (if r1.1 = (-1) then ((J_Rdr_takeTagLetters_53 r1.2).map .inr) else ((F_Rdr_take 58 r1.2).bind fun r2 => (if r2.1 = 0 then ((J_Rdr_takeTagLetters_53 r2.2).map .inr) else (some (.inl (ox_or s (ox_shl 1 r1.1), ox_w ((i : Int) + 1), r2.2)))))) := by
      unfold B_Rdr_takeTagLetters_15
      dsimp only
      rw [if_neg (by omega), oy_pl_get, oy_pl_ne (by decide), hR.2.2.1, if_neg (by omega)]
    by_cases hlt : sp_lt (oy_wk w k)
    · rw [oc_le1 hR (b := k + 1) hlt rfl, Option.bind_some, if_neg (by have := hlt.1; omega)] at hB
      dsimp only at hB
      by_cases h58 : oy_wk w (k + 1) = 58
      · rw [oc_tk1 hR (b := k + 2) (by decide) h58 rfl, Option.bind_some, if_neg oy_10, oy_w1 (by omega)] at hB
        have hlen := oy_wk_lt (w := w) (p := k + 1) (by rw [h58]; decide)
        have e : sp_tg w (f + 1) k s = sp_tg w f (k + 2) (ox_or s (ox_shl 1 (oy_wk w k - 97))) := by rw [sp_tg, if_neg (by omega), if_pos ⟨hlt, h58⟩]
        rw [e, oy_lp_l hB]
        exact oc_tgl hR f (k + 2) (i + 1) n _ (by omega) (by omega) (by omega) (by omega)
      · rw [oc_tk0 hR h58, Option.bind_some, if_pos rfl] at hB
        have e : sp_tg w (f + 1) k s = none := by rw [sp_tg, if_neg (by omega), if_neg (fun q => h58 q.2)]
        exact Or.inr ⟨e, k + 1, oy_lp_m hB⟩
    · rw [oc_le0 hR (by intro q; exact hlt q), Option.bind_some, if_pos rfl] at hB
      have e : sp_tg w (f + 1) k s = none := by rw [sp_tg, if_neg (by omega), if_neg (fun q => hlt q.1)]
      exact Or.inr ⟨e, k, oy_lp_m hB⟩
/-- tags from a place on -/
theorem oc_tagl (hR : oy_R w σ) {p : Nat} (hp : p ≤ w.length) : ∃ a, F_Rdr_takeTagLetters (oy_pl σ p) = some (sp_tf w p, oy_pl σ a) ∧ (sp_tf w p ≠ 0 → a = w.length) := by
  have h24 := hR.1
  unfold F_Rdr_takeTagLetters sp_tf
  by_cases h : oy_wk w p = 58
  · have hlen := oy_wk_lt (w := w) (p := p) (by rw [h]; decide)
    rw [if_pos h, oc_tk1 hR (b := p + 1) (by decide) h rfl, Option.bind_some, if_neg oy_10]
    unfold J_Rdr_takeTagLetters_15
    rcases oc_tgl hR 30 (p + 1) 0 ox_fu 0 (by omega) (by omega) (by omega) (by show 30 < 100000; omega) with e | ⟨e1, a, e2⟩
    · refine ⟨_, e, fun hne => ?_⟩
      cases ht : sp_tg w 30 (p + 1) 0 with
      | none => rw [ht] at hne; exact absurd rfl hne
      | some s => rfl
    · rw [e1]
      exact ⟨a, e2, fun hne => absurd rfl hne⟩
  · rw [if_neg h, oc_tk0 hR h, Option.bind_some, if_pos rfl]
    exact ⟨p, rfl, fun hne => absurd rfl hne⟩
end OYC2
