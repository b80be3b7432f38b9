/-! ===== trees: entries, levels, parents ===== -/
def sp_esn (T : oy_T) : Nat → List Nat
  | 0 => []
  | l + 1 => if sp_isH (oy_ln T l) then sp_esn T l ++ [l] else sp_esn T l
def sp_es (T : oy_T) : List Nat := sp_esn T T.length
def sp_n (T : oy_T) : Nat := (sp_es T).length
/-- an entry's line; behind the last the text's end -/
def sp_en (T : oy_T) (e : Nat) : Nat := (sp_es T).getD e T.length
def sp_eln (T : oy_T) (e : Nat) : List Int := oy_ln T (sp_en T e)
def sp_lv (T : oy_T) (e : Nat) : Nat := sp_stars (sp_eln T e)
def sp_es_st (T : oy_T) (e : Nat) : Int := sp_state (sp_eln T e) (sp_lv T e + 1)
def sp_dn (p : Nat → Bool) : Nat → Option Nat
  | 0 => none
  | k + 1 => if p k = true then some k else sp_dn p k
def sp_fi (p : Nat → Bool) : Nat → Nat → Nat
  | 0, s => s
  | f + 1, s => if p s = true then s else sp_fi p f (s + 1)
def sp_pa (T : oy_T) (e : Nat) : Option Nat := sp_dn (fun k => decide (sp_lv T k < sp_lv T e)) e
/-- the first entry that is not under this one -/
def sp_la (T : oy_T) (e : Nat) : Nat := sp_fi (fun k => decide (sp_lv T k ≤ sp_lv T e)) (sp_n T - (e + 1)) (e + 1)
theorem sp_fi_in (p : Nat → Bool) : ∀ f s, s ≤ sp_fi p f s ∧ sp_fi p f s ≤ s + f
  | 0, s => ⟨Nat.le_refl _, Nat.le_refl _⟩
  | f + 1, s => by
    rw [sp_fi]
    split
    · omega
    · have := sp_fi_in p f (s + 1)
      omega
theorem sp_dn_in (p : Nat → Bool) : ∀ k b, sp_dn p k = some b → b < k ∧ p b = true
  | 0, _, h => by cases h
  | k + 1, b, h => by
    rw [sp_dn] at h
    by_cases q : p k = true
    · rw [if_pos q] at h
      cases h
      exact ⟨by omega, q⟩
    · rw [if_neg q] at h
      have := sp_dn_in p k b h
      exact ⟨by omega, this.2⟩
/-- a search up -/
theorem oy_lfM {β : Type} (g : Int × ox_H → Option ((Int × ox_H) ⊕ β)) (I : ox_H → Prop) (p : Nat → Bool) (Q : Nat → β → Prop) (lo hi : Nat)
    (hs : ∀ k σ, I σ → lo ≤ k → k < hi → p k = false → ∃ σ', g ((k : Int), σ) = some (.inl (((k + 1 : Nat) : Int), σ')) ∧ I σ')
    (ht : ∀ k σ, I σ → lo ≤ k → k < hi → p k = true → ∃ b, g ((k : Int), σ) = some (.inr b) ∧ Q k b)
    (he : ∀ σ, I σ → ∃ b, g ((hi : Int), σ) = some (.inr b) ∧ Q hi b) : ∀ f n k σ, k + f = hi → lo ≤ k → f < n → I σ → ∃ b, ox_lp g n ((k : Int), σ) = some b ∧ Q (sp_fi p f k) b
  | _, 0, _, _, _, _, h, _ => absurd h (Nat.not_lt_zero _)
  | 0, n + 1, k, σ, h1, h2, h3, h4 => by
    obtain rfl : k = hi := by omega
    obtain ⟨b, hb, q⟩ := he σ h4
    exact ⟨b, oy_lp_r hb, q⟩
  | f + 1, n + 1, k, σ, h1, h2, h3, h4 => by
    rw [sp_fi]
    cases hp : p k with
    | true =>
      obtain ⟨b, hb, q⟩ := ht k σ h4 h2 (by omega) hp
      rw [if_pos rfl]
      exact ⟨b, oy_lp_r hb, q⟩
    | false =>
      obtain ⟨σ', hb, q⟩ := hs k σ h4 h2 (by omega) hp
      rw [if_neg (by decide), oy_lp_l hb]
      exact oy_lfM g I p Q lo hi hs ht he f n (k + 1) σ' (by omega) (by omega) (by omega) q
/-- a search down -/
theorem oy_ldM {β : Type} (g : Int × ox_H → Option ((Int × ox_H) ⊕ β)) (I : ox_H → Prop) (p : Nat → Bool) (Q : Option Nat → β → Prop) (hi : Nat)
    (hs : ∀ k σ, I σ → k < hi → p k = false → ∃ σ', g ((k : Int), σ) = some (.inl ((k : Int) - 1, σ')) ∧ I σ')
    (ht : ∀ k σ, I σ → k < hi → p k = true → ∃ b, g ((k : Int), σ) = some (.inr b) ∧ Q (some k) b)
    (he : ∀ σ, I σ → ∃ b, g (-1, σ) = some (.inr b) ∧ Q none b) : ∀ k n σ, k ≤ hi → k < n → I σ → ∃ b, ox_lp g n ((k : Int) - 1, σ) = some b ∧ Q (sp_dn p k) b
  | _, 0, _, _, h, _ => absurd h (Nat.not_lt_zero _)
  | 0, n + 1, σ, h1, h3, h4 => by
    obtain ⟨b, hb, q⟩ := he σ h4
    exact ⟨b, oy_lp_r hb, q⟩
  | k + 1, n + 1, σ, h1, h3, h4 => by
    have e : ((k + 1 : Nat) : Int) - 1 = (k : Int) := by omega
    rw [sp_dn, e]
    cases hp : p k with
    | true =>
      obtain ⟨b, hb, q⟩ := ht k σ h4 (by omega) hp
      rw [if_pos rfl]
      exact ⟨b, oy_lp_r hb, q⟩
    | false =>
      obtain ⟨σ', hb, q⟩ := hs k σ h4 (by omega) hp
      rw [if_neg (by decide), oy_lp_l hb]
      exact oy_ldM g I p Q hi hs ht he k n σ' (by omega) (by omega) q
theorem sp_esn_len (T : oy_T) : ∀ l, (sp_esn T l).length ≤ l
  | 0 => Nat.le_refl _
  | l + 1 => by
    have := sp_esn_len T l
    rw [sp_esn]
    split
    · rw [List.length_append]
      show _ + 1 ≤ _
      omega
    · omega
theorem sp_esn_in (T : oy_T) : ∀ l x, x ∈ sp_esn T l → x < l ∧ sp_isH (oy_ln T x)
  | 0, _, h => by cases h
  | l + 1, x, h => by
    rw [sp_esn] at h
    by_cases q : sp_isH (oy_ln T l)
    · rw [if_pos q, List.mem_append] at h
      rcases h with h | h
      · have := sp_esn_in T l x h
        exact ⟨by omega, this.2⟩
      · have : x = l := by simpa using h
        subst this
        exact ⟨by omega, q⟩
    · rw [if_neg q] at h
      have := sp_esn_in T l x h
      exact ⟨by omega, this.2⟩
theorem oy_getD_lt {α : Type} {xs : List α} {e : Nat} {d : α} (h : e < xs.length) : xs.getD e d ∈ xs := by
  rw [List.getD_eq_getElem?_getD, List.getElem?_eq_getElem h]
  exact List.getElem_mem h
theorem sp_en_lt {T : oy_T} {e : Nat} (h : e < sp_n T) : sp_en T e < T.length ∧ sp_isH (sp_eln T e) := sp_esn_in T _ _ (oy_getD_lt h)
theorem sp_en_ge {T : oy_T} {e : Nat} (h : sp_n T ≤ e) : sp_en T e = T.length := by
  unfold sp_en
  rw [List.getD_eq_getElem?_getD, List.getElem?_eq_none h]
  rfl
theorem sp_en_le {T : oy_T} (e : Nat) : sp_en T e ≤ T.length := by
  by_cases h : e < sp_n T
  · have := (sp_en_lt h).1
    omega
  · rw [sp_en_ge (by omega)]
    exact Nat.le_refl _
theorem sp_n_le {T : oy_T} : sp_n T ≤ T.length := sp_esn_len T _
theorem oy_getD_snoc {xs : List Nat} {x d e : Nat} : (xs ++ [x]).getD e d = if e < xs.length then xs.getD e d else if e = xs.length then x else d := by
  by_cases h : e < xs.length
  · rw [if_pos h, List.getD_eq_getElem?_getD, List.getElem?_append_left h, ← List.getD_eq_getElem?_getD]
  · rw [if_neg h, List.getD_eq_getElem?_getD, List.getElem?_append_right (by omega)]
    by_cases h2 : e = xs.length
    · rw [if_pos h2, h2, Nat.sub_self]
      rfl
    · rw [if_neg h2, List.getElem?_eq_none (by show 1 ≤ _; omega)]
      rfl
/-- the lines of entries rise -/
theorem sp_esn_mono (T : oy_T) : ∀ l e, e + 1 < (sp_esn T l).length → (sp_esn T l).getD e T.length < (sp_esn T l).getD (e + 1) T.length
  | 0, e, h => absurd h (Nat.not_lt_zero _)
  | l + 1, e, h => by
    rw [sp_esn] at h ⊢
    by_cases q : sp_isH (oy_ln T l)
    · rw [if_pos q] at h ⊢
      rw [List.length_append] at h
      have h' : e + 1 < (sp_esn T l).length + 1 := h
      rw [oy_getD_snoc, oy_getD_snoc, if_pos (by omega)]
      by_cases h2 : e + 1 < (sp_esn T l).length
      · rw [if_pos h2]
        exact sp_esn_mono T l e h2
      · rw [if_neg h2, if_pos (by omega)]
        exact (sp_esn_in T l _ (oy_getD_lt (by omega))).1
    · rw [if_neg q] at h ⊢
      exact sp_esn_mono T l e h
theorem sp_en_mono {T : oy_T} {e : Nat} (h : e < sp_n T) : sp_en T e < sp_en T (e + 1) := by
  by_cases h2 : e + 1 < sp_n T
  · exact sp_esn_mono T _ e h2
  · rw [sp_en_ge (e := e + 1) (by omega)]
    exact (sp_en_lt h).1
/-! the reference's rows of entries -/
def oy_F (T : oy_T) (σ : ox_H) : Prop := oy_M T σ ∧ σ 10 0 22 0 = sp_n T ∧ ∀ e, e ≤ sp_n T → σ 10 0 21 e = sp_en T e
def oy_sq (c j : Nat) : Bool := c == 10 && (decide (11 ≤ j) && decide (j ≤ 22))
theorem oy_sp_sq {c j : Nat} (h : oy_sp c j = true) : oy_sq c j = true := by
  unfold oy_sp at h
  unfold oy_sq
  rw [Bool.and_eq_true, Bool.and_eq_true, decide_eq_true_eq, decide_eq_true_eq] at h ⊢
  exact ⟨h.1, h.2.1, by omega⟩
theorem oy_F.fr {T : oy_T} {S : Nat → Nat → Bool} {σ σ' : ox_H} (h : oy_F T σ) (hf : oy_fr S σ σ') (h0 : S 10 0 = false) (h1 : S 10 1 = false) (h2 : S 10 2 = false) (h3 : S 10 21 = false) (h4 : S 10 22 = false) : oy_F T σ' :=
  ⟨h.1.fr hf h0 h1 h2, (hf 10 0 22 0 h4).trans h.2.1, fun e he => (hf 10 0 21 e h3).trans (h.2.2 e he)⟩
theorem oy_F.sp {T : oy_T} {σ σ' : ox_H} (h : oy_F T σ) (hf : oy_fr oy_sp σ σ') : oy_F T σ' := h.fr hf rfl rfl rfl rfl rfl
section OYD1
variable {T : oy_T} {σ : ox_H}
theorem om_findl (hT : oy_ok T) : ∀ (f l n : Nat) (σ : ox_H), l + f = T.length → f < n → oy_M T σ → σ 10 0 22 0 = ((sp_esn T l).length : Nat) → (∀ e, e < (sp_esn T l).length → σ 10 0 21 e = ((sp_esn T l).getD e T.length : Nat)) → ∃ σ', ox_lp B_Mod_find_7 n ((l : Int), σ) = some σ' ∧ oy_fr oy_sq σ σ' ∧ oy_F T σ'
  | _, _, 0, _, _, h, _, _, _ => absurd h (Nat.not_lt_zero _)
  | 0, l, n + 1, σ, h1, h2, hM, h3, h4 => by
    obtain rfl : l = T.length := by omega
    have h60 := hT.1
    have hlen := sp_esn_len T T.length
    have hfr : oy_fr oy_sq σ (ox_up σ 10 0 21 (sp_esn T T.length).length ((T.length : Nat) : Int)) := oy_fr.rf.up rfl
    refine ⟨_, oy_lp_m ?_, hfr, hM.fr hfr rfl rfl rfl, ?_, fun e he => ?_⟩
    · unfold B_Mod_find_7 J_Mod_find_49
      dsimp only
      rw [hM.1, if_pos (by omega), h3, if_pos (by omega), Int.toNat_natCast]
    · rw [oy_up_ne (by decide)]
      exact h3
    · by_cases q : e = (sp_esn T T.length).length
      · rw [q, oy_up_same]
        exact congrArg Nat.cast (sp_en_ge (T := T) (e := (sp_esn T T.length).length) (Nat.le_refl _)).symm
      · rw [oy_up_ni q]
        exact h4 e (by
          have : e ≤ (sp_esn T T.length).length := he
          omega)
  | f + 1, l, n + 1, σ, h1, h2, hM, h3, h4 => by
    have h60 := hT.1
    have hl : l < T.length := by omega
    have hlen := sp_esn_len T l
    obtain ⟨σ1, e1, f1, -⟩ := om_heading hT hM hl
    have M1 := hM.fr f1 rfl rfl rfl
    have g22 : σ1 10 0 22 0 = ((sp_esn T l).length : Nat) := (f1 10 0 22 0 rfl).trans h3
    by_cases q : sp_isH (oy_ln T l)
    · have es : sp_esn T (l + 1) = sp_esn T l ++ [l] := by rw [sp_esn, if_pos q]
      have hB : B_Mod_find_7 ((l : Int), σ) = some (.inl (((l + 1 : Nat) : Int), ox_up (ox_up σ1 10 0 21 (sp_esn T l).length (l : Int)) 10 0 22 0 (((sp_esn T l).length + 1 : Nat) : Int))) := by
        unfold B_Mod_find_7 J_Mod_find_43
        dsimp only
        rw [hM.1, if_neg (by omega), e1, if_pos q, Option.bind_some, if_neg oy_10]
        dsimp only
        rw [if_pos (show 0 ≤ σ1 10 0 22 0 ∧ (σ1 10 0 22 0).toNat < 61 by rw [g22]; omega), g22, Int.toNat_natCast, oy_w1 (by omega), oy_w1 (by omega)]
      have f2 : oy_fr oy_sq σ (ox_up (ox_up σ1 10 0 21 (sp_esn T l).length (l : Int)) 10 0 22 0 (((sp_esn T l).length + 1 : Nat) : Int)) := ((f1.mono (fun c j h => oy_sp_sq h)).up rfl).up rfl
      have hle : (sp_esn T (l + 1)).length = (sp_esn T l).length + 1 := by rw [es, List.length_append]; rfl
      obtain ⟨σ', e', f', g'⟩ := om_findl hT f (l + 1) n _ (by omega) (by omega) (hM.fr f2 rfl rfl rfl) (oy_up_same.trans (by rw [hle])) (fun e he => by
        rw [hle] at he
        rw [oy_up_ne (by decide), es, oy_getD_snoc]
        by_cases z : e < (sp_esn T l).length
        · rw [if_pos z, oy_up_ni (by omega), f1 10 0 21 e rfl]
          exact h4 e z
        · have z2 : e = (sp_esn T l).length := by omega
          rw [if_neg z, if_pos z2, z2]
          exact oy_up_same)
      exact ⟨σ', (oy_lp_l hB).trans e', f2.tr f', g'⟩
    · have es : sp_esn T (l + 1) = sp_esn T l := by rw [sp_esn, if_neg q]
      have hB : B_Mod_find_7 ((l : Int), σ) = some (.inl (((l + 1 : Nat) : Int), σ1)) := by
        unfold B_Mod_find_7 J_Mod_find_43
        dsimp only
        rw [hM.1, if_neg (by omega), e1, if_neg q, Option.bind_some, if_pos rfl, oy_w1 (by omega)]
      have f2 : oy_fr oy_sq σ σ1 := f1.mono (fun c j h => oy_sp_sq h)
      obtain ⟨σ', e', f', g'⟩ := om_findl hT f (l + 1) n σ1 (by omega) (by omega) M1 (by rw [es]; exact g22) (fun e he => by
        rw [es] at he ⊢
        exact (f1 10 0 21 e rfl).trans (h4 e he))
      exact ⟨σ', (oy_lp_l hB).trans e', f2.tr f', g'⟩
theorem om_find (hT : oy_ok T) (hM : oy_M T σ) : ∃ σ', F_Mod_find σ = some σ' ∧ oy_fr oy_sq σ σ' ∧ oy_F T σ' := by
  have h60 := hT.1
  have f0 : oy_fr oy_sq σ (ox_up σ 10 0 22 0 0) := oy_fr.rf.up rfl
  obtain ⟨σ', e, f, g⟩ := om_findl hT T.length 0 ox_fu _ (by omega) (by show _ < 100000; omega) (hM.fr f0 rfl rfl rfl) oy_up_same (fun e h => absurd h (Nat.not_lt_zero _))
  exact ⟨σ', e, f0.tr f, g⟩
theorem om_isEntry (hT : oy_ok T) (hM : oy_M T σ) {a : Int} : ∃ σ', F_Mod_isEntry a σ = some (if 0 ≤ a ∧ a < sp_n T then 1 else 0, σ') ∧ oy_fr oy_sq σ σ' ∧ oy_F T σ' := by
  have h60 := hT.1
  have hn := sp_n_le (T := T)
  obtain ⟨σ', e, f, g⟩ := om_find hT hM
  refine ⟨σ', ?_, f, g⟩
  unfold F_Mod_isEntry
  rw [e, Option.bind_some, g.2.1, om_in, Option.bind_some, oy_w (by omega) (by omega)]
  by_cases q : 0 ≤ a ∧ a < sp_n T
  · rw [if_pos q, if_pos (by omega)]; rfl
  · rw [if_neg q, if_neg (by omega)]; rfl
theorem om_ehead (hT : oy_ok T) (hF : oy_F T σ) {e : Nat} (he : e < sp_n T) : ∃ σ', F_Mod_heading (σ 10 0 21 e) σ = some (1, σ') ∧ oy_fr oy_sp σ σ' ∧ σ' 10 0 12 0 = sp_lv T e ∧ σ' 10 0 13 0 = sp_es_st T e ∧ σ' 10 0 14 0 = sp_fr (sp_eln T e) ∧ σ' 10 0 15 0 = sp_to (sp_eln T e) ∧ σ' 10 0 16 0 = sp_tags (sp_eln T e) := by
  obtain ⟨h1, h2⟩ := sp_en_lt he
  obtain ⟨σ', e', f, g⟩ := om_heading hT hF.1 h1
  rw [hF.2.2 e (by omega)]
  rw [if_pos (show sp_isH (oy_ln T (sp_en T e)) from h2)] at e'
  exact ⟨σ', e', f, g h2⟩
theorem om_level (hT : oy_ok T) (hF : oy_F T σ) {e : Nat} (he : e < sp_n T) : ∃ σ', F_Mod_level (e : Int) σ = some ((sp_lv T e : Int), σ') ∧ oy_fr oy_sp σ σ' := by
  have h60 := hT.1
  have hn := sp_n_le (T := T)
  obtain ⟨σ', e', f, g, -⟩ := om_ehead hT hF he
  refine ⟨σ', ?_, f⟩
  unfold F_Mod_level
  rw [if_pos (by omega), Int.toNat_natCast, e', Option.bind_some]
  dsimp only
  rw [g]
theorem om_stateOf (hT : oy_ok T) (hF : oy_F T σ) {e : Nat} (he : e < sp_n T) : ∃ σ', F_Mod_stateOf (e : Int) σ = some (sp_es_st T e, σ') ∧ oy_fr oy_sp σ σ' := by
  have h60 := hT.1
  have hn := sp_n_le (T := T)
  obtain ⟨σ', e', f, -, g, -⟩ := om_ehead hT hF he
  refine ⟨σ', ?_, f⟩
  unfold F_Mod_stateOf
  rw [if_pos (by omega), Int.toNat_natCast, e', Option.bind_some]
  dsimp only
  rw [g]
theorem om_parent (hT : oy_ok T) (hF : oy_F T σ) {e : Nat} (he : e < sp_n T) : ∃ σ', F_Mod_parent (e : Int) σ = some (oy_en (sp_pa T e), σ') ∧ oy_fr oy_sp σ σ' := by
  have h60 := hT.1
  have hn := sp_n_le (T := T)
  obtain ⟨σ1, e1, f1⟩ := om_level hT hF he
  unfold F_Mod_parent J_Mod_parent_10
  rw [e1, Option.bind_some, oy_w (by omega) (by omega)]
  obtain ⟨b, hb, q1, q2⟩ := oy_ldM (B_Mod_parent_10 (sp_lv T e : Int)) (fun τ => oy_F T τ ∧ oy_fr oy_sp σ τ) (fun k => decide (sp_lv T k < sp_lv T e)) (fun o b => b.1 = oy_en o ∧ oy_fr oy_sp σ b.2) e
    (fun k τ hI hk hp => by
      obtain ⟨τ1, e2, f2⟩ := om_level hT hI.1 (e := k) (by omega)
      have hp' : ¬ sp_lv T k < sp_lv T e := of_decide_eq_false hp
      refine ⟨τ1, ?_, hI.1.sp f2, hI.2.tr f2⟩
      unfold B_Mod_parent_10
      dsimp only
      rw [if_neg (by omega), e2, Option.bind_some, if_neg (by dsimp only; omega), oy_w (by omega) (by omega)]
      rfl)
    (fun k τ hI hk hp => by
      obtain ⟨τ1, e2, f2⟩ := om_level hT hI.1 (e := k) (by omega)
      have hp' : sp_lv T k < sp_lv T e := of_decide_eq_true hp
      refine ⟨((k : Int), τ1), ?_, rfl, hI.2.tr f2⟩
      unfold B_Mod_parent_10 J_Mod_parent_29
      dsimp only
      rw [if_neg (by omega), e2, Option.bind_some, if_pos (by dsimp only; omega)]
      rfl)
    (fun τ hI => by
      refine ⟨(-1, τ), ?_, rfl, hI.2⟩
      unfold B_Mod_parent_10 J_Mod_parent_29
      dsimp only
      rw [if_pos (by decide)]
      rfl) e ox_fu σ1 (Nat.le_refl _) (by show e < 100000; omega) ⟨hF.sp f1, f1⟩
  obtain ⟨b1, b2⟩ := b
  refine ⟨b2, ?_, q2⟩
  have q1' : b1 = oy_en (sp_pa T e) := q1
  rw [← q1']
  exact hb
theorem om_last (hT : oy_ok T) (hF : oy_F T σ) {e : Nat} (he : e < sp_n T) : ∃ σ', F_Mod_last (e : Int) σ = some ((sp_la T e : Int), σ') ∧ oy_fr oy_sp σ σ' := by
  have h60 := hT.1
  have hn := sp_n_le (T := T)
  obtain ⟨σ1, e1, f1⟩ := om_level hT hF he
  unfold F_Mod_last J_Mod_last_10
  rw [e1, Option.bind_some, oy_w1 (by omega)]
  obtain ⟨b, hb, q1, q2⟩ := oy_lfM (B_Mod_last_10 (sp_lv T e : Int)) (fun τ => oy_F T τ ∧ oy_fr oy_sp σ τ) (fun k => decide (sp_lv T k ≤ sp_lv T e)) (fun o b => b.1 = (o : Int) ∧ oy_fr oy_sp σ b.2) (e + 1) (sp_n T)
    (fun k τ hI hk0 hk hp => by
      obtain ⟨τ1, e2, f2⟩ := om_level hT hI.1 (e := k) (by omega)
      have hp' : ¬ sp_lv T k ≤ sp_lv T e := of_decide_eq_false hp
      refine ⟨τ1, ?_, hI.1.sp f2, hI.2.tr f2⟩
      unfold B_Mod_last_10
      dsimp only
      rw [hI.1.2.1, if_neg (by omega), e2, Option.bind_some, if_neg (by dsimp only; omega), oy_w1 (by omega)])
    (fun k τ hI hk0 hk hp => by
      obtain ⟨τ1, e2, f2⟩ := om_level hT hI.1 (e := k) (by omega)
      have hp' : sp_lv T k ≤ sp_lv T e := of_decide_eq_true hp
      refine ⟨((k : Int), τ1), ?_, rfl, hI.2.tr f2⟩
      unfold B_Mod_last_10 J_Mod_last_33
      dsimp only
      rw [hI.1.2.1, if_neg (by omega), e2, Option.bind_some, if_pos (by dsimp only; omega)]
      rfl)
    (fun τ hI => by
      refine ⟨((sp_n T : Int), τ), ?_, rfl, hI.2⟩
      unfold B_Mod_last_10 J_Mod_last_33
      dsimp only
      rw [hI.1.2.1, if_pos (Int.le_refl _)]
      rfl) (sp_n T - (e + 1)) ox_fu (e + 1) σ1 (by omega) (Nat.le_refl _) (by show _ < 100000; omega) ⟨hF.sp f1, f1⟩
  obtain ⟨b1, b2⟩ := b
  refine ⟨b2, ?_, q2⟩
  have q1' : b1 = (sp_la T e : Int) := q1
  rw [← q1']
  exact hb
theorem sp_la_in {T : oy_T} {e : Nat} (he : e < sp_n T) : e < sp_la T e ∧ sp_la T e ≤ sp_n T := by
  have := sp_fi_in (fun k => decide (sp_lv T k ≤ sp_lv T e)) (sp_n T - (e + 1)) (e + 1)
  unfold sp_la
  omega
theorem om_end (hT : oy_ok T) (hF : oy_F T σ) {e : Nat} (he : e < sp_n T) : ∃ σ', F_Mod_end (e : Int) σ = some ((sp_en T (sp_la T e) : Int), σ') ∧ oy_fr oy_sp σ σ' := by
  have h60 := hT.1
  have hn := sp_n_le (T := T)
  have hla := sp_la_in he
  obtain ⟨σ1, e1, f1⟩ := om_last hT hF he
  refine ⟨σ1, ?_, f1⟩
  unfold F_Mod_end
  rw [e1, Option.bind_some]
  dsimp only
  rw [if_pos (by omega), Int.toNat_natCast, (hF.sp f1).2.2 _ hla.2]
end OYD1
