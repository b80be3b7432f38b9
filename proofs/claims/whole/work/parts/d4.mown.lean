/-! ===== the reference: tags, own lines, titles ===== -/
theorem oy_or_as (x y z : Int) : ox_or (ox_or x y) z = ox_or x (ox_or y z) := by
  unfold ox_or
  rw [Int32.ofInt_toInt, Int32.ofInt_toInt, Int32.or_assoc]
def oy_nm (x : Int) : Prop := ∃ y : Int32, x = y.toInt
theorem oy_nm_or (x y : Int) : oy_nm (ox_or x y) := ⟨_, rfl⟩
theorem oy_nm0 : oy_nm 0 := ⟨0, rfl⟩
theorem oy_or_0 {x : Int} (h : oy_nm x) : ox_or x 0 = x := by
  obtain ⟨y, rfl⟩ := h
  unfold ox_or
  rw [Int32.ofInt_toInt]
  have e : Int32.ofInt 0 = 0 := rfl
  rw [e, Int32.or_zero]
theorem oy_0_or {x : Int} (h : oy_nm x) : ox_or 0 x = x := by
  obtain ⟨y, rfl⟩ := h
  unfold ox_or
  rw [Int32.ofInt_toInt]
  have e : Int32.ofInt 0 = 0 := rfl
  rw [e, Int32.zero_or]
theorem sp_tgs_nm (T : oy_T) (e : Nat) : oy_nm (sp_tgs T e) := by
  rw [sp_tgs_eq]
  exact oy_nm_or _ _
/-- the first date of an entry's own part -/
def sp_dl (T : oy_T) (e : Nat) : Nat := sp_fi (fun l => (sp_date (oy_ln T l)).isSome) (sp_en T (e + 1) - (sp_en T e + 1)) (sp_en T e + 1)
/-- the first property of its own part, of a letter's sign -/
def sp_ol (T : oy_T) (e : Nat) (c : Int) : Nat := sp_fi (fun l => (sp_prop (oy_ln T l)).isSome && decide (oy_wk (oy_ln T l) 1 = c)) (sp_en T (e + 1) - (sp_en T e + 1)) (sp_en T e + 1)
def sp_own (T : oy_T) (e : Nat) (c : Int) : Int := if sp_ol T e c < sp_en T (e + 1) then (sp_nu (oy_ln T (sp_ol T e c)) 3).2 else -1
def sp_hasf (T : oy_T) (c : Int) : Nat → Nat → Int
  | 0, _ => -1
  | f + 1, e => if 0 ≤ sp_own T e c then sp_own T e c else match sp_pa T e with | none => -1 | some p => sp_hasf T c f p
def sp_has (T : oy_T) (c : Int) (e : Nat) : Int := sp_hasf T c (e + 1) e
theorem sp_hasf_f (T : oy_T) (c : Int) : ∀ f g e, e < f → e < g → sp_hasf T c f e = sp_hasf T c g e
  | 0, _, _, h, _ => absurd h (Nat.not_lt_zero _)
  | _, 0, _, _, h => absurd h (Nat.not_lt_zero _)
  | f + 1, g + 1, e, h1, h2 => by
    rw [sp_hasf, sp_hasf]
    cases hp : sp_pa T e with
    | none => rfl
    | some p =>
      have := (sp_pa_lt hp).1
      dsimp only
      rw [sp_hasf_f T c f g p (by omega) (by omega)]
theorem sp_has_eq (T : oy_T) (c : Int) (e : Nat) : sp_has T c e = if 0 ≤ sp_own T e c then sp_own T e c else match sp_pa T e with | none => -1 | some p => sp_has T c p := by
  unfold sp_has
  rw [sp_hasf]
  cases hp : sp_pa T e with
  | none => rfl
  | some p =>
    have := (sp_pa_lt hp).1
    dsimp only
    rw [sp_hasf_f T c e (p + 1) p (by omega) (by omega)]
theorem sp_own_cs (T : oy_T) (e : Nat) (c : Int) : sp_own T e c = -1 ∨ 0 ≤ sp_own T e c := by
  unfold sp_own
  split
  · have := (sp_nu_in (oy_ln T (sp_ol T e c)) 3).2.2.1
    omega
  · exact Or.inl rfl
/-- a title's first sign -/
def sp_ini (T : oy_T) (e : Nat) : Int := if sp_to (sp_eln T e) ≤ sp_fr (sp_eln T e) then -1 else oy_wk (sp_eln T e) (sp_fr (sp_eln T e))
theorem sp_en_own {T : oy_T} {e : Nat} (he : e < sp_n T) : sp_en T e + 1 ≤ sp_en T (e + 1) ∧ sp_en T (e + 1) ≤ T.length := ⟨sp_en_mono he, sp_en_le _⟩
section OYD4
variable {T : oy_T} {σ : ox_H}
theorem om_tagl (hT : oy_ok T) : ∀ (f : Nat) (o : Option Nat) (v : Int) (n : Nat) (τ : ox_H), (∀ e, o = some e → e < f ∧ e < sp_n T) → f < n → oy_F T τ → oy_nm v → ∃ τ', ox_lp B_Mod_tagsOf_4 n (v, oy_en o, τ) = some (ox_or v (match o with | none => 0 | some e => sp_tgs T e), τ') ∧ oy_fr oy_sp τ τ'
  | _, _, _, 0, _, _, h, _, _ => absurd h (Nat.not_lt_zero _)
  | f, none, v, n + 1, τ, h1, h2, hF, hv => by
    refine ⟨τ, oy_lp_m ?_, oy_fr.rf⟩
    unfold B_Mod_tagsOf_4 J_Mod_tagsOf_35
    dsimp only
    rw [show oy_en none = -1 from rfl, if_pos (by decide), oy_or_0 hv]
  | 0, some e, v, n + 1, τ, h1, h2, hF, hv => absurd (h1 e rfl).1 (Nat.not_lt_zero _)
  | f + 1, some e, v, n + 1, τ, h1, h2, hF, hv => by
    have h60 := hT.1
    have hn := sp_n_le (T := T)
    obtain ⟨q1, q2⟩ := h1 e rfl
    obtain ⟨τ1, e1, f1, -, -, -, -, g1⟩ := om_ehead hT hF q2
    obtain ⟨τ2, e2, f2⟩ := om_parent hT (hF.sp f1) q2
    have hB : B_Mod_tagsOf_4 (v, oy_en (some e), τ) = some (.inl (ox_or v (sp_tags (sp_eln T e)), oy_en (sp_pa T e), τ2)) := by
      unfold B_Mod_tagsOf_4
      dsimp only
      rw [show oy_en (some e) = (e : Int) from rfl, if_neg (by omega), if_pos (by omega), Int.toNat_natCast, e1, Option.bind_some]
      dsimp only
      rw [e2, Option.bind_some, g1]
    obtain ⟨τ', e3, f3⟩ := om_tagl hT f (sp_pa T e) (ox_or v (sp_tags (sp_eln T e))) n τ2 (fun p hp => by have := (sp_pa_lt hp).1; omega) (by omega) ((hF.sp f1).sp f2) (oy_nm_or _ _)
    refine ⟨τ', ?_, (f1.tr f2).tr f3⟩
    rw [oy_lp_l hB, e3, oy_or_as]
    have h := sp_tgs_eq T e
    dsimp only
    cases hp : sp_pa T e with
    | none =>
      rw [hp] at h
      exact congrArg (fun z => some (ox_or v z, τ')) h.symm
    | some p =>
      rw [hp] at h
      exact congrArg (fun z => some (ox_or v z, τ')) h.symm
theorem om_tagsOf (hT : oy_ok T) (hF : oy_F T σ) {e : Nat} (he : e < sp_n T) : ∃ σ', F_Mod_tagsOf (e : Int) σ = some (sp_tgs T e, σ') ∧ oy_fr oy_sp σ σ' := by
  have h60 := hT.1
  have hn := sp_n_le (T := T)
  obtain ⟨τ, e1, f1⟩ := om_tagl hT (e + 1) (some e) 0 ox_fu σ (fun x hx => by cases hx; exact ⟨by omega, he⟩) (by show e + 1 < 100000; omega) hF oy_nm0
  refine ⟨τ, ?_, f1⟩
  have e2 : ox_or 0 (sp_tgs T e) = sp_tgs T e := oy_0_or (sp_tgs_nm T e)
  rw [← e2]
  exact e1
theorem om_dateOf (hT : oy_ok T) (hF : oy_F T σ) {e : Nat} (he : e < sp_n T) : ∃ σ', F_Mod_dateOf (e : Int) σ = some (if sp_dl T e < sp_en T (e + 1) then (sp_dl T e : Int) else -1, σ') ∧ oy_fr oy_sp σ σ' ∧ (sp_dl T e < sp_en T (e + 1) → ∀ v, sp_date (oy_ln T (sp_dl T e)) = some v → σ' 10 0 17 0 = v.1 ∧ σ' 10 0 18 0 = v.2.1 ∧ σ' 10 0 19 0 = v.2.2.1 ∧ σ' 10 0 20 0 = v.2.2.2) := by
  have h60 := hT.1
  have hn := sp_n_le (T := T)
  obtain ⟨ho1, ho2⟩ := sp_en_own he
  have ew : ox_w ((e : Int) + 1) = ((e + 1 : Nat) : Int) := oy_w1 (by omega)
  unfold F_Mod_dateOf J_Mod_dateOf_9
  rw [if_pos (by omega), Int.toNat_natCast, hF.2.2 e (by omega), oy_w1 (by omega)]
  obtain ⟨b, hb, q⟩ := oy_lfM (B_Mod_dateOf_9 (e : Int)) (fun τ => oy_F T τ ∧ oy_fr oy_sp σ τ) (fun l => (sp_date (oy_ln T l)).isSome) (fun l b => b.1 = (if l < sp_en T (e + 1) then (l : Int) else -1) ∧ oy_fr oy_sp σ b.2 ∧ (l < sp_en T (e + 1) → ∀ v, sp_date (oy_ln T l) = some v → b.2 10 0 17 0 = v.1 ∧ b.2 10 0 18 0 = v.2.1 ∧ b.2 10 0 19 0 = v.2.2.1 ∧ b.2 10 0 20 0 = v.2.2.2)) (sp_en T e + 1) (sp_en T (e + 1))
    (fun k τ hI hk0 hk hp => by
      obtain ⟨τ1, e2, f2, -⟩ := om_date hT hI.1.1 (l := k) (by omega)
      have h0 : oy_b (sp_date (oy_ln T k)) = 0 := oy_b0.mpr (fun z => by rw [z] at hp; exact Bool.noConfusion hp)
      refine ⟨τ1, ?_, hI.1.sp f2, hI.2.tr f2⟩
      unfold B_Mod_dateOf_9
      dsimp only
      rw [ew, if_pos (by omega), Int.toNat_natCast, hI.1.2.2 (e + 1) (by omega), if_neg (by omega), e2, Option.bind_some, if_pos h0, oy_w1 (by omega)])
    (fun k τ hI hk0 hk hp => by
      obtain ⟨τ1, e2, f2, g2⟩ := om_date hT hI.1.1 (l := k) (by omega)
      have h0 : ¬ oy_b (sp_date (oy_ln T k)) = 0 := fun z => oy_b0.mp z hp
      refine ⟨((k : Int), τ1), ?_, by rw [if_pos hk], hI.2.tr f2, fun _ => g2⟩
      unfold B_Mod_dateOf_9 J_Mod_dateOf_29
      dsimp only
      rw [ew, if_pos (by omega), Int.toNat_natCast, hI.1.2.2 (e + 1) (by omega), if_neg (by omega), e2, Option.bind_some, if_neg h0]
      rfl)
    (fun τ hI => by
      refine ⟨(-1, τ), ?_, by rw [if_neg (Nat.lt_irrefl _)], hI.2, fun z => absurd z (Nat.lt_irrefl _)⟩
      unfold B_Mod_dateOf_9 J_Mod_dateOf_37
      dsimp only
      rw [ew, if_pos (by omega), Int.toNat_natCast, hI.1.2.2 (e + 1) (by omega), if_pos (Int.le_refl _)]
      rfl) (sp_en T (e + 1) - (sp_en T e + 1)) ox_fu (sp_en T e + 1) σ (by omega) (Nat.le_refl _) (by show _ < 100000; omega) ⟨hF, oy_fr.rf⟩
  obtain ⟨b1, b2⟩ := b
  obtain ⟨q1, q2, q3⟩ := q
  refine ⟨b2, ?_, q2, q3⟩
  have q1' : b1 = (if sp_dl T e < sp_en T (e + 1) then (sp_dl T e : Int) else -1) := q1
  rw [← q1']
  exact hb
theorem om_own (hT : oy_ok T) (hF : oy_F T σ) {e : Nat} (he : e < sp_n T) (c : Int) : ∃ σ', F_Mod_own (e : Int) c σ = some (sp_own T e c, σ') ∧ oy_fr oy_sp σ σ' := by
  have h60 := hT.1
  have hn := sp_n_le (T := T)
  obtain ⟨ho1, ho2⟩ := sp_en_own he
  have ew : ox_w ((e : Int) + 1) = ((e + 1 : Nat) : Int) := oy_w1 (by omega)
  unfold F_Mod_own J_Mod_own_9
  rw [if_pos (by omega), Int.toNat_natCast, hF.2.2 e (by omega), oy_w1 (by omega)]
  obtain ⟨b, hb, q⟩ := oy_lfM (B_Mod_own_9 (e : Int) c) (fun τ => oy_F T τ ∧ oy_fr oy_sp σ τ) (fun l => (sp_prop (oy_ln T l)).isSome && decide (oy_wk (oy_ln T l) 1 = c)) (fun l b => b.1 = (if l < sp_en T (e + 1) then (sp_nu (oy_ln T l) 3).2 else -1) ∧ oy_fr oy_sp σ b.2) (sp_en T e + 1) (sp_en T (e + 1))
    (fun k τ hI hk0 hk hp => by
      obtain ⟨τ1, e2, f2, -⟩ := om_prop hT hI.1.1 (l := k) (by omega)
      have l1 := om_look hT (hI.1.sp f2).1 (l := k) (by omega) (p := 1) (by omega)
      have l1' : F_Mod_look (k : Int) 1 τ1 = some (oy_wk (oy_ln T k) 1) := l1
      refine ⟨τ1, ?_, hI.1.sp f2, hI.2.tr f2⟩
      unfold B_Mod_own_9 J_Mod_own_44
      dsimp only
      rw [ew, if_pos (by omega), Int.toNat_natCast, hI.1.2.2 (e + 1) (by omega), if_neg (by omega), e2, Option.bind_some, oy_w1 (by omega)]
      by_cases z : (sp_prop (oy_ln T k)).isSome = true
      · rw [if_neg (fun y => oy_b0.mp y z)]
        dsimp only
        rw [l1', Option.bind_some, if_neg (fun y => by
          rw [z, decide_eq_true y] at hp
          exact Bool.noConfusion hp)]
      · rw [if_pos (oy_b0.mpr z)])
    (fun k τ hI hk0 hk hp => by
      rw [Bool.and_eq_true, decide_eq_true_eq] at hp
      obtain ⟨τ1, e2, f2, g2⟩ := om_prop hT hI.1.1 (l := k) (by omega)
      have l1 := om_look hT (hI.1.sp f2).1 (l := k) (by omega) (p := 1) (by omega)
      have l1' : F_Mod_look (k : Int) 1 τ1 = some (oy_wk (oy_ln T k) 1) := l1
      have h17 : τ1 10 0 17 0 = (sp_nu (oy_ln T k) 3).2 := g2 _ (by
        have hc := sp_prop_iff.mp hp.1
        unfold sp_prop
        rw [if_pos hc])
      refine ⟨((sp_nu (oy_ln T k) 3).2, τ1), ?_, by rw [if_pos hk], hI.2.tr f2⟩
      unfold B_Mod_own_9 J_Mod_own_39
      dsimp only
      rw [ew, if_pos (by omega), Int.toNat_natCast, hI.1.2.2 (e + 1) (by omega), if_neg (by omega), e2, Option.bind_some, if_neg (fun y => oy_b0.mp y hp.1)]
      dsimp only
      rw [l1', Option.bind_some, if_pos hp.2, h17]
      rfl)
    (fun τ hI => by
      refine ⟨(-1, τ), ?_, by rw [if_neg (Nat.lt_irrefl _)], hI.2⟩
      unfold B_Mod_own_9 J_Mod_own_50
      dsimp only
      rw [ew, if_pos (by omega), Int.toNat_natCast, hI.1.2.2 (e + 1) (by omega), if_pos (Int.le_refl _)]
      rfl) (sp_en T (e + 1) - (sp_en T e + 1)) ox_fu (sp_en T e + 1) σ (by omega) (Nat.le_refl _) (by show _ < 100000; omega) ⟨hF, oy_fr.rf⟩
  obtain ⟨b1, b2⟩ := b
  obtain ⟨q1, q2⟩ := q
  refine ⟨b2, ?_, q2⟩
  have q1' : b1 = sp_own T e c := q1
  rw [← q1']
  exact hb
theorem om_hasl (hT : oy_ok T) (c : Int) : ∀ (f : Nat) (o : Option Nat) (v : Int) (n : Nat) (τ : ox_H), (∀ e, o = some e → e < f ∧ e < sp_n T) → f < n → oy_F T τ → ∃ τ', ox_lp (B_Mod_has_5 c) n (v, oy_en o, τ) = some (if 0 ≤ v then v else match o with | none => v | some e => sp_has T c e, τ') ∧ oy_fr oy_sp τ τ'
  | _, _, _, 0, _, _, h, _ => absurd h (Nat.not_lt_zero _)
  | f, none, v, n + 1, τ, h1, h2, hF => by
    refine ⟨τ, oy_lp_m ?_, oy_fr.rf⟩
    unfold B_Mod_has_5 J_Mod_has_33
    dsimp only
    rw [show oy_en none = -1 from rfl, if_pos (by decide)]
    split <;> rfl
  | 0, some e, v, n + 1, τ, h1, h2, hF => absurd (h1 e rfl).1 (Nat.not_lt_zero _)
  | f + 1, some e, v, n + 1, τ, h1, h2, hF => by
    have h60 := hT.1
    have hn := sp_n_le (T := T)
    obtain ⟨q1, q2⟩ := h1 e rfl
    by_cases hv : 0 ≤ v
    · refine ⟨τ, oy_lp_m ?_, oy_fr.rf⟩
      unfold B_Mod_has_5 J_Mod_has_33
      dsimp only
      rw [show oy_en (some e) = (e : Int) from rfl, if_neg (by omega), if_pos hv, if_pos hv]
    obtain ⟨τ1, e1, f1⟩ := om_own hT hF q2 c
    obtain ⟨τ2, e2, f2⟩ := om_parent hT (hF.sp f1) q2
    have hB : B_Mod_has_5 c (v, oy_en (some e), τ) = some (.inl (sp_own T e c, oy_en (sp_pa T e), τ2)) := by
      unfold B_Mod_has_5
      dsimp only
      rw [show oy_en (some e) = (e : Int) from rfl, if_neg (by omega), if_neg hv, e1, Option.bind_some]
      dsimp only
      rw [e2, Option.bind_some]
    obtain ⟨τ', e3, f3⟩ := om_hasl hT c f (sp_pa T e) (sp_own T e c) n τ2 (fun p hp => by have := (sp_pa_lt hp).1; omega) (by omega) ((hF.sp f1).sp f2)
    refine ⟨τ', ?_, (f1.tr f2).tr f3⟩
    rw [oy_lp_l hB, e3, if_neg hv]
    dsimp only
    rw [sp_has_eq]
    by_cases z : 0 ≤ sp_own T e c
    · rw [if_pos z, if_pos z]
    · rw [if_neg z, if_neg z]
      cases hp : sp_pa T e with
      | none =>
        dsimp only
        rcases sp_own_cs T e c with y | y
        · rw [y]
        · exact absurd y z
      | some p => rfl
theorem om_has (hT : oy_ok T) (hF : oy_F T σ) {e : Nat} (he : e < sp_n T) (c : Int) : ∃ σ', F_Mod_has (e : Int) c σ = some (sp_has T c e, σ') ∧ oy_fr oy_sp σ σ' := by
  have h60 := hT.1
  have hn := sp_n_le (T := T)
  obtain ⟨τ, e1, f1⟩ := om_hasl hT c (e + 1) (some e) (-1) ox_fu σ (fun x hx => by cases hx; exact ⟨by omega, he⟩) (by show e + 1 < 100000; omega) hF
  exact ⟨τ, e1, f1⟩
theorem om_initial (hT : oy_ok T) (hF : oy_F T σ) {e : Nat} (he : e < sp_n T) : ∃ σ', F_Mod_initial (e : Int) σ = some (sp_ini T e, σ') ∧ oy_fr oy_sp σ σ' := by
  have h60 := hT.1
  have hn := sp_n_le (T := T)
  obtain ⟨τ1, e1, f1, -, -, g14, g15, -⟩ := om_ehead hT hF he
  have F1 := hF.sp f1
  obtain ⟨hl, hH⟩ := sp_en_lt he
  refine ⟨τ1, ?_, f1⟩
  unfold F_Mod_initial J_Mod_initial_40
  rw [if_pos (by omega), Int.toNat_natCast, e1, Option.bind_some]
  unfold sp_ini
  by_cases q : sp_to (sp_eln T e) ≤ sp_fr (sp_eln T e)
  · rw [if_pos q, if_pos (show τ1 10 0 15 0 ≤ τ1 10 0 14 0 by rw [g14, g15]; omega)]
  · have hfr : sp_fr (sp_eln T e) ≤ 100 := by
      have h1 := hH.2.1
      unfold sp_fr
      split <;> omega
    rw [if_neg q, if_neg (show ¬ τ1 10 0 15 0 ≤ τ1 10 0 14 0 by rw [g14, g15]; omega), if_pos (by omega)]
    dsimp only
    rw [F1.2.2 e (by omega), g14, om_look hT F1.1 hl (by omega)]
    rfl
end OYD4
