/-! ===== blocks kept: the reference's signature of the lines that count ===== -/
/-- lines one after the other: a line's length, its signs -/
def sp_sl : oy_T → List Int
  | [] => []
  | w :: S => (1000 + (w.length : Int)) :: (w ++ sp_sl S)
theorem sp_sl_app : ∀ (A B : oy_T), sp_sl (A ++ B) = sp_sl A ++ sp_sl B
  | [], _ => rfl
  | w :: A, B => by
    rw [List.cons_append, sp_sl, sp_sl, sp_sl_app A B, List.cons_append, List.append_assoc]
theorem sp_sl_len : ∀ (S : oy_T), (∀ w ∈ S, w.length ≤ 24) → (sp_sl S).length ≤ 25 * S.length
  | [], _ => Nat.le_refl _
  | w :: S, h => by
    have h1 := sp_sl_len S (fun w' z => h w' (List.mem_cons_of_mem _ z))
    have h2 := h w List.mem_cons_self
    rw [sp_sl, List.length_cons, List.length_append, List.length_cons]
    omega
theorem oy_gd0 {x d : Int} {L : List Int} : (x :: L).getD 0 d = x := rfl
theorem oy_gdS {x d : Int} {L : List Int} {i : Nat} : (x :: L).getD (i + 1) d = L.getD i d := rfl
theorem oy_gdl {d : Int} {A B : List Int} {i : Nat} (h : i < A.length) : (A ++ B).getD i d = A.getD i d := by
  rw [List.getD_eq_getElem?_getD, List.getD_eq_getElem?_getD, List.getElem?_append_left h]
theorem oy_gdr {d : Int} {A B : List Int} {i : Nat} : (A ++ B).getD (A.length + i) d = B.getD i d := by
  rw [List.getD_eq_getElem?_getD, List.getD_eq_getElem?_getD, List.getElem?_append_right (Nat.le_add_right _ _), Nat.add_sub_cancel_left]
theorem oy_gdn {d : Int} {A : List Int} {i : Nat} (h : A.length ≤ i) : A.getD i d = d := by
  rw [List.getD_eq_getElem?_getD, List.getElem?_eq_none h]
  rfl
theorem sp_sl_inj : ∀ (S S' : oy_T), (∀ i, (sp_sl S).getD i 0 = (sp_sl S').getD i 0) → S = S'
  | [], [], _ => rfl
  | [], w :: S', h => by
    have h0 := h 0
    rw [sp_sl, sp_sl, oy_gd0] at h0
    have : (([] : List Int).getD 0 0) = 0 := rfl
    omega
  | w :: S, [], h => by
    have h0 := h 0
    rw [sp_sl, sp_sl, oy_gd0] at h0
    have : (([] : List Int).getD 0 0) = 0 := rfl
    omega
  | w :: S, w' :: S', h => by
    have h0 := h 0
    rw [sp_sl, sp_sl, oy_gd0, oy_gd0] at h0
    have hl : w.length = w'.length := by omega
    have h1 : w = w' := by
      refine oy_ext hl (fun i hi => ?_)
      have hi' := h (i + 1)
      rw [sp_sl, sp_sl, oy_gdS, oy_gdS, oy_gdl (by omega), oy_gdl (by omega)] at hi'
      exact hi'
    have h2 : S = S' := by
      refine sp_sl_inj S S' (fun i => ?_)
      have hi' := h (w.length + i + 1)
      rw [sp_sl, sp_sl, oy_gdS, oy_gdS, oy_gdr, hl, oy_gdr] at hi'
      exact hi'
    rw [h1, h2]
/-- the slots that the signature writes -/
def oy_sn (c j : Nat) : Bool := c == 10 && (decide (11 ≤ j ∧ j ≤ 20) || decide (28 ≤ j ∧ j ≤ 29))
theorem oy_sp_sn {c j : Nat} (h : oy_sp c j = true) : oy_sn c j = true := by
  unfold oy_sp at h
  unfold oy_sn
  rw [Bool.and_eq_true, Bool.and_eq_true, decide_eq_true_eq, decide_eq_true_eq] at h
  rw [Bool.and_eq_true, Bool.or_eq_true, decide_eq_true_eq, decide_eq_true_eq]
  exact ⟨h.1, Or.inl ⟨by omega, by omega⟩⟩
/-- the signature so far -/
def oy_nt (L : List Int) (σ : ox_H) : Prop := σ 10 0 29 0 = (L.length : Int) ∧ ∀ i, i < L.length → σ 10 0 28 i = L.getD i 0
section OYM3
variable {T S : oy_T} {σ : ox_H}
theorem oy_nt.sp {L : List Int} {σ' : ox_H} (h : oy_nt L σ) (hf : oy_fr oy_sp σ σ') : oy_nt L σ' := ⟨(hf _ _ _ _ rfl).trans h.1, fun i hi => (hf _ _ _ _ rfl).trans (h.2 i hi)⟩
theorem om_nsig (hT : oy_ok T) {l : Nat} (hl : l < T.length) {L : List Int} (hL : L.length ≤ 1475) : ∀ (d q n : Nat) (σ : ox_H), oy_M T σ → q + d = (oy_ln T l).length → σ 10 0 29 0 = (L.length : Int) → (∀ i, i < L.length + 1 + q → σ 10 0 28 i = (L ++ (1000 + ((oy_ln T l).length : Int)) :: oy_ln T l).getD i 0) → d < n → ∃ τ, ox_lp (B_Mod_note_56 (l : Int)) n ((q : Int), σ) = some (.inl (((l + 1 : Nat) : Int), τ)) ∧ oy_fr oy_sn σ τ ∧ oy_nt (L ++ (1000 + ((oy_ln T l).length : Int)) :: oy_ln T l) τ
  | _, _, 0, _, _, _, _, _, h => absurd h (Nat.not_lt_zero _)
  | 0, q, n + 1, σ, hM, h1, h2, h3, _ => by
    have h60 := hT.1
    have h24 := oy_len24 hT l
    have ew : ox_w (σ 10 0 29 0 + ox_w (1 + σ 10 0 1 l)) = ((L.length + 1 + (oy_ln T l).length : Nat) : Int) := by
      rw [h2, hM.2.1 l hl, oy_w (x := 1 + ((oy_ln T l).length : Int)) (by omega) (by omega), oy_w (by omega) (by omega)]
      omega
    refine ⟨ox_up σ 10 0 29 0 ((L.length + 1 + (oy_ln T l).length : Nat) : Int), oy_lp_m (X := some (Sum.inl (((l + 1 : Nat) : Int), ox_up σ 10 0 29 0 ((L.length + 1 + (oy_ln T l).length : Nat) : Int)))) ?_, oy_fr.rf.up rfl, ?_, fun i hi => ?_⟩
    · unfold B_Mod_note_56 J_Mod_note_91 J_Mod_note_108
      dsimp only
      have c0 : 0 ≤ (l : Int) ∧ (l : Int).toNat < 60 := by omega
      rw [if_pos c0, if_pos c0, Int.toNat_natCast, ew, hM.2.1 l hl, if_pos (by omega), oy_w1 (by omega)]
    · rw [oy_up_same, List.length_append, List.length_cons]
      omega
    · rw [List.length_append, List.length_cons] at hi
      rw [oy_up_ne (by decide)]
      exact h3 i (by omega)
  | d + 1, q, n + 1, σ, hM, h1, h2, h3, h4 => by
    have h60 := hT.1
    have h24 := oy_len24 hT l
    have f0 : oy_fr oy_sn σ (ox_up σ 10 0 28 (L.length + 1 + q) (oy_wk (oy_ln T l) q)) := oy_fr.rf.up rfl
    obtain ⟨τ, e, fr, g⟩ := om_nsig hT hl hL d (q + 1) n (ox_up σ 10 0 28 (L.length + 1 + q) (oy_wk (oy_ln T l) q)) (hM.fr f0 rfl rfl rfl) (by omega) ((oy_up_ne (by decide)).trans h2) (fun i hi => by
      by_cases z : i = L.length + 1 + q
      · rw [z, oy_up_same, show L.length + 1 + q = L.length + (q + 1) by omega, oy_gdr, oy_gdS]
        rfl
      · rw [oy_up_ni z]
        exact h3 i (by omega)) (by omega)
    have ew : ox_w (ox_w (σ 10 0 29 0 + 1) + (q : Int)) = ((L.length + 1 + q : Nat) : Int) := by
      rw [h2, oy_w1 (by omega), oy_w (by omega) (by omega)]
      omega
    have c1 : 0 ≤ ((L.length + 1 + q : Nat) : Int) ∧ ((L.length + 1 + q : Nat) : Int).toNat < 1500 := by omega
    refine ⟨τ, (oy_lp_l (a' := (((q + 1 : Nat) : Int), ox_up σ 10 0 28 (L.length + 1 + q) (oy_wk (oy_ln T l) q))) ?_).trans e, f0.tr fr, g⟩
    unfold B_Mod_note_56
    dsimp only
    have c0 : 0 ≤ (l : Int) ∧ (l : Int).toNat < 60 := by omega
    rw [if_pos c0, Int.toNat_natCast, hM.2.1 l hl, if_neg (by omega), om_look hT hM hl (by omega), Option.bind_some, ew, if_pos c1, Int.toNat_natCast, oy_w1 (by omega)]
theorem om_nfill : ∀ (d x n : Nat) (σ : ox_H), x + d = 1500 → d < n → ∃ τ, ox_lp B_Mod_note_119 n ((x : Int), σ) = some τ ∧ oy_fr oy_sn σ τ ∧ ∀ i, i < 1500 → τ 10 0 28 i = if i < x then σ 10 0 28 i else 0
  | _, _, 0, _, _, h => absurd h (Nat.not_lt_zero _)
  | 0, x, n + 1, σ, h1, _ => by
    refine ⟨σ, oy_lp_m (X := some σ) ?_, oy_fr.rf, fun i hi => (if_pos (by omega)).symm⟩
    unfold B_Mod_note_119 J_Mod_note_139
    dsimp only
    rw [if_pos (by omega)]
  | d + 1, x, n + 1, σ, h1, h2 => by
    obtain ⟨τ, e, fr, g⟩ := om_nfill d (x + 1) n (ox_up σ 10 0 28 x 0) (by omega) (by omega)
    have f0 : oy_fr oy_sn σ (ox_up σ 10 0 28 x 0) := oy_fr.rf.up rfl
    refine ⟨τ, (oy_lp_l (a' := (((x + 1 : Nat) : Int), ox_up σ 10 0 28 x 0)) ?_).trans e, f0.tr fr, fun i hi => ?_⟩
    · unfold B_Mod_note_119
      dsimp only
      rw [if_neg (by omega), if_pos (by omega), Int.toNat_natCast, oy_w1 (by omega)]
    · rw [g i hi]
      by_cases z : i = x
      · rw [z, if_pos (by omega), if_neg (by omega)]
        exact oy_up_same
      · rw [oy_up_ni z]
        by_cases y : i < x
        · rw [if_pos (by omega), if_pos y]
        · rw [if_neg (by omega), if_neg y]
theorem om_notel (hT : oy_ok T) : ∀ (k p n : Nat) (S : oy_T) (σ : ox_H), oy_M T σ → p + k = T.length → S.length ≤ p → (∀ w ∈ S, w.length ≤ 24) → oy_nt (sp_sl S) σ → k < n → ∃ τ, ox_lp B_Mod_note_7 n ((p : Int), σ) = some τ ∧ oy_fr oy_sn σ τ ∧ ∀ i, i < 1500 → τ 10 0 28 i = (sp_sl (S ++ sp_kq T k p)).getD i 0
  | _, _, 0, _, _, _, _, _, _, _, h => absurd h (Nat.not_lt_zero _)
  | 0, p, n + 1, S, σ, hM, h1, h2, h3, h4, _ => by
    have h60 := hT.1
    have hl := sp_sl_len S h3
    obtain ⟨τ, e, fr, g⟩ := om_nfill (1500 - (sp_sl S).length) (sp_sl S).length ox_fu σ (by omega) (by show _ < 100000; omega)
    refine ⟨τ, oy_lp_m (X := some τ) ?_, fr, fun i hi => ?_⟩
    · unfold B_Mod_note_7 J_Mod_note_114 J_Mod_note_119
      dsimp only
      rw [hM.1, if_pos (by omega), h4.1, e]
    · rw [g i hi, sp_kq, List.append_nil]
      by_cases z : i < (sp_sl S).length
      · rw [if_pos z]
        exact h4.2 i z
      · rw [if_neg z, oy_gdn (by omega)]
  | k + 1, p, n + 1, S, σ, hM, h1, h2, h3, h4, h5 => by
    have h60 := hT.1
    have hl := sp_sl_len S h3
    have h24 := oy_len24 hT p
    obtain ⟨σ1, e1, f1, _, _⟩ := om_kindOf hT hM (show p < T.length by omega)
    have M1 := hM.fr f1 rfl rfl rfl
    have N1 := h4.sp f1
    have g1 : oy_fr oy_sn σ σ1 := f1.mono (fun _ _ => oy_sp_sn)
    rw [sp_kq]
    by_cases q : sp_ct (oy_ln T p) = true
    rotate_left
    · rw [if_neg q]
      obtain ⟨τ, e, fr, g⟩ := om_notel hT k (p + 1) n S σ1 M1 (by omega) (by omega) h3 N1 (by omega)
      refine ⟨τ, (oy_lp_l (a' := (((p + 1 : Nat) : Int), σ1)) ?_).trans e, g1.tr fr, g⟩
      unfold sp_ct at q
      rw [decide_eq_true_eq] at q
      unfold B_Mod_note_7 J_Mod_note_108
      dsimp only
      rw [hM.1, if_neg (by omega), e1, Option.bind_some]
      dsimp only
      rw [if_neg (fun z => q (Or.inr (Or.inr z))), if_neg (fun z => q (Or.inr (Or.inl z))), if_neg (fun z => q (Or.inl z)), oy_w1 (by omega)]
    rw [if_pos q]
    have f2 : oy_fr oy_sn σ1 (ox_up σ1 10 0 28 (sp_sl S).length (1000 + ((oy_ln T p).length : Int))) := oy_fr.rf.up rfl
    obtain ⟨σ2, e2, g2, N2⟩ := om_nsig hT (show p < T.length by omega) (L := sp_sl S) (by omega) (oy_ln T p).length 0 ox_fu (ox_up σ1 10 0 28 (sp_sl S).length (1000 + ((oy_ln T p).length : Int))) (M1.fr f2 rfl rfl rfl) (Nat.zero_add _) ((oy_up_ne (by decide)).trans N1.1) (fun i hi => by
      by_cases z : i = (sp_sl S).length
      · rw [z, oy_up_same]
        have e0 : (sp_sl S ++ (1000 + ((oy_ln T p).length : Int)) :: oy_ln T p).getD ((sp_sl S).length + 0) 0 = 1000 + ((oy_ln T p).length : Int) := oy_gdr
        exact e0.symm
      · rw [oy_up_ni z, oy_gdl (by omega)]
        exact N1.2 i (by omega)) (by show _ < 100000; omega)
    have es : sp_sl S ++ (1000 + ((oy_ln T p).length : Int)) :: oy_ln T p = sp_sl (S ++ [oy_ln T p]) := by
      rw [sp_sl_app, sp_sl, sp_sl, List.append_nil]
    rw [es] at N2
    obtain ⟨τ, e, fr, g⟩ := om_notel hT k (p + 1) n (S ++ [oy_ln T p]) σ2 (M1.fr (f2.tr g2) rfl rfl rfl) (by omega) (by rw [List.length_append]; show S.length + 1 ≤ p + 1; omega) (fun w hw => by
      rcases List.mem_append.mp hw with z | z
      · exact h3 w z
      · rw [List.mem_singleton.mp z]
        exact h24) N2 (by omega)
    refine ⟨τ, (oy_lp_l (a' := (((p + 1 : Nat) : Int), σ2)) ?_).trans e, g1.tr (f2.tr (g2.tr fr)), fun i hi => by
      have := g i hi
      rw [List.append_assoc] at this
      exact this⟩
    have e35 : J_Mod_note_35 (p : Int) σ1 = some (.inl (((p + 1 : Nat) : Int), σ2)) := by
      have c0 : 0 ≤ (p : Int) ∧ (p : Int).toNat < 60 := by omega
      have c1 : 0 ≤ σ1 10 0 29 0 ∧ (σ1 10 0 29 0).toNat < 1500 := by rw [N1.1]; omega
      unfold J_Mod_note_35 J_Mod_note_56
      rw [if_pos c0, if_pos c1, N1.1, Int.toNat_natCast, Int.toNat_natCast, M1.2.1 p (by omega), oy_w (x := 1000 + ((oy_ln T p).length : Int)) (by omega) (by omega)]
      exact e2
    unfold sp_ct at q
    rw [decide_eq_true_eq] at q
    unfold B_Mod_note_7
    dsimp only
    rw [hM.1, if_neg (by omega), e1, Option.bind_some]
    dsimp only
    by_cases q0 : sp_kind (oy_ln T p) = 0
    · rw [if_pos q0]
      exact e35
    rw [if_neg q0]
    by_cases q1 : sp_kind (oy_ln T p) = 1
    · rw [if_pos q1]
      exact e35
    rw [if_neg q1, if_pos (show sp_kind (oy_ln T p) = 5 by omega)]
    exact e35
theorem om_note (hT : oy_ok T) (hM : oy_M T σ) : ∃ τ, F_Mod_note σ = some τ ∧ oy_fr oy_sn σ τ ∧ ∀ i, i < 1500 → τ 10 0 28 i = (sp_sl (sp_kp T)).getD i 0 := by
  have h60 := hT.1
  have f0 : oy_fr oy_sn σ (ox_up σ 10 0 29 0 0) := oy_fr.rf.up rfl
  obtain ⟨τ, e, fr, g⟩ := om_notel hT T.length 0 ox_fu [] (ox_up σ 10 0 29 0 0) (hM.fr f0 rfl rfl rfl) (Nat.zero_add _) (Nat.le_refl _) (fun w hw => by cases hw) ⟨oy_up_same, fun i hi => absurd hi (Nat.not_lt_zero _)⟩ (by show T.length < 100000; omega)
  exact ⟨τ, e, f0.tr fr, g⟩
end OYM3
