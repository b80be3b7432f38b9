/-! ===== the archive: the class ===== -/
abbrev oy_A : Type := List (oy_T × Int)
def oy_ag (A : oy_A) (i : Nat) : oy_T × Int := A.getD i ([], -1)
def sp_fl (A : oy_A) : oy_T := (A.map Prod.fst).flatten
def oy_aok (A : oy_A) : Prop := A.length ≤ 5 ∧ ∀ P ∈ A, 1 ≤ P.1.length ∧ P.1.length ≤ 60 ∧ (∀ l, oy_good 0 (oy_ln P.1 l)) ∧ (P.2 = -1 ∨ (32 ≤ P.2 ∧ P.2 ≤ 126))
def oy_zs (s : Int) : Int := if s = -1 then 0 else s
/-- the class's archive -/
def oy_ac (A : oy_A) (σ : ox_H) : Prop := oy_aok A ∧ σ 9 0 3 0 = A.length ∧ (∀ i, i < A.length → σ 9 0 1 i = (oy_ag A i).1.length ∧ σ 9 0 2 i = oy_zs (oy_ag A i).2) ∧ oy_L 4 (sp_fl A) σ ∧ σ 1 4 1 0 = 24 ∧ σ 1 4 0 0 = 300
theorem oy_ln_app {G P : oy_T} {l : Nat} : oy_ln (G ++ P) l = if l < G.length then oy_ln G l else oy_ln P (l - G.length) := by
  unfold oy_ln
  by_cases h : l < G.length
  · rw [if_pos h, List.getD_eq_getElem?_getD, List.getElem?_append_left h, ← List.getD_eq_getElem?_getD]
  · rw [if_neg h, List.getD_eq_getElem?_getD, List.getElem?_append_right (by omega), ← List.getD_eq_getElem?_getD]
theorem sp_pas_app {G P : oy_T} : sp_pas G G.length P = G ++ P := by
  refine oy_extT (by rw [sp_pas_len, List.length_append]) (fun l hl => ?_)
  rw [sp_pas_len] at hl
  rw [sp_pas_ln hl, oy_ln_app]
  by_cases h : l < G.length
  · rw [if_pos h, if_pos h]
  · rw [if_neg h, if_neg h, if_pos hl]
theorem sp_sub_app {G P : oy_T} : sp_sub (G ++ P) G.length P.length = P := by
  refine oy_extT sp_sub_len (fun l hl => ?_)
  rw [sp_sub_len] at hl
  have e : G.length + l - G.length = l := by omega
  rw [sp_sub_ln hl, oy_ln_app, if_neg (by omega), e]
theorem sp_del_app {G P : oy_T} : sp_del (G ++ P) G.length P.length = G := by
  refine oy_extT (by rw [sp_del_len, List.length_append]; omega) (fun l hl => ?_)
  rw [sp_del_len, List.length_append] at hl
  rw [sp_del_ln (by rw [List.length_append]; exact hl), oy_ln_app, if_pos (by omega)]
  rw [if_pos (by omega)]
theorem sp_fl_app {A : oy_A} {P : oy_T} {s : Int} : sp_fl (A ++ [(P, s)]) = sp_fl A ++ P := by
  unfold sp_fl
  rw [List.map_append, List.flatten_append]
  show _ ++ (P ++ []) = _
  rw [List.append_nil]
theorem sp_fl_len : ∀ A : oy_A, (∀ P ∈ A, P.1.length ≤ 60) → (sp_fl A).length ≤ 60 * A.length
  | [], _ => Nat.le_refl _
  | P :: A, h => by
    have ih := sp_fl_len A (fun Q hQ => h Q (List.mem_cons_of_mem _ hQ))
    have h1 := h P (List.mem_cons_self ..)
    have e : sp_fl (P :: A) = P.1 ++ sp_fl A := rfl
    rw [e, List.length_append, List.length_cons]
    omega
theorem sp_fl_good : ∀ A : oy_A, (∀ P ∈ A, ∀ l, oy_good 0 (oy_ln P.1 l)) → ∀ l, oy_good 0 (oy_ln (sp_fl A) l)
  | [], _, l => by
    have e : oy_ln (sp_fl []) l = [] := oy_ln_ge (Nat.zero_le _)
    rw [e]
    exact oy_good_nil
  | P :: A, h, l => by
    have ih := sp_fl_good A (fun Q hQ => h Q (List.mem_cons_of_mem _ hQ))
    have e : sp_fl (P :: A) = P.1 ++ sp_fl A := rfl
    rw [e, oy_ln_app]
    split
    · exact h P (List.mem_cons_self ..) l
    · exact ih _
theorem oy_okL_of {k : Nat} {T : oy_T} (h1 : T.length ≤ ox_ln k) (h2 : ∀ l, oy_good k (oy_ln T l)) : oy_okL k T := ⟨h1, fun w hw => by
  obtain ⟨i, hi, rfl⟩ := List.getElem_of_mem hw
  have := h2 i
  unfold oy_ln at this
  rw [List.getD_eq_getElem?_getD, List.getElem?_eq_getElem hi] at this
  exact this⟩
theorem sp_fl_ok {A : oy_A} (h : oy_aok A) : oy_okL 4 (sp_fl A) := by
  have h1 := sp_fl_len A (fun P hP => (h.2 P hP).2.1)
  have h2 := h.1
  exact oy_okL_of (by show _ ≤ 300; omega) (fun l => sp_fl_good A (fun P hP => (h.2 P hP).2.2.1) l)
theorem oy_ag_snoc {A : oy_A} {P : oy_T × Int} {i : Nat} (hi : i < A.length + 1) : oy_ag (A ++ [P]) i = if i < A.length then oy_ag A i else P := by
  unfold oy_ag
  by_cases h : i < A.length
  · rw [if_pos h, List.getD_eq_getElem?_getD, List.getElem?_append_left h, ← List.getD_eq_getElem?_getD]
  · have e : i - A.length = 0 := by omega
    rw [if_neg h, List.getD_eq_getElem?_getD, List.getElem?_append_right (by omega), e]
    rfl
/-- the sign kept with a part -/
def sp_asg (T : oy_T) (e : Nat) : Int := match sp_pa T e with
  | none => -1
  | some p => sp_ini T p
def sp_prt (T : oy_T) (e : Nat) : oy_T := sp_sub T (sp_en T e) (sp_rfm T e)
def sp_arch (T : oy_T) (A : oy_A) (a : Int) : (Nat ⊕ Int) × oy_T × oy_A := if 0 ≤ a ∧ a < sp_n T then (if A.length < 5 then (.inr ((A.length : Int) + 1), sp_del T (sp_en T a.toNat) (sp_rfm T a.toNat), A ++ [(sp_prt T a.toNat, sp_asg T a.toNat)]) else (.inl 3, T, A)) else (.inl 1, T, A)
/-- where a part comes back -/
def sp_bat (T : oy_T) (s : Int) : Nat := sp_eu T (if s = -1 then -1 else sp_ti T s)
def sp_back (T : oy_T) (A : oy_A) : (Nat ⊕ Int) × oy_T × oy_A := if 1 ≤ A.length ∧ T.length + (oy_ag A (A.length - 1)).1.length ≤ 60 then (.inr ((A.length : Int) - 1), sp_pas T (sp_bat T (oy_ag A (A.length - 1)).2) (oy_ag A (A.length - 1)).1, A.dropLast) else (.inl 3, T, A)
theorem sp_ini_in {T : oy_T} {e : Nat} (hT : oy_ok T) (he : e < sp_n T) : sp_ini T e = -1 ∨ (32 ≤ sp_ini T e ∧ sp_ini T e ≤ 126) := by
  unfold sp_ini
  by_cases z : sp_to (sp_eln T e) ≤ sp_fr (sp_eln T e)
  · rw [if_pos z]
    exact Or.inl rfl
  · rw [if_neg z]
    have hto : sp_to (sp_eln T e) ≤ (sp_eln T e).length := by
      unfold sp_to
      cases hb : sp_bl (sp_eln T e) (sp_fr (sp_eln T e)) (sp_eln T e).length with
      | none => exact Nat.le_refl _
      | some b =>
        have := (sp_bl_in _ _ _ _ hb).2.1
        dsimp only
        split
        · exact Nat.le_refl _
        · omega
    exact Or.inr (oy_good_wk (oy_24_ok hT (sp_en T e)) (by show sp_fr (sp_eln T e) < (sp_eln T e).length; omega))
theorem sp_asg_in {T : oy_T} {e : Nat} (hT : oy_ok T) (he : e < sp_n T) : sp_asg T e = -1 ∨ (32 ≤ sp_asg T e ∧ sp_asg T e ≤ 126) := by
  unfold sp_asg
  cases hp : sp_pa T e with
  | none => exact Or.inl rfl
  | some p => exact sp_ini_in hT (by have := (sp_pa_lt hp).1; omega)
theorem sp_rfm_in {T : oy_T} {e : Nat} (he : e < sp_n T) : 1 ≤ sp_rfm T e ∧ sp_en T e + sp_rfm T e ≤ T.length := by
  have hla := sp_la_in he
  have h1 := sp_en_lt3 (T := T) hla.1 hla.2
  have h2 := sp_en_le (T := T) (sp_la T e)
  unfold sp_rfm
  omega
theorem sp_arch_aok {T : oy_T} {A : oy_A} {e : Nat} (hT : oy_ok T) (he : e < sp_n T) (hA : oy_aok A) (h5 : A.length < 5) : oy_aok (A ++ [(sp_prt T e, sp_asg T e)]) := by
  have hr := sp_rfm_in he
  have h60 := hT.1
  refine ⟨by rw [List.length_append]; exact h5, fun P hP => ?_⟩
  rcases List.mem_append.mp hP with h | h
  · exact hA.2 P h
  · rw [List.mem_singleton.mp h]
    refine ⟨?_, ?_, fun l => oy_24_sub (oy_24_ok hT) l, sp_asg_in hT he⟩
    · show 1 ≤ (sp_prt T e).length
      unfold sp_prt
      rw [sp_sub_len]
      exact hr.1
    · show (sp_prt T e).length ≤ 60
      unfold sp_prt
      rw [sp_sub_len]
      omega
/-- what archiving writes -/
def oy_txa (c k j i : Nat) : Prop := oy_tx c k j i ∨ oy_le 4 c k j i ∨ c = 9
section OYH3
variable {T : oy_T} {A : oy_A} {σ : ox_H}
theorem oy_ac.tx {σ' : ox_H} (h : oy_ac A σ) (hf : oy_fs oy_tx σ σ') : oy_ac A σ' := by
  have e9 : ∀ j i, σ' 9 0 j i = σ 9 0 j i := fun j i => hf 9 0 j i (by unfold oy_tx oy_le oy_rf; omega)
  have e1 : ∀ j i, σ' 1 4 j i = σ 1 4 j i := fun j i => hf 1 4 j i (by unfold oy_tx oy_le oy_rf; omega)
  obtain ⟨h1, h2, h3, h4, h5, h6⟩ := h
  exact ⟨h1, (e9 _ _).trans h2, fun i hi => ⟨(e9 _ _).trans (h3 i hi).1, (e9 _ _).trans (h3 i hi).2⟩, ⟨(e1 _ _).trans h4.1, fun l hl => (e1 _ _).trans (h4.2.1 l hl), fun l p hl hp => (e1 _ _).trans (h4.2.2 l p hl hp)⟩, (e1 _ _).trans h5, (e1 _ _).trans h6⟩
theorem oy_cs.frame {σ' : ox_H} {S : Nat → Nat → Nat → Nat → Prop} (h : oy_cs T σ) (hf : oy_fs S σ σ') (hS : ∀ k j i, ¬ S 1 0 j i ∧ ¬ S 2 k j i ∧ ¬ S 4 k j i ∧ ¬ S 6 k j i) : oy_cs T σ' := by
  obtain ⟨⟨⟨h1, h2, h3, h4⟩, h5⟩, h6, h7, h8⟩ := h
  have e1 : ∀ j i, σ' 1 0 j i = σ 1 0 j i := fun j i => hf 1 0 j i (hS 0 j i).1
  have e2 : ∀ k j i, σ' 2 k j i = σ 2 k j i := fun k j i => hf 2 k j i (hS k j i).2.1
  have e4 : ∀ k j i, σ' 4 k j i = σ 4 k j i := fun k j i => hf 4 k j i (hS k j i).2.2.1
  have e6 : ∀ k j i, σ' 6 k j i = σ 6 k j i := fun k j i => hf 6 k j i (hS k j i).2.2.2
  refine ⟨⟨⟨⟨(e1 _ _).trans h1.1, fun l hl => (e1 _ _).trans (h1.2.1 l hl), fun l p hl hp => (e1 _ _).trans (h1.2.2 l p hl hp)⟩, (e1 _ _).trans h2, (e1 _ _).trans h3, fun q => ?_⟩, oy_60_fs h5 hf (fun j i => (hS 60 j i).2.2.1)⟩, ?_, ?_, ?_⟩
  · rw [e2, e1] at q
    obtain ⟨o1, o2, o3, o4⟩ := h4 q
    refine ⟨(e2 _ _ _).trans o1, fun e he => ?_, fun l hl => (e2 _ _ _).trans (o3 l hl), fun l hl => ?_⟩
    · rw [e2, e2, e2, e2]
      exact o2 e he
    · have r := o4 l hl
      unfold oy_rd oy_hd at r ⊢
      unfold oy_sm at r ⊢
      simp only [e4, e6]
      exact r
  · rw [e1]; exact h6
  · rw [e2]; exact h7
  · rw [e2, e1]; exact h8
theorem oc_archive (hT : oy_ok T) (h : oy_cs T σ) (hv : σ 1 0 5 0 ≤ 1000000000) (hac : oy_ac A σ) {a : Int} : ∃ σ1, F_Out_archive a σ = some ((sp_arch T A a).1, σ1) ∧ oy_fs oy_txa σ σ1 ∧ oy_cs (sp_arch T A a).2.1 σ1 ∧ oy_ac (sp_arch T A a).2.2 σ1 ∧ ∃ d : Nat, d ≤ 2 ∧ σ1 1 0 5 0 = σ 1 0 5 0 + (d : Int) ∧ (d = 0 → (sp_arch T A a).2.1 = T) := by
  have h60 := hT.1
  have hn := sp_n_le (T := T)
  obtain ⟨σ1, e1, s1, q1⟩ := oy_cs_ask hT h
  have hac1 := hac.tx s1.1
  have hbad : ∀ r : Nat ⊕ Int, ∃ σ2, (some (r, σ1) : Option ((Nat ⊕ Int) × ox_H)) = some (r, σ2) ∧ oy_fs oy_txa σ σ2 ∧ oy_cs T σ2 ∧ oy_ac A σ2 ∧ ∃ d : Nat, d ≤ 2 ∧ σ2 1 0 5 0 = σ 1 0 5 0 + (d : Int) ∧ (d = 0 → T = T) := fun r => by
    obtain ⟨x1, x2, d, x3, x4, x5⟩ := s1
    exact ⟨σ1, rfl, x1.mono (fun _ _ _ _ => Or.inl), x2, hac1, d, by omega, x4, fun _ => rfl⟩
  unfold F_Out_archive sp_arch
  rw [e1, Option.bind_some, oc_checkEntry q1, Option.bind_some]
  by_cases q : 0 ≤ a ∧ a < sp_n T
  rotate_left
  · rw [if_neg q, if_neg q]
    exact hbad _
  rw [if_pos q, if_pos q]
  obtain ⟨e, rfl⟩ : ∃ l : Nat, a = l := ⟨a.toNat, by omega⟩
  have he : e < sp_n T := by omega
  have hla := sp_la_in he
  rw [Int.toNat_natCast]
  dsimp only
  obtain ⟨c1, c2, c3, c4, c5, c6⟩ := hac1
  by_cases q5 : A.length < 5
  rotate_left
  · rw [if_neg (show ¬ σ1 9 0 3 0 < 5 by rw [c2]; omega), if_neg q5]
    exact hbad _
  rw [if_pos (show σ1 9 0 3 0 < 5 by rw [c2]; omega), if_pos q5]
  have hr := sp_rfm_in he
  have hasg := sp_asg_in hT he
  have ewm : Nat → ox_w ((sp_en T (sp_la T e) : Int) - (sp_en T e : Int)) = ((sp_rfm T e : Nat) : Int) := fun _ => by
    have := sp_en_le (T := T) (sp_la T e)
    have := sp_en_lt3 (T := T) hla.1 hla.2
    exact oy_wsb (by omega) (by omega)
  have hsign : F_Otl_firstSign (oy_en (sp_pa T e)) σ1 = some (oy_zs (sp_asg T e)) := by
    unfold sp_asg oy_zs
    cases hp : sp_pa T e with
    | none =>
      have e0 : oy_en none = -1 := rfl
      have hl1 : F_Otl_lineOf (-1) σ1 = some (-1) := by
        unfold F_Otl_lineOf J_Otl_lineOf_21 J_Otl_lineOf_22
        rw [if_pos (by decide)]
      have hr60 : F_Otl_reading (-1) σ1 = some 60 := by
        unfold F_Otl_reading J_Otl_reading_21
        rw [if_pos (by decide)]
      obtain ⟨-, -, -, -, -, -, z9, z10⟩ := q1.2.2.2
      unfold F_Otl_firstSign J_Otl_firstSign_41
      rw [e0, hl1, Option.bind_some, hr60, Option.bind_some, if_pos (by rw [z9, z10]; exact Int.le_refl _)]
      rfl
    | some p =>
      have hlt := (sp_pa_lt hp).1
      exact oc_firstSign hT q1 (by omega)
  have hzs : 0 ≤ oy_zs (sp_asg T e) ∧ oy_zs (sp_asg T e) ≤ 126 := by
    unfold oy_zs
    split <;> omega
  rw [oc_eln hT q1 he, Option.bind_some, oc_partEnd hT q1 he, Option.bind_some, oc_epa hT q1 he, Option.bind_some, hsign, Option.bind_some, (ewm 0)]
  have hfl := sp_fl_len A (fun P hP => (c1.2 P hP).2.1)
  obtain ⟨σ2, e2, d2⟩ := oc_copy (k := 4) (k1 := 0) (a := sp_en T e) (m := sp_rfm T e) (b := (sp_fl A).length) (sp_fl_ok c1) c4 c5 c6 (oy_ok_L hT) q1.2.1 q1.2.2.1 rfl (by decide) hr.1 hr.2 (Nat.le_refl _) (by show _ ≤ 300; omega)
  have ePart : sp_sub T (sp_en T e) (sp_rfm T e) = sp_prt T e := rfl
  rw [sp_pas_app, ePart] at d2
  have ePl : (sp_prt T e).length = sp_rfm T e := sp_sub_len
  have n9 : σ2 9 0 3 0 = (A.length : Int) := (d2.1 9 0 3 0 (fun q => absurd q.1 (by decide))).trans c2
  have hput : F_Arc_put 0 (sp_en T e : Int) ((sp_rfm T e : Nat) : Int) (oy_zs (sp_asg T e)) σ1 = some (ox_up (ox_up (ox_up σ2 9 0 1 A.length ((sp_rfm T e : Nat) : Int)) 9 0 2 A.length (oy_zs (sp_asg T e))) 9 0 3 0 ((A.length + 1 : Nat) : Int)) := by
    unfold F_Arc_put
    rw [c4.1, e2, Option.bind_some, n9, if_neg (show ¬ σ1 9 0 3 0 < 0 by rw [c2]; omega), if_pos (show σ1 9 0 3 0 < 5 by rw [c2]; omega), if_pos (by omega), if_pos (by omega), Int.toNat_natCast, oy_w1 (by omega), Int.emod_eq_of_lt (by omega) (by omega)]
  rw [hput, Option.bind_some]
  generalize hσ3 : ox_up (ox_up (ox_up σ2 9 0 1 A.length ((sp_rfm T e : Nat) : Int)) 9 0 2 A.length (oy_zs (sp_asg T e))) 9 0 3 0 ((A.length + 1 : Nat) : Int) = σ3
  have f3 : oy_fs (fun c _ _ _ => c = 9) σ2 σ3 := by
    rw [← hσ3]
    exact ((oy_fs.rf.up rfl).up rfl).up rfl
  have f13 : oy_fs (fun c k j i => oy_le 4 c k j i ∨ c = 9) σ1 σ3 := (d2.1.mono (fun _ _ _ _ => Or.inl)).tr (f3.mono (fun _ _ _ _ => Or.inr))
  have cs3 : oy_cs T σ3 := s1.2.1.frame f13 (fun k j i => by unfold oy_le; omega)
  have hv3 : σ3 1 0 5 0 ≤ 1000000000 := by
    obtain ⟨-, -, d, hd, hd2, -⟩ := s1
    rw [f13 1 0 5 0 (by unfold oy_le; omega)]
    omega
  have hac3 : oy_ac (A ++ [(sp_prt T e, sp_asg T e)]) σ3 := by
    have e1' : ∀ j i, σ3 1 4 j i = σ2 1 4 j i := fun j i => f3 1 4 j i (show ¬ (1 : Nat) = 9 by decide)
    refine ⟨sp_arch_aok hT he c1 q5, ?_, fun i hi => ?_, ?_, ?_, ?_⟩
    · rw [← hσ3, oy_up_same, List.length_append]
      rfl
    · rw [List.length_append] at hi
      have hi2 : i < A.length + 1 := hi
      have v1 : σ3 9 0 1 i = if i = A.length then ((sp_rfm T e : Nat) : Int) else σ2 9 0 1 i := by
        rw [← hσ3, oy_up_ne (by decide), oy_up_ne (by decide)]
        by_cases z : i = A.length
        · rw [if_pos z, z, oy_up_same]
        · rw [if_neg z, oy_up_ni z]
      have v2 : σ3 9 0 2 i = if i = A.length then oy_zs (sp_asg T e) else σ2 9 0 2 i := by
        rw [← hσ3, oy_up_ne (by decide)]
        by_cases z : i = A.length
        · rw [if_pos z, z, oy_up_same]
        · rw [if_neg z, oy_up_ni z, oy_up_ne (by decide)]
      rw [oy_ag_snoc hi2, v1, v2]
      by_cases z : i < A.length
      · have c3' := c3 i z
        rw [if_pos z, if_neg (show ¬ i = A.length by omega), if_neg (show ¬ i = A.length by omega), d2.1 9 0 1 i (fun q => absurd q.1 (by decide)), d2.1 9 0 2 i (fun q => absurd q.1 (by decide))]
        exact c3'
      · have z2 : i = A.length := by omega
        rw [if_neg z, if_pos z2, if_pos z2]
        exact ⟨by show ((sp_rfm T e : Nat) : Int) = ((sp_prt T e).length : Int); rw [ePl], rfl⟩
    · rw [sp_fl_app]
      exact ⟨(e1' _ _).trans d2.2.1.1, fun l hl => (e1' _ _).trans (d2.2.1.2.1 l hl), fun l p hl hp => (e1' _ _).trans (d2.2.1.2.2 l p hl hp)⟩
    · exact (e1' _ _).trans (d2.w.1.trans c5)
    · exact (e1' _ _).trans (d2.w.2.trans c6)
  obtain ⟨σ4, e4, d4⟩ := oc_close (oy_ok_L hT) cs3.1.1.1 cs3.1.1.2.1 (a := sp_en T e) (m := sp_rfm T e) hr.1 hr.2
  have s4 := oy_cs_ed cs3 hv3 (by omega) d4
  rw [e4, Option.bind_some]
  refine ⟨σ4, ?_, ((s1.1.mono (fun _ _ _ _ => Or.inl)).tr (f13.mono (fun _ _ _ _ => Or.inr))).tr (s4.1.mono (fun _ _ _ _ => Or.inl)), s4.2.1, hac3.tx s4.1, ?_⟩
  · rw [d4.1 9 0 3 0 (fun q => absurd q.1 (by decide)), hac3.2.1, List.length_append]
    rfl
  · obtain ⟨-, -, d, x3, x4, x5⟩ := s1
    obtain ⟨-, -, d', y3, y4, y5⟩ := s4
    have z := f13 1 0 5 0 (by unfold oy_le; omega)
    exact ⟨d', by omega, by omega, fun y => y5 y⟩
theorem oc_back (hT : oy_ok T) (h : oy_cs T σ) (hv : σ 1 0 5 0 ≤ 1000000000) (hac : oy_ac A σ) : ∃ σ1, F_Out_bringBack σ = some ((sp_back T A).1, σ1) ∧ oy_fs oy_txa σ σ1 ∧ oy_cs (sp_back T A).2.1 σ1 ∧ oy_ac (sp_back T A).2.2 σ1 ∧ ∃ d : Nat, d ≤ 2 ∧ σ1 1 0 5 0 = σ 1 0 5 0 + (d : Int) ∧ (d = 0 → (sp_back T A).2.1 = T) := by
  have h60 := hT.1
  have hbad : ∀ r : Nat ⊕ Int, ∃ σ2, (some (r, σ) : Option ((Nat ⊕ Int) × ox_H)) = some (r, σ2) ∧ oy_fs oy_txa σ σ2 ∧ oy_cs T σ2 ∧ oy_ac A σ2 ∧ ∃ d : Nat, d ≤ 2 ∧ σ2 1 0 5 0 = σ 1 0 5 0 + (d : Int) ∧ (d = 0 → T = T) := fun r => ⟨σ, rfl, oy_fs.rf, h, hac, 0, by omega, (Int.add_zero _).symm, fun _ => rfl⟩
  have hac0 := hac
  obtain ⟨c1, c2, c3, c4, c5, c6⟩ := hac
  unfold F_Out_bringBack sp_back
  by_cases qn : 1 ≤ A.length
  rotate_left
  · rw [if_neg (show ¬ 1 ≤ σ 9 0 3 0 by rw [c2]; omega), if_neg (fun z => qn z.1)]
    exact hbad _
  obtain ⟨B, P, s, rfl⟩ : ∃ B P s, A = B ++ [(P, s)] := by
    refine ⟨A.dropLast, (A.getLast (List.ne_nil_of_length_pos qn)).1, (A.getLast (List.ne_nil_of_length_pos qn)).2, ?_⟩
    exact (List.dropLast_concat_getLast _).symm
  have hlen : (B ++ [(P, s)]).length = B.length + 1 := by rw [List.length_append]; rfl
  have hag : oy_ag (B ++ [(P, s)]) ((B ++ [(P, s)]).length - 1) = (P, s) := by
    rw [hlen, oy_ag_snoc (by omega), if_neg (by omega)]
  have hPm := c1.2 (P, s) (List.mem_append_right _ (List.mem_singleton.mpr rfl))
  have hB5 : B.length + 1 ≤ 5 := by have := c1.1; omega
  have hBok : oy_aok B := ⟨by omega, fun Q hQ => c1.2 Q (List.mem_append_left _ hQ)⟩
  have i1 := c3 B.length (by omega)
  rw [oy_ag_snoc (by omega), if_neg (by omega)] at i1
  rw [hag, List.dropLast_concat]
  have hPm1 : 1 ≤ P.length ∧ P.length ≤ 60 ∧ (∀ l, oy_good 0 (oy_ln P l)) ∧ (s = -1 ∨ (32 ≤ s ∧ s ≤ 126)) := hPm
  have i1' : σ 9 0 1 B.length = (P.length : Int) ∧ σ 9 0 2 B.length = oy_zs s := i1
  have c2' : σ 9 0 3 0 = ((B.length + 1 : Nat) : Int) := by rw [c2, hlen]
  have ewc : Nat → ox_w (((B.length + 1 : Nat) : Int) - 1) = ((B.length : Nat) : Int) := fun _ => by rw [oy_w (by omega) (by omega)]; omega
  have hsz : ∀ τ : ox_H, (∀ j i, τ 9 0 j i = σ 9 0 j i) → F_Arc_latestSize τ = some (P.length : Int) := fun τ hτ => by
    unfold F_Arc_latestSize J_Arc_latestSize_30
    rw [hτ 3 0, c2', if_neg (by omega), if_neg (by omega), (ewc 0), Int.toNat_natCast, if_pos (by omega), hτ, i1'.1]
  dsimp only
  rw [if_pos (show 1 ≤ σ 9 0 3 0 by rw [c2']; omega), hsz σ (fun _ _ => rfl), Option.bind_some, oc_room h.1.1 hT (m := (P.length : Int)) (by omega), Option.bind_some]
  by_cases qr : T.length + P.length ≤ 60
  rotate_left
  · rw [if_neg (show ¬ (T.length : Int) + (P.length : Int) ≤ 60 by omega), if_neg (fun z => qr z.2)]
    exact hbad _
  rw [if_pos (show (T.length : Int) + (P.length : Int) ≤ 60 by omega), if_pos ⟨by omega, qr⟩]
  obtain ⟨σ1, e1, s1, q1⟩ := oy_cs_ask hT h
  have hac1 := hac0.tx s1.1
  have e91 : ∀ j i, σ1 9 0 j i = σ 9 0 j i := fun j i => s1.1 9 0 j i (by unfold oy_tx oy_le oy_rf; omega)
  have hsg : F_Arc_latestSign σ1 = some (oy_zs s) := by
    have hzs : 0 ≤ oy_zs s ∧ oy_zs s ≤ 126 := by unfold oy_zs; split <;> omega
    unfold F_Arc_latestSign J_Arc_latestSign_30
    rw [e91 3 0, c2', if_neg (by omega), if_neg (by omega), (ewc 0), Int.toNat_natCast, if_pos (by omega), e91, i1'.2, Int.emod_eq_of_lt hzs.1 (by omega)]
  have hti : F_Otl_titled (oy_zs s) σ1 = some (if s = -1 then -1 else sp_ti T s) := by
    unfold oy_zs
    by_cases z : s = -1
    · rw [if_pos z, if_pos z]
      unfold F_Otl_titled J_Otl_titled_2
      refine oy_lp_m (n := 99999) ?_
      unfold B_Otl_titled_2 J_Otl_titled_31
      rw [q1.1.1]
      by_cases y : ((sp_n T : Nat) : Int) ≤ 0
      · rw [if_pos y]
      · rw [if_neg y, if_pos rfl]
    · rw [if_neg z, if_neg z]
      exact oc_titled hT q1 (by omega)
  have hpin : (if s = -1 then -1 else sp_ti T s) = -1 ∨ (0 ≤ (if s = -1 then -1 else sp_ti T s) ∧ (if s = -1 then -1 else sp_ti T s) < sp_n T) := by
    by_cases z : s = -1
    · rw [if_pos z]
      exact Or.inl rfl
    · rw [if_neg z]
      exact sp_ti_in
  dsimp only
  rw [e1, Option.bind_some, hsg, Option.bind_some, hti, Option.bind_some, oc_endUnder hT q1 hpin, Option.bind_some]
  have ebat : sp_eu T (if s = -1 then -1 else sp_ti T s) = sp_bat T s := rfl
  rw [ebat]
  have hble : sp_bat T s ≤ T.length := sp_eu_le
  obtain ⟨c1', c2'', c3', c4', c5', c6'⟩ := hac1
  rw [sp_fl_app] at c4'
  have hflok : oy_okL 4 (sp_fl B ++ P) := by
    have := sp_fl_ok c1
    rw [sp_fl_app] at this
    exact this
  have hfl := sp_fl_len B (fun P hP => (hBok.2 P hP).2.1)
  obtain ⟨σ2, e2, d2⟩ := oc_copy (k := 0) (k1 := 4) (a := (sp_fl B).length) (m := P.length) (b := sp_bat T s) (oy_ok_L hT) q1.2.1 q1.2.2.1 s1.2.1.1.1.2.2.1 hflok c4' c5' rfl (by decide) hPm1.1 (by rw [List.length_append]; omega) hble (by show _ ≤ 60; omega)
  rw [sp_sub_app] at d2
  have L2 := c4'.le d2.1 (by decide)
  obtain ⟨σ3, e3, d3⟩ := oc_close hflok L2 ((d2.1 1 4 1 0 (fun q => absurd q.2.1 (by decide))).trans c5') (a := (sp_fl B).length) (m := P.length) hPm1.1 (by rw [List.length_append]; omega)
  rw [sp_del_app] at d3
  have ewf : Nat → ox_w (((sp_fl B ++ P).length : Int) - (P.length : Int)) = (((sp_fl B).length : Nat) : Int) := fun _ => by
    rw [List.length_append, oy_wsb (by omega) (by omega)]
    omega
  have n9 : σ3 9 0 3 0 = ((B.length + 1 : Nat) : Int) := by rw [d3.1 9 0 3 0 (fun q => absurd q.1 (by decide)), d2.1 9 0 3 0 (fun q => absurd q.1 (by decide)), e91, c2']
  have htk : F_Arc_take 0 ((sp_bat T s : Nat) : Int) σ1 = some (ox_up σ3 9 0 3 0 ((B.length : Nat) : Int)) := by
    unfold F_Arc_take
    rw [hsz σ1 e91, Option.bind_some, c4'.1, (ewf 0), e2, Option.bind_some, e3, Option.bind_some, n9, (ewc 0)]
  have hv1 : σ1 1 0 5 0 ≤ 1000000000 := by
    obtain ⟨-, -, d, hd, hd2, -⟩ := s1
    omega
  have s2 := oy_cs_ed s1.2.1 hv1 (by omega) d2
  have f23 : oy_fs (fun c k j i => oy_le 4 c k j i ∨ c = 9) σ2 (ox_up σ3 9 0 3 0 ((B.length : Nat) : Int)) := (d3.1.mono (fun _ _ _ _ => Or.inl)).up (Or.inr rfl)
  have cs3 := s2.2.1.frame f23 (fun k j i => by unfold oy_le; omega)
  rw [htk, Option.bind_some]
  refine ⟨_, ?_, ((s1.1.mono (fun _ _ _ _ => Or.inl)).tr (s2.1.mono (fun _ _ _ _ => Or.inl))).tr (f23.mono (fun _ _ _ _ => Or.inr)), cs3, ⟨hBok, oy_up_same, fun i hi => ?_, ?_, ?_, ?_⟩, ?_⟩
  · rw [oy_up_same, hlen]
    have : ((B.length + 1 : Nat) : Int) - 1 = (B.length : Int) := by omega
    rw [this]
  · have := c3 i (by omega)
    rw [oy_ag_snoc (by omega), if_pos hi] at this
    rw [oy_up_ne (by decide), oy_up_ne (by decide), d3.1 9 0 1 i (fun q => absurd q.1 (by decide)), d3.1 9 0 2 i (fun q => absurd q.1 (by decide)), d2.1 9 0 1 i (fun q => absurd q.1 (by decide)), d2.1 9 0 2 i (fun q => absurd q.1 (by decide)), e91, e91]
    exact this
  · have e1' : ∀ j i, (ox_up σ3 9 0 3 0 ((B.length : Nat) : Int)) 1 4 j i = σ3 1 4 j i := fun j i => oy_up_ne (by omega)
    exact ⟨(e1' _ _).trans d3.2.1.1, fun l hl => (e1' _ _).trans (d3.2.1.2.1 l hl), fun l p hl hp => (e1' _ _).trans (d3.2.1.2.2 l p hl hp)⟩
  · rw [oy_up_ne (by decide), d3.w.1, d2.1 1 4 1 0 (fun q => absurd q.2.1 (by decide))]
    exact c5'
  · rw [oy_up_ne (by decide), d3.w.2, d2.1 1 4 0 0 (fun q => absurd q.2.1 (by decide))]
    exact c6'
  · obtain ⟨-, -, d, x3, x4, x5⟩ := s1
    obtain ⟨-, -, d', y3, y4, y5⟩ := s2
    have z := f23 1 0 5 0 (by unfold oy_le; omega)
    exact ⟨d', by omega, by omega, fun y => y5 y⟩
end OYH3
