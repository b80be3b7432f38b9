/-! ===== blocks kept: the class's run ===== -/
/-- what is kept: the lines seen, marks, values, how often -/
def oy_K : Type := oy_T × (Nat → Int) × (Nat → Int) × Int
def oy_kc (K : oy_K) (σ : ox_H) : Prop := oy_kl K.1 σ ∧ (∀ x, x < 26 → σ 8 0 3 x = K.2.1 x ∧ σ 8 0 4 x = K.2.2.1 x) ∧ σ 8 0 5 0 = K.2.2.2
/-- the lines seen anew -/
def sp_k0 (T : oy_T) (K : oy_K) : oy_K := (sp_kp T, if K.1 = sp_kp T then K.2.1 else (fun _ => 0), K.2.2)
/-- a block found, if it is not kept -/
def sp_k1 (T : oy_T) (f : Nat → Nat → Int) (K : oy_K) (x : Nat) : Int × oy_K :=
  if sp_bk T (x : Int) = none then (1000000, K) else if K.2.1 x = 0 then (oy_cl (sp_fa f (sp_bk T (x : Int)) 0), (K.1, (fun y => if y = x then 1 else K.2.1 y), (fun y => if y = x then oy_cl (sp_fa f (sp_bk T (x : Int)) 0) else K.2.2.1 y), ox_w (K.2.2.2 + 1))) else (K.2.2.1 x, K)
def sp_run (T : oy_T) (f : Nat → Nat → Int) (K : oy_K) (a : Int) : (Nat ⊕ Int) × oy_K := if 0 ≤ a ∧ a < 26 then (.inr (sp_k1 T f (sp_k0 T K) a.toNat).1, (sp_k1 T f (sp_k0 T K) a.toNat).2) else (.inl 2, K)
theorem oy_kl.le {S : oy_T} {σ σ' : ox_H} {F : Nat → Nat → Nat → Nat → Prop} (h : oy_kl S σ) (hf : oy_fs F σ σ') (hF : ∀ j i, ¬ F 1 3 j i) : oy_kl S σ' := by
  obtain ⟨h1, h2, h3, h4⟩ := h
  have e : ∀ j i, σ' 1 3 j i = σ 1 3 j i := fun j i => hf _ _ _ _ (hF j i)
  exact ⟨h1, ⟨(e _ _).trans h2.1, fun l hl => (e _ _).trans (h2.2.1 l hl), fun l p hl hp => (e _ _).trans (h2.2.2 l p hl hp)⟩, (e _ _).trans h3, (e _ _).trans h4⟩
section OYM2
variable {T S : oy_T} {σ : ox_H} {f : Nat → Nat → Int} {K : oy_K}
theorem oc_kcl : ∀ (k x n : Nat) (σ : ox_H), x + k = 26 → k < n → ∃ τ, ox_lp B_Kep_refresh_10 n ((x : Int), σ) = J_Kep_refresh_29 τ ∧ oy_fs (fun c _ j _ => c = 8 ∧ j = 3) σ τ ∧ ∀ i, i < 26 → x ≤ i ∨ σ 8 0 3 i = 0 → τ 8 0 3 i = 0
  | _, _, 0, _, _, h => absurd h (Nat.not_lt_zero _)
  | 0, x, n + 1, σ, h1, _ => by
    refine ⟨σ, oy_lp_m ?_, oy_fs.rf, fun i hi h => h.resolve_left (by omega)⟩
    unfold B_Kep_refresh_10
    dsimp only
    rw [if_pos (by omega)]
  | k + 1, x, n + 1, σ, h1, h2 => by
    obtain ⟨τ, e, fr, g⟩ := oc_kcl k (x + 1) n (ox_up σ 8 0 3 x 0) (by omega) (by omega)
    have f0 : oy_fs (fun c _ j _ => c = 8 ∧ j = 3) σ (ox_up σ 8 0 3 x 0) := oy_fs.rf.up ⟨rfl, rfl⟩
    refine ⟨τ, (oy_lp_l (a' := (((x + 1 : Nat) : Int), ox_up σ 8 0 3 x 0)) ?_).trans e, f0.tr fr, fun i hi h => g i hi ?_⟩
    · unfold B_Kep_refresh_10
      dsimp only
      rw [if_neg (by omega), if_pos (by omega), Int.toNat_natCast, oy_w1 (by omega)]
    · by_cases q : i = x
      · rw [q]
        exact Or.inr oy_up_same
      · rw [oy_up_ni q]
        rcases h with h | h
        · exact Or.inl (by omega)
        · exact Or.inr h
theorem oy_kl.ed {S S' : oy_T} {σ σ' : ox_H} (h : oy_kl S σ) (d : oy_ed 3 1 S' σ σ') (hok : oy_okL 3 S') : oy_kl S' σ' ∧ oy_fs oy_s8 σ σ' := ⟨⟨hok, d.2.1, d.w.1.trans h.2.2.1, d.w.2.trans h.2.2.2⟩, d.1.mono (fun _ _ _ _ z => Or.inr z)⟩
theorem oc_kapp (hT : oy_ok T) : ∀ (k p n : Nat) (S : oy_T) (σ : ox_H), oy_Q T σ → oy_kl S σ → p + k = T.length → S.length ≤ p → k < n → ∃ τ, ox_lp B_Kep_refresh_46 n ((p : Int), σ) = some τ ∧ oy_fs (oy_le 3) σ τ ∧ oy_kl (S ++ sp_kq T k p) τ
  | _, _, 0, _, _, _, _, _, _, h => absurd h (Nat.not_lt_zero _)
  | 0, p, n + 1, S, σ, hQ, hS, h1, h2, _ => by
    refine ⟨σ, oy_lp_m (X := some σ) ?_, oy_fs.rf, by rw [sp_kq, List.append_nil]; exact hS⟩
    unfold B_Kep_refresh_46 J_Kep_refresh_97
    dsimp only
    rw [hQ.2.1.1, if_pos (by omega)]
  | k + 1, p, n + 1, S, σ, hQ, hS, h1, h2, h3 => by
    have h60 := hT.1
    rw [sp_kq]
    by_cases q : sp_ct (oy_ln T p) = true
    rotate_left
    · rw [if_neg q]
      obtain ⟨τ, e, fr, g⟩ := oc_kapp hT k (p + 1) n S σ hQ hS (by omega) (by omega) (by omega)
      refine ⟨τ, (oy_lp_l (a' := (((p + 1 : Nat) : Int), σ)) ?_).trans e, fr, g⟩
      unfold B_Kep_refresh_46 J_Kep_refresh_91
      dsimp only
      rw [hQ.2.1.1, if_neg (by omega), oc_counts hQ hT (by omega), Option.bind_some, if_neg q, if_pos rfl, oy_w1 (by omega)]
    rw [if_pos q]
    have hok1 : oy_okL 3 (S ++ [oy_ln T p]) := by
      refine ⟨?_, fun w hw => ?_⟩
      · rw [List.length_append]
        show S.length + 1 ≤ 60
        omega
      · rcases List.mem_append.mp hw with z | z
        · exact hS.1.2 w z
        · rw [List.mem_singleton.mp z]
          exact oy_good_ln (oy_ok_L hT) p
    have es : sp_sub T p 1 = [oy_ln T p] := by
      refine oy_extT sp_sub_len (fun l hl => ?_)
      rw [sp_sub_len] at hl
      rw [sp_sub_ln hl, show l = 0 by omega]
      rfl
    obtain ⟨σ1, e1, d1⟩ := oc_copy (k := 3) (k1 := 0) (a := p) (m := 1) (b := S.length) hS.1 hS.2.1 hS.2.2.1 hS.2.2.2 (oy_ok_L hT) hQ.2.1 hQ.2.2.1 rfl (by decide) (Nat.le_refl _) (by omega) (Nat.le_refl _) (by show S.length + 1 ≤ 60; omega)
    rw [sp_pas_app, es] at d1
    obtain ⟨K1, f1⟩ := hS.ed d1 hok1
    have Q1 := hQ.s8 f1
    obtain ⟨τ, e, fr, g⟩ := oc_kapp hT k (p + 1) n (S ++ [oy_ln T p]) σ1 Q1 K1 (by omega) (by rw [List.length_append]; show S.length + 1 ≤ p + 1; omega) (by omega)
    refine ⟨τ, (oy_lp_l (a' := (((p + 1 : Nat) : Int), σ1)) ?_).trans e, d1.1.tr fr, by
      rw [List.append_assoc] at g
      exact g⟩
    unfold B_Kep_refresh_46 J_Kep_refresh_91
    dsimp only
    have e1' : F_Lin_copy 3 0 (p : Int) 1 (S.length : Int) σ = some σ1 := e1
    rw [hQ.2.1.1, if_neg (by omega), oc_counts hQ hT (by omega), Option.bind_some, if_pos q, if_neg oy_10, hS.2.1.1, e1', Option.bind_some, oy_w1 (by omega)]
theorem oc_krefresh (hT : oy_ok T) (hQ : oy_Q T σ) (hK : oy_kc K σ) : ∃ τ, F_Kep_refresh σ = some τ ∧ oy_fs oy_s8 σ τ ∧ oy_kc (sp_k0 T K) τ := by
  have h60 := hT.1
  obtain ⟨hS, hx, hc⟩ := hK
  have hs60 : K.1.length ≤ 60 := hS.1.1
  unfold F_Kep_refresh
  rw [oc_isAsSeen hT hQ hS, Option.bind_some]
  by_cases q : K.1 = sp_kp T
  · rw [if_pos q, if_neg oy_10]
    have e : sp_k0 T K = K := by
      unfold sp_k0
      rw [if_pos q, ← q]
      rfl
    rw [e]
    exact ⟨σ, rfl, oy_fs.rf, hS, hx, hc⟩
  rw [if_neg q, if_pos rfl]
  obtain ⟨σ1, e1, f1, g1⟩ := oc_kcl 26 0 ox_fu σ rfl (by show 26 < 100000; decide)
  have f1' : oy_fs oy_s8 σ σ1 := f1.mono (fun _ _ _ _ z => Or.inl z.1)
  have S1 : oy_kl K.1 σ1 := hS.le f1 (fun j i z => by have := z.1; omega)
  have Q1 := hQ.s8 f1'
  have cl : ∃ σ2, F_Lin_close 3 0 (σ1 1 3 4 0) σ1 = some σ2 ∧ oy_fs (oy_le 3) σ1 σ2 ∧ oy_kl [] σ2 := by
    by_cases z : K.1.length = 0
    · refine ⟨σ1, ?_, oy_fs.rf, ?_⟩
      · unfold F_Lin_close J_Lin_close_19
        rw [S1.2.1.1, if_neg (by decide), if_pos (by omega)]
      · rw [List.length_eq_zero_iff.mp z] at S1
        exact S1
    · obtain ⟨σ2, e2, d2⟩ := oc_close (k := 3) (a := 0) (m := K.1.length) S1.1 S1.2.1 S1.2.2.1 (by omega) (by omega)
      have en : sp_del K.1 0 K.1.length = [] := by
        apply List.length_eq_zero_iff.mp
        rw [sp_del_len]
        omega
      rw [en] at d2
      refine ⟨σ2, by rw [S1.2.1.1]; exact e2, d2.1, (S1.ed d2 ⟨Nat.zero_le _, fun w hw => by cases hw⟩).1⟩
  obtain ⟨σ2, e2, f2, S2⟩ := cl
  have f2' : oy_fs oy_s8 σ1 σ2 := f2.mono (fun _ _ _ _ z => Or.inr z)
  obtain ⟨σ3, e3, f3, S3⟩ := oc_kapp hT T.length 0 ox_fu [] σ2 (Q1.s8 f2') S2 (Nat.zero_add _) (Nat.le_refl _) (by show T.length < 100000; omega)
  have e8 : ∀ j i, σ3 8 0 j i = σ1 8 0 j i := fun j i => (f3 8 0 j i (by unfold oy_le; omega)).trans (f2 8 0 j i (by unfold oy_le; omega))
  refine ⟨σ3, ?_, f1'.tr (f2'.tr (f3.mono (fun _ _ _ _ z => Or.inr z))), S3, fun x h26 => ⟨?_, ?_⟩, ?_⟩
  · unfold J_Kep_refresh_10
    refine Eq.trans e1 ?_
    unfold J_Kep_refresh_29 J_Kep_refresh_46
    rw [e2, Option.bind_some]
    exact e3
  · rw [e8, g1 x h26 (Or.inl (Nat.zero_le _))]
    unfold sp_k0
    rw [if_neg q]
  · rw [e8, f1 8 0 4 x (fun z => by have := z.2; omega)]
    exact (hx x h26).2
  · rw [e8, f1 8 0 5 0 (fun z => by have := z.2; omega)]
    exact hc
theorem oc_found (hT : oy_ok T) (hv : oy_vs (fun l c => oy_cl (f l c)) σ) (hb : oy_bks T σ) (hK : oy_kc K σ) {x : Nat} (hx : x < 26) : ∃ τ, F_Kep_found (x : Int) σ = some ((sp_k1 T f K x).1, τ) ∧ oy_fs oy_s8 σ τ ∧ (∀ k j i, τ 5 k j i = σ 5 k j i) ∧ oy_kc (sp_k1 T f K x).2 τ := by
  have h60 := hT.1
  obtain ⟨hS, hk, hc⟩ := hK
  unfold F_Kep_found sp_k1
  rw [oc_blockLine hb hx, Option.bind_some]
  cases hbk : sp_bk T (x : Int) with
  | none =>
    unfold J_Kep_found_24
    rw [if_pos (show oy_en none = -1 from rfl), if_pos rfl, oy_er]
    exact ⟨σ, rfl, oy_fs.rf, fun _ _ _ => rfl, hS, hk, hc⟩
  | some r =>
    have hr := sp_bk_in hbk
    have er : oy_en (some r) = (r : Int) := rfl
    have c0 : 0 ≤ (x : Int) ∧ (x : Int).toNat < 26 := by omega
    rw [er, if_neg (by omega), if_neg (by omega), if_pos (by omega), if_pos c0, if_pos c0, Int.toNat_natCast, (hk x hx).1, if_neg (show ¬ (some r = (none : Option Nat)) from fun z => by cases z)]
    by_cases q : K.2.1 x = 0
    · rw [if_pos q, if_pos q]
      have v1 : oy_vs (fun l c => oy_cl (f l c)) (ox_up σ 8 0 3 x 1) := fun l c hl hc => (oy_up_ne (by decide)).trans (hv l c hl hc)
      have ea := oc_valueAt v1 (l := r) (c := 0) (by omega) (by decide)
      have ea' : F_She_valueAt (r : Int) 0 (ox_up σ 8 0 3 x 1) = some (oy_cl (f r 0)) := ea
      have f1 : oy_fs oy_s8 σ (ox_up (ox_up (ox_up σ 8 0 3 x 1) 8 0 4 x (oy_cl (f r 0))) 8 0 5 0 (ox_w (σ 8 0 5 0 + 1))) := ((oy_fs.rf.up (Or.inl rfl)).up (Or.inl rfl)).up (Or.inl rfl)
      have f2 : oy_fs (fun c _ _ _ => c = 8) σ (ox_up (ox_up (ox_up σ 8 0 3 x 1) 8 0 4 x (oy_cl (f r 0))) 8 0 5 0 (ox_w (σ 8 0 5 0 + 1))) := ((oy_fs.rf.up rfl).up rfl).up rfl
      unfold J_Kep_found_68
      rw [ea', Option.bind_some, if_pos (show 0 ≤ (x : Int) ∧ x < 26 by omega), if_pos c0, Int.toNat_natCast]
      refine ⟨_, congrArg some (Prod.ext ?_ rfl), f1, fun k j i => f2 5 k j i (show ¬ (5 = 8) by decide), hS.le f2 (fun j i => show ¬ (1 = 8) by decide), fun y hy => ⟨?_, ?_⟩, ?_⟩
      · dsimp only
        rw [oy_up_ne (by decide), oy_up_same]
        rfl
      · dsimp only
        rw [oy_up_ne (by decide), oy_up_ne (by decide)]
        by_cases z : y = x
        · rw [z, if_pos rfl]
          exact oy_up_same
        · rw [if_neg z, oy_up_ni z]
          exact (hk y hy).1
      · dsimp only
        rw [oy_up_ne (by decide)]
        by_cases z : y = x
        · rw [z, if_pos rfl]
          exact oy_up_same
        · rw [if_neg z, oy_up_ni z, oy_up_ne (by decide)]
          exact (hk y hy).2
      · rw [oy_up_same, hc]
    · rw [if_neg q, if_neg q]
      unfold J_Kep_found_68
      rw [if_pos c0, Int.toNat_natCast, (hk x hx).2]
      exact ⟨σ, rfl, oy_fs.rf, fun _ _ _ => rfl, hS, hk, hc⟩
/-- what a call of run writes -/
def oy_txk (c k j i : Nat) : Prop := oy_tx c k j i ∨ c = 5 ∨ oy_s8 c k j i
theorem oc_run (hT : oy_ok T) (h : oy_cs T σ) (hS : oy_SC T σ) (hfi : oy_fin T f) (hK : oy_kc K σ) {a : Int} : ∃ σ1, F_Out_run a σ = some ((sp_run T f K a).1, σ1) ∧ oy_fs oy_txk σ σ1 ∧ oy_cs T σ1 ∧ oy_SC T σ1 ∧ oy_kc (sp_run T f K a).2 σ1 ∧ σ1 1 0 5 0 = σ 1 0 5 0 := by
  unfold F_Out_run F_Out_checkLetter J_Out_checkLetter_10 sp_run
  by_cases q : 0 ≤ a ∧ a < 26
  rotate_left
  · rw [if_neg q]
    by_cases z : a < 0
    · rw [if_pos z, Option.bind_some]
      exact ⟨σ, rfl, oy_fs.rf, h, hS, hK, rfl⟩
    · rw [if_neg z, if_neg (by omega), Option.bind_some]
      exact ⟨σ, rfl, oy_fs.rf, h, hS, hK, rfl⟩
  rw [if_pos q, if_neg (by omega), if_pos q.2, Option.bind_some]
  obtain ⟨x, rfl⟩ : ∃ x : Nat, a = x := ⟨a.toNat, by omega⟩
  rw [Int.toNat_natCast]
  obtain ⟨σ1, e1, s1, q1, v1⟩ := oy_cs_ask2 hT h
  obtain ⟨f1, c1, d, hd, ev, _⟩ := s1
  have ev0 : σ1 1 0 5 0 = σ 1 0 5 0 := by rw [ev]; omega
  have e5 : ∀ j i, σ1 5 0 j i = σ 5 0 j i := fun j i => f1 5 0 j i (by unfold oy_tx oy_le oy_rf; omega)
  have e8 : ∀ j i, σ1 8 0 j i = σ 8 0 j i := fun j i => f1 8 0 j i (by unfold oy_tx oy_le oy_rf; omega)
  have K1 : oy_kc K σ1 := ⟨hK.1.le f1 (fun j i => by unfold oy_tx oy_le oy_rf; omega), fun y hy => ⟨(e8 _ _).trans (hK.2.1 y hy).1, (e8 _ _).trans (hK.2.1 y hy).2⟩, (e8 _ _).trans hK.2.2⟩
  obtain ⟨σ2, e2, f2, K2⟩ := oc_krefresh hT q1 K1
  have Q2 := q1.s8 f2
  have e52 : ∀ j i, σ2 5 0 j i = σ1 5 0 j i := fun j i => f2 5 0 j i (by unfold oy_s8 oy_le; omega)
  have e22 : σ2 2 0 10 0 = σ1 2 0 10 0 := f2 2 0 10 0 (by unfold oy_s8 oy_le; omega)
  have e12 : σ2 1 0 5 0 = σ1 1 0 5 0 := f2 1 0 5 0 (by unfold oy_s8 oy_le; omega)
  have c2 : oy_cs T σ2 := c1.frame f2 (fun k j i => by unfold oy_s8 oy_le; omega)
  obtain ⟨σ3, e3, f3, S3, v3⟩ := oc_sheet hT Q2 (fun z => (hS.2 (by rw [e52, e5, e22] at z; omega)).cg (fun j i => (e52 j i).trans (e5 j i)))
  have e83 : ∀ j i, σ3 8 0 j i = σ2 8 0 j i := fun j i => f3 8 0 j i (by unfold oy_s5; omega)
  have e13 : σ3 1 0 5 0 = σ2 1 0 5 0 := f3 1 0 5 0 (by unfold oy_s5; omega)
  have c3 : oy_cs T σ3 := c2.frame f3 (fun k j i => by unfold oy_s5; omega)
  have K3 : oy_kc (sp_k0 T K) σ3 := ⟨K2.1.le f3 (fun j i => by unfold oy_s5; omega), fun y hy => ⟨(e83 _ _).trans (K2.2.1 y hy).1, (e83 _ _).trans (K2.2.1 y hy).2⟩, (e83 _ _).trans K2.2.2⟩
  obtain ⟨f', hf', hvs, htp, hbk⟩ := S3
  have ef : f' = f := hf'.uniq hfi
  rw [ef] at hvs hf'
  obtain ⟨σ4, e4, f4, g4, K4⟩ := oc_found hT hvs hbk K3 (show x < 26 by omega)
  have e14 : σ4 1 0 5 0 = σ3 1 0 5 0 := f4 1 0 5 0 (by unfold oy_s8 oy_le; omega)
  have S4 : oy_SH T σ4 := oy_SH.cg ⟨f, hf', hvs, htp, hbk⟩ (fun j i => g4 0 j i)
  have c4 : oy_cs T σ4 := c3.frame f4 (fun k j i => by unfold oy_s8 oy_le; omega)
  have v4 : σ4 5 0 5 0 = σ4 1 0 5 0 := by rw [g4 0 5 0, v3, e22, v1, e14, e13, e12]
  refine ⟨σ4, ?_, (f1.mono (fun _ _ _ _ z => Or.inl z)).tr ((f2.mono (fun _ _ _ _ z => Or.inr (Or.inr z))).tr ((f3.mono (fun _ _ _ _ z => Or.inr (Or.inl z))).tr (f4.mono (fun _ _ _ _ z => Or.inr (Or.inr z))))), c4, ⟨by omega, fun _ => S4⟩, K4, by omega⟩
  dsimp only
  rw [e1, Option.bind_some, e2, Option.bind_some, e3, Option.bind_some, e4, Option.bind_some]
theorem oc_runs (hK : oy_kc K σ) : F_Out_runs σ = some K.2.2.2 := by
  unfold F_Out_runs
  rw [hK.2.2]
end OYM2
