/-! ===== the calls' texts keep the bounds; what the calls throw ===== -/
section OYO1
variable {T : oy_T} {A : oy_A}
theorem sp_line_t (hT : oy_ok T) {a : Int} : oy_ok (sp_line T a).2 ∧ ∀ e, (sp_line T a).1 = .inl e → e = 1 ∨ e = 3 := by
  unfold sp_line
  split
  · split
    · exact ⟨sp_ins_ok (k := 0) hT (by show T.length + 1 ≤ 60; omega), fun e h => by cases h⟩
    · exact ⟨hT, fun e h => Or.inr (Sum.inl.inj h).symm⟩
  · exact ⟨hT, fun e h => Or.inl (Sum.inl.inj h).symm⟩
theorem sp_sign_t (hT : oy_ok T) {a x : Int} : oy_ok (sp_sign T a x).2 ∧ ∀ e, (sp_sign T a x).1 = .inl e → e = 1 ∨ e = 2 ∨ e = 3 := by
  unfold sp_sign
  split
  · split
    · rename_i q
      split
      · exact ⟨sp_put_ok (k := 0) hT (oy_good_app (oy_good_ln (oy_ok_L hT) _) (by assumption) q), fun e h => by cases h⟩
      · exact ⟨hT, fun e h => Or.inr (Or.inr (Sum.inl.inj h).symm)⟩
    · exact ⟨hT, fun e h => Or.inr (Or.inl (Sum.inl.inj h).symm)⟩
  · exact ⟨hT, fun e h => Or.inl (Sum.inl.inj h).symm⟩
theorem sp_rub_t (hT : oy_ok T) {a : Int} : oy_ok (sp_rub T a).2 ∧ ∀ e, (sp_rub T a).1 = .inl e → e = 1 := by
  unfold sp_rub
  split
  · split
    · exact ⟨sp_del_ok (k := 0) hT, fun e h => by cases h⟩
    · have g := oy_good_ln (oy_ok_L hT) a.toNat
      have h24 : (oy_ln T a.toNat).length ≤ 24 := g.1
      refine ⟨sp_put_ok (k := 0) hT (oy_good_mk (k := 0) (show _ ≤ 24 by omega) (fun i hi => ?_)), fun e h => by cases h⟩
      rw [if_pos hi]
      exact oy_good_wk g (by omega)
  · exact ⟨hT, fun e h => (Sum.inl.inj h).symm⟩
theorem sp_shift_t (hT : oy_ok T) {a m : Int} : oy_ok (sp_shift T a m).2 ∧ ∀ e, (sp_shift T a m).1 = .inl e → e = 1 ∨ e = 3 := by
  unfold sp_shift
  split
  · rename_i q
    split
    · rename_i z
      exact ⟨sp_gs_ok hT (by omega) z, fun e h => by cases h⟩
    · exact ⟨hT, fun e h => Or.inr (Sum.inl.inj h).symm⟩
  · exact ⟨hT, fun e h => Or.inl (Sum.inl.inj h).symm⟩
theorem sp_refile_t (hT : oy_ok T) {a c s : Int} : oy_ok (sp_refile T a c s).2 ∧ ∀ e, (sp_refile T a c s).1 = .inl e → e = 1 ∨ e = 3 := by
  unfold sp_refile
  split
  · rename_i q
    split
    · rename_i z
      exact ⟨sp_rfT_ok hT (by omega) (by omega) z, fun e h => by cases h⟩
    · exact ⟨hT, fun e h => Or.inr (Sum.inl.inj h).symm⟩
  · exact ⟨hT, fun e h => Or.inl (Sum.inl.inj h).symm⟩
theorem sp_statec_t (hT : oy_ok T) {td a s : Int} (htd : 0 ≤ td ∧ td ≤ 9999) : oy_ok (sp_statec T td a s).2 ∧ ∀ e, (sp_statec T td a s).1 = .inl e → e = 1 ∨ e = 2 ∨ e = 3 := by
  unfold sp_statec
  by_cases q : 0 ≤ a ∧ a < sp_n T
  rotate_left
  · rw [if_neg q]
    exact ⟨hT, fun e h => Or.inl (Sum.inl.inj h).symm⟩
  rw [if_pos q]
  by_cases q2 : -1 ≤ s ∧ s ≤ 3
  rotate_left
  · rw [if_neg q2]
    exact ⟨hT, fun e h => Or.inr (Or.inl (Sum.inl.inj h).symm)⟩
  rw [if_pos q2]
  unfold sp_state2
  cases hs : sp_stT T td a.toNat s with
  | none => exact ⟨hT, fun e h => Or.inr (Or.inr (Sum.inl.inj h).symm)⟩
  | some T' => exact ⟨(sp_stT_ok hT (by omega) q2 htd hs).1, fun e h => by cases h⟩
theorem sp_capture_t (hT : oy_ok T) {u t : Int} : oy_ok (sp_capture T u t).2 ∧ ∀ e, (sp_capture T u t).1 = .inl e → e = 2 ∨ e = 3 := by
  unfold sp_capture
  split
  · rename_i q
    split
    · rename_i z
      exact ⟨sp_caT_ok hT q.2 z.1 z.2, fun e h => by cases h⟩
    · exact ⟨hT, fun e h => Or.inr (Sum.inl.inj h).symm⟩
  · exact ⟨hT, fun e h => Or.inl (Sum.inl.inj h).symm⟩
theorem sp_arch_t (hT : oy_ok T) {a : Int} : oy_ok (sp_arch T A a).2.1 ∧ ∀ e, (sp_arch T A a).1 = .inl e → e = 1 ∨ e = 3 := by
  unfold sp_arch
  split
  · split
    · exact ⟨sp_del_ok (k := 0) hT, fun e h => by cases h⟩
    · exact ⟨hT, fun e h => Or.inr (Sum.inl.inj h).symm⟩
  · exact ⟨hT, fun e h => Or.inl (Sum.inl.inj h).symm⟩
theorem sp_back_t (hT : oy_ok T) (hA : oy_aok A) : oy_ok (sp_back T A).2.1 ∧ ∀ e, (sp_back T A).1 = .inl e → e = 3 := by
  unfold sp_back
  split
  · rename_i q
    refine ⟨sp_pas_ok (k := 0) hT (fun l => ?_) (show _ ≤ 60 from q.2), fun e h => by cases h⟩
    have hm : oy_ag A (A.length - 1) ∈ A := by
      unfold oy_ag
      rw [List.getD_eq_getElem?_getD, List.getElem?_eq_getElem (by omega)]
      exact List.getElem_mem _
    exact (hA.2 _ hm).2.2.1 l
  · exact ⟨hT, fun e h => (Sum.inl.inj h).symm⟩
theorem sp_ckw_g {n : Int} (hn : 0 ≤ n ∧ n ≤ 9999) : oy_good 0 (sp_ckw n) := by
  have h1 := sp_dgs_len hn.2
  have h2 : oy_good 0 (sp_dgs n) := sp_dr_good (k := 0) (by omega) 6 (by decide)
  refine ⟨?_, fun x hx => ?_⟩
  · unfold sp_ckw
    rw [List.length_append, List.length_append]
    show 1 + _ + 1 ≤ 24
    omega
  · unfold sp_ckw at hx
    rcases List.mem_append.mp hx with z | z
    · rcases List.mem_append.mp z with y | y
      · rw [List.mem_singleton.mp y]
        omega
      · exact h2.2 x y
    · rw [List.mem_singleton.mp z]
      omega
theorem sp_clockIn_t (hT : oy_ok T) {n a : Int} (hn : 0 ≤ n ∧ n ≤ 9999) : oy_ok (sp_clockIn T n a).2 ∧ ∀ e, (sp_clockIn T n a).1 = .inl e → e = 1 ∨ e = 3 := by
  unfold sp_clockIn
  split
  · split
    · refine ⟨sp_put_ok (k := 0) (sp_ins_ok (k := 0) (sp_ecm_ok hn.2 hT) ?_) (sp_ckw_g hn), fun e h => by cases h⟩
      show (sp_ecm T n T.length).length + 1 ≤ 60
      rw [sp_ecm_len]
      omega
    · exact ⟨hT, fun e h => Or.inr (Sum.inl.inj h).symm⟩
  · exact ⟨hT, fun e h => Or.inl (Sum.inl.inj h).symm⟩
theorem sp_clockOut_t (hT : oy_ok T) {n i : Int} (hn : 0 ≤ n ∧ n ≤ 9999) : oy_ok (sp_clockOut T n i).2 ∧ ∀ e, (sp_clockOut T n i).1 = .inl e → e = 2 := by
  unfold sp_clockOut
  split
  · rename_i q
    exact ⟨sp_ecm_ok (by omega) hT, fun e h => by cases h⟩
  · exact ⟨hT, fun e h => (Sum.inl.inj h).symm⟩
theorem sp_today_t {d a : Int} (hd : 0 ≤ d ∧ d ≤ 9999) : (0 ≤ (sp_today d a).2 ∧ (sp_today d a).2 ≤ 9999) ∧ ∀ e, (sp_today d a).1 = .inl e → e = 2 := by
  unfold sp_today
  split
  · rename_i q
    exact ⟨q, fun e h => by cases h⟩
  · exact ⟨hd, fun e h => (Sum.inl.inj h).symm⟩
theorem sp_pass_t {n a : Int} (hn : 0 ≤ n ∧ n ≤ 9999) : (0 ≤ (sp_pass n a).2 ∧ (sp_pass n a).2 ≤ 9999) ∧ ∀ e, (sp_pass n a).1 = .inl e → e = 2 ∨ e = 3 := by
  unfold sp_pass
  split
  · rename_i q
    split
    · rename_i z
      exact ⟨by dsimp only; omega, fun e h => by cases h⟩
    · exact ⟨hn, fun e h => Or.inr (Sum.inl.inj h).symm⟩
  · exact ⟨hn, fun e h => Or.inl (Sum.inl.inj h).symm⟩
theorem sp_ag_t {d w b p : Int} : ∀ e, sp_ag T d w b p = .inl e → e = 1 ∨ e = 2 := by
  intro e h
  unfold sp_ag at h
  split at h
  · split at h
    · cases h
    · exact Or.inr (Sum.inl.inj h).symm
  · exact Or.inl (Sum.inl.inj h).symm
theorem sp_link_t {a p : Int} : ∀ e, sp_link T a p = .inl e → e = 1 := by
  intro e h
  unfold sp_link at h
  split at h
  · cases h
  · exact (Sum.inl.inj h).symm
theorem sp_cell2_t {f : Nat → Nat → Int} {a b r c : Int} : ∀ e, sp_cell2 T f a b r c = .inl e → e = 1 := by
  intro e h
  unfold sp_cell2 at h
  split at h
  · cases hc : sp_cll T a.toNat b r with
    | none =>
      rw [hc] at h
      exact (Sum.inl.inj h).symm
    | some l =>
      rw [hc] at h
      dsimp only [Option.elim] at h
      split at h
      · cases h
      · exact (Sum.inl.inj h).symm
  · exact (Sum.inl.inj h).symm
theorem sp_run_t {f : Nat → Nat → Int} {K : oy_K} {a : Int} : ∀ e, (sp_run T f K a).1 = .inl e → e = 2 := by
  intro e h
  unfold sp_run at h
  split at h
  · cases h
  · exact (Sum.inl.inj h).symm
theorem sp_xat_t {O : oy_T} {a p : Int} : ∀ e, sp_xat O a p = .inl e → e = 1 := by
  intro e h
  unfold sp_xat at h
  split at h
  · cases h
  · exact (Sum.inl.inj h).symm
end OYO1
