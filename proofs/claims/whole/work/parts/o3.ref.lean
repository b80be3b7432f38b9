/-! ===== the relation: the reference's side of each call ===== -/
def oy_Rr (T : oy_T) (A : oy_A) (d n : Int) (K : oy_K) (N : Nat) (σ : ox_H) : Prop := oy_M T σ ∧ oy_am A σ ∧ oy_km K σ ∧ oy_mb σ ∧ 0 ≤ σ 10 0 36 0 ∧ σ 10 0 36 0 ≤ (N : Int) ∧ σ 10 0 23 0 = d ∧ σ 10 0 24 0 = n
def oy_s10 (c _j : Nat) : Bool := c == 10
/-- a call of the reference -/
def oy_Pr (r : Nat ⊕ Int) (a b c : Nat) (X : Option (Int × ox_H)) (T : oy_T) (A : oy_A) (d n : Int) (K : oy_K) (N : Nat) (σ : ox_H) : Prop := ∃ σ2 y, X = some (y, σ2) ∧ oy_fr oy_s10 σ σ2 ∧ oy_Rr T A d n K N σ2 ∧ σ2 10 0 46 0 = oy_cx a b c r ∧ ∀ v, r = .inr v → y = v
section OYO3
variable {T : oy_T} {A : oy_A} {d n : Int} {K : oy_K} {N : Nat} {σ σ' : ox_H} {S : Nat → Nat → Bool}
theorem oy_am.fr (h : oy_am A σ) (hf : oy_fr S σ σ') (h6 : S 10 6 = false) (h7 : S 10 7 = false) (h8 : S 10 8 = false) (h9 : S 10 9 = false) (h10 : S 10 10 = false) : oy_am A σ' := by
  obtain ⟨a, b, c⟩ := h
  refine ⟨a, (hf _ _ _ _ h10).trans b, fun i hi => ?_⟩
  obtain ⟨c1, c2, c3, c4⟩ := c i hi
  exact ⟨(hf _ _ _ _ h8).trans c1, (hf _ _ _ _ h9).trans c2, fun l hl => (hf _ _ _ _ h7).trans (c3 l hl), fun l p hl hp => (hf _ _ _ _ h6).trans (c4 l p hl hp)⟩
theorem oy_km.fr (h : oy_km K σ) (hf : oy_fr S σ σ') (h25 : S 10 25 = false) (h26 : S 10 26 = false) (h27 : S 10 27 = false) (h30 : S 10 30 = false) : oy_km K σ' :=
  ⟨fun i hi => (hf _ _ _ _ h27).trans (h.1 i hi), fun x hx => ⟨(hf _ _ _ _ h26).trans (h.2.1 x hx).1, (hf _ _ _ _ h25).trans (h.2.1 x hx).2⟩, (hf _ _ _ _ h30).trans h.2.2⟩
theorem oy_Rr.same (h : oy_Rr T A d n K N σ) : oy_Rr T A d n K (N + 1) σ := by
  obtain ⟨a, b, c, e, f, g, i⟩ := h
  exact ⟨a, b, c, e, f, by omega, i⟩
/-- the reference's parts alone -/
theorem oy_Rr.cg (h : oy_Rr T A d n K N σ) (hf : oy_fs (fun c _ _ _ => c ≠ 10) σ σ') : oy_Rr T A d n K N σ' := by
  have f : oy_fr (fun c _ => c != 10) σ σ' := fun c k j i z => hf _ _ _ _ (fun y => by
    have z' : (c != 10) = false := z
    have : (c != 10) = true := bne_iff_ne.mpr y
    rw [this] at z'
    cases z')
  obtain ⟨a, b, c, e, f1, g, i1, i2⟩ := h
  have e36 : σ' 10 0 36 0 = σ 10 0 36 0 := f _ _ _ _ rfl
  exact ⟨a.fr f rfl rfl rfl, b.fr f rfl rfl rfl rfl rfl, c.fr f rfl rfl rfl rfl, e.fr f rfl rfl rfl rfl rfl, by omega, by omega, (f _ _ _ _ rfl).trans i1, (f _ _ _ _ rfl).trans i2⟩
/-- a change of the text's rows alone -/
theorem oy_Rr.tx {T' : oy_T} (h : oy_Rr T A d n K N σ) (hM : oy_M T' σ') (f : oy_fr oy_mN σ σ') : oy_fr oy_s10 σ σ' ∧ oy_Rr T' A d n K (N + 1) σ' := by
  obtain ⟨a, b, c, e, f1, g, i1, i2⟩ := h
  have e36 : σ' 10 0 36 0 = σ 10 0 36 0 := f _ _ _ _ rfl
  refine ⟨f.mono (fun c j z => ?_), hM, b.fr f rfl rfl rfl rfl rfl, c.fr f rfl rfl rfl rfl, e.fr f rfl rfl rfl rfl rfl, by omega, by omega, (f _ _ _ _ rfl).trans i1, (f _ _ _ _ rfl).trans i2⟩
  unfold oy_mN at z
  rw [Bool.and_eq_true] at z
  exact z.1
theorem oy_mN_of {c j : Nat} (h1 : c = 10) (h2 : j ≤ 5 ∨ (11 ≤ j ∧ j ≤ 22) ∨ j = 35 ∨ j = 46) : oy_mN c j = true := by
  unfold oy_mN
  rw [Bool.and_eq_true, decide_eq_true_eq, beq_iff_eq]
  exact ⟨h1, h2⟩
theorem oy_me_N {c j : Nat} (h : oy_me c j = true) : oy_mN c j = true := by
  unfold oy_me at h
  rw [Bool.and_eq_true, Bool.or_eq_true, decide_eq_true_eq, beq_iff_eq, beq_iff_eq] at h
  exact oy_mN_of h.1 (by omega)
theorem oy_mt_N {c j : Nat} (h : oy_mt c j = true) : oy_mN c j = true := by
  unfold oy_mt at h
  rw [Bool.and_eq_true, decide_eq_true_eq, beq_iff_eq] at h
  exact oy_mN_of h.1 (by omega)
theorem oy_sr2_N {c j : Nat} (h : oy_sr2 c j = true) : oy_mN c j = true := by
  unfold oy_sr2 at h
  rw [Bool.and_eq_true, Bool.or_eq_true, Bool.and_eq_true, decide_eq_true_eq, decide_eq_true_eq, beq_iff_eq, beq_iff_eq] at h
  exact oy_mN_of h.1 (by omega)
theorem oy_rm.P {T' : oy_T} {a b c : Nat} {r : Nat ⊕ Int} {X : Option (Int × ox_H)} (h : oy_Rr T A d n K N σ) (hS : ∀ c j, S c j = true → oy_mN c j = true) (m : oy_rm S T' a b c r X σ) : oy_Pr r a b c X T' A d n K (N + 1) σ := by
  obtain ⟨σ2, y, e, f, M, q, v⟩ := m
  have z := h.tx M (f.mono hS)
  exact ⟨σ2, y, e, z.1, z.2, q, v⟩
theorem cr_line (hT : oy_ok T) (h : oy_Rr T A d n K N σ) {a : Int} : oy_Pr (sp_line T a).1 1 3 0 (F_Mod_line a σ) (sp_line T a).2 A d n K (N + 1) σ := (om_line hT h.1).P h (fun _ _ => oy_me_N)
theorem oy_cd_cx {r : Nat ⊕ Int} (h : ∀ e, r = .inl e → e = 1 ∨ e = 2 ∨ e = 3) : oy_cd r = oy_cx 1 2 3 r := by
  cases r with
  | inr v => rfl
  | inl e => rcases h e rfl with z | z | z <;> rw [z] <;> rfl
theorem cr_sign (hT : oy_ok T) (h : oy_Rr T A d n K N σ) {a x : Int} : oy_Pr (sp_sign T a x).1 1 2 3 (F_Mod_sign a x σ) (sp_sign T a x).2 A d n K (N + 1) σ := by
  obtain ⟨σ2, y, e, f, M, q, v⟩ := om_sign hT h.1 (a := a) (x := x)
  have z := h.tx M (f.mono (fun _ _ => oy_me_N))
  exact ⟨σ2, y, e, z.1, z.2, q.trans (oy_cd_cx (sp_sign_t hT).2), v⟩
theorem cr_rub (hT : oy_ok T) (h : oy_Rr T A d n K N σ) {a : Int} : oy_Pr (sp_rub T a).1 1 0 0 (F_Mod_rub a σ) (sp_rub T a).2 A d n K (N + 1) σ := (om_rub hT h.1).P h (fun _ _ => oy_me_N)
theorem cr_lines (h : oy_Rr T A d n K N σ) : oy_Pr (.inr (T.length : Int)) 0 0 0 (F_Mod_lines σ) T A d n K (N + 1) σ := by
  obtain ⟨σ2, e, f, q⟩ := om_lines h.1
  have z := h.tx (h.1.fr f rfl rfl rfl) (f.mono (fun _ _ => oy_sr2_N))
  exact ⟨σ2, _, e, z.1, z.2, q, fun v y => Sum.inr.inj y⟩
theorem cr_signAt (hT : oy_ok T) (h : oy_Rr T A d n K N σ) {a p : Int} : oy_Pr (if (0 ≤ a ∧ a < T.length) ∧ 0 ≤ p then .inr (oy_wk (oy_ln T a.toNat) p.toNat) else .inl 1) 1 0 0 (F_Mod_signAt a p σ) T A d n K (N + 1) σ := by
  obtain ⟨σ2, x, e, f, q, v⟩ := om_signAt hT h.1 (a := a) (p := p)
  have z := h.tx (h.1.fr f rfl rfl rfl) (f.mono (fun _ _ => oy_sr2_N))
  refine ⟨σ2, x, e, z.1, z.2, ?_, fun u y => ?_⟩
  · rw [q]
    split <;> rfl
  · split at y
    · rename_i w
      rw [v w]
      exact Sum.inr.inj y
    · cases y
theorem cr_kind (hT : oy_ok T) (h : oy_Rr T A d n K N σ) {a : Int} : oy_Pr (if 0 ≤ a ∧ a < T.length then .inr (sp_kind (oy_ln T a.toNat)) else .inl 1) 1 0 0 (F_Mod_kind a σ) T A d n K (N + 1) σ := by
  obtain ⟨σ2, e, f, q⟩ := om_kind hT h.1 (a := a)
  have z := h.tx (h.1.fr f rfl rfl rfl) (f.mono (fun _ _ => oy_sr2_N))
  refine ⟨σ2, _, e, z.1, z.2, ?_, fun u y => ?_⟩
  · rw [q]
    split <;> rfl
  · split at y
    · rename_i w
      rw [if_pos w]
      exact Sum.inr.inj y
    · cases y
theorem cr_entries (hT : oy_ok T) (h : oy_Rr T A d n K N σ) : oy_Pr (.inr (sp_n T : Int)) 0 0 0 (F_Mod_entries σ) T A d n K (N + 1) σ := by
  obtain ⟨σ2, e, f, q⟩ := om_entries hT h.1
  have z := h.tx (h.1.fr f rfl rfl rfl) (f.mono (fun _ _ => oy_sr2_N))
  exact ⟨σ2, _, e, z.1, z.2, q, fun v y => Sum.inr.inj y⟩
theorem cr_entry (hT : oy_ok T) (h : oy_Rr T A d n K N σ) {a k : Int} : oy_Pr (if 0 ≤ a ∧ a < sp_n T then (if 0 ≤ k ∧ k ≤ 8 then .inr (sp_ent T a.toNat k) else .inl 2) else .inl 1) 1 2 0 (F_Mod_entry a k σ) T A d n K (N + 1) σ := by
  obtain ⟨σ2, x, e, f, q, v⟩ := om_entry hT h.1 (a := a) (k := k)
  have z := h.tx (h.1.fr f rfl rfl rfl) (f.mono (fun _ _ => oy_sr2_N))
  refine ⟨σ2, x, e, z.1, z.2, ?_, fun u y => ?_⟩
  · rw [q]
    split
    · split <;> rfl
    · rfl
  · split at y
    · rename_i w
      split at y
      · rename_i w2
        rw [v ⟨w, w2⟩]
        exact Sum.inr.inj y
      · cases y
    · cases y
theorem cr_property (hT : oy_ok T) (h : oy_Rr T A d n K N σ) {a x w : Int} : oy_Pr (if 0 ≤ a ∧ a < sp_n T then (if 0 ≤ x ∧ x < 26 then .inr (sp_pro T a.toNat x w) else .inl 2) else .inl 1) 1 2 0 (F_Mod_property a x w σ) T A d n K (N + 1) σ := by
  obtain ⟨σ2, y, e, f, q, v⟩ := om_property hT h.1 (a := a) (x := x) (w := w)
  have z := h.tx (h.1.fr f rfl rfl rfl) (f.mono (fun _ _ => oy_sr2_N))
  refine ⟨σ2, y, e, z.1, z.2, ?_, fun u y => ?_⟩
  · rw [q]
    split
    · split <;> rfl
    · rfl
  · split at y
    · rename_i w
      split at y
      · rename_i w2
        rw [v ⟨w, w2⟩]
        exact Sum.inr.inj y
      · cases y
    · cases y
theorem cr_shift (hT : oy_ok T) (h : oy_Rr T A d n K N σ) {a m : Int} : oy_Pr (sp_shift T a m).1 1 3 0 (F_Mod_shift a m σ) (sp_shift T a m).2 A d n K (N + 1) σ := (om_shift hT h.1).P h (fun _ _ => oy_mt_N)
theorem cr_refile (hT : oy_ok T) (h : oy_Rr T A d n K N σ) {a c s : Int} : oy_Pr (sp_refile T a c s).1 1 3 0 (F_Mod_refile a c s σ) (sp_refile T a c s).2 A d n K (N + 1) σ := (om_refile hT h.1).P h (fun _ _ => oy_mt_N)
theorem cr_state (hT : oy_ok T) (h : oy_Rr T A d n K N σ) (hd : 0 ≤ d ∧ d ≤ 9999) {a s : Int} : oy_Pr (sp_statec T d a s).1 1 2 3 (F_Mod_state a s σ) (sp_statec T d a s).2 A d n K (N + 1) σ := (om_statec hT h.1 hd h.2.2.2.2.2.2.1).P h (fun _ _ => oy_mt_N)
theorem cr_capture (hT : oy_ok T) (h : oy_Rr T A d n K N σ) {u t : Int} : oy_Pr (sp_capture T u t).1 2 3 0 (F_Mod_capture u t σ) (sp_capture T u t).2 A d n K (N + 1) σ := (om_capture hT h.1).P h (fun _ _ => oy_mt_N)
theorem oy_rma.P {T' : oy_T} {A' : oy_A} {a b c : Nat} {r : Nat ⊕ Int} {X : Option (Int × ox_H)} (h : oy_Rr T A d n K N σ) (m : oy_rma T' A' a b c r X σ) : oy_Pr r a b c X T' A' d n K (N + 1) σ := by
  obtain ⟨σ2, y, e, f, M, am, q, v⟩ := m
  obtain ⟨_, _, k, mb, f1, g, i1, i2⟩ := h
  have e36 : σ2 10 0 36 0 = σ 10 0 36 0 := f _ _ _ _ rfl
  refine ⟨σ2, y, e, f.mono (fun c j z => ?_), ⟨M, am, k.fr f rfl rfl rfl rfl, mb.fr f rfl rfl rfl rfl rfl, by omega, by omega, (f _ _ _ _ rfl).trans i1, (f _ _ _ _ rfl).trans i2⟩, q, v⟩
  unfold oy_mA at z
  rw [Bool.and_eq_true] at z
  exact z.1
theorem cr_archive (hT : oy_ok T) (h : oy_Rr T A d n K N σ) {a : Int} : oy_Pr (sp_arch T A a).1 1 3 0 (F_Mod_archive a σ) (sp_arch T A a).2.1 (sp_arch T A a).2.2 d n K (N + 1) σ := (om_archive hT h.1 h.2.1).P h
theorem cr_back (hT : oy_ok T) (h : oy_Rr T A d n K N σ) : oy_Pr (sp_back T A).1 3 0 0 (F_Mod_bringBack σ) (sp_back T A).2.1 (sp_back T A).2.2 d n K (N + 1) σ := (om_back hT h.1 h.2.1).P h
theorem cr_today (h : oy_Rr T A d n K N σ) {a : Int} : oy_Pr (sp_today d a).1 2 0 0 (F_Mod_today a σ) T A (sp_today d a).2 n K (N + 1) σ := by
  obtain ⟨σ2, y, e, f, q1, q, v⟩ := om_today h.2.2.2.2.2.2.1 (a := a)
  obtain ⟨M, am, k, mb, f1, g, i1, i2⟩ := h
  have e36 : σ2 10 0 36 0 = σ 10 0 36 0 := f _ _ _ _ rfl
  refine ⟨σ2, y, e, f.mono (fun c j z => ?_), ⟨M.fr f rfl rfl rfl, am.fr f rfl rfl rfl rfl rfl, k.fr f rfl rfl rfl rfl, mb.fr f rfl rfl rfl rfl rfl, by omega, by omega, q1, (f _ _ _ _ rfl).trans i2⟩, q, v⟩
  rw [Bool.and_eq_true] at z
  exact z.1
theorem cr_pass (h : oy_Rr T A d n K N σ) (hn : 0 ≤ n ∧ n ≤ 9999) {a : Int} : oy_Pr (sp_pass n a).1 2 3 0 (F_Mod_pass a σ) T A d (sp_pass n a).2 K (N + 1) σ := by
  obtain ⟨σ2, y, e, f, q1, q, v⟩ := om_pass h.2.2.2.2.2.2.2 hn (a := a)
  obtain ⟨M, am, k, mb, f1, g, i1, i2⟩ := h
  have e36 : σ2 10 0 36 0 = σ 10 0 36 0 := f _ _ _ _ rfl
  refine ⟨σ2, y, e, f.mono (fun c j z => ?_), ⟨M.fr f rfl rfl rfl, am.fr f rfl rfl rfl rfl rfl, k.fr f rfl rfl rfl rfl, mb.fr f rfl rfl rfl rfl rfl, by omega, by omega, (f _ _ _ _ rfl).trans i1, q1⟩, q, v⟩
  rw [Bool.and_eq_true] at z
  exact z.1
theorem cr_agenda (hT : oy_ok T) (h : oy_Rr T A d n K N σ) {x w b p : Int} (hp : p < 2147483648) : oy_Pr (sp_ag T x w b p) 1 2 0 (F_Mod_agenda x w b p σ) T A d n K (N + 1) σ := (om_agenda hT h.1 hp).P h (fun _ _ => oy_mt_N)
theorem cr_clockIn (hT : oy_ok T) (h : oy_Rr T A d n K N σ) (hn : 0 ≤ n ∧ n ≤ 9999) {a : Int} : oy_Pr (sp_clockIn T n a).1 1 3 0 (F_Mod_clockIn a σ) (sp_clockIn T n a).2 A d n K (N + 1) σ := (om_clockIn hT h.1 h.2.2.2.2.2.2.2 hn).P h (fun _ _ => oy_mt_N)
theorem cr_clockOut (hT : oy_ok T) (h : oy_Rr T A d n K N σ) (hn : 0 ≤ n ∧ n ≤ 9999) {a : Int} : oy_Pr (sp_clockOut T n a).1 2 0 0 (F_Mod_clockOut a σ) (sp_clockOut T n a).2 A d n K (N + 1) σ := (om_clockOut hT h.1 h.2.2.2.2.2.2.2 hn).P h (fun _ _ => oy_mt_N)
theorem cr_clocked (hT : oy_ok T) (h : oy_Rr T A d n K N σ) {a : Int} : oy_Pr (if 0 ≤ a ∧ a < sp_n T then .inr (sp_cked T a.toNat) else .inl 1) 1 0 0 (F_Mod_clocked a σ) T A d n K (N + 1) σ := (om_clocked hT h.1).P h (fun _ _ => oy_mt_N)
theorem cr_link (hT : oy_ok T) (h : oy_Rr T A d n K N σ) {a p : Int} (hp : p < 2147483648) : oy_Pr (sp_link T a p) 1 0 0 (F_Mod_link a p σ) T A d n K (N + 1) σ := (om_link hT h.1 hp).P h (fun _ _ => oy_mt_N)
theorem cr_renum (hT : oy_ok T) (h : oy_Rr T A d n K N σ) : oy_Pr (.inr (sp_rnum T).2.2) 0 0 0 (F_Mod_renumber σ) (sp_rnum T).1 A d n K (N + 1) σ := by
  obtain ⟨σ2, e, f, M, q⟩ := om_renum hT h.1
  have z := h.tx M f
  exact ⟨σ2, _, e, z.1, z.2, q, fun v y => Sum.inr.inj y⟩
theorem cr_cell (hT : oy_ok T) (h : oy_Rr T A d n K N σ) (hN : N ≤ 1000) {f : Nat → Nat → Int} (hfi : oy_fin T f) {a b r c : Int} (hb : b ≤ 2147483647) : oy_Pr (sp_cell2 T f a b r c) 1 0 0 (F_Mod_cell a b r c σ) T A d n K (N + 1) σ := by
  obtain ⟨M, am, k, mb, f1, g, i1, i2⟩ := h
  obtain ⟨σ2, y, e, f, M2, mb2, v1, v2, q, v⟩ := om_cell hT hfi M mb f1 (by omega) hb (a := a) (r := r) (c := c)
  refine ⟨σ2, y, e, f.mono (fun c j z => ?_), ⟨M2, am.fr f rfl rfl rfl rfl rfl, k.fr f rfl rfl rfl rfl, mb2, by omega, by omega, (f _ _ _ _ rfl).trans i1, (f _ _ _ _ rfl).trans i2⟩, q, v⟩
  unfold oy_srs at z
  rw [Bool.and_eq_true] at z
  exact z.1
theorem cr_run (hT : oy_ok T) (h : oy_Rr T A d n K N σ) (hN : N ≤ 1000) {f : Nat → Nat → Int} (hfi : oy_fin T f) (hS : oy_okL 3 K.1) {a : Int} : oy_Pr (sp_run T f K a).1 2 0 0 (F_Mod_run a σ) T A d n (sp_run T f K a).2 (N + 1) σ := by
  obtain ⟨M, am, k, mb, f1, g, i1, i2⟩ := h
  obtain ⟨σ2, y, e, f, M2, mb2, v1, v2, km, q, v⟩ := om_run hT hfi M mb f1 (by omega) hS k (a := a)
  refine ⟨σ2, y, e, f.mono (fun c j z => ?_), ⟨M2, am.fr f rfl rfl rfl rfl rfl, km, mb2, by omega, by omega, (f _ _ _ _ rfl).trans i1, (f _ _ _ _ rfl).trans i2⟩, q, v⟩
  unfold oy_srk at z
  rw [Bool.and_eq_true] at z
  exact z.1
theorem cr_runs (h : oy_Rr T A d n K N σ) : oy_Pr (.inr K.2.2.2) 0 0 0 (F_Mod_runs σ) T A d n K (N + 1) σ := by
  obtain ⟨σ2, e, f, q⟩ := om_runs h.2.2.1
  obtain ⟨M, am, k, mb, f1, g, i1, i2⟩ := h
  have e36 : σ2 10 0 36 0 = σ 10 0 36 0 := f _ _ _ _ rfl
  refine ⟨σ2, _, e, f.mono (fun c j z => ?_), ⟨M.fr f rfl rfl rfl, am.fr f rfl rfl rfl rfl rfl, k.fr f rfl rfl rfl rfl, mb.fr f rfl rfl rfl rfl rfl, by omega, by omega, (f _ _ _ _ rfl).trans i1, (f _ _ _ _ rfl).trans i2⟩, q, fun v y => Sum.inr.inj y⟩
  rw [Bool.and_eq_true] at z
  exact z.1
theorem oy_rx.P {r : Nat ⊕ Int} {X : Option (Int × ox_H)} (h : oy_Rr T A d n K N σ) (m : oy_rx T r X σ) : oy_Pr r 1 0 0 X T A d n K (N + 1) σ := by
  obtain ⟨σ2, y, e, f, M2, mb2, v1, v2, q, v⟩ := m
  obtain ⟨M, am, k, mb, f1, g, i1, i2⟩ := h
  refine ⟨σ2, y, e, f.mono (fun c j z => ?_), ⟨M2, am.fr f rfl rfl rfl rfl rfl, k.fr f rfl rfl rfl rfl, mb2, by omega, by omega, (f _ _ _ _ rfl).trans i1, (f _ _ _ _ rfl).trans i2⟩, q, v⟩
  unfold oy_sre at z
  rw [Bool.and_eq_true] at z
  exact z.1
theorem cr_exported (hT : oy_ok T) (h : oy_Rr T A d n K N σ) (hN : N ≤ 1000) {f : Nat → Nat → Int} (hfi : oy_fin T f) : oy_Pr (.inr (((sp_exp T f).length : Nat) : Int)) 1 0 0 (F_Mod_exported σ) T A d n K (N + 1) σ := (om_exported hT hfi h.1 h.2.2.2.1 h.2.2.2.2.1 (by
  have := h.2.2.2.2.2.1
  omega)).P h
theorem cr_exportedAt (hT : oy_ok T) (h : oy_Rr T A d n K N σ) (hN : N ≤ 1000) {f : Nat → Nat → Int} (hfi : oy_fin T f) {a p : Int} : oy_Pr (sp_xat (sp_exp T f) a p) 1 0 0 (F_Mod_exportedAt a p σ) T A d n K (N + 1) σ := (om_exportedAt hT hfi h.1 h.2.2.2.1 h.2.2.2.2.1 (by
  have := h.2.2.2.2.2.1
  omega)).P h
end OYO3
