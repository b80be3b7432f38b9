/-! ===== the relation between the class and the reference; the class's side of each call ===== -/
/-- the class: its text, what is archived, today, now, what is kept, after N calls -/
def oy_Cc (T : oy_T) (A : oy_A) (d n : Int) (K : oy_K) (N : Nat) (σ : ox_H) : Prop := oy_cs T σ ∧ σ 1 0 5 0 ≤ 2000 * (N : Int) ∧ oy_SC T σ ∧ oy_XC T σ ∧ oy_ac A σ ∧ oy_kc K σ ∧ oy_mo σ ∧ σ 0 0 7 0 = d ∧ σ 0 0 8 0 = n
/-- what the class's calls write -/
def oy_lt (c _k _j _i : Nat) : Prop := c < 10 ∨ c = 20
/-- a call of the class -/
def oy_Pc {α : Type} (r : α) (X : Option (α × ox_H)) (T : oy_T) (A : oy_A) (d n : Int) (K : oy_K) (N : Nat) (σ : ox_H) : Prop := ∃ τ, X = some (r, τ) ∧ oy_fs oy_lt σ τ ∧ oy_Cc T A d n K N τ
section OYO2
variable {T : oy_T} {A : oy_A} {d n : Int} {K : oy_K} {N : Nat} {σ σ' : ox_H} {S : Nat → Nat → Nat → Nat → Prop}
theorem oy_ac.cg (h : oy_ac A σ) (e9 : ∀ j i, σ' 9 0 j i = σ 9 0 j i) (e1 : ∀ j i, σ' 1 4 j i = σ 1 4 j i) : oy_ac A σ' := by
  obtain ⟨h1, h2, h3, h4, h5, h6⟩ := h
  exact ⟨h1, (e9 _ _).trans h2, fun i hi => ⟨(e9 _ _).trans (h3 i hi).1, (e9 _ _).trans (h3 i hi).2⟩, ⟨(e1 _ _).trans h4.1, fun l hl => (e1 _ _).trans (h4.2.1 l hl), fun l p hl hp => (e1 _ _).trans (h4.2.2 l p hl hp)⟩, (e1 _ _).trans h5, (e1 _ _).trans h6⟩
theorem oy_kc.cg (h : oy_kc K σ) (e8 : ∀ j i, σ' 8 0 j i = σ 8 0 j i) (e1 : ∀ j i, σ' 1 3 j i = σ 1 3 j i) : oy_kc K σ' := by
  obtain ⟨⟨h1, h2, h3, h4⟩, h5, h6⟩ := h
  exact ⟨⟨h1, ⟨(e1 _ _).trans h2.1, fun l hl => (e1 _ _).trans (h2.2.1 l hl), fun l p hl hp => (e1 _ _).trans (h2.2.2 l p hl hp)⟩, (e1 _ _).trans h3, (e1 _ _).trans h4⟩, fun x hx => ⟨(e8 _ _).trans (h5 x hx).1, (e8 _ _).trans (h5 x hx).2⟩, (e8 _ _).trans h6⟩
theorem oy_mo.cg (h : oy_mo σ) (e1 : ∀ j i, σ' 1 1 j i = σ 1 1 j i) : oy_mo σ' := by
  obtain ⟨P, h1, h2, h3, h4⟩ := h
  exact ⟨P, h1, ⟨(e1 _ _).trans h2.1, fun l hl => (e1 _ _).trans (h2.2.1 l hl), fun l p hl hp => (e1 _ _).trans (h2.2.2 l p hl hp)⟩, (e1 _ _).trans h3, (e1 _ _).trans h4⟩
/-- the sheet and the export behind a change of the text -/
theorem oy_Cc.mk' {T' : oy_T} {A' : oy_A} {d' n' : Int} {K' : oy_K} (h : oy_Cc T A d n K N σ) (hf : oy_fs S σ σ') (hS : ∀ j i, ¬ S 5 0 j i ∧ ¬ S 7 0 j i ∧ ¬ S 1 2 j i) (hcs : oy_cs T' σ') (hv : ∃ m : Nat, m ≤ 2000 ∧ σ' 1 0 5 0 = σ 1 0 5 0 + (m : Int) ∧ (m = 0 → T' = T)) (hac : oy_ac A' σ') (hkc : oy_kc K' σ') (hmo : oy_mo σ') (h7 : σ' 0 0 7 0 = d') (h8 : σ' 0 0 8 0 = n') : oy_Cc T' A' d' n' K' (N + 1) σ' := by
  obtain ⟨c1, c2, ⟨c3a, c3b⟩, ⟨⟨O, c4a⟩, c4b, c4c⟩, _⟩ := h
  obtain ⟨m, hm, ev, eT⟩ := hv
  have e5 : ∀ j i, σ' 5 0 j i = σ 5 0 j i := fun j i => hf _ _ _ _ (hS j i).1
  have e7 : ∀ j i, σ' 7 0 j i = σ 7 0 j i := fun j i => hf _ _ _ _ (hS j i).2.1
  have e12 : ∀ j i, σ' 1 2 j i = σ 1 2 j i := fun j i => hf _ _ _ _ (hS j i).2.2
  refine ⟨hcs, by omega, ⟨by rw [e5]; omega, fun z => ?_⟩, ⟨⟨O, c4a.cg e12⟩, by rw [e7]; omega, fun z => ?_⟩, hac, hkc, hmo, h7, h8⟩
  · rw [e5] at z
    rw [eT (by omega)]
    exact (c3b (by omega)).cg e5
  · rw [e7] at z
    rw [eT (by omega)]
    obtain ⟨f, f1, f2⟩ := c4c (by omega)
    exact ⟨f, f1, f2.cg e12⟩
/-- a change of the text alone -/
theorem oy_Cc.tx {T' : oy_T} (h : oy_Cc T A d n K N σ) (hf : oy_fs oy_txr σ σ') (hcs : oy_cs T' σ') (hv : ∃ m : Nat, m ≤ 2000 ∧ σ' 1 0 5 0 = σ 1 0 5 0 + (m : Int) ∧ (m = 0 → T' = T)) : oy_Cc T' A d n K (N + 1) σ' := by
  have e : ∀ c k j i, (c = 9 ∨ (c = 1 ∧ 1 ≤ k) ∨ c = 8 ∨ c = 0) → σ' c k j i = σ c k j i := fun c k j i z => hf _ _ _ _ (by unfold oy_txr oy_tx oy_le oy_rf; omega)
  have h0 := h
  obtain ⟨_, _, _, _, c5, c6, c7, c8, c9⟩ := h0
  exact h.mk' hf (fun j i => by unfold oy_txr oy_tx oy_le oy_rf; omega) hcs hv (c5.cg (fun j i => e _ _ _ _ (by omega)) (fun j i => e _ _ _ _ (by omega))) (c6.cg (fun j i => e _ _ _ _ (by omega)) (fun j i => e _ _ _ _ (by omega))) (c7.cg (fun j i => e _ _ _ _ (by omega))) ((e _ _ _ _ (by omega)).trans c8) ((e _ _ _ _ (by omega)).trans c9)
theorem oy_Cc.st {T' : oy_T} {M : Nat} (h : oy_Cc T A d n K N σ) (s : oy_st M T T' σ σ') (hM : M ≤ 2000) : oy_fs oy_lt σ σ' ∧ oy_Cc T' A d n K (N + 1) σ' := by
  obtain ⟨f, c, m, hm, ev, eT⟩ := s
  exact ⟨f.mono (fun c k j i z => by unfold oy_tx oy_le oy_rf at z; unfold oy_lt; omega), h.tx (f.mono (fun _ _ _ _ => Or.inl)) c ⟨m, by omega, ev, eT⟩⟩
theorem oy_Cc.v (h : oy_Cc T A d n K N σ) (hN : N ≤ 1000) : σ 1 0 5 0 ≤ 1000000000 := by
  have := h.2.1
  omega
theorem oy_Cc.same (h : oy_Cc T A d n K N σ) : oy_Cc T A d n K (N + 1) σ := by
  obtain ⟨c1, c2, c3⟩ := h
  exact ⟨c1, by omega, c3⟩
/-- the class's parts alone -/
theorem oy_Cc.cg (h : oy_Cc T A d n K N σ) (hf : oy_fs (fun c _ _ _ => 10 ≤ c) σ σ') : oy_Cc T A d n K N σ' := by
  have e : ∀ c k j i, c < 10 → σ' c k j i = σ c k j i := fun c k j i z => hf _ _ _ _ (by omega)
  obtain ⟨c1, c2, ⟨c3a, c3b⟩, ⟨⟨O, c4a⟩, c4b, c4c⟩, c5, c6, c7, c8, c9⟩ := h
  have e5 : ∀ j i, σ' 5 0 j i = σ 5 0 j i := fun j i => e _ _ _ _ (by decide)
  have e7 : ∀ j i, σ' 7 0 j i = σ 7 0 j i := fun j i => e _ _ _ _ (by decide)
  have e10 : ∀ j i, σ' 1 0 j i = σ 1 0 j i := fun j i => e _ _ _ _ (by decide)
  have e12 : ∀ j i, σ' 1 2 j i = σ 1 2 j i := fun j i => e _ _ _ _ (by decide)
  refine ⟨c1.frame hf (fun k j i => ⟨by decide, by show ¬ 10 ≤ 2; decide, by show ¬ 10 ≤ 4; decide, by show ¬ 10 ≤ 6; decide⟩), by rw [e10]; exact c2, ⟨by rw [e5, e10]; exact c3a, fun z => (c3b (by rw [e5, e10] at z; exact z)).cg e5⟩, ⟨⟨O, c4a.cg e12⟩, by rw [e7, e10]; exact c4b, fun z => ?_⟩, c5.cg (fun j i => e _ _ _ _ (by decide)) (fun j i => e _ _ _ _ (by decide)), c6.cg (fun j i => e _ _ _ _ (by decide)) (fun j i => e _ _ _ _ (by decide)), c7.cg (fun j i => e _ _ _ _ (by decide)), (e _ _ _ _ (by decide)).trans c8, (e _ _ _ _ (by decide)).trans c9⟩
  obtain ⟨f, f1, f2⟩ := c4c (by rw [e7, e10] at z; exact z)
  exact ⟨f, f1, f2.cg e12⟩
theorem oy_ft.st (h : oy_cs T σ) (hf : oy_ft T σ σ') : oy_st 0 T T σ σ' := by
  obtain ⟨f, q, v⟩ := hf
  have e : σ' 1 0 5 0 = σ 1 0 5 0 := f _ _ _ _ oy_rf1
  obtain ⟨_, h1, h2, h3⟩ := h
  exact ⟨f.mono (fun _ _ _ _ => Or.inr), ⟨q, by omega, by omega, by omega⟩, 0, Nat.le_refl _, by rw [e]; exact (Int.add_zero _).symm, fun _ => rfl⟩
/-! the calls -/
theorem cc_line (hT : oy_ok T) (h : oy_Cc T A d n K N σ) (hN : N ≤ 1000) {a : Int} : oy_Pc (sp_line T a).1 (F_Out_line a σ) (sp_line T a).2 A d n K (N + 1) σ := by
  obtain ⟨τ, e, s⟩ := oc_line hT h.1 (h.v hN) (a := a)
  have q := h.st s (by decide)
  exact ⟨τ, e, q.1, q.2⟩
theorem cc_sign (hT : oy_ok T) (h : oy_Cc T A d n K N σ) (hN : N ≤ 1000) {a x : Int} : oy_Pc (sp_sign T a x).1 (F_Out_sign a x σ) (sp_sign T a x).2 A d n K (N + 1) σ := by
  obtain ⟨τ, e, f, L, v⟩ := oc_sign hT h.1.1 (a := a) (x := x)
  have ed : oy_ed 0 1 (sp_sign T a x).2 σ τ := by
    rcases v with ⟨_, v2⟩ | v
    · exact ⟨f, L, 0, by decide, Or.inl ⟨rfl, v2⟩⟩
    · exact ⟨f, L, 1, Nat.le_refl _, Or.inr ⟨Nat.le_refl _, v⟩⟩
  have q := h.st (oy_cs_ed h.1 (h.v hN) (by decide) ed) (by decide)
  exact ⟨τ, e, q.1, q.2⟩
theorem cc_rub (hT : oy_ok T) (h : oy_Cc T A d n K N σ) (hN : N ≤ 1000) {a : Int} : oy_Pc (sp_rub T a).1 (F_Out_rub a σ) (sp_rub T a).2 A d n K (N + 1) σ := by
  obtain ⟨τ, e, s⟩ := oc_rub hT h.1 (h.v hN) (a := a)
  have q := h.st s (by decide)
  exact ⟨τ, e, q.1, q.2⟩
theorem cc_kind (hT : oy_ok T) (h : oy_Cc T A d n K N σ) {a : Int} : oy_Pc (if 0 ≤ a ∧ a < T.length then .inr (sp_kind (oy_ln T a.toNat)) else .inl 1 : Nat ⊕ Int) (F_Out_kind a σ) T A d n K (N + 1) σ := by
  obtain ⟨τ, e, s⟩ := oc_kind hT h.1.1 (a := a)
  have q := h.st (oy_ft.st h.1 s) (by decide)
  exact ⟨τ, e, q.1, q.2⟩
theorem cc_entries (hT : oy_ok T) (h : oy_Cc T A d n K N σ) : oy_Pc (sp_n T : Int) (F_Out_entries σ) T A d n K (N + 1) σ := by
  obtain ⟨τ, e, s⟩ := oc_entries hT h.1.1
  have q := h.st (oy_ft.st h.1 s) (by decide)
  exact ⟨τ, e, q.1, q.2⟩
theorem cc_entry (hT : oy_ok T) (h : oy_Cc T A d n K N σ) {a k : Int} : oy_Pc (if 0 ≤ a ∧ a < sp_n T then (if 0 ≤ k ∧ k ≤ 8 then .inr (sp_ent T a.toNat k) else .inl 2) else .inl 1 : Nat ⊕ Int) (F_Out_entry a k σ) T A d n K (N + 1) σ := by
  obtain ⟨τ, e, s⟩ := oc_entry hT h.1.1 (a := a) (k := k)
  have q := h.st (oy_ft.st h.1 s) (by decide)
  exact ⟨τ, e, q.1, q.2⟩
theorem cc_property (hT : oy_ok T) (h : oy_Cc T A d n K N σ) {a x w : Int} : oy_Pc (if 0 ≤ a ∧ a < sp_n T then (if 0 ≤ x ∧ x < 26 then .inr (sp_pro T a.toNat x w) else .inl 2) else .inl 1 : Nat ⊕ Int) (F_Out_property a x w σ) T A d n K (N + 1) σ := by
  obtain ⟨τ, e, s⟩ := oc_property hT h.1.1 (a := a) (x := x) (w := w)
  have q := h.st (oy_ft.st h.1 s) (by decide)
  exact ⟨τ, e, q.1, q.2⟩
theorem cc_shift (hT : oy_ok T) (h : oy_Cc T A d n K N σ) (hN : N ≤ 1000) {a m : Int} : oy_Pc (sp_shift T a m).1 (F_Out_shift a m σ) (sp_shift T a m).2 A d n K (N + 1) σ := by
  obtain ⟨τ, e, s⟩ := oc_shift hT h.1 (h.v hN) (a := a) (m := m)
  have q := h.st s (by decide)
  exact ⟨τ, e, q.1, q.2⟩
theorem cc_refile (hT : oy_ok T) (h : oy_Cc T A d n K N σ) (hN : N ≤ 1000) {a c s : Int} : oy_Pc (sp_refile T a c s).1 (F_Out_refile a c s σ) (sp_refile T a c s).2 A d n K (N + 1) σ := by
  have h0 := h
  obtain ⟨_, _, _, _, c5, c6, c7, c8, c9⟩ := h0
  obtain ⟨τ, e, f, cs, mo, v⟩ := oc_refile hT h.1 c7 (h.v hN) (a := a) (c := c) (s := s)
  have e' : ∀ c k j i, (c = 9 ∨ (c = 1 ∧ 2 ≤ k) ∨ c = 8 ∨ c = 0) → τ c k j i = σ c k j i := fun c k j i z => f _ _ _ _ (by unfold oy_tx1 oy_tx oy_le oy_rf; omega)
  refine ⟨τ, e, f.mono (fun c k j i z => by unfold oy_tx1 oy_tx oy_le oy_rf at z; unfold oy_lt; omega), h.mk' f (fun j i => by unfold oy_tx1 oy_tx oy_le oy_rf; omega) cs ?_ (c5.cg (fun j i => e' _ _ _ _ (by omega)) (fun j i => e' _ _ _ _ (by omega))) (c6.cg (fun j i => e' _ _ _ _ (by omega)) (fun j i => e' _ _ _ _ (by omega))) mo ((e' _ _ _ _ (by omega)).trans c8) ((e' _ _ _ _ (by omega)).trans c9)⟩
  obtain ⟨m, hm, v1, v2⟩ := v
  exact ⟨m, by omega, v1, v2⟩
theorem cc_state (hT : oy_ok T) (h : oy_Cc T A d n K N σ) (hN : N ≤ 1000) (hd : 0 ≤ d ∧ d ≤ 9999) {a s : Int} : oy_Pc (sp_statec T d a s).1 (F_Out_state a s σ) (sp_statec T d a s).2 A d n K (N + 1) σ := by
  obtain ⟨τ, e, s⟩ := oc_state2 hT h.1 (h.v hN) hd h.2.2.2.2.2.2.2.1 (a := a) (s := s)
  have q := h.st s (by decide)
  exact ⟨τ, e, q.1, q.2⟩
theorem cc_capture (hT : oy_ok T) (h : oy_Cc T A d n K N σ) (hN : N ≤ 1000) {u t : Int} : oy_Pc (sp_capture T u t).1 (F_Out_capture u t σ) (sp_capture T u t).2 A d n K (N + 1) σ := by
  obtain ⟨τ, e, s⟩ := oc_capture hT h.1 (h.v hN) (u := u) (t := t)
  have q := h.st s (by decide)
  exact ⟨τ, e, q.1, q.2⟩
theorem oy_Cc.txa {T' : oy_T} {A' : oy_A} (h : oy_Cc T A d n K N σ) (f : oy_fs oy_txa σ σ') (cs : oy_cs T' σ') (ac : oy_ac A' σ') (v : ∃ m : Nat, m ≤ 2 ∧ σ' 1 0 5 0 = σ 1 0 5 0 + (m : Int) ∧ (m = 0 → T' = T)) : oy_fs oy_lt σ σ' ∧ oy_Cc T' A' d n K (N + 1) σ' := by
  have h0 := h
  obtain ⟨_, _, _, _, c5, c6, c7, c8, c9⟩ := h0
  have e' : ∀ c k j i, ((c = 1 ∧ 1 ≤ k ∧ k ≤ 3) ∨ c = 8 ∨ c = 0) → σ' c k j i = σ c k j i := fun c k j i z => f _ _ _ _ (by unfold oy_txa oy_tx oy_le oy_rf; omega)
  refine ⟨f.mono (fun c k j i z => by unfold oy_txa oy_tx oy_le oy_rf at z; unfold oy_lt; omega), h.mk' f (fun j i => by unfold oy_txa oy_tx oy_le oy_rf; omega) cs ?_ ac (c6.cg (fun j i => e' _ _ _ _ (by omega)) (fun j i => e' _ _ _ _ (by omega))) (c7.cg (fun j i => e' _ _ _ _ (by omega))) ((e' _ _ _ _ (by omega)).trans c8) ((e' _ _ _ _ (by omega)).trans c9)⟩
  obtain ⟨m, hm, v1, v2⟩ := v
  exact ⟨m, by omega, v1, v2⟩
theorem cc_archive (hT : oy_ok T) (h : oy_Cc T A d n K N σ) (hN : N ≤ 1000) {a : Int} : oy_Pc (sp_arch T A a).1 (F_Out_archive a σ) (sp_arch T A a).2.1 (sp_arch T A a).2.2 d n K (N + 1) σ := by
  obtain ⟨τ, e, f, cs, ac, v⟩ := oc_archive hT h.1 (h.v hN) h.2.2.2.2.1 (a := a)
  have q := h.txa f cs ac v
  exact ⟨τ, e, q.1, q.2⟩
theorem cc_back (hT : oy_ok T) (h : oy_Cc T A d n K N σ) (hN : N ≤ 1000) : oy_Pc (sp_back T A).1 (F_Out_bringBack σ) (sp_back T A).2.1 (sp_back T A).2.2 d n K (N + 1) σ := by
  obtain ⟨τ, e, f, cs, ac, v⟩ := oc_back hT h.1 (h.v hN) h.2.2.2.2.1
  have q := h.txa f cs ac v
  exact ⟨τ, e, q.1, q.2⟩
/-- a day or an hour is set -/
theorem oy_Cc.day {d' n' : Int} (h : oy_Cc T A d n K N σ) (f : oy_fs (fun c _ _ _ => c = 0) σ σ') (h7 : σ' 0 0 7 0 = d') (h8 : σ' 0 0 8 0 = n') : oy_fs oy_lt σ σ' ∧ oy_Cc T A d' n' K (N + 1) σ' := by
  have h0 := h
  obtain ⟨c1, _, _, _, c5, c6, c7, c8, c9⟩ := h0
  have e' : ∀ c k j i, c ≠ 0 → σ' c k j i = σ c k j i := fun c k j i z => f _ _ _ _ z
  refine ⟨f.mono (fun c k j i z => Or.inl (by omega)), h.mk' f (fun j i => ⟨by show ¬ 5 = 0; decide, by show ¬ 7 = 0; decide, by show ¬ 1 = 0; decide⟩) (c1.frame f (fun k j i => ⟨by decide, by show ¬ 2 = 0; decide, by show ¬ 4 = 0; decide, by show ¬ 6 = 0; decide⟩)) ⟨0, by decide, by rw [e' _ _ _ _ (by decide)]; exact (Int.add_zero _).symm, fun _ => rfl⟩ (c5.cg (fun j i => e' _ _ _ _ (by decide)) (fun j i => e' _ _ _ _ (by decide))) (c6.cg (fun j i => e' _ _ _ _ (by decide)) (fun j i => e' _ _ _ _ (by decide))) (c7.cg (fun j i => e' _ _ _ _ (by decide))) h7 h8⟩
theorem cc_today (h : oy_Cc T A d n K N σ) {a : Int} : oy_Pc (sp_today d a).1 (F_Out_today a σ) T A (sp_today d a).2 n K (N + 1) σ := by
  obtain ⟨τ, e, f, v⟩ := oc_today h.2.2.2.2.2.2.2.1 (a := a)
  have q := h.day (f.mono (fun _ _ _ _ z => z.1)) v ((f _ _ _ _ (by omega)).trans h.2.2.2.2.2.2.2.2)
  exact ⟨τ, e, q.1, q.2⟩
theorem cc_pass (h : oy_Cc T A d n K N σ) (hn : 0 ≤ n ∧ n ≤ 9999) {a : Int} : oy_Pc (sp_pass n a).1 (F_Out_pass a σ) T A d (sp_pass n a).2 K (N + 1) σ := by
  obtain ⟨τ, e, f, v⟩ := oc_pass h.2.2.2.2.2.2.2.2 hn (a := a)
  have q := h.day (f.mono (fun _ _ _ _ z => z.1)) ((f _ _ _ _ (by omega)).trans h.2.2.2.2.2.2.2.1) v
  exact ⟨τ, e, q.1, q.2⟩
theorem cc_agenda (hT : oy_ok T) (h : oy_Cc T A d n K N σ) {x w b p : Int} (hp : p < 2147483648) : oy_Pc (sp_ag T x w b p) (F_Out_agenda x w b p σ) T A d n K (N + 1) σ := by
  obtain ⟨τ, e, s⟩ := oc_agenda hT h.1 (d := x) (w := w) (b := b) hp
  have q := h.st s (by decide)
  exact ⟨τ, e, q.1, q.2⟩
theorem cc_clockIn (hT : oy_ok T) (h : oy_Cc T A d n K N σ) (hN : N ≤ 1000) (hn : 0 ≤ n ∧ n ≤ 9999) {a : Int} : oy_Pc (sp_clockIn T n a).1 (F_Out_clockIn a σ) (sp_clockIn T n a).2 A d n K (N + 1) σ := by
  obtain ⟨τ, e, s⟩ := oc_clockIn hT h.1 (h.v hN) h.2.2.2.2.2.2.2.2 hn (a := a)
  have q := h.st s (by decide)
  exact ⟨τ, e, q.1, q.2⟩
theorem cc_clockOut (hT : oy_ok T) (h : oy_Cc T A d n K N σ) (hN : N ≤ 1000) (hn : 0 ≤ n ∧ n ≤ 9999) {a : Int} : oy_Pc (sp_clockOut T n a).1 (F_Out_clockOut a σ) (sp_clockOut T n a).2 A d n K (N + 1) σ := by
  obtain ⟨τ, e, s⟩ := oc_clockOut hT h.1 (h.v hN) h.2.2.2.2.2.2.2.2 hn (i := a)
  have q := h.st s (by decide)
  exact ⟨τ, e, q.1, q.2⟩
theorem cc_clocked (hT : oy_ok T) (h : oy_Cc T A d n K N σ) {a : Int} : oy_Pc (if 0 ≤ a ∧ a < sp_n T then .inr (sp_cked T a.toNat) else .inl 1 : Nat ⊕ Int) (F_Out_clocked a σ) T A d n K (N + 1) σ := by
  obtain ⟨τ, e, s⟩ := oc_clocked hT h.1 (a := a)
  have q := h.st s (by decide)
  exact ⟨τ, e, q.1, q.2⟩
theorem cc_link (hT : oy_ok T) (h : oy_Cc T A d n K N σ) {a p : Int} (hp : p < 2147483648) : oy_Pc (sp_link T a p) (F_Out_link a p σ) T A d n K (N + 1) σ := by
  obtain ⟨τ, e, s⟩ := oc_link hT h.1 (a := a) hp
  have q := h.st s (by decide)
  exact ⟨τ, e, q.1, q.2⟩
theorem cc_renum (hT : oy_ok T) (h : oy_Cc T A d n K N σ) (hN : N ≤ 1000) : oy_Pc (sp_rnum T).2.2 (F_Out_renumber σ) (sp_rnum T).1 A d n K (N + 1) σ ∧ oy_ok (sp_rnum T).1 := by
  obtain ⟨τ, e, f, cs, ok, v⟩ := oc_renum hT h.1 (h.v hN)
  exact ⟨⟨τ, e, f.mono (fun c k j i z => by unfold oy_txr oy_tx oy_le oy_rf at z; unfold oy_lt; omega), h.tx f cs v⟩, ok⟩
theorem cc_cell (hT : oy_ok T) (h : oy_Cc T A d n K N σ) {f : Nat → Nat → Int} (hfi : oy_fin T f) {a b r c : Int} (hb : -2147483648 ≤ b ∧ b ≤ 2147483647) : oy_Pc (sp_cell2 T f a b r c) (F_Out_cell a b r c σ) T A d n K (N + 1) σ := by
  have h0 := h
  obtain ⟨c1, c2, c3, ⟨⟨O, c4a⟩, c4b, c4c⟩, c5, c6, c7, c8, c9⟩ := h0
  obtain ⟨τ, e, f', cs, SC, v⟩ := oc_cell hT h.1 c3 hfi hb (a := a) (r := r) (c := c)
  have e' : ∀ c k j i, (c = 9 ∨ (c = 1 ∧ 1 ≤ k) ∨ c = 8 ∨ c = 0 ∨ c = 7) → τ c k j i = σ c k j i := fun c k j i z => f' _ _ _ _ (by unfold oy_txs oy_tx oy_le oy_rf; omega)
  have e12 : ∀ j i, τ 1 2 j i = σ 1 2 j i := fun j i => e' _ _ _ _ (by omega)
  have e7 : τ 7 0 4 0 = σ 7 0 4 0 := e' _ _ _ _ (by omega)
  refine ⟨τ, e, f'.mono (fun c k j i z => by unfold oy_txs oy_tx oy_le oy_rf at z; unfold oy_lt; omega), cs, by omega, SC, ⟨⟨O, c4a.cg e12⟩, by omega, fun z => ?_⟩, c5.cg (fun j i => e' _ _ _ _ (by omega)) (fun j i => e' _ _ _ _ (by omega)), c6.cg (fun j i => e' _ _ _ _ (by omega)) (fun j i => e' _ _ _ _ (by omega)), c7.cg (fun j i => e' _ _ _ _ (by omega)), (e' _ _ _ _ (by omega)).trans c8, (e' _ _ _ _ (by omega)).trans c9⟩
  obtain ⟨g, g1, g2⟩ := c4c (by omega)
  exact ⟨g, g1, g2.cg e12⟩
theorem cc_run (hT : oy_ok T) (h : oy_Cc T A d n K N σ) {f : Nat → Nat → Int} (hfi : oy_fin T f) {a : Int} : oy_Pc (sp_run T f K a).1 (F_Out_run a σ) T A d n (sp_run T f K a).2 (N + 1) σ := by
  have h0 := h
  obtain ⟨c1, c2, c3, ⟨⟨O, c4a⟩, c4b, c4c⟩, c5, c6, c7, c8, c9⟩ := h0
  obtain ⟨τ, e, f', cs, SC, kc, v⟩ := oc_run hT h.1 c3 hfi c6 (a := a)
  have e' : ∀ c k j i, (c = 9 ∨ (c = 1 ∧ (k = 1 ∨ k = 2 ∨ k = 4)) ∨ c = 0 ∨ c = 7) → τ c k j i = σ c k j i := fun c k j i z => f' _ _ _ _ (by unfold oy_txk oy_tx oy_s8 oy_le oy_rf; omega)
  have e12 : ∀ j i, τ 1 2 j i = σ 1 2 j i := fun j i => e' _ _ _ _ (by omega)
  have e7 : τ 7 0 4 0 = σ 7 0 4 0 := e' _ _ _ _ (by omega)
  refine ⟨τ, e, f'.mono (fun c k j i z => by unfold oy_txk oy_tx oy_s8 oy_le oy_rf at z; unfold oy_lt; omega), cs, by omega, SC, ⟨⟨O, c4a.cg e12⟩, by omega, fun z => ?_⟩, c5.cg (fun j i => e' _ _ _ _ (by omega)) (fun j i => e' _ _ _ _ (by omega)), kc, c7.cg (fun j i => e' _ _ _ _ (by omega)), (e' _ _ _ _ (by omega)).trans c8, (e' _ _ _ _ (by omega)).trans c9⟩
  obtain ⟨g, g1, g2⟩ := c4c (by omega)
  exact ⟨g, g1, g2.cg e12⟩
theorem oy_Cc.txx (h : oy_Cc T A d n K N σ) (f' : oy_fs oy_txx σ σ') (cs : oy_cs T σ') (SC : oy_SC T σ') (XC : oy_XC T σ') (v : σ' 1 0 5 0 = σ 1 0 5 0) : oy_fs oy_lt σ σ' ∧ oy_Cc T A d n K (N + 1) σ' := by
  obtain ⟨c1, c2, c3, c4, c5, c6, c7, c8, c9⟩ := h
  have e' : ∀ c k j i, (c = 9 ∨ (c = 1 ∧ (k = 1 ∨ k = 3 ∨ k = 4)) ∨ c = 0 ∨ c = 8) → σ' c k j i = σ c k j i := fun c k j i z => f' _ _ _ _ (by unfold oy_txx oy_tx oy_le oy_rf; omega)
  exact ⟨f'.mono (fun c k j i z => by unfold oy_txx oy_tx oy_le oy_rf at z; unfold oy_lt; omega), cs, by omega, SC, XC, c5.cg (fun j i => e' _ _ _ _ (by omega)) (fun j i => e' _ _ _ _ (by omega)), c6.cg (fun j i => e' _ _ _ _ (by omega)) (fun j i => e' _ _ _ _ (by omega)), c7.cg (fun j i => e' _ _ _ _ (by omega)), (e' _ _ _ _ (by omega)).trans c8, (e' _ _ _ _ (by omega)).trans c9⟩
theorem cc_exported (hT : oy_ok T) (h : oy_Cc T A d n K N σ) {f : Nat → Nat → Int} (hfi : oy_fin T f) : oy_Pc (((sp_exp T f).length : Nat) : Int) (F_Out_exported σ) T A d n K (N + 1) σ := by
  obtain ⟨τ, e, f', cs, SC, XC, v⟩ := oc_exported hT hfi h.1 h.2.2.1 h.2.2.2.1
  have q := h.txx f' cs SC XC v
  exact ⟨τ, e, q.1, q.2⟩
theorem cc_exportedAt (hT : oy_ok T) (h : oy_Cc T A d n K N σ) {f : Nat → Nat → Int} (hfi : oy_fin T f) {a p : Int} : oy_Pc (sp_xat (sp_exp T f) a p) (F_Out_exportedAt a p σ) T A d n K (N + 1) σ := by
  obtain ⟨τ, e, f', cs, SC, XC, v⟩ := oc_exportedAt hT hfi h.1 h.2.2.1 h.2.2.2.1 (a := a) (p := p)
  have q := h.txx f' cs SC XC v
  exact ⟨τ, e, q.1, q.2⟩
end OYO2
