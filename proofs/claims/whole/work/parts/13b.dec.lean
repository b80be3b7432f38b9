/-! ===== facts of the tables that a program decides ===== -/
theorem ox_cls_at {c : Nat} (hc : c < 11) : ox_cls[c]? = some (ox_cn c, ox_F c, ox_nf c) := by
  unfold ox_cls
  rw [List.getElem?_map, List.getElem?_range hc]
  rfl
theorem ox_lays_tbl : ∀ c, c < 11 → ∀ w ∈ u_ws (ox_cn c) (ox_F c) (ox_nf c), w ∈ tables_1 ∧ goodWord w = true := by decide +kernel
theorem ox_lays_in {c : Nat} (hc : c < 11) : ∀ w ∈ u_ws (ox_cn c) (ox_F c) (ox_nf c), w ∈ ox_good := fun w hw => List.mem_filter.mpr ⟨List.mem_append_right _ (ox_lays_tbl c hc w hw).1, (ox_lays_tbl c hc w hw).2⟩
theorem ox_T_ok : ∀ c, c < 11 → ∀ k, k < ox_nf c → parseFieldDescriptor (ox_F c k).2.2.1 = some (ox_T c k) := by decide +kernel
theorem ox_F_apart : ∀ c, c < 11 → ∀ a, a < ox_nf c → ∀ b, b < ox_nf c → a ≠ b → (ox_F c a).2.1 ≠ (ox_F c b).2.1 := by
  intro c hc
  have h : ((List.range 11).all fun c => (List.range (ox_nf c)).all fun a => (List.range (ox_nf c)).all fun b => a == b || !((ox_F c a).2.1 == (ox_F c b).2.1)) = true := by decide +kernel
  intro a ha b hb hne e
  have h2 := List.all_eq_true.mp (List.all_eq_true.mp (List.all_eq_true.mp h c (List.mem_range.mpr hc)) a (List.mem_range.mpr ha)) b (List.mem_range.mpr hb)
  rw [e] at h2
  simp at h2
  exact hne h2
