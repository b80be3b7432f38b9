/-! ===== cells of the world, one by one ===== -/
/-- what a reference of the list is -/
def ox_rb (r : Nat × Nat × Nat) : Bool := (decide (r.1 < 11) && decide (r.2.1 < ox_pool r.1) && r.2.2 == 0) || (decide (100 ≤ r.1) && decide (r.1 < 111) && (ox_fk (r.1 - 100) r.2.2).1 == 1 && decide (r.2.2 < ox_nf (r.1 - 100)) && decide (r.2.1 < ox_pool (r.1 - 100))) || r == (120, 0, 0) || r == (121, 0, 0)
theorem ox_L_rb0 : ∀ r ∈ ox_L0 ++ [(120, 0, 0)], ox_rb r = true := by decide +kernel
theorem ox_L_nd0 : (ox_L0 ++ [(120, 0, 0)]).Nodup := by decide +kernel
theorem ox_L_sub {tl : Nat} {r : Nat × Nat × Nat} (h : r ∈ ox_L tl) : r ∈ ox_L0 ++ [(120, 0, 0)] := by
  unfold ox_L at h
  split at h
  · exact List.mem_append_left _ h
  · exact h
theorem ox_L_rb {tl : Nat} {r : Nat × Nat × Nat} (h : r ∈ ox_L tl) : ox_rb r = true := ox_L_rb0 r (ox_L_sub h)
theorem ox_L_nd (tl : Nat) : (ox_L tl).Nodup := by
  unfold ox_L
  split
  · exact (List.nodup_append.mp ox_L_nd0).1
  · exact ox_L_nd0
theorem ox_L_up {tl : Nat} {r : Nat × Nat × Nat} (h : r ∈ ox_L 0) : r ∈ ox_L tl := by
  have h : r ∈ ox_L0 := h
  unfold ox_L
  split
  · exact h
  · exact List.mem_append_left _ h
theorem ox_L_obj : ∀ c, c < 11 → ∀ k, k < ox_pool c → (c, k, 0) ∈ ox_L0 := by decide +kernel
theorem ox_L_arr : ∀ c, c < 11 → ∀ k, k < ox_pool c → ∀ j, j < ox_nf c → (ox_fk c j).1 = 1 → (100 + c, k, j) ∈ ox_L0 := by
  have h : ((List.range 11).all fun c => (List.range (ox_pool c)).all fun k => (List.range (ox_nf c)).all fun j => !((ox_fk c j).1 == 1) || decide ((100 + c, k, j) ∈ ox_L0)) = true := by decide +kernel
  intro c hc k hk j hj h1
  have h2 := List.all_eq_true.mp (List.all_eq_true.mp (List.all_eq_true.mp h c (List.mem_range.mpr hc)) k (List.mem_range.mpr hk)) j (List.mem_range.mpr hj)
  rw [h1] at h2
  simpa using h2
theorem ox_fk_ref : ∀ c, c < 11 → ∀ j, j < ox_nf c → (ox_fk c j).1 = 2 → (ox_fk c j).2.1 < 11 ∧ (ox_fk c j).2.2 < ox_pool (ox_fk c j).2.1 := by decide +kernel
theorem ox_rb_obj {r : Nat × Nat × Nat} (h : ox_rb r = true) (h1 : r.1 < 100) : r.1 < 11 ∧ r.2.1 < ox_pool r.1 ∧ r.2.2 = 0 := by
  simp only [ox_rb, Bool.or_eq_true, Bool.and_eq_true, decide_eq_true_eq, beq_iff_eq] at h
  rcases h with ((⟨⟨h, h2⟩, h3⟩ | h) | h) | h
  · exact ⟨h, h2, h3⟩
  · omega
  · rw [h] at h1; omega
  · rw [h] at h1; omega
theorem ox_rb_arr {r : Nat × Nat × Nat} (h : ox_rb r = true) (h1 : 100 ≤ r.1) : (r.1 - 100 < 11 ∧ (ox_fk (r.1 - 100) r.2.2).1 = 1 ∧ r.2.2 < ox_nf (r.1 - 100) ∧ r.2.1 < ox_pool (r.1 - 100)) ∨ (r.2.1 = 0 ∧ r.2.2 = 0 ∧ (r.1 = 120 ∨ r.1 = 121)) := by
  simp only [ox_rb, Bool.or_eq_true, Bool.and_eq_true, decide_eq_true_eq, beq_iff_eq] at h
  rcases h with ((⟨⟨h, h2⟩, h3⟩ | ⟨⟨⟨⟨h, h2⟩, h3⟩, h4⟩, h5⟩) | h) | h
  · omega
  · exact Or.inl ⟨by omega, h3, h4, h5⟩
  · rw [h]; exact Or.inr ⟨rfl, rfl, Or.inl rfl⟩
  · rw [h]; exact Or.inr ⟨rfl, rfl, Or.inr rfl⟩
theorem ox_ws_at {G : ox_G} {tl : Nat} {σ : ox_H} {r : Nat × Nat × Nat} {q : Nat} (h : (ox_L tl)[q]? = some r) : (ox_ws G tl σ)[q]? = some (ox_ad G r, ox_ent G σ r) := by
  unfold ox_ws
  rw [List.getElem?_map, h]
  rfl
theorem ox_ws_set {G : ox_G} {tl : Nat} {σ σ' : ox_H} {r : Nat × Nat × Nat} {q : Nat} (h : (ox_L tl)[q]? = some r) (hr : ∀ r' ∈ ox_L tl, r' ≠ r → ox_ent G σ' r' = ox_ent G σ r') {e : va_E} (he : ox_ent G σ' r = e) : (ox_ws G tl σ).set q (ox_ad G r, e) = ox_ws G tl σ' := by
  subst he
  apply List.ext_getElem?
  intro i
  have hq : q < (ox_L tl).length := (List.getElem?_eq_some_iff.mp h).1
  by_cases hi : q = i
  · subst hi
    rw [List.getElem?_set_self (by simpa [ox_ws] using hq), ox_ws_at h]
  · rw [List.getElem?_set_ne hi]
    unfold ox_ws
    rw [List.getElem?_map, List.getElem?_map]
    cases hx : (ox_L tl)[i]? with
    | none => rfl
    | some r' =>
      have hne : r' ≠ r := by
        rintro rfl
        have hi' : i < (ox_L tl).length := (List.getElem?_eq_some_iff.mp hx).1
        have e1 := (List.getElem?_eq_some_iff.mp h).2
        have e2 := (List.getElem?_eq_some_iff.mp hx).2
        rcases Nat.lt_or_gt_of_ne hi with z | z
        · exact List.pairwise_iff_getElem.mp (ox_L_nd tl) q i hq hi' z (e1.trans e2.symm)
        · exact List.pairwise_iff_getElem.mp (ox_L_nd tl) i q hi' hq z (e2.trans e1.symm)
      show some (ox_ad G r', ox_ent G σ r') = some (ox_ad G r', ox_ent G σ' r')
      rw [hr r' (List.mem_of_getElem? hx) hne]
theorem ox_ent_obj {G : ox_G} {σ : ox_H} {c k : Nat} (hc : c < 11) : ox_ent G σ (c, k, 0) = .inr (c, (List.range (ox_nf c)).map (fun j => ox_fv G σ c k j)) := by
  unfold ox_ent
  rw [if_pos (by show c < 100; omega)]
theorem ox_ent_arr {G : ox_G} {σ : ox_H} {c k j : Nat} : ox_ent G σ (100 + c, k, j) = .inl (ox_cA G (ox_ty c j), ox_rw G σ c k j) := by
  unfold ox_ent
  rw [if_neg (by show ¬ 100 + c < 100; omega)]
  show Sum.inl (ox_cA G (ox_ty (100 + c - 100) j), ox_rw G σ (100 + c - 100) k j) = _
  rw [Nat.add_sub_cancel_left]
theorem ox_fs_at {G : ox_G} {σ : ox_H} {c k j : Nat} (hj : j < ox_nf c) : ((List.range (ox_nf c)).map (fun j => ox_fv G σ c k j))[j]? = some (ox_fv G σ c k j) := by
  rw [List.getElem?_map, List.getElem?_range hj]
  rfl
theorem ox_fs_set {G : ox_G} {σ σ' : ox_H} {c k j : Nat} {v : Value} (hv : ox_fv G σ' c k j = v) (ho : ∀ j', j' < ox_nf c → j' ≠ j → ox_fv G σ' c k j' = ox_fv G σ c k j') : ((List.range (ox_nf c)).map (fun j => ox_fv G σ c k j)).set j v = (List.range (ox_nf c)).map (fun j => ox_fv G σ' c k j) := by
  apply List.ext_getElem?
  intro i
  by_cases hi : j = i
  · subst hi
    by_cases hj : j < ox_nf c
    · rw [List.getElem?_set_self (by simpa using hj), ox_fs_at hj, hv]
    · rw [List.getElem?_eq_none (by simp; omega), List.getElem?_eq_none (by simp; omega)]
  · rw [List.getElem?_set_ne hi, List.getElem?_map, List.getElem?_map]
    by_cases hj : i < ox_nf c
    · rw [List.getElem?_range hj]
      show some (ox_fv G σ c k i) = some (ox_fv G σ' c k i)
      rw [ho i hj (fun h => hi h.symm)]
    · rw [List.getElem?_eq_none (by simp; omega)]
      rfl
theorem ox_len_up {σ : ox_H} {c k j i : Nat} {v : Int} (hc : c ≠ 22) (c' k' j' : Nat) : ox_len (ox_up σ c k j i v) c' k' j' = ox_len σ c' k' j' := by
  have : ox_up σ c k j i v 22 0 1 0 = σ 22 0 1 0 := by unfold ox_up; rw [if_neg (fun h => hc h.1.symm)]
  unfold ox_len
  rw [this]
theorem ox_len_cp {σ : ox_H} {c0 k0 j0 sp c k j dp n : Nat} (hc : c ≠ 22) (c' k' j' : Nat) : ox_len (ox_cp σ c0 k0 j0 sp c k j dp n) c' k' j' = ox_len σ c' k' j' := by
  have : ox_cp σ c0 k0 j0 sp c k j dp n 22 0 1 0 = σ 22 0 1 0 := by unfold ox_cp; rw [if_neg (fun h => hc h.1.symm)]
  unfold ox_len
  rw [this]
/-- two heaps that differ in one field or row: the other cells are as they were -/
def ox_but (σ σ' : ox_H) (c k j : Nat) : Prop := ∀ c' k' j', ¬ (c' = c ∧ j' = j ∧ k' = k) → ∀ i, σ' c' k' j' i = σ c' k' j' i
theorem ox_but_up {σ : ox_H} {c k j i : Nat} {v : Int} : ox_but σ (ox_up σ c k j i v) c k j := by
  intro c' k' j' h i'
  unfold ox_up
  rw [if_neg (fun q => h ⟨q.1, q.2.1, q.2.2.1⟩)]
theorem ox_but_cp {σ : ox_H} {c0 k0 j0 sp c k j dp n : Nat} : ox_but σ (ox_cp σ c0 k0 j0 sp c k j dp n) c k j := by
  intro c' k' j' h i'
  unfold ox_cp
  rw [if_neg (fun q => h ⟨q.1, q.2.1, q.2.2.1⟩)]
theorem ox_but_len {σ σ' : ox_H} {c k j : Nat} (h : ox_but σ σ' c k j) (hc : c ≠ 22) (c' k' j' : Nat) : ox_len σ' c' k' j' = ox_len σ c' k' j' := by
  have : σ' 22 0 1 0 = σ 22 0 1 0 := h 22 0 1 (fun q => hc q.1.symm) 0
  unfold ox_len
  rw [this]
theorem ox_but_rw {G : ox_G} {σ σ' : ox_H} {c k j c' k' j' : Nat} (h : ox_but σ σ' c k j) (hc : c ≠ 22) (hne : ¬ (c' = c ∧ j' = j ∧ k' = k)) : ox_rw G σ' c' k' j' = ox_rw G σ c' k' j' := by
  unfold ox_rw
  rw [ox_but_len h hc]
  have : σ' c' k' j' = σ c' k' j' := funext (h c' k' j' hne)
  rw [this]
/-- a number in a field of an object: the entries of the others -/
theorem ox_but_objs {G : ox_G} {tl : Nat} {σ σ' : ox_H} {c k j : Nat} (h : ox_but σ σ' c k j) (hc : c < 11) (hfk : (ox_fk c j).1 = 0) (hk : k < ox_pool c) : ∀ r' ∈ ox_L tl, r' ≠ (c, k, 0) → ox_ent G σ' r' = ox_ent G σ r' := by
  intro r' hr hne
  have hb := ox_L_rb hr
  obtain ⟨t, k', j'⟩ := r'
  by_cases h1 : t < 100
  · obtain ⟨g1, g2, g3⟩ := ox_rb_obj hb h1
    have g3 : j' = 0 := g3
    subst g3
    rw [ox_ent_obj g1, ox_ent_obj g1]
    congr 2
    apply List.map_congr_left
    intro q _
    have hq : σ' t k' q = σ t k' q := funext (h t k' q (fun z => hne (by rw [z.1, z.2.2])))
    unfold ox_fv
    rw [hq]
  · obtain ⟨c', rfl⟩ : ∃ c', t = 100 + c' := ⟨t - 100, by omega⟩
    rw [ox_ent_arr, ox_ent_arr, ox_but_rw h (by omega)]
    rintro ⟨rfl, rfl, rfl⟩
    rcases ox_rb_arr hb (by show 100 ≤ 100 + c'; omega) with g | g
    · have g2 : (ox_fk (100 + c' - 100) j').1 = 1 := g.2.1
      rw [Nat.add_sub_cancel_left, hfk] at g2
      cases g2
    · have : 100 + c' = 120 ∨ 100 + c' = 121 := g.2.2
      omega
/-- a row's change: the entries of the others -/
theorem ox_but_rows {G : ox_G} {tl : Nat} {σ σ' : ox_H} {c k j : Nat} (h : ox_but σ σ' c k j) (hc : c ≠ 22) (hin : (100 + c, k, j) ∈ ox_L tl) : ∀ r' ∈ ox_L tl, r' ≠ (100 + c, k, j) → ox_ent G σ' r' = ox_ent G σ r' := by
  intro r' hr hne
  have hb := ox_L_rb hr
  obtain ⟨t, k', j'⟩ := r'
  by_cases h1 : t < 100
  · obtain ⟨g1, g2, g3⟩ := ox_rb_obj hb h1
    have g3 : j' = 0 := g3
    subst g3
    rw [ox_ent_obj g1, ox_ent_obj g1]
    congr 2
    apply List.map_congr_left
    intro q _
    by_cases hz : t = c ∧ q = j ∧ k' = k
    · obtain ⟨rfl, rfl, rfl⟩ := hz
      have g4 : (ox_fk t q).1 = 1 := by
        rcases ox_rb_arr (ox_L_rb hin) (by show 100 ≤ 100 + t; omega) with g | g
        · have g2 : (ox_fk (100 + t - 100) q).1 = 1 := g.2.1
          rw [Nat.add_sub_cancel_left] at g2
          exact g2
        · have : 100 + t = 120 ∨ 100 + t = 121 := g.2.2
          omega
      rcases hf : ox_fk t q with ⟨a, b, d⟩
      rw [hf] at g4
      have g4 : a = 1 := g4
      subst g4
      simp only [ox_fv, hf]
    · have hq : σ' t k' q = σ t k' q := funext (h t k' q hz)
      unfold ox_fv
      rw [hq]
  · obtain ⟨c', rfl⟩ : ∃ c', t = 100 + c' := ⟨t - 100, by omega⟩
    rw [ox_ent_arr, ox_ent_arr, ox_but_rw h hc]
    rintro ⟨rfl, rfl, rfl⟩
    exact hne rfl
