/-! ===== rows that read and write the world ===== -/
theorem ox_rok_arr {tl t k j : Nat} (h : ox_rok tl (t, k, j)) (h1 : 100 ≤ t) (h2 : t ≤ 122) : (t, k, j) ∈ ox_L tl ∨ (t, k, j) = (122, 0, 0) := by
  rcases h with h | ⟨h, -⟩ | h | h
  · exact Or.inl h
  · have : t = 200 := h; omega
  · exact Or.inr h
  · have : t = 999 := h; omega
theorem ox_ty3 {c j : Nat} (h : ox_ty c j = 3) : c = 2 := by
  unfold ox_ty at h
  repeat' split at h
  all_goals first | omega | assumption
theorem ox_ty_22 (j : Nat) : ox_ty 22 j = 0 := rfl
theorem ox_vok_32 {ty : Nat} {v : Int} (hty : ty ≠ 4) (h : ox_vok ty v) : ox_i32 v := by
  unfold ox_vok at h
  split at h
  · unfold ox_i32; omega
  · unfold ox_i32; omega
  · exact absurd rfl hty
  · exact h
theorem ox_sok_up {σ : ox_H} {c k j i : Nat} {v : Int} (h : ox_sok σ) (hv : ox_vok (ox_ty c j) v) : ox_sok (ox_up σ c k j i v) := by
  intro c' k' j' i'
  unfold ox_up
  split
  · rename_i q
    rw [q.1, q.2.1]; exact hv
  · exact h c' k' j' i'
theorem ox_sok_cp {σ : ox_H} {c0 k0 j0 sp c k j dp n : Nat} (h : ox_sok σ) (ht : ox_ty c0 j0 = ox_ty c j) : ox_sok (ox_cp σ c0 k0 j0 sp c k j dp n) := by
  intro c' k' j' i'
  unfold ox_cp
  split
  · rename_i q
    rw [q.1, q.2.1, ← ht]; exact h _ _ _ _
  · exact h c' k' j' i'
section OX14
variable {p : Program} {l : Launch} {e : Env} {R : Room} {s : State} {m : MethodId} {args : Array Value} {below : List Frame} {meth : Method} {c : Code}
variable {G : ox_G} {mc ms n : Nat} {Q : State → Prop} {cc : ByteArray} {own : String} {pc b tl : Nat} {ls st : List ox_V} {σ : ox_H}
theorem ox_bs_le (C : ox_Cx p l R s m args meth c G mc ms n cc own) : ox_bs G ≤ s.heap.size := C.2.2.2.2.2.2.2.2.2 _ (Nat.le_refl _)
/-- the world behind a write -/
theorem ox_Wd_to {σ' : ox_H} {H H1 : Heap} {locs locs1 : List Loc} {c1 k1 j1 : Nat} (C : ox_Cx p l R s m args meth c G mc ms n cc own) (h : ox_Wd G tl σ s H) (hS : va_S (ox_A G) s.heap H locs) (hS1 : va_S (ox_A G) s.heap H1 locs1) (hb : ox_but σ σ' c1 k1 j1) (hc : c1 ≠ 22) (hok : ox_sok σ') (hP : va_P (ox_D G) ox_cls (ox_ws G tl σ') H1) (hD : va_D (ox_A G) (ox_ws G tl σ')) : ox_Wd G tl σ' s H1 := by
  obtain ⟨-, -, -, hX⟩ := h
  refine ⟨hP, hD, hok, ?_⟩
  have e0 : σ' 22 0 1 0 = σ 22 0 1 0 := hb 22 0 1 (fun z => hc z.1.symm) 0
  have e1 : (fun j => Int32.ofInt (σ' 22 0 0 j)) = fun j => Int32.ofInt (σ 22 0 0 j) := funext fun j => by rw [hb 22 0 0 (fun z => hc z.1.symm) j]
  rw [e0, e1]
  have hlt : ox_ad G (122, 0, 0) < ox_bs G := C.2.2.2.2.2.1.2.2.2.2.2.2.1
  have hA : ¬ ox_A G (ox_ad G (122, 0, 0)) := fun z => absurd (show ox_bs G ≤ _ from z) (Nat.not_le.mpr hlt)
  have hsz := Nat.lt_of_lt_of_le hlt (ox_bs_le C)
  exact hX.kept ((hS1.2.1 _ hsz hA).trans (hS.2.1 _ hsz hA).symm)
theorem ox_Wd_at {H : Heap} {r : Nat × Nat × Nat} (h : ox_Wd G tl σ s H) (hr : r ∈ ox_L tl) : ∃ q : Nat, (ox_L tl)[q]? = some r ∧ (ox_ws G tl σ)[q]? = some (ox_ad G r, ox_ent G σ r) := by
  obtain ⟨q, hq⟩ := List.getElem?_of_mem hr
  exact ⟨q, hq, ox_ws_at hq⟩
theorem ox_tys_at (C : ox_Cx p l R s m args meth c G mc ms n cc own) : va_K (ox_D G) ox_cls (ox_tys G) s := C.2.2.2.2.2.1.1
theorem ox_rw_n {c k j : Nat} (h3 : ox_ty c j ≠ 3) (h4 : ox_ty c j ≠ 4) : ox_rw G σ c k j = (ox_len σ c k j, .inl (fun i => Int32.ofInt (σ c k j i))) := by
  unfold ox_rw
  congr 1
  split <;> simp_all
theorem ox_rw_3 {c k j : Nat} (h3 : ox_ty c j = 3) : ox_rw G σ c k j = (ox_len σ c k j, .inr (.inr (.inr (.inr (fun i => some (ox_ad G (4, i, 0))))))) := by
  unfold ox_rw
  rw [h3]
  rfl
theorem ox_rw_4 {c k j : Nat} (h3 : ox_ty c j = 4) : ox_rw G σ c k j = (ox_len σ c k j, .inr (.inl (fun i => Int64.ofInt (σ c k j i)))) := by
  unfold ox_rw
  rw [h3]
  rfl
theorem ox_r_ald (C : ox_Cx p l R s m args meth c G mc ms n cc own) {i : Instr} {ty : Nat} (hi : (i = .iaload ∧ ty = 0) ∨ (i = .caload ∧ ty = 1) ∨ (i = .baload ∧ ty = 2) ∨ (i = .aaload ∧ ty = 3) ∨ (i = .laload ∧ ty = 4)) (hd : decode cc pc = .ok (i, 1)) {g : List ox_V → Option ox_O} {o : ox_O} (h : ox_ald ty σ st g = some o)
    (k : ∀ st', g st' = some o → ox_S9 p l e R s m args below meth c G mc ms n Q (pc + 1) b tl ls st' σ) : ox_S9 p l e R s m args below meth c G mc ms n Q pc b tl ls st σ := by
  intro H locs cells slots arr h1 h2 h3 h4 h5 h6 h7
  rcases st with _ | ⟨x | x | x, _ | ⟨y | y | ⟨t, u, j⟩, r⟩⟩ <;> try cases h
  unfold ox_ald at h
  dsimp only at h
  by_cases hc1 : 100 ≤ t ∧ t ≤ 122 ∧ ox_ty (t - 100) j = ty
  rotate_left
  · rw [if_neg hc1] at h; cases h
  rw [if_pos hc1] at h
  obtain ⟨ha, hb, hty⟩ := hc1
  by_cases hin : 0 ≤ x ∧ x.toNat < ox_len σ (t - 100) u j
  rotate_left
  · rw [if_neg hin] at h; cases h
  rw [if_pos hin] at h
  obtain ⟨hx, h5⟩ := List.forall_mem_cons.mp h5
  obtain ⟨hr, h55⟩ := List.forall_mem_cons.mp h5
  have hx : ox_i32 x := hx
  obtain ⟨c1, rfl⟩ : ∃ c1, t = 100 + c1 := ⟨t - 100, by omega⟩
  rw [Nat.add_sub_cancel_left] at hty hin h
  have hK := ox_tys_at C
  have hvi := ox_vin hx hin
  have hn := ox_toN hx
  rcases ox_rok_arr hr ha hb with hr | hr
  · obtain ⟨q, hq, he⟩ := ox_Wd_at h1 hr
    rw [ox_ent_arr, hty] at he
    have hsv := h1.2.2.1 c1 u j x.toNat
    rw [hty] at hsv
    rcases hi with ⟨rfl, rfl⟩ | ⟨rfl, rfl⟩ | ⟨rfl, rfl⟩ | ⟨rfl, rfl⟩ | ⟨rfl, rfl⟩
    · rw [ox_rw_n (by omega) (by omega)] at he
      have z := k _ h H locs cells slots arr h1 h2 h3 h4 (ox_okc (v := .inl _) hsv h55) h6 h7
      refine va_iald C.1 C.2.1 hK h1.1 q 0 he rfl hvi hd ?_
      rw [hn]; exact z
    · rw [ox_rw_n (by omega) (by omega)] at he
      have z := k _ h H locs cells slots arr h1 h2 h3 h4 (ox_okc (v := .inl _) (ox_vok_32 (ty := 1) (by omega) hsv) h55) h6 h7
      refine va_cald C.1 C.2.1 hK h1.1 q 1 he rfl hvi hd ?_
      rw [hn]; exact z
    · rw [ox_rw_n (by omega) (by omega)] at he
      have z := k _ h H locs cells slots arr h1 h2 h3 h4 (ox_okc (v := .inl _) (ox_vok_32 (ty := 2) (by omega) hsv) h55) h6 h7
      refine va_zald C.1 C.2.1 hK h1.1 q 2 he rfl hvi hd ?_
      rw [hn]; exact z
    · rw [ox_rw_3 hty] at he
      have hlt : x.toNat < 61 := by
        have e2 := ox_ty3 hty
        subst e2
        have h9 : x.toNat < 60 := hin.2
        omega
      have z := k _ h H locs cells slots arr h1 h2 h3 h4 (ox_okc (v := .inr (.inr (4, x.toNat, 0))) (Or.inl (ox_L_up (ox_L_obj 4 (by omega) _ hlt))) h55) h6 h7
      refine va_aldq C.1 C.2.1 hK h1.1 q 3 he rfl hvi hd ?_
      rw [hn]; exact z
    · rw [ox_rw_4 hty] at he
      have z := k _ h H locs cells slots arr h1 h2 h3 h4 (ox_okc (v := .inr (.inl _)) hsv h55) h6 h7
      refine va_lald C.1 C.2.1 hK h1.1 q 4 he rfl hvi hd ?_
      rw [hn]; exact z
  · obtain ⟨e1, rfl, rfl⟩ : 100 + c1 = 122 ∧ u = 0 ∧ j = 0 := by simpa using hr
    obtain rfl : c1 = 22 := by omega
    have e0 : ty = 0 := by rw [← hty]; rfl
    subst e0
    rcases hi with ⟨rfl, -⟩ | ⟨-, q⟩ | ⟨-, q⟩ | ⟨-, q⟩ | ⟨-, q⟩ <;> try cases q
    obtain ⟨scr, g1, g2, g3, g4, g5⟩ := h1.2.2.2
    have hlt : x.toNat < (σ 22 0 1 0).toNat := hin.2
    have hsv : ox_i32 (σ 22 0 0 x.toNat) := h1.2.2.1 22 0 0 x.toNat
    have z := k _ h H locs cells slots arr h1 h2 h3 h4 (ox_okc (v := .inl _) hsv h55) h6 h7
    refine W.iald (v := .int (Int32.ofInt (σ 22 0 0 x.toNat))) C.1 C.2.1 g1 g2 g3 (by rw [g4]; exact ox_vin hx ⟨hin.1, hlt⟩) (by rw [hn]; exact g5 _ hlt) rfl rfl hd ?_
    exact z
end OX14
