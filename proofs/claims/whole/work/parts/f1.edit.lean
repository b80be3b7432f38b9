/-! ===== texts that are made of others ===== -/
def oy_mk {α : Type} (n : Nat) (f : Nat → α) : List α := (List.range n).map f
theorem oy_mk_len {α : Type} {n : Nat} {f : Nat → α} : (oy_mk n f).length = n := by
  unfold oy_mk
  rw [List.length_map, List.length_range]
theorem oy_mk_get {α : Type} {n : Nat} {f : Nat → α} {d : α} (l : Nat) : (oy_mk n f).getD l d = if l < n then f l else d := by
  unfold oy_mk
  rw [List.getD_eq_getElem?_getD, List.getElem?_map]
  by_cases h : l < n
  · rw [if_pos h, List.getElem?_range h]
    rfl
  · rw [if_neg h, List.getElem?_eq_none (by rw [List.length_range]; omega)]
    rfl
theorem oy_mk_mem {α : Type} {n : Nat} {f : Nat → α} {x : α} (h : x ∈ oy_mk n f) : ∃ l, l < n ∧ x = f l := by
  unfold oy_mk at h
  rw [List.mem_map] at h
  obtain ⟨l, h1, h2⟩ := h
  exact ⟨l, List.mem_range.mp h1, h2.symm⟩
theorem oy_mk_ln {n : Nat} {f : Nat → List Int} (l : Nat) : oy_ln (oy_mk n f) l = if l < n then f l else [] := oy_mk_get l
/-- empty lines put in -/
def sp_ins (T : oy_T) (a m : Nat) : oy_T := oy_mk (T.length + m) (fun l => if l < a then oy_ln T l else if l < a + m then [] else oy_ln T (l - m))
/-- lines taken out -/
def sp_del (T : oy_T) (a m : Nat) : oy_T := oy_mk (T.length - m) (fun l => if l < a then oy_ln T l else oy_ln T (l + m))
/-- another line in a line's place -/
def sp_put (T : oy_T) (a : Nat) (w : List Int) : oy_T := oy_mk T.length (fun l => if l = a then w else oy_ln T l)
def oy_good (k : Nat) (w : List Int) : Prop := w.length ≤ ox_wd k ∧ ∀ x ∈ w, 32 ≤ x ∧ x ≤ 126
theorem oy_good_nil {k : Nat} : oy_good k [] := ⟨Nat.zero_le _, fun x h => by cases h⟩
theorem oy_good_ln {k : Nat} {T : oy_T} (h : oy_okL k T) (l : Nat) : oy_good k (oy_ln T l) := by
  by_cases hl : l < T.length
  · exact h.2 _ (oy_ln_mem hl)
  · rw [oy_ln_ge (by omega)]
    exact oy_good_nil
theorem oy_okL_mk {k n : Nat} {f : Nat → List Int} (hn : n ≤ ox_ln k) (hf : ∀ l, l < n → oy_good k (f l)) : oy_okL k (oy_mk n f) := by
  refine ⟨by rw [oy_mk_len]; exact hn, fun w hw => ?_⟩
  obtain ⟨l, h1, h2⟩ := oy_mk_mem hw
  rw [h2]
  exact hf l h1
theorem sp_ins_ok {k : Nat} {T : oy_T} {a m : Nat} (h : oy_okL k T) (hr : T.length + m ≤ ox_ln k) : oy_okL k (sp_ins T a m) := oy_okL_mk hr (fun l _ => by
  split
  · exact oy_good_ln h _
  · split
    · exact oy_good_nil
    · exact oy_good_ln h _)
theorem sp_del_ok {k : Nat} {T : oy_T} {a m : Nat} (h : oy_okL k T) : oy_okL k (sp_del T a m) := oy_okL_mk (by have := h.1; omega) (fun l _ => by split <;> exact oy_good_ln h _)
theorem sp_put_ok {k : Nat} {T : oy_T} {a : Nat} {w : List Int} (h : oy_okL k T) (hw : oy_good k w) : oy_okL k (sp_put T a w) := oy_okL_mk h.1 (fun l _ => by
  split
  · exact hw
  · exact oy_good_ln h _)
theorem oy_wk_app {w : List Int} {x : Int} {p : Nat} : oy_wk (w ++ [x]) p = if p < w.length then oy_wk w p else if p = w.length then x else 0 := by
  unfold oy_wk
  by_cases h : p < w.length
  · rw [if_pos h, List.getD_eq_getElem?_getD, List.getElem?_append_left h, ← List.getD_eq_getElem?_getD]
  · rw [if_neg h, List.getD_eq_getElem?_getD, List.getElem?_append_right (by omega)]
    by_cases h2 : p = w.length
    · rw [if_pos h2, h2, Nat.sub_self]
      rfl
    · rw [if_neg h2, List.getElem?_eq_none (by show 1 ≤ _; omega)]
      rfl
theorem oy_good_app {k : Nat} {w : List Int} {x : Int} (h : oy_good k w) (hl : w.length < ox_wd k) (hx : 32 ≤ x ∧ x ≤ 126) : oy_good k (w ++ [x]) := by
  refine ⟨by rw [List.length_append]; exact hl, fun y hy => ?_⟩
  rw [List.mem_append] at hy
  rcases hy with hy | hy
  · exact h.2 y hy
  · have : y = x := by simpa using hy
    rw [this]
    exact hx
/-- what an edit of a Lines object writes -/
def oy_le (k : Nat) (c k' j i : Nat) : Prop := c = 1 ∧ k' = k ∧ 2 ≤ j ∧ j ≤ 5
section OYF1
variable {T : oy_T} {σ : ox_H}
theorem oc_addSign {k l : Nat} (hT : oy_okL k T) (hL : oy_L k T σ) (hw : σ 1 k 1 0 = ox_wd k) (hl : l < T.length) (hr : (oy_ln T l).length < ox_wd k) {x : Int} (hx : 32 ≤ x ∧ x ≤ 126) : ∃ σ', F_Lin_add k (l : Int) x σ = some σ' ∧ oy_fs (oy_le k) σ σ' ∧ oy_L k (sp_put T l (oy_ln T l ++ [x])) σ' ∧ σ' 1 k 5 0 = ox_w (σ 1 k 5 0 + 1) := by
  have h1 := oy_wdk k
  have h2 := oy_lnk k
  have h3 := hT.1
  have e : ox_w (ox_w ((l : Int) * (ox_wd k : Int)) + (((oy_ln T l).length : Nat) : Int)) = ((ox_wd k * l + (oy_ln T l).length : Nat) : Int) := by
    rcases h1 with q | q <;> rw [q] at hr ⊢ <;> rw [oy_w (x := (l : Int) * _) (by omega) (by omega), oy_w (by omega) (by omega)] <;> omega
  have hb : ox_wd k * l + (oy_ln T l).length < ox_ln k * ox_wd k := by
    rcases h1 with q | q <;> rw [q] at hr ⊢ <;> omega
  unfold F_Lin_add
  rw [hL.1, if_neg (by omega), if_neg (by omega), if_pos (by omega), Int.toNat_natCast, hL.2.1 l hl, hw, if_pos (by omega), if_pos (by omega), e, Int.toNat_natCast, if_pos ⟨by omega, hb⟩, if_pos (by omega), if_pos (by omega), oy_w1 (by omega), Int.emod_eq_of_lt (by omega) (by omega)]
  refine ⟨_, rfl, ((oy_fs.rf.up ⟨rfl, rfl, by decide, by decide⟩).up ⟨rfl, rfl, by decide, by decide⟩).up ⟨rfl, rfl, by decide, by decide⟩, ⟨?_, fun x' hx' => ?_, fun x' p hx' hp => ?_⟩, oy_up_same⟩
  · rw [oy_up_ne (by decide), oy_up_ne (by decide), oy_up_ne (by decide), hL.1]
    unfold sp_put
    rw [oy_mk_len]
  · have hx2 : x' < T.length := by unfold sp_put at hx'; rw [oy_mk_len] at hx'; exact hx'
    have el : oy_ln (sp_put T l (oy_ln T l ++ [x])) x' = if x' = l then oy_ln T l ++ [x] else oy_ln T x' := by
      unfold sp_put
      rw [oy_mk_ln, if_pos hx2]
    rw [el, oy_up_ne (by decide)]
    by_cases q : x' = l
    · rw [if_pos q, q, oy_up_same, List.length_append]
      rfl
    · rw [if_neg q, oy_up_ni q, oy_up_ne (by decide)]
      exact hL.2.1 x' hx2
  · have hx2 : x' < T.length := by unfold sp_put at hx'; rw [oy_mk_len] at hx'; exact hx'
    have el : oy_ln (sp_put T l (oy_ln T l ++ [x])) x' = if x' = l then oy_ln T l ++ [x] else oy_ln T x' := by
      unfold sp_put
      rw [oy_mk_ln, if_pos hx2]
    rw [el] at hp ⊢
    have hlen := oy_okL_len hT x'
    rw [oy_up_ne (by decide), oy_up_ne (by decide)]
    by_cases q : x' = l
    · rw [if_pos q, List.length_append] at hp
      have hp' : p < (oy_ln T l).length + 1 := hp
      rw [if_pos q, q, oy_wk_app]
      by_cases z : p = (oy_ln T l).length
      · rw [if_neg (by omega), if_pos z, z, oy_up_same]
      · rw [if_pos (by omega), oy_up_ni (by omega)]
        exact hL.2.2 l p hl (by omega)
    · rw [if_neg q] at hp ⊢
      rw [oy_up_ni (by rcases h1 with y | y <;> rw [y] at hr hlen ⊢ <;> omega)]
      exact hL.2.2 x' p hx2 hp
end OYF1
