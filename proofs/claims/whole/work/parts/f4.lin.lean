/-! ===== edits of a Lines object ===== -/
theorem oy_wk_mk {n : Nat} {f : Nat → Int} (p : Nat) : oy_wk (oy_mk n f) p = if p < n then f p else 0 := oy_mk_get p
theorem sp_put_len {T : oy_T} {l : Nat} {w : List Int} : (sp_put T l w).length = T.length := oy_mk_len
theorem sp_put_ln {T : oy_T} {a l : Nat} {w : List Int} (hl : l < T.length) : oy_ln (sp_put T a w) l = if l = a then w else oy_ln T l := by
  unfold sp_put
  rw [oy_mk_ln, if_pos hl]
theorem sp_ins_len {T : oy_T} {a m : Nat} : (sp_ins T a m).length = T.length + m := oy_mk_len
theorem sp_ins_ln {T : oy_T} {a m l : Nat} (hl : l < T.length + m) : oy_ln (sp_ins T a m) l = if l < a then oy_ln T l else if l < a + m then [] else oy_ln T (l - m) := by
  unfold sp_ins
  rw [oy_mk_ln, if_pos hl]
theorem sp_del_len {T : oy_T} {a m : Nat} : (sp_del T a m).length = T.length - m := oy_mk_len
theorem sp_del_ln {T : oy_T} {a m l : Nat} (hl : l < T.length - m) : oy_ln (sp_del T a m) l = if l < a then oy_ln T l else oy_ln T (l + m) := by
  unfold sp_del
  rw [oy_mk_ln, if_pos hl]
/-- some lines of a text -/
def sp_sub (T : oy_T) (a m : Nat) : oy_T := oy_mk m (fun l => oy_ln T (a + l))
/-- lines put in -/
def sp_pas (T : oy_T) (a : Nat) (P : oy_T) : oy_T := oy_mk (T.length + P.length) (fun l => if l < a then oy_ln T l else if l < a + P.length then oy_ln P (l - a) else oy_ln T (l - P.length))
theorem sp_sub_len {T : oy_T} {a m : Nat} : (sp_sub T a m).length = m := oy_mk_len
theorem sp_sub_ln {T : oy_T} {a m l : Nat} (hl : l < m) : oy_ln (sp_sub T a m) l = oy_ln T (a + l) := by
  unfold sp_sub
  rw [oy_mk_ln, if_pos hl]
theorem sp_pas_len {T P : oy_T} {a : Nat} : (sp_pas T a P).length = T.length + P.length := oy_mk_len
theorem sp_pas_ln {T P : oy_T} {a l : Nat} (hl : l < T.length + P.length) : oy_ln (sp_pas T a P) l = if l < a then oy_ln T l else if l < a + P.length then oy_ln P (l - a) else oy_ln T (l - P.length) := by
  unfold sp_pas
  rw [oy_mk_ln, if_pos hl]
theorem sp_sub_ok {k j : Nat} {T : oy_T} {a m : Nat} (h : oy_okL k T) (hj : ox_wd k = ox_wd j) (hr : m ≤ ox_ln j) : oy_okL j (sp_sub T a m) := oy_okL_mk hr (fun l _ => by
  have := oy_good_ln h (a + l)
  exact ⟨by rw [← hj]; exact this.1, this.2⟩)
theorem sp_pas_ok {k : Nat} {T P : oy_T} {a : Nat} (h : oy_okL k T) (hP : ∀ l, oy_good k (oy_ln P l)) (hr : T.length + P.length ≤ ox_ln k) : oy_okL k (sp_pas T a P) := oy_okL_mk hr (fun l _ => by
  split
  · exact oy_good_ln h _
  · split
    · exact hP _
    · exact oy_good_ln h _)
theorem oy_WN (k : Nat) : (ox_wd k = 24 ∧ 60 ≤ ox_ln k ∧ ox_ln k ≤ 300) ∨ (ox_wd k = 48 ∧ ox_ln k = 100) := by
  unfold ox_wd ox_ln
  by_cases h : k = 2
  · rw [if_pos h, if_pos h]
    exact Or.inr ⟨rfl, rfl⟩
  · rw [if_neg h, if_neg h]
    refine Or.inl ⟨rfl, ?_, ?_⟩ <;> split <;> omega
theorem oy_wn {a b : Nat} (h : a + b ≤ 1000000) : ox_w ((a : Int) + (b : Int)) = ((a + b : Nat) : Int) := by
  rw [oy_w (by omega) (by omega)]
  omega
theorem oy_wsb {a b : Nat} (h : b ≤ a) (h2 : a ≤ 1000000) : ox_w ((a : Int) - (b : Int)) = ((a - b : Nat) : Int) := by
  rw [oy_w (by omega) (by omega)]
  omega
theorem oy_rw {k x : Nat} (h : x ≤ 1000) : ox_w ((x : Int) * (ox_wd k : Int)) = ((ox_wd k * x : Nat) : Int) := by
  rcases oy_wdk k with z | z <;> rw [z] <;> rw [oy_w (by omega) (by omega)] <;> omega
theorem oy_bd {k l : Nat} (h : l < ox_ln k) : ox_wd k * l + ox_wd k ≤ ox_ln k * ox_wd k ∧ ox_ln k * ox_wd k ≤ 10000 := by
  rcases oy_WN k with ⟨z, _, _⟩ | ⟨z, _⟩ <;> rw [z] <;> omega
theorem oy_bdm {k x y : Nat} (h : x + y ≤ ox_ln k) : ox_wd k * x + ox_wd k * y ≤ ox_ln k * ox_wd k ∧ ox_ln k * ox_wd k ≤ 10000 := by
  rcases oy_WN k with ⟨z, _, _⟩ | ⟨z, _⟩ <;> rw [z] <;> omega
theorem oy_cp_ne {σ : ox_H} {c0 k0 j0 sp c k j dp n c' k' j' i' : Nat} (h : ¬ (c' = c ∧ j' = j)) : ox_cp σ c0 k0 j0 sp c k j dp n c' k' j' i' = σ c' k' j' i' := if_neg (fun q => h ⟨q.1, q.2.1⟩)
theorem oy_cp_in {σ : ox_H} {c0 k0 j0 sp c k j dp n i' : Nat} : ox_cp σ c0 k0 j0 sp c k j dp n c k j i' = if dp ≤ i' ∧ i' < dp + n then σ c0 k0 j0 (sp + (i' - dp)) else σ c k j i' := by
  rw [oy_cp_def]
  by_cases q : dp ≤ i' ∧ i' < dp + n
  · rw [if_pos ⟨rfl, rfl, rfl, q.1, q.2⟩, if_pos q]
  · rw [if_neg (fun z => q ⟨z.2.2.2.1, z.2.2.2.2⟩), if_neg q]
theorem oy_fs.cp {S : Nat → Nat → Nat → Nat → Prop} {σ σ1 : ox_H} {c0 k0 j0 sp c k j dp n : Nat} (h : oy_fs S σ σ1) (hS : ∀ i, S c k j i) : oy_fs S σ (ox_cp σ1 c0 k0 j0 sp c k j dp n) := fun c' k' j' i' h' => by
  rw [oy_cp_def, if_neg (fun q => h' (by rw [q.1, q.2.1, q.2.2.1]; exact hS i'))]
  exact h c' k' j' i' h'
/-- an edit of a Lines object: what it holds behind it, and its version -/
def oy_ed (k N : Nat) (T' : oy_T) (σ σ' : ox_H) : Prop := oy_fs (oy_le k) σ σ' ∧ oy_L k T' σ' ∧ ∃ d : Nat, d ≤ N ∧ ((d = 0 ∧ σ' = σ) ∨ (1 ≤ d ∧ σ' 1 k 5 0 = ox_w (σ 1 k 5 0 + (d : Int))))
theorem oy_ed.rf {k : Nat} {T : oy_T} {σ : ox_H} (h : oy_L k T σ) : oy_ed k 0 T σ σ := ⟨oy_fs.rf, h, 0, Nat.le_refl _, Or.inl ⟨rfl, rfl⟩⟩
theorem oy_ed.one {k : Nat} {T : oy_T} {σ σ' : ox_H} (h : oy_fs (oy_le k) σ σ' ∧ oy_L k T σ' ∧ σ' 1 k 5 0 = ox_w (σ 1 k 5 0 + 1)) : oy_ed k 1 T σ σ' := ⟨h.1, h.2.1, 1, Nat.le_refl _, Or.inr ⟨Nat.le_refl _, h.2.2⟩⟩
theorem oy_ed.mono {k N N' : Nat} {T : oy_T} {σ σ' : ox_H} (h : oy_ed k N T σ σ') (hN : N ≤ N') : oy_ed k N' T σ σ' := by
  obtain ⟨a, b, d, hd, q⟩ := h
  exact ⟨a, b, d, Nat.le_trans hd hN, q⟩
theorem oy_ww {x y z : Int} : ox_w (ox_w (x + y) + z) = ox_w (x + (y + z)) := by unfold ox_w; omega
theorem oy_ed.tr {k N N' : Nat} {T T' : oy_T} {σ σ' σ'' : ox_H} (h : oy_ed k N T σ σ') (h' : oy_ed k N' T' σ' σ'') : oy_ed k (N + N') T' σ σ'' := by
  obtain ⟨a, b, d, hd, q⟩ := h
  obtain ⟨a', b', d', hd', q'⟩ := h'
  refine ⟨a.tr a', b', d + d', by omega, ?_⟩
  rcases q with ⟨q1, q2⟩ | ⟨q1, q2⟩
  · rcases q' with ⟨q3, q4⟩ | ⟨q3, q4⟩
    · exact Or.inl ⟨by omega, q4.trans q2⟩
    · refine Or.inr ⟨by omega, ?_⟩
      rw [q4, q2, q1, Nat.zero_add]
  · rcases q' with ⟨q3, q4⟩ | ⟨q3, q4⟩
    · refine Or.inr ⟨by omega, ?_⟩
      rw [q4, q2, q3, Nat.add_zero]
    · refine Or.inr ⟨by omega, ?_⟩
      rw [q4, q2, oy_ww]
      rfl
theorem oy_ed.w {k N : Nat} {T : oy_T} {σ σ' : ox_H} (h : oy_ed k N T σ σ') : σ' 1 k 1 0 = σ 1 k 1 0 ∧ σ' 1 k 0 0 = σ 1 k 0 0 := ⟨h.1 1 k 1 0 (by unfold oy_le; omega), h.1 1 k 0 0 (by unfold oy_le; omega)⟩
section OYF4
variable {T : oy_T} {σ : ox_H}
theorem oc_putL {σ' : ox_H} {k l : Nat} {w : List Int} (hT : oy_okL k T) (hL : oy_L k T σ) (h4 : σ' 1 k 4 0 = σ 1 k 4 0) (h3 : ∀ i, i ≠ l → σ' 1 k 3 i = σ 1 k 3 i) (h3l : σ' 1 k 3 l = (w.length : Int)) (h2 : ∀ i, ¬ (ox_wd k * l ≤ i ∧ i < ox_wd k * l + ox_wd k) → σ' 1 k 2 i = σ 1 k 2 i) (h2l : ∀ p, p < w.length → σ' 1 k 2 (ox_wd k * l + p) = oy_wk w p) : oy_L k (sp_put T l w) σ' := by
  refine ⟨?_, fun x hx => ?_, fun x p hx hp => ?_⟩
  · rw [h4, hL.1, sp_put_len]
  · rw [sp_put_len] at hx
    rw [sp_put_ln hx]
    by_cases q : x = l
    · rw [if_pos q, q, h3l]
    · rw [if_neg q, h3 x q]
      exact hL.2.1 x hx
  · rw [sp_put_len] at hx
    rw [sp_put_ln hx] at hp ⊢
    by_cases q : x = l
    · rw [if_pos q] at hp ⊢
      rw [q]
      exact h2l p hp
    · rw [if_neg q] at hp ⊢
      have h1 := oy_okL_len hT x
      rw [h2 _ (by rcases oy_wdk k with z | z <;> rw [z] at h1 ⊢ <;> omega)]
      exact hL.2.2 x p hx hp
/-- signs taken out of a line, a sign put in -/
def sp_cut (w : List Int) (p m : Nat) : List Int := oy_mk (w.length - m) (fun i => if i < p then oy_wk w i else oy_wk w (i + m))
def sp_pin (w : List Int) (p : Nat) (x : Int) : List Int := oy_mk (w.length + 1) (fun i => if i < p then oy_wk w i else if i = p then x else oy_wk w (i - 1))
def sp_set (w : List Int) (p : Nat) (x : Int) : List Int := oy_mk w.length (fun i => if i = p then x else oy_wk w i)
theorem oy_good_wk {k : Nat} {w : List Int} (h : oy_good k w) {i : Nat} (hi : i < w.length) : 32 ≤ oy_wk w i ∧ oy_wk w i ≤ 126 := by
  refine h.2 _ ?_
  unfold oy_wk
  rw [List.getD_eq_getElem?_getD, List.getElem?_eq_getElem hi]
  exact List.getElem_mem hi
theorem oy_good_mk {k n : Nat} {f : Nat → Int} (hn : n ≤ ox_wd k) (hf : ∀ i, i < n → 32 ≤ f i ∧ f i ≤ 126) : oy_good k (oy_mk n f) := by
  refine ⟨by rw [oy_mk_len]; exact hn, fun x hx => ?_⟩
  obtain ⟨l, h1, h2⟩ := oy_mk_mem hx
  rw [h2]
  exact hf l h1
theorem sp_cut_good {k : Nat} {w : List Int} {p m : Nat} (h : oy_good k w) : oy_good k (sp_cut w p m) := oy_good_mk (by have := h.1; omega) (fun i hi => by
  split
  · exact oy_good_wk h (by omega)
  · exact oy_good_wk h (by omega))
theorem sp_pin_good {k : Nat} {w : List Int} {p : Nat} {x : Int} (h : oy_good k w) (hl : w.length < ox_wd k) (hp : p ≤ w.length) (hx : 32 ≤ x ∧ x ≤ 126) : oy_good k (sp_pin w p x) := oy_good_mk hl (fun i hi => by
  split
  · exact oy_good_wk h (by omega)
  · split
    · exact hx
    · exact oy_good_wk h (by omega))
theorem sp_set_good {k : Nat} {w : List Int} {p : Nat} {x : Int} (h : oy_good k w) (hx : 32 ≤ x ∧ x ≤ 126) : oy_good k (sp_set w p x) := oy_good_mk h.1 (fun i hi => by
  split
  · exact hx
  · exact oy_good_wk h (by omega))
theorem oc_takeOut {k l p m : Nat} (hT : oy_okL k T) (hL : oy_L k T σ) (hw : σ 1 k 1 0 = ox_wd k) (hl : l < T.length) (hm : 1 ≤ m) (hp : p + m ≤ (oy_ln T l).length) : ∃ σ', F_Lin_takeOut k (l : Int) (p : Int) (m : Int) σ = some σ' ∧ oy_ed k 1 (sp_put T l (sp_cut (oy_ln T l) p m)) σ σ' := by
  have h3 := hT.1
  have h5 := oy_okL_len hT l
  have h6 := oy_wdk k
  have h7 := oy_lnk k
  have hsz := hL.2.1 l hl
  have hgp := fun q => hL.2.2 l q hl
  have hbd := oy_bd (k := k) (l := l) (by omega)
  have hU : (ox_ln k : Int) * (ox_wd k : Int) = ((ox_ln k * ox_wd k : Nat) : Int) := rfl
  generalize hw0 : oy_ln T l = w at h5 hsz hgp hp ⊢
  have c1 : ¬ (l : Int) < 0 := by omega
  have c2 : ¬ (T.length : Int) ≤ (l : Int) := by omega
  have c3 : ¬ (p : Int) < 0 := by omega
  have c4 : ¬ (m : Int) < 1 := by omega
  have c5 : 0 ≤ (l : Int) ∧ l < ox_ln k := by omega
  have c6 : (m : Int) ≤ ((w.length - p : Nat) : Int) := by omega
  unfold F_Lin_takeOut
  rw [hL.1, if_neg c1, if_neg c2, if_neg c3, if_neg c4, Int.toNat_natCast, if_pos c5, if_pos c5, if_pos c5, if_pos c5, hsz, hw, hU, oy_rw (by omega), oy_wsb (by omega) (by omega), oy_wsb (a := w.length) (b := m) (by omega) (by omega), if_pos c6]
  clear c1 c2 c3 c4 c5 c6 hU
  generalize hV : ox_ln k * ox_wd k = V at hbd ⊢
  generalize hX : ox_wd k * l = X at hbd hgp ⊢
  rw [oy_wn (a := X) (b := p) (by omega), oy_wn (a := X + p) (b := m) (by omega), oy_wsb (by omega) (by omega), if_pos (by omega)]
  simp only [Int.toNat_natCast]
  refine ⟨_, rfl, oy_ed.one ⟨((oy_fs.rf.cp (fun i => ⟨rfl, rfl, by decide, by decide⟩)).up ⟨rfl, rfl, by decide, by decide⟩).up ⟨rfl, rfl, by decide, by decide⟩, oc_putL hT hL ?_ (fun i hi => ?_) ?_ (fun i hi => ?_) (fun q hq => ?_), oy_up_same⟩⟩
  · rw [oy_up_ne (by decide), oy_up_ne (by decide), oy_cp_ne (by decide)]
  · rw [oy_up_ne (by decide), oy_up_ni hi, oy_cp_ne (by decide)]
  · rw [oy_up_ne (by decide), oy_up_same]
    unfold sp_cut
    rw [oy_mk_len]
  · rw [hX] at hi
    rw [oy_up_ne (by decide), oy_up_ne (by decide), oy_cp_in, if_neg (by omega)]
  · have hq2 : q < w.length - m := by unfold sp_cut at hq; rw [oy_mk_len] at hq; exact hq
    unfold sp_cut
    rw [oy_wk_mk, if_pos hq2, oy_up_ne (by decide), oy_up_ne (by decide), oy_cp_in, hX]
    by_cases z : q < p
    · rw [if_neg (by omega), if_pos z]
      exact hgp q (by omega)
    · have e : X + p + m + (X + q - (X + p)) = X + (q + m) := by omega
      rw [if_pos (by omega), if_neg z, e]
      exact hgp (q + m) (by omega)
theorem oc_putIn {k l p : Nat} {x : Int} (hT : oy_okL k T) (hL : oy_L k T σ) (hw : σ 1 k 1 0 = ox_wd k) (hl : l < T.length) (hp : p ≤ (oy_ln T l).length) (hr : (oy_ln T l).length < ox_wd k) (hx : 32 ≤ x ∧ x ≤ 126) : ∃ σ', F_Lin_putIn k (l : Int) (p : Int) x σ = some σ' ∧ oy_ed k 1 (sp_put T l (sp_pin (oy_ln T l) p x)) σ σ' := by
  have h3 := hT.1
  have h6 := oy_wdk k
  have h7 := oy_lnk k
  have hsz := hL.2.1 l hl
  have hgp := fun q => hL.2.2 l q hl
  have hbd := oy_bd (k := k) (l := l) (by omega)
  have hU : (ox_ln k : Int) * (ox_wd k : Int) = ((ox_ln k * ox_wd k : Nat) : Int) := rfl
  generalize hw0 : oy_ln T l = w at hsz hgp hp hr ⊢
  have c1 : ¬ (l : Int) < 0 := by omega
  have c2 : ¬ (T.length : Int) ≤ (l : Int) := by omega
  have c3 : ¬ (p : Int) < 0 := by omega
  have c4 : ¬ (w.length : Int) < (p : Int) := by omega
  have c5 : 0 ≤ (l : Int) ∧ l < ox_ln k := by omega
  have c6 : (w.length : Int) < (ox_wd k : Int) := by omega
  unfold F_Lin_putIn
  rw [hL.1, if_neg c1, if_neg c2, if_neg c3, Int.toNat_natCast, if_pos c5, if_pos c5, if_pos c5, if_pos c5, if_pos c5, hsz, hw, hU, if_neg c4, if_pos c6, oy_rw (by omega), oy_wsb (by omega) (by omega), oy_w1 (p := w.length) (by omega)]
  clear c1 c2 c3 c4 c5 c6 hU
  generalize hV : ox_ln k * ox_wd k = V at hbd ⊢
  generalize hX : ox_wd k * l = X at hbd hgp ⊢
  rw [oy_wn (a := X) (b := p) (by omega), oy_w1 (p := X + p) (by omega), if_pos (by omega), Int.toNat_natCast, if_pos (by omega), Int.emod_eq_of_lt (by omega) (by omega)]
  simp only [Int.toNat_natCast]
  refine ⟨_, rfl, oy_ed.one ⟨(((oy_fs.rf.cp (fun i => ⟨rfl, rfl, by decide, by decide⟩)).up ⟨rfl, rfl, by decide, by decide⟩).up ⟨rfl, rfl, by decide, by decide⟩).up ⟨rfl, rfl, by decide, by decide⟩, oc_putL hT hL ?_ (fun i hi => ?_) ?_ (fun i hi => ?_) (fun q hq => ?_), oy_up_same⟩⟩
  · rw [oy_up_ne (by decide), oy_up_ne (by decide), oy_up_ne (by decide), oy_cp_ne (by decide)]
  · rw [oy_up_ne (by decide), oy_up_ni hi, oy_up_ne (by decide), oy_cp_ne (by decide)]
  · rw [oy_up_ne (by decide), oy_up_same]
    unfold sp_pin
    rw [oy_mk_len]
  · rw [hX] at hi
    rw [oy_up_ne (by decide), oy_up_ne (by decide), oy_up_ni (by omega), oy_cp_in, if_neg (by omega)]
  · have hq2 : q < w.length + 1 := by unfold sp_pin at hq; rw [oy_mk_len] at hq; exact hq
    unfold sp_pin
    rw [oy_wk_mk, if_pos hq2, oy_up_ne (by decide), oy_up_ne (by decide), hX]
    by_cases z : q < p
    · rw [oy_up_ni (by omega), oy_cp_in, if_neg (by omega), if_pos z]
      exact hgp q (by omega)
    · rw [if_neg z]
      by_cases z2 : q = p
      · rw [if_pos z2, z2, oy_up_same]
      · have e : X + p + (X + q - (X + p + 1)) = X + (q - 1) := by omega
        rw [if_neg z2, oy_up_ni (by omega), oy_cp_in, if_pos (by omega), e]
        exact hgp (q - 1) (by omega)
theorem oc_set {k l p : Nat} {x : Int} (hT : oy_okL k T) (hL : oy_L k T σ) (hw : σ 1 k 1 0 = ox_wd k) (hl : l < T.length) (hp : p < (oy_ln T l).length) (hx : 32 ≤ x ∧ x ≤ 126) : ∃ σ', F_Lin_set k (l : Int) (p : Int) x σ = some σ' ∧ oy_ed k 1 (sp_put T l (sp_set (oy_ln T l) p x)) σ σ' := by
  have h3 := hT.1
  have h5 := oy_okL_len hT l
  have h6 := oy_wdk k
  have h7 := oy_lnk k
  have hsz := hL.2.1 l hl
  have hgp := fun q => hL.2.2 l q hl
  have hbd := oy_bd (k := k) (l := l) (by omega)
  generalize hw0 : oy_ln T l = w at h5 hsz hgp hp ⊢
  have c1 : ¬ (l : Int) < 0 := by omega
  have c2 : ¬ (T.length : Int) ≤ (l : Int) := by omega
  have c3 : ¬ (p : Int) < 0 := by omega
  have c4 : (p : Int) < (w.length : Int) := by omega
  have c5 : 0 ≤ (l : Int) ∧ l < ox_ln k := by omega
  unfold F_Lin_set
  rw [hL.1, if_neg c1, if_neg c2, if_neg c3, Int.toNat_natCast, if_pos c5, hsz, hw, if_pos c4, oy_rw (by omega)]
  clear c1 c2 c3 c4 c5
  generalize hV : ox_ln k * ox_wd k = V at hbd ⊢
  generalize hX : ox_wd k * l = X at hbd hgp ⊢
  rw [oy_wn (a := X) (b := p) (by omega), Int.toNat_natCast, if_pos (by omega), Int.emod_eq_of_lt (by omega) (by omega)]
  refine ⟨_, rfl, oy_ed.one ⟨(oy_fs.rf.up ⟨rfl, rfl, by decide, by decide⟩).up ⟨rfl, rfl, by decide, by decide⟩, oc_putL hT hL ?_ (fun i hi => ?_) ?_ (fun i hi => ?_) (fun q hq => ?_), oy_up_same⟩⟩
  · rw [oy_up_ne (by decide), oy_up_ne (by decide)]
  · rw [oy_up_ne (by decide), oy_up_ne (by decide)]
  · rw [oy_up_ne (by decide), oy_up_ne (by decide), hsz]
    unfold sp_set
    rw [oy_mk_len]
  · rw [hX] at hi
    rw [oy_up_ne (by decide), oy_up_ni (by omega)]
  · have hq2 : q < w.length := by unfold sp_set at hq; rw [oy_mk_len] at hq; exact hq
    unfold sp_set
    rw [oy_wk_mk, if_pos hq2, oy_up_ne (by decide), hX]
    by_cases z : q = p
    · rw [if_pos z, z, oy_up_same]
    · rw [if_neg z, oy_up_ni (by omega)]
      exact hgp q hq2
theorem oc_addE {k l : Nat} {x : Int} (hT : oy_okL k T) (hL : oy_L k T σ) (hw : σ 1 k 1 0 = ox_wd k) (hl : l < T.length) (hr : (oy_ln T l).length < ox_wd k) (hx : 32 ≤ x ∧ x ≤ 126) : ∃ σ', F_Lin_add k (l : Int) x σ = some σ' ∧ oy_ed k 1 (sp_put T l (oy_ln T l ++ [x])) σ σ' := by
  obtain ⟨σ', a, b, c, d⟩ := oc_addSign hT hL hw hl hr hx
  exact ⟨σ', a, oy_ed.one ⟨b, c, d⟩⟩
theorem oc_gap {k a m : Nat} (hr : a + m ≤ ox_ln k) : ∀ (f x n : Nat) (τ : ox_H), x + f = a + m → f < n → ∃ τ', ox_lp (B_Lin_open_90 k (a : Int) (m : Int)) n ((x : Int), τ) = J_Lin_open_110 k (m : Int) τ' ∧ ∀ c k' j i, τ' c k' j i = if c = 1 ∧ k' = k ∧ j = 3 ∧ x ≤ i ∧ i < a + m then 0 else τ c k' j i
  | _, _, 0, _, _, h => absurd h (Nat.not_lt_zero _)
  | 0, x, n + 1, τ, h1, h2 => by
    have h3 := oy_lnk k
    refine ⟨τ, oy_lp_m ?_, fun c k' j i => by rw [if_neg (by omega)]⟩
    unfold B_Lin_open_90
    dsimp only
    rw [oy_w (by omega) (by omega), if_pos (by omega)]
  | f + 1, x, n + 1, τ, h1, h2 => by
    have h3 := oy_lnk k
    have hB : B_Lin_open_90 k (a : Int) (m : Int) ((x : Int), τ) = some (.inl (((x + 1 : Nat) : Int), ox_up τ 1 k 3 x 0)) := by
      unfold B_Lin_open_90
      dsimp only
      rw [oy_w (x := (a : Int) + m) (by omega) (by omega), if_neg (by omega), if_pos (by omega), Int.toNat_natCast, oy_w1 (by omega)]
    obtain ⟨τ', e', g'⟩ := oc_gap hr f (x + 1) n (ox_up τ 1 k 3 x 0) (by omega) (by omega)
    refine ⟨τ', (oy_lp_l hB).trans e', fun c k' j i => ?_⟩
    rw [g']
    by_cases q : c = 1 ∧ k' = k ∧ j = 3 ∧ x + 1 ≤ i ∧ i < a + m
    · rw [if_pos q, if_pos (by omega)]
    · rw [if_neg q]
      by_cases z : c = 1 ∧ k' = k ∧ j = 3 ∧ i = x
      · obtain ⟨rfl, rfl, rfl, rfl⟩ := z
        rw [oy_up_same, if_pos (by omega)]
      · rw [if_neg (by omega)]
        unfold ox_up
        rw [if_neg (by omega)]
theorem oc_open {k a m : Nat} (hT : oy_okL k T) (hL : oy_L k T σ) (hw : σ 1 k 1 0 = ox_wd k) (hn : σ 1 k 0 0 = ox_ln k) (ha : a ≤ T.length) (hm : 1 ≤ m) (hr : T.length + m ≤ ox_ln k) : ∃ σ', F_Lin_open k (a : Int) (m : Int) σ = some σ' ∧ oy_ed k 1 (sp_ins T a m) σ σ' := by
  have h7 := oy_lnk k
  have hU : (ox_ln k : Int) * (ox_wd k : Int) = ((ox_ln k * ox_wd k : Nat) : Int) := rfl
  have b1 := oy_bdm (k := k) (x := a) (y := T.length - a) (by omega)
  have b2 := oy_bdm (k := k) (x := a + m) (y := T.length - a) (by omega)
  have c1 : ¬ (a : Int) < 0 := by omega
  have c2 : ¬ (T.length : Int) < (a : Int) := by omega
  have c3 : ¬ (m : Int) < 1 := by omega
  have c4 : (m : Int) ≤ ((ox_ln k - T.length : Nat) : Int) := by omega
  have c6 : 0 ≤ ((T.length - a : Nat) : Int) ∧ 0 ≤ ((a + m : Nat) : Int) ∧ 0 ≤ (a : Int) ∧ (a : Int) + ((T.length - a : Nat) : Int) ≤ (ox_ln k : Int) ∧ ((a + m : Nat) : Int) + ((T.length - a : Nat) : Int) ≤ (ox_ln k : Int) := by omega
  have c5 : 0 ≤ ((ox_wd k * (T.length - a) : Nat) : Int) ∧ 0 ≤ ((ox_wd k * (a + m) : Nat) : Int) ∧ 0 ≤ ((ox_wd k * a : Nat) : Int) ∧ ((ox_wd k * a : Nat) : Int) + ((ox_wd k * (T.length - a) : Nat) : Int) ≤ ((ox_ln k * ox_wd k : Nat) : Int) ∧ ((ox_wd k * (a + m) : Nat) : Int) + ((ox_wd k * (T.length - a) : Nat) : Int) ≤ ((ox_ln k * ox_wd k : Nat) : Int) := by
    generalize ox_wd k * (T.length - a) = X at b1 b2 ⊢
    generalize ox_wd k * (a + m) = Y at b2 ⊢
    generalize ox_wd k * a = Z at b1 ⊢
    generalize ox_ln k * ox_wd k = V at b1 b2 ⊢
    clear c1 c2 c3 c4 c6 hU h7
    omega
  unfold F_Lin_open
  rw [hL.1, hn, hw, if_neg c1, if_neg c2, if_neg c3, oy_wsb (a := ox_ln k) (by omega) (by omega), if_pos c4, oy_wsb (a := T.length) (b := a) ha (by omega), oy_wn (a := a) (b := m) (by omega), oy_rw (x := T.length - a) (by omega), oy_rw (x := a + m) (by omega), oy_rw (x := a) (by omega), hU, if_pos c5, if_pos c6]
  clear c1 c2 c3 c4 c5 c6 hU b1 b2
  simp only [Int.toNat_natCast]
  unfold J_Lin_open_90
  obtain ⟨τ, e, g⟩ := oc_gap (k := k) (a := a) (m := m) (by omega) m a ox_fu (ox_cp (ox_cp σ 1 k 2 (ox_wd k * a) 1 k 2 (ox_wd k * (a + m)) (ox_wd k * (T.length - a))) 1 k 3 a 1 k 3 (a + m) (T.length - a)) (by omega) (by show m < 100000; omega)
  rw [e]
  have t : ∀ j i, j ≠ 2 → j ≠ 3 → ∀ c k', τ c k' j i = σ c k' j i := fun j i q1 q2 c k' => by
    rw [g, if_neg (fun q => q2 q.2.2.1), oy_cp_ne (fun q => q2 q.2), oy_cp_ne (fun q => q1 q.2)]
  have t3 : ∀ i, τ 1 k 3 i = if a ≤ i ∧ i < a + m then 0 else if a + m ≤ i ∧ i < T.length + m then σ 1 k 3 (i - m) else σ 1 k 3 i := fun i => by
    rw [g]
    by_cases q : a ≤ i ∧ i < a + m
    · rw [if_pos ⟨rfl, rfl, rfl, q.1, q.2⟩, if_pos q]
    · rw [if_neg (fun z => q ⟨z.2.2.2.1, z.2.2.2.2⟩), if_neg q, oy_cp_in]
      by_cases z : a + m ≤ i ∧ i < T.length + m
      · have ei : a + (i - (a + m)) = i - m := by omega
        rw [if_pos (by omega), if_pos z, oy_cp_ne (by decide), ei]
      · rw [if_neg (by omega), if_neg z, oy_cp_ne (by decide)]
  have t2 : ∀ i, τ 1 k 2 i = if ox_wd k * (a + m) ≤ i ∧ i < ox_wd k * (a + m) + ox_wd k * (T.length - a) then σ 1 k 2 (ox_wd k * a + (i - ox_wd k * (a + m))) else σ 1 k 2 i := fun i => by
    rw [g, if_neg (fun z => absurd z.2.2.1 (by decide)), oy_cp_ne (by decide), oy_cp_in]
  have F : oy_fs (oy_le k) σ τ := fun c k' j i h => by
    rw [g, if_neg (fun q => h ⟨q.1, q.2.1, by have := q.2.2.1; omega⟩), oy_cp_def, if_neg (fun q => h ⟨q.1, q.2.2.1, by have := q.2.1; omega⟩), oy_cp_def, if_neg (fun q => h ⟨q.1, q.2.2.1, by have := q.2.1; omega⟩)]
  clear g e
  unfold J_Lin_open_110
  refine ⟨_, rfl, oy_ed.one ⟨(F.up ⟨rfl, rfl, by decide, by decide⟩).up ⟨rfl, rfl, by decide, by decide⟩, ⟨?_, fun l hl => ?_, fun l p hl hp => ?_⟩, ?_⟩⟩
  · rw [oy_up_ne (by decide), oy_up_same, t 4 0 (by decide) (by decide), hL.1, sp_ins_len, oy_wn (by omega)]
  · rw [sp_ins_len] at hl
    rw [oy_up_ne (by decide), oy_up_ne (by decide), t3, sp_ins_ln hl]
    by_cases q1 : l < a
    · rw [if_pos q1, if_neg (by omega), if_neg (by omega)]
      exact hL.2.1 l (by omega)
    rw [if_neg q1]
    by_cases q2 : l < a + m
    · rw [if_pos q2, if_pos (by omega)]; rfl
    · rw [if_neg q2, if_neg (by omega), if_pos (by omega)]
      exact hL.2.1 (l - m) (by omega)
  · rw [sp_ins_len] at hl
    rw [sp_ins_ln hl] at hp ⊢
    rw [oy_up_ne (by decide), oy_up_ne (by decide), t2]
    clear t t3 t2 F
    by_cases q1 : l < a
    · have hlw := oy_okL_len hT l
      rw [if_pos q1] at hp ⊢
      rw [if_neg (by rcases oy_wdk k with q | q <;> rw [q] at hlw ⊢ <;> omega)]
      exact hL.2.2 l p (by omega) hp
    rw [if_neg q1] at hp ⊢
    by_cases q2 : l < a + m
    · rw [if_pos q2] at hp
      exact absurd hp (Nat.not_lt_zero _)
    · have hlw := oy_okL_len hT (l - m)
      rw [if_neg q2] at hp ⊢
      have ei : ox_wd k * a + (ox_wd k * l + p - ox_wd k * (a + m)) = ox_wd k * (l - m) + p := by rcases oy_wdk k with q | q <;> rw [q] <;> omega
      rw [if_pos (by rcases oy_wdk k with q | q <;> rw [q] at hlw ⊢ <;> omega), ei]
      exact hL.2.2 (l - m) p (by omega) hp
  · rw [oy_up_same, t 5 0 (by decide) (by decide)]
theorem oc_close {k a m : Nat} (hT : oy_okL k T) (hL : oy_L k T σ) (hw : σ 1 k 1 0 = ox_wd k) (hm : 1 ≤ m) (hr : a + m ≤ T.length) : ∃ σ', F_Lin_close k (a : Int) (m : Int) σ = some σ' ∧ oy_ed k 1 (sp_del T a m) σ σ' := by
  have h3 := hT.1
  have h7 := oy_lnk k
  have hU : (ox_ln k : Int) * (ox_wd k : Int) = ((ox_ln k * ox_wd k : Nat) : Int) := rfl
  have b1 := oy_bdm (k := k) (x := a) (y := T.length - (a + m)) (by omega)
  have b2 := oy_bdm (k := k) (x := a + m) (y := T.length - (a + m)) (by omega)
  have c1 : ¬ (a : Int) < 0 := by omega
  have c3 : ¬ (m : Int) < 1 := by omega
  have c4 : (m : Int) ≤ ((T.length - a : Nat) : Int) := by omega
  have c6 : 0 ≤ ((T.length - (a + m) : Nat) : Int) ∧ 0 ≤ (a : Int) ∧ 0 ≤ ((a + m : Nat) : Int) ∧ ((a + m : Nat) : Int) + ((T.length - (a + m) : Nat) : Int) ≤ (ox_ln k : Int) ∧ (a : Int) + ((T.length - (a + m) : Nat) : Int) ≤ (ox_ln k : Int) := by omega
  have c5 : 0 ≤ ((ox_wd k * (T.length - (a + m)) : Nat) : Int) ∧ 0 ≤ ((ox_wd k * a : Nat) : Int) ∧ 0 ≤ ((ox_wd k * (a + m) : Nat) : Int) ∧ ((ox_wd k * (a + m) : Nat) : Int) + ((ox_wd k * (T.length - (a + m)) : Nat) : Int) ≤ ((ox_ln k * ox_wd k : Nat) : Int) ∧ ((ox_wd k * a : Nat) : Int) + ((ox_wd k * (T.length - (a + m)) : Nat) : Int) ≤ ((ox_ln k * ox_wd k : Nat) : Int) := by
    generalize ox_wd k * (T.length - (a + m)) = X at b1 b2 ⊢
    generalize ox_wd k * (a + m) = Y at b2 ⊢
    generalize ox_wd k * a = Z at b1 ⊢
    generalize ox_ln k * ox_wd k = V at b1 b2 ⊢
    clear c1 c3 c4 c6 hU h7
    omega
  unfold F_Lin_close
  rw [hL.1, hw, if_neg c1, if_neg c3, oy_wsb (a := T.length) (b := a) (by omega) (by omega), if_pos c4, oy_wn (a := a) (b := m) (by omega), oy_wsb (a := T.length) (b := a + m) hr (by omega), oy_wsb (a := T.length) (b := m) (by omega) (by omega), oy_rw (x := T.length - (a + m)) (by omega), oy_rw (x := a) (by omega), oy_rw (x := a + m) (by omega), hU, if_pos c5, if_pos c6]
  clear c1 c3 c4 c5 c6 hU b1 b2
  simp only [Int.toNat_natCast]
  refine ⟨_, rfl, oy_ed.one ⟨(((oy_fs.rf.cp (fun i => ⟨rfl, rfl, by decide, by decide⟩)).cp (fun i => ⟨rfl, rfl, by decide, by decide⟩)).up ⟨rfl, rfl, by decide, by decide⟩).up ⟨rfl, rfl, by decide, by decide⟩, ⟨?_, fun l hl => ?_, fun l p hl hp => ?_⟩, ?_⟩⟩
  · rw [oy_up_ne (by decide), oy_up_same, sp_del_len]
  · rw [sp_del_len] at hl
    rw [oy_up_ne (by decide), oy_up_ne (by decide), oy_cp_in, sp_del_ln hl, oy_cp_ne (by decide)]
    by_cases q1 : l < a
    · rw [if_pos q1, if_neg (by omega), oy_cp_ne (by decide)]
      exact hL.2.1 l (by omega)
    · have ei : a + m + (l - a) = l + m := by omega
      rw [if_neg q1, if_pos (by omega), ei]
      exact hL.2.1 (l + m) (by omega)
  · rw [sp_del_len] at hl
    rw [sp_del_ln hl] at hp ⊢
    rw [oy_up_ne (by decide), oy_up_ne (by decide), oy_cp_ne (by decide), oy_cp_in]
    by_cases q1 : l < a
    · have hlw := oy_okL_len hT l
      rw [if_pos q1] at hp ⊢
      rw [if_neg (by rcases oy_wdk k with q | q <;> rw [q] at hlw ⊢ <;> omega)]
      exact hL.2.2 l p (by omega) hp
    · have hlw := oy_okL_len hT (l + m)
      rw [if_neg q1] at hp ⊢
      have ei : ox_wd k * (a + m) + (ox_wd k * l + p - ox_wd k * a) = ox_wd k * (l + m) + p := by rcases oy_wdk k with q | q <;> rw [q] <;> omega
      rw [if_pos (by rcases oy_wdk k with q | q <;> rw [q] at hlw ⊢ <;> omega), ei]
      exact hL.2.2 (l + m) p (by omega) hp
  · rw [oy_up_same]
end OYF4
