/-! ===== the mathematics: tools ===== -/
theorem oy_w {x : Int} (h1 : -2147483648 ≤ x) (h2 : x < 2147483648) : ox_w x = x := by unfold ox_w; omega
theorem oy_w1 {p : Nat} (h : p ≤ 1000000) : ox_w ((p : Int) + 1) = ((p + 1 : Nat) : Int) := by
  rw [oy_w (by omega) (by omega)]
  omega
theorem oy_up_def {σ : ox_H} {c k j i c' k' j' i' : Nat} {v : Int} : ox_up σ c k j i v c' k' j' i' = if c' = c ∧ j' = j ∧ k' = k ∧ i' = i then v else σ c' k' j' i' := rfl
theorem oy_up_same {σ : ox_H} {c k j i : Nat} {v : Int} : ox_up σ c k j i v c k j i = v := if_pos ⟨rfl, rfl, rfl, rfl⟩
theorem oy_up_up {σ : ox_H} {c k j i : Nat} {v w : Int} : ox_up (ox_up σ c k j i v) c k j i w = ox_up σ c k j i w := by
  funext c' k' j' i'
  unfold ox_up
  by_cases h : c' = c ∧ j' = j ∧ k' = k ∧ i' = i
  · rw [if_pos h, if_pos h]
  · rw [if_neg h, if_neg h, if_neg h]
theorem oy_up_self {σ : ox_H} {c k j i : Nat} : ox_up σ c k j i (σ c k j i) = σ := by
  funext c' k' j' i'
  unfold ox_up
  by_cases h : c' = c ∧ j' = j ∧ k' = k ∧ i' = i
  · rw [if_pos h, h.1, h.2.1, h.2.2.1, h.2.2.2]
  · rw [if_neg h]
/-- a loop with its invariant and a measure -/
theorem oy_loop {α β : Type} {g : α → Option (α ⊕ β)} (I : α → Prop) (m : α → Nat) (Q : β → Prop) (h : ∀ a, I a → (∃ a', g a = some (.inl a') ∧ I a' ∧ m a' < m a) ∨ (∃ b, g a = some (.inr b) ∧ Q b)) : ∀ n a, I a → m a < n → ∃ b, ox_lp g n a = some b ∧ Q b
  | 0, a, _, hm => absurd hm (Nat.not_lt_zero _)
  | n + 1, a, ha, hm => by
    have e : ox_lp g (n + 1) a = (match g a with | none => none | some (.inl a') => ox_lp g n a' | some (.inr r) => some r) := rfl
    rcases h a ha with ⟨a', h1, h2, h3⟩ | ⟨b, h1, h2⟩
    · rw [e, h1]
      exact oy_loop I m Q h n a' h2 (by omega)
    · rw [e, h1]
      exact ⟨b, rfl, h2⟩
theorem oy_lp_l {α β : Type} {g : α → Option (α ⊕ β)} {n : Nat} {a a' : α} (h : g a = some (.inl a')) : ox_lp g (n + 1) a = ox_lp g n a' := by
  have e : ox_lp g (n + 1) a = (match g a with | none => none | some (.inl a') => ox_lp g n a' | some (.inr r) => some r) := rfl
  rw [e, h]
theorem oy_lp_r {α β : Type} {g : α → Option (α ⊕ β)} {n : Nat} {a : α} {b : β} (h : g a = some (.inr b)) : ox_lp g (n + 1) a = some b := by
  have e : ox_lp g (n + 1) a = (match g a with | none => none | some (.inl a') => ox_lp g n a' | some (.inr r) => some r) := rfl
  rw [e, h]
theorem oy_p10 : ∀ f : Nat, (1 : Int) ≤ 10 ^ f
  | 0 => by decide
  | f + 1 => by
    have := oy_p10 f
    rw [Int.pow_succ]
    omega
theorem oy_fu {m : Nat} (h : m < 100000) : m < ox_fu := h
/-- what a call may write -/
def oy_fr (S : Nat → Nat → Bool) (σ σ' : ox_H) : Prop := ∀ c k j i, S c j = false → σ' c k j i = σ c k j i
theorem oy_fr.rf {S : Nat → Nat → Bool} {σ : ox_H} : oy_fr S σ σ := fun _ _ _ _ _ => rfl
theorem oy_fr.tr {S : Nat → Nat → Bool} {σ σ1 σ2 : ox_H} (h1 : oy_fr S σ σ1) (h2 : oy_fr S σ1 σ2) : oy_fr S σ σ2 := fun c k j i h => (h2 c k j i h).trans (h1 c k j i h)
theorem oy_fr.up {S : Nat → Nat → Bool} {σ σ1 : ox_H} {c k j i : Nat} {v : Int} (h : oy_fr S σ σ1) (hS : S c j = true) : oy_fr S σ (ox_up σ1 c k j i v) := fun c' k' j' i' h' => by
  unfold ox_up
  rw [if_neg (fun q => by rw [q.1, q.2.1, hS] at h'; cases h')]
  exact h c' k' j' i' h'
theorem oy_fr.mono {S S' : Nat → Nat → Bool} {σ σ' : ox_H} (h : oy_fr S σ σ') (hS : ∀ c j, S c j = true → S' c j = true) : oy_fr S' σ σ' := fun c k j i h' => h c k j i (by
  cases hb : S c j with
  | false => rfl
  | true => rw [hS c j hb] at h'; cases h')
/-! the text: lines of signs -/
abbrev oy_T : Type := List (List Int)
def oy_ln (T : oy_T) (l : Nat) : List Int := T.getD l []
def oy_wk (w : List Int) (p : Nat) : Int := w.getD p 0
def oy_ok (T : oy_T) : Prop := T.length ≤ 60 ∧ ∀ w ∈ T, w.length ≤ 24 ∧ ∀ x ∈ w, 32 ≤ x ∧ x ≤ 126
/-- the reference's rows hold the text -/
def oy_M (T : oy_T) (σ : ox_H) : Prop := σ 10 0 2 0 = T.length ∧ (∀ l, l < T.length → σ 10 0 1 l = (oy_ln T l).length) ∧ ∀ l p, l < T.length → p < (oy_ln T l).length → σ 10 0 0 (24 * l + p) = oy_wk (oy_ln T l) p
/-- a Lines object holds the text -/
def oy_L (k : Nat) (T : oy_T) (σ : ox_H) : Prop := σ 1 k 4 0 = T.length ∧ (∀ l, l < T.length → σ 1 k 3 l = (oy_ln T l).length) ∧ ∀ l p, l < T.length → p < (oy_ln T l).length → σ 1 k 2 (ox_wd k * l + p) = oy_wk (oy_ln T l) p
theorem oy_ln_mem {T : oy_T} {l : Nat} (h : l < T.length) : oy_ln T l ∈ T := by
  unfold oy_ln
  rw [List.getD_eq_getElem?_getD, List.getElem?_eq_getElem h]
  exact List.getElem_mem h
theorem oy_len24 {T : oy_T} (h : oy_ok T) (l : Nat) : (oy_ln T l).length ≤ 24 := by
  by_cases hl : l < T.length
  · exact (h.2 _ (oy_ln_mem hl)).1
  · unfold oy_ln
    rw [List.getD_eq_getElem?_getD, List.getElem?_eq_none (by omega)]
    exact Nat.zero_le _
theorem oy_wk_ge {w : List Int} {p : Nat} (h : w.length ≤ p) : oy_wk w p = 0 := by
  unfold oy_wk
  rw [List.getD_eq_getElem?_getD, List.getElem?_eq_none h]
  rfl
theorem oy_wk_in {T : oy_T} (h : oy_ok T) {l p : Nat} (hl : l < T.length) (hp : p < (oy_ln T l).length) : 32 ≤ oy_wk (oy_ln T l) p ∧ oy_wk (oy_ln T l) p ≤ 126 := by
  refine (h.2 _ (oy_ln_mem hl)).2 _ ?_
  unfold oy_wk
  rw [List.getD_eq_getElem?_getD, List.getElem?_eq_getElem hp]
  exact List.getElem_mem hp
/-- what a sign is: 0 behind the end -/
theorem oy_wk_le {T : oy_T} (h : oy_ok T) (l p : Nat) : 0 ≤ oy_wk (oy_ln T l) p ∧ oy_wk (oy_ln T l) p ≤ 126 := by
  by_cases hp : p < (oy_ln T l).length
  · by_cases hl : l < T.length
    · have := oy_wk_in h hl hp
      omega
    · exfalso
      unfold oy_ln at hp
      rw [List.getD_eq_getElem?_getD, List.getElem?_eq_none (by omega)] at hp
      exact absurd hp (Nat.not_lt_zero _)
  · rw [oy_wk_ge (by omega)]
    omega
theorem oy_wk_pos {T : oy_T} (h : oy_ok T) {l p : Nat} (hne : oy_wk (oy_ln T l) p ≠ 0) : p < (oy_ln T l).length := by
  by_cases hp : p < (oy_ln T l).length
  · exact hp
  · exact absurd (oy_wk_ge (by omega)) hne
/-- the reference's scratch: at to mark -/
def oy_sp (c j : Nat) : Bool := c == 10 && (decide (11 ≤ j) && decide (j ≤ 20))
theorem oy_M.fr {T : oy_T} {S : Nat → Nat → Bool} {σ σ' : ox_H} (h : oy_M T σ) (hf : oy_fr S σ σ') (h0 : S 10 0 = false) (h1 : S 10 1 = false) (h2 : S 10 2 = false) : oy_M T σ' :=
  ⟨(hf 10 0 2 0 h2).trans h.1, fun l hl => (hf 10 0 1 l h1).trans (h.2.1 l hl), fun l p hl hp => (hf 10 0 0 _ h0).trans (h.2.2 l p hl hp)⟩
def oy_at (σ : ox_H) (a : Nat) : ox_H := ox_up σ 10 0 11 0 (a : Int)
theorem oy_at_M {T : oy_T} {σ : ox_H} {a : Nat} (h : oy_M T σ) : oy_M T (oy_at σ a) := h.fr (S := oy_sp) (oy_fr.rf.up rfl) rfl rfl rfl
theorem oy_at_get {σ : ox_H} {a : Nat} : oy_at σ a 10 0 11 0 = a := oy_up_same
theorem oy_at_up {σ : ox_H} {a : Nat} {b : Nat} : ox_up (oy_at σ a) 10 0 11 0 (b : Int) = oy_at σ b := oy_up_up
theorem oy_at_fr {σ : ox_H} {a : Nat} : oy_fr oy_sp σ (oy_at σ a) := oy_fr.rf.up rfl
theorem oy_at_self {σ : ox_H} {a : Nat} (h : σ 10 0 11 0 = a) : oy_at σ a = σ := by
  unfold oy_at
  rw [← h]
  exact oy_up_self
