/-! ===== what a run comes to, step by step ===== -/
/-- a step asks what follows at one place at most -/
def ox_U (F : ox_K → Option ox_O) : Prop := ∀ k o, F k = some o →
  (∃ pc b tl ls st σ, k pc b tl ls st σ = some o ∧ ∀ k' : ox_K, k' pc b tl ls st σ = some o → F k' = some o) ∨ (∀ k', F k' = some o)
theorem ox_Uk {pc b tl : Nat} {ls st : List ox_V} {σ : ox_H} : ox_U (fun k => k pc b tl ls st σ) := fun _ _ h => Or.inl ⟨_, _, _, _, _, _, h, fun _ h' => h'⟩
theorem ox_Uc {c : Option ox_O} : ox_U (fun _ => c) := fun _ _ h => Or.inr fun _ => h
theorem ox_Ui {p : Prop} [Decidable p] {F G : ox_K → Option ox_O} (hF : ox_U F) (hG : ox_U G) : ox_U (fun k => if p then F k else G k) := by
  by_cases h : p
  · simp only [h, if_true]; exact hF
  · simp only [h, if_false]; exact hG
theorem ox_U_bin {f : Int → Int → Int} {st : List ox_V} {g : ox_K → List ox_V → Option ox_O} (h : ∀ st', ox_U (fun k => g k st')) : ox_U (fun k => ox_bin f st (g k)) := by
  rcases st with _ | ⟨x | x | x, _ | ⟨y | y | y, r⟩⟩ <;> first | exact h _ | exact ox_Uc
theorem ox_U_binl {f : Int → Int → Int} {st : List ox_V} {g : ox_K → List ox_V → Option ox_O} (h : ∀ st', ox_U (fun k => g k st')) : ox_U (fun k => ox_binl f st (g k)) := by
  rcases st with _ | ⟨x | x | x, _ | ⟨y | y | y, r⟩⟩ <;> first | exact h _ | exact ox_Uc
theorem ox_U_cmp {cd : ClassFile.Cond} {x y : Int} {F G : ox_K → Option ox_O} (hF : ox_U F) (hG : ox_U G) : ox_U (fun k => ox_cmp cd x y (F k) (G k)) := by
  cases cd <;> first | exact ox_Ui hF hG | exact ox_Ui hG hF
theorem ox_U_sw {x : Int} {g : ox_K → Nat → Option ox_O} (h : ∀ t, ox_U (fun k => g k t)) : ∀ f : List Nat, ox_U (fun k => ox_sw x f (g k))
  | [] => ox_Uc
  | [d] => h d
  | v :: t :: r => by
    have hr := ox_U_sw (x := x) h r
    have := ox_Ui (p := x = (v : Int)) (h t) hr
    cases r <;> exact this
theorem ox_U_ald {ty : Nat} {σ : ox_H} {st : List ox_V} {g : ox_K → List ox_V → Option ox_O} (h : ∀ st', ox_U (fun k => g k st')) : ox_U (fun k => ox_ald ty σ st (g k)) := by
  rcases st with _ | ⟨x | x | x, _ | ⟨y | y | ⟨t, n, j⟩, r⟩⟩ <;> try exact ox_Uc
  unfold ox_ald
  refine ox_Ui (ox_Ui ?_ ox_Uc) ox_Uc
  split <;> exact h _
theorem ox_U_ast {ty : Nat} {gg : Int → Int} {σ : ox_H} {st : List ox_V} {g : ox_K → List ox_V → ox_H → Option ox_O} (h : ∀ st' σ', ox_U (fun k => g k st' σ')) : ox_U (fun k => ox_ast ty gg σ st (g k)) := by
  rcases st with _ | ⟨v | v | v, _ | ⟨x | x | x, _ | ⟨y | y | ⟨t, n, j⟩, r⟩⟩⟩ <;> first | exact ox_Uc | exact ox_Ui (ox_Ui (h _ _) ox_Uc) ox_Uc
theorem ox_U_gf {f : List Nat} {σ : ox_H} {st : List ox_V} {g : ox_K → List ox_V → Option ox_O} (h : ∀ st', ox_U (fun k => g k st')) : ox_U (fun k => ox_gf f σ st (g k)) := by
  rcases f with _ | ⟨c, _ | ⟨j, _ | ⟨kd, _ | ⟨c2, _ | ⟨k2, f⟩⟩⟩⟩⟩ <;> rcases st with _ | ⟨y | y | ⟨t, n, i⟩, r⟩ <;> try exact ox_Uc
  unfold ox_gf
  refine ox_Ui ?_ ox_Uc
  split <;> exact h _
theorem ox_U_pf {f : List Nat} {σ : ox_H} {st : List ox_V} {g : ox_K → List ox_V → ox_H → Option ox_O} (h : ∀ st' σ', ox_U (fun k => g k st' σ')) : ox_U (fun k => ox_pf f σ st (g k)) := by
  rcases f with _ | ⟨c, _ | ⟨j, _ | ⟨kd, f⟩⟩⟩ <;> rcases st with _ | ⟨v | v | v, _ | ⟨y | y | ⟨t, n, i⟩, r⟩⟩ <;> try exact ox_Uc
  unfold ox_pf
  refine ox_Ui ?_ ox_Uc
  split
  · exact h _ _
  · exact ox_Ui (h _ _) ox_Uc
  · exact ox_Uc
theorem ox_U_acp {σ : ox_H} {st : List ox_V} {g : ox_K → List ox_V → ox_H → Option ox_O} (h : ∀ st' σ', ox_U (fun k => g k st' σ')) : ox_U (fun k => ox_acp σ st (g k)) := by
  unfold ox_acp
  split
  · exact ox_Ui (ox_Ui (h _ _) ox_Uc) ox_Uc
  · exact ox_Uc
theorem ox_U_back {M : ox_M} {pc rf : Nat} {rest : List ox_V} {o : Option ox_O} {g : ox_K → Nat → Option Nat → List ox_V → ox_H → Option ox_O} (h : ∀ p' x' st' σ', ox_U (fun k => g k p' x' st' σ')) : ox_U (fun k => ox_back M pc rf rest o (g k)) := by
  rcases o with _ | ⟨(_ | v) | e, σ⟩
  · exact ox_Uc
  · exact ox_Ui (h _ _ _ _) ox_Uc
  · exact ox_Ui (h _ _ _ _) ox_Uc
  · refine ox_Ui ox_Uc ?_
    cases M.2.2.2.2.2.2 pc e
    · exact ox_Uc
    · exact h _ _ _ _
theorem ox_U_call {M : ox_M} {orc : ox_C} {pc b tl : Nat} {ls st : List ox_V} {σ : ox_H} {f : List Nat} : ox_U (fun k => ox_call M orc k pc b tl ls st σ f) := by
  unfold ox_call
  split
  · exact ox_Ui (ox_Ui (ox_U_back fun _ _ _ _ => ox_Uk) ox_Uc) ox_Uc
  · exact ox_Ui (ox_U_bin fun _ => ox_Uk) ox_Uc
  · exact ox_Ui (ox_U_bin fun _ => ox_Uk) ox_Uc
  · refine ox_Ui ?_ ox_Uc
    split <;> first | exact ox_Uk | exact ox_Uc
  · exact ox_U_acp fun _ _ => ox_Uk
  · refine ox_Ui ox_Uc ?_
    split <;> first | exact ox_Uk | exact ox_Uc
  · refine ox_Ui ox_Uc ?_
    split <;> first | exact ox_Ui ox_Uk ox_Uc | exact ox_Uc
  · exact ox_Uc
theorem ox_U_st {M : ox_M} {orc : ox_C} {pc b tl : Nat} {ls st : List ox_V} {σ : ox_H} : ox_U (fun k => ox_st M orc k pc b tl ls st σ) := by
  unfold ox_st
  cases hm : M.2.1 pc with
  | none => exact ox_Uc
  | some q =>
    obtain ⟨i, n, f⟩ := q
    cases i <;> first
      | exact ox_Uc
      | exact ox_Uk
      | exact ox_U_bin fun _ => ox_Uk
      | exact ox_U_binl fun _ => ox_Uk
      | exact ox_U_ald fun _ => ox_Uk
      | exact ox_U_ast fun _ _ => ox_Uk
      | exact ox_U_gf fun _ => ox_Uk
      | exact ox_U_pf fun _ _ => ox_Uk
      | exact ox_U_call
      | (dsimp only; split <;> first | exact ox_Uk | exact ox_Uc | exact ox_Ui ox_Uk ox_Uc | exact ox_Ui ox_Uc ox_Uk | exact ox_Ui ox_Uk ox_Uk | exact ox_U_cmp ox_Uk ox_Uk | exact ox_U_sw (fun _ => ox_Uk) _)
theorem ox_run_up {M : ox_M} {orc : ox_C} : ∀ (n m : Nat), n ≤ m → ∀ (pc b tl : Nat) (ls st : List ox_V) (σ : ox_H) (o : ox_O), ox_run M orc n pc b tl ls st σ = some o → ox_run M orc m pc b tl ls st σ = some o
  | 0, _, _, _, _, _, _, _, _, _, h => by cases h
  | n + 1, m + 1, hm, pc, b, tl, ls, st, σ, o, h => by
    have h : ox_st M orc (fun pc' b' tl' ls' st' σ' => ox_run M orc n pc' b' tl' (ox_kl (M.2.2.1 pc') ls') st' σ') pc b tl ls st σ = some o := h
    show ox_st M orc (fun pc' b' tl' ls' st' σ' => ox_run M orc m pc' b' tl' (ox_kl (M.2.2.1 pc') ls') st' σ') pc b tl ls st σ = some o
    rcases ox_U_st _ _ h with ⟨pc', b', tl', ls', st', σ', h1, h2⟩ | h2
    · exact h2 _ (ox_run_up n m (Nat.le_of_succ_le_succ hm) _ _ _ _ _ _ _ h1)
    · exact h2 _
theorem ox_ev_run {M : ox_M} {orc : ox_C} {pc b tl : Nat} {ls st : List ox_V} {σ : ox_H} {o : ox_O} : ox_ev M orc pc b tl ls st σ = some o ↔ ∃ n, ox_run M orc n pc b tl ls st σ = some o := by
  unfold ox_ev
  by_cases h : ∃ o, ∃ n, ox_run M orc n pc b tl ls st σ = some o
  · rw [dif_pos h]
    constructor
    · intro e
      cases e
      exact h.choose_spec
    · rintro ⟨n, hn⟩
      obtain ⟨n2, h2⟩ := h.choose_spec
      have h3 := ox_run_up _ _ (Nat.le_max_left n n2) _ _ _ _ _ _ _ hn
      have h4 := ox_run_up _ _ (Nat.le_max_right n n2) _ _ _ _ _ _ _ h2
      exact h4.symm.trans h3
  · rw [dif_neg h]
    constructor
    · intro e; cases e
    · rintro ⟨n, hn⟩
      exact absurd ⟨o, n, hn⟩ h
theorem ox_ev_st {M : ox_M} {orc : ox_C} {pc b tl : Nat} {ls st : List ox_V} {σ : ox_H} : ox_ev M orc pc b tl ls st σ = ox_st M orc (ox_kk M orc) pc b tl ls st σ := by
  apply Option.ext
  intro o
  constructor
  · intro h
    obtain ⟨n, hn⟩ := ox_ev_run.mp h
    cases n with
    | zero => cases hn
    | succ n =>
      have hn : ox_st M orc (fun pc' b' tl' ls' st' σ' => ox_run M orc n pc' b' tl' (ox_kl (M.2.2.1 pc') ls') st' σ') pc b tl ls st σ = some o := hn
      rcases ox_U_st _ _ hn with ⟨pc', b', tl', ls', st', σ', h1, h2⟩ | h2
      · exact h2 (ox_kk M orc) (ox_ev_run.mpr ⟨n, h1⟩)
      · exact h2 _
  · intro h
    rcases ox_U_st _ _ h with ⟨pc', b', tl', ls', st', σ', h1, h2⟩ | h2
    · obtain ⟨n, hn⟩ := ox_ev_run.mp h1
      exact ox_ev_run.mpr ⟨n + 1, h2 (fun pc' b' tl' ls' st' σ' => ox_run M orc n pc' b' tl' (ox_kl (M.2.2.1 pc') ls') st' σ') hn⟩
    · exact ox_ev_run.mpr ⟨1, h2 (fun pc' b' tl' ls' st' σ' => ox_run M orc 0 pc' b' tl' (ox_kl (M.2.2.1 pc') ls') st' σ')⟩
/-- n steps, then what follows -/
def ox_go (M : ox_M) (orc : ox_C) (n : Nat) : ox_K → ox_K :=
  Nat.rec (motive := fun _ => ox_K → ox_K) (fun k => k) (fun _ ih k pc b tl ls st σ => ox_st M orc (fun pc' b' tl' ls' st' σ' => ih k pc' b' tl' (ox_kl (M.2.2.1 pc') ls') st' σ') pc b tl ls st σ) n
theorem ox_ev_go {M : ox_M} {orc : ox_C} : ∀ (n : Nat) (pc b tl : Nat) (ls st : List ox_V) (σ : ox_H), ox_ev M orc pc b tl ls st σ = ox_go M orc n (ox_ev M orc) pc b tl ls st σ
  | 0, _, _, _, _, _, _ => rfl
  | n + 1, pc, b, tl, ls, st, σ => by
    rw [ox_ev_st]
    show ox_st M orc (fun pc' b' tl' ls' st' σ' => ox_ev M orc pc' b' tl' (ox_kl (M.2.2.1 pc') ls') st' σ') pc b tl ls st σ = ox_st M orc (fun pc' b' tl' ls' st' σ' => ox_go M orc n (ox_ev M orc) pc' b' tl' (ox_kl (M.2.2.1 pc') ls') st' σ') pc b tl ls st σ
    congr 1
    funext pc' b' tl' ls' st' σ'
    exact ox_ev_go n _ _ _ _ _ _
/-- what F finds, seen through φ, Z finds -/
def ox_R {α : Type} (φ : α → Option ox_O) (F : Option α) (Z : Option ox_O) : Prop := ∀ a, F = some a → ∀ o, φ a = some o → Z = some o
theorem ox_R_none {α : Type} {φ : α → Option ox_O} {Z : Option ox_O} : ox_R φ none Z := fun _ h => by cases h
theorem ox_R_ret {α : Type} {φ : α → Option ox_O} {a : α} {Z : Option ox_O} (e : φ a = Z) : ox_R φ (some a) Z := fun _ h o ho => by cases h; rw [← e]; exact ho
theorem ox_R_if {α : Type} {φ : α → Option ox_O} {p : Prop} [Decidable p] {F G : Option α} {Y Z : Option ox_O} (h1 : p → ox_R φ F Y) (h2 : ¬ p → ox_R φ G Z) : ox_R φ (if p then F else G) (if p then Y else Z) := by
  by_cases h : p
  · rw [if_pos h, if_pos h]; exact h1 h
  · rw [if_neg h, if_neg h]; exact h2 h
theorem ox_R_go {α : Type} {φ : α → Option ox_O} {F : Option α} {M : ox_M} {orc : ox_C} (n : Nat) {pc b tl : Nat} {ls st : List ox_V} {σ : ox_H} (h : ox_R φ F (ox_go M orc n (ox_ev M orc) pc b tl ls st σ)) : ox_R φ F (ox_ev M orc pc b tl ls st σ) := by
  rw [ox_ev_go n]; exact h
theorem ox_R_to {α : Type} {φ : α → Option ox_O} {F : Option α} {M : ox_M} {orc : ox_C} (n : Nat) {pc b tl : Nat} {ls st : List ox_V} {σ : ox_H} {Y : Option ox_O} (e : ox_go M orc n (ox_ev M orc) pc b tl ls st σ = Y) (h : ox_R φ F Y) : ox_R φ F (ox_ev M orc pc b tl ls st σ) := by
  rw [ox_ev_go n, e]; exact h
theorem ox_R_of {α : Type} {φ : α → Option ox_O} {F : Option α} {Y Z : Option ox_O} (e : Z = Y) (h : ox_R φ F Y) : ox_R φ F Z := e ▸ h
theorem ox_R_map {α β : Type} {φ : α → Option ox_O} {ψ : β → Option ox_O} {F : Option α} {Z : Option ox_O} (h : ox_R φ F Z) : ox_R (Sum.elim ψ φ) (F.map Sum.inr) Z := by
  intro a ha o ho
  cases F with
  | none => cases ha
  | some x => cases ha; exact h x rfl o ho
/-- behind a call -/
theorem ox_R_call {α β : Type} {φ : α → Option ox_O} {fc : β → ox_O} {X : Option β} {C : Option ox_O} {G : β → Option α} {M : ox_M} {pc rf : Nat} {rest : List ox_V} {k : Nat → Option Nat → List ox_V → ox_H → Option ox_O} (hc : ox_R (fun r => some (fc r)) X C) (h : ∀ r, ox_R φ (G r) (ox_back M pc rf rest (some (fc r)) k)) : ox_R φ (X.bind G) (ox_back M pc rf rest C k) := by
  intro a ha
  cases hX : X with
  | none => rw [hX] at ha; cases ha
  | some r =>
    rw [hX] at ha
    rw [hc r hX _ rfl]
    exact h r a ha
/-- a loop: inl goes round, inr leaves -/
def ox_lp {α β : Type} (g : α → Option (α ⊕ β)) (n : Nat) : α → Option β :=
  Nat.rec (motive := fun _ => α → Option β) (fun _ => none) (fun _ ih a => match g a with | none => none | some (.inl a') => ih a' | some (.inr r) => some r) n
def ox_fu : Nat := 100000
theorem ox_R_lp {α β : Type} {φ : β → Option ox_O} {ψ : α → Option ox_O} {g : α → Option (α ⊕ β)} (h : ∀ s, ox_R (Sum.elim ψ φ) (g s) (ψ s)) : ∀ n s, ox_R φ (ox_lp g n s) (ψ s)
  | 0, _ => ox_R_none
  | n + 1, s => by
    intro a ha o ho
    have ha : (match g s with | none => none | some (.inl a') => ox_lp g n a' | some (.inr r) => some r) = some a := ha
    cases hg : g s with
    | none => rw [hg] at ha; cases ha
    | some x =>
      rw [hg] at ha
      cases x with
      | inl a' => exact h s _ hg o (ox_R_lp h n a' a ha o ho)
      | inr r => cases ha; exact h s _ hg o ho
/-- arguments as locals -/
def ox_in (n : Nat) (args : List ox_V) : List ox_V := match n, args with
  | 0, _ => []
  | n + 1, [] => ox_d :: ox_in n []
  | n + 1, .inr (.inl x) :: r => .inr (.inl x) :: (match n with | 0 => [] | n + 1 => ox_d :: ox_in n r)
  | n + 1, v :: r => v :: ox_in n r
/-- the end of a method y at depth d -/
noncomputable def ox_zz (ms : Nat → Option ox_M) (d : Nat) : ox_C :=
  Nat.rec (motive := fun _ => ox_C) (fun _ _ _ _ => none) (fun _ ih y tl args σ => match ms y with | none => none | some M => bif Nat.ble (ox_sc args) M.2.2.2.2.1 then ox_ev M ih 0 M.2.2.2.1 tl (ox_in M.2.2.2.2.1 args) [] σ else none) d
