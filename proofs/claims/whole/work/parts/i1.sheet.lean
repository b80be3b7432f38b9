/-! ===== the sheet, abstract: what a cell is worth when some cells are still open ===== -/
/-- a value is still open, or it is the other -/
def oy_lq (a b : Int) : Prop := a = 1000001 ∨ a = b
theorem oy_lq.rf {a : Int} : oy_lq a a := Or.inr rfl
theorem oy_lq.tr {a b c : Int} (h : oy_lq a b) (g : oy_lq b c) : oy_lq a c := by
  rcases h with h | h
  · exact Or.inl h
  · exact h ▸ g
theorem oy_lq.eq {a b : Int} (h : oy_lq a b) (ha : a ≠ 1000001) : a = b := h.resolve_left ha
theorem oy_lq.asy {a b : Int} (h : oy_lq a b) (g : oy_lq b a) : a = b := by
  rcases h with h | h
  · rcases g with g | g
    · exact h.trans g.symm
    · exact g.symm
  · exact h
/-- a valuation says less than another -/
def oy_lf (f g : Nat → Nat → Int) : Prop := ∀ l c, oy_lq (f l c) (g l c)
theorem oy_lf.tr {f g h : Nat → Nat → Int} (a : oy_lf f g) (b : oy_lf g h) : oy_lf f h := fun l c => (a l c).tr (b l c)
/-- two numbers joined -/
def sp_jr (v j u : Int) : Int := if j = 43 then v + u else if j = 45 then v - u else v * u
def sp_jo (v j u : Int) : Int := if -999999 ≤ sp_jr v j u ∧ sp_jr v j u ≤ 999999 then sp_jr v j u else 1000000
/-- a number: neither ERROR nor open -/
def oy_nb (v : Int) : Prop := v ≠ 1000000 ∧ v ≠ 1000001
/-- in range: a number within bounds, ERROR or open -/
def oy_rg (v : Int) : Prop := (-999999 ≤ v ∧ v ≤ 999999) ∨ v = 1000000 ∨ v = 1000001
theorem sp_jo_rg (v j u : Int) : oy_rg (sp_jo v j u) ∧ sp_jo v j u ≠ 1000001 := by
  unfold sp_jo oy_rg
  split <;> omega
/-- the terms of a sum, one by one -/
def sp_sv (g : oy_Tm → Int) : Int → List oy_Tm → Int
  | v, [] => v
  | v, t :: ts => if v = 1000000 then v else if g t = 1000001 ∨ g t = 1000000 then g t else sp_sv g (sp_jo v t.1 (g t)) ts
theorem sp_sv_mono {g h : oy_Tm → Int} : ∀ (ts : List oy_Tm) (v : Int), (∀ t ∈ ts, oy_lq (g t) (h t)) → oy_lq (sp_sv g v ts) (sp_sv h v ts)
  | [], _, _ => oy_lq.rf
  | t :: ts, v, hq => by
    rw [sp_sv, sp_sv]
    by_cases h1 : v = 1000000
    · rw [if_pos h1, if_pos h1]
      exact oy_lq.rf
    rw [if_neg h1, if_neg h1]
    rcases hq t (List.mem_cons_self ..) with h2 | h2
    · rw [if_pos (Or.inl h2)]
      exact Or.inl h2
    rw [h2]
    by_cases h3 : h t = 1000001 ∨ h t = 1000000
    · rw [if_pos h3, if_pos h3]
      exact oy_lq.rf
    rw [if_neg h3, if_neg h3]
    exact sp_sv_mono ts _ (fun s hs => hq s (List.mem_cons_of_mem _ hs))
theorem sp_sv_nb {g : oy_Tm → Int} : ∀ (ts : List oy_Tm) (v : Int), oy_nb (sp_sv g v ts) → ∀ t ∈ ts, oy_nb (g t)
  | [], _, _, _, ht => absurd ht (List.not_mem_nil)
  | t :: ts, v, h, s, hs => by
    rw [sp_sv] at h
    by_cases h1 : v = 1000000
    · rw [if_pos h1] at h
      exact absurd h1 h.1
    rw [if_neg h1] at h
    by_cases h3 : g t = 1000001 ∨ g t = 1000000
    · rw [if_pos h3] at h
      exact absurd h3 (fun q => q.elim h.2 h.1)
    rw [if_neg h3] at h
    rcases List.mem_cons.mp hs with rfl | hs
    · exact ⟨fun q => h3 (Or.inr q), fun q => h3 (Or.inl q)⟩
    · exact sp_sv_nb ts _ h s hs
theorem sp_sv_rg {g : oy_Tm → Int} : ∀ (ts : List oy_Tm) (v : Int), oy_rg v → oy_rg (sp_sv g v ts)
  | [], _, h => h
  | t :: ts, v, h => by
    rw [sp_sv]
    by_cases h1 : v = 1000000
    · rw [if_pos h1]
      exact h
    rw [if_neg h1]
    by_cases h3 : g t = 1000001 ∨ g t = 1000000
    · rw [if_pos h3]
      exact Or.inr h3.symm
    rw [if_neg h3]
    exact sp_sv_rg ts _ (sp_jo_rg _ _ _).1
/-- the cells of a line: how many -/
def sp_nc (T : oy_T) (l : Nat) : Nat := (sp_cc (oy_ln T l)).length
/-- the terms of a cell -/
def sp_ts (T : oy_T) (l c : Nat) : List oy_Tm := (sp_cc (oy_ln T l)).getD c []
/-- the first row of the rows that end before a line, or the line -/
def sp_top (T : oy_T) : Nat → Nat
  | 0 => 0
  | l + 1 => if sp_kind (oy_ln T l) = 4 then sp_top T l else l + 1
theorem sp_top_le (T : oy_T) : ∀ l, sp_top T l ≤ l
  | 0 => Nat.le_refl _
  | l + 1 => by
    rw [sp_top]
    have := sp_top_le T l
    split <;> omega
/-- the line of row n of the table that line l stands in -/
def sp_rw (T : oy_T) (l : Nat) (n : Int) : Option Nat :=
  if 1 ≤ n ∧ n ≤ 60 ∧ sp_kind (oy_ln T l) = 4 ∧ sp_top T l + n.toNat - 1 < 60 ∧ sp_kind (oy_ln T (sp_top T l + n.toNat - 1)) = 4 ∧ sp_top T (sp_top T l + n.toNat - 1) = sp_top T l then some (sp_top T l + n.toNat - 1) else none
/-- the line of a block: the first code line with the letter -/
def sp_bf (T : oy_T) (x : Int) : Nat → Nat → Option Nat
  | 0, _ => none
  | n + 1, p => if sp_kind (oy_ln T p) = 5 ∧ oy_wk (oy_ln T p) 1 - 97 = x then some p else sp_bf T x n (p + 1)
def sp_bk (T : oy_T) (x : Int) : Option Nat := sp_bf T x T.length 0
/-- what a valuation says of a cell whose line may be none -/
def sp_fa (f : Nat → Nat → Int) : Option Nat → Nat → Int
  | none, _ => 1000000
  | some r, c => f r c
/-- a column added up -/
def sp_cv (T : oy_T) (f : Nat → Nat → Int) (c : Nat) : Nat → Nat → Int → Int
  | 0, _, v => v
  | n + 1, p, v => if v = 1000000 then v else if c < sp_nc T p then (if f p c = 1000001 ∨ f p c = 1000000 then f p c else sp_cv T f c n (p + 1) (sp_jo v 43 (f p c))) else sp_cv T f c n (p + 1) v
theorem sp_cv_mono {T : oy_T} {f g : Nat → Nat → Int} (hq : oy_lf f g) (c : Nat) : ∀ (n p : Nat) (v : Int), oy_lq (sp_cv T f c n p v) (sp_cv T g c n p v)
  | 0, _, _ => oy_lq.rf
  | n + 1, p, v => by
    rw [sp_cv, sp_cv]
    by_cases h1 : v = 1000000
    · rw [if_pos h1, if_pos h1]
      exact oy_lq.rf
    rw [if_neg h1, if_neg h1]
    by_cases h4 : c < sp_nc T p
    rotate_left
    · rw [if_neg h4, if_neg h4]
      exact sp_cv_mono hq c n (p + 1) v
    rw [if_pos h4, if_pos h4]
    rcases hq p c with h2 | h2
    · rw [if_pos (Or.inl h2)]
      exact Or.inl h2
    rw [h2]
    by_cases h3 : g p c = 1000001 ∨ g p c = 1000000
    · rw [if_pos h3, if_pos h3]
      exact oy_lq.rf
    rw [if_neg h3, if_neg h3]
    exact sp_cv_mono hq c n (p + 1) _
theorem sp_cv_nb {T : oy_T} {f : Nat → Nat → Int} (c : Nat) : ∀ (n p : Nat) (v : Int), oy_nb (sp_cv T f c n p v) → ∀ q, p ≤ q → q < p + n → c < sp_nc T q → oy_nb (f q c)
  | 0, p, _, _, q, h1, h2, _ => absurd h1 (by omega)
  | n + 1, p, v, h, q, h5, h6, h7 => by
    rw [sp_cv] at h
    by_cases h1 : v = 1000000
    · rw [if_pos h1] at h
      exact absurd h1 h.1
    rw [if_neg h1] at h
    by_cases h4 : c < sp_nc T p
    rotate_left
    · rw [if_neg h4] at h
      have : q ≠ p := fun e => h4 (e ▸ h7)
      exact sp_cv_nb c n (p + 1) _ h q (by omega) (by omega) h7
    rw [if_pos h4] at h
    by_cases h3 : f p c = 1000001 ∨ f p c = 1000000
    · rw [if_pos h3] at h
      exact absurd h3 (fun q => q.elim h.2 h.1)
    rw [if_neg h3] at h
    by_cases e : q = p
    · rw [e]
      exact ⟨fun q => h3 (Or.inr q), fun q => h3 (Or.inl q)⟩
    · exact sp_cv_nb c n (p + 1) _ h q (by omega) (by omega) h7
/-- a property of the entry that a line belongs to -/
def sp_op2 (T : oy_T) (l : Nat) (x : Int) : Int := if (sp_esn T (l + 1)).length = 0 then 1000000 else if sp_has T (97 + x) ((sp_esn T (l + 1)).length - 1) = -1 then 1000000 else sp_has T (97 + x) ((sp_esn T (l + 1)).length - 1)
/-- a term's value -/
def sp_tv (T : oy_T) (f : Nat → Nat → Int) (l : Nat) (t : oy_Tm) : Int :=
  if t.2.1 = 0 then t.2.2.2
  else if t.2.1 = 1 then sp_fa f (sp_rw T l t.2.2.2) t.2.2.1.toNat
  else if t.2.1 = 2 then (if sp_kind (oy_ln T l) = 4 then sp_cv T f t.2.2.1.toNat (l - sp_top T l) (sp_top T l) 0 else 1000000)
  else if t.2.1 = 3 then sp_fa f (sp_bk T t.2.2.1) 0
  else sp_op2 T l t.2.2.1
theorem sp_fa_mono {f g : Nat → Nat → Int} (hq : oy_lf f g) : ∀ (o : Option Nat) (c : Nat), oy_lq (sp_fa f o c) (sp_fa g o c)
  | none, _ => oy_lq.rf
  | some r, c => hq r c
theorem sp_tv_mono {T : oy_T} {f g : Nat → Nat → Int} (hq : oy_lf f g) (l : Nat) (t : oy_Tm) : oy_lq (sp_tv T f l t) (sp_tv T g l t) := by
  unfold sp_tv
  by_cases h0 : t.2.1 = 0
  · rw [if_pos h0, if_pos h0]
    exact oy_lq.rf
  rw [if_neg h0, if_neg h0]
  by_cases h1 : t.2.1 = 1
  · rw [if_pos h1, if_pos h1]
    exact sp_fa_mono hq _ _
  rw [if_neg h1, if_neg h1]
  by_cases h2 : t.2.1 = 2
  · rw [if_pos h2, if_pos h2]
    by_cases h4 : sp_kind (oy_ln T l) = 4
    · rw [if_pos h4, if_pos h4]
      exact sp_cv_mono hq _ _ _ _
    · rw [if_neg h4, if_neg h4]
      exact oy_lq.rf
  rw [if_neg h2, if_neg h2]
  by_cases h3 : t.2.1 = 3
  · rw [if_pos h3, if_pos h3]
    exact sp_fa_mono hq _ _
  rw [if_neg h3, if_neg h3]
  exact oy_lq.rf
/-- a cell's sum under a valuation -/
def sp_ce (T : oy_T) (f : Nat → Nat → Int) (l c : Nat) : Int := if c < sp_nc T l then sp_sv (sp_tv T f l) 0 (sp_ts T l c) else 1000000
theorem sp_ce_mono {T : oy_T} {f g : Nat → Nat → Int} (hq : oy_lf f g) : oy_lf (sp_ce T f) (sp_ce T g) := fun l c => by
  unfold sp_ce
  by_cases h : c < sp_nc T l
  · rw [if_pos h, if_pos h]
    exact sp_sv_mono _ _ (fun t _ => sp_tv_mono hq l t)
  · rw [if_neg h, if_neg h]
    exact oy_lq.rf
theorem sp_ce_rg (T : oy_T) (f : Nat → Nat → Int) (l c : Nat) : oy_rg (sp_ce T f l c) := by
  unfold sp_ce
  split
  · exact sp_sv_rg _ _ (Or.inl (by omega))
  · exact Or.inr (Or.inl rfl)
/-- what the cells are by depth -/
def sp_D (T : oy_T) : Nat → Nat → Nat → Int
  | 0 => fun l c => if c < sp_nc T l then 1000001 else 1000000
  | n + 1 => sp_ce T (sp_D T n)
theorem sp_D_up (T : oy_T) : ∀ n, oy_lf (sp_D T n) (sp_D T (n + 1))
  | 0 => fun l c => by
    show oy_lq (if c < sp_nc T l then 1000001 else 1000000) (sp_ce T (sp_D T 0) l c)
    unfold sp_ce
    by_cases h : c < sp_nc T l
    · rw [if_pos h]
      exact Or.inl rfl
    · rw [if_neg h, if_neg h]
      exact oy_lq.rf
  | n + 1 => sp_ce_mono (sp_D_up T n)
theorem sp_D_mono (T : oy_T) {n m : Nat} (h : n ≤ m) : oy_lf (sp_D T n) (sp_D T m) := by
  induction h with
  | refl => exact fun _ _ => oy_lq.rf
  | step _ ih => exact ih.tr (sp_D_up T _)
theorem sp_D_no (T : oy_T) {l c : Nat} (h : ¬ c < sp_nc T l) : ∀ n, sp_D T n l c = 1000000
  | 0 => if_neg h
  | _ + 1 => if_neg h
theorem sp_D_rg (T : oy_T) : ∀ (n l c : Nat), oy_rg (sp_D T n l c)
  | 0, l, c => by
    show oy_rg (if c < sp_nc T l then 1000001 else 1000000)
    unfold oy_rg
    split <;> omega
  | _ + 1, _, _ => sp_ce_rg _ _ _ _
/-- a valuation is what the depths come to -/
def oy_fin (T : oy_T) (f : Nat → Nat → Int) : Prop := (∃ n, oy_lf f (sp_D T n)) ∧ ∀ m, oy_lf (sp_D T m) f
theorem oy_fin.rg {T : oy_T} {f : Nat → Nat → Int} (h : oy_fin T f) (l c : Nat) : oy_rg (f l c) := by
  obtain ⟨⟨n, h1⟩, _⟩ := h
  rcases h1 l c with q | q
  · exact Or.inr (Or.inr q)
  · rw [q]
    exact sp_D_rg T n l c
theorem oy_fin.uniq {T : oy_T} {f g : Nat → Nat → Int} (h : oy_fin T f) (k : oy_fin T g) : f = g := by
  obtain ⟨⟨n, h1⟩, h2⟩ := h
  obtain ⟨⟨m, k1⟩, k2⟩ := k
  funext l c
  exact ((h1 l c).tr (k2 n l c)).asy ((k1 l c).tr (h2 m l c))
theorem oy_fin.fix {T : oy_T} {f : Nat → Nat → Int} (h : oy_fin T f) : f = sp_ce T f := by
  obtain ⟨⟨n, h1⟩, h2⟩ := h
  funext l c
  refine ((h1 l c).tr ((sp_D_up T n l c).tr (sp_ce_mono (h2 n) l c))).asy ?_
  exact (sp_ce_mono h1 l c).tr (h2 (n + 1) l c)
theorem oy_fin.no {T : oy_T} {f : Nat → Nat → Int} (h : oy_fin T f) {l c : Nat} (hc : ¬ c < sp_nc T l) : f l c = 1000000 := by
  have := h.2 0 l c
  rw [sp_D_no T hc 0] at this
  exact (this.eq (by decide)).symm
/-- a valuation that never is above and holds what it says itself is what the depths come to -/
theorem oy_fin_of {T : oy_T} {f : Nat → Nat → Int} (h : ∃ n, oy_lf f (sp_D T n)) (h0 : oy_lf (sp_D T 0) f) (hp : oy_lf (sp_ce T f) f) : oy_fin T f := by
  refine ⟨h, fun m => ?_⟩
  induction m with
  | zero => exact h0
  | succ m ih => exact (sp_ce_mono ih).tr hp
/-- one cell set to what its terms say -/
def oy_fs1 (f : Nat → Nat → Int) (l c : Nat) (v : Int) : Nat → Nat → Int := fun l' c' => if l' = l ∧ c' = c then v else f l' c'
theorem oy_fs1_D {T : oy_T} {f : Nat → Nat → Int} (h : ∃ n, oy_lf f (sp_D T n)) (l c : Nat) : ∃ n, oy_lf (oy_fs1 f l c (sp_ce T f l c)) (sp_D T n) := by
  obtain ⟨n, h1⟩ := h
  refine ⟨n + 1, fun l' c' => ?_⟩
  unfold oy_fs1
  by_cases e : l' = l ∧ c' = c
  · rw [if_pos e, e.1, e.2]
    exact sp_ce_mono h1 l c
  · rw [if_neg e]
    exact (h1 l' c').tr (sp_D_up T n l' c')
/-- a cell is asked before another is known -/
def oy_bf (T : oy_T) (y x : Nat × Nat) : Prop := ∃ n, oy_nb (sp_D T n y.1 y.2) ∧ sp_D T n x.1 x.2 = 1000001
theorem oy_bf.ir {T : oy_T} {x : Nat × Nat} (h : oy_bf T x x) : False := by
  obtain ⟨n, h1, h2⟩ := h
  exact h1.2 h2
theorem oy_bf.tr {T : oy_T} {x y z : Nat × Nat} (h : oy_bf T x y) (g : oy_bf T y z) : oy_bf T x z := by
  obtain ⟨n, h1, h2⟩ := h
  obtain ⟨m, g1, g2⟩ := g
  refine ⟨n, h1, ?_⟩
  by_cases q : m ≤ n
  · rcases sp_D_mono T q y.1 y.2 with e | e
    · exact absurd e g1.2
    · exact absurd (e.trans h2) g1.2
  · rcases sp_D_mono T (show n ≤ m by omega) z.1 z.2 with e | e
    · exact e
    · exact e.trans g2
/-- a number is found at some depth, out of numbers found at the depth before -/
theorem sp_D_first (T : oy_T) (l c : Nat) : ∀ n, oy_nb (sp_D T n l c) → ∃ m, sp_D T m l c = 1000001 ∧ oy_nb (sp_D T (m + 1) l c)
  | 0, h => by
    have h' : oy_nb (if c < sp_nc T l then 1000001 else 1000000) := h
    by_cases q : c < sp_nc T l
    · rw [if_pos q] at h'
      exact absurd rfl h'.2
    · rw [if_neg q] at h'
      exact absurd rfl h'.1
  | n + 1, h => by
    rcases sp_D_up T n l c with e | e
    · exact ⟨n, e, h⟩
    · exact sp_D_first T l c n (e ▸ h)
