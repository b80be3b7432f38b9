/-! ===== the reference's values: what is asked, marks, memory, levels ===== -/
/-- a term of line l asks a cell -/
def oy_ask (T : oy_T) (l : Nat) (t : oy_Tm) (y : Nat × Nat) : Prop :=
  (t.2.1 = 1 ∧ sp_rw T l t.2.2.2 = some y.1 ∧ y.2 = t.2.2.1.toNat) ∨
  (t.2.1 = 2 ∧ sp_kind (oy_ln T l) = 4 ∧ y.2 = t.2.2.1.toNat ∧ sp_top T l ≤ y.1 ∧ y.1 < l ∧ y.2 < sp_nc T y.1) ∨
  (t.2.1 = 3 ∧ sp_bk T t.2.2.1 = some y.1 ∧ y.2 = 0)
theorem sp_tv_ask {T : oy_T} {f : Nat → Nat → Int} {l : Nat} {t : oy_Tm} {y : Nat × Nat} (h : oy_nb (sp_tv T f l t)) (ha : oy_ask T l t y) : oy_nb (f y.1 y.2) := by
  unfold sp_tv at h
  rcases ha with ⟨a1, a2, a3⟩ | ⟨a1, a2, a3, a4, a5, a6⟩ | ⟨a1, a2, a3⟩
  · rw [if_neg (by omega), if_pos a1, a2] at h
    rw [a3]
    exact h
  · rw [if_neg (by omega), if_neg (by omega), if_pos a1, if_pos a2] at h
    rw [a3] at a6 ⊢
    exact sp_cv_nb _ _ _ _ h y.1 a4 (by omega) a6
  · rw [if_neg (by omega), if_neg (by omega), if_neg (by omega), if_pos a1, a2] at h
    rw [a3]
    exact h
theorem oy_bf_ask {T : oy_T} {f : Nat → Nat → Int} (hf : oy_fin T f) {x y : Nat × Nat} (hc : x.2 < sp_nc T x.1) (hx : oy_nb (f x.1 x.2)) {t : oy_Tm} (ht : t ∈ sp_ts T x.1 x.2) (ha : oy_ask T x.1 t y) : oy_bf T y x := by
  obtain ⟨⟨n, h1⟩, _⟩ := hf
  have e := (h1 x.1 x.2).eq hx.2
  rw [e] at hx
  obtain ⟨m, m1, m2⟩ := sp_D_first T x.1 x.2 n hx
  refine ⟨m, ?_, m1⟩
  have e2 : sp_D T (m + 1) x.1 x.2 = sp_sv (sp_tv T (sp_D T m) x.1) 0 (sp_ts T x.1 x.2) := if_pos hc
  rw [e2] at m2
  exact sp_tv_ask (sp_sv_nb _ _ m2 t ht) ha
/-- every marked cell that is a number is this one or is known later -/
def oy_lo (T : oy_T) (f : Nat → Nat → Int) (σ : ox_H) (x : Nat × Nat) : Prop :=
  (∀ l c, c < sp_nc T l → sp_kind (oy_ln T l) = 4 → σ 10 0 41 (24 * l + c) = 1 → oy_nb (f l c) → (l, c) = x ∨ oy_bf T x (l, c)) ∧
  ∀ z r : Nat, z < 26 → sp_bk T (z : Int) = some r → σ 10 0 42 z = 1 → oy_nb (f r 0) → (r, 0) = x ∨ oy_bf T x (r, 0)
/-- every marked cell that is a number is known later -/
def oy_lw (T : oy_T) (f : Nat → Nat → Int) (σ : ox_H) (x : Nat × Nat) : Prop :=
  (∀ l c, c < sp_nc T l → sp_kind (oy_ln T l) = 4 → σ 10 0 41 (24 * l + c) = 1 → oy_nb (f l c) → oy_bf T x (l, c)) ∧
  ∀ z r : Nat, z < 26 → sp_bk T (z : Int) = some r → σ 10 0 42 z = 1 → oy_nb (f r 0) → oy_bf T x (r, 0)
theorem oy_bf.nb {T : oy_T} {f : Nat → Nat → Int} (hf : oy_fin T f) {x y : Nat × Nat} (h : oy_bf T x y) : oy_nb (f x.1 x.2) := by
  obtain ⟨n, h1, _⟩ := h
  have e := (hf.2 n x.1 x.2).eq h1.2
  rw [← e]
  exact h1
theorem oy_lo.ask {T : oy_T} {f : Nat → Nat → Int} {σ : ox_H} (hf : oy_fin T f) {x y : Nat × Nat} (h : oy_lo T f σ x) (hc : x.2 < sp_nc T x.1) {t : oy_Tm} (ht : t ∈ sp_ts T x.1 x.2) (ha : oy_ask T x.1 t y) : oy_lw T f σ y := by
  have key : ∀ b : Nat × Nat, oy_nb (f b.1 b.2) → (b = x ∨ oy_bf T x b) → oy_bf T y b := by
    intro b hb hd
    rcases hd with rfl | hd
    · exact oy_bf_ask hf hc hb ht ha
    · exact (oy_bf_ask hf hc (hd.nb hf) ht ha).tr hd
  exact ⟨fun l c h1 h2 h3 h4 => key (l, c) h4 (h.1 l c h1 h2 h3 h4), fun z r h1 h2 h3 h4 => key (r, 0) h4 (h.2 z r h1 h2 h3 h4)⟩
theorem oy_lo.cg {T : oy_T} {f : Nat → Nat → Int} {σ σ' : ox_H} {x : Nat × Nat} (h : oy_lo T f σ x) (h1 : ∀ i, σ' 10 0 41 i = σ 10 0 41 i) (h2 : ∀ i, σ' 10 0 42 i = σ 10 0 42 i) : oy_lo T f σ' x :=
  ⟨fun l c a b m => h.1 l c a b ((h1 _).symm.trans m), fun z r a b m => h.2 z r a b ((h2 _).symm.trans m)⟩
theorem oy_lw.cg {T : oy_T} {f : Nat → Nat → Int} {σ σ' : ox_H} {x : Nat × Nat} (h : oy_lw T f σ x) (h1 : ∀ i, σ' 10 0 41 i = σ 10 0 41 i) (h2 : ∀ i, σ' 10 0 42 i = σ 10 0 42 i) : oy_lw T f σ' x :=
  ⟨fun l c a b m => h.1 l c a b ((h1 _).symm.trans m), fun z r a b m => h.2 z r a b ((h2 _).symm.trans m)⟩
theorem oy_cl_no {v : Int} (h : ¬ oy_nb v) : oy_cl v = 1000000 := by
  unfold oy_cl
  unfold oy_nb at h
  split <;> omega
/-- a marked cell that is asked is no number -/
theorem oy_lw.busy {T : oy_T} {f : Nat → Nat → Int} {σ : ox_H} {l c : Nat} (h : oy_lw T f σ (l, c)) (hc : c < sp_nc T l) (h4 : sp_kind (oy_ln T l) = 4) (hm : σ 10 0 41 (24 * l + c) = 1) : oy_cl (f l c) = 1000000 :=
  oy_cl_no (fun q => (h.1 l c hc h4 hm q).ir)
theorem oy_lw.busyB {T : oy_T} {f : Nat → Nat → Int} {σ : ox_H} {z r : Nat} (h : oy_lw T f σ (r, 0)) (hz : z < 26) (hb : sp_bk T (z : Int) = some r) (hm : σ 10 0 42 z = 1) : oy_cl (f r 0) = 1000000 :=
  oy_cl_no (fun q => (h.2 z r hz hb hm q).ir)
theorem oy_lw.mark {T : oy_T} {f : Nat → Nat → Int} {σ : ox_H} (hT : oy_ok T) {l c : Nat} (h : oy_lw T f σ (l, c)) (hc : c < sp_nc T l) : oy_lo T f (ox_up σ 10 0 41 (24 * l + c) 1) (l, c) := by
  have h12 := sp_nc_12 hT
  refine ⟨fun l' c' a b m q => ?_, fun z r a b m q => Or.inr (h.2 z r a b ((oy_up_ne (by decide)).symm.trans m) q)⟩
  by_cases e : 24 * l' + c' = 24 * l + c
  · have h1 := h12 l
    have h2 := h12 l'
    exact Or.inl (by rw [show l' = l by omega, show c' = c by omega])
  · exact Or.inr (h.1 l' c' a b ((oy_up_ni e).symm.trans m) q)
theorem oy_lw.markB {T : oy_T} {f : Nat → Nat → Int} {σ : ox_H} {z r : Nat} (h : oy_lw T f σ (r, 0)) (hb : sp_bk T (z : Int) = some r) : oy_lo T f (ox_up σ 10 0 42 z 1) (r, 0) := by
  refine ⟨fun l' c' a b m q => Or.inr (h.1 l' c' a b ((oy_up_ne (by decide)).symm.trans m) q), fun z' r' a b m q => ?_⟩
  by_cases e : z' = z
  · rw [e, hb] at b
    exact Or.inl (by rw [Option.some.inj b])
  · exact Or.inr (h.2 z' r' a b ((oy_up_ni e).symm.trans m) q)
/-- what the reference remembers of this finding is right -/
def oy_mem (T : oy_T) (f : Nat → Nat → Int) (σ : ox_H) : Prop := oy_F T σ ∧
  (∀ l c, c < sp_nc T l → sp_kind (oy_ln T l) = 4 → σ 10 0 37 (24 * l + c) = σ 10 0 36 0 → σ 10 0 38 (24 * l + c) = oy_cl (f l c)) ∧
  (∀ z r : Nat, z < 26 → sp_bk T (z : Int) = some r → σ 10 0 39 z = σ 10 0 36 0 → σ 10 0 40 z = oy_cl (f r 0)) ∧
  (∀ i, σ 10 0 41 i = 0 ∨ σ 10 0 41 i = 1) ∧ (∀ i, σ 10 0 42 i = 0 ∨ σ 10 0 42 i = 1) ∧
  (∀ i, σ 10 0 37 i ≤ σ 10 0 36 0) ∧ ∀ i, σ 10 0 39 i ≤ σ 10 0 36 0
/-- the slots that finding values writes -/
def oy_sv (c j : Nat) : Bool := c == 10 && (decide (11 ≤ j ∧ j ≤ 20) || decide (37 ≤ j ∧ j ≤ 42))
theorem oy_sp_sv {c j : Nat} (h : oy_sp c j = true) : oy_sv c j = true := by
  unfold oy_sp at h
  unfold oy_sv
  rw [Bool.and_eq_true, Bool.and_eq_true, decide_eq_true_eq, decide_eq_true_eq] at h
  rw [Bool.and_eq_true, Bool.or_eq_true, decide_eq_true_eq, decide_eq_true_eq]
  exact ⟨h.1, Or.inl ⟨by omega, by omega⟩⟩
/-- from a heap to another while a value is found -/
def oy_ev (T : oy_T) (f : Nat → Nat → Int) (σ σ' : ox_H) : Prop := oy_fr oy_sv σ σ' ∧ oy_mem T f σ' ∧ (∀ i, σ' 10 0 41 i = σ 10 0 41 i) ∧ ∀ i, σ' 10 0 42 i = σ 10 0 42 i
theorem oy_ev.rf {T : oy_T} {f : Nat → Nat → Int} {σ : ox_H} (h : oy_mem T f σ) : oy_ev T f σ σ := ⟨oy_fr.rf, h, fun _ => rfl, fun _ => rfl⟩
theorem oy_ev.tr {T : oy_T} {f : Nat → Nat → Int} {σ σ1 σ2 : ox_H} (h : oy_ev T f σ σ1) (g : oy_ev T f σ1 σ2) : oy_ev T f σ σ2 := ⟨h.1.tr g.1, g.2.1, fun i => (g.2.2.1 i).trans (h.2.2.1 i), fun i => (g.2.2.2 i).trans (h.2.2.2 i)⟩
theorem oy_mem.sp {T : oy_T} {f : Nat → Nat → Int} {σ σ' : ox_H} (h : oy_mem T f σ) (hf : oy_fr oy_sp σ σ') : oy_mem T f σ' := by
  obtain ⟨h1, h2, h3, h4, h5, h6, h7⟩ := h
  have e36 : σ' 10 0 36 0 = σ 10 0 36 0 := hf 10 0 36 0 rfl
  refine ⟨h1.sp hf, fun l c a b m => ?_, fun z r a b m => ?_, fun i => by rw [hf 10 0 41 i rfl]; exact h4 i, fun i => by rw [hf 10 0 42 i rfl]; exact h5 i, fun i => by rw [hf 10 0 37 i rfl, e36]; exact h6 i, fun i => by rw [hf 10 0 39 i rfl, e36]; exact h7 i⟩
  · rw [hf 10 0 38 _ rfl]
    rw [hf 10 0 37 _ rfl, e36] at m
    exact h2 l c a b m
  · rw [hf 10 0 40 _ rfl]
    rw [hf 10 0 39 _ rfl, e36] at m
    exact h3 z r a b m
theorem oy_ev.sp {T : oy_T} {f : Nat → Nat → Int} {σ σ' : ox_H} (h : oy_mem T f σ) (hf : oy_fr oy_sp σ σ') : oy_ev T f σ σ' := ⟨hf.mono (fun _ _ => oy_sp_sv), h.sp hf, fun _ => hf 10 0 41 _ rfl, fun _ => hf 10 0 42 _ rfl⟩
/-- cells of columns a to e that are not marked; letters that are not marked -/
def oy_k1 (σ : ox_H) : Nat → Nat
  | 0 => 0
  | i + 1 => oy_k1 σ i + (if σ 10 0 41 (24 * (i / 5) + i % 5) = 1 then 0 else 1)
def oy_k2 (σ : ox_H) : Nat → Nat
  | 0 => 0
  | i + 1 => oy_k2 σ i + (if σ 10 0 42 i = 1 then 0 else 1)
def oy_mu (σ : ox_H) : Nat := oy_k1 σ 300 + oy_k2 σ 26
theorem oy_k1_cg {σ σ' : ox_H} (h : ∀ i, σ' 10 0 41 i = σ 10 0 41 i) : ∀ n, oy_k1 σ' n = oy_k1 σ n
  | 0 => rfl
  | n + 1 => by rw [oy_k1, oy_k1, oy_k1_cg h n, h]
theorem oy_k2_cg {σ σ' : ox_H} (h : ∀ i, σ' 10 0 42 i = σ 10 0 42 i) : ∀ n, oy_k2 σ' n = oy_k2 σ n
  | 0 => rfl
  | n + 1 => by rw [oy_k2, oy_k2, oy_k2_cg h n, h]
theorem oy_mu_cg {σ σ' : ox_H} (h : ∀ i, σ' 10 0 41 i = σ 10 0 41 i) (g : ∀ i, σ' 10 0 42 i = σ 10 0 42 i) : oy_mu σ' = oy_mu σ := by
  unfold oy_mu
  rw [oy_k1_cg h, oy_k2_cg g]
theorem oy_k1_le (σ : ox_H) : ∀ n, oy_k1 σ n ≤ n
  | 0 => Nat.le_refl _
  | n + 1 => by
    rw [oy_k1]
    have := oy_k1_le σ n
    split <;> omega
theorem oy_k2_le (σ : ox_H) : ∀ n, oy_k2 σ n ≤ n
  | 0 => Nat.le_refl _
  | n + 1 => by
    rw [oy_k2]
    have := oy_k2_le σ n
    split <;> omega
theorem oy_k1_up {σ : ox_H} {j : Nat} : ∀ n, oy_k1 (ox_up σ 10 0 41 j 1) n ≤ oy_k1 σ n
  | 0 => Nat.le_refl _
  | n + 1 => by
    rw [oy_k1, oy_k1]
    have := oy_k1_up (σ := σ) (j := j) n
    by_cases e : 24 * (n / 5) + n % 5 = j
    · rw [e, if_pos oy_up_same]
      omega
    · rw [oy_up_ni e]
      omega
theorem oy_k1_dn {σ : ox_H} {l c : Nat} (hc : c < 5) (h : ¬ σ 10 0 41 (24 * l + c) = 1) : ∀ n, 5 * l + c < n → oy_k1 (ox_up σ 10 0 41 (24 * l + c) 1) n + 1 ≤ oy_k1 σ n
  | 0, h1 => absurd h1 (Nat.not_lt_zero _)
  | n + 1, h1 => by
    rw [oy_k1, oy_k1]
    by_cases e : n = 5 * l + c
    · have e2 : 24 * (n / 5) + n % 5 = 24 * l + c := by omega
      have := oy_k1_up (σ := σ) (j := 24 * l + c) n
      rw [e2, if_pos oy_up_same, if_neg h]
      omega
    · have := oy_k1_dn hc h n (by omega)
      have e2 : 24 * (n / 5) + n % 5 ≠ 24 * l + c := by omega
      rw [oy_up_ni e2]
      omega
theorem oy_k2_up {σ : ox_H} {z : Nat} : ∀ n, oy_k2 (ox_up σ 10 0 42 z 1) n ≤ oy_k2 σ n
  | 0 => Nat.le_refl _
  | n + 1 => by
    rw [oy_k2, oy_k2]
    have := oy_k2_up (σ := σ) (z := z) n
    by_cases e : n = z
    · rw [e] at this ⊢
      rw [if_pos oy_up_same]
      omega
    · rw [oy_up_ni e]
      omega
theorem oy_k2_dn {σ : ox_H} {z : Nat} (h : ¬ σ 10 0 42 z = 1) : ∀ n, z < n → oy_k2 (ox_up σ 10 0 42 z 1) n + 1 ≤ oy_k2 σ n
  | 0, h1 => absurd h1 (Nat.not_lt_zero _)
  | n + 1, h1 => by
    rw [oy_k2, oy_k2]
    by_cases e : n = z
    · have := oy_k2_up (σ := σ) (z := z) n
      rw [e] at this ⊢
      rw [if_pos oy_up_same, if_neg h]
      omega
    · have := oy_k2_dn h n (by omega)
      rw [oy_up_ni e]
      omega
theorem oy_mu_cell {σ : ox_H} {l c : Nat} (hl : l < 60) (hc : c < 5) (h : ¬ σ 10 0 41 (24 * l + c) = 1) : oy_mu (ox_up σ 10 0 41 (24 * l + c) 1) + 1 ≤ oy_mu σ := by
  have h1 := oy_k1_dn hc h 300 (by omega)
  have h2 : oy_k2 (ox_up σ 10 0 41 (24 * l + c) 1) 26 = oy_k2 σ 26 := oy_k2_cg (fun i => oy_up_ne (by decide)) 26
  unfold oy_mu
  omega
theorem oy_mu_blk {σ : ox_H} {z : Nat} (hz : z < 26) (h : ¬ σ 10 0 42 z = 1) : oy_mu (ox_up σ 10 0 42 z 1) + 1 ≤ oy_mu σ := by
  have h1 := oy_k2_dn h 26 hz
  have h2 : oy_k1 (ox_up σ 10 0 42 z 1) 300 = oy_k1 σ 300 := oy_k1_cg (fun i => oy_up_ne (by decide)) 300
  unfold oy_mu
  omega
theorem oy_mu_326 (σ : ox_H) : oy_mu σ ≤ 326 := by
  have h1 := oy_k1_le σ 300
  have h2 := oy_k2_le σ 26
  unfold oy_mu
  omega
