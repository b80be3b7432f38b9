/-! ===== the export: what it is ===== -/
/-- what a cell comes to, its sign ahead of it -/
def sp_xc (f : Nat → Nat → Int) (l c : Nat) : List Int := 124 :: (if oy_cl (f l c) = 1000000 then [35] else sp_num (oy_cl (f l c)))
def sp_xcs (f : Nat → Nat → Int) (l : Nat) : Nat → Nat → List Int
  | 0, _ => []
  | n + 1, c => sp_xc f l c ++ sp_xcs f l n (c + 1)
/-- signs of a line -/
def sp_xs (w : List Int) : Nat → Nat → List Int
  | 0, _ => []
  | n + 1, i => oy_wk w i :: sp_xs w n (i + 1)
def sp_x5 (n : Nat) : Nat := if n < 5 then n else 5
/-- a line of the export -/
def sp_xl (T : oy_T) (f : Nat → Nat → Int) (l m : Nat) : List Int :=
  if sp_kind (oy_ln T l) = 0 then List.replicate (sp_x5 (sp_stars (oy_ln T l) + m)) 42 ++ 32 :: sp_xs (oy_ln T l) (sp_to (oy_ln T l) - sp_fr (oy_ln T l)) (sp_fr (oy_ln T l))
  else if sp_kind (oy_ln T l) = 4 then sp_xcs f l (sp_nc T l) 0 else sp_xs (oy_ln T l) (oy_ln T l).length 0
/-- what a line comes to -/
def sp_xi (inc : Nat → Nat → oy_T) (T : oy_T) (f : Nat → Nat → Int) (l m : Nat) : oy_T :=
  if sp_kind (oy_ln T l) = 6 then inc l m else if sp_kind (oy_ln T l) = 0 ∨ sp_kind (oy_ln T l) = 4 ∨ sp_kind (oy_ln T l) = 7 then [sp_xl T f l m] else []
/-- a heading that is dropped -/
abbrev sp_dpd (T : oy_T) (l : Nat) : Prop := sp_kind (oy_ln T l) = 0 ∧ sp_state (oy_ln T l) (sp_stars (oy_ln T l) + 1) = 3
/-- behind the part of the entry whose line it is -/
def sp_pe (T : oy_T) (l : Nat) : Nat := sp_en T (sp_la T (sp_esn T l).length)
def sp_pxl (inc : Nat → Nat → oy_T) (T : oy_T) (f : Nat → Nat → Int) (e m : Nat) : Nat → Nat → oy_T
  | 0, _ => []
  | k + 1, i => if e ≤ i then [] else if sp_dpd T i then sp_pxl inc T f e m k (sp_pe T i) else sp_xi inc T f i m ++ sp_pxl inc T f e m k (i + 1)
def sp_inc (P : Nat → Nat → Nat → oy_T) (T : oy_T) (l m : Nat) : oy_T :=
  if sp_ti T (oy_wk (oy_ln T l) 1) = -1 then [] else P (sp_en T (sp_ti T (oy_wk (oy_ln T l) 1)).toNat) (sp_en T (sp_la T (sp_ti T (oy_wk (oy_ln T l) 1)).toNat)) (if (sp_esn T (l + 1)).length = 0 then 0 else sp_x5 (sp_lv T ((sp_esn T (l + 1)).length - 1) + m))
/-- lines from a to the one ahead of e, with m more stars, d includes deeper at most -/
def sp_px (T : oy_T) (f : Nat → Nat → Int) : Nat → Nat → Nat → Nat → oy_T
  | 0 => fun a e m => sp_pxl (fun _ _ => []) T f e m (e - a) a
  | d + 1 => fun a e m => sp_pxl (sp_inc (sp_px T f d) T) T f e m (e - a) a
def sp_ic (T : oy_T) (f : Nat → Nat → Int) : Nat → Nat → Nat → oy_T
  | 0 => fun _ _ => []
  | d + 1 => sp_inc (sp_px T f d) T
def sp_exp (T : oy_T) (f : Nat → Nat → Int) : oy_T := (sp_px T f 3 0 T.length 0).take 100
theorem sp_px_ic (T : oy_T) (f : Nat → Nat → Int) (d a e m : Nat) : sp_px T f d a e m = sp_pxl (sp_ic T f d) T f e m (e - a) a := by
  cases d <;> rfl
theorem sp_pe_gt {T : oy_T} {l : Nat} (h : sp_kind (oy_ln T l) = 0) : l + 1 ≤ sp_pe T l ∧ sp_pe T l ≤ T.length ∧ (sp_esn T l).length < sp_n T ∧ sp_en T (sp_esn T l).length = l := by
  have hl := sp_kind_ln h (by decide)
  obtain ⟨h1, h2⟩ := sp_en_at hl (sp_kind_H.mp h)
  have h3 := sp_la_in h1
  have h4 := sp_en_lt3 h3.1 h3.2
  have h5 := sp_en_le (T := T) (sp_la T (sp_esn T l).length)
  unfold sp_pe
  exact ⟨by omega, h5, h1, h2⟩
theorem sp_pxl_fuel (inc : Nat → Nat → oy_T) (T : oy_T) (f : Nat → Nat → Int) (e m : Nat) : ∀ (k k' i : Nat), e - i ≤ k → e - i ≤ k' → sp_pxl inc T f e m k i = sp_pxl inc T f e m k' i
  | 0, 0, _, _, _ => rfl
  | 0, k' + 1, i, h1, _ => by
    rw [sp_pxl, sp_pxl, if_pos (by omega)]
  | k + 1, 0, i, _, h2 => by
    rw [sp_pxl, sp_pxl, if_pos (by omega)]
  | k + 1, k' + 1, i, h1, h2 => by
    rw [sp_pxl, sp_pxl]
    by_cases q : e ≤ i
    · rw [if_pos q, if_pos q]
    rw [if_neg q, if_neg q]
    by_cases z : sp_dpd T i
    · have hp := sp_pe_gt z.1
      rw [if_pos z, if_pos z]
      exact sp_pxl_fuel inc T f e m k k' _ (by omega) (by omega)
    · rw [if_neg z, if_neg z, sp_pxl_fuel inc T f e m k k' (i + 1) (by omega) (by omega)]
theorem sp_px_nil {T : oy_T} {f : Nat → Nat → Int} {d a e m : Nat} (h : e ≤ a) : sp_px T f d a e m = [] := by
  rw [sp_px_ic, Nat.sub_eq_zero_of_le h]
  rfl
theorem sp_px_drop {T : oy_T} {f : Nat → Nat → Int} {d a e m : Nat} (h : a < e) (hd : sp_dpd T a) : sp_px T f d a e m = sp_px T f d (sp_pe T a) e m := by
  have hp := sp_pe_gt hd.1
  rw [sp_px_ic, sp_px_ic, sp_pxl_fuel _ T f e m (e - a) (e - a - 1 + 1) a (by omega) (by omega), sp_pxl, if_neg (by omega), if_pos hd]
  exact sp_pxl_fuel _ T f e m _ _ _ (by omega) (by omega)
theorem sp_px_step {T : oy_T} {f : Nat → Nat → Int} {d a e m : Nat} (h : a < e) (hd : ¬ sp_dpd T a) : sp_px T f d a e m = sp_xi (sp_ic T f d) T f a m ++ sp_px T f d (a + 1) e m := by
  rw [sp_px_ic, sp_px_ic, sp_pxl_fuel _ T f e m (e - a) (e - (a + 1) + 1) a (by omega) (by omega), sp_pxl, if_neg (by omega), if_neg hd]
theorem oy_tkk {α : Type} {B : List α} : ∀ (n : Nat) (A : List α), (A.take n ++ B).take n = (A ++ B).take n
  | 0, _ => by rw [List.take_zero, List.take_zero]
  | _ + 1, [] => rfl
  | n + 1, a :: A => congrArg (List.cons a) (oy_tkk n A)
theorem sp_to_le (w : List Int) : sp_to w ≤ w.length := by
  unfold sp_to
  cases hb : sp_bl w (sp_fr w) w.length with
  | none => exact Nat.le_refl _
  | some b =>
    have := (sp_bl_in _ _ _ _ hb).2.1
    dsimp only
    split
    · exact Nat.le_refl _
    · omega
theorem sp_xs_len (w : List Int) : ∀ n i, (sp_xs w n i).length = n
  | 0, _ => rfl
  | n + 1, i => by rw [sp_xs, List.length_cons, sp_xs_len w n]
theorem sp_num_len {v : Int} (hv : -999999 ≤ v ∧ v ≤ 999999) : (sp_num v).length ≤ 7 ∧ (-9999 ≤ v ∧ v ≤ 9999 → (sp_num v).length ≤ 5) ∧ (0 ≤ v ∧ v ≤ 9 → (sp_num v).length ≤ 1) := by
  unfold sp_num
  by_cases q : v < 0
  · rw [if_pos q, List.length_cons]
    have h6 : sp_dr (-v) 7 = sp_dr (-v) 6 := sp_dr_lt (v := -v) 1 5 (by show -v < 1000000; omega)
    have l6 := sp_dr_le (v := -v) 6
    rw [h6]
    refine ⟨by omega, fun z => ?_, fun z => by omega⟩
    have h4 : sp_dr (-v) 6 = sp_dr (-v) 4 := sp_dr_lt (v := -v) 2 3 (by show -v < 10000; omega)
    have l4 := sp_dr_le (v := -v) 4
    rw [h4]
    omega
  · rw [if_neg q]
    have l7 := sp_dr_le (v := v) 7
    refine ⟨l7, fun z => ?_, fun z => ?_⟩
    · have h4 : sp_dr v 7 = sp_dr v 4 := sp_dr_lt (v := v) 3 3 (by show v < 10000; omega)
      have l4 := sp_dr_le (v := v) 4
      rw [h4]
      omega
    · have h4 : sp_dr v 7 = sp_dr v 1 := sp_dr_lt (v := v) 6 0 (by show v < 10; omega)
      have l4 := sp_dr_le (v := v) 1
      rw [h4]
      omega
theorem sp_num_good {v : Int} (hv : -999999 ≤ v ∧ v ≤ 999999) : ∀ x ∈ sp_num v, 32 ≤ x ∧ x ≤ 126 := by
  intro x hx
  unfold sp_num at hx
  by_cases q : v < 0
  · rw [if_pos q] at hx
    rcases List.mem_cons.mp hx with e | e
    · omega
    · exact (sp_dr_good (k := 2) (v := -v) (by omega) 7 (by decide)).2 x e
  · rw [if_neg q] at hx
    exact (sp_dr_good (k := 2) (v := v) (by omega) 7 (by decide)).2 x hx
theorem sp_nu_one (w : List Int) (b : Nat) (h : (sp_nu w b).1 = b + 1) : (sp_nu w b).2 ≤ 9 := by
  by_cases hd : sp_dg (oy_wk w b)
  rotate_left
  · rw [sp_nu_nd w b hd] at h
    exact absurd h (by show ¬ b = b + 1; omega)
  have e4 : sp_ng w b 4 b 0 = sp_ng w b 3 (b + 1) (10 * 0 + oy_wk w b - 48) := by rw [sp_ng, if_pos ⟨hd, Or.inl rfl⟩]
  have h' : (sp_ng w b 4 b 0).1 = b + 1 := h
  have hdd : 48 ≤ oy_wk w b ∧ oy_wk w b ≤ 57 := hd
  have e3 : sp_ng w b 3 (b + 1) (10 * 0 + oy_wk w b - 48) = (b + 1, 10 * 0 + oy_wk w b - 48) := by
    rw [sp_ng]
    split
    · rename_i z
      have hg := (sp_ng_le w b 2 (b + 1 + 1) (10 * (10 * 0 + oy_wk w b - 48) + oy_wk w (b + 1) - 48)).1
      rw [e4, sp_ng, if_pos z] at h'
      omega
    · rfl
  unfold sp_nu
  dsimp only
  rw [e4, e3]
  dsimp only
  rw [if_neg (by omega)]
  omega
section OYN1
variable {T : oy_T} {f : Nat → Nat → Int}
theorem oy_cl_rg2 {v : Int} (h : oy_rg v) (h0 : ¬ oy_cl v = 1000000) : -999999 ≤ oy_cl v ∧ oy_cl v ≤ 999999 ∧ oy_cl v = v := by
  unfold oy_cl at *
  by_cases q : v = 1000001
  · rw [if_pos q] at h0
    exact absurd rfl h0
  · rw [if_neg q] at h0 ⊢
    unfold oy_rg at h
    omega
theorem sp_xc_good (hfi : oy_fin T f) {l c : Nat} : ∀ x ∈ sp_xc f l c, 32 ≤ x ∧ x ≤ 126 := by
  intro x hx
  unfold sp_xc at hx
  rcases List.mem_cons.mp hx with e | e
  · omega
  · by_cases q : oy_cl (f l c) = 1000000
    · rw [if_pos q] at e
      rw [List.mem_singleton.mp e]
      omega
    · rw [if_neg q] at e
      have := oy_cl_rg2 (hfi.rg l c) q
      exact sp_num_good ⟨this.1, this.2.1⟩ x e
theorem sp_xcs_good (hfi : oy_fin T f) {l : Nat} : ∀ n c, ∀ x ∈ sp_xcs f l n c, 32 ≤ x ∧ x ≤ 126
  | 0, _, x, h => by cases h
  | n + 1, c, x, h => by
    rcases List.mem_append.mp h with e | e
    · exact sp_xc_good hfi x e
    · exact sp_xcs_good hfi n (c + 1) x e
/-- a cell comes to at most twice its signs -/
theorem sp_xc_len (hfi : oy_fin T f) {l c b e : Nat} (hc : c < sp_nc T l) (he : sp_cell (oy_ln T l) b = some e) (ht : sp_ts T l c = sp_cel (oy_ln T l) b) : (sp_xc f l c).length ≤ 2 * (e - b + 1) := by
  have hg := sp_cell_ge _ _ _ he
  unfold sp_xc
  rw [List.length_cons]
  by_cases q : oy_cl (f l c) = 1000000
  · rw [if_pos q]
    show 1 + 1 ≤ _
    omega
  rw [if_neg q]
  obtain ⟨r1, r2, r3⟩ := oy_cl_rg2 (hfi.rg l c) q
  have hn := sp_num_len ⟨r1, r2⟩
  by_cases h3 : b + 3 ≤ e
  · omega
  have ef : f l c = sp_sv (sp_tv T f l) 0 (sp_ts T l c) := by
    have e1 : f l c = sp_ce T f l c := congrFun (congrFun hfi.fix l) c
    exact e1.trans (if_pos hc)
  have one : ∀ (j u : Int), 0 ≤ u → u ≤ 9999 → sp_ts T l c = [(j, 0, 0, u)] → j = 43 ∨ j = 45 → (-9999 ≤ oy_cl (f l c) ∧ oy_cl (f l c) ≤ 9999) ∧ (j = 43 → oy_cl (f l c) = u) := by
    intro j u h0 h1 h2 h4
    rw [h2] at ef
    have etv : sp_tv T f l (j, 0, 0, u) = u := by
      unfold sp_tv
      exact if_pos rfl
    have esv : sp_sv (sp_tv T f l) 0 [(j, 0, 0, u)] = sp_jo 0 j u := by
      rw [sp_sv, etv, if_neg (by decide), if_neg (by omega), sp_sv]
    rw [esv] at ef
    have ejr : sp_jr 0 j u = if j = 43 then u else -u := by
      unfold sp_jr
      rcases h4 with z | z
      · rw [if_pos z, if_pos z]
        omega
      · rw [if_neg (by omega), if_pos z, if_neg (by omega)]
        omega
    unfold sp_jo at ef
    rw [ejr] at ef
    rcases h4 with z | z
    · rw [if_pos z, if_pos (by omega)] at ef
      exact ⟨by omega, fun _ => by omega⟩
    · rw [if_neg (show ¬ j = 43 by omega), if_pos (by omega)] at ef
      exact ⟨by omega, fun y => by omega⟩
  unfold sp_cell at he
  unfold sp_cel at ht
  by_cases h61 : oy_wk (oy_ln T l) b = 61
  · rw [if_pos h61] at he ht
    have hs := sp_sum_ge _ _ _ _ he
    have he' : e = b + 2 := by omega
    rw [sp_sum] at he
    rw [sp_tl] at ht
    cases hte : sp_term (oy_ln T l) (b + 1) with
    | none =>
      rw [hte] at he
      cases he
    | some e1 =>
      rw [hte] at he ht
      dsimp only at he ht
      have hg1 := sp_term_ge _ _ _ hte
      by_cases hj : sp_jn (oy_wk (oy_ln T l) e1)
      · rw [if_pos hj] at he
        have := sp_sum_ge _ _ _ _ he
        omega
      rw [if_neg hj] at he ht
      have he1 := Option.some.inj he
      have hdg : sp_dg (oy_wk (oy_ln T l) (b + 1)) := by
        by_cases z : sp_dg (oy_wk (oy_ln T l) (b + 1))
        · exact z
        exfalso
        unfold sp_term at hte
        rw [if_neg z] at hte
        split at hte
        · split at hte
          · have := Option.some.inj hte
            omega
          · cases hte
        · split at hte
          · split at hte
            · have := Option.some.inj hte
              omega
            · cases hte
          · split at hte
            · split at hte
              · have := Option.some.inj hte
                omega
              · cases hte
            · split at hte
              · have := Option.some.inj hte
                omega
              · cases hte
      have hnu := sp_nu_in (oy_ln T l) (b + 1)
      have hnd := sp_nu_dg _ _ hdg
      have etm : sp_tm (oy_ln T l) (b + 1) = (0, 0, (sp_nu (oy_ln T l) (b + 1)).2) := if_pos hdg
      rw [etm] at ht
      have h1 := (one 43 _ hnd.2 hnu.2.2.2.1 ht (Or.inl rfl)).1
      have := hn.2.1 h1
      omega
  · rw [if_neg h61] at he ht
    have hnu := sp_nu_in (oy_ln T l) (sp_sg (oy_ln T l) b)
    have hsg := sp_sg_le (oy_ln T l) b
    by_cases h0 : 0 ≤ (sp_nu (oy_ln T l) (sp_sg (oy_ln T l) b)).2
    rotate_left
    · rw [if_neg h0] at he
      cases he
    rw [if_pos h0] at he
    have he1 := Option.some.inj he
    have h1 := one (if oy_wk (oy_ln T l) b = 45 then 45 else 43) _ h0 hnu.2.2.2.1 ht (by split <;> omega)
    have := hn.2.1 h1.1
    by_cases h2 : b + 2 ≤ e
    · omega
    have hne : ¬ (sp_nu (oy_ln T l) (sp_sg (oy_ln T l) b)).1 = sp_sg (oy_ln T l) b := fun z => by
      have := hnu.2.2.2.2.mp z
      omega
    have hb : sp_sg (oy_ln T l) b = b := by omega
    have h45 : ¬ oy_wk (oy_ln T l) b = 45 := fun z => by
      unfold sp_sg at hb
      rw [if_pos z] at hb
      omega
    rw [hb] at he1 h1 h0
    have h9 := sp_nu_one (oy_ln T l) b (by omega)
    have hv := h1.2 (if_neg h45)
    have := hn.2.2 (by omega)
    omega
theorem sp_xcs_len (hfi : oy_fin T f) {l : Nat} : ∀ (g a c0 n : Nat), sp_cells (oy_ln T l) g a = true → n = (sp_cls (oy_ln T l) g a).length → (∀ c, c < n → c0 + c < sp_nc T l ∧ (sp_cls (oy_ln T l) g a)[c]? = some (sp_ts T l (c0 + c))) → (sp_xcs f l n c0).length + 2 * a ≤ 2 * (oy_ln T l).length
  | 0, _, _, _, h, _, _ => by cases h
  | g + 1, a, c0, n, h, hn, hc => by
    rw [sp_cells] at h
    rw [sp_cls] at hn hc
    by_cases q : oy_wk (oy_ln T l) a = 124
    rotate_left
    · rw [if_neg q] at h hn
      have := of_decide_eq_true h
      rw [hn]
      show 0 + 2 * a ≤ _
      omega
    rw [if_pos q] at h hn hc
    cases he : sp_cell (oy_ln T l) (a + 1) with
    | none =>
      rw [he] at h
      cases h
    | some e =>
      rw [he] at h hn hc
      dsimp only at h hn hc
      rw [List.length_cons] at hn
      obtain ⟨n', rfl⟩ : ∃ n', n = n' + 1 := ⟨_, hn⟩
      have h0 := hc 0 (Nat.succ_pos _)
      have ht : sp_ts T l c0 = sp_cel (oy_ln T l) (a + 1) := (Option.some.inj h0.2).symm
      have hx := sp_xc_len hfi (show c0 < sp_nc T l from h0.1) he ht
      have hg := sp_cell_ge _ _ _ he
      have ih := sp_xcs_len hfi g e (c0 + 1) n' h (by omega) (fun c hc' => by
        have h1 := hc (c + 1) (by omega)
        rw [show c0 + (c + 1) = c0 + 1 + c by omega] at h1
        exact h1)
      rw [sp_xcs, List.length_append]
      omega
theorem sp_xl_ok (hT : oy_ok T) (hfi : oy_fin T f) {l m : Nat} (hk : sp_kind (oy_ln T l) = 0 ∨ sp_kind (oy_ln T l) = 4 ∨ sp_kind (oy_ln T l) = 7) : oy_good 2 (sp_xl T f l m) := by
  have h24 := oy_len24 hT l
  have gl := oy_good_ln (oy_ok_L hT) l
  have xg : ∀ n i, i + n ≤ (oy_ln T l).length → ∀ x ∈ sp_xs (oy_ln T l) n i, 32 ≤ x ∧ x ≤ 126 := by
    intro n
    induction n with
    | zero => intro i _ x hx; cases hx
    | succ n ih =>
      intro i h x hx
      rcases List.mem_cons.mp hx with e | e
      · rw [e]
        exact oy_good_wk gl (by omega)
      · exact ih (i + 1) (by omega) x e
  unfold sp_xl
  by_cases h0 : sp_kind (oy_ln T l) = 0
  · rw [if_pos h0]
    have hH := sp_kind_H.mp h0
    have hto := sp_to_le (oy_ln T l)
    have h5 : sp_x5 (sp_stars (oy_ln T l) + m) ≤ 5 := by unfold sp_x5; split <;> omega
    refine ⟨?_, fun x hx => ?_⟩
    · rw [List.length_append, List.length_replicate, List.length_cons, sp_xs_len]
      show _ ≤ 48
      have : sp_fr (oy_ln T l) = sp_stars (oy_ln T l) + 1 + (if sp_state (oy_ln T l) (sp_stars (oy_ln T l) + 1) < 0 then 0 else 5) := rfl
      omega
    · rcases List.mem_append.mp hx with e | e
      · rw [List.eq_of_mem_replicate e]
        omega
      · rcases List.mem_cons.mp e with e | e
        · omega
        · exact xg _ _ (by
            by_cases z : sp_fr (oy_ln T l) ≤ sp_to (oy_ln T l)
            · omega
            · exfalso
              rw [Nat.sub_eq_zero_of_le (by omega)] at e
              cases e) x e
  rw [if_neg h0]
  by_cases h4 : sp_kind (oy_ln T l) = 4
  · rw [if_pos h4]
    have hr := sp_kind_4.mp h4
    unfold sp_row at hr
    rw [Bool.and_eq_true] at hr
    have ecc : sp_cc (oy_ln T l) = sp_cls (oy_ln T l) 30 0 := by unfold sp_cc; rw [if_pos h4]
    have en : sp_nc T l = (sp_cls (oy_ln T l) 30 0).length := by unfold sp_nc; rw [ecc]
    have hl := sp_xcs_len hfi (l := l) 30 0 0 (sp_nc T l) hr.2 en (fun c hc => by
      rw [Nat.zero_add]
      refine ⟨hc, ?_⟩
      unfold sp_ts
      rw [ecc, List.getD_eq_getElem?_getD, List.getElem?_eq_getElem (by omega)]
      rfl)
    refine ⟨?_, fun x hx => sp_xcs_good hfi _ _ x hx⟩
    show _ ≤ 48
    omega
  · rw [if_neg h4]
    refine ⟨?_, fun x hx => xg _ _ (by omega) x hx⟩
    rw [sp_xs_len]
    show _ ≤ 48
    omega
end OYN1
