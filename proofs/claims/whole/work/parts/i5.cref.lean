/-! ===== the class's sheet: tops, open cells, passes ===== -/
def sp_pv (T : oy_T) : Nat → Int
  | 0 => -1
  | l + 1 => sp_tpv T l
theorem sp_tpv_4 {T : oy_T} : ∀ {l : Nat}, sp_kind (oy_ln T l) = 4 → sp_tpv T l = (if sp_pv T l = -1 then (l : Int) else sp_pv T l)
  | 0, h => by
    unfold sp_tpv
    rw [if_pos h, if_pos (show sp_pv T 0 = -1 from rfl)]
    rfl
  | l + 1, h => by
    have e : sp_pv T (l + 1) = sp_tpv T l := rfl
    rw [e]
    unfold sp_tpv
    rw [if_pos h, sp_top]
    by_cases q : sp_kind (oy_ln T l) = 4
    · rw [if_pos q, if_pos q, if_neg (by omega)]
    · rw [if_neg q, if_neg q, if_pos rfl]
/-- open cells among the first ones -/
def oy_ct (f : Nat → Nat → Int) : Nat → Nat
  | 0 => 0
  | i + 1 => oy_ct f i + (if f (i / 12) (i % 12) = 1000001 then 1 else 0)
theorem oy_ct_le (f : Nat → Nat → Int) : ∀ n, oy_ct f n ≤ n
  | 0 => Nat.le_refl _
  | n + 1 => by
    rw [oy_ct]
    have := oy_ct_le f n
    split <;> omega
theorem oy_ct_0 {f : Nat → Nat → Int} : ∀ {n : Nat}, oy_ct f n = 0 → ∀ j, j < n → f (j / 12) (j % 12) ≠ 1000001
  | 0, _, _, h => absurd h (Nat.not_lt_zero _)
  | n + 1, h, j, hj => by
    rw [oy_ct] at h
    by_cases q : f (n / 12) (n % 12) = 1000001
    · rw [if_pos q] at h
      omega
    · rw [if_neg q] at h
      by_cases e : j = n
      · rw [e]
        exact q
      · exact oy_ct_0 (by omega) j (by omega)
theorem oy_ct_fs1 {f : Nat → Nat → Int} {i : Nat} {v : Int} (h : f (i / 12) (i % 12) = 1000001) (hv : v ≠ 1000001) : ∀ n, (n ≤ i → oy_ct (oy_fs1 f (i / 12) (i % 12) v) n = oy_ct f n) ∧ (i < n → oy_ct (oy_fs1 f (i / 12) (i % 12) v) n + 1 = oy_ct f n)
  | 0 => ⟨fun _ => rfl, fun h => absurd h (Nat.not_lt_zero _)⟩
  | n + 1 => by
    obtain ⟨h1, h2⟩ := oy_ct_fs1 h hv n
    rw [oy_ct, oy_ct]
    by_cases e : n = i
    · have e1 : oy_fs1 f (i / 12) (i % 12) v (n / 12) (n % 12) = v := by unfold oy_fs1; rw [e, if_pos ⟨rfl, rfl⟩]
      rw [e1, if_neg hv, e, if_pos h]
      rw [e] at h1
      have := h1 (Nat.le_refl _)
      exact ⟨fun q => by omega, fun _ => by omega⟩
    · have e1 : oy_fs1 f (i / 12) (i % 12) v (n / 12) (n % 12) = f (n / 12) (n % 12) := by unfold oy_fs1; rw [if_neg (fun q => e (by omega))]
      rw [e1]
      exact ⟨fun q => by rw [h1 (by omega)], fun q => by have := h2 (by omega); omega⟩
/-- what the passes keep -/
def oy_pin (T : oy_T) (f : Nat → Nat → Int) : Prop := (∃ n, oy_lf f (sp_D T n)) ∧ oy_lf (sp_D T 0) f ∧ ∀ l c, f l c ≠ 1000001 → f l c = sp_ce T f l c
theorem oy_pin.rg {T : oy_T} {f : Nat → Nat → Int} (h : oy_pin T f) (l c : Nat) : oy_rg (f l c) := by
  obtain ⟨⟨n, h1⟩, _⟩ := h
  rcases h1 l c with q | q
  · exact Or.inr (Or.inr q)
  · rw [q]
    exact sp_D_rg T n l c
theorem oy_pin.cell {T : oy_T} {f : Nat → Nat → Int} (h : oy_pin T f) {l c : Nat} (ho : f l c = 1000001) : c < sp_nc T l := by
  by_cases q : c < sp_nc T l
  · exact q
  · have h0 := h.2.1 l c
    rw [sp_D_no T q 0] at h0
    have h1 := h0.eq (by decide)
    rw [ho] at h1
    exact absurd h1 (by decide)
theorem oy_fs1_up {f : Nat → Nat → Int} {l c : Nat} {v : Int} (ho : f l c = 1000001) : oy_lf f (oy_fs1 f l c v) := fun l' c' => by
  unfold oy_fs1
  by_cases e : l' = l ∧ c' = c
  · rw [e.1, e.2]
    exact Or.inl ho
  · rw [if_neg e]
    exact oy_lq.rf
theorem oy_pin.step {T : oy_T} {f : Nat → Nat → Int} (h : oy_pin T f) {l c : Nat} (ho : f l c = 1000001) : oy_pin T (oy_fs1 f l c (sp_ce T f l c)) := by
  have hup := oy_fs1_up (v := sp_ce T f l c) ho
  refine ⟨oy_fs1_D h.1 l c, h.2.1.tr hup, fun l' c' hs => ?_⟩
  have h1 := sp_ce_mono hup l' c' (T := T)
  by_cases e : l' = l ∧ c' = c
  · have e1 : oy_fs1 f l c (sp_ce T f l c) l' c' = sp_ce T f l' c' := by
      obtain ⟨rfl, rfl⟩ := e
      exact if_pos ⟨rfl, rfl⟩
    rw [e1] at hs ⊢
    exact h1.eq hs
  · have e1 : oy_fs1 f l c (sp_ce T f l c) l' c' = f l' c' := if_neg e
    rw [e1] at hs ⊢
    have e2 := h.2.2 l' c' hs
    rw [e2] at hs ⊢
    exact h1.eq hs
/-- no open cell gives a value -/
def oy_nc (T : oy_T) (f : Nat → Nat → Int) (i : Nat) : Prop := ∀ j, i ≤ j → j < 720 → f (j / 12) (j % 12) = 1000001 → sp_ce T f (j / 12) (j % 12) = 1000001
theorem oy_pin.fin {T : oy_T} {f : Nat → Nat → Int} (hT : oy_ok T) (h : oy_pin T f) (hn : oy_nc T f 0) : oy_fin T f := by
  refine oy_fin_of h.1 h.2.1 (fun l c => ?_)
  by_cases q : f l c = 1000001
  · have hc := h.cell q
    have hl := sp_nc_ln hc
    have h12 := sp_nc_12 hT l
    have h60 := hT.1
    have h1 := hn (12 * l + c) (Nat.zero_le _) (by omega)
    rw [show (12 * l + c) / 12 = l by omega, show (12 * l + c) % 12 = c by omega] at h1
    exact Or.inl (h1 q)
  · exact Or.inr (h.2.2 l c q).symm
theorem oy_vs.at {f : Nat → Nat → Int} {σ : ox_H} (h : oy_vs f σ) {i : Nat} (hi : i < 720) : σ 5 0 2 i = f (i / 12) (i % 12) := by
  have h1 := h (i / 12) (i % 12) (by omega) (by omega)
  rw [show 12 * (i / 12) + i % 12 = i by omega] at h1
  exact h1
theorem oy_vs_of {f : Nat → Nat → Int} {σ : ox_H} (h : ∀ i, i < 720 → σ 5 0 2 i = f (i / 12) (i % 12)) : oy_vs f σ := fun l c hl hc => by
  have h1 := h (12 * l + c) (by omega)
  rw [show (12 * l + c) / 12 = l by omega, show (12 * l + c) % 12 = c by omega] at h1
  exact h1
section OYI5
variable {T : oy_T} {σ : ox_H} {f : Nat → Nat → Int}
theorem oc_ft (hT : oy_ok T) : ∀ (k l n : Nat) (σ : ox_H), oy_Q T σ → l + k = 60 → k < n → ∃ τ, ox_lp B_She_findTops_4 n (sp_pv T l, (l : Int), σ) = some τ ∧ oy_fs oy_s5 σ τ ∧ (∀ i, i < 60 → l ≤ i ∨ σ 5 0 3 i = sp_tpv T i → τ 5 0 3 i = sp_tpv T i) ∧ ∀ j i, j ≠ 3 → τ 5 0 j i = σ 5 0 j i
  | _, _, 0, _, _, _, h => absurd h (Nat.not_lt_zero _)
  | 0, l, n + 1, σ, _, h1, _ => by
    refine ⟨σ, oy_lp_m (X := some σ) ?_, oy_fs.rf, fun i hi h => h.resolve_left (by omega), fun _ _ _ => rfl⟩
    unfold B_She_findTops_4 J_She_findTops_50
    dsimp only
    rw [if_pos (by omega)]
  | k + 1, l, n + 1, σ, hQ, h1, h2 => by
    obtain ⟨r, er, ek, _⟩ := oc_rdk hQ hT (show l < 60 by omega)
    obtain ⟨τ, e1, f1, g1, g2⟩ := oc_ft hT k (l + 1) n (ox_up σ 5 0 3 l (sp_tpv T l)) (hQ.fs5 (oy_fs.rf.up rfl)) (by omega) (by omega)
    refine ⟨τ, (oy_lp_l (a' := (sp_pv T (l + 1), ((l + 1 : Nat) : Int), ox_up σ 5 0 3 l (sp_tpv T l))) ?_).trans e1, (oy_fs.rf.up rfl).tr f1, fun i hi h => g1 i hi ?_, fun j i hj => (g2 j i hj).trans (oy_up_ne (fun q => hj q.2))⟩
    · have e : sp_pv T (l + 1) = sp_tpv T l := rfl
      rw [e]
      unfold B_She_findTops_4 J_She_findTops_37
      dsimp only
      rw [if_neg (by omega), er, Option.bind_some, ek]
      by_cases h4 : sp_kind (oy_ln T l) = 4
      · rw [if_pos h4, sp_tpv_4 h4]
        by_cases q : sp_pv T l = -1
        · rw [if_pos q, if_pos q, if_pos (by omega), Int.toNat_natCast, oy_w1 (by omega)]
        · rw [if_neg q, if_neg q, if_pos (by omega), Int.toNat_natCast, oy_w1 (by omega)]
      · have e4 : sp_tpv T l = -1 := if_neg h4
        rw [if_neg h4, e4, if_pos (by omega), Int.toNat_natCast, oy_w1 (by omega)]
    · by_cases q : i = l
      · subst q
        exact Or.inr oy_up_same
      · rw [oy_up_ni q]
        rcases h with h | h
        · exact Or.inl (by omega)
        · exact Or.inr h
theorem oc_findTops (hT : oy_ok T) (hQ : oy_Q T σ) : ∃ τ, F_She_findTops σ = some τ ∧ oy_fs oy_s5 σ τ ∧ oy_tps T τ ∧ ∀ j i, j ≠ 3 → τ 5 0 j i = σ 5 0 j i := by
  obtain ⟨τ, e, f1, g1, g2⟩ := oc_ft hT 60 0 ox_fu σ hQ rfl (by show 60 < 100000; decide)
  exact ⟨τ, e, f1, fun l hl => g1 l hl (Or.inl (Nat.zero_le _)), g2⟩
theorem oc_ocl (hT : oy_ok T) : ∀ (k i n : Nat) (σ : ox_H), oy_Q T σ → i + k = 720 → k < n → ∃ τ, ox_lp B_She_openCells_2 n ((i : Int), σ) = some τ ∧ oy_fs oy_s5 σ τ ∧ (∀ j, j < 720 → i ≤ j ∨ σ 5 0 2 j = sp_D T 0 (j / 12) (j % 12) → τ 5 0 2 j = sp_D T 0 (j / 12) (j % 12)) ∧ ∀ j i, j ≠ 2 → τ 5 0 j i = σ 5 0 j i
  | _, _, 0, _, _, _, h => absurd h (Nat.not_lt_zero _)
  | 0, l, n + 1, σ, _, h1, _ => by
    refine ⟨σ, oy_lp_m (X := some σ) ?_, oy_fs.rf, fun i hi h => h.resolve_left (by omega), fun _ _ _ => rfl⟩
    unfold B_She_openCells_2 J_She_openCells_74
    dsimp only
    rw [if_pos (by omega)]
  | k + 1, l, n + 1, σ, hQ, h1, h2 => by
    have h60 := hT.1
    obtain ⟨τ, e1, f1, g1, g2⟩ := oc_ocl hT k (l + 1) n (ox_up σ 5 0 2 l (sp_D T 0 (l / 12) (l % 12))) (hQ.fs5 (oy_fs.rf.up rfl)) (by omega) (by omega)
    refine ⟨τ, (oy_lp_l (a' := (((l + 1 : Nat) : Int), ox_up σ 5 0 2 l (sp_D T 0 (l / 12) (l % 12)))) ?_).trans e1, (oy_fs.rf.up rfl).tr f1, fun i hi h => g1 i hi ?_, fun j i hj => (g2 j i hj).trans (oy_up_ne (fun q => hj q.2))⟩
    · have etd := oy_td (a := l)
      have fin : ∀ v : Int, sp_D T 0 (l / 12) (l % 12) = v → J_She_openCells_67 (l : Int) v (l : Int) σ = some (.inl (((l + 1 : Nat) : Int), ox_up σ 5 0 2 l (sp_D T 0 (l / 12) (l % 12)))) := by
        intro v hv
        unfold J_She_openCells_67
        rw [if_pos (by omega), Int.toNat_natCast, oy_w1 (by omega), hv]
      unfold B_She_openCells_2 J_She_openCells_49 J_She_openCells_50
      dsimp only
      rw [if_neg (by omega), etd.1, etd.2, oy_w (x := ((l / 12 : Nat) : Int)) (by omega) (by omega), hQ.2.1.1, oy_er, oy_op]
      by_cases q : l / 12 < T.length
      · rw [if_neg (by omega), oc_cellsOf hQ hT q, Option.bind_some]
        by_cases q2 : l % 12 < sp_nc T (l / 12)
        · rw [if_neg (by omega), if_neg (by decide)]
          exact fin _ (if_pos q2)
        · rw [if_pos (by omega), if_pos rfl]
          exact fin _ (if_neg q2)
      · rw [if_pos (by omega), if_pos rfl]
        exact fin _ (if_neg (fun z => q (sp_nc_ln z)))
    · by_cases q : i = l
      · subst q
        exact Or.inr oy_up_same
      · rw [oy_up_ni q]
        rcases h with h | h
        · exact Or.inl (by omega)
        · exact Or.inr h
theorem oc_openCells (hT : oy_ok T) (hQ : oy_Q T σ) : ∃ τ, F_She_openCells σ = some τ ∧ oy_fs oy_s5 σ τ ∧ oy_vs (sp_D T 0) τ ∧ ∀ j i, j ≠ 2 → τ 5 0 j i = σ 5 0 j i := by
  obtain ⟨τ, e, f1, g1, g2⟩ := oc_ocl hT 720 0 ox_fu σ hQ rfl (by show 720 < 100000; decide)
  exact ⟨τ, e, f1, oy_vs_of (fun j hj => g1 j hj (Or.inl (Nat.zero_le _))), g2⟩
/-- one pass -/
theorem oc_spass (hT : oy_ok T) (v2 : Nat) (hv2 : v2 ≤ 720) : ∀ (k i n : Nat) (v1 : Int) (f : Nat → Nat → Int) (σ : ox_H), oy_Q T σ → oy_tps T σ → oy_bks T σ → oy_vs f σ → oy_pin T f → (v1 = 0 ∨ v1 = 1) → i + k = 720 → k < n → ∃ v1' f' τ, ox_lp (B_She_refresh_59 (v2 : Int)) n (v1, (i : Int), σ) = some (.inl (v1', ((v2 + 1 : Nat) : Int), τ)) ∧ oy_fs oy_s5 σ τ ∧ (∀ j i, j ≠ 2 → τ 5 0 j i = σ 5 0 j i) ∧ oy_vs f' τ ∧ oy_pin T f' ∧ ((v1' = v1 ∧ f' = f ∧ oy_nc T f i) ∨ (v1' = 1 ∧ oy_ct f' 720 < oy_ct f 720))
  | _, _, 0, _, _, _, _, _, _, _, _, _, _, h => absurd h (Nat.not_lt_zero _)
  | 0, i, n + 1, v1, f, σ, _, _, _, hv, hp, _, h1, _ => by
    refine ⟨v1, f, σ, oy_lp_m (X := some _) ?_, oy_fs.rf, fun _ _ _ => rfl, hv, hp, Or.inl ⟨rfl, rfl, fun j hj hj2 => absurd hj (by omega)⟩⟩
    unfold B_She_refresh_59 J_She_refresh_117
    dsimp only
    rw [if_pos (by omega), oy_w1 (by omega)]
  | k + 1, i, n + 1, v1, f, σ, hQ, ht, hb, hv, hp, hv1, h1, h2 => by
    have ei := hv.at (show i < 720 by omega)
    by_cases ho : f (i / 12) (i % 12) = 1000001
    rotate_left
    · obtain ⟨v1', f', τ, e1, f1, g1, vs1, p1, r1⟩ := oc_spass hT v2 hv2 k (i + 1) n v1 f σ hQ ht hb hv hp hv1 (by omega) (by omega)
      refine ⟨v1', f', τ, (oy_lp_l (a' := (v1, ((i + 1 : Nat) : Int), σ)) ?_).trans e1, f1, g1, vs1, p1, ?_⟩
      · unfold B_She_refresh_59 J_She_refresh_111
        dsimp only
        rw [if_neg (by omega), if_pos (by omega), Int.toNat_natCast, ei, oy_op, if_neg ho, oy_w1 (by omega)]
      · rcases r1 with ⟨r1, r2, r3⟩ | r1
        · refine Or.inl ⟨r1, r2, fun j hj hj2 hj3 => ?_⟩
          by_cases q : j = i
          · rw [q] at hj3
            exact absurd hj3 ho
          · exact r3 j (by omega) hj2 hj3
        · exact Or.inr r1
    have hc := hp.cell ho
    have es := oc_sumOf hQ hT hv ht hb (fun l c => hp.rg l c) hc
    rw [show 12 * (i / 12) + i % 12 = i by omega] at es
    by_cases hr : sp_ce T f (i / 12) (i % 12) = 1000001
    · rw [hr] at es
      have eu : ox_up σ 5 0 2 i 1000001 = σ := by
        have h : ox_up σ 5 0 2 i (σ 5 0 2 i) = σ := oy_up_self
        rw [ei, ho] at h
        exact h
      obtain ⟨v1', f', τ, e1, f1, g1, vs1, p1, r1⟩ := oc_spass hT v2 hv2 k (i + 1) n v1 f σ hQ ht hb hv hp hv1 (by omega) (by omega)
      refine ⟨v1', f', τ, (oy_lp_l (a' := (v1, ((i + 1 : Nat) : Int), σ)) ?_).trans e1, f1, g1, vs1, p1, ?_⟩
      · unfold B_She_refresh_59 J_She_refresh_105 J_She_refresh_110 J_She_refresh_111
        dsimp only
        rw [if_neg (by omega), if_pos (by omega), Int.toNat_natCast, ei, oy_op, if_pos ho, es, Option.bind_some, if_pos (by omega), eu, ei, ho]
        rcases hv1 with z | z
        · rw [z, if_pos rfl, if_pos (by omega), if_pos rfl, oy_w1 (by omega)]
        · rw [z, if_neg (by decide), oy_w1 (by omega)]
      · rcases r1 with ⟨r1, r2, r3⟩ | r1
        · refine Or.inl ⟨r1, r2, fun j hj hj2 hj3 => ?_⟩
          by_cases q : j = i
          · rw [q]
            exact hr
          · exact r3 j (by omega) hj2 hj3
        · exact Or.inr r1
    have hct := (oy_ct_fs1 ho hr 720).2 (by omega)
    have hp' := hp.step ho
    have hv' : oy_vs (oy_fs1 f (i / 12) (i % 12) (sp_ce T f (i / 12) (i % 12))) (ox_up σ 5 0 2 i (sp_ce T f (i / 12) (i % 12))) := oy_vs_of (fun j hj => by
      unfold oy_fs1
      by_cases q : j = i
      · rw [q, if_pos ⟨rfl, rfl⟩]
        exact oy_up_same
      · rw [oy_up_ni q, if_neg (fun z => q (by omega))]
        exact hv.at hj)
    generalize sp_ce T f (i / 12) (i % 12) = u at es hr hct hp' hv'
    generalize oy_fs1 f (i / 12) (i % 12) u = f2 at hct hp' hv'
    have hf2 : oy_fs oy_s5 σ (ox_up σ 5 0 2 i u) := oy_fs.rf.up rfl
    obtain ⟨v1', f', τ, e1, f1, g1, vs1, p1, r1⟩ := oc_spass hT v2 hv2 k (i + 1) n 1 f2 (ox_up σ 5 0 2 i u) (hQ.fs5 hf2) (fun l hl => (oy_up_ne (by decide)).trans (ht l hl)) (fun x hx => (oy_up_ne (by decide)).trans (hb x hx)) hv' hp' (Or.inr rfl) (by omega) (by omega)
    refine ⟨v1', f', τ, (oy_lp_l (a' := (1, ((i + 1 : Nat) : Int), ox_up σ 5 0 2 i u)) ?_).trans e1, hf2.tr f1, fun j i hj => (g1 j i hj).trans (oy_up_ne (fun q => hj q.2)), vs1, p1, ?_⟩
    · have eu : ox_up σ 5 0 2 i u 5 0 2 i = u := oy_up_same
      unfold B_She_refresh_59 J_She_refresh_105 J_She_refresh_110 J_She_refresh_111
      dsimp only
      rw [if_neg (by omega), if_pos (by omega), Int.toNat_natCast, ei, oy_op, if_pos ho, es, Option.bind_some, if_pos (by omega), eu]
      rcases hv1 with z | z
      · rw [z, if_pos rfl, if_pos (by omega), if_neg hr, oy_w1 (by omega)]
      · rw [z, if_neg (by decide), oy_w1 (by omega)]
    · rcases r1 with ⟨r1, r2, r3⟩ | ⟨r1, r2⟩
      · rw [r2]
        exact Or.inr ⟨r1, by omega⟩
      · exact Or.inr ⟨r1, by omega⟩
end OYI5
