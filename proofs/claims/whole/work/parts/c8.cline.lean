/-! ===== the class reads: a whole line's reading ===== -/
/-- the cells of a line -/
def sp_cc (w : List Int) : List (List oy_Tm) := if sp_kind w = 4 then sp_cls w 30 0 else if sp_kind w = 5 then [sp_tl w 6 43 3] else []
/-- what a reading says of a line -/
def oy_rd (w : List Int) (l : Nat) (τ : ox_H) : Prop := τ 4 l 0 0 = sp_kind w ∧ (sp_kind w = 0 → oy_hd w l τ) ∧ (sp_kind w = 1 → τ 4 l 1 0 = oy_wk w 1 - 97 ∧ τ 4 l 2 0 = (sp_nu w 3).2) ∧
  (sp_kind w = 2 → ∀ v, sp_date w = some v → τ 4 l 3 0 = v.1 ∧ τ 4 l 4 0 = v.2.1 ∧ τ 4 l 5 0 = (if v.2.2.1 = 0 then -1 else v.2.2.1) ∧ τ 4 l 6 0 = v.2.2.2) ∧
  (sp_kind w = 3 → ∀ v, sp_clock w = some v → τ 4 l 3 0 = v.1 ∧ τ 4 l 4 0 = v.2) ∧ (sp_kind w = 5 → τ 4 l 1 0 = oy_wk w 1 - 97) ∧ (sp_kind w = 6 → τ 4 l 1 0 = oy_wk w 1 - 97) ∧ oy_sm l (sp_cc w) [] τ
theorem sp_isH_0 {w : List Int} (h : sp_isH w) : oy_wk w 0 = 42 := by
  have h1 := h.1
  unfold sp_stars at h1
  rw [sp_sc] at h1
  by_cases q : oy_wk w 0 = 42
  · exact q
  · rw [if_neg q] at h1
    omega
theorem sp_prop_0 {w : List Int} (h : (sp_prop w).isSome = true) : oy_wk w 0 = 58 := (sp_prop_iff.mp h).1
theorem sp_date_0 {w : List Int} (h : (sp_date w).isSome = true) : oy_wk w 0 = 64 := by
  by_cases q : oy_wk w 0 = 64
  · exact q
  · unfold sp_date at h
    rw [if_neg (fun z => q z.1)] at h
    exact Bool.noConfusion h
theorem sp_clock_0 {w : List Int} (h : (sp_clock w).isSome = true) : oy_wk w 0 = 37 := by
  by_cases q : oy_wk w 0 = 37
  · exact q
  · unfold sp_clock at h
    rw [if_neg (fun z => q z.1)] at h
    exact Bool.noConfusion h
theorem sp_row_0 {w : List Int} (h : sp_row w = true) : oy_wk w 0 = 124 := by
  unfold sp_row at h
  rw [Bool.and_eq_true, decide_eq_true_eq] at h
  exact h.1
theorem sp_code_0 {w : List Int} (h : sp_code w = true) : oy_wk w 0 = 123 := by
  unfold sp_code at h
  rw [Bool.and_eq_true, decide_eq_true_eq] at h
  exact h.1.1
theorem sp_kind_H {w : List Int} : sp_kind w = 0 ↔ sp_isH w := by
  unfold sp_kind
  constructor
  · intro h
    by_cases q : sp_isH w
    · exact q
    · rw [if_neg q] at h
      revert h
      split <;> (try split) <;> (try split) <;> (try split) <;> (try split) <;> (try split) <;> intro h <;> exact absurd h (by decide)
  · intro h
    rw [if_pos h]
theorem sp_kind_42 {w : List Int} (h : oy_wk w 0 = 42) : sp_kind w = if sp_isH w then 0 else 7 := by
  unfold sp_kind
  by_cases q : sp_isH w
  · rw [if_pos q, if_pos q]
  · rw [if_neg q, if_neg q, if_neg (fun z => by have := sp_prop_0 z; omega), if_neg (fun z => by have := sp_date_0 z; omega), if_neg (fun z => by have := sp_clock_0 z; omega), if_neg (fun z => by have := sp_row_0 z; omega), if_neg (fun z => by have := sp_code_0 z; omega), if_neg (fun z => by have := z.2.1; omega)]
theorem sp_kind_58 {w : List Int} (h : oy_wk w 0 = 58) : sp_kind w = if (sp_prop w).isSome = true then 1 else 7 := by
  unfold sp_kind
  rw [if_neg (fun z => by have := sp_isH_0 z; omega)]
  by_cases q : (sp_prop w).isSome = true
  · rw [if_pos q, if_pos q]
  · rw [if_neg q, if_neg q, if_neg (fun z => by have := sp_date_0 z; omega), if_neg (fun z => by have := sp_clock_0 z; omega), if_neg (fun z => by have := sp_row_0 z; omega), if_neg (fun z => by have := sp_code_0 z; omega), if_neg (fun z => by have := z.2.1; omega)]
theorem sp_kind_64 {w : List Int} (h : oy_wk w 0 = 64) : sp_kind w = if (sp_date w).isSome = true then 2 else 7 := by
  unfold sp_kind
  rw [if_neg (fun z => by have := sp_isH_0 z; omega), if_neg (fun z => by have := sp_prop_0 z; omega)]
  by_cases q : (sp_date w).isSome = true
  · rw [if_pos q, if_pos q]
  · rw [if_neg q, if_neg q, if_neg (fun z => by have := sp_clock_0 z; omega), if_neg (fun z => by have := sp_row_0 z; omega), if_neg (fun z => by have := sp_code_0 z; omega), if_neg (fun z => by have := z.2.1; omega)]
theorem sp_kind_37 {w : List Int} (h : oy_wk w 0 = 37) : sp_kind w = if (sp_clock w).isSome = true then 3 else 7 := by
  unfold sp_kind
  rw [if_neg (fun z => by have := sp_isH_0 z; omega), if_neg (fun z => by have := sp_prop_0 z; omega), if_neg (fun z => by have := sp_date_0 z; omega)]
  by_cases q : (sp_clock w).isSome = true
  · rw [if_pos q, if_pos q]
  · rw [if_neg q, if_neg q, if_neg (fun z => by have := sp_row_0 z; omega), if_neg (fun z => by have := sp_code_0 z; omega), if_neg (fun z => by have := z.2.1; omega)]
theorem sp_kind_124 {w : List Int} (h : oy_wk w 0 = 124) : sp_kind w = if sp_row w = true then 4 else 7 := by
  unfold sp_kind
  rw [if_neg (fun z => by have := sp_isH_0 z; omega), if_neg (fun z => by have := sp_prop_0 z; omega), if_neg (fun z => by have := sp_date_0 z; omega), if_neg (fun z => by have := sp_clock_0 z; omega)]
  by_cases q : sp_row w = true
  · rw [if_pos q, if_pos q]
  · rw [if_neg q, if_neg q, if_neg (fun z => by have := sp_code_0 z; omega), if_neg (fun z => by have := z.2.1; omega)]
theorem sp_kind_123 {w : List Int} (h : oy_wk w 0 = 123) : sp_kind w = if sp_code w = true then 5 else 7 := by
  unfold sp_kind
  rw [if_neg (fun z => by have := sp_isH_0 z; omega), if_neg (fun z => by have := sp_prop_0 z; omega), if_neg (fun z => by have := sp_date_0 z; omega), if_neg (fun z => by have := sp_clock_0 z; omega), if_neg (fun z => by have := sp_row_0 z; omega)]
  by_cases q : sp_code w = true
  · rw [if_pos q, if_pos q]
  · rw [if_neg q, if_neg q, if_neg (fun z => by have := z.2.1; omega)]
theorem sp_kind_else {w : List Int} (h1 : oy_wk w 0 ≠ 42) (h2 : oy_wk w 0 ≠ 58) (h3 : oy_wk w 0 ≠ 64) (h4 : oy_wk w 0 ≠ 37) (h5 : oy_wk w 0 ≠ 124) (h6 : oy_wk w 0 ≠ 123) : sp_kind w = if w.length = 2 ∧ oy_wk w 0 = 33 ∧ sp_lt (oy_wk w 1) then 6 else 7 := by
  unfold sp_kind
  rw [if_neg (fun z => h1 (sp_isH_0 z)), if_neg (fun z => h2 (sp_prop_0 z)), if_neg (fun z => h3 (sp_date_0 z)), if_neg (fun z => h4 (sp_clock_0 z)), if_neg (fun z => h5 (sp_row_0 z)), if_neg (fun z => h6 (sp_code_0 z))]
theorem oy_pl_self {σ : ox_H} (h : σ 3 0 5 0 = 0) : oy_pl σ 0 = σ := by
  unfold oy_pl
  rw [show ((0 : Nat) : Int) = σ 3 0 5 0 from h.symm]
  exact oy_up_self
theorem oy_sm_fs {l : Nat} {cs : List (List oy_Tm)} {S : Nat → Nat → Nat → Nat → Prop} {σ σ' : ox_H} (h : oy_sm l cs [] σ) (hf : oy_fs S σ σ') (h6 : ∀ k j i, ¬ S 6 k j i) : oy_sm l cs [] σ' := by
  obtain ⟨h1, h2, h3, h4⟩ := h
  refine ⟨(hf _ _ _ _ (h6 _ _ _)).trans h1, (hf _ _ _ _ (h6 _ _ _)).trans h2, fun c hc => (hf _ _ _ _ (h6 _ _ _)).trans (h3 c hc), fun t m hm => ?_⟩
  rw [hf _ _ _ _ (h6 _ _ _), hf _ _ _ _ (h6 _ _ _), hf _ _ _ _ (h6 _ _ _), hf _ _ _ _ (h6 _ _ _)]
  exact h4 t m hm
section OYC8
variable {T : oy_T} {l : Nat}
theorem oc_read (hT : oy_ok T) (hl : l < T.length) {σ : ox_H} (hL : oy_L 0 T σ) (hw : σ 1 0 1 0 = 24) : ∃ τ, F_Rdr_read (l : Int) l σ = some τ ∧ oy_fs (oy_rs l) σ τ ∧ oy_rd (oy_ln T l) l τ := by
  have h60 := hT.1
  obtain ⟨σ1, e1, f1, R1, g3, g5, s1⟩ := oc_begin hT hl hL hw
  unfold F_Rdr_read
  rw [e1, Option.bind_some]
  obtain ⟨σ2, hσ2⟩ : ∃ s, s = (ox_up (ox_up (ox_up (ox_up (ox_up (ox_up (ox_up (ox_up (ox_up (ox_up (ox_up (ox_up σ1 4 l 0 0 7) 4 l 1 0 0) 4 l 2 0 0) 4 l 3 0 (-1)) 4 l 4 0 (-1)) 4 l 5 0 (-1)) 4 l 6 0 0) 4 l 7 0 0) 4 l 8 0 (-1)) 4 l 9 0 0) 4 l 10 0 0) 4 l 11 0 0) := ⟨_, rfl⟩
  have e2 : F_Rdg_forget l σ1 = some σ2 := by rw [hσ2]; rfl
  have f2 : oy_fs (fun c k _ _ => c = 4 ∧ k = l) σ1 σ2 := by
    rw [hσ2]
    exact (((((((((((oy_fs.rf.up ⟨rfl, rfl⟩).up ⟨rfl, rfl⟩).up ⟨rfl, rfl⟩).up ⟨rfl, rfl⟩).up ⟨rfl, rfl⟩).up ⟨rfl, rfl⟩).up ⟨rfl, rfl⟩).up ⟨rfl, rfl⟩).up ⟨rfl, rfl⟩).up ⟨rfl, rfl⟩).up ⟨rfl, rfl⟩).up ⟨rfl, rfl⟩
  have v0 : σ2 4 l 0 0 = 7 := by rw [hσ2]; rw [oy_up_ne (by decide), oy_up_ne (by decide), oy_up_ne (by decide), oy_up_ne (by decide), oy_up_ne (by decide), oy_up_ne (by decide), oy_up_ne (by decide), oy_up_ne (by decide), oy_up_ne (by decide), oy_up_ne (by decide), oy_up_ne (by decide)]; exact oy_up_same
  have v4 : σ2 4 l 4 0 = -1 := by rw [hσ2]; rw [oy_up_ne (by decide), oy_up_ne (by decide), oy_up_ne (by decide), oy_up_ne (by decide), oy_up_ne (by decide), oy_up_ne (by decide), oy_up_ne (by decide)]; exact oy_up_same
  have v5 : σ2 4 l 5 0 = -1 := by rw [hσ2]; rw [oy_up_ne (by decide), oy_up_ne (by decide), oy_up_ne (by decide), oy_up_ne (by decide), oy_up_ne (by decide), oy_up_ne (by decide)]; exact oy_up_same
  have v6 : σ2 4 l 6 0 = 0 := by rw [hσ2]; rw [oy_up_ne (by decide), oy_up_ne (by decide), oy_up_ne (by decide), oy_up_ne (by decide), oy_up_ne (by decide)]; exact oy_up_same
  have v7 : σ2 4 l 7 0 = 0 := by rw [hσ2]; rw [oy_up_ne (by decide), oy_up_ne (by decide), oy_up_ne (by decide), oy_up_ne (by decide)]; exact oy_up_same
  have v11 : σ2 4 l 11 0 = 0 := by rw [hσ2]; exact oy_up_same
  clear hσ2
  have R2 : oy_R (oy_ln T l) σ2 := ⟨R1.1, R1.2.1, (f2 3 0 4 0 (by omega)).trans R1.2.2.1, fun p hp => (f2 3 0 2 p (by omega)).trans (R1.2.2.2 p hp)⟩
  have s2 := oy_sm_fs s1 f2 (fun _ _ _ q => absurd q.1 (by decide))
  have g32 : σ2 3 0 3 0 = (l : Int) := (f2 3 0 3 0 (by omega)).trans g3
  have g52 : σ2 3 0 5 0 = 0 := (f2 3 0 5 0 (by omega)).trans g5
  have F2 : oy_fs (oy_rs l) σ σ2 := f1.tr (f2.mono (fun c k j i h => Or.inr (Or.inl h)))
  rw [e2, Option.bind_some]
  generalize hw : oy_ln T l = w at *
  have hpk : F_Rdr_peek σ2 = some (oy_wk w 0) := by
    have := oc_peek R2 (a := 0)
    rw [oy_pl_self g52] at this
    exact this
  rw [hpk, Option.bind_some]
  /- when nothing is read -/
  have none7 : ∀ τ : ox_H, oy_fs (oy_rs l) σ τ → sp_kind w = 7 → ∃ τ', J_Rdr_read_193 (l : Int) l τ = some τ' ∧ oy_fs (oy_rs l) σ τ' ∧ oy_rd w l τ' := by
    intro τ hf hk
    obtain ⟨τ', e, f, g⟩ := oc_forget (l := l) (by omega) (σ := ox_up τ 4 l 0 0 7)
    unfold J_Rdr_read_193 J_Rdr_read_207
    rw [e]
    have F : oy_fs (oy_rs l) σ τ' := (hf.up (Or.inr (Or.inl ⟨rfl, rfl⟩))).tr (f.mono (fun c k j i h => by unfold oy_rs; omega))
    refine ⟨τ', rfl, F, ?_⟩
    have hc : sp_cc w = [] := by unfold sp_cc; rw [if_neg (by omega), if_neg (by omega)]
    unfold oy_rd
    rw [hc, hk]
    exact ⟨(f 4 l 0 0 (by omega)).trans oy_up_same, fun q => absurd q (by decide), fun q => absurd q (by decide), fun q => absurd q (by decide), fun q => absurd q (by decide), fun q => absurd q (by decide), fun q => absurd q (by decide), g⟩
  have fin : ∀ (K : Int) (ok : Prop) (inst : Decidable ok) (P : ox_H → Prop) (X : Option (Int × ox_H)), oy_tk (oy_sl l) w (ox_up σ2 4 l 0 0 K) X ok P → sp_kind w = (if ok then K else 7) → (∀ τ, ok → oy_fs (oy_sl l) (ox_up σ2 4 l 0 0 K) τ → τ 4 l 0 0 = K → P τ → oy_rd w l τ) →
      ∃ τ, (X.bind fun r => J_Rdr_read_178 (l : Int) l r.1 r.2) = some τ ∧ oy_fs (oy_rs l) σ τ ∧ oy_rd w l τ := by
    intro K ok inst P X hx hk hp
    obtain ⟨r, τ, e, f, g, k⟩ := hx
    have f3 : oy_fs (oy_rs l) σ τ := (F2.up (Or.inr (Or.inl ⟨rfl, rfl⟩))).tr (f.mono (fun c k j i h => oy_sl_rs h))
    have hlen : τ 3 0 4 0 = w.length := (f 3 0 4 0 (by unfold oy_sl; omega)).trans ((oy_up_ne (by decide)).trans R2.2.2.1)
    rw [e, Option.bind_some]
    unfold J_Rdr_read_178 J_Rdr_read_207
    dsimp only
    by_cases q : ok
    · obtain ⟨q1, q2⟩ := g.mpr q
      rw [if_neg q1, if_pos (q2.trans hlen.symm)]
      exact ⟨τ, rfl, f3, hp τ q f ((f 4 l 0 0 (by unfold oy_sl; omega)).trans oy_up_same) (k q)⟩
    · rw [if_neg q] at hk
      by_cases q1 : r = 0
      · rw [if_pos q1]
        exact none7 τ f3 hk
      · rw [if_neg q1, if_neg (fun z => q (g.mp ⟨q1, z.trans hlen⟩))]
        exact none7 τ f3 hk
  have RK : ∀ K, oy_R w (ox_up σ2 4 l 0 0 K) := fun K => oy_R_up R2 rfl
  have PK : ∀ K, oy_pl (ox_up σ2 4 l 0 0 K) 0 = ox_up σ2 4 l 0 0 K := fun K => oy_pl_self ((oy_up_ne (by decide)).trans g52)
  have SK : ∀ K, oy_sm l [] [] (ox_up σ2 4 l 0 0 K) := fun K => oy_sm_fs s2 (oy_fs.rf.up (S := fun c k _ _ => c = 4 ∧ k = l) ⟨rfl, rfl⟩) (fun _ _ _ q => absurd q.1 (by decide))
  have LK : ∀ K, (ox_up σ2 4 l 0 0 K) 3 0 3 0 = (l : Int) := fun K => (oy_up_ne (by decide)).trans g32
  have fin4 : ∀ (K : Int) (ok : Prop) (inst : Decidable ok) (P : ox_H → Prop) (X : Option (Int × ox_H)), oy_tk (oy_s4 l) w (ox_up σ2 4 l 0 0 K) X ok P → sp_kind w = (if ok then K else 7) → (∀ τ, ok → sp_kind w = K → τ 4 l 0 0 = K → P τ → oy_sm l [] [] τ → oy_rd w l τ) →
      ∃ τ, (X.bind fun r => J_Rdr_read_178 (l : Int) l r.1 r.2) = some τ ∧ oy_fs (oy_rs l) σ τ ∧ oy_rd w l τ := by
    intro K ok inst P X hx hk hp
    obtain ⟨r, τ, e, f, g, k⟩ := hx
    refine fin K ok inst (fun τ => P τ ∧ oy_sm l [] [] τ) X ⟨r, τ, e, f.mono (fun _ _ _ _ => oy_s4_sl), g, fun q => ⟨k q, oy_sm_fs (SK K) f (fun _ _ _ q => by unfold oy_s4 at q; omega)⟩⟩ hk (fun τ q f h0 h => hp τ q (by rw [hk, if_pos q]) h0 h.1 h.2)
  have c0 : sp_kind w ≠ 4 → sp_kind w ≠ 5 → sp_cc w = [] := fun h1 h2 => by unfold sp_cc; rw [if_neg h1, if_neg h2]
  by_cases k33 : oy_wk w 0 = ((33 : Nat) : Int)
  · rw [if_pos k33]
    have h := oc_incl (RK 6) (k := l) k33
    rw [PK] at h
    refine fin4 6 _ inferInstance _ _ h (sp_kind_else (by omega) (by omega) (by omega) (by omega) (by omega) (by omega)) (fun τ ok hk h0 hp hs => ?_)
    unfold oy_rd
    rw [c0 (by omega) (by omega), hk]
    exact ⟨h0, fun q => absurd q (by decide), fun q => absurd q (by decide), fun q => absurd q (by decide), fun q => absurd q (by decide), fun q => absurd q (by decide), fun _ => hp, hs⟩
  rw [if_neg k33]
  by_cases k37 : oy_wk w 0 = ((37 : Nat) : Int)
  · rw [if_pos k37]
    have h := oc_clock (RK 3) (k := l) k37 ((oy_up_ne (by decide)).trans v4)
    rw [PK] at h
    refine fin4 3 _ inferInstance _ _ h (sp_kind_37 k37) (fun τ ok hk h0 hp hs => ?_)
    unfold oy_rd
    rw [c0 (by omega) (by omega), hk]
    exact ⟨h0, fun q => absurd q (by decide), fun q => absurd q (by decide), fun q => absurd q (by decide), fun _ => hp, fun q => absurd q (by decide), fun q => absurd q (by decide), hs⟩
  rw [if_neg k37]
  by_cases k42 : oy_wk w 0 = ((42 : Nat) : Int)
  · rw [if_pos k42]
    obtain ⟨τ, e, f, g⟩ := oc_heading (RK 0) (k := l) k42 ((oy_up_ne (by decide)).trans v7) ((oy_up_ne (by decide)).trans v11)
    rw [PK] at e
    have h : oy_tk (oy_s4 l) w (ox_up σ2 4 l 0 0 0) (F_Rdr_takeHeading l (ox_up σ2 4 l 0 0 0)) (sp_isH w) (oy_hd w l) := by
      refine ⟨_, τ, e, f, ⟨fun q => ?_, fun q => ⟨by rw [if_pos q]; decide, (g q).1⟩⟩, fun q => (g q).2⟩
      by_cases z : sp_isH w
      · exact z
      · rw [if_neg z] at q
        exact absurd rfl q.1
    refine fin4 0 _ inferInstance _ _ h (sp_kind_42 k42) (fun τ ok hk h0 hp hs => ?_)
    unfold oy_rd
    rw [c0 (by omega) (by omega), hk]
    exact ⟨h0, fun _ => hp, fun q => absurd q (by decide), fun q => absurd q (by decide), fun q => absurd q (by decide), fun q => absurd q (by decide), fun q => absurd q (by decide), hs⟩
  rw [if_neg k42]
  by_cases k58 : oy_wk w 0 = ((58 : Nat) : Int)
  · rw [if_pos k58]
    have h := oc_prop (RK 1) (k := l) k58
    rw [PK] at h
    refine fin4 1 _ inferInstance _ _ h (sp_kind_58 k58) (fun τ ok hk h0 hp hs => ?_)
    unfold oy_rd
    rw [c0 (by omega) (by omega), hk]
    exact ⟨h0, fun q => absurd q (by decide), fun _ => hp, fun q => absurd q (by decide), fun q => absurd q (by decide), fun q => absurd q (by decide), fun q => absurd q (by decide), hs⟩
  rw [if_neg k58]
  by_cases k64 : oy_wk w 0 = ((64 : Nat) : Int)
  · rw [if_pos k64]
    have h := oc_date (RK 2) (k := l) k64 ((oy_up_ne (by decide)).trans v5) ((oy_up_ne (by decide)).trans v6)
    rw [PK] at h
    refine fin4 2 _ inferInstance _ _ h (sp_kind_64 k64) (fun τ ok hk h0 hp hs => ?_)
    unfold oy_rd
    rw [c0 (by omega) (by omega), hk]
    exact ⟨h0, fun q => absurd q (by decide), fun q => absurd q (by decide), fun _ => hp, fun q => absurd q (by decide), fun q => absurd q (by decide), fun q => absurd q (by decide), hs⟩
  rw [if_neg k64]
  by_cases k123 : oy_wk w 0 = ((123 : Nat) : Int)
  · rw [if_pos k123]
    have h := oc_code (RK 5) (LK 5) (by omega) (SK 5) k123
    rw [PK] at h
    refine fin 5 _ inferInstance _ _ h (sp_kind_123 k123) (fun τ ok hf h0 hp => ?_)
    have hk : sp_kind w = 5 := by rw [sp_kind_123 k123, if_pos ok]
    have hc : sp_cc w = [sp_tl w 6 43 3] := by unfold sp_cc; rw [if_neg (by omega), if_pos hk]
    unfold oy_rd
    rw [hc, hk]
    exact ⟨h0, fun q => absurd q (by decide), fun q => absurd q (by decide), fun q => absurd q (by decide), fun q => absurd q (by decide), fun _ => hp.1, fun q => absurd q (by decide), hp.2⟩
  rw [if_neg k123]
  by_cases k124 : oy_wk w 0 = ((124 : Nat) : Int)
  · rw [if_pos k124]
    have h := oc_row (RK 4) (LK 4) (by omega) (SK 4) k124
    rw [PK] at h
    refine fin 4 _ inferInstance _ _ h (sp_kind_124 k124) (fun τ ok hf h0 hp => ?_)
    have hk : sp_kind w = 4 := by rw [sp_kind_124 k124, if_pos ok]
    have hc : sp_cc w = sp_cls w 30 0 := by unfold sp_cc; rw [if_pos hk]
    unfold oy_rd
    rw [hc, hk]
    exact ⟨h0, fun q => absurd q (by decide), fun q => absurd q (by decide), fun q => absurd q (by decide), fun q => absurd q (by decide), fun q => absurd q (by decide), fun q => absurd q (by decide), hp⟩
  rw [if_neg k124]
  have hk : sp_kind w = 7 := by
    rw [sp_kind_else (by omega) (by omega) (by omega) (by omega) (by omega) (by omega), if_neg (fun q => by have := q.2.1; omega)]
  unfold J_Rdr_read_178
  rw [if_pos rfl]
  exact none7 σ2 F2 hk
end OYC8
