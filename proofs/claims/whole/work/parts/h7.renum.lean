/-! ===== footnotes numbered anew ===== -/
abbrev oy_Rs : Type := List Int × (Nat → Int) × Int
def oy_gu (g : Nat → Int) (d : Nat) (x : Int) : Nat → Int := fun y => if y = d then x else g y
abbrev sp_rc (w : List Int) (j : Nat) : Prop := oy_wk w (j - 1) = 94 ∧ 49 ≤ oy_wk w j ∧ oy_wk w j ≤ 57
def sp_rd (w : List Int) (j : Nat) : Nat := (oy_wk w j - 48).toNat
def sp_rs (s : oy_Rs) (j : Nat) : oy_Rs := if sp_rc s.1 j then (if s.2.1 (sp_rd s.1 j) = 0 then (sp_set s.1 j (48 + (s.2.2 + 1)), oy_gu s.2.1 (sp_rd s.1 j) (s.2.2 + 1), s.2.2 + 1) else (sp_set s.1 j (48 + s.2.1 (sp_rd s.1 j)), s.2.1, s.2.2)) else s
def sp_rl : Nat → Nat → oy_Rs → oy_Rs
  | 0, _, s => s
  | f + 1, j, s => sp_rl f (j + 1) (sp_rs s j)
abbrev oy_Rt : Type := oy_T × (Nat → Int) × Int
def sp_r1 (s : oy_Rt) (l : Nat) : oy_Rt := if sp_kind (oy_ln s.1 l) = 7 then (sp_put s.1 l (sp_rl ((oy_ln s.1 l).length - 1) 1 (oy_ln s.1 l, s.2.1, s.2.2)).1, (sp_rl ((oy_ln s.1 l).length - 1) 1 (oy_ln s.1 l, s.2.1, s.2.2)).2.1, (sp_rl ((oy_ln s.1 l).length - 1) 1 (oy_ln s.1 l, s.2.1, s.2.2)).2.2) else s
def sp_rt : Nat → Nat → oy_Rt → oy_Rt
  | 0, _, s => s
  | f + 1, l, s => sp_rt f (l + 1) (sp_r1 s l)
def sp_rnum (T : oy_T) : oy_Rt := sp_rt T.length 0 (T, (fun _ => 0), 0)
/-- numbers given: which are still free -/
def sp_fz (x : Int) : Int := if x = 0 then 1 else 0
def sp_zs (g : Nat → Int) : Int := sp_fz (g 1) + sp_fz (g 2) + sp_fz (g 3) + sp_fz (g 4) + sp_fz (g 5) + sp_fz (g 6) + sp_fz (g 7) + sp_fz (g 8) + sp_fz (g 9)
def oy_gk (g : Nat → Int) (c : Int) : Prop := 0 ≤ c ∧ c + sp_zs g = 9 ∧ ∀ d, 0 ≤ g d ∧ g d ≤ c
theorem sp_fz_in (x : Int) : 0 ≤ sp_fz x ∧ sp_fz x ≤ 1 := by unfold sp_fz; split <;> omega
theorem oy_gk_in {g : Nat → Int} {c : Int} (h : oy_gk g c) : 0 ≤ c ∧ c ≤ 9 := by
  have h2 := h.2.1
  have h1 := h.1
  unfold sp_zs at h2
  have a1 := sp_fz_in (g 1); have a2 := sp_fz_in (g 2); have a3 := sp_fz_in (g 3); have a4 := sp_fz_in (g 4); have a5 := sp_fz_in (g 5)
  have a6 := sp_fz_in (g 6); have a7 := sp_fz_in (g 7); have a8 := sp_fz_in (g 8); have a9 := sp_fz_in (g 9)
  omega
theorem oy_gk_up {g : Nat → Int} {c : Int} {d : Nat} (h : oy_gk g c) (hd : 1 ≤ d ∧ d ≤ 9) (h0 : g d = 0) : oy_gk (oy_gu g d (c + 1)) (c + 1) := by
  obtain ⟨h1, h2, h3⟩ := h
  refine ⟨by omega, ?_, fun y => ?_⟩
  · have hx : sp_fz (c + 1) = 0 := by unfold sp_fz; rw [if_neg (by omega)]
    have h0' : sp_fz (g d) = 1 := by unfold sp_fz; rw [if_pos h0]
    unfold sp_zs at h2 ⊢
    have hc : d = 1 ∨ d = 2 ∨ d = 3 ∨ d = 4 ∨ d = 5 ∨ d = 6 ∨ d = 7 ∨ d = 8 ∨ d = 9 := by omega
    have ne : ∀ y, y ≠ d → oy_gu g d (c + 1) y = g y := fun y hy => if_neg hy
    have eq : oy_gu g d (c + 1) d = c + 1 := if_pos rfl
    rcases hc with rfl | rfl | rfl | rfl | rfl | rfl | rfl | rfl | rfl
    · rw [eq, ne 2 (by decide), ne 3 (by decide), ne 4 (by decide), ne 5 (by decide), ne 6 (by decide), ne 7 (by decide), ne 8 (by decide), ne 9 (by decide)]; omega
    · rw [eq, ne 1 (by decide), ne 3 (by decide), ne 4 (by decide), ne 5 (by decide), ne 6 (by decide), ne 7 (by decide), ne 8 (by decide), ne 9 (by decide)]; omega
    · rw [eq, ne 1 (by decide), ne 2 (by decide), ne 4 (by decide), ne 5 (by decide), ne 6 (by decide), ne 7 (by decide), ne 8 (by decide), ne 9 (by decide)]; omega
    · rw [eq, ne 1 (by decide), ne 2 (by decide), ne 3 (by decide), ne 5 (by decide), ne 6 (by decide), ne 7 (by decide), ne 8 (by decide), ne 9 (by decide)]; omega
    · rw [eq, ne 1 (by decide), ne 2 (by decide), ne 3 (by decide), ne 4 (by decide), ne 6 (by decide), ne 7 (by decide), ne 8 (by decide), ne 9 (by decide)]; omega
    · rw [eq, ne 1 (by decide), ne 2 (by decide), ne 3 (by decide), ne 4 (by decide), ne 5 (by decide), ne 7 (by decide), ne 8 (by decide), ne 9 (by decide)]; omega
    · rw [eq, ne 1 (by decide), ne 2 (by decide), ne 3 (by decide), ne 4 (by decide), ne 5 (by decide), ne 6 (by decide), ne 8 (by decide), ne 9 (by decide)]; omega
    · rw [eq, ne 1 (by decide), ne 2 (by decide), ne 3 (by decide), ne 4 (by decide), ne 5 (by decide), ne 6 (by decide), ne 7 (by decide), ne 9 (by decide)]; omega
    · rw [eq, ne 1 (by decide), ne 2 (by decide), ne 3 (by decide), ne 4 (by decide), ne 5 (by decide), ne 6 (by decide), ne 7 (by decide), ne 8 (by decide)]; omega
  · have := h3 y
    unfold oy_gu
    split <;> omega
theorem sp_rs_ok {s : oy_Rs} {j : Nat} (hg : oy_gk s.2.1 s.2.2) (hw : oy_good 0 s.1) : oy_good 0 (sp_rs s j).1 ∧ oy_gk (sp_rs s j).2.1 (sp_rs s j).2.2 ∧ (sp_rs s j).1.length = s.1.length := by
  have hlen : ∀ x, (sp_set s.1 j x).length = s.1.length := fun x => oy_mk_len
  unfold sp_rs
  by_cases q : sp_rc s.1 j
  rotate_left
  · rw [if_neg q]
    exact ⟨hw, hg, rfl⟩
  rw [if_pos q]
  have hd : 1 ≤ sp_rd s.1 j ∧ sp_rd s.1 j ≤ 9 := by have := q.2; unfold sp_rd; omega
  by_cases z : s.2.1 (sp_rd s.1 j) = 0
  · rw [if_pos z]
    have h2 := oy_gk_up hg hd z
    have h3 := oy_gk_in h2
    exact ⟨sp_set_good hw (by omega), h2, hlen _⟩
  · rw [if_neg z]
    have h3 := oy_gk_in hg
    have h4 := hg.2.2 (sp_rd s.1 j)
    exact ⟨sp_set_good hw (by omega), hg, hlen _⟩
/-- the class: what numbering writes -/
def oy_lr (c k j i : Nat) : Prop := oy_le 0 c k j i ∨ c = 20
def oy_rnv (N : Nat) (T T' : oy_T) (σ τ : ox_H) : Prop := oy_fs oy_lr σ τ ∧ oy_L 0 T' τ ∧ ∃ d : Nat, d ≤ N ∧ τ 1 0 5 0 = σ 1 0 5 0 + (d : Int) ∧ (d = 0 → T' = T)
def oy_txr (c k j i : Nat) : Prop := oy_tx c k j i ∨ c = 20
section OYH7
variable {T : oy_T} {σ : ox_H}
theorem oy_rnv.cs {N : Nat} {T' : oy_T} {τ : ox_H} (h : oy_cs T σ) (e : oy_rnv N T T' σ τ) : oy_cs T' τ := by
  obtain ⟨f, L, d, hd, q, z⟩ := e
  obtain ⟨h1, h2, h3, h4⟩ := h
  have h5 : τ 2 0 10 0 = σ 2 0 10 0 := f 2 0 10 0 (by unfold oy_lr oy_le; omega)
  have e2 : ∀ c k j i, c ≠ 1 → c ≠ 20 → τ c k j i = σ c k j i := fun c k j i a b => f c k j i (by unfold oy_lr oy_le; omega)
  refine ⟨⟨⟨L, (f 1 0 1 0 (by unfold oy_lr oy_le; omega)).trans h1.1.2.1, (f 1 0 0 0 (by unfold oy_lr oy_le; omega)).trans h1.1.2.2.1, fun y => ?_⟩, oy_60_fs h1.2 f (fun j i => by unfold oy_lr oy_le; omega)⟩, by omega, by omega, by omega⟩
  have hd0 : d = 0 := by omega
  rw [z hd0]
  obtain ⟨o1, o2, o3, o4⟩ := h1.1.2.2.2 (by omega)
  refine ⟨(e2 _ _ _ _ (by decide) (by decide)).trans o1, fun e he => ?_, fun l hl => (e2 _ _ _ _ (by decide) (by decide)).trans (o3 l hl), fun l hl => ?_⟩
  · rw [e2 2 0 5 e (by decide) (by decide), e2 2 0 6 e (by decide) (by decide), e2 2 0 7 e (by decide) (by decide), e2 2 0 8 e (by decide) (by decide)]
    exact o2 e he
  · have r := o4 l hl
    unfold oy_rd oy_hd at r ⊢
    unfold oy_sm at r ⊢
    simp only [e2 4 _ _ _ (by decide) (by decide), e2 6 _ _ _ (by decide) (by decide)]
    exact r
/-- a line numbered: the class -/
theorem oc_rline (hv : 0 ≤ σ 1 0 5 0 ∧ σ 1 0 5 0 ≤ 1000000000) {T1 : oy_T} {l : Nat} (hT1 : oy_ok T1) (hl : l < T1.length) : ∀ (f j n N : Nat) (w : List Int) (g : Nat → Int) (c : Int) (τ : ox_H), j + f = w.length → 1 ≤ j ∨ w.length = 0 → f < n → N + f ≤ 5000 → oy_good 0 w → oy_gk g c → oy_rnv N T (sp_put T1 l w) σ τ → τ 1 0 1 0 = 24 → (∀ d, d < 10 → τ 20 0 0 d = g d) →
    ∃ τ', ox_lp (B_Out_renumber_49 (l : Int)) n (c, (j : Int), τ) = some (.inl ((sp_rl f j (w, g, c)).2.2, ((l + 1 : Nat) : Int), τ')) ∧ oy_rnv (N + f) T (sp_put T1 l (sp_rl f j (w, g, c)).1) σ τ' ∧ τ' 1 0 1 0 = 24 ∧ (∀ d, d < 10 → τ' 20 0 0 d = (sp_rl f j (w, g, c)).2.1 d) ∧ oy_good 0 (sp_rl f j (w, g, c)).1 ∧ oy_gk (sp_rl f j (w, g, c)).2.1 (sp_rl f j (w, g, c)).2.2
  | _, _, 0, _, _, _, _, _, _, _, h, _, _, _, _, _, _ => absurd h (Nat.not_lt_zero _)
  | 0, j, n + 1, N, w, g, c, τ, h1, h1b, h2, h3, h4, h5, h6, h7, h8 => by
    have h60 := hT1.1
    have h24 := h4.1
    have hwd : ox_wd 0 = 24 := rfl
    have hat : oy_ln (sp_put T1 l w) l = w := sp_put_at hl
    refine ⟨τ, oy_lp_m ?_, h6, h7, h8, h4, h5⟩
    have hsz := oc_size (oy_ok_L (oy_ok_put (l := l) hT1 h4)) h6.2.1 l
    rw [hat] at hsz
    unfold B_Out_renumber_49 J_Out_renumber_149
    dsimp only
    rw [hsz, Option.bind_some, if_pos (by omega), oy_w1 (by omega)]
    rfl
  | f + 1, j, n + 1, N, w, g, c, τ, h1, h1b, h2, h3, h4, h5, h6, h7, h8 => by
    have h60 := hT1.1
    have h24 : w.length ≤ 24 := h4.1
    have hj : 1 ≤ j := by omega
    have hT2 := oy_ok_put (l := l) hT1 h4
    have hat : oy_ln (sp_put T1 l w) l = w := sp_put_at hl
    have hsz := oc_size (oy_ok_L hT2) h6.2.1 l
    have hpl := fun x => oc_at (k := 0) (oy_ok_L hT2) h6.2.1 h7 l x
    rw [hat] at hsz hpl
    have hok := sp_rs_ok (s := (w, g, c)) (j := j) h5 h4
    have ewj : Nat → ox_w ((j : Int) + 1) = ((j + 1 : Nat) : Int) := fun _ => oy_w1 (by omega)
    have ewp : Nat → ox_w ((j : Int) - 1) = ((j - 1 : Nat) : Int) := fun _ => oy_wsb (b := 1) hj (by omega)
    have hwj := oy_good_wk h4 (i := j) (by omega)
    have ewd : Nat → ox_w (oy_wk w j - 48) = oy_wk w j - 48 := fun _ => oy_w (by omega) (by omega)
    have est : sp_rl (f + 1) j (w, g, c) = sp_rl f (j + 1) (sp_rs (w, g, c) j) := rfl
    rw [est]
    have hB0 : B_Out_renumber_49 (l : Int) (c, (j : Int), τ) = (if oy_wk w (j - 1) = 94 then (if oy_wk w j - 48 < 1 then some (.inl (c, ((j + 1 : Nat) : Int), τ)) else (if oy_wk w j - 48 ≤ 9 then (if 0 ≤ oy_wk w j - 48 ∧ (oy_wk w j - 48).toNat < 10 then (if τ 20 0 0 (oy_wk w j - 48).toNat = 0 then (if 0 ≤ oy_wk w j - 48 ∧ (oy_wk w j - 48).toNat < 10 then (J_Out_renumber_125 (ox_w (c + 1)) (l : Int) (j : Int) (oy_wk w j - 48) (ox_up τ 20 0 0 (oy_wk w j - 48).toNat (ox_w (c + 1)))) else none) else (J_Out_renumber_125 c (l : Int) (j : Int) (oy_wk w j - 48) τ)) else none) else some (.inl (c, ((j + 1 : Nat) : Int), τ)))) else some (.inl (c, ((j + 1 : Nat) : Int), τ))) := by
      unfold B_Out_renumber_49 J_Out_renumber_143
      dsimp only
      rw [hsz, Option.bind_some, if_neg (show ¬ ((w.length : Nat) : Int) ≤ (j : Int) by omega), hpl, Option.bind_some, (ewp 0), hpl, Option.bind_some]
      simp only [ewd 0, ewj 0]
    by_cases q : sp_rc w j
    rotate_left
    · have ers : sp_rs (w, g, c) j = (w, g, c) := by unfold sp_rs; rw [if_neg q]
      have hB : B_Out_renumber_49 (l : Int) (c, (j : Int), τ) = some (.inl (c, ((j + 1 : Nat) : Int), τ)) := by
        rw [hB0]
        by_cases c1 : oy_wk w (j - 1) = 94
        · rw [if_pos c1]
          by_cases c2 : oy_wk w j - 48 < 1
          · rw [if_pos c2]
          · rw [if_neg c2, if_neg (fun c3 => q ⟨c1, by omega, by omega⟩)]
        · rw [if_neg c1]
      rw [ers, oy_lp_l hB]
      obtain ⟨τ', y1, y2, y3⟩ := oc_rline hv hT1 hl f (j + 1) n N w g c τ (by omega) (Or.inl (by omega)) (by omega) (by omega) h4 h5 h6 h7 h8
      exact ⟨τ', y1, ⟨y2.1, y2.2.1, by obtain ⟨d, d1, d2⟩ := y2.2.2; exact ⟨d, by omega, d2⟩⟩, y3⟩
    have hd : 1 ≤ sp_rd w j ∧ sp_rd w j ≤ 9 := by have := q.2; unfold sp_rd; omega
    have erd : (oy_wk w j - 48).toNat = sp_rd w j := rfl
    have q1 := q.1
    have q2 := q.2
    rw [if_pos q1, if_neg (by omega), if_pos (by omega), if_pos (by omega), erd] at hB0
    have hg8 : τ 20 0 0 (sp_rd w j) = g (sp_rd w j) := h8 _ (by omega)
    /- the sign is set -/
    have setx : ∀ (x c' : Int) (g' : Nat → Int) (κ : ox_H), 49 ≤ x ∧ x ≤ 57 → κ 20 0 0 (sp_rd w j) = x - 48 → oy_fs oy_lr σ κ → oy_L 0 (sp_put T1 l w) κ → κ 1 0 1 0 = 24 → κ 1 0 5 0 = τ 1 0 5 0 → (∀ d, d < 10 → κ 20 0 0 d = g' d) → ∃ κ', J_Out_renumber_125 c' (l : Int) (j : Int) (oy_wk w j - 48) κ = some (.inl (c', ((j + 1 : Nat) : Int), κ')) ∧ oy_rnv (N + 1) T (sp_put T1 l (sp_set w j x)) σ κ' ∧ κ' 1 0 1 0 = 24 ∧ ∀ d, d < 10 → κ' 20 0 0 d = g' d := by
      intro x c' g' κ hx hk kf kL kw kv kg
      obtain ⟨κ', x1, x2⟩ := oc_set (k := 0) (l := l) (p := j) (x := x) (oy_ok_L hT2) kL kw (by rw [sp_put_len]; exact hl) (by rw [hat]; omega) (by omega)
      rw [hat, sp_put_put] at x2
      have x2L := x2.2.1
      refine ⟨κ', ?_, ⟨kf.tr (x2.1.mono (fun _ _ _ _ => Or.inl)), x2.2.1, ?_⟩, x2.w.1.trans kw, fun d hd => (x2.1 20 0 0 d (fun z => absurd z.1 (by decide))).trans (kg d hd)⟩
      · unfold J_Out_renumber_125 J_Out_renumber_143
        rw [erd, if_pos (by omega), hk]
        have e48 : ox_w (48 + (x - 48)) % 65536 = x := by rw [oy_w (by omega) (by omega)]; omega
        rw [e48, x1, Option.bind_some, (ewj 0)]
      · obtain ⟨-, -, d, d1, d2, d3⟩ := h6
        obtain ⟨-, -, d', d1', d2'⟩ := x2
        rcases d2' with ⟨z1, z2⟩ | ⟨z1, z2⟩
        · have LL := oy_L_inj kL (z2 ▸ x2L)
          exact ⟨d, by omega, by rw [z2, kv]; exact d2, fun y => LL.trans (d3 y)⟩
        · refine ⟨d + d', by omega, ?_, fun y => by omega⟩
          rw [z2, kv, d2, oy_w (by omega) (by omega)]
          omega
    have hgin := oy_gk_in h5
    by_cases z : g (sp_rd w j) = 0
    · have ers : sp_rs (w, g, c) j = (sp_set w j (48 + (c + 1)), oy_gu g (sp_rd w j) (c + 1), c + 1) := by
        unfold sp_rs
        rw [if_pos q, if_pos z]
      rw [ers] at hok ⊢
      have ewc : Nat → ox_w (c + 1) = c + 1 := fun _ => oy_w (by omega) (by omega)
      have hg2 := oy_gk_in hok.2.1
      obtain ⟨κ', y1, y2, y3, y4⟩ := setx (48 + (c + 1)) (c + 1) (oy_gu g (sp_rd w j) (c + 1)) (ox_up τ 20 0 0 (sp_rd w j) (c + 1)) (by have : c + 1 ≤ 9 := hg2.2; omega) (by rw [oy_up_same]; omega) (h6.1.up (Or.inr rfl)) (h6.2.1.fs (S := fun c _ _ _ => c = 20) (oy_fs.rf.up rfl) (fun k' j i => show ¬ (1 : Nat) = 20 by decide)) ((oy_up_ne (by decide)).trans h7) (oy_up_ne (by decide)) (fun d hd => by
        unfold oy_gu
        by_cases y : d = sp_rd w j
        · rw [if_pos y, y, oy_up_same]
        · rw [if_neg y, oy_up_ni y]
          exact h8 d hd)
      rw [if_pos (show τ 20 0 0 (sp_rd w j) = 0 by rw [hg8]; exact z), if_pos (by omega), (ewc 0), y1] at hB0
      rw [oy_lp_l hB0]
      obtain ⟨τ', u1, u2, u3⟩ := oc_rline hv hT1 hl f (j + 1) n (N + 1) (sp_set w j (48 + (c + 1))) (oy_gu g (sp_rd w j) (c + 1)) (c + 1) κ' (by have hl2 : (sp_set w j (48 + (c + 1))).length = w.length := oy_mk_len; omega) (Or.inl (by omega)) (by omega) (by omega) hok.1 hok.2.1 y2 y3 y4
      exact ⟨τ', u1, ⟨u2.1, u2.2.1, by obtain ⟨d, d1, d2⟩ := u2.2.2; exact ⟨d, by omega, d2⟩⟩, u3⟩
    · have ers : sp_rs (w, g, c) j = (sp_set w j (48 + g (sp_rd w j)), g, c) := by
        unfold sp_rs
        rw [if_pos q, if_neg z]
      rw [ers] at hok ⊢
      have hgd := h5.2.2 (sp_rd w j)
      obtain ⟨κ', y1, y2, y3, y4⟩ := setx (48 + g (sp_rd w j)) c g τ (by omega) (by rw [hg8]; omega) h6.1 h6.2.1 h7 rfl h8
      rw [if_neg (show ¬ τ 20 0 0 (sp_rd w j) = 0 by rw [hg8]; exact z), y1] at hB0
      rw [oy_lp_l hB0]
      obtain ⟨τ', u1, u2, u3⟩ := oc_rline hv hT1 hl f (j + 1) n (N + 1) (sp_set w j (48 + g (sp_rd w j))) g c κ' (by have hl2 : (sp_set w j (48 + g (sp_rd w j))).length = w.length := oy_mk_len; omega) (Or.inl (by omega)) (by omega) (by omega) hok.1 hok.2.1 y2 y3 y4
      exact ⟨τ', u1, ⟨u2.1, u2.2.1, by obtain ⟨d, d1, d2⟩ := u2.2.2; exact ⟨d, by omega, d2⟩⟩, u3⟩
theorem sp_rt_len : ∀ (f l : Nat) (s : oy_Rt), (sp_rt f l s).1.length = s.1.length
  | 0, _, _ => rfl
  | f + 1, l, s => by
    rw [sp_rt, sp_rt_len f (l + 1)]
    unfold sp_r1
    split
    · exact sp_put_len
    · rfl
theorem oc_renum (hT : oy_ok T) (h : oy_cs T σ) (hv : σ 1 0 5 0 ≤ 1000000000) : ∃ σ1, F_Out_renumber σ = some ((sp_rnum T).2.2, σ1) ∧ oy_fs oy_txr σ σ1 ∧ oy_cs (sp_rnum T).1 σ1 ∧ oy_ok (sp_rnum T).1 ∧ ∃ d : Nat, d ≤ 2000 ∧ σ1 1 0 5 0 = σ 1 0 5 0 + (d : Int) ∧ (d = 0 → (sp_rnum T).1 = T) := by
  have h60 := hT.1
  obtain ⟨σ1, e1, s1, q1⟩ := oy_cs_ask hT h
  have hv1 : 0 ≤ σ1 1 0 5 0 ∧ σ1 1 0 5 0 ≤ 1000000000 := by
    obtain ⟨-, hc, d, hd, hd2, -⟩ := s1
    exact ⟨hc.2.1, by omega⟩
  have f0 : oy_fs oy_lr σ1 (ox_nw σ1) := fun c k j i hS => by
    unfold ox_nw
    rw [if_neg (fun z => hS (Or.inr z))]
  have e20 : ∀ d, (ox_nw σ1) 20 0 0 d = 0 := fun d => rfl
  have enw : ∀ c k j i, c ≠ 20 → (ox_nw σ1) c k j i = σ1 c k j i := fun c k j i hc => if_neg hc
  have hloop : ∀ (f l n N : Nat) (s : oy_Rt) (τ : ox_H), l + f = T.length → f < n → N + 24 * f ≤ 2000 → s.1.length = T.length → (∀ x, l ≤ x → oy_ln s.1 x = oy_ln T x) → oy_ok s.1 → oy_gk s.2.1 s.2.2 → oy_rnv N T s.1 σ1 τ → τ 1 0 1 0 = 24 → (∀ d, d < 10 → τ 20 0 0 d = s.2.1 d) → ∃ τ', ox_lp B_Out_renumber_16 n (s.2.2, (l : Int), τ) = some ((sp_rt f l s).2.2, τ') ∧ oy_rnv 2000 T (sp_rt f l s).1 σ1 τ' ∧ oy_ok (sp_rt f l s).1 := by
    intro f
    induction f with
    | zero =>
      intro l n N s τ h1 h2 h3 h4 h5 h6 h7 h8 h9 h10
      obtain ⟨n, rfl⟩ : ∃ j, n = j + 1 := ⟨n - 1, by omega⟩
      refine ⟨τ, oy_lp_m ?_, ⟨h8.1, h8.2.1, by obtain ⟨d, d1, d2⟩ := h8.2.2; exact ⟨d, by omega, d2⟩⟩, h6⟩
      unfold B_Out_renumber_16 J_Out_renumber_155
      dsimp only
      rw [if_pos (show τ 1 0 4 0 ≤ (l : Int) by rw [h8.2.1.1, h4]; omega)]
      rfl
    | succ f ih =>
      intro l n N s τ h1 h2 h3 h4 h5 h6 h7 h8 h9 h10
      obtain ⟨n, rfl⟩ : ∃ j, n = j + 1 := ⟨n - 1, by omega⟩
      have hl : l < T.length := by omega
      have h4c : τ 1 0 4 0 = (T.length : Int) := by rw [h8.2.1.1, h4]
      have hrd : τ 4 l 0 0 = sp_kind (oy_ln T l) := by
        rw [h8.1 4 l 0 0 (by unfold oy_lr oy_le; omega)]
        exact (q1.1.2.2.2 l hl).1
      have ewl : Nat → ox_w ((l : Int) + 1) = ((l + 1 : Nat) : Int) := fun _ => oy_w1 (by omega)
      have hB0 : B_Out_renumber_16 (s.2.2, (l : Int), τ) = (if τ 4 l 0 0 = 7 then (J_Out_renumber_49 s.2.2 (l : Int) 1 τ) else some (.inl (s.2.2, ((l + 1 : Nat) : Int), τ))) := by
        unfold B_Out_renumber_16 J_Out_renumber_149
        dsimp only
        rw [if_neg (show ¬ τ 1 0 4 0 ≤ (l : Int) by rw [h4c]; omega), oc_rdl hT h4c hl, Option.bind_some, (ewl 0)]
      have est : sp_rt (f + 1) l s = sp_rt f (l + 1) (sp_r1 s l) := rfl
      have eln := h5 l (Nat.le_refl _)
      rw [est]
      by_cases hk : sp_kind (oy_ln T l) = 7
      rotate_left
      · have er : sp_r1 s l = s := by unfold sp_r1; rw [eln, if_neg hk]
        rw [if_neg (show ¬ τ 4 l 0 0 = 7 by rw [hrd]; exact hk)] at hB0
        rw [er, oy_lp_l hB0]
        exact ih (l + 1) n N s τ (by omega) (by omega) (by omega) h4 (fun x hx => h5 x (by omega)) h6 h7 h8 h9 h10
      · have h24 := oy_len24 hT l
        have hw : oy_good 0 (oy_ln T l) := oy_24_ok hT l
        have hput : sp_put s.1 l (oy_ln T l) = s.1 := by rw [← eln, sp_put_self]
        have hline : ∃ τ', J_Out_renumber_49 s.2.2 (l : Int) 1 τ = some (.inl ((sp_rl ((oy_ln T l).length - 1) 1 (oy_ln T l, s.2.1, s.2.2)).2.2, ((l + 1 : Nat) : Int), τ')) ∧ oy_rnv (N + 24) T (sp_put s.1 l (sp_rl ((oy_ln T l).length - 1) 1 (oy_ln T l, s.2.1, s.2.2)).1) σ1 τ' ∧ τ' 1 0 1 0 = 24 ∧ (∀ d, d < 10 → τ' 20 0 0 d = (sp_rl ((oy_ln T l).length - 1) 1 (oy_ln T l, s.2.1, s.2.2)).2.1 d) ∧ oy_good 0 (sp_rl ((oy_ln T l).length - 1) 1 (oy_ln T l, s.2.1, s.2.2)).1 ∧ oy_gk (sp_rl ((oy_ln T l).length - 1) 1 (oy_ln T l, s.2.1, s.2.2)).2.1 (sp_rl ((oy_ln T l).length - 1) 1 (oy_ln T l, s.2.1, s.2.2)).2.2 := by
          unfold J_Out_renumber_49
          by_cases hz : (oy_ln T l).length = 0
          · have e0 : (oy_ln T l).length - 1 = 0 := by omega
            rw [e0]
            have hsz := oc_size (oy_ok_L h6) h8.2.1 l
            rw [eln] at hsz
            refine ⟨τ, oy_lp_m (n := 99999) ?_, ?_, h9, h10, hw, h7⟩
            · unfold B_Out_renumber_49 J_Out_renumber_149
              dsimp only
              rw [hsz, Option.bind_some, if_pos (by omega), (ewl 0)]
              rfl
            · show oy_rnv (N + 24) T (sp_put s.1 l (oy_ln T l)) σ1 τ
              rw [hput]
              exact ⟨h8.1, h8.2.1, by obtain ⟨d, d1, d2⟩ := h8.2.2; exact ⟨d, by omega, d2⟩⟩
          · obtain ⟨τ', y1, y2, y3⟩ := oc_rline (T := T) (l := l) hv1 h6 (by rw [h4]; exact hl) ((oy_ln T l).length - 1) 1 ox_fu N (oy_ln T l) s.2.1 s.2.2 τ (by omega) (Or.inl (Nat.le_refl _)) (by show _ < 100000; omega) (by omega) hw h7 (by rw [hput]; exact h8) h9 h10
            exact ⟨τ', y1, ⟨y2.1, y2.2.1, by obtain ⟨d, d1, d2⟩ := y2.2.2; exact ⟨d, by omega, d2⟩⟩, y3⟩
        obtain ⟨τ', y1, y2, y3, y4, y5, y6⟩ := hline
        have er : sp_r1 s l = (sp_put s.1 l (sp_rl ((oy_ln T l).length - 1) 1 (oy_ln T l, s.2.1, s.2.2)).1, (sp_rl ((oy_ln T l).length - 1) 1 (oy_ln T l, s.2.1, s.2.2)).2.1, (sp_rl ((oy_ln T l).length - 1) 1 (oy_ln T l, s.2.1, s.2.2)).2.2) := by
          unfold sp_r1
          rw [eln, if_pos hk]
        rw [if_pos (show τ 4 l 0 0 = 7 by rw [hrd]; exact hk), y1] at hB0
        rw [oy_lp_l hB0, er]
        clear hB0 er y1 hput
        generalize sp_rl ((oy_ln T l).length - 1) 1 (oy_ln T l, s.2.1, s.2.2) = r at y2 y4 y5 y6 ⊢
        have hs1 : (sp_put s.1 l r.1).length = T.length := by rw [sp_put_len, h4]
        have hs2 : ∀ x, l + 1 ≤ x → oy_ln (sp_put s.1 l r.1) x = oy_ln T x := fun x hx => by
          by_cases z : x < s.1.length
          · rw [sp_put_ln z, if_neg (by omega)]
            exact h5 x (by omega)
          · rw [oy_ln_ge (by rw [sp_put_len]; omega), oy_ln_ge (by omega)]
        exact ih (l + 1) n (N + 24) (sp_put s.1 l r.1, r.2.1, r.2.2) τ' (by omega) (by omega) (by omega) hs1 hs2 (oy_ok_put h6 y5) y6 y2 y3 y4
  have gk0 : oy_gk (fun _ => 0) 0 := ⟨Int.le_refl _, by decide, fun d => ⟨Int.le_refl _, Int.le_refl _⟩⟩
  obtain ⟨τ', y1, y2, y3⟩ := hloop T.length 0 ox_fu 0 (T, (fun _ => 0), 0) (ox_nw σ1) (by omega) (by show _ < 100000; omega) (by omega) rfl (fun x _ => rfl) hT gk0 ⟨f0, ⟨(enw 1 0 4 0 (by decide)).trans q1.2.1.1, fun l hl => (enw 1 0 3 l (by decide)).trans (q1.2.1.2.1 l hl), fun l p hl hp => (enw 1 0 2 _ (by decide)).trans (q1.2.1.2.2 l p hl hp)⟩, 0, Nat.le_refl _, by rw [enw 1 0 5 0 (by decide)]; exact (Int.add_zero _).symm, fun _ => rfl⟩ (by rw [enw 1 0 1 0 (by decide)]; exact q1.2.2.1) (fun d _ => rfl)
  have eT : sp_rt T.length 0 (T, (fun _ => 0), 0) = sp_rnum T := rfl
  rw [eT] at y1 y2 y3
  unfold F_Out_renumber J_Out_renumber_16
  rw [e1, Option.bind_some]
  refine ⟨τ', y1, (s1.1.mono (fun _ _ _ _ => Or.inl)).tr (y2.1.mono (fun c k j i hh => ?_)), y2.cs s1.2.1, y3, ?_⟩
  · rcases hh with hh | hh
    · exact Or.inl (Or.inl hh)
    · exact Or.inr hh
  · obtain ⟨-, -, d, x3, x4, x5⟩ := s1
    obtain ⟨-, -, d', z3, z4, z5⟩ := y2
    exact ⟨d', by omega, by omega, fun y => z5 y⟩
end OYH7
