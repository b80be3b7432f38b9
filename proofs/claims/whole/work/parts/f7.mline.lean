/-! ===== lines of the reference: stars, states, numbers ===== -/
/-- stars more, or less -/
def sp_sb (b : Int) (w : List Int) : List Int := oy_mk ((w.length : Int) + b).toNat (fun i => if (i : Int) < b then 42 else oy_wk w ((i : Int) - b).toNat)
theorem sp_sb_good {k : Nat} {w : List Int} {b : Int} (h : oy_good k w) (hb : (w.length : Int) + b ≤ ox_wd k) : oy_good k (sp_sb b w) := oy_good_mk (by omega) (fun i hi => by
  split
  · exact ⟨by decide, by decide⟩
  · exact oy_good_wk h (by omega))
/-- a heading's state written anew: from a place, so many signs given up -/
def sp_ws (w : List Int) (s : Int) (p old : Nat) : List Int := oy_mk (w.length - old + (if s < 0 then 0 else 5)) (fun i => if i < p then oy_wk w i else if 0 ≤ s ∧ i < p + 5 then ox_sa s.toNat (i - p) else oy_wk w (i - (if s < 0 then 0 else 5) + old))
def sp_old (w : List Int) : Nat := if sp_state w (sp_stars w + 1) < 0 then 0 else 5
theorem sp_old_in {w : List Int} (hH : sp_isH w) : sp_stars w + 1 + sp_old w ≤ w.length := by
  have h1 := hH.2.2
  have h2 : sp_stars w < w.length := oy_wk_lt (by rw [h1]; decide)
  unfold sp_old
  rcases sp_state_cs w (sp_stars w + 1) with h | ⟨h, -, h3⟩
  · rw [h, if_pos (by decide)]
    omega
  · rw [if_neg (by omega)]
    exact h3
theorem oy_sa_in : ∀ s, s < 4 → ∀ i, i < 5 → 32 ≤ ox_sa s i ∧ ox_sa s i ≤ 126 := by decide
theorem sp_ws_good {k : Nat} {w : List Int} {s : Int} {p old : Nat} (h : oy_good k w) (hs : s ≤ 3) (hp : p + old ≤ w.length) (hl : w.length - old + (if s < 0 then 0 else 5) ≤ ox_wd k) : oy_good k (sp_ws w s p old) := oy_good_mk hl (fun i hi => by
  by_cases q : i < p
  · rw [if_pos q]
    exact oy_good_wk h (by omega)
  rw [if_neg q]
  by_cases z : 0 ≤ s ∧ i < p + 5
  · rw [if_pos z]
    exact oy_sa_in _ (by omega) _ (by omega)
  · rw [if_neg z]
    refine oy_good_wk h ?_
    by_cases y : s < 0
    · rw [if_pos y] at hi ⊢
      omega
    · rw [if_neg y] at hi ⊢
      omega)
/-- digits of a number, all that a unit gives; from the first that counts on -/
def sp_dgt (v : Int) (f : Nat) : Int := ox_w (48 + Int.tmod (ox_w (Int.tdiv v (10 ^ f))) 10)
def sp_da (v : Int) : Nat → List Int
  | 0 => []
  | f + 1 => sp_dgt v f :: sp_da v f
def sp_dr (v : Int) : Nat → List Int
  | 0 => []
  | f + 1 => if 10 ^ f ≤ v ∨ f = 0 then sp_dgt v f :: sp_dr v f else sp_dr v f
theorem oy_p10m (f : Nat) : (10 : Int) ^ f ≤ 10 ^ (f + 1) := by
  have := oy_p10 f
  rw [Int.pow_succ]
  omega
theorem sp_dr_all {v : Int} : ∀ f, 10 ^ f ≤ v ∨ f = 0 → sp_dr v (f + 1) = sp_da v (f + 1)
  | 0, h => by
    rw [sp_dr, if_pos h]
    rfl
  | f + 1, h => by
    have h1 : (10 : Int) ^ f ≤ v := by
      have := oy_p10m f
      omega
    rw [sp_dr, if_pos h, sp_dr_all f (Or.inl h1)]
    rfl
theorem sp_dgt_in {v : Int} (hv : 0 ≤ v ∧ v ≤ 999999999) (f : Nat) : 48 ≤ sp_dgt v f ∧ sp_dgt v f ≤ 57 := by
  have hp := oy_p10 f
  have h1 : 0 ≤ Int.tdiv v (10 ^ f) := Int.tdiv_nonneg hv.1 (by omega)
  have h2 : Int.tdiv v (10 ^ f) ≤ v := Int.tdiv_le_self _ hv.1
  unfold sp_dgt
  rw [oy_w (x := Int.tdiv v (10 ^ f)) (by omega) (by omega)]
  have h3 := oy_tm (x := Int.tdiv v (10 ^ f)) (y := 10) h1 (by decide)
  rw [oy_w (by omega) (by omega)]
  omega
theorem sp_da_len {v : Int} : ∀ f, (sp_da v f).length = f
  | 0 => rfl
  | f + 1 => by rw [sp_da, List.length_cons, sp_da_len f]
theorem sp_dr_le {v : Int} : ∀ f, (sp_dr v f).length ≤ f
  | 0 => Nat.le_refl _
  | f + 1 => by
    have := sp_dr_le (v := v) f
    rw [sp_dr]
    split
    · rw [List.length_cons]; omega
    · omega
theorem oy_p10d (f : Nat) : Int.tdiv (10 ^ (f + 1)) 10 = 10 ^ f := by
  rw [Int.pow_succ]
  exact Int.mul_tdiv_cancel _ (by decide)
/-- a number's digits -/
def sp_dgs (v : Int) : List Int := sp_dr v 6
theorem sp_dr_lt {v : Int} : ∀ g f, v < 10 ^ (f + 1) → sp_dr v (f + 1 + g) = sp_dr v (f + 1)
  | 0, _, _ => rfl
  | g + 1, f, h => by
    have h1 : ∀ g, v < (10 : Int) ^ (f + 1 + g) := fun g => by
      induction g with
      | zero => exact h
      | succ g ih =>
        have := oy_p10m (f + 1 + g)
        exact Int.lt_of_lt_of_le ih this
    have e : f + 1 + (g + 1) = (f + 1 + g) + 1 := by omega
    rw [e, sp_dr, if_neg (by have := h1 g; omega), sp_dr_lt g f h]
theorem oy_app_put {T : oy_T} {l : Nat} {w : List Int} {x : Int} (hl : l < T.length) : sp_put (sp_put T l w) l (oy_ln (sp_put T l w) l ++ [x]) = sp_put T l (w ++ [x]) := by
  refine oy_extT (by rw [sp_put_len, sp_put_len, sp_put_len]) (fun y hy => ?_)
  rw [sp_put_len, sp_put_len] at hy
  rw [sp_put_ln (T := sp_put T l w) (by rw [sp_put_len]; exact hy), sp_put_ln (w := w ++ [x]) hy]
  by_cases q : y = l
  · rw [if_pos q, if_pos q, sp_put_ln hl, if_pos rfl]
  · rw [if_neg q, if_neg q, sp_put_ln hy, if_neg q]
theorem sp_put_put {T : oy_T} {l : Nat} {w w' : List Int} : sp_put (sp_put T l w) l w' = sp_put T l w' := by
  refine oy_extT (by rw [sp_put_len, sp_put_len, sp_put_len]) (fun y hy => ?_)
  rw [sp_put_len, sp_put_len] at hy
  rw [sp_put_ln (T := sp_put T l w) (by rw [sp_put_len]; exact hy), sp_put_ln (T := T) (w := w') hy]
  by_cases q : y = l
  · rw [if_pos q, if_pos q]
  · rw [if_neg q, if_neg q, sp_put_ln hy, if_neg q]
theorem sp_put_self {T : oy_T} {l : Nat} : sp_put T l (oy_ln T l) = T := by
  refine oy_extT sp_put_len (fun y hy => ?_)
  rw [sp_put_len] at hy
  rw [sp_put_ln hy]
  by_cases q : y = l
  · rw [if_pos q, q]
  · rw [if_neg q]
theorem sp_put_at {T : oy_T} {l : Nat} {w : List Int} (hl : l < T.length) : oy_ln (sp_put T l w) l = w := by rw [sp_put_ln hl, if_pos rfl]
theorem oy_ok_put {T : oy_T} {l : Nat} {w : List Int} (hT : oy_ok T) (hw : oy_good 0 w) : oy_ok (sp_put T l w) := sp_put_ok (k := 0) hT hw
/-- the unit behind a unit -/
def oy_u : Nat → Int
  | 0 => 0
  | f + 1 => 10 ^ f
theorem oy_p10le {f g : Nat} (h : f ≤ g) : (10 : Int) ^ f ≤ 10 ^ g := by
  have : ∀ d g, (10 : Int) ^ g ≤ 10 ^ (g + d) := by
    intro d
    induction d with
    | zero => intro g; exact Int.le_refl _
    | succ d ih => intro g; exact Int.le_trans (ih g) (oy_p10m (g + d))
  have h2 := this (g - f) f
  rwa [show f + (g - f) = g by omega] at h2
theorem oy_u_d {f : Nat} (h : f ≤ 7) : ox_w (Int.tdiv (10 ^ f) 10) = oy_u f := by
  cases f with
  | zero => decide
  | succ g =>
    have h1 := oy_p10 g
    have h2 := oy_p10le (f := g) (g := 7) (by omega)
    have h3 : (10 : Int) ^ 7 = 10000000 := by decide
    rw [oy_p10d]
    exact oy_w (by omega) (by omega)
/-- what a line's change writes -/
def oy_mx1 (c j : Nat) : Bool := c == 10 && decide (j ≤ 1)
section OYF7
variable {T : oy_T} {σ : ox_H}
theorem om_stl {l b : Nat} (hl : l < 60) (hb : b ≤ 24) : ∀ (f x n : Nat) (τ : ox_H), x + f = b → f < n → ∃ τ', ox_lp (B_Mod_star_9 (l : Int) (b : Int)) n ((x : Int), τ) = some τ' ∧ ∀ c k j i, τ' c k j i = if c = 10 ∧ k = 0 ∧ j = 0 ∧ 24 * l + x ≤ i ∧ i < 24 * l + b then 42 else τ c k j i
  | _, _, 0, _, _, h => absurd h (Nat.not_lt_zero _)
  | 0, x, n + 1, τ, h1, h2 => by
    refine ⟨τ, oy_lp_m ?_, fun c k j i => by rw [if_neg (by omega)]⟩
    unfold B_Mod_star_9 J_Mod_star_33
    dsimp only
    rw [if_pos (by omega)]
  | f + 1, x, n + 1, τ, h1, h2 => by
    have e1 : Nat → ox_w (ox_w (24 * (l : Int)) + (x : Int)) = ((24 * l + x : Nat) : Int) := fun _ => by rw [oy_w24 (by omega), oy_wn (by omega)]
    have hB : B_Mod_star_9 (l : Int) (b : Int) ((x : Int), τ) = some (.inl (((x + 1 : Nat) : Int), ox_up τ 10 0 0 (24 * l + x) 42)) := by
      unfold B_Mod_star_9
      dsimp only
      rw [if_neg (by omega), (e1 0), Int.toNat_natCast, if_pos (by omega), oy_w1 (by omega)]
    obtain ⟨τ', e', g'⟩ := om_stl hl hb f (x + 1) n (ox_up τ 10 0 0 (24 * l + x) 42) (by omega) (by omega)
    refine ⟨τ', (oy_lp_l hB).trans e', fun c k j i => ?_⟩
    rw [g']
    by_cases q : c = 10 ∧ k = 0 ∧ j = 0 ∧ 24 * l + (x + 1) ≤ i ∧ i < 24 * l + b
    · rw [if_pos q, if_pos (by omega)]
    · rw [if_neg q]
      by_cases z : c = 10 ∧ k = 0 ∧ j = 0 ∧ i = 24 * l + x
      · obtain ⟨rfl, rfl, rfl, rfl⟩ := z
        rw [oy_up_same, if_pos (by omega)]
      · rw [if_neg (by omega)]
        unfold ox_up
        rw [if_neg (by omega)]
theorem om_star (hT : oy_ok T) (hM : oy_M T σ) {l : Nat} (hl : l < T.length) {b : Int} (h0 : 0 ≤ ((oy_ln T l).length : Int) + b) (h24 : ((oy_ln T l).length : Int) + b ≤ 24) : ∃ σ', F_Mod_star (l : Int) b σ = some σ' ∧ oy_fr oy_mx1 σ σ' ∧ oy_M (sp_put T l (sp_sb b (oy_ln T l))) σ' := by
  have h60 := hT.1
  have hw := oy_len24 hT l
  have hs := hM.2.1 l hl
  have hp := fun p => hM.2.2 l p hl
  have hlen : (sp_sb b (oy_ln T l)).length = (((oy_ln T l).length : Int) + b).toNat := oy_mk_len
  have hwk : ∀ p, p < (sp_sb b (oy_ln T l)).length → oy_wk (sp_sb b (oy_ln T l)) p = if (p : Int) < b then 42 else oy_wk (oy_ln T l) ((p : Int) - b).toNat := fun p hp => by
    rw [hlen] at hp
    unfold sp_sb
    rw [oy_wk_mk, if_pos hp]
  generalize oy_ln T l = w at *
  generalize sp_sb b w = w' at *
  unfold F_Mod_star J_Mod_star_9
  by_cases hb : 1 ≤ b
  · obtain ⟨n, rfl⟩ : ∃ n : Nat, b = n := ⟨b.toNat, by omega⟩
    have hst : F_Mod_stretch (l : Int) 0 (n : Int) σ = _ := om_strU (p := 0) (by omega) hs (by omega) (by omega) (Nat.zero_le _)
    obtain ⟨τ', e', g'⟩ := om_stl (l := l) (b := n) (by omega) (by omega) n 0 ox_fu (ox_up (ox_cp σ 10 0 0 (24 * l + 0) 10 0 0 (24 * l + 0 + n) (w.length - 0)) 10 0 1 l ((w.length + n : Nat) : Int)) (by omega) (by show n < 100000; omega)
    rw [hst, Option.bind_some]
    refine ⟨τ', e', fun c k j i h => ?_, om_putM hT hM ?_ (fun i hi => ?_) ?_ (fun i hi => ?_) (fun p hp2 => ?_)⟩
    · rw [g', if_neg (fun q => by rw [q.1, q.2.2.1] at h; cases h), oy_up_ne (fun q => by rw [q.1, q.2] at h; cases h), oy_cp_ne (fun q => by rw [q.1, q.2] at h; cases h)]
    · rw [g', if_neg (fun q => absurd q.2.2.1 (by decide)), oy_up_ne (by decide), oy_cp_ne (by decide)]
    · rw [g', if_neg (fun q => absurd q.2.2.1 (by decide)), oy_up_ni hi, oy_cp_ne (by decide)]
    · rw [g', if_neg (fun q => absurd q.2.2.1 (by decide)), oy_up_same, hlen]
      omega
    · rw [g', if_neg (by omega), oy_up_ne (by decide), oy_cp_in, if_neg (by omega)]
    · rw [hwk p hp2, g']
      by_cases q : p < n
      · rw [if_pos (by omega), if_pos (by omega)]
      · have e : 24 * l + 0 + (24 * l + p - (24 * l + 0 + n)) = 24 * l + (p - n) := by omega
        have e2 : ((p : Int) - (n : Int)).toNat = p - n := by omega
        rw [if_neg (by omega), if_neg (by omega), oy_up_ne (by decide), oy_cp_in, if_pos (by omega), e, e2]
        exact hp _ (by omega)
  · obtain ⟨n, rfl⟩ : ∃ n : Nat, b = -(n : Int) := ⟨(-b).toNat, by omega⟩
    have hst : F_Mod_stretch (l : Int) 0 (-(n : Int)) σ = _ := om_strD (p := 0) (b := n) (by omega) hs (by omega) (by omega)
    rw [hst, Option.bind_some]
    have e' : ox_lp (B_Mod_star_9 (l : Int) (-(n : Int))) ox_fu ((0 : Int), ox_up (ox_cp σ 10 0 0 (24 * l + 0 + n) 10 0 0 (24 * l + 0) (w.length - n - 0)) 10 0 1 l ((w.length - n : Nat) : Int)) = some (ox_up (ox_cp σ 10 0 0 (24 * l + 0 + n) 10 0 0 (24 * l + 0) (w.length - n - 0)) 10 0 1 l ((w.length - n : Nat) : Int)) := by
      refine oy_lp_m (n := 99999) ?_
      unfold B_Mod_star_9 J_Mod_star_33
      dsimp only
      rw [if_pos (by omega)]
    refine ⟨_, e', fun c k j i h => ?_, om_putM hT hM ?_ (fun i hi => ?_) ?_ (fun i hi => ?_) (fun p hp2 => ?_)⟩
    · rw [oy_up_ne (fun q => by rw [q.1, q.2] at h; cases h), oy_cp_ne (fun q => by rw [q.1, q.2] at h; cases h)]
    · rw [oy_up_ne (by decide), oy_cp_ne (by decide)]
    · rw [oy_up_ni hi, oy_cp_ne (by decide)]
    · rw [oy_up_same, hlen]
      omega
    · rw [oy_up_ne (by decide), oy_cp_in, if_neg (by omega)]
    · have e : 24 * l + 0 + n + (24 * l + p - (24 * l + 0)) = 24 * l + (p + n) := by omega
      have e2 : ((p : Int) - -(n : Int)).toNat = p + n := by omega
      rw [hwk p hp2, if_neg (by omega), oy_up_ne (by decide), oy_cp_in, if_pos (by omega), e, e2]
      exact hp _ (by omega)
theorem om_two {l q : Nat} {x y : Int} (hl : l < 60) (hq : q + 1 < 24) : F_Mod_two (l : Int) (q : Int) x y σ = some (ox_up (ox_up σ 10 0 0 (24 * l + q) x) 10 0 0 (24 * l + q + 1) y) := by
  have e1 : Nat → ox_w (ox_w (24 * (l : Int)) + (q : Int)) = ((24 * l + q : Nat) : Int) := fun _ => by rw [oy_w24 (by omega), oy_wn (by omega)]
  unfold F_Mod_two
  rw [(e1 0), oy_w1 (by omega), Int.toNat_natCast, Int.toNat_natCast, if_pos (by omega), if_pos (by omega)]
theorem om_word5 {l p : Nat} {s : Nat} (hl : l < 60) (hp : p + 5 ≤ 24) (hs : s < 4) (d : Int) (σ r : ox_H) (hst : F_Mod_stretch (l : Int) (p : Int) (ox_w (5 - d)) σ = some r) : J_Mod_write_37 (l : Int) (s : Int) (p : Int) d 5 (p : Int) (l : Int) σ = some (ox_up (ox_up (ox_up (ox_up (ox_up r 10 0 0 (24 * l + p) (ox_sa s 0)) 10 0 0 (24 * l + p + 1) (ox_sa s 1)) 10 0 0 (24 * l + (p + 2)) (ox_sa s 2)) 10 0 0 (24 * l + (p + 2) + 1) (ox_sa s 3)) 10 0 0 (24 * l + p + 4) (ox_sa s 4)) := by
  have e1 : Nat → ox_w (ox_w (24 * (l : Int)) + (p : Int)) = ((24 * l + p : Nat) : Int) := fun _ => by rw [oy_w24 (by omega), oy_wn (by omega)]
  have e2 : Nat → ox_w ((p : Int) + 2) = ((p + 2 : Nat) : Int) := fun _ => oy_wn (a := p) (b := 2) (by omega)
  have e4 : Nat → ox_w (((24 * l + p : Nat) : Int) + 4) = ((24 * l + p + 4 : Nat) : Int) := fun _ => oy_wn (a := 24 * l + p) (b := 4) (by omega)
  unfold J_Mod_write_37
  rw [hst, Option.bind_some, if_neg (by omega)]
  have hc : s = 0 ∨ s = 1 ∨ s = 2 ∨ s = 3 := by omega
  unfold J_Mod_write_69 J_Mod_write_100 J_Mod_write_139 J_Mod_write_170 J_Mod_write_188
  rcases hc with rfl | rfl | rfl | rfl
  · rw [if_pos (show ((0 : Nat) : Int) = 0 from rfl), if_pos (show ((0 : Nat) : Int) = 0 from rfl), om_two hl (by omega), Option.bind_some, if_pos (show ((0 : Nat) : Int) = 0 from rfl), if_pos (show ((0 : Nat) : Int) = 0 from rfl), (e2 0), om_two hl (by omega), Option.bind_some, (e1 0), (e4 0), Int.toNat_natCast, if_pos (by omega)]
    rfl
  · rw [if_neg (by decide), if_pos (show ((1 : Nat) : Int) = 1 from rfl), if_neg (by decide), if_pos (show ((1 : Nat) : Int) = 1 from rfl), om_two hl (by omega), Option.bind_some, if_neg (by decide), if_pos (show ((1 : Nat) : Int) = 1 from rfl), if_neg (by decide), if_pos (show ((1 : Nat) : Int) = 1 from rfl), (e2 0), om_two hl (by omega), Option.bind_some, (e1 0), (e4 0), Int.toNat_natCast, if_pos (by omega)]
    rfl
  · rw [if_neg (by decide), if_neg (by decide), if_neg (by decide), if_neg (by decide), if_pos (show ((2 : Nat) : Int) = 2 from rfl), om_two hl (by omega), Option.bind_some, if_neg (by decide), if_neg (by decide), if_pos (show ((2 : Nat) : Int) = 2 from rfl), if_neg (by decide), if_neg (by decide), if_pos (show ((2 : Nat) : Int) = 2 from rfl), (e2 0), om_two hl (by omega), Option.bind_some, (e1 0), (e4 0), Int.toNat_natCast, if_pos (by omega)]
    rfl
  · rw [if_neg (by decide), if_neg (by decide), if_neg (by decide), if_neg (by decide), if_neg (by decide), om_two hl (by omega), Option.bind_some, if_neg (by decide), if_neg (by decide), if_neg (by decide), if_neg (by decide), if_neg (by decide), if_neg (by decide), (e2 0), om_two hl (by omega), Option.bind_some, (e1 0), (e4 0), Int.toNat_natCast, if_pos (by omega)]
    rfl
theorem om_add1 (hT : oy_ok T) (hM : oy_M T σ) {l : Nat} (hl : l < T.length) (hr : (oy_ln T l).length < 24) (x : Int) : ∃ σ', F_Mod_add1 (l : Int) x σ = some σ' ∧ oy_fr oy_mx1 σ σ' ∧ oy_M (sp_put T l (oy_ln T l ++ [x])) σ' := by
  have h60 := hT.1
  have e1 : Nat → ox_w (ox_w (24 * (l : Int)) + ((oy_ln T l).length : Int)) = ((24 * l + (oy_ln T l).length : Nat) : Int) := fun _ => by rw [oy_w24 (by omega), oy_wn (by omega)]
  unfold F_Mod_add1
  rw [if_pos (by omega), Int.toNat_natCast, hM.2.1 l hl, (e1 0), Int.toNat_natCast, if_pos (by omega), if_pos (by omega), if_pos (by omega), oy_w1 (by omega)]
  exact ⟨_, rfl, (oy_fr.rf.up rfl).up rfl, om_addSign hT hM hl hr x⟩
theorem om_addl {l : Nat} {v : Int} (hv : 0 ≤ v ∧ v ≤ 9999) : ∀ (f n : Nat) (T : oy_T) (σ : ox_H), oy_ok T → oy_M T σ → l < T.length → (oy_ln T l).length + f ≤ 24 → f ≤ 6 → f < n → ∃ σ', ox_lp (B_Mod_add_37 (l : Int) v) n (oy_u f, σ) = some σ' ∧ oy_fr oy_mx1 σ σ' ∧ oy_M (sp_put T l (oy_ln T l ++ sp_da v f)) σ'
  | _, 0, _, _, _, _, _, _, _, h => absurd h (Nat.not_lt_zero _)
  | 0, n + 1, T, σ, hT, hM, hl, h1, h2, h3 => by
    refine ⟨σ, oy_lp_m ?_, oy_fr.rf, ?_⟩
    · unfold B_Mod_add_37 J_Mod_add_84
      dsimp only
      rw [if_pos (show oy_u 0 ≤ 0 from Int.le_refl _)]
    · rw [sp_da, List.append_nil, sp_put_self]
      exact hM
  | f + 1, n + 1, T, σ, hT, hM, hl, h1, h2, h3 => by
    have h60 := hT.1
    have hp := oy_p10 f
    have hd := sp_dgt_in (v := v) (by omega) f
    have e1 : Nat → ox_w (ox_w (24 * (l : Int)) + ((oy_ln T l).length : Int)) = ((24 * l + (oy_ln T l).length : Nat) : Int) := fun _ => by rw [oy_w24 (by omega), oy_wn (by omega)]
    have hd10 : Nat → ox_w (Int.tdiv (10 ^ f) 10) = oy_u f := fun _ => oy_u_d (by omega)
    have hB : B_Mod_add_37 (l : Int) v (10 ^ f, σ) = some (.inl (oy_u f, ox_up (ox_up σ 10 0 0 (24 * l + (oy_ln T l).length) (sp_dgt v f)) 10 0 1 l (((oy_ln T l).length + 1 : Nat) : Int))) := by
      unfold B_Mod_add_37
      dsimp only
      rw [if_neg (by omega), if_pos (by omega), if_neg (by omega), Int.toNat_natCast, hM.2.1 l hl, (e1 0), Int.toNat_natCast, if_pos (by omega), if_pos (by omega), if_pos (by omega), (hd10 0), oy_w1 (by omega)]
      rfl
    have M1 := om_addSign hT hM hl (by omega) (sp_dgt v f)
    have g1 : oy_good 0 (oy_ln T l ++ [sp_dgt v f]) := oy_good_app (oy_24_ok hT l) (by show _ < 24; omega) (by omega)
    obtain ⟨σ', e', f', g'⟩ := om_addl hv f n (sp_put T l (oy_ln T l ++ [sp_dgt v f])) _ (oy_ok_put hT g1) M1 (by rw [sp_put_len]; exact hl) (by rw [sp_put_at hl, List.length_append]; show _ + 1 + f ≤ 24; omega) (by omega) (by omega)
    refine ⟨σ', (oy_lp_l hB).trans e', ((oy_fr.rf.up rfl).up rfl).tr f', ?_⟩
    rw [sp_put_at hl, sp_put_put, List.append_assoc] at g'
    exact g'
theorem om_add (hT : oy_ok T) (hM : oy_M T σ) {l : Nat} {v : Int} (hl : l < T.length) (hv : 0 ≤ v ∧ v ≤ 9999) (hr : (oy_ln T l).length + (sp_dgs v).length ≤ 24) : ∃ σ', F_Mod_add (l : Int) v σ = some σ' ∧ oy_fr oy_mx1 σ σ' ∧ oy_M (sp_put T l (oy_ln T l ++ sp_dgs v)) σ' := by
  have key : ∀ f : Nat, f ≤ 3 → (10 ^ f ≤ v ∨ f = 0) → v < 10 ^ (f + 1) → ∃ σ', J_Mod_add_36 (l : Int) v (10 ^ f) σ = some σ' ∧ oy_fr oy_mx1 σ σ' ∧ oy_M (sp_put T l (oy_ln T l ++ sp_dgs v)) σ' := by
    intro f h1 h2 h3
    have e : sp_dgs v = sp_da v (f + 1) := by
      have h4 := sp_dr_lt (v := v) (5 - f) f h3
      rw [show f + 1 + (5 - f) = 6 by omega] at h4
      unfold sp_dgs
      rw [h4, sp_dr_all f h2]
    rw [e, sp_da_len] at hr
    rw [e]
    exact om_addl hv (f + 1) ox_fu T σ hT hM hl hr (by omega) (by show f + 1 < 100000; omega)
  unfold F_Mod_add
  by_cases h3 : v ≤ 999
  · rw [if_pos h3]
    by_cases h2 : v ≤ 99
    · rw [if_pos h2]
      by_cases h1 : v ≤ 9
      · rw [if_pos h1]
        exact key 0 (by omega) (Or.inr rfl) (by show v < 10; omega)
      · rw [if_neg h1]
        exact key 1 (by omega) (Or.inl (by show 10 ≤ v; omega)) (by show v < 100; omega)
    · rw [if_neg h2]
      exact key 2 (by omega) (Or.inl (by show 100 ≤ v; omega)) (by show v < 1000; omega)
  · rw [if_neg h3]
    exact key 3 (by omega) (Or.inl (by show 1000 ≤ v; omega)) (by show v < 10000; omega)
end OYF7
