/-! ===== stars given to a part; shift ===== -/
theorem sp_fi_n (p : Nat → Bool) : ∀ f s k, s ≤ k → k < sp_fi p f s → p k = false
  | 0, s, k, h1, h2 => by
    have h3 : sp_fi p 0 s = s := rfl
    omega
  | f + 1, s, k, h1, h2 => by
    rw [sp_fi] at h2
    cases hp : p s with
    | true =>
      rw [hp, if_pos rfl] at h2
      omega
    | false =>
      rw [hp, if_neg (by decide)] at h2
      by_cases q : k = s
      · rw [q]; exact hp
      · exact sp_fi_n p f (s + 1) k (by omega) h2
theorem sp_fi_eq (p : Nat → Bool) : ∀ f s c, s ≤ c → c ≤ s + f → (∀ k, s ≤ k → k < c → p k = false) → (c < s + f → p c = true) → sp_fi p f s = c
  | 0, s, c, h1, h2, h3, h4 => by
    have e : sp_fi p 0 s = s := rfl
    omega
  | f + 1, s, c, h1, h2, h3, h4 => by
    rw [sp_fi]
    by_cases q : c = s
    · rw [← q, h4 (by omega), if_pos rfl]
    · rw [h3 s (Nat.le_refl _) (by omega), if_neg (by decide)]
      exact sp_fi_eq p f (s + 1) c (by omega) (by omega) (fun k h5 h6 => h3 k (by omega) h6) (fun h5 => h4 (by omega))
theorem sp_fi_all (p : Nat → Bool) {f s : Nat} : sp_fi p f s = s + f ↔ ∀ k, s ≤ k → k < s + f → p k = false := by
  constructor
  · intro h k h1 h2
    exact sp_fi_n p f s k h1 (by omega)
  · intro h
    exact sp_fi_eq p f s (s + f) (by omega) (Nat.le_refl _) h (fun q => absurd q (Nat.lt_irrefl _))
theorem oy_or00 : ox_or 0 0 = 0 := by decide
theorem oy_or01 : ox_or 0 1 = 1 := by decide
theorem oy_or10 : ox_or 1 0 = 1 := by decide
theorem oy_or11 : ox_or 1 1 = 1 := by decide
theorem oy_fo_or (b : Nat → Bool) : ∀ f k (v : Int), v = 0 ∨ v = 1 → sp_fo (fun v k => ox_or v (if b k = true then 1 else 0)) f k v = if v = 1 ∨ ¬ sp_fi b f k = k + f then 1 else 0
  | 0, k, v, hv => by
    have e : sp_fi b 0 k = k := rfl
    rw [sp_fo, e]
    rcases hv with rfl | rfl
    · rw [if_neg (by omega)]
    · rw [if_pos (Or.inl rfl)]
  | f + 1, k, v, hv => by
    rw [sp_fo, sp_fi]
    have e2 : k + 1 + f = k + (f + 1) := by omega
    cases hb : b k with
    | true =>
      have e1 : ox_or v (if true = true then 1 else 0) = 1 := by rcases hv with rfl | rfl <;> decide
      rw [e1, oy_fo_or b f (k + 1) 1 (Or.inr rfl), if_pos (Or.inl rfl), if_pos rfl, if_pos (Or.inr (by omega))]
    | false =>
      have e1 : ox_or v (if false = true then 1 else 0) = v := by rcases hv with rfl | rfl <;> decide
      rw [e1, oy_fo_or b f (k + 1) v hv, if_neg (show ¬ (false = true) by decide), e2]
theorem sp_en_lt2 {T : oy_T} : ∀ d i, i + 1 + d ≤ sp_n T → sp_en T i < sp_en T (i + 1 + d)
  | 0, i, h => sp_en_mono (by omega)
  | d + 1, i, h => by
    have h1 := sp_en_lt2 (T := T) d i (by omega)
    have h2 := sp_en_mono (T := T) (e := i + 1 + d) (by omega)
    have e : i + 1 + (d + 1) = i + 1 + d + 1 := by omega
    rw [e]
    omega
theorem sp_en_lt3 {T : oy_T} {i j : Nat} (h : i < j) (hj : j ≤ sp_n T) : sp_en T i < sp_en T j := by
  have := sp_en_lt2 (T := T) (j - i - 1) i (by omega)
  rwa [show i + 1 + (j - i - 1) = j by omega] at this
theorem sp_en_le3 {T : oy_T} {i j : Nat} (h : i ≤ j) (hj : j ≤ sp_n T) : sp_en T i ≤ sp_en T j := by
  by_cases q : i = j
  · rw [q]; exact Nat.le_refl _
  · exact Nat.le_of_lt (sp_en_lt3 (by omega) hj)
/-- a heading's line is an entry's -/
theorem sp_en_of {T : oy_T} {x : Nat} (hx : x < T.length) (hH : sp_isH (oy_ln T x)) : ∃ e, e < sp_n T ∧ sp_en T e = x := ⟨_, sp_en_at hx hH⟩
theorem sp_en_gap {T : oy_T} {i x : Nat} (hi : i < sp_n T) (h1 : sp_en T i < x) (h2 : x < sp_en T (i + 1)) : ¬ sp_isH (oy_ln T x) := fun hH => by
  have h3 := sp_en_le (T := T) (i + 1)
  obtain ⟨e, h4, h5⟩ := sp_en_of (by omega) hH
  by_cases q : e ≤ i
  · have := sp_en_le3 (T := T) q (by omega)
    omega
  · have := sp_en_le3 (T := T) (i := i + 1) (j := e) (by omega) (by omega)
    omega
theorem sp_la_lv {T : oy_T} {e k : Nat} (he : e < sp_n T) (h1 : e ≤ k) (h2 : k < sp_la T e) : sp_lv T e ≤ sp_lv T k := by
  by_cases q : k = e
  · rw [q]; exact Nat.le_refl _
  · have := sp_fi_n _ _ _ k (by omega : e + 1 ≤ k) h2
    have := of_decide_eq_false this
    omega
theorem sp_H_len {w : List Int} (hH : sp_isH w) : sp_stars w < w.length := oy_wk_lt (by rw [hH.2.2]; decide)
/-- a heading that can't have so many stars more -/
def sp_bad (T : oy_T) (b : Int) (k : Nat) : Bool := decide (¬ (1 ≤ (sp_lv T k : Int) + b ∧ (sp_lv T k : Int) + b ≤ 5 ∧ ((sp_eln T k).length : Int) + b ≤ 24))
def sp_okS (T : oy_T) (e : Nat) (b : Int) : Bool := decide (sp_fi (sp_bad T b) (sp_la T e - e) e = sp_la T e)
theorem sp_okS_all {T : oy_T} {e : Nat} {b : Int} (he : e < sp_n T) (h : sp_okS T e b = true) {k : Nat} (h1 : e ≤ k) (h2 : k < sp_la T e) : 1 ≤ (sp_lv T k : Int) + b ∧ (sp_lv T k : Int) + b ≤ 5 ∧ ((sp_eln T k).length : Int) + b ≤ 24 := by
  have hla := sp_la_in he
  have h3 := of_decide_eq_true h
  have h4 := sp_fi_n _ _ _ k h1 (by rw [h3]; exact h2)
  have h5 := of_decide_eq_false h4
  omega
/-- the headings of entries e to i - 1 with other stars, in lines that stand h higher up -/
def sp_gs (T T0 : oy_T) (h e i : Nat) (b : Int) : oy_T := oy_mk T0.length (fun l => if sp_en T e ≤ l + h ∧ l + h < sp_en T i ∧ sp_isH (oy_ln T (l + h)) then sp_sb b (oy_ln T0 l) else oy_ln T0 l)
theorem sp_gs_len {T T0 : oy_T} {h e i : Nat} {b : Int} : (sp_gs T T0 h e i b).length = T0.length := oy_mk_len
theorem sp_gs_ln {T T0 : oy_T} {h e i l : Nat} {b : Int} (hl : l < T0.length) : oy_ln (sp_gs T T0 h e i b) l = if sp_en T e ≤ l + h ∧ l + h < sp_en T i ∧ sp_isH (oy_ln T (l + h)) then sp_sb b (oy_ln T0 l) else oy_ln T0 l := by
  unfold sp_gs
  rw [oy_mk_ln, if_pos hl]
theorem sp_gs_0 {T T0 : oy_T} {h e : Nat} {b : Int} : sp_gs T T0 h e e b = T0 := by
  refine oy_extT sp_gs_len (fun l hl => ?_)
  rw [sp_gs_len] at hl
  rw [sp_gs_ln hl, if_neg (by omega)]
theorem sp_gs_1 {T T0 : oy_T} {h e i : Nat} {b : Int} (hei : e ≤ i) (hi : i < sp_n T) (hh : h ≤ sp_en T i) (hr : sp_en T i < T0.length + h) : sp_put (sp_gs T T0 h e i b) (sp_en T i - h) (sp_sb b (oy_ln T0 (sp_en T i - h))) = sp_gs T T0 h e (i + 1) b := by
  have hm := sp_en_mono hi
  have hH := (sp_en_lt hi).2
  refine oy_extT (by rw [sp_put_len, sp_gs_len, sp_gs_len]) (fun l hl => ?_)
  rw [sp_put_len, sp_gs_len] at hl
  rw [sp_put_ln (by rw [sp_gs_len]; exact hl), sp_gs_ln hl, sp_gs_ln hl]
  by_cases q : l = sp_en T i - h
  · have e2 : l + h = sp_en T i := by omega
    have h3 : sp_en T e ≤ sp_en T i := sp_en_le3 hei (by omega)
    rw [if_pos q, if_pos ⟨by omega, by omega, by rw [e2]; exact hH⟩, q]
  · rw [if_neg q]
    by_cases z : sp_en T e ≤ l + h ∧ l + h < sp_en T i ∧ sp_isH (oy_ln T (l + h))
    · rw [if_pos z, if_pos ⟨z.1, by omega, z.2.2⟩]
    · rw [if_neg z, if_neg (fun y => ?_)]
      by_cases z2 : l + h < sp_en T i
      · exact z ⟨y.1, z2, y.2.2⟩
      · exact sp_en_gap hi (by omega) y.2.1 y.2.2
/-- the outline's own fields -/
def oy_Or (T : oy_T) (σ : ox_H) : Prop := σ 2 0 9 0 = sp_n T ∧ oy_Oe T (sp_n T) σ
theorem oy_Or.le {T : oy_T} {k : Nat} {σ σ' : ox_H} (h : oy_Or T σ) (hf : oy_fs (oy_le k) σ σ') : oy_Or T σ' := by
  have e : ∀ j i, σ' 2 0 j i = σ 2 0 j i := fun j i => hf 2 0 j i (by unfold oy_le; omega)
  refine ⟨(e _ _).trans h.1, fun x hx => ?_⟩
  rw [e, e, e, e]
  exact h.2 x hx
theorem oy_Q.Or {T : oy_T} {σ : ox_H} (h : oy_Q T σ) : oy_Or T σ := ⟨h.1.1, h.1.2.1⟩
theorem sp_sb_len {b : Int} {w : List Int} : (sp_sb b w).length = ((w.length : Int) + b).toNat := oy_mk_len
theorem sp_sb_wk {b : Int} {w : List Int} {i : Nat} (hi : i < ((w.length : Int) + b).toNat) : oy_wk (sp_sb b w) i = if (i : Int) < b then 42 else oy_wk w ((i : Int) - b).toNat := by
  unfold sp_sb
  rw [oy_wk_mk, if_pos hi]
theorem sp_pin_wk {w : List Int} {p i : Nat} {x : Int} (hi : i < w.length + 1) : oy_wk (sp_pin w p x) i = if i < p then oy_wk w i else if i = p then x else oy_wk w (i - 1) := by
  unfold sp_pin
  rw [oy_wk_mk, if_pos hi]
section OYG2
variable {T : oy_T} {σ : ox_H}
theorem oc_lineOfR (hT : oy_ok T) (h : oy_Or T σ) {e : Nat} (he : e < sp_n T) : F_Otl_lineOf (e : Int) σ = some (sp_en T e : Int) := by
  have h60 := hT.1
  have hn := sp_n_le (T := T)
  have := oc_lineOf (σ := σ) h.1 (by omega) he
  rw [(h.2 e he).1] at this
  exact this
theorem oc_checkStars (hT : oy_ok T) (hQ : oy_Q T σ) {e : Nat} (he : e < sp_n T) {b : Int} (hb : -5 ≤ b ∧ b ≤ 5) : F_Out_checkStars (e : Int) b σ = some (if sp_okS T e b = true then .inr () else .inl 3) := by
  have h60 := hT.1
  have hn := sp_n_le (T := T)
  have hla := sp_la_in he
  have e1 : Nat → ox_w ((e : Int) + ((sp_la T e : Int) - e - 1)) = (sp_la T e : Int) - 1 := fun _ => by rw [oy_w (by omega) (by omega)]; omega
  unfold F_Out_checkStars J_Out_checkStars_14
  rw [oc_below hT hQ he, Option.bind_some, (e1 0)]
  have hl := oy_lfC (B_Out_checkStars_14 b ((sp_la T e : Int) - 1) σ) (sp_bad T b) (fun k => if k = sp_la T e then .inr () else .inl 3) e (sp_la T e) (fun k h1 h2 hp => by
      have hp := of_decide_eq_false hp
      have hlv := sp_lv_in (T := T) (e := k) (by omega)
      have h24 := oy_len24 hT (sp_en T k)
      unfold B_Out_checkStars_14
      rw [if_neg (by omega), oc_elv hT hQ (by omega), Option.bind_some, oy_w (x := (sp_lv T k : Int) + b) (by omega) (by omega), if_neg (by omega), if_pos (by omega), oc_eln hT hQ (by omega), Option.bind_some, oc_size (oy_ok_L hT) hQ.2.1, Option.bind_some]
      have e2 : oy_ln T (sp_en T k) = sp_eln T k := rfl
      rw [e2] at h24 ⊢
      rw [oy_w (by omega) (by omega), if_pos (by omega), oy_w1 (by omega)]) (fun k h1 h2 hp => by
      have hp := of_decide_eq_true hp
      have hlv := sp_lv_in (T := T) (e := k) (by omega)
      have h24 := oy_len24 hT (sp_en T k)
      have e2 : oy_ln T (sp_en T k) = sp_eln T k := rfl
      unfold B_Out_checkStars_14 J_Out_checkStars_45 J_Out_checkStars_79
      rw [if_neg (by omega), oc_elv hT hQ (by omega), Option.bind_some, oy_w (x := (sp_lv T k : Int) + b) (by omega) (by omega), if_neg (show ¬ k = sp_la T e by omega)]
      by_cases q1 : (sp_lv T k : Int) + b < 1
      · rw [if_pos q1]; rfl
      rw [if_neg q1]
      by_cases q2 : (sp_lv T k : Int) + b ≤ 5
      rotate_left
      · rw [if_neg q2]; rfl
      rw [if_pos q2, oc_eln hT hQ (by omega), Option.bind_some, oc_size (oy_ok_L hT) hQ.2.1, Option.bind_some]
      rw [e2] at h24 ⊢
      rw [oy_w (by omega) (by omega), if_neg (by omega)]
      rfl) (by
      unfold B_Out_checkStars_14 J_Out_checkStars_96
      rw [if_pos (by omega), if_pos rfl]
      rfl) (sp_la T e - e) ox_fu e (by omega) (Nat.le_refl _) (by show _ < 100000; omega)
  rw [hl]
  unfold sp_okS
  by_cases q : sp_fi (sp_bad T b) (sp_la T e - e) e = sp_la T e
  · rw [if_pos q, decide_eq_true q, if_pos rfl]
  · rw [if_neg q, decide_eq_false q, if_neg (by decide)]
theorem oc_star1 {k l : Nat} {b : Int} (hT : oy_okL k T) (hL : oy_L k T σ) (hw : σ 1 k 1 0 = ox_wd k) (hl : l < T.length) (hb : -5 ≤ b ∧ b ≤ 5) (h0 : 0 ≤ ((oy_ln T l).length : Int) + b) (h24 : ((oy_ln T l).length : Int) + b ≤ ox_wd k) (v4 v5 v6 : Int) : ∃ σ', ((F_Lin_takeOut k (l : Int) 0 (ox_w (-b)) σ).bind fun r3 => (J_Out_giveStars_48 b k v4 v5 v6 (l : Int) 0 r3)) = some (.inl (ox_w (v6 + 1), σ')) ∧ oy_ed k 6 (sp_put T l (sp_sb b (oy_ln T l))) σ σ' := by
  have h3 := hT.1
  have h7 := oy_lnk k
  rw [oy_w (by omega) (by omega)]
  unfold J_Out_giveStars_48
  by_cases hb1 : 1 ≤ b
  · obtain ⟨n, rfl⟩ : ∃ n : Nat, b = n := ⟨b.toNat, by omega⟩
    have e0 : F_Lin_takeOut k (l : Int) 0 (-(n : Int)) σ = some σ := by
      unfold F_Lin_takeOut J_Lin_takeOut_33
      rw [hL.1, if_neg (by omega), if_neg (by omega), if_neg (by decide), if_pos (by omega)]
    rw [e0, Option.bind_some]
    have hloop : ∀ (f x m : Nat) (τ : ox_H), x + f = n → f < m → oy_ed k x (sp_put T l (sp_sb (x : Int) (oy_ln T l))) σ τ → ∃ σ', ox_lp (B_Out_giveStars_48 (n : Int) k v4 v5 v6 (l : Int)) m ((x : Int), τ) = some (.inl (ox_w (v6 + 1), σ')) ∧ oy_ed k n (sp_put T l (sp_sb (n : Int) (oy_ln T l))) σ σ' := by
      intro f
      induction f with
      | zero =>
        intro x m τ h1 h2 h4
        obtain ⟨m, rfl⟩ : ∃ j, m = j + 1 := ⟨m - 1, by omega⟩
        obtain rfl : x = n := by omega
        refine ⟨τ, oy_lp_m ?_, h4⟩
        unfold B_Out_giveStars_48 J_Out_giveStars_69
        dsimp only
        rw [if_pos (Int.le_refl _)]
      | succ f ih =>
        intro x m τ h1 h2 h4
        obtain ⟨m, rfl⟩ : ∃ j, m = j + 1 := ⟨m - 1, by omega⟩
        have hg : oy_good k (sp_sb (x : Int) (oy_ln T l)) := sp_sb_good (oy_good_ln hT l) (by omega)
        have hsl : (sp_sb (x : Int) (oy_ln T l)).length = (oy_ln T l).length + x := by unfold sp_sb; rw [oy_mk_len]; omega
        have hat : oy_ln (sp_put T l (sp_sb (x : Int) (oy_ln T l))) l = sp_sb (x : Int) (oy_ln T l) := sp_put_at hl
        obtain ⟨τ1, e1, d1⟩ := oc_putIn (l := l) (p := 0) (x := 42) (sp_put_ok hT hg) h4.2.1 (h4.w.1.trans hw) (by rw [sp_put_len]; exact hl) (Nat.zero_le _) (by rw [hat, hsl]; omega) (by decide)
        have e1' : F_Lin_putIn k (l : Int) 0 42 τ = some τ1 := e1
        have hB : B_Out_giveStars_48 (n : Int) k v4 v5 v6 (l : Int) ((x : Int), τ) = some (.inl (((x + 1 : Nat) : Int), τ1)) := by
          unfold B_Out_giveStars_48
          dsimp only
          rw [if_neg (by omega), e1', Option.bind_some, oy_w1 (by omega)]
        rw [oy_lp_l hB]
        refine ih (x + 1) m τ1 (by omega) (by omega) ?_
        rw [hat, sp_put_put] at d1
        have e2 : sp_pin (sp_sb (x : Int) (oy_ln T l)) 0 42 = sp_sb ((x + 1 : Nat) : Int) (oy_ln T l) := by
          have hsl2 : (sp_sb ((x + 1 : Nat) : Int) (oy_ln T l)).length = (oy_ln T l).length + x + 1 := by unfold sp_sb; rw [oy_mk_len]; omega
          have hpl : (sp_pin (sp_sb (x : Int) (oy_ln T l)) 0 42).length = (oy_ln T l).length + x + 1 := by unfold sp_pin; rw [oy_mk_len, hsl]
          refine oy_ext (by rw [hpl, hsl2]) (fun i hi => ?_)
          rw [hpl] at hi
          rw [sp_pin_wk (by rw [hsl]; exact hi), if_neg (Nat.not_lt_zero _), sp_sb_wk (b := ((x + 1 : Nat) : Int)) (by omega)]
          by_cases q : i = 0
          · rw [if_pos q, if_pos (by omega)]
          · rw [if_neg q, sp_sb_wk (b := (x : Int)) (by omega)]
            by_cases z : i ≤ x
            · rw [if_pos (by omega), if_pos (by omega)]
            · have e3 : (((i - 1 : Nat) : Int) - (x : Int)).toNat = ((i : Int) - ((x + 1 : Nat) : Int)).toNat := by omega
              rw [if_neg (by omega), if_neg (by omega), e3]
        rw [e2] at d1
        exact h4.tr d1
    have e5 : sp_put T l (sp_sb ((0 : Nat) : Int) (oy_ln T l)) = T := by
      have e6 : sp_sb ((0 : Nat) : Int) (oy_ln T l) = oy_ln T l := by
        refine oy_ext (by unfold sp_sb; rw [oy_mk_len]; omega) (fun i hi => ?_)
        unfold sp_sb at hi ⊢
        rw [oy_mk_len] at hi
        have e7 : ((i : Int) - ((0 : Nat) : Int)).toNat = i := by omega
        rw [oy_wk_mk, if_pos hi, if_neg (by omega), e7]
      rw [e6, sp_put_self]
    obtain ⟨σ', e', d'⟩ := hloop n 0 ox_fu σ (by omega) (by show n < 100000; omega) (by rw [e5]; exact oy_ed.rf hL)
    exact ⟨σ', e', d'.mono (by omega)⟩
  · have hz : ∀ τ : ox_H, ox_lp (B_Out_giveStars_48 b k v4 v5 v6 (l : Int)) ox_fu ((0 : Int), τ) = some (.inl (ox_w (v6 + 1), τ)) := fun τ => by
      refine oy_lp_m (n := 99999) ?_
      unfold B_Out_giveStars_48 J_Out_giveStars_69
      dsimp only
      rw [if_pos (by omega)]
    by_cases hb0 : b = 0
    · have e0 : F_Lin_takeOut k (l : Int) 0 (-b) σ = some σ := by
        unfold F_Lin_takeOut J_Lin_takeOut_33
        rw [hL.1, if_neg (by omega), if_neg (by omega), if_neg (by decide), if_pos (by omega)]
      have e6 : sp_sb b (oy_ln T l) = oy_ln T l := by
        refine oy_ext (by unfold sp_sb; rw [oy_mk_len]; omega) (fun i hi => ?_)
        unfold sp_sb at hi ⊢
        rw [oy_mk_len] at hi
        have e7 : ((i : Int) - b).toNat = i := by omega
        rw [oy_wk_mk, if_pos hi, if_neg (by omega), e7]
      rw [e0, Option.bind_some, hz, e6, sp_put_self]
      exact ⟨σ, rfl, (oy_ed.rf hL).mono (by omega)⟩
    · obtain ⟨n, rfl⟩ : ∃ n : Nat, b = -(n : Int) := ⟨(-b).toNat, by omega⟩
      obtain ⟨σ1, e1, d1⟩ := oc_takeOut (p := 0) (m := n) hT hL hw hl (by omega) (by omega)
      have e1' : F_Lin_takeOut k (l : Int) 0 (- -(n : Int)) σ = some σ1 := by rw [Int.neg_neg]; exact e1
      have e6 : sp_cut (oy_ln T l) 0 n = sp_sb (-(n : Int)) (oy_ln T l) := by
        refine oy_ext (by unfold sp_sb sp_cut; rw [oy_mk_len, oy_mk_len]; omega) (fun i hi => ?_)
        unfold sp_cut at hi ⊢
        rw [oy_mk_len] at hi
        unfold sp_sb
        have e7 : ((i : Int) - -(n : Int)).toNat = i + n := by omega
        rw [oy_wk_mk, if_pos hi, if_neg (Nat.not_lt_zero _), oy_wk_mk, if_pos (by omega), if_neg (by omega), e7]
      rw [e1', Option.bind_some, hz]
      rw [e6] at d1
      exact ⟨σ1, rfl, d1.mono (by omega)⟩
theorem oc_giveStars {k h : Nat} {T0 : oy_T} (hT : oy_ok T) (hQ : oy_Q T σ) {e : Nat} (he : e < sp_n T) {b : Int} (hb : -5 ≤ b ∧ b ≤ 5) (hok : sp_okS T e b = true) (hk : ox_wd k = 24) (hT0 : oy_okL k T0) {τ : ox_H} (hL : oy_L k T0 τ) (hw : τ 1 k 1 0 = ox_wd k) (hR : oy_Or T τ) (hB : F_Otl_below (e : Int) τ = some ((sp_la T e : Int) - e - 1)) (hh : h ≤ sp_en T e) (hlen : sp_en T (sp_la T e) ≤ T0.length + h) (h0 : ∀ i, e ≤ i → i < sp_la T e → oy_ln T0 (sp_en T i - h) = sp_eln T i) : ∃ σ', F_Out_giveStars (e : Int) b k (h : Int) τ = some σ' ∧ oy_ed k 400 (sp_gs T T0 h e (sp_la T e) b) τ σ' := by
  have h60 := hT.1
  have hn := sp_n_le (T := T)
  have hla := sp_la_in he
  have e1 : Nat → ox_w ((e : Int) + ((sp_la T e : Int) - e - 1)) = (sp_la T e : Int) - 1 := fun _ => by rw [oy_w (by omega) (by omega)]; omega
  unfold F_Out_giveStars J_Out_giveStars_15
  rw [hB, Option.bind_some, (e1 0)]
  have hloop : ∀ (f i m : Nat) (ρ : ox_H), i + f = sp_la T e → e ≤ i → f < m → oy_ed k (6 * (i - e)) (sp_gs T T0 h e i b) τ ρ → ∃ σ', ox_lp (B_Out_giveStars_15 b k (h : Int) ((sp_la T e : Int) - 1)) m ((i : Int), ρ) = some σ' ∧ oy_ed k (6 * (sp_la T e - e)) (sp_gs T T0 h e (sp_la T e) b) τ σ' := by
    intro f
    induction f with
    | zero =>
      intro i m ρ h1 h2 h3 h4
      obtain ⟨m, rfl⟩ : ∃ j, m = j + 1 := ⟨m - 1, by omega⟩
      obtain rfl : i = sp_la T e := by omega
      refine ⟨ρ, oy_lp_m ?_, h4⟩
      unfold B_Out_giveStars_15 J_Out_giveStars_75
      dsimp only
      rw [if_pos (by omega)]
    | succ f ih =>
      intro i m ρ h1 h2 h3 h4
      obtain ⟨m, rfl⟩ : ∃ j, m = j + 1 := ⟨m - 1, by omega⟩
      have hen := sp_en_lt (T := T) (e := i) (by omega)
      have hm1 := sp_en_le3 (T := T) h2 (by omega)
      have hm2 := sp_en_lt3 (T := T) (i := i) (j := sp_la T e) (by omega) (by omega)
      have hx := sp_okS_all he hok h2 (by omega)
      have hHl := sp_H_len hen.2
      have hlv : sp_lv T i = sp_stars (sp_eln T i) := rfl
      have hs : sp_eln T i = oy_ln T0 (sp_en T i - h) := (h0 i h2 (by omega)).symm
      have hat : oy_ln (sp_gs T T0 h e i b) (sp_en T i - h) = oy_ln T0 (sp_en T i - h) := by
        rw [sp_gs_ln (by omega), if_neg (by omega)]
      have hgok : oy_okL k (sp_gs T T0 h e i b) := oy_okL_mk hT0.1 (fun l hl => by
        by_cases q : sp_en T e ≤ l + h ∧ l + h < sp_en T i ∧ sp_isH (oy_ln T (l + h))
        · rw [if_pos q]
          refine sp_sb_good (oy_good_ln hT0 l) ?_
          obtain ⟨j, hj1, hj2⟩ := sp_en_of (T := T) (by omega) q.2.2
          have hj3 : e ≤ j := by
            by_cases z : e ≤ j
            · exact z
            · have := sp_en_lt3 (T := T) (i := j) (j := e) (by omega) (by omega)
              omega
          have hj4 : j < i := by
            by_cases z : j < i
            · exact z
            · have := sp_en_le3 (T := T) (i := i) (j := j) (by omega) (by omega)
              omega
          have hj5 := sp_okS_all he hok hj3 (by omega)
          have hj6 := h0 j hj3 (by omega)
          have e9 : sp_en T j - h = l := by omega
          rw [e9] at hj6
          rw [hj6, hk]
          exact hj5.2.2
        · rw [if_neg q]
          exact oy_good_ln hT0 l)
      obtain ⟨ρ1, e2, d2⟩ := oc_star1 (σ := ρ) (l := sp_en T i - h) (b := b) hgok h4.2.1 (h4.w.1.trans hw) (by rw [sp_gs_len]; omega) hb (by rw [hat, ← hs]; omega) (by rw [hat, ← hs, hk]; omega) (h : Int) ((sp_la T e : Int) - 1) (i : Int)
      have ew : Nat → ox_w ((sp_en T i : Int) - (h : Int)) = ((sp_en T i - h : Nat) : Int) := fun _ => oy_wsb (by omega) (by omega)
      have hB : B_Out_giveStars_15 b k (h : Int) ((sp_la T e : Int) - 1) ((i : Int), ρ) = some (.inl (((i + 1 : Nat) : Int), ρ1)) := by
        unfold B_Out_giveStars_15
        dsimp only
        rw [if_neg (by omega), oc_lineOfR hT (hR.le h4.1) (by omega), Option.bind_some, (ew 0), e2, oy_w1 (by omega)]
      rw [oy_lp_l hB]
      refine ih (i + 1) m ρ1 (by omega) (by omega) (by omega) ?_
      rw [hat, sp_gs_1 h2 (by omega) (by omega) (by omega)] at d2
      exact (h4.tr d2).mono (by omega)
  obtain ⟨σ', e', d'⟩ := hloop (sp_la T e - e) e ox_fu τ (by omega) (Nat.le_refl _) (by show _ < 100000; omega) (by rw [sp_gs_0, Nat.sub_self]; exact oy_ed.rf hL)
  exact ⟨σ', e', d'.mono (by omega)⟩
end OYG2
