/-! ===== inherited values, sums, ranks, what may be done ===== -/
def sp_fo (F : Int → Nat → Int) : Nat → Nat → Int → Int
  | 0, _, v => v
  | f + 1, k, v => sp_fo F f (k + 1) (F v k)
/-- a sum over a stretch, the reference's and the class's -/
theorem oy_lacM {β : Type} (g : Int × Int × ox_H → Option ((Int × Int × ox_H) ⊕ β)) (I : ox_H → Prop) (J : Nat → Int → Prop) (F : Int → Nat → Int) (Q : Int → β → Prop) (lo hi : Nat)
    (hs : ∀ k v σ, I σ → J k v → lo ≤ k → k < hi → ∃ σ', g (v, (k : Int), σ) = some (.inl (F v k, ((k + 1 : Nat) : Int), σ')) ∧ I σ' ∧ J (k + 1) (F v k))
    (he : ∀ v σ, I σ → J hi v → ∃ b, g (v, (hi : Int), σ) = some (.inr b) ∧ Q v b) : ∀ f n k v σ, k + f = hi → lo ≤ k → f < n → I σ → J k v → ∃ b, ox_lp g n (v, (k : Int), σ) = some b ∧ Q (sp_fo F f k v) b
  | _, 0, _, _, _, _, _, h, _, _ => absurd h (Nat.not_lt_zero _)
  | 0, n + 1, k, v, σ, h1, h2, h3, h4, h5 => by
    obtain rfl : k = hi := by omega
    obtain ⟨b, hb, q⟩ := he v σ h4 h5
    exact ⟨b, oy_lp_r hb, q⟩
  | f + 1, n + 1, k, v, σ, h1, h2, h3, h4, h5 => by
    obtain ⟨σ', hb, q1, q2⟩ := hs k v σ h4 h5 h2 (by omega)
    rw [sp_fo, oy_lp_l hb]
    exact oy_lacM g I J F Q lo hi hs he f n (k + 1) (F v k) σ' (by omega) (by omega) (by omega) q1 q2
theorem oy_lacC {β : Type} (g : Int × Int → Option ((Int × Int) ⊕ β)) (J : Nat → Int → Prop) (F : Int → Nat → Int) (Q : Int → β) (lo hi : Nat)
    (hs : ∀ k v, J k v → lo ≤ k → k < hi → g (v, (k : Int)) = some (.inl (F v k, ((k + 1 : Nat) : Int))) ∧ J (k + 1) (F v k))
    (he : ∀ v, J hi v → g (v, (hi : Int)) = some (.inr (Q v))) : ∀ f n k v, k + f = hi → lo ≤ k → f < n → J k v → ox_lp g n (v, (k : Int)) = some (Q (sp_fo F f k v))
  | _, 0, _, _, _, _, h, _ => absurd h (Nat.not_lt_zero _)
  | 0, n + 1, k, v, h1, h2, h3, h5 => by
    obtain rfl : k = hi := by omega
    exact oy_lp_r (he v h5)
  | f + 1, n + 1, k, v, h1, h2, h3, h5 => by
    obtain ⟨hb, q2⟩ := hs k v h5 h2 (by omega)
    rw [sp_fo, oy_lp_l hb]
    exact oy_lacC g J F Q lo hi hs he f n (k + 1) (F v k) (by omega) (by omega) (by omega) q2
theorem sp_fo_ext {F G : Int → Nat → Int} (J : Nat → Int → Prop) (lo hi : Nat) (h : ∀ k v, J k v → lo ≤ k → k < hi → F v k = G v k ∧ J (k + 1) (F v k)) : ∀ f k v, k + f ≤ hi → lo ≤ k → J k v → sp_fo F f k v = sp_fo G f k v
  | 0, _, _, _, _, _ => rfl
  | f + 1, k, v, h1, h2, h3 => by
    obtain ⟨q1, q2⟩ := h k v h3 h2 (by omega)
    rw [sp_fo, sp_fo, sp_fo_ext J lo hi h f (k + 1) (F v k) (by omega) (by omega) q2, q1]
theorem sp_lv_in {T : oy_T} {e : Nat} (he : e < sp_n T) : 1 ≤ sp_lv T e ∧ sp_lv T e ≤ 5 := by
  have := (sp_en_lt he).2
  exact ⟨this.1, this.2.1⟩
/-- an entry that is open -/
def sp_op (T : oy_T) (e : Nat) : Bool := decide (0 ≤ sp_es_st T e ∧ sp_es_st T e ≤ 1)
/-- what an ordered parent allows -/
def sp_mb2 (T : oy_T) (e : Nat) : Bool := match sp_pa T e with
  | none => true
  | some p => !(decide (sp_has T 111 p = 1)) || decide (sp_fi (fun k => decide (sp_pa T k = some p) && sp_op T k) (e - (p + 1)) (p + 1) = e)
/-- may it be done -/
def sp_mb (T : oy_T) (e : Nat) : Bool := decide (sp_fi (sp_op T) (sp_la T e - (e + 1)) (e + 1) = sp_la T e) && sp_mb2 T e
theorem sp_mb2_n {T : oy_T} {e : Nat} (hp : sp_pa T e = none) : sp_mb2 T e = true := by unfold sp_mb2; rw [hp]
theorem sp_mb2_f {T : oy_T} {e p : Nat} (hp : sp_pa T e = some p) (hq : ¬ sp_has T 111 p = 1) : sp_mb2 T e = true := by
  unfold sp_mb2
  rw [hp]
  dsimp only
  rw [decide_eq_false hq]
  rfl
theorem sp_mb2_t {T : oy_T} {e p : Nat} (hp : sp_pa T e = some p) (hq : sp_has T 111 p = 1) : sp_mb2 T e = true ↔ sp_fi (fun k => decide (sp_pa T k = some p) && sp_op T k) (e - (p + 1)) (p + 1) = e := by
  unfold sp_mb2
  rw [hp]
  dsimp only
  rw [decide_eq_true hq, Bool.not_true, Bool.false_or, decide_eq_true_eq]
/-- its place among its siblings -/
def sp_rk (T : oy_T) (e : Nat) : Int := sp_fo (fun v k => v + (if sp_pa T k = sp_pa T e then 1 else 0)) e 0 1
theorem oy_en_inj {a b : Option Nat} : oy_en a = oy_en b ↔ a = b := by
  cases a with
  | none =>
    cases b with
    | none => exact ⟨fun _ => rfl, fun _ => rfl⟩
    | some y => exact ⟨fun q => by have : (-1 : Int) = (y : Int) := q; omega, fun q => by cases q⟩
  | some x =>
    cases b with
    | none => exact ⟨fun q => by have : (x : Int) = -1 := q; omega, fun q => by cases q⟩
    | some y => exact ⟨fun q => by have : (x : Int) = (y : Int) := q; congr 1; omega, fun q => by rw [q]⟩
section OYD6
variable {T : oy_T} {σ : ox_H}
theorem oc_inhl (hT : oy_ok T) (hQ : oy_Q T σ) (x : Int) : ∀ (f e v n : Nat), e < f → e < sp_n T → sp_lv T e + v ≤ 5 → f + 1 < n → ox_lp (B_Otl_inherited_5 x σ) n ((e : Int), (v : Int)) = some (sp_has T (97 + x) e)
  | 0, _, _, _, h, _, _, _ => absurd h (Nat.not_lt_zero _)
  | _, _, _, 0, _, _, _, h => absurd h (Nat.not_lt_zero _)
  | f + 1, e, v, n + 1, h1, h2, h3, h4 => by
    have hlv := sp_lv_in h2
    rw [sp_has_eq]
    by_cases q : sp_own T e (97 + x) = -1
    · have hB : B_Otl_inherited_5 x σ ((e : Int), (v : Int)) = some (.inl (oy_en (sp_pa T e), ((v + 1 : Nat) : Int))) := by
        unfold B_Otl_inherited_5
        dsimp only
        rw [if_neg (by omega), if_neg (by omega), oc_own hT hQ h2, Option.bind_some, if_pos q, oc_epa hT hQ h2, Option.bind_some, oy_w1 (by omega)]
      rw [oy_lp_l hB, if_neg (by omega)]
      cases hp : sp_pa T e with
      | none =>
        obtain ⟨n, rfl⟩ : ∃ m, n = m + 1 := ⟨n - 1, by omega⟩
        refine oy_lp_m ?_
        unfold B_Otl_inherited_5 J_Otl_inherited_45
        dsimp only
        by_cases z : 5 ≤ ((v + 1 : Nat) : Int)
        · rw [if_pos z]
        · rw [if_neg z, if_pos (show oy_en none = -1 from rfl)]
      | some p =>
        have hl := sp_pa_lt hp
        exact oc_inhl hT hQ x f p (v + 1) n (by omega) (by omega) (by omega) (by omega)
    · have hc := sp_own_cs T e (97 + x)
      rw [if_pos (by omega)]
      refine oy_lp_m ?_
      unfold B_Otl_inherited_5 J_Otl_inherited_30
      dsimp only
      rw [if_neg (by omega), if_neg (by omega), oc_own hT hQ h2, Option.bind_some, if_neg q]
theorem oc_inherited (hT : oy_ok T) (hQ : oy_Q T σ) {e : Nat} (he : e < sp_n T) (x : Int) : F_Otl_inherited (e : Int) x σ = some (sp_has T (97 + x) e) := by
  have h60 := hT.1
  have hn := sp_n_le (T := T)
  have hlv := sp_lv_in he
  exact oc_inhl hT hQ x (e + 1) e 0 ox_fu (by omega) he (by omega) (by show e + 1 + 1 < 100000; omega)
theorem oc_inh0 (x : Int) : F_Otl_inherited (-1) x σ = some (-1) := by
  unfold F_Otl_inherited J_Otl_inherited_5
  refine oy_lp_m (n := 99999) ?_
  unfold B_Otl_inherited_5 J_Otl_inherited_45
  dsimp only
  rw [if_neg (by decide), if_pos rfl]
theorem oc_isOpen (hT : oy_ok T) (hQ : oy_Q T σ) {e : Nat} (he : e < sp_n T) : F_Otl_isOpen (e : Int) σ = some (if sp_op T e = true then 1 else 0) := by
  unfold F_Otl_isOpen J_Otl_isOpen_15 J_Otl_isOpen_20 sp_op
  rw [oc_est hT hQ he, Option.bind_some]
  by_cases h0 : sp_es_st T e = 0
  · rw [if_pos h0, if_pos (decide_eq_true (by omega))]; rfl
  rw [if_neg h0]
  by_cases h1 : sp_es_st T e = 1
  · rw [if_pos h1, if_pos (decide_eq_true (by omega))]; rfl
  · rw [if_neg h1, if_neg (fun z => by have := of_decide_eq_true z; omega)]; rfl
theorem om_isOpen (hT : oy_ok T) (hF : oy_F T σ) {e : Nat} (he : e < sp_n T) : ∃ σ', F_Mod_isOpen (e : Int) σ = some (if sp_op T e = true then 1 else 0, σ') ∧ oy_fr oy_sp σ σ' := by
  obtain ⟨τ1, e1, f1⟩ := om_stateOf hT hF he
  refine ⟨τ1, ?_, f1⟩
  unfold F_Mod_isOpen sp_op
  rw [e1, Option.bind_some]
  dsimp only
  rw [om_in, Option.bind_some]
  by_cases h : 0 ≤ sp_es_st T e ∧ sp_es_st T e ≤ 1
  · rw [if_pos h, if_pos (decide_eq_true h)]; rfl
  · rw [if_neg h, if_neg (fun z => h (of_decide_eq_true z))]; rfl
theorem oc_rankOf (hT : oy_ok T) (hQ : oy_Q T σ) {e : Nat} (he : e < sp_n T) : F_Otl_rankOf (e : Int) σ = some (sp_rk T e) := by
  have h60 := hT.1
  have hn := sp_n_le (T := T)
  unfold F_Otl_rankOf J_Otl_rankOf_4
  exact oy_lacC (B_Otl_rankOf_4 (e : Int) σ) (fun k v => 0 ≤ v ∧ v ≤ k + 1) (fun v k => v + (if sp_pa T k = sp_pa T e then 1 else 0)) id 0 e
    (fun k v hJ h1 h2 => by
      refine ⟨?_, by split <;> omega⟩
      unfold B_Otl_rankOf_4 J_Otl_rankOf_28
      dsimp only
      rw [if_neg (by omega), oc_epa hT hQ (by omega), Option.bind_some, oc_epa hT hQ he, Option.bind_some, oy_w1 (by omega)]
      by_cases q : sp_pa T k = sp_pa T e
      · rw [if_pos (oy_en_inj.mpr q), if_pos q, oy_w (by omega) (by omega)]
      · rw [if_neg (fun z => q (oy_en_inj.mp z)), if_neg q, oy_w (by omega) (by omega)])
    (fun v hJ => by
      unfold B_Otl_rankOf_4
      dsimp only
      rw [if_pos (Int.le_refl _)]
      rfl) e ox_fu 0 1 (by omega) (Nat.le_refl _) (by show e < 100000; omega) (by omega)
theorem sp_fo_app (F : Int → Nat → Int) : ∀ f g k v, sp_fo F (f + g) k v = sp_fo F g (k + f) (sp_fo F f k v)
  | 0, g, k, v => by rw [Nat.zero_add]; rfl
  | f + 1, g, k, v => by
    have e1 : f + 1 + g = (f + g) + 1 := by omega
    have e2 : k + (f + 1) = k + 1 + f := by omega
    rw [e1, sp_fo, sp_fo, sp_fo_app F f g (k + 1), e2]
theorem sp_fo_id {F : Int → Nat → Int} : ∀ f k v, (∀ x u, k ≤ x → x < k + f → F u x = u) → sp_fo F f k v = v
  | 0, _, _, _ => rfl
  | f + 1, k, v, h => by
    rw [sp_fo, h k v (Nat.le_refl _) (by omega)]
    exact sp_fo_id f (k + 1) v (fun x u h1 h2 => h x u (by omega) (by omega))
/-- the count may begin behind the parent -/
theorem sp_rk_eq (T : oy_T) (e : Nat) : ∀ p : Nat, (sp_pa T e = none ∧ p = 0) ∨ (sp_pa T e = some (p - 1) ∧ 1 ≤ p) → sp_rk T e = sp_fo (fun v k => v + (if sp_pa T k = sp_pa T e then 1 else 0)) (e - p) p 1 := by
  intro p hp
  rcases hp with ⟨h1, h2⟩ | ⟨h1, h2⟩
  · rw [h2]; rfl
  · have hl := (sp_pa_lt h1).1
    unfold sp_rk
    have e1 : e = p + (e - p) := by omega
    have e2 : sp_fo (fun v k => v + (if sp_pa T k = sp_pa T e then 1 else 0)) e 0 1 = sp_fo (fun v k => v + (if sp_pa T k = sp_pa T e then 1 else 0)) (p + (e - p)) 0 1 := by rw [← e1]
    rw [e2, sp_fo_app, Nat.zero_add]
    congr 1
    refine sp_fo_id p 0 1 (fun x u _ h3 => ?_)
    rw [if_neg (fun q => by
      have h4 := (sp_pa_lt (q.trans h1)).1
      omega), Int.add_zero]
theorem om_rank (hT : oy_ok T) (hF : oy_F T σ) {e : Nat} (he : e < sp_n T) : ∃ σ', ((F_Mod_parent (e : Int) σ).bind fun r10 => (J_Mod_entry_170 (e : Int) 1 r10.1 (ox_w (r10.1 + 1)) r10.2)) = some (sp_rk T e, σ') ∧ oy_fr oy_sp σ σ' := by
  have h60 := hT.1
  have hn := sp_n_le (T := T)
  obtain ⟨τ1, e1, f1⟩ := om_parent hT hF he
  obtain ⟨p, hp1, hp2⟩ : ∃ p : Nat, ((sp_pa T e = none ∧ p = 0) ∨ (sp_pa T e = some (p - 1) ∧ 1 ≤ p)) ∧ oy_en (sp_pa T e) + 1 = (p : Int) := by
    cases h : sp_pa T e with
    | none => exact ⟨0, Or.inl ⟨rfl, rfl⟩, rfl⟩
    | some q => exact ⟨q + 1, Or.inr ⟨rfl, by omega⟩, rfl⟩
  have hpe : p ≤ e := by
    rcases hp1 with ⟨h1, h2⟩ | ⟨h1, h2⟩
    · omega
    · have := (sp_pa_lt h1).1
      omega
  rw [e1, Option.bind_some]
  unfold J_Mod_entry_170
  dsimp only
  rw [hp2, oy_w (by omega) (by omega)]
  obtain ⟨b, hb, q1, q2⟩ := oy_lacM (B_Mod_entry_170 (e : Int) (oy_en (sp_pa T e))) (fun τ => oy_F T τ ∧ oy_fr oy_sp σ τ) (fun k v => 0 ≤ v ∧ v ≤ k + 1) (fun v k => v + (if sp_pa T k = sp_pa T e then 1 else 0)) (fun v b => b.1 = v ∧ oy_fr oy_sp σ b.2) p e
    (fun k v τ hI hJ h1 h2 => by
      obtain ⟨τ2, e2, f2⟩ := om_parent hT hI.1 (e := k) (by omega)
      refine ⟨τ2, ?_, ⟨hI.1.sp f2, hI.2.tr f2⟩, by split <;> omega⟩
      unfold B_Mod_entry_170 J_Mod_entry_193
      dsimp only
      rw [if_neg (by omega), e2, Option.bind_some, oy_w1 (by omega)]
      by_cases q : sp_pa T k = sp_pa T e
      · rw [if_pos (oy_en_inj.mpr q), if_pos q, oy_w (by omega) (by omega)]
      · rw [if_neg (fun z => q (oy_en_inj.mp z)), if_neg q, oy_w (by omega) (by omega)])
    (fun v τ hI hJ => by
      refine ⟨(v, τ), ?_, rfl, hI.2⟩
      unfold B_Mod_entry_170
      dsimp only
      rw [if_pos (Int.le_refl _)]
      rfl) (e - p) ox_fu p 1 τ1 (by omega) (Nat.le_refl _) (by show _ < 100000; omega) ⟨hF.sp f1, f1⟩ (by omega)
  obtain ⟨b1, b2⟩ := b
  refine ⟨b2, ?_, q2⟩
  rw [sp_rk_eq T e p hp1]
  have q1' : b1 = _ := q1
  rw [← q1']
  exact hb
end OYD6
