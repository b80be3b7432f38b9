/-! ===== the call sign ===== -/
/-- a sign put at a line's end -/
def sp_sign (T : oy_T) (a x : Int) : (Nat ⊕ Int) × oy_T := if 0 ≤ a ∧ a < T.length then (if 32 ≤ x ∧ x ≤ 126 then (if (oy_ln T a.toNat).length < 24 then (.inr (((oy_ln T a.toNat).length + 1 : Nat) : Int), sp_put T a.toNat (oy_ln T a.toNat ++ [x])) else (.inl 3, T)) else (.inl 2, T)) else (.inl 1, T)
/-- the code that the reference throws for an answer of the class -/
def oy_cd (r : Nat ⊕ Int) : Int := match r with
  | .inl c => (c : Int)
  | .inr _ => 0
/-- the class between calls, behind an edit -/
theorem oy_CQ_edit {T T' : oy_T} {σ σ1 : ox_H} (h : oy_CQ T σ) (hL : oy_L 0 T' σ1) (hf : oy_fs (oy_le 0) σ σ1) (hv : σ1 1 0 5 0 = σ 1 0 5 0 + 1) (ho : σ 2 0 10 0 ≤ σ 1 0 5 0) : oy_CQ T' σ1 := by
  have h2 : σ1 2 0 10 0 = σ 2 0 10 0 := hf 2 0 10 0 (by unfold oy_le; omega)
  refine ⟨⟨hL, (hf 1 0 1 0 (by unfold oy_le; omega)).trans h.1.2.1, (hf 1 0 0 0 (by unfold oy_le; omega)).trans h.1.2.2.1, fun q => by omega⟩, oy_60_fs h.2 hf (fun j i => by unfold oy_le; omega)⟩
section OYF2
variable {T : oy_T} {σ : ox_H}
theorem oc_sign (hT : oy_ok T) (h : oy_CQ T σ) {a x : Int} : ∃ σ1, F_Out_sign a x σ = some ((sp_sign T a x).1, σ1) ∧ oy_fs (oy_le 0) σ σ1 ∧ oy_L 0 (sp_sign T a x).2 σ1 ∧ (((sp_sign T a x).2 = T ∧ σ1 = σ) ∨ σ1 1 0 5 0 = ox_w (σ 1 0 5 0 + 1)) := by
  unfold F_Out_sign J_Out_sign_20 sp_sign
  rw [oc_hasLine h.1.1, Option.bind_some]
  by_cases q : 0 ≤ a ∧ a < T.length
  rotate_left
  · rw [if_neg q, if_neg q]
    exact ⟨σ, rfl, oy_fs.rf, h.1.1, Or.inl ⟨rfl, rfl⟩⟩
  rw [if_pos q, if_pos q]
  dsimp only
  by_cases q2 : 32 ≤ x ∧ x ≤ 126
  rotate_left
  · rw [if_neg q2]
    by_cases q3 : x < 32
    · rw [if_pos q3]
      exact ⟨σ, rfl, oy_fs.rf, h.1.1, Or.inl ⟨rfl, rfl⟩⟩
    · rw [if_neg q3, if_neg (show ¬ x ≤ 126 by omega)]
      exact ⟨σ, rfl, oy_fs.rf, h.1.1, Or.inl ⟨rfl, rfl⟩⟩
  obtain ⟨l, rfl⟩ : ∃ l : Nat, a = l := ⟨a.toNat, by omega⟩
  rw [if_pos q2, if_neg (show ¬ x < 32 by omega), if_pos (show x ≤ 126 by omega), oc_size (oy_ok_L hT) h.1.1, Option.bind_some, Int.toNat_natCast]
  by_cases q3 : (oy_ln T l).length < 24
  rotate_left
  · rw [if_neg q3, if_neg (show ¬ (((oy_ln T l).length : Nat) : Int) < 24 by omega)]
    exact ⟨σ, rfl, oy_fs.rf, h.1.1, Or.inl ⟨rfl, rfl⟩⟩
  rw [if_pos q3, if_pos (show (((oy_ln T l).length : Nat) : Int) < 24 by omega)]
  obtain ⟨σ1, e1, f1, L1, v1⟩ := oc_addSign (oy_ok_L hT) h.1.1 h.1.2.1 (l := l) (by omega) q3 q2
  have hT1 : oy_okL 0 (sp_put T l (oy_ln T l ++ [x])) := sp_put_ok (oy_ok_L hT) (oy_good_app (oy_good_ln (oy_ok_L hT) l) q3 q2)
  have el : oy_ln (sp_put T l (oy_ln T l ++ [x])) l = oy_ln T l ++ [x] := by
    unfold sp_put
    rw [oy_mk_ln, if_pos (by omega), if_pos rfl]
  refine ⟨σ1, ?_, f1, L1, Or.inr v1⟩
  rw [e1, Option.bind_some, oc_size hT1 L1, Option.bind_some, el, List.length_append]
  rfl
theorem om_addSign (hT : oy_ok T) (hM : oy_M T σ) {l : Nat} (hl : l < T.length) (hr : (oy_ln T l).length < 24) (x : Int) : oy_M (sp_put T l (oy_ln T l ++ [x])) (ox_up (ox_up σ 10 0 0 (24 * l + (oy_ln T l).length) x) 10 0 1 l (((oy_ln T l).length + 1 : Nat) : Int)) := by
  have hlen : ∀ y, y < (sp_put T l (oy_ln T l ++ [x])).length → y < T.length := fun y hy => by unfold sp_put at hy; rw [oy_mk_len] at hy; exact hy
  have el : ∀ y, y < T.length → oy_ln (sp_put T l (oy_ln T l ++ [x])) y = if y = l then oy_ln T l ++ [x] else oy_ln T y := fun y hy => by
    unfold sp_put
    rw [oy_mk_ln, if_pos hy]
  refine ⟨?_, fun y hy => ?_, fun y p hy hp => ?_⟩
  · rw [oy_up_ne (by decide), oy_up_ne (by decide), hM.1]
    unfold sp_put
    rw [oy_mk_len]
  · rw [el y (hlen y hy)]
    by_cases q : y = l
    · rw [if_pos q, q, oy_up_same, List.length_append]
      rfl
    · rw [if_neg q, oy_up_ni q, oy_up_ne (by decide)]
      exact hM.2.1 y (hlen y hy)
  · have hy2 := hlen y hy
    have h24 := oy_len24 hT y
    rw [el y hy2] at hp ⊢
    rw [oy_up_ne (by decide)]
    by_cases q : y = l
    · rw [if_pos q, List.length_append] at hp
      have hp' : p < (oy_ln T l).length + 1 := hp
      rw [if_pos q, q, oy_wk_app]
      by_cases z : p = (oy_ln T l).length
      · rw [if_neg (by omega), if_pos z, z, oy_up_same]
      · rw [if_pos (by omega), oy_up_ni (by omega)]
        exact hM.2.2 l p hl (by omega)
    · rw [if_neg q] at hp ⊢
      rw [oy_up_ni (by omega)]
      exact hM.2.2 y p hy2 hp
/-- what an edit of the reference's text writes -/
def oy_me (c j : Nat) : Bool := c == 10 && (decide (j ≤ 2) || j == 46)
theorem om_sign (hT : oy_ok T) (hM : oy_M T σ) {a x : Int} : ∃ σ2 y, F_Mod_sign a x σ = some (y, σ2) ∧ oy_fr oy_me σ σ2 ∧ oy_M (sp_sign T a x).2 σ2 ∧ σ2 10 0 46 0 = oy_cd (sp_sign T a x).1 ∧ ∀ v, (sp_sign T a x).1 = .inr v → y = v := by
  have h60 := hT.1
  have bad : ∀ c : Nat, 0 < c → ∃ σ2 y, J_Mod_sign_45 a x (c : Int) σ = some (y, σ2) ∧ oy_fr oy_me σ σ2 ∧ oy_M T σ2 ∧ σ2 10 0 46 0 = oy_cd (.inl c) ∧ ∀ v, (Sum.inl c : Nat ⊕ Int) = .inr v → y = v := by
    intro c hc
    unfold J_Mod_sign_45
    rw [om_holds, if_neg (by omega), Option.bind_some, if_neg oy_10]
    have f0 : oy_fr (fun c j => c == 10 && j == 46) σ (ox_up σ 10 0 46 0 (c : Int)) := oy_fr.rf.up rfl
    exact ⟨ox_up σ 10 0 46 0 (c : Int), _, rfl, oy_fr.rf.up rfl, hM.fr f0 rfl rfl rfl, oy_up_same, fun v hv => by cases hv⟩
  unfold F_Mod_sign sp_sign
  rw [om_isLine hM hT, Option.bind_some]
  by_cases q : 0 ≤ a ∧ a < T.length
  rotate_left
  · rw [if_neg q, if_neg q, if_pos rfl]
    exact bad 1 (by decide)
  rw [if_pos q, if_pos q, if_neg oy_10, om_in, Option.bind_some]
  by_cases q2 : 32 ≤ x ∧ x ≤ 126
  rotate_left
  · rw [if_neg q2, if_neg q2, if_pos rfl]
    exact bad 2 (by decide)
  obtain ⟨l, rfl⟩ : ∃ l : Nat, a = l := ⟨a.toNat, by omega⟩
  have h24 := oy_len24 hT l
  rw [if_pos q2, if_pos q2, if_neg oy_10, if_pos (by omega), Int.toNat_natCast, hM.2.1 l (by omega)]
  by_cases q3 : (oy_ln T l).length < 24
  rotate_left
  · rw [if_neg q3, if_pos (show (((oy_ln T l).length : Nat) : Int) = 24 by omega)]
    exact bad 3 (by decide)
  rw [if_pos q3, if_neg (show ¬ (((oy_ln T l).length : Nat) : Int) = 24 by omega)]
  have f0 : oy_fr (fun c j => c == 10 && j == 46) σ (ox_up σ 10 0 46 0 0) := oy_fr.rf.up rfl
  have M0 := hM.fr f0 rfl rfl rfl
  have hsz := M0.2.1 l (by omega)
  have e : ox_w (ox_w (24 * (l : Int)) + (((oy_ln T l).length : Nat) : Int)) = ((24 * l + (oy_ln T l).length : Nat) : Int) := by
    rw [oy_w (x := 24 * (l : Int)) (by omega) (by omega), oy_w (by omega) (by omega)]
    omega
  unfold J_Mod_sign_45
  rw [om_holds, if_pos (Int.le_refl _), Option.bind_some, if_pos rfl]
  dsimp only
  generalize hσ0 : ox_up σ 10 0 46 0 0 = σ0 at M0 hsz ⊢
  rw [if_pos (show 0 ≤ (l : Int) ∧ (l : Int).toNat < 60 by omega), if_pos (by rw [Int.toNat_natCast, hsz, e]; omega), if_pos (show 0 ≤ (l : Int) ∧ (l : Int).toNat < 60 by omega), if_pos (show 0 ≤ (l : Int) ∧ (l : Int).toNat < 60 by omega), if_pos (show 0 ≤ (l : Int) ∧ (l : Int).toNat < 60 by omega), Int.toNat_natCast, hsz, e, Int.toNat_natCast, oy_w1 (by omega)]
  refine ⟨_, _, rfl, ?_, om_addSign hT M0 (by omega) q3 x, ?_, fun v hv => ?_⟩
  · rw [← hσ0]
    exact ((oy_fr.rf.up rfl).up rfl).up rfl
  · rw [oy_up_ne (by decide), oy_up_ne (by decide), ← hσ0]
    exact oy_up_same
  · rw [oy_up_same]
    exact Sum.inr.inj hv
end OYF2
