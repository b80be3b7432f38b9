/-! ===== the reference: a term's value, all kinds ===== -/
theorem oy_cl_rg {v : Int} (h : oy_rg v) (h1 : v ≠ 1000001) : oy_cl v = v := if_neg h1
section OYJ5
variable {T : oy_T} {σ : ox_H} {f : Nat → Nat → Int} {P : Int → Int → Int → ox_H → Option (Int × ox_H)} {n : Nat}
theorem om_rowv (hT : oy_ok T) (hV : oy_VS T f P n) {l : Nat} {c x : Nat} (hl : l < T.length) (h4 : sp_kind (oy_ln T l) = 4) (hc : c < 5) (hx : 1 ≤ x ∧ x ≤ 9) (hm : oy_mem T f σ) (hq : ∀ r, sp_rw T l (x : Int) = some r → oy_lw T f σ (r, c)) (hmu : oy_mu σ ≤ n) : ∃ σ', (if (σ 10 0 2 0) ≤ (ox_w ((ox_w ((sp_top T l : Int) + (48 + (x : Int)))) - 49)) then (J_Mod_part_156 P (97 + (c : Int)) (ox_w ((ox_w ((sp_top T l : Int) + (48 + (x : Int)))) - 49)) σ) else (if (ox_w ((ox_w ((sp_top T l : Int) + (48 + (x : Int)))) - 49)) ≤ (l : Int) then (J_Mod_part_152 P (97 + (c : Int)) (ox_w ((ox_w ((sp_top T l : Int) + (48 + (x : Int)))) - 49)) σ) else ((F_Mod_isTable (l : Int) (ox_w ((ox_w ((sp_top T l : Int) + (48 + (x : Int)))) - 49)) σ).bind fun r12 => (if r12.1 = 0 then (J_Mod_part_156 P (97 + (c : Int)) (ox_w ((ox_w ((sp_top T l : Int) + (48 + (x : Int)))) - 49)) r12.2) else (J_Mod_part_152 P (97 + (c : Int)) (ox_w ((ox_w ((sp_top T l : Int) + (48 + (x : Int)))) - 49)) r12.2))))) = some (oy_cl (sp_fa f (sp_rw T l (x : Int)) c), σ') ∧ oy_ev T f σ σ' := by
  have h60 := hT.1
  have htl := sp_top_le T l
  have ew : ox_w (ox_w ((sp_top T l : Int) + (48 + (x : Int))) - 49) = ((sp_top T l + x - 1 : Nat) : Int) := by
    rw [oy_w (x := (sp_top T l : Int) + (48 + (x : Int))) (by omega) (by omega), oy_w (by omega) (by omega)]
    omega
  have ec : ox_w (97 + (c : Int) - 97) = (c : Int) := by rw [oy_w (by omega) (by omega)]; omega
  have eN : ((x : Int)).toNat = x := Int.toNat_natCast x
  rw [ew, hm.1.1.1]
  have no : ∀ τ, J_Mod_part_156 P (97 + (c : Int)) ((sp_top T l + x - 1 : Nat) : Int) τ = some (1000000, τ) := by
    intro τ
    unfold J_Mod_part_156 J_Mod_part_157 J_Mod_part_181
    rw [if_pos rfl, oy_er]
  have yes : ∀ τ, sp_top T l + x - 1 < T.length → sp_kind (oy_ln T (sp_top T l + x - 1)) = 4 → oy_mem T f τ → oy_lw T f τ (sp_top T l + x - 1, c) → oy_mu τ ≤ n → ∃ σ', J_Mod_part_152 P (97 + (c : Int)) ((sp_top T l + x - 1 : Nat) : Int) τ = some (oy_cl (f (sp_top T l + x - 1) c), σ') ∧ oy_ev T f τ σ' := by
    intro τ a1 a2 a3 a4 a5
    obtain ⟨σ', e, g⟩ := hV _ c τ a1 a2 hc a3 a4 a5
    refine ⟨σ', ?_, g⟩
    unfold J_Mod_part_152 J_Mod_part_157 J_Mod_part_181
    rw [if_neg oy_10, ec, e, Option.bind_some]
  by_cases b1 : T.length ≤ sp_top T l + x - 1
  · have e : sp_rw T l (x : Int) = none := if_neg (fun z => by
      have := sp_kind_ln z.2.2.2.2.1 (by decide)
      omega)
    rw [if_pos (by omega), no, e]
    exact ⟨σ, rfl, oy_ev.rf hm⟩
  rw [if_neg (by omega)]
  by_cases b2 : sp_top T l + x - 1 ≤ l
  · have e := sp_rw_up h4 (show l < 60 by omega) (n := (x : Int)) (by omega) (by omega)
    rw [eN] at e
    obtain ⟨_, _, _, _, k4, _, _⟩ := sp_rw_in e
    obtain ⟨σ', e1, g1⟩ := yes σ (by omega) k4 hm (hq _ e) hmu
    rw [if_pos (by omega), e]
    exact ⟨σ', e1, g1⟩
  rw [if_neg (by omega)]
  obtain ⟨σ1, e1, f1⟩ := om_isTable hT hm.1.1 (show sp_top T l + x - 1 < T.length by omega) (show l ≤ sp_top T l + x - 1 by omega)
  have ev1 := oy_ev.sp hm f1
  have e := sp_rw_dn h4 (n := (x : Int)) (by omega) (by omega) (by omega)
  rw [eN] at e
  rw [e1, Option.bind_some]
  by_cases b3 : sp_ist T (sp_top T l + x - 1 + 1 - l) l = true
  · rw [if_pos b3] at e
    obtain ⟨_, _, _, _, k4, _, _⟩ := sp_rw_in e
    obtain ⟨σ', e2, g2⟩ := yes σ1 (by omega) k4 ev1.2.1 ((hq _ e).cg ev1.2.2.1 ev1.2.2.2) (by rw [oy_mu_cg ev1.2.2.1 ev1.2.2.2]; exact hmu)
    rw [if_pos b3, if_neg oy_10, e]
    exact ⟨σ', e2, ev1.tr g2⟩
  · rw [if_neg b3] at e
    rw [if_neg b3, if_pos rfl, e]
    exact ⟨σ1, no σ1, ev1⟩
end OYJ5
