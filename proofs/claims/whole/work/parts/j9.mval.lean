/-! ===== the reference: a cell's mark and memory ===== -/
section OYJ9
variable {T : oy_T} {σ : ox_H} {f : Nat → Nat → Int} {P : Int → Int → Int → ox_H → Option (Int × ox_H)} {n : Nat}
theorem oy_F.sv {T : oy_T} {σ σ' : ox_H} (h : oy_F T σ) (hf : oy_fr oy_sv σ σ') : oy_F T σ' := h.fr hf rfl rfl rfl rfl rfl
theorem oy_up3 {σ : ox_H} {j1 j2 j3 i k : Nat} {a v b : Int} (h : ¬ j2 = j3 ∧ ¬ j2 = j1) : ox_up (ox_up (ox_up σ 10 0 j1 i a) 10 0 j2 i v) 10 0 j3 i b 10 0 j2 k = if k = i then v else σ 10 0 j2 k := by
  rw [oy_up_ne (fun q => h.1 q.2)]
  by_cases q : k = i
  · rw [q, if_pos rfl, oy_up_same]
  · rw [if_neg q, oy_up_ni q, oy_up_ne (fun q => h.2 q.2)]
theorem oy_up3n {σ : ox_H} {j1 j2 j3 i k j m : Nat} {a v b : Int} (h : ¬ j = j1 ∧ ¬ j = j2 ∧ ¬ j = j3) : ox_up (ox_up (ox_up σ 10 0 j1 i a) 10 0 j2 i v) 10 0 j3 i b 10 m j k = σ 10 m j k := by
  rw [oy_up_ne (fun q => h.2.2 q.2), oy_up_ne (fun q => h.2.1 q.2), oy_up_ne (fun q => h.1 q.2)]
theorem oy_mem.mark (h : oy_mem T f σ) {i : Nat} : oy_mem T f (ox_up σ 10 0 41 i 1) := by
  obtain ⟨h1, h2, h3, h4, h5, h6, h7⟩ := h
  refine ⟨h1.sv (oy_fr.rf.up rfl), fun l c a b m => ?_, fun z r a b m => ?_, fun k => ?_, fun k => ?_, fun k => by rw [oy_up_ne (by decide), oy_up_ne (by decide)]; exact h6 k, fun k => by rw [oy_up_ne (by decide), oy_up_ne (by decide)]; exact h7 k⟩
  · rw [oy_up_ne (by decide)]
    rw [oy_up_ne (by decide), oy_up_ne (by decide)] at m
    exact h2 l c a b m
  · rw [oy_up_ne (by decide)]
    rw [oy_up_ne (by decide), oy_up_ne (by decide)] at m
    exact h3 z r a b m
  · by_cases q : k = i
    · rw [q]
      exact Or.inr oy_up_same
    · rw [oy_up_ni q]
      exact h4 k
  · rw [oy_up_ne (by decide)]
    exact h5 k
theorem om_done (hT : oy_ok T) {l c : Nat} (hm : oy_mem T f σ) (hc : c < sp_nc T l) {σ1 : ox_H} (hk : ¬ σ 10 0 41 (24 * l + c) = 1) (g : oy_ev T f (ox_up σ 10 0 41 (24 * l + c) 1) σ1) : ∃ σ', J_Mod_value_140 P ((24 * l + c : Nat) : Int) (oy_cl (f l c)) σ1 = some (oy_cl (f l c), σ') ∧ oy_ev T f σ σ' := by
  have h60 := hT.1
  have hl := sp_nc_ln hc
  have h12 := sp_nc_12 hT
  have hcl := h12 l
  obtain ⟨g1, ⟨m1, m2, m3, m4, m5, m6, m7⟩, g3, g4⟩ := g
  have hs : oy_fr oy_sv σ σ1 := oy_fr.tr (oy_fr.rf.up rfl) g1
  unfold J_Mod_value_140
  rw [if_pos (by omega), if_pos (by omega), if_pos (by omega), Int.toNat_natCast]
  have e0 : σ 10 0 41 (24 * l + c) = 0 := (hm.2.2.2.1 _).resolve_right hk
  refine ⟨_, rfl, ((hs.up rfl).up rfl).up rfl, ⟨m1.sv (((oy_fr.rf.up rfl).up rfl).up rfl), fun l' c' a b m => ?_, fun z r a b m => ?_, fun k => ?_, fun k => ?_, fun k => ?_, fun k => ?_⟩, fun k => ?_, fun k => ?_⟩
  · have h12' := h12 l'
    by_cases q : 24 * l' + c' = 24 * l + c
    · have ql : l' = l := by omega
      have qc : c' = c := by omega
      rw [ql, qc]
      exact oy_up_same
    · rw [oy_up_ni q, oy_up_ne (by decide), oy_up_ne (by decide)]
      rw [oy_up_ne (by decide), oy_up_ni q, oy_up_ne (by decide), oy_up_ne (by decide), oy_up_ne (by decide), oy_up_ne (by decide)] at m
      exact m2 l' c' a b m
  · rw [oy_up_ne (by decide), oy_up_ne (by decide), oy_up_ne (by decide)]
    rw [oy_up_ne (by decide), oy_up_ne (by decide), oy_up_ne (by decide), oy_up_ne (by decide), oy_up_ne (by decide), oy_up_ne (by decide)] at m
    exact m3 z r a b m
  · rw [oy_up_ne (by decide), oy_up_ne (by decide)]
    by_cases q : k = 24 * l + c
    · rw [q]
      exact Or.inl oy_up_same
    · rw [oy_up_ni q]
      exact m4 k
  · rw [oy_up_ne (by decide), oy_up_ne (by decide), oy_up_ne (by decide)]
    exact m5 k
  · rw [oy_up3 (by decide), oy_up3n (by decide)]
    split
    · exact Int.le_refl _
    · exact m6 k
  · rw [oy_up3n (by decide), oy_up3n (by decide)]
    exact m7 k
  · rw [oy_up_ne (by decide), oy_up_ne (by decide)]
    by_cases q : k = 24 * l + c
    · rw [q, e0]
      exact oy_up_same
    · rw [oy_up_ni q, g3 k, oy_up_ni q]
  · rw [oy_up_ne (by decide), oy_up_ne (by decide), oy_up_ne (by decide), g4 k, oy_up_ne (by decide)]
end OYJ9
