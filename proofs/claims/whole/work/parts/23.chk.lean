/-! ===== the check of a method's code, decided by the kernel ===== -/
def ox_rtb (r : Nat) (ret : Option FieldType) : Bool := match r, ret with | 0, none => true | 1, some .int => true | 2, some .char => true | 3, some .boolean => true | 4, some (.object _) => true | _, _ => false
theorem ox_rt_of {r : Nat} {ret : Option FieldType} (h : ox_rtb r ret = true) : ox_rt r ret := by
  unfold ox_rtb at h
  split at h
  · exact Or.inl ⟨rfl, rfl⟩
  · exact Or.inr (Or.inl ⟨rfl, rfl⟩)
  · exact Or.inr (Or.inr (Or.inl ⟨rfl, rfl⟩))
  · exact Or.inr (Or.inr (Or.inr (Or.inl ⟨rfl, rfl⟩)))
  · exact Or.inr (Or.inr (Or.inr (Or.inr ⟨rfl, _, rfl⟩)))
  · cases h
def ox_cob (M : ox_M) (last : Nat) (bytes : ByteArray) : Bool := (List.range (last + 1)).all fun pc => match M.2.1 pc with
  | none => true
  | some q => decide (decode bytes pc = .ok (q.1, q.2.1)) && ox_chk M pc q.1 q.2.1 q.2.2
def ox_lgb (i : Nat) (w : Jvm.Cond) : Bool := decide (lw_tbl[i]? = some w) && goodWord w
def ox_eb (y : Nat) (M : ox_M) (last i1 i2 i3 : Nat) : Bool := (match tables_1[ox_cwi y]? with
    | some (.code nm bytes mL ret) => decide (nm = ox_yn y) && mL == M.2.2.2.2.1 && ox_rtb M.2.2.2.2.2.1 ret && ox_cob M last bytes
    | _ => false) && !(M.1 == 11) && decide ((ox_yn y).cls = ox_cn M.1) && ox_lgb i1 (.initialized (ox_yn y).cls) && plainName (ox_yn y).cls && decide ((ox_yn y).cls ≠ "java/lang/invoke/MethodHandle" ∧ (ox_yn y).cls ≠ "java/lang/invoke/VarHandle") &&
    decide ((parseMethodDescriptor (ox_yn y).desc).map (fun d => d.parameters.length) = some (ox_np y)) && decide (M.2.2.2.2.1 ≤ 20) && (if ox_sf y then ox_lgb i2 (.static (ox_yn y)) else ox_lgb i2 (.instanceMethod (ox_yn y)) && ox_lgb i3 (.selects (ox_cn M.1) (ox_yn y) (ox_yn y)))
theorem ox_lg_of {i : Nat} {w : Jvm.Cond} (h : ox_lgb i w = true) : w ∈ ox_good := by
  unfold ox_lgb at h
  rw [Bool.and_eq_true, decide_eq_true_eq] at h
  exact List.mem_filter.mpr ⟨List.mem_of_getElem? h.1, h.2⟩
theorem ox_Co_of {M : ox_M} {last : Nat} {t : Nat → Option ox_I} {bytes : ByteArray} (ht : M.2.1 = ox_tb last t) (h : ox_cob M last bytes = true) : ox_Co M bytes := by
  intro pc i n f hm
  have hle : pc ≤ last := by
    rw [ht] at hm
    unfold ox_tb at hm
    cases hb : Nat.ble pc last with
    | true => exact Nat.le_of_ble_eq_true hb
    | false => rw [hb] at hm; cases hm
  have h2 := List.all_eq_true.mp h pc (List.mem_range.mpr (by omega))
  rw [hm] at h2
  rw [Bool.and_eq_true, decide_eq_true_eq] at h2
  exact h2
theorem ox_Eo_of {y : Nat} {M : ox_M} {last i1 i2 i3 : Nat} {t : Nat → Option ox_I} (ht : M.2.1 = ox_tb last t) (hh : M.2.2.2.2.2.2 = fun _ _ => none) (h : ox_eb y M last i1 i2 i3 = true) : ox_Eo y M := by
  unfold ox_eb at h
  simp only [Bool.and_eq_true, decide_eq_true_eq, Bool.not_eq_true', beq_eq_false_iff_ne] at h
  obtain ⟨⟨⟨⟨⟨⟨⟨⟨h1, h2⟩, h3⟩, h4⟩, h5⟩, h6⟩, h7⟩, h8⟩, h9⟩ := h
  cases hw : tables_1[ox_cwi y]? with
  | none => rw [hw] at h1; cases h1
  | some cw =>
    rw [hw] at h1
    cases cw <;> try cases h1
    rename_i nm bytes mL ret
    simp only [Bool.and_eq_true, decide_eq_true_eq, beq_iff_eq] at h1
    obtain ⟨⟨⟨rfl, rfl⟩, g3⟩, g4⟩ := h1
    refine ⟨_, bytes, ret, [], hw, List.mem_filter.mpr ⟨List.mem_append_right _ (List.mem_of_getElem? hw), rfl⟩, Or.inl ⟨h2, rfl⟩, fun _ pc e => by rw [hh], ox_rt_of g3, h3, ox_lg_of h4, h5, h6, fun sig hs => ?_, h8, ?_, ox_Co_of ht g4⟩
    · rw [hs] at h7
      exact (Option.some.inj h7).symm
    · cases hsf : ox_sf y with
      | true =>
        rw [hsf] at h9
        exact ox_lg_of h9
      | false =>
        rw [hsf] at h9
        simp only [Bool.false_eq_true, if_false, Bool.and_eq_true] at h9
        exact ⟨ox_lg_of h9.1, ox_lg_of h9.2⟩
