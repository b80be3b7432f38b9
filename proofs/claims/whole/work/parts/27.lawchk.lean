/-! ===== the check of the law's methods, which catch ===== -/
def ox_hob (P mL : Nat) (l : List (Nat × Nat × Nat)) (bytes : ByteArray) (hh : List (Nat × Nat × Nat × Nat)) : Bool := l.zipIdx.all fun q => decide (1 ≤ q.1.1 ∧ q.1.1 < 4) && decide (q.1.2.2 < mL) && (match (tableOf hh)[q.2]? with
  | none => false
  | some z => decide (q.2 ≤ l.length) && ((tableOf hh).take q.2).zipIdx.all (fun w => decide (w.1.catchType ≠ 0) && (match l[w.2]? with | none => false | some r => decide (1 ≤ r.1 ∧ r.1 < 4) && decide (r.1 ≠ q.1.1) && ox_in1 (.classLink "OutlineryLaw" w.1.catchType (ox_xn r.1)))) &&
    covers z P && decide (z.catchType ≠ 0) && ox_in1 (.classLink "OutlineryLaw" z.catchType (ox_xn q.1.1)) && (match decode bytes z.handlerPc with
      | .ok (.astore x, k) => decide (k = 2) && decide (x = q.1.2.2) && decide (q.1.2.1 = z.handlerPc + 2)
      | .ok (.astore_n x, k) => decide (k = 1) && decide (x.val = q.1.2.2) && decide (q.1.2.1 = z.handlerPc + 1)
      | _ => false))
theorem ox_Ho_of {M : ox_M} {P : Nat} {l : List (Nat × Nat × Nat)} {bytes : ByteArray} {hh : List (Nat × Nat × Nat × Nat)} (hM : M.2.2.2.2.2.2 = ox_hb P l) (h : ox_hob P M.2.2.2.2.1 l bytes hh = true) : ox_Ho M bytes hh := by
  intro pc e hp x hm
  rw [hM] at hm
  unfold ox_hb at hm
  cases hb : Nat.beq pc P with
  | false => rw [hb] at hm; cases hm
  | true =>
    rw [hb] at hm
    obtain rfl := Nat.eq_of_beq_eq_true hb
    have hm : (l.find? (fun q => Nat.beq q.1 e)).map (fun q => q.2) = some (hp, x) := hm
    cases hf : l.find? (fun q => Nat.beq q.1 e) with
    | none => rw [hf] at hm; cases hm
    | some q =>
      rw [hf] at hm
      obtain ⟨e', hp', x'⟩ := q
      have hm : some (hp', x') = some (hp, x) := hm
      cases hm
      have he := List.find?_some hf
      obtain rfl : e' = e := Nat.eq_of_beq_eq_true he
      obtain ⟨k, hk⟩ := List.getElem?_of_mem (List.mem_of_find?_eq_some hf)
      have h2 := List.all_eq_true.mp h ((e', hp, x), k) (List.mem_zipIdx_iff_getElem?.mpr hk)
      rw [Bool.and_eq_true, Bool.and_eq_true, decide_eq_true_eq, decide_eq_true_eq] at h2
      obtain ⟨⟨⟨a1, a2⟩, a3⟩, h2⟩ := h2
      dsimp only at h2
      cases hz : (tableOf hh)[k]? with
      | none => rw [hz] at h2; cases h2
      | some z =>
        rw [hz] at h2
        dsimp only at h2
        rw [Bool.and_eq_true, Bool.and_eq_true, Bool.and_eq_true, Bool.and_eq_true, Bool.and_eq_true, decide_eq_true_eq] at h2
        obtain ⟨⟨⟨⟨⟨b0, b1⟩, b2⟩, b3⟩, b4⟩, b5⟩ := h2
        refine ⟨a1, a2, a3, (tableOf hh).take k, z, (tableOf hh).drop (k + 1), ?_, fun w hw => ?_, b2, of_decide_eq_true b3, ox_in1_of b4, ?_⟩
        · obtain ⟨hlt, hget⟩ := List.getElem?_eq_some_iff.mp hz
          rw [← hget, ← List.drop_eq_getElem_cons hlt, List.take_append_drop]
        · obtain ⟨i, hi⟩ := List.getElem?_of_mem hw
          have h3 := List.all_eq_true.mp b1 (w, i) (List.mem_zipIdx_iff_getElem?.mpr hi)
          rw [Bool.and_eq_true] at h3
          obtain ⟨c1, c2⟩ := h3
          dsimp only at c2
          cases hr : l[i]? with
          | none => rw [hr] at c2; cases c2
          | some r =>
            rw [hr] at c2
            dsimp only at c2
            rw [Bool.and_eq_true, Bool.and_eq_true, decide_eq_true_eq, decide_eq_true_eq] at c2
            exact ⟨of_decide_eq_true c1, r.1, c2.1.1.1, c2.1.1.2, c2.1.2, ox_in1_of c2.2⟩
        · cases hd : decode bytes z.handlerPc with
          | error err => rw [hd] at b5; cases b5
          | ok v =>
            obtain ⟨i, kk⟩ := v
            rw [hd] at b5
            cases i <;> try (cases b5; done)
            · dsimp only at b5
              rw [Bool.and_eq_true, Bool.and_eq_true, decide_eq_true_eq, decide_eq_true_eq, decide_eq_true_eq] at b5
              obtain ⟨⟨rfl, rfl⟩, rfl⟩ := b5
              exact Or.inl ⟨rfl, rfl⟩
            · dsimp only at b5
              rw [Bool.and_eq_true, Bool.and_eq_true, decide_eq_true_eq, decide_eq_true_eq, decide_eq_true_eq] at b5
              obtain ⟨⟨rfl, h8⟩, rfl⟩ := b5
              exact Or.inr ⟨_, h8, rfl, rfl⟩
def ox_ebL (y : Nat) (M : ox_M) (last i1 i2 P : Nat) (l : List (Nat × Nat × Nat)) : Bool := (match tables_1[ox_cwi y]? with
    | some (.codeWith nm bytes mL ret hh) => decide (nm = ox_yn y) && mL == M.2.2.2.2.1 && ox_rtb M.2.2.2.2.2.1 ret && ox_cob M last bytes && ox_hob P M.2.2.2.2.1 l bytes hh
    | _ => false) && (M.1 == 11) && decide ((ox_yn y).cls = ox_cn M.1) && ox_lgb i1 (.initialized (ox_yn y).cls) && plainName (ox_yn y).cls && decide ((ox_yn y).cls ≠ "java/lang/invoke/MethodHandle" ∧ (ox_yn y).cls ≠ "java/lang/invoke/VarHandle") &&
    decide ((parseMethodDescriptor (ox_yn y).desc).map (fun d => d.parameters.length) = some (ox_np y)) && decide (M.2.2.2.2.1 ≤ 20) && (ox_sf y && ox_lgb i2 (.static (ox_yn y)))
theorem ox_Eo_ofL {y : Nat} {M : ox_M} {last i1 i2 P : Nat} {l : List (Nat × Nat × Nat)} {t : Nat → Option ox_I} (ht : M.2.1 = ox_tb last t) (hh : M.2.2.2.2.2.2 = ox_hb P l) (h : ox_ebL y M last i1 i2 P l = true) : ox_Eo y M := by
  unfold ox_ebL at h
  simp only [Bool.and_eq_true, decide_eq_true_eq, beq_iff_eq] at h
  obtain ⟨⟨⟨⟨⟨⟨⟨⟨h1, h2⟩, h3⟩, h4⟩, h5⟩, h6⟩, h7⟩, h8⟩, h9, h10⟩ := h
  cases hw : tables_1[ox_cwi y]? with
  | none => rw [hw] at h1; cases h1
  | some cw =>
    rw [hw] at h1
    cases cw <;> try cases h1
    rename_i nm bytes mL ret hx
    simp only [Bool.and_eq_true, decide_eq_true_eq, beq_iff_eq] at h1
    obtain ⟨⟨⟨⟨rfl, rfl⟩, g3⟩, g4⟩, g5⟩ := h1
    refine ⟨_, bytes, ret, hx, hw, List.mem_filter.mpr ⟨List.mem_append_right _ (List.mem_of_getElem? hw), rfl⟩, Or.inr ⟨h2, rfl, ox_Ho_of hh g5⟩, fun q => absurd h2 q, ox_rt_of g3, h3, ox_lg_of h4, h5, h6, fun sig hs => ?_, h8, ?_, ox_Co_of ht g4⟩
    · rw [hs] at h7
      exact (Option.some.inj h7).symm
    · rw [h9]
      exact ox_lg_of h10
/-! all of them -/
theorem ox_bif {α : Type} {P : Prop} {b : Bool} {A B : Option α} {M : α} (h : (bif b then A else B) = some M) (h1 : A = some M → P) (h2 : B = some M → P) : P := by
  cases b
  · exact h2 h
  · exact h1 h
theorem ox_leaf {y k : Nat} {M0 M : ox_M} (h : (bif Nat.beq y k then some M0 else none) = some M) (hE : ox_Eo k M0) : ox_Eo y M := by
  cases hb : Nat.beq y k with
  | false => rw [hb] at h; cases h
  | true =>
    rw [hb] at h
    cases h
    rw [Nat.eq_of_beq_eq_true hb]
    exact hE
