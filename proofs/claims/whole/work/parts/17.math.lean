/-! ===== Math, copies, new rows, throws, ends ===== -/
theorem ox_in_good {w : Jvm.Cond} (h : w ∈ tables_1) (hg : goodWord w = true) : w ∈ ox_good := List.mem_filter.mpr ⟨List.mem_append_right _ h, hg⟩
theorem ox_mw_1 : Jvm.Cond.static Lib.Math.max.name ∈ tables_1 := List.mem_of_getElem? (i := 511) (by decide +kernel)
theorem ox_mw_2 : Jvm.Cond.code Lib.Math.max.name Lib.Math.max.code 2 (some .int) ∈ tables_1 := List.mem_of_getElem? (i := 512) (by decide +kernel)
theorem ox_mw_3 : Jvm.Cond.static Lib.Math.min.name ∈ tables_1 := List.mem_of_getElem? (i := 400) (by decide +kernel)
theorem ox_mw_4 : Jvm.Cond.code Lib.Math.min.name Lib.Math.min.code 2 (some .int) ∈ tables_1 := List.mem_of_getElem? (i := 401) (by decide +kernel)
theorem ox_mw_5 : Jvm.Cond.static Lib.Math.abs.name ∈ tables_1 := List.mem_of_getElem? (i := 773) (by decide +kernel)
theorem ox_mw_6 : Jvm.Cond.code Lib.Math.abs.name Lib.Math.abs.code 1 (some .int) ∈ tables_1 := List.mem_of_getElem? (i := 774) (by decide +kernel)
theorem ox_mw_7 : Jvm.Cond.initialized "java/lang/Math" ∈ tables_1 := List.mem_of_getElem? (i := 19) (by decide +kernel)
theorem ox_mw_8 : Jvm.Cond.initialized "java/lang/System" ∈ tables_1 := List.mem_of_getElem? (i := 17) (by decide +kernel)
theorem ox_mw_9 : Jvm.Cond.static arraycopyName ∈ tables_1 := List.mem_of_getElem? (i := 699) (by decide +kernel)
theorem ox_mw_10 : Jvm.Cond.native arraycopyName ∈ tables_1 := List.mem_of_getElem? (i := 700) (by decide +kernel)
section OX17
variable {p : Program} {l : Launch} {e : Env} {R : Room} {s : State} {m : MethodId} {args : Array Value} {below : List Frame} {meth : Method} {c : Code}
variable {G : ox_G} {mc ms n : Nat} {Q : State → Prop} {cc : ByteArray} {own : String} {pc b tl : Nat} {ls st : List ox_V} {σ : ox_H}
theorem ox_hg (C : ox_Cx p l R s m args meth c G mc ms n cc own) {w : Jvm.Cond} (h : w ∈ tables_1) (hg : goodWord w = true) : w.before args s = true := C.2.2.2.2.1 w (ox_in_good h hg)
theorem ox_ms32 {x y : Int} (hx : ox_i32 x) (hy : ox_i32 y) {P : Prop} [Decidable P] : ox_i32 (if P then x else y) := by split <;> assumption
theorem ox_r_max (C : ox_Cx p l R s m args meth c G mc ms n cc own) {idx : Nat} {x y : Int} (hl : (Jvm.Cond.methodLink own idx Lib.Math.max.name).before args s = true) (hs : ox_sc (.inl y :: .inl x :: st) ≤ 20) (hd : decode cc pc = .ok (.invokestatic idx, 3))
    (k : ox_S9 p l e R s m args below meth c G mc ms n Q (pc + 3) b tl ls (.inl (if x < y then y else x) :: st) σ) : ox_S9 p l e R s m args below meth c G mc ms n Q pc b tl ls (.inl y :: .inl x :: st) σ := by
  intro H locs cells slots arr h1 h2 h3 h4 h5 h6 h7
  obtain ⟨hy, h5⟩ := List.forall_mem_cons.mp h5
  obtain ⟨hx, h5⟩ := List.forall_mem_cons.mp h5
  have hx : ox_i32 x := hx
  have hy : ox_i32 y := hy
  have z := k H locs cells slots arr h1 h2 h3 h4 (ox_okc (v := .inl _) (ox_ms32 hy hx) h5) h6 h7
  obtain ⟨-, -, hml, hown, -, -, -, -, ⟨hf, hlo, hmc, hms⟩, -⟩ := id C
  refine va_mmax C.1 C.2.1 (by rw [hml, h3.1]) hown hl (ox_hg C ox_mw_1 rfl) (ox_hg C ox_mw_7 rfl) (ox_hg C ox_mw_2 rfl) (by omega) (by rw [ox_sc_cat]; simp only [ox_sc] at hs; omega) (by omega) (by omega) hd ?_
  have e1 : (if Int32.ofInt x < Int32.ofInt y then Int32.ofInt y else Int32.ofInt x) = Int32.ofInt (if x < y then y else x) := by
    simp only [ox_lt hx hy]
    split <;> rfl
  rw [e1]
  exact z
theorem ox_r_min (C : ox_Cx p l R s m args meth c G mc ms n cc own) {idx : Nat} {x y : Int} (hl : (Jvm.Cond.methodLink own idx Lib.Math.min.name).before args s = true) (hs : ox_sc (.inl y :: .inl x :: st) ≤ 20) (hd : decode cc pc = .ok (.invokestatic idx, 3))
    (k : ox_S9 p l e R s m args below meth c G mc ms n Q (pc + 3) b tl ls (.inl (if y < x then y else x) :: st) σ) : ox_S9 p l e R s m args below meth c G mc ms n Q pc b tl ls (.inl y :: .inl x :: st) σ := by
  intro H locs cells slots arr h1 h2 h3 h4 h5 h6 h7
  obtain ⟨hy, h5⟩ := List.forall_mem_cons.mp h5
  obtain ⟨hx, h5⟩ := List.forall_mem_cons.mp h5
  have hx : ox_i32 x := hx
  have hy : ox_i32 y := hy
  have z := k H locs cells slots arr h1 h2 h3 h4 (ox_okc (v := .inl _) (ox_ms32 hy hx) h5) h6 h7
  obtain ⟨-, -, hml, hown, -, -, -, -, ⟨hf, hlo, hmc, hms⟩, -⟩ := id C
  refine va_mmin C.1 C.2.1 (by rw [hml, h3.1]) hown hl (ox_hg C ox_mw_3 rfl) (ox_hg C ox_mw_7 rfl) (ox_hg C ox_mw_4 rfl) (by omega) (by rw [ox_sc_cat]; simp only [ox_sc] at hs; omega) (by omega) (by omega) hd ?_
  have e1 : (if Int32.ofInt y < Int32.ofInt x then Int32.ofInt y else Int32.ofInt x) = Int32.ofInt (if y < x then y else x) := by
    simp only [ox_lt hy hx]
    split <;> rfl
  rw [e1]
  exact z
theorem ox_r_abs (C : ox_Cx p l R s m args meth c G mc ms n cc own) {idx : Nat} {x : Int} (hl : (Jvm.Cond.methodLink own idx Lib.Math.abs.name).before args s = true) (hs : ox_sc (.inl x :: st) ≤ 20) (hd : decode cc pc = .ok (.invokestatic idx, 3))
    (k : ox_S9 p l e R s m args below meth c G mc ms n Q (pc + 3) b tl ls (.inl (if 0 ≤ x then x else ox_w (0 - x)) :: st) σ) : ox_S9 p l e R s m args below meth c G mc ms n Q pc b tl ls (.inl x :: st) σ := by
  intro H locs cells slots arr h1 h2 h3 h4 h5 h6 h7
  obtain ⟨hx, h5⟩ := List.forall_mem_cons.mp h5
  have hx : ox_i32 x := hx
  have z := k H locs cells slots arr h1 h2 h3 h4 (ox_okc (v := .inl _) (ox_ms32 hx (ox_w_in _)) h5) h6 h7
  obtain ⟨-, -, hml, hown, -, -, -, -, ⟨hf, hlo, hmc, hms⟩, -⟩ := id C
  refine va_mabs C.1 C.2.1 (by rw [hml, h3.1]) hown hl (ox_hg C ox_mw_5 rfl) (ox_hg C ox_mw_7 rfl) (ox_hg C ox_mw_6 rfl) (by omega) (by rw [ox_sc_cat]; simp only [ox_sc] at hs; omega) (by omega) (by omega) hd ?_
  have e1 : (if 0 ≤ Int32.ofInt x then Int32.ofInt x else 0 - Int32.ofInt x) = Int32.ofInt (if 0 ≤ x then x else ox_w (0 - x)) := by
    rw [← ox_0]
    simp only [ox_le ox_i0 hx]
    split
    · rfl
    · exact ox_sub 0 x
  rw [e1]
  exact z
theorem ox_cp_at {σ : ox_H} {c0 k0 j0 sp c k j dp n : Nat} : (fun x => Int32.ofInt (ox_cp σ c0 k0 j0 sp c k j dp n c k j x)) = va_cpy (fun x => Int32.ofInt (σ c0 k0 j0 x)) (fun x => Int32.ofInt (σ c k j x)) sp dp n := by
  funext x
  unfold ox_cp va_cpy
  by_cases h : dp ≤ x ∧ x < dp + n
  · rw [if_pos ⟨rfl, rfl, rfl, h.1, h.2⟩, if_pos h]
  · rw [if_neg (fun z => h ⟨z.2.2.2.1, z.2.2.2.2⟩), if_neg h]
theorem ox_row_cp {σ : ox_H} {c0 k0 j0 sp c k j dp n : Nat} (hc : c ≠ 22) (h3 : ox_ty c j ≠ 3) (h4 : ox_ty c j ≠ 4) : ox_ent G (ox_cp σ c0 k0 j0 sp c k j dp n) (100 + c, k, j) = .inl (ox_cA G (ox_ty c j), ox_len σ c k j, .inl (va_cpy (fun x => Int32.ofInt (σ c0 k0 j0 x)) (fun x => Int32.ofInt (σ c k j x)) sp dp n)) := by
  rw [ox_ent_arr, ox_rw_n h3 h4, ox_len_cp hc, ox_cp_at]
theorem ox_r_acp (C : ox_Cx p l R s m args meth c G mc ms n cc own) {idx : Nat} (hl : (Jvm.Cond.methodLink own idx arraycopyName).before args s = true) (hd : decode cc pc = .ok (.invokestatic idx, 3)) {g : List ox_V → ox_H → Option ox_O} {o : ox_O} (h : ox_acp σ st g = some o)
    (k : ∀ st' σ', g st' σ' = some o → ox_S9 p l e R s m args below meth c G mc ms n Q (pc + 3) b tl ls st' σ') : ox_S9 p l e R s m args below meth c G mc ms n Q pc b tl ls st σ := by
  intro H locs cells slots arr h1 h2 h3 h4 h5 h6 h7
  have hK := ox_tys_at C
  unfold ox_acp at h
  split at h
  rotate_left
  · cases h
  rename_i n1 dp t1 k1 j1 sp t0 k0 j0
  by_cases hc1 : 100 ≤ t0 ∧ 100 ≤ t1 ∧ t0 < 122 ∧ t1 < 122 ∧ ox_ty (t0 - 100) j0 = ox_ty (t1 - 100) j1 ∧ ox_ty (t1 - 100) j1 ≤ 2
  rotate_left
  · rw [if_neg hc1] at h; cases h
  rw [if_pos hc1] at h
  obtain ⟨ha, hb, ha2, hb2, hty, hle⟩ := hc1
  by_cases hin : 0 ≤ n1 ∧ 0 ≤ dp ∧ 0 ≤ sp ∧ sp + n1 ≤ ox_len σ (t0 - 100) k0 j0 ∧ dp + n1 ≤ ox_len σ (t1 - 100) k1 j1
  rotate_left
  · rw [if_neg hin] at h; cases h
  rw [if_pos hin] at h
  obtain ⟨q1, q2, q3, q4, q5⟩ := hin
  obtain ⟨hn, h5⟩ := List.forall_mem_cons.mp h5
  obtain ⟨hdp, h5⟩ := List.forall_mem_cons.mp h5
  obtain ⟨hr1, h5⟩ := List.forall_mem_cons.mp h5
  obtain ⟨hsp, h5⟩ := List.forall_mem_cons.mp h5
  obtain ⟨hr0, h55⟩ := List.forall_mem_cons.mp h5
  have hn : ox_i32 n1 := hn
  have hdp : ox_i32 dp := hdp
  have hsp : ox_i32 sp := hsp
  obtain ⟨c0, rfl⟩ : ∃ c0, t0 = 100 + c0 := ⟨t0 - 100, by omega⟩
  obtain ⟨c1, rfl⟩ : ∃ c1, t1 = 100 + c1 := ⟨t1 - 100, by omega⟩
  rw [Nat.add_sub_cancel_left] at hty q4 q5 hle h
  rw [Nat.add_sub_cancel_left] at hty h
  have hr0 : (100 + c0, k0, j0) ∈ ox_L tl := by
    rcases ox_rok_arr hr0 ha (by omega) with hr | hr
    · exact hr
    · have : 100 + c0 = 122 := congrArg Prod.fst hr
      omega
  have hr1 : (100 + c1, k1, j1) ∈ ox_L tl := by
    rcases ox_rok_arr hr1 hb (by omega) with hr | hr
    · exact hr
    · have : 100 + c1 = 122 := congrArg Prod.fst hr
      omega
  obtain ⟨u0, hu0, he0⟩ := ox_Wd_at h1 hr0
  obtain ⟨u1, hu1, he1⟩ := ox_Wd_at h1 hr1
  have hc22 : c1 ≠ 22 := by omega
  rw [ox_ent_arr, ox_rw_n (by omega) (by omega), hty] at he0
  rw [ox_ent_arr, ox_rw_n (by omega) (by omega)] at he1
  have hset : (ox_ws G tl σ).set u1 (ox_ad G (100 + c1, k1, j1), .inl (ox_cA G (ox_ty c1 j1), ox_len σ c1 k1 j1, .inl (va_cpy (fun x => Int32.ofInt (σ c0 k0 j0 x)) (fun x => Int32.ofInt (σ c1 k1 j1 x)) sp.toNat dp.toNat n1.toNat))) = ox_ws G tl (ox_cp σ c0 k0 j0 sp.toNat c1 k1 j1 dp.toNat n1.toNat) :=
    ox_ws_set hu1 (ox_but_rows ox_but_cp hc22 hr1) (by rw [ox_row_cp hc22 (by omega) (by omega)])
  obtain ⟨-, -, hml, hown, -, -, -, -, ⟨hf, hlo, hmc, hms⟩, -⟩ := id C
  have htys : ∃ ty, (ox_tys G)[ox_ty c1 j1]? = some (ox_cA G (ox_ty c1 j1), ty) ∧ refKind ty = false ∧ ∀ v, ox_vok (ox_ty c1 j1) v → fits ty (.int (Int32.ofInt v)) = true := by
    rcases (show ox_ty c1 j1 = 0 ∨ ox_ty c1 j1 = 1 ∨ ox_ty c1 j1 = 2 by omega) with q | q | q <;> rw [q]
    · exact ⟨_, rfl, rfl, fun v _ => rfl⟩
    · exact ⟨_, rfl, rfl, fun v hv => (ox_char_of hv).2⟩
    · refine ⟨_, rfl, rfl, fun v hv => ?_⟩
      have hv : 0 ≤ v ∧ v < 2 := hv
      rcases (show v = 0 ∨ v = 1 by omega) with rfl | rfl <;> rfl
  obtain ⟨ty, ht, hrk, hfit⟩ := htys
  have e1 := ox_toN hn
  have e2 := ox_toN hdp
  have e3 := ox_toN hsp
  have hnf : nativeFrameWords "java/lang/System" "arraycopy" 5 + 11 ≤ 200 := by decide +kernel
  refine va_copyi C.1 C.2.1 (by rw [hml, h3.1]) hown hl (ox_hg C ox_mw_10 rfl) (ox_hg C ox_mw_9 rfl) (ox_hg C ox_mw_8 rfl) hK h1.1 h1.2.1 h2 u0 u1 _ _ he0 he1 ht ht hrk (ox_nneg hsp q3) (ox_nneg hdp q2) (ox_nneg hn q1) (by rw [e1, e3]; omega) (by rw [e1, e2]; omega) (fun i _ => hfit _ (by have := h1.2.2.1 c0 k0 j0 ((Int32.ofInt sp).toNatClampNeg + i); rw [hty] at this; exact this)) (by omega) (by have := hnf; simp only [List.map_nil, List.sum_nil]; omega) hd (fun H1 locs1 hP hD hS => ?_)
  rw [e1, e2, e3, hset] at hP hD
  exact k _ _ h H1 locs1 cells slots arr (ox_Wd_to C h1 h2 hS ox_but_cp hc22 (ox_sok_cp h1.2.2.1 hty) hP hD) hS h3 h4 h55 h6 h7
end OX17
