/-! ===== the run of a making ===== -/
section OB95
variable {p : Program} {l : Launch} {e : Env} {R : Room} {s : State} {m : MethodId} {args : Array Value} {below : List Frame} {meth : Method} {c : Code}
variable {G : ox_G} {mc ms9 n : Nat} {Q : State → Prop} {cc : ByteArray} {own : String} {pc b d : Nat} {ls st : List ox_V} {B : ob_B} {as0 : List Nat}
theorem ob_r_call (C : ob_Cx p l R s m args meth c G mc ms9 n cc own) {dd idx y np k9 : Nat} {M : ob_M} {CC : ob_C} {ms : Nat → Option ob_M} {av : List ox_V} {B' : ob_B} (hR : dd + 11 ≤ R.frames ∧ 41 * dd + 241 ≤ R.locals) (hO : ob_Or l dd ms CC) (hE : ∀ c M, ms c = some M → ob_Eo c M) (hM : ms y = some M)
    (w1 : (ox_in1 (.methodLink own idx (ob_yn y)) || decide (Jvm.Cond.methodLinkNest own idx (ob_yn y) "Outlinery" ∈ ox_nest)) = true) (w2 : ox_in1 (.instanceMethod (ob_yn y)) = true) (hnp : (parseMethodDescriptor (ob_yn y).desc).map (fun d => d.parameters.length) = some np) (hlen : np + 1 ≤ st.length) (hb : M.2.2.2.1 ≤ b) (hd9 : M.2.2.2.2 ≤ d) (h8 : ox_sc (st.drop (np + 1)) ≤ 8)
    (hav : (st.take (np + 1)).reverse = ob_r k9 :: av) (hC : CC y (ob_r k9 :: av) B = some B') (hd : decode cc pc = .ok (.invokespecial idx, 3))
    (k : ob_S9 p l e R s m args below meth c G as0 mc ms9 n Q (pc + 3, b - M.2.2.2.1, d - M.2.2.2.2, ls, st.drop (np + 1), B')) : ob_S9 p l e R s m args below meth c G as0 mc ms9 n Q (pc, b, d, ls, st, B) := by
  intro t9 H locs cells slots arr hl hP hD h2 h3 h4 h5 hw h6 h7
  dsimp only at hl hP hD h3 h4 h5 hw h6 h7 ⊢
  obtain ⟨bytes, e1, e2, e3, e4, e5, e6, e7, e8⟩ := hE y M hM
  obtain ⟨r1, r2, r3, r4⟩ := C.2.2.2.2.2.2.2.2.2.2.1
  have hts := C.2.2.2.2.1
  have hMet := hO _ _ _ _ hC M hM bytes e1 e8 G (as0 ++ t9)
  have hok : ∀ v ∈ (ob_r k9 :: av), ob_vk B.length v = true := by
    intro v hv
    rw [← hav] at hv
    exact h5 v (List.mem_of_mem_take (List.mem_reverse.mp hv))
  have hstk : st.map (ox_mv (ob_G G (as0 ++ t9))) = (av.map (ox_mv (ob_G G (as0 ++ t9)))).reverse ++ .ref ((as0 ++ t9).getD k9 0) :: (st.drop (np + 1)).map (ox_mv (ob_G G (as0 ++ t9))) := by
    rw [ox_stk hav, List.map_cons, List.reverse_cons, List.append_assoc, ob_mvr]
    rfl
  have hlav : av.length = np := by
    have := congrArg List.length hav
    rw [List.length_reverse, List.length_take, List.length_cons] at this
    omega
  have hat : ∀ U : State, U.heap = H → s.WarmedH U.vm → ob_Pc G (as0 ++ t9) (ob_r k9 :: av) B (Value.ref ((as0 ++ t9).getD k9 0) :: av.map (ox_mv (ob_G G (as0 ++ t9)))).toArray U := by
    intro U hU hW
    subst hU
    refine ⟨?_, hok, hl, hw, C.2.2.2.2.2.1.moved hW.alike, C.2.2.2.2.2.2.1.moved hW.alike, ob_nest_to hW C.2.2.2.2.2.2.2.1, hP, hD, Nat.le_trans (show ox_bs G ≤ s.heap.size from C.2.2.2.2.2.2.2.2.2.2.2 _ (Nat.le_refl _)) h2.1⟩
    rw [List.map_cons, ob_mvr]
  have hnp2 : ∀ sig, parseMethodDescriptor (ob_yn y).desc = some sig → np = sig.parameters.length := fun sig hs => by
    rw [hs] at hnp
    exact (Option.some.inj hnp).symm
  have hpay : ∀ w ∈ (Jvm.Cond.code (ob_yn y) bytes M.2.2.1 none) :: ox_good, ∀ (a' : Array Value) (U : State), s.WarmedH U.vm → w.before a' U = true := by
    intro w hw a' U hW
    have hw : w ∈ ox_good := by
      rcases List.mem_cons.mp hw with rfl | hw
      · exact e1
      · exact hw
    exact word_at hW (ox_good_ok w hw) (hts w hw)
  have hcat : 2 * (F0 m pc arr (st.map (ox_mv (ob_G G (as0 ++ t9))))).monitorRoom + (((st.drop (np + 1)).map (ox_mv (ob_G G (as0 ++ t9)))).map fun v => v.category).sum ≤ 8 := lv_room (pc := pc) (by rw [ox_sc_cat]; exact h8)
  have hrun : va_Run p l e R s m args below meth c H locs cells slots M.2.2.2.1 M.2.2.2.2 (F0 m pc arr (st.map (ox_mv (ob_G G (as0 ++ t9))))) ((st.drop (np + 1)).map (ox_mv (ob_G G (as0 ++ t9)))) (ob_Qc G (as0 ++ t9) B' (Value.ref ((as0 ++ t9).getD k9 0) :: av.map (ox_mv (ob_G G (as0 ++ t9)))).toArray) (ox_A G) := by
    rw [Bool.or_eq_true, decide_eq_true_eq] at w1
    rcases w1 with w1 | w1
    · exact va_runI (As := av.map (ox_mv (ob_G G (as0 ++ t9)))) ⟨C.1, C.2.1, C.2.2.1, C.2.2.2.1, hts⟩ hMet ⟨⟨rfl, rfl, by show dd + 10 + 1 ≤ _; omega, by show 8 + (M.2.2.1 + 11) + (41 * dd + 200) ≤ _; omega, hpay, List.mem_cons_self, hts _ e1, hts _ e7, e6, hnp2, ob_g C w1⟩, rfl, ob_g C w2⟩ ⟨ob_blind, hat⟩ rfl (by simpa using hlav) h3.1 hstk hcat hd ⟨by omega, by omega⟩
    · exact va_runIN (As := av.map (ox_mv (ob_G G (as0 ++ t9)))) ⟨C.1, C.2.1, C.2.2.1, C.2.2.2.1, hts⟩ hMet ⟨⟨⟨rfl, rfl, by show dd + 10 + 1 ≤ _; omega, by show 8 + (M.2.2.1 + 11) + (41 * dd + 200) ≤ _; omega, hpay, List.mem_cons_self⟩, hts _ e1, hts _ e7, e6, hnp2, va_Nw.use (ox_nest_ot w1) (C.2.2.2.2.2.2.2.1 _ w1)⟩, rfl, ob_g C w2⟩ ⟨ob_blind, hat⟩ rfl (by simpa using hlav) h3.1 hstk hcat hd ⟨by omega, by omega⟩
  intro T hT X
  obtain ⟨v, st₀, t, T', L, h0, X', hL, f1, f2, ⟨hv, hF, t8, g1, g2, g3, g4⟩, stp⟩ := hrun T hT X
  cases hv
  obtain ⟨k1, k2, k3⟩ := vx_keep h0 f1 h2 (fun _ _ h => h) (fun _ h => h) hL hF
  have hn : B.length ≤ B'.length := by rw [← g1, ← hl, show ((as0 ++ t9) ++ t8).length = (as0 ++ t9).length + t8.length from List.length_append]; exact Nat.le_add_right _ _
  have z := k (t9 ++ t8) T'.heap (locs ++ L) (cells + M.2.2.2.1) (slots + M.2.2.2.2) arr (by rw [← List.append_assoc]; exact g1) (by rw [← List.append_assoc, f1]; exact g3) (by rw [← List.append_assoc]; exact g4) k3 (by rw [← List.append_assoc]; exact ob_lr_app h3 (fun v hv => by rw [hl]; exact h4 v hv))
    (fun v hv => ob_vk_le hn (h4 v hv)) (fun v hv => ob_vk_le hn (h5 v (List.mem_of_mem_drop hv))) g2 (by show cells + M.2.2.2.1 + (b - M.2.2.2.1) ≤ mc; omega) (by show slots + M.2.2.2.2 + (d - M.2.2.2.2) ≤ ms9; omega)
  have em : (st.drop (np + 1)).map (ox_mv (ob_G G (as0 ++ (t9 ++ t8)))) = (st.drop (np + 1)).map (ox_mv (ob_G G (as0 ++ t9))) := by
    rw [← List.append_assoc]
    exact ob_map_app (fun v hv => by rw [hl]; exact h5 v (List.mem_of_mem_drop hv))
  dsimp only at z
  rw [em] at z
  obtain ⟨t2, a1, b1⟩ := z T' rfl X'
  exact ⟨t2, stp t2 a1, b1⟩
theorem ob_step (C : ob_Cx p l R s m args meth c G mc ms9 n cc own) {dd : Nat} {M : ob_M} {CC : ob_C} {ms : Nat → Option ob_M} (hn : n = M.2.2.1) (hown : own = ox_cn M.1) (hlaw : own = "OutlineryLaw" → M.1 = 11) (hCo : ob_Co M cc) (hR : dd + 11 ≤ R.frames ∧ 41 * dd + 241 ≤ R.locals) (hO : ob_Or l dd ms CC) (hE : ∀ c M, ms c = some M → ob_Eo c M)
    {x x' : ob_X} (h : ob_st M CC ms x = some (.inl x')) (k : ob_S9 p l e R s m args below meth c G as0 mc ms9 n Q x') : ob_S9 p l e R s m args below meth c G as0 mc ms9 n Q x := by
  obtain ⟨pc, b, d, ls, st, B⟩ := x
  unfold ob_st at h
  dsimp only at h
  cases hm : M.2.1 pc with
  | none => rw [hm] at h; cases h
  | some q =>
  obtain ⟨i, nn, f⟩ := q
  obtain ⟨hd, hchk⟩ := hCo pc i nn f hm
  rw [hm] at h
  dsimp only at h
  subst hn
  rw [← hown] at hchk
  cases i with
  | iconst x =>
    obtain rfl : nn = 1 := by simpa using (show (nn == 1) = true from hchk)
    cases h
    intro t9 H locs cells slots arr hl hP hD h2 h3 h4 h5 hw h6 h7
    exact lv_iconst C.1 C.2.1 hd rfl (k t9 H locs cells slots arr hl hP hD h2 h3 h4 (ob_vkc rfl h5) hw h6 h7)
  | bipush x =>
    have hc : (nn == 2 && decide (-128 ≤ x ∧ x < 128)) = true := hchk
    simp only [Bool.and_eq_true, beq_iff_eq, decide_eq_true_eq] at hc
    obtain ⟨rfl, hx⟩ := hc
    cases h
    intro t9 H locs cells slots arr hl hP hD h2 h3 h4 h5 hw h6 h7
    have hx2 : ox_i32 x := ⟨by omega, by omega⟩
    exact lv_bipush C.1 C.2.1 hd (Int32.toInt_inj.mp (by rw [ox_toI hx2, Int8.toInt_toInt32, Int8.toInt_ofInt_of_le (by omega) (by omega)])) (k t9 H locs cells slots arr hl hP hD h2 h3 h4 (ob_vkc rfl h5) hw h6 h7)
  | sipush x =>
    have hc : (nn == 3 && decide (-32768 ≤ x ∧ x < 32768)) = true := hchk
    simp only [Bool.and_eq_true, beq_iff_eq, decide_eq_true_eq] at hc
    obtain ⟨rfl, hx⟩ := hc
    cases h
    intro t9 H locs cells slots arr hl hP hD h2 h3 h4 h5 hw h6 h7
    have hx2 : ox_i32 x := ⟨by omega, by omega⟩
    exact lv_sipush C.1 C.2.1 hd (Int32.toInt_inj.mp (by rw [ox_toI hx2, Int16.toInt_toInt32, Int16.toInt_ofInt_of_le (by omega) (by omega)])) (k t9 H locs cells slots arr hl hP hD h2 h3 h4 (ob_vkc rfl h5) hw h6 h7)
  | iload_n x =>
    obtain rfl : nn = 1 := by simpa using (show (nn == 1) = true from hchk)
    cases hl : ls[x.val]? with
    | none => dsimp only at h; rw [hl] at h; cases h
    | some v =>
      dsimp only at h
      rw [hl] at h
      rcases v with v | v | v <;> try (cases h; done)
      cases h
      intro t9 H locs cells slots arr hll hP hD h2 h3 h4 h5 hw h6 h7
      exact lv_iload_n C.1 C.2.1 hd rfl (h3.2.2 _ _ hl rfl) (k t9 H locs cells slots arr hll hP hD h2 h3 h4 (ob_vkc rfl h5) hw h6 h7)
  | aload_n x =>
    obtain rfl : nn = 1 := by simpa using (show (nn == 1) = true from hchk)
    cases hl : ls[x.val]? with
    | none => dsimp only at h; rw [hl] at h; cases h
    | some v =>
      dsimp only at h
      rw [hl] at h
      rcases v with v | v | r <;> try (cases h; done)
      obtain ⟨h9, h⟩ := ox_if_inv h
      cases h
      intro t9 H locs cells slots arr hll hP hD h2 h3 h4 h5 hw h6 h7
      have hz : ox_dm (.inr (.inr r)) = false := by show (r.1 == 999) = false; simp; omega
      exact lv_aload_n C.1 C.2.1 hd rfl (h3.2.2 _ _ hl hz) (k t9 H locs cells slots arr hll hP hD h2 h3 h4 (ob_vkc (h4 _ (List.mem_of_getElem? hl)) h5) hw h6 h7)
  | istore_n x =>
    obtain rfl : nn = 1 := by simpa using (show (nn == 1) = true from hchk)
    rcases st with _ | ⟨v | v | v, st⟩ <;> try (cases h; done)
    obtain ⟨h9, h⟩ := ox_if_inv h
    cases h
    intro t9 H locs cells slots arr hl hP hD h2 h3 h4 h5 hw h6 h7
    exact lv_istore_n C.1 C.2.1 hd rfl (ox_ll_of h3) h9 rfl (fun arr' h' => k t9 H locs cells slots arr' hl hP hD h2 (ox_lr_set (v := .inl v) (arr := arr) h') (ob_vk_set h4 rfl) (List.forall_mem_cons.mp h5).2 hw h6 h7)
  | istore x =>
    obtain rfl : nn = 2 := by simpa using (show (nn == 2) = true from hchk)
    rcases st with _ | ⟨v | v | v, st⟩ <;> try (cases h; done)
    obtain ⟨h9, h⟩ := ox_if_inv h
    cases h
    intro t9 H locs cells slots arr hl hP hD h2 h3 h4 h5 hw h6 h7
    exact lv_istore C.1 C.2.1 hd (ox_ll_of h3) h9 rfl (fun arr' h' => k t9 H locs cells slots arr' hl hP hD h2 (ox_lr_set (v := .inl v) (arr := arr) h') (ob_vk_set h4 rfl) (List.forall_mem_cons.mp h5).2 hw h6 h7)
  | astore_n x =>
    obtain rfl : nn = 1 := by simpa using (show (nn == 1) = true from hchk)
    rcases st with _ | ⟨v | v | v, st⟩ <;> try (cases h; done)
    obtain ⟨h9, h⟩ := ox_if_inv h
    cases h
    intro t9 H locs cells slots arr hl hP hD h2 h3 h4 h5 hw h6 h7
    exact lv_astore_n C.1 C.2.1 hd rfl (ox_ll_of h3) h9 rfl (fun arr' h' => k t9 H locs cells slots arr' hl hP hD h2 (ox_lr_set (v := .inr (.inr v)) (arr := arr) h') (ob_vk_set h4 (List.forall_mem_cons.mp h5).1) (List.forall_mem_cons.mp h5).2 hw h6 h7)
  | dup =>
    obtain rfl : nn = 1 := by simpa using (show (nn == 1) = true from hchk)
    rcases st with _ | ⟨v, st⟩
    · cases h
    obtain ⟨h9, h⟩ := ox_ifn_inv h
    cases h
    intro t9 H locs cells slots arr hl hP hD h2 h3 h4 h5 hw h6 h7
    refine lv_dup C.1 C.2.1 hd ?_ (k t9 H locs cells slots arr hl hP hD h2 h3 h4 (ob_vkc (List.forall_mem_cons.mp h5).1 h5) hw h6 h7)
    rcases v with v | v | v
    · rfl
    · exact absurd rfl h9
    · rfl
  | imul =>
    obtain rfl : nn = 1 := by simpa using (show (nn == 1) = true from hchk)
    rcases st with _ | ⟨y | y | y, _ | ⟨x | x | x, st⟩⟩ <;> try (cases h; done)
    cases h
    intro t9 H locs cells slots arr hl hP hD h2 h3 h4 h5 hw h6 h7
    have z := k t9 H locs cells slots arr hl hP hD h2 h3 h4 (ob_vkc rfl (List.forall_mem_cons.mp (List.forall_mem_cons.mp h5).2).2) hw h6 h7
    refine lv_imul C.1 C.2.1 hd ?_
    rw [ox_mul]
    exact z
  | iinc x z =>
    obtain rfl : nn = 3 := by simpa using (show (nn == 3) = true from hchk)
    cases hl : ls[x]? with
    | none => dsimp only at h; rw [hl] at h; cases h
    | some v =>
      dsimp only at h
      rw [hl] at h
      rcases v with v | v | r <;> try (cases h; done)
      obtain ⟨h9, h⟩ := ox_if_inv h
      cases h
      intro t9 H locs cells slots arr hll hP hD h2 h3 h4 h5 hw h6 h7
      have hm : (x, ox_mv (ob_G G (as0 ++ t9)) (.inl v)) ∈ ox_ll (ob_G G (as0 ++ t9)) ls := ox_ll_mem.mpr ⟨_, hl, rfl, rfl⟩
      obtain ⟨q, hq⟩ := List.getElem?_of_mem hm
      exact lv_iinc (v := Int32.ofInt (ox_w (v + z))) C.1 C.2.1 hd (ox_ll_of h3) hq (by rw [ox_add]) h9 rfl (fun arr' h' => k t9 H locs cells slots arr' hll hP hD h2 (ox_lr_set (v := .inl (ox_w (v + z))) (arr := arr) h') (ob_vk_set h4 rfl) h5 hw h6 h7)
  | if_icmp cd oo =>
    cases cd <;> try (cases h; done)
    have hc : (nn == 3 && ox_no pc oo) = true := hchk
    simp only [Bool.and_eq_true, beq_iff_eq] at hc
    obtain ⟨rfl, hc⟩ := hc
    have hc : 0 ≤ (pc : Int) + oo := of_decide_eq_true hc
    have ht : (pc : Int) + oo = (ox_tgt pc oo : Int) := by unfold ox_tgt; omega
    rcases st with _ | ⟨y | y | y, _ | ⟨x | x | x, st⟩⟩ <;> try (cases h; done)
    obtain ⟨⟨q1, q2, q3, q4⟩, h⟩ := ox_if_inv h
    have hx : ox_i32 x := ⟨by omega, by omega⟩
    have hy : ox_i32 y := ⟨by omega, by omega⟩
    intro t9 H locs cells slots arr hl hP hD h2 h3 h4 h5 hw h6 h7
    have h5' := (List.forall_mem_cons.mp (List.forall_mem_cons.mp h5).2).2
    refine lv_icmp_ge C.1 C.2.1 hd ht (fun q => ?_) (fun q => ?_)
    · have q : y ≤ x := by
        have := Int32.le_iff_toInt_le.mp q
        rw [ox_toI hx, ox_toI hy] at this
        exact this
      rw [if_pos q] at h
      cases h
      exact k t9 H locs cells slots arr hl hP hD h2 h3 h4 h5' hw h6 h7
    · have q : ¬ y ≤ x := fun z => q (Int32.le_iff_toInt_le.mpr (by rw [ox_toI hx, ox_toI hy]; exact z))
      rw [if_neg q] at h
      cases h
      exact k t9 H locs cells slots arr hl hP hD h2 h3 h4 h5' hw h6 h7
  | goto oo =>
    have hc : (nn == 3 && ox_no pc oo) = true := hchk
    simp only [Bool.and_eq_true, beq_iff_eq] at hc
    obtain ⟨rfl, hc⟩ := hc
    have hc : 0 ≤ (pc : Int) + oo := of_decide_eq_true hc
    have ht : (pc : Int) + oo = (ox_tgt pc oo : Int) := by unfold ox_tgt; omega
    cases h
    intro t9 H locs cells slots arr hl hP hD h2 h3 h4 h5 hw h6 h7
    exact lv_goto C.1 C.2.1 hd ht (k t9 H locs cells slots arr hl hP hD h2 h3 h4 h5 hw h6 h7)
  | new kx =>
    rcases f with _ | ⟨c1, f⟩
    · cases h
    rcases b with _ | b
    · cases h
    have hc : (nn == 3 && (decide (c1 < 11) && ox_in1 (.classLink own kx (ox_cn c1)) && ox_in1 (.instantiable (ox_cn c1) (ox_nf c1)) && ox_in1 (.initialized (ox_cn c1)))) = true := hchk
    simp only [Bool.and_eq_true, beq_iff_eq, decide_eq_true_eq] at hc
    obtain ⟨rfl, ⟨⟨hc1, hw1⟩, hw2⟩, hw3⟩ := hc
    obtain ⟨h9, h⟩ := ox_if_inv h
    cases h
    exact ob_r_new C hc1 hw1 hw2 hw3 h9 hd k
  | newarray a =>
    rcases f with _ | ⟨ty, f⟩
    · cases h
    rcases b with _ | b
    · cases h
    rcases st with _ | ⟨z | z | z, st⟩ <;> try (cases h; done)
    have hc : (nn == 2 && ob_aok ty a) = true := hchk
    simp only [Bool.and_eq_true, beq_iff_eq] at hc
    obtain ⟨rfl, hc⟩ := hc
    obtain ⟨h9, h⟩ := ox_if_inv h
    cases h
    exact ob_r_newa C hc h9 hd k
  | anewarray kx =>
    rcases b with _ | b
    · cases h
    rcases st with _ | ⟨z | z | z, st⟩ <;> try (cases h; done)
    have hc : (nn == 3 && ox_in1 (.classLink own kx "Outlinery$Reading")) = true := hchk
    simp only [Bool.and_eq_true, beq_iff_eq] at hc
    obtain ⟨rfl, hc⟩ := hc
    obtain ⟨h9, h⟩ := ox_if_inv h
    cases h
    exact ob_r_newq C hc h9 hd k
  | aastore =>
    obtain rfl : nn = 1 := by simpa using (show (nn == 1) = true from hchk)
    dsimp only at h
    split at h
    · rename_i v z a r
      split at h
      · rename_i mm rs fs hq1 hq2
        obtain ⟨h9, h⟩ := ox_if_inv h
        cases h
        exact ob_r_aast C hq1 hq2 h9 hd k
      · cases h
    · cases h
  | putfield kx =>
    dsimp only at h
    split at h
    · rename_i c1 j fr x a r
      have hc : (nn == 3 && (decide (c1 < 11) && decide (j < ox_nf c1) && ox_in1 (.fieldLink own kx (ox_F c1 j).1 (ox_F c1 j).2.1 (ox_F c1 j).2.2.1) && (!(ox_F c1 j).2.2.2 || decide ((ox_F c1 j).1 = own)) && (if (ox_fk c1 j).1 = 0 then decide (ox_T c1 j = .int) else ob_rty (ox_T c1 j)))) = true := hchk
      rw [Bool.and_eq_true, Bool.and_eq_true, Bool.and_eq_true, Bool.and_eq_true, Bool.and_eq_true, Bool.or_eq_true, Bool.not_eq_true', decide_eq_true_eq, decide_eq_true_eq, decide_eq_true_eq, beq_iff_eq] at hc
      obtain ⟨rfl, ⟨⟨⟨hc1, hj⟩, hw1⟩, hfi⟩, hty⟩ := hc
      cases ha : B[a]? with
      | none => rw [ha] at h; cases h
      | some o =>
        rw [ha] at h
        rcases o with ⟨c2, fs⟩ | o
        · obtain ⟨⟨rfl, g2, g3⟩, h⟩ := ox_if_inv h
          cases h
          rw [if_pos g3] at hty
          have hty := of_decide_eq_true hty
          have hfi : (ox_F c2 j).2.2.2 = false ∨ ((ox_F c2 j).1 = own ∧ own ≠ "OutlineryLaw") := by
            rcases hfi with q | q
            · exact Or.inl q
            · by_cases hlo : own = "OutlineryLaw"
              · exfalso
                rw [hlo] at q
                exact (show ∀ c, c < 11 → ∀ j, j < ox_nf c → (ox_F c j).1 ≠ "OutlineryLaw" by decide +kernel) c2 hc1 j hj q
              · exact Or.inr ⟨q, hlo⟩
          exact ob_r_put (u := .inl x) (u9 := .inl x) C hc1 hj hw1 hfi ha g2 (fun as => rfl) rfl (fun as => by rw [hty]; exact ⟨rfl, rfl⟩) hd k
        · cases h
    · rename_i c1 j fr kk a r
      have hc : (nn == 3 && (decide (c1 < 11) && decide (j < ox_nf c1) && ox_in1 (.fieldLink own kx (ox_F c1 j).1 (ox_F c1 j).2.1 (ox_F c1 j).2.2.1) && (!(ox_F c1 j).2.2.2 || decide ((ox_F c1 j).1 = own)) && (if (ox_fk c1 j).1 = 0 then decide (ox_T c1 j = .int) else ob_rty (ox_T c1 j)))) = true := hchk
      rw [Bool.and_eq_true, Bool.and_eq_true, Bool.and_eq_true, Bool.and_eq_true, Bool.and_eq_true, Bool.or_eq_true, Bool.not_eq_true', decide_eq_true_eq, decide_eq_true_eq, decide_eq_true_eq, beq_iff_eq] at hc
      obtain ⟨rfl, ⟨⟨⟨hc1, hj⟩, hw1⟩, hfi⟩, hty⟩ := hc
      cases ha : B[a]? with
      | none => rw [ha] at h; cases h
      | some o =>
        rw [ha] at h
        rcases o with ⟨c2, fs⟩ | o
        · obtain ⟨⟨rfl, g2, g3, g4⟩, h⟩ := ox_if_inv h
          cases h
          rw [if_neg g3] at hty
          have hfi : (ox_F c2 j).2.2.2 = false ∨ ((ox_F c2 j).1 = own ∧ own ≠ "OutlineryLaw") := by
            rcases hfi with q | q
            · exact Or.inl q
            · by_cases hlo : own = "OutlineryLaw"
              · exfalso
                rw [hlo] at q
                exact (show ∀ c, c < 11 → ∀ j, j < ox_nf c → (ox_F c j).1 ≠ "OutlineryLaw" by decide +kernel) c2 hc1 j hj q
              · exact Or.inr ⟨q, hlo⟩
          refine ob_r_put (u := ob_r kk) (u9 := .inr (some kk)) C hc1 hj hw1 hfi ha g2 (fun as => ob_mvr) (decide_eq_true g4) (fun as => ?_) hd k
          cases hT : ox_T c2 j <;> rw [hT] at hty <;> first | exact ⟨rfl, rfl⟩ | cases hty
        · cases h
    · cases h
  | getfield kx =>
    dsimp only at h
    split at h
    · rename_i c1 j fr a r
      have hc : (nn == 3 && (decide (c1 < 11) && decide (j < ox_nf c1) && ox_in1 (.fieldLink own kx (ox_F c1 j).1 (ox_F c1 j).2.1 (ox_F c1 j).2.2.1))) = true := hchk
      simp only [Bool.and_eq_true, beq_iff_eq, decide_eq_true_eq] at hc
      obtain ⟨rfl, ⟨hc1, hj⟩, hw1⟩ := hc
      cases ha : B[a]? with
      | none => rw [ha] at h; cases h
      | some o =>
        rw [ha] at h
        rcases o with ⟨c2, fs⟩ | o
        · obtain ⟨hcc, h8⟩ := ox_if_inv h
          have hcc : c2 = c1 := hcc
          subst hcc
          dsimp only at h8
          cases hf : fs[j]? with
          | none => rw [hf] at h8; cases h8
          | some v =>
            rw [hf] at h8
            rcases v with v | _ | kk
            · cases h8
            · cases h8
            · cases h8
              exact ob_r_get C hc1 hj hw1 ha hf hd k
        · cases h
    · cases h
  | invokespecial kx =>
    rcases f with _ | ⟨_ | _ | z, f⟩
    · cases h
    · have hc : (nn == 3 && ox_in1 (.methodLink own kx Lib.objectInit)) = true := hchk
      simp only [Bool.and_eq_true, beq_iff_eq] at hc
      obtain ⟨rfl, hc⟩ := hc
      have h : (match (generalizing := false) st with | .inr (.inr (500, a, 0)) :: r => if ox_sc r ≤ 8 then some (.inl (pc + 3, b, d, ls, r, B)) else none | _ => none : Option (ob_X ⊕ ob_B)) = some (.inl x') := h
      split at h
      · obtain ⟨h9, h⟩ := ox_if_inv h
        cases h
        exact ob_r_obj C hc h9 hd k
      · cases h
    · rcases f with _ | ⟨y, _ | ⟨np, f⟩⟩
      · cases h
      · cases h
      have hc : (nn == 3 && (decide (y < 11) && (ox_in1 (.methodLink own kx (ob_yn y)) || decide (Jvm.Cond.methodLinkNest own kx (ob_yn y) "Outlinery" ∈ ox_nest)) && ox_in1 (.instanceMethod (ob_yn y)) && ox_in1 (.initialized (ox_cn y)) && decide ((parseMethodDescriptor (ob_yn y).desc).map (fun d => d.parameters.length) = some np))) = true := hchk
      rw [Bool.and_eq_true, Bool.and_eq_true, Bool.and_eq_true, Bool.and_eq_true, Bool.and_eq_true, beq_iff_eq] at hc
      obtain ⟨rfl, ⟨⟨⟨-, hw1⟩, hw2⟩, -⟩, hnp⟩ := hc
      have h : ob_call CC ms pc b d ls st B y np = some (.inl x') := h
      unfold ob_call at h
      cases hM : ms y with
      | none => rw [hM] at h; cases h
      | some M' =>
        rw [hM] at h
        obtain ⟨⟨g1, g2, g3, g4⟩, h⟩ := ox_if_inv h
        split at h
        · rename_i k9 av hav
          split at h
          · rename_i B' hC
            cases h
            exact ob_r_call C hR hO hE hM hw1 hw2 (of_decide_eq_true hnp) g1 g2 g3 g4 hav hC hd k
          · cases h
        · cases h
    · cases h
  | return_ =>
    dsimp only at h
    split at h
    · cases h
    · cases h
  | _ => cases h
theorem ob_run_ok (C : ob_Cx p l R s m args meth c G mc ms9 n cc own) {dd : Nat} {M : ob_M} {CC : ob_C} {ms : Nat → Option ob_M} (hn : n = M.2.2.1) (hown : own = ox_cn M.1) (hlaw : own = "OutlineryLaw" → M.1 = 11) (hCo : ob_Co M cc) (hR : dd + 11 ≤ R.frames ∧ 41 * dd + 241 ≤ R.locals) (hO : ob_Or l dd ms CC) (hE : ∀ c M, ms c = some M → ob_Eo c M) (hret : meth.sig.returnType = none) {B' : ob_B} :
    ∀ (N : Nat) (x : ob_X), ob_run M CC ms N x = some B' → ob_S9 p l e R s m args below meth c G as0 mc ms9 n (MQ below (ob_Qc G as0 B') args s mc ms9 (ox_A G)) x
  | 0, _, h => by cases h
  | N + 1, x, h => by
    obtain ⟨pc, b, d, ls, st, B⟩ := x
    have h : (bif ob_ir (M.2.1 pc) st then some B else match ob_st M CC ms (pc, b, d, ls, st, B) with | some (.inl x) => ob_run M CC ms N x | _ => none) = some B' := h
    cases hb : ob_ir (M.2.1 pc) st with
    | true =>
      rw [hb] at h
      cases h
      obtain ⟨nn, f, hm, rfl⟩ : ∃ nn f, M.2.1 pc = some (.return_, nn, f) ∧ st = [] := by
        unfold ob_ir at hb
        split at hb
        · rename_i hm
          exact ⟨_, _, hm, rfl⟩
        · cases hb
      obtain ⟨hd, hchk⟩ := hCo pc _ _ _ hm
      obtain rfl : nn = 1 := by simpa using (show (nn == 1) = true from hchk)
      intro t9 H locs cells slots arr hl hP hD h2 h3 h4 h5 hw h6 h7
      refine W.widen (k := mc) (n := ms9) (by dsimp only at h6; omega) (by dsimp only at h7; omega) ?_
      exact W.vret C.1 C.2.1 hret (fun t ht hW => ⟨rfl, h2.F ht, t9, hl, hw, by rw [ht]; exact hP, hD⟩) h2.2.2 hd C.2.2.2.2.2.2.2.2.1
    | false =>
      rw [hb] at h
      have h : (match ob_st M CC ms (pc, b, d, ls, st, B) with | some (.inl x) => ob_run M CC ms N x | _ => none) = some B' := h
      split at h
      · rename_i x' hx
        exact ob_step C hn hown hlaw hCo hR hO hE hx (ob_run_ok C hn hown hlaw hCo hR hO hE hret N x' h)
      · cases h
theorem ob_to_ok (C : ob_Cx p l R s m args meth c G mc ms9 n cc own) {dd P : Nat} {M : ob_M} {CC : ob_C} {ms : Nat → Option ob_M} (hn : n = M.2.2.1) (hown : own = ox_cn M.1) (hlaw : own = "OutlineryLaw" → M.1 = 11) (hCo : ob_Co M cc) (hR : dd + 11 ≤ R.frames ∧ 41 * dd + 241 ≤ R.locals) (hO : ob_Or l dd ms CC) (hE : ∀ c M, ms c = some M → ob_Eo c M) {x' : ob_X} (k : ob_S9 p l e R s m args below meth c G as0 mc ms9 n Q x') :
    ∀ (N : Nat) (x : ob_X), ob_to M CC ms P N x = some x' → ob_S9 p l e R s m args below meth c G as0 mc ms9 n Q x
  | 0, _, h => by cases h
  | N + 1, x, h => by
    have h : (if x.1 = P then some x else match ob_st M CC ms x with | some (.inl x) => ob_to M CC ms P N x | _ => none) = some x' := h
    by_cases hp : x.1 = P
    · rw [if_pos hp] at h; cases h; exact k
    · rw [if_neg hp] at h
      split at h
      · rename_i x2 hx
        exact ob_step C hn hown hlaw hCo hR hO hE hx (ob_to_ok C hn hown hlaw hCo hR hO hE k N x2 h)
      · cases h
end OB95
theorem ob_ct_of {l : Launch} {d N y : Nat} {M : ob_M} {CC : ob_C} {ms : Nat → Option ob_M} {bytes : ByteArray} {G : ox_G} {as : List Nat} {av : List ox_V} {B B' : ob_B} (hE : ∀ c M, ms c = some M → ob_Eo c M) (hO : ob_Or l d ms CC) (hM : ms y = some M) (hCo : ob_Co M bytes)
    (hrun : ob_run M CC ms N (0, M.2.2.2.1, M.2.2.2.2, ox_in M.2.2.1 av, [], B) = some B') (hsc : ox_sc av ≤ M.2.2.1) : ob_Ct l (d + 1) y (.code (ob_yn y) bytes M.2.2.1 none) M.2.2.2.1 M.2.2.2.2 G as av B B' := by
  obtain ⟨-, -, e2, e3, e4, e5, e6, e7, -⟩ := hE y M hM
  refine Met.ofW (cc := bytes) (maxL := M.2.2.1) (ret := none) e5 rfl (fun p e s m args below meth c s₁ BL hml hP => ?_)
  obtain ⟨rfl, hok, hl, hw, hK, hAO, hN, hPP, hDD, hbs⟩ := hP
  rw [lg_entry_eq]
  have hC : ob_Cx p l (headSpec ((Jvm.Cond.code (ob_yn y) bytes M.2.2.1 none) :: ox_good) (ob_rm (d + 1) M.2.2.2.1 M.2.2.2.2)).room s m ((av.map (ox_mv (ob_G G as))).toArray) meth c G M.2.2.2.1 M.2.2.2.2 M.2.2.1 bytes (ox_cn M.1) :=
    ⟨BL.exec, BL.bytes, hml, by rw [e2]; exact findClass_of_methodNamed BL.named, fun w hw => atoms_spec BL.pre w (List.mem_cons_of_mem _ hw), hK, hAO, hN, BL.notSynchronized, fun _ => (name_of_methodNamed BL.named BL.method).1, ⟨by show 10 ≤ d + 1 + 10; omega, by show 200 ≤ 41 * (d + 1) + 200; omega, Nat.le_refl _, Nat.le_refl _⟩, fun q hq => Nat.le_trans hbs hq⟩
  have hlaw : ox_cn M.1 = "OutlineryLaw" → M.1 = 11 := by
    rw [e2]
    exact fun q => absurd q ((show ∀ c, c < 11 → ox_cn c ≠ "OutlineryLaw" by decide) y e3)
  have z := ob_run_ok (below := below) (e := e) (as0 := as) hC rfl rfl hlaw hCo ⟨by show d + 11 ≤ d + 1 + 10; omega, by show 41 * d + 241 ≤ 41 * (d + 1) + 200; omega⟩ hO hE BL.returns N _ hrun [] s.heap [] 0 0 ((lg_sl (av.map (ox_mv (ob_G G as))) ++ List.replicate (M.2.2.1 - (lg_sl (av.map (ox_mv (ob_G G as)))).length) Slot.unset).toArray)
  rw [List.append_nil] at z
  exact z hl hPP hDD ⟨Nat.le_refl _, fun _ _ _ => rfl, fun z hz => by cases hz⟩ (ox_lr_entry _ hsc) (fun v hv => by
    rcases ox_in_mem _ _ _ hv with rfl | g
    · rfl
    · exact hok v g) (fun v hv => by cases hv) hw (by dsimp only; omega) (by dsimp only; omega)
theorem ob_orc {l : Launch} {ms : Nat → Option ob_M} (hE : ∀ c M, ms c = some M → ob_Eo c M) : ∀ d, ob_Or l d ms (ob_zz ms d)
  | 0 => fun y av B B' h => by cases h
  | d + 1 => fun y av B B' h M hM bytes hg hCo G as => by
    have h : (match ms y with | none => none | some M => bif Nat.ble (ox_sc av) M.2.2.1 then ob_run M (ob_zz ms d) ms 2000 (0, M.2.2.2.1, M.2.2.2.2, ox_in M.2.2.1 av, [], B) else none) = some B' := h
    rw [hM] at h
    dsimp only at h
    cases hb : Nat.ble (ox_sc av) M.2.2.1 with
    | false => rw [hb] at h; cases h
    | true =>
      rw [hb] at h
      exact ob_ct_of (N := 2000) hE (ob_orc hE d) hM hCo h (Nat.le_of_ble_eq_true hb)
