/-! ===== the two methods of String that the class calls: length and charAt ===== -/
theorem ox_sbn {s u : State} (e2 : u = s.setFrames u.frames) : s.sameButNew u [] 0 0 := by
  have hh : u.heap = s.heap := by
    have q := congrArg State.heap e2
    exact q
  have hu : u.slotsUsed = s.slotsUsed := by
    have q := congrArg State.slotsUsed e2
    exact q
  refine ⟨?_, ?_, ?_, ?_, ?_, ?_⟩
  · rw [hh, hu]; exact e2
  · rw [hh]; exact Nat.le_refl _
  · rw [hh]; exact Nat.le_refl _
  · rw [hh, hu, List.drop_eq_nil_of_le (by simp)]
    rfl
  · rw [hh, List.drop_eq_nil_of_le (by simp)]
    exact Nat.le_refl _
  · intro a c hc
    exact ⟨c, by rw [hh]; exact hc, rfl, rfl, fun i _ => rfl⟩
/-- a free contract of the library that makes nothing, as a callee's -/
theorem ox_cold {l : Launch} {x : MethodName} {S : Spec} {P : Array Value → State → Prop} {Q : Array Value → State → Outcome → State → Prop} {ws : List Jvm.Cond} {Pc : Array Value → State → Prop} {Qc : Array Value → State → Outcome → State → Prop} {XC : String → State → State → Prop} {free : Addr → Prop} (h : MetFree l x S P (fun _ _ _ _ _ => True) Q)
    (hP : ∀ a U, (∀ w ∈ ws, w.before a U = true) → Pc a U → S.pre.before a U = true ∧ P a U) (hQ : ∀ a U o t, Q a U o t → PureEnd U o t ∧ (t.heap = U.heap → Qc a U o t)) : vx_Met l x ws S.room Pc Qc XC 0 0 free := by
  intro p e ha hc hk s m args below hf happ hp hk'
  obtain ⟨a1, a2, a3, a4, a5, a6, a7, a8⟩ := (Spec.appliesLoose_iff hf).mp happ
  obtain ⟨b1, b2⟩ := hP args s (fun w hw => atoms_spec a8 w hw) hp
  obtain ⟨n, o, h1, h2, h3, h4⟩ := h p e ha hc hk s m args below hf ((Spec.appliesLoose_iff hf).mpr ⟨a1, a2, a3, a4, a5, a6, a7, b1⟩) b2 trivial
  obtain ⟨⟨q1, q2, q3⟩, q4⟩ := hQ _ _ _ _ h4
  have e2 := State.sameBut_nil.mp q3
  have hh : (stepsAlone p.tables e n s).heap = s.heap := by
    have q := congrArg State.heap e2
    exact q
  exact ⟨n, o, h1, h2, h3, Or.inl ⟨q4 hh, [], ⟨q1, q2, ox_sbn e2⟩, fun q hq => by cases hq⟩⟩
/-- it gives v and leaves the heap -/
def ox_sQ (v : Value) : Array Value → State → Outcome → State → Prop := fun _ st o t => o = .returned (some v) ∧ t.heap = st.heap
def ox_sX : String → State → State → Prop := fun _ _ _ => False
def ox_sP (G : ox_G) (a0 : Array Value) : Array Value → State → Prop := fun a U => a = a0 ∧ ox_Fx G U U.heap ∧ ox_bs G ≤ U.heap.size
theorem ox_sblind {G : ox_G} {a0 : Array Value} : FrameBlind (ox_sP G a0) := fun a U g mk h => ⟨h.1, ox_Fx_calling h.2.1, h.2.2⟩
def ox_sM (l : Launch) (y : MethodName) (cw : Jvm.Cond) (rm : Room) (G : ox_G) (a0 : Array Value) (v : Value) : Prop := vx_Met l y (cw :: ox_good) rm (ox_sP G a0) (ox_sQ v) ox_sX 0 0 (ox_A G)
def ox_in1 (w : Jvm.Cond) : Bool := decide (w ∈ tables_1) && goodWord w
theorem ox_in1_of {w : Jvm.Cond} (h : ox_in1 w = true) : w ∈ ox_good := by
  unfold ox_in1 at h
  rw [Bool.and_eq_true, decide_eq_true_eq] at h
  exact List.mem_filter.mpr ⟨List.mem_append_right _ h.1, h.2⟩
def ox_s0 : Room := { frames := 2, locals := 48 }
def ox_s1 : Room := { frames := 3, locals := 100 }
abbrev ox_sn : String := "java/lang/String"
abbrev ox_cwC : Jvm.Cond := .code Lib.Cold.length.CO Lib.String.coder.code 1 (some .byte)
abbrev ox_cwI : Jvm.Cond := .code Lib.Cold.charAt.IL Lib.String.isLatin1.code 1 (some .boolean)
abbrev ox_cwL : Jvm.Cond := .code Lib.Cold.length.x Lib.String.length.code 1 (some .int)
abbrev ox_cwA : Jvm.Cond := .code Lib.Cold.charAt.x Lib.Str.charAt.code 2 (some .char)
abbrev ox_cwB : Jvm.Cond := .code Lib.Cold.charAt.SL Lib.SL1.charAt.code 2 (some .char)
theorem ox_jdkw : ∀ w ∈ [ox_cwC, ox_cwI, ox_cwL, ox_cwA, ox_cwB, .code Lib.Cold.latin1.SC Lib.Str.checkIndex.code 2 none, .code Lib.Cold.checkIndex.PC Lib.Preconditions.checkIndex.code 3 (some .int), .initialized ox_sn, .initialized Lib.sl1, .initialized Lib.pre_,
    .fieldLink ox_sn 38 ox_sn "COMPACT_STRINGS" "Z", .fieldLink ox_sn 15 ox_sn "coder" "B", .fieldLink ox_sn 9 ox_sn "value" "[B", .methodLink ox_sn 335 Lib.Cold.length.CO, .selects ox_sn Lib.Cold.length.CO Lib.Cold.length.CO, .instanceMethod Lib.Cold.length.CO,
    .methodLink ox_sn 492 Lib.Cold.charAt.IL, .selects ox_sn Lib.Cold.charAt.IL Lib.Cold.charAt.IL, .instanceMethod Lib.Cold.charAt.IL, .methodLink ox_sn 495 Lib.Cold.charAt.SL, .static Lib.Cold.charAt.SL, .methodLink Lib.sl1 9 Lib.Cold.latin1.SC, .static Lib.Cold.latin1.SC,
    .fieldLink ox_sn 1053 Lib.pre_ "SIOOBE_FORMATTER" "Ljava/util/function/BiFunction;", .methodLink ox_sn 1059 Lib.Cold.checkIndex.PC, .static Lib.Cold.checkIndex.PC, .instanceMethod Lib.Cold.length.x, .selects ox_sn Lib.Cold.length.x Lib.Cold.length.x, .instanceMethod Lib.Cold.charAt.x, .selects ox_sn Lib.Cold.charAt.x Lib.Cold.charAt.x], ox_in1 w = true := by decide +kernel
theorem ox_swi (i : Nat) {w : Jvm.Cond} (h : [ox_cwC, ox_cwI, ox_cwL, ox_cwA, ox_cwB, .code Lib.Cold.latin1.SC Lib.Str.checkIndex.code 2 none, .code Lib.Cold.checkIndex.PC Lib.Preconditions.checkIndex.code 3 (some .int), .initialized ox_sn, .initialized Lib.sl1, .initialized Lib.pre_,
    .fieldLink ox_sn 38 ox_sn "COMPACT_STRINGS" "Z", .fieldLink ox_sn 15 ox_sn "coder" "B", .fieldLink ox_sn 9 ox_sn "value" "[B", .methodLink ox_sn 335 Lib.Cold.length.CO, .selects ox_sn Lib.Cold.length.CO Lib.Cold.length.CO, .instanceMethod Lib.Cold.length.CO,
    .methodLink ox_sn 492 Lib.Cold.charAt.IL, .selects ox_sn Lib.Cold.charAt.IL Lib.Cold.charAt.IL, .instanceMethod Lib.Cold.charAt.IL, .methodLink ox_sn 495 Lib.Cold.charAt.SL, .static Lib.Cold.charAt.SL, .methodLink Lib.sl1 9 Lib.Cold.latin1.SC, .static Lib.Cold.latin1.SC,
    .fieldLink ox_sn 1053 Lib.pre_ "SIOOBE_FORMATTER" "Ljava/util/function/BiFunction;", .methodLink ox_sn 1059 Lib.Cold.checkIndex.PC, .static Lib.Cold.checkIndex.PC, .instanceMethod Lib.Cold.length.x, .selects ox_sn Lib.Cold.length.x Lib.Cold.length.x, .instanceMethod Lib.Cold.charAt.x, .selects ox_sn Lib.Cold.charAt.x Lib.Cold.charAt.x][i]? = some w) : w ∈ ox_good := ox_in1_of (ox_jdkw w (List.mem_of_getElem? h))
/-- a body of these: its walk from its entry -/
theorem ox_sbody {l : Launch} {y : MethodName} {bytes : ByteArray} {maxL : Nat} {ret : Option FieldType} {rm : Room} {G : ox_G} {vs : List Value} {v : Value} (hy : plainName y.cls = true)
    (body : ∀ (p : Program) (e : Env) (s : State) (m : MethodId) (below : List Frame) (meth : Method) (c : Code), p.tables.exec = Jvm.exec → c.code = bytes → c.maxLocals = maxL → s.vm.findClass y.cls = some m.cls → meth.locks = false → meth.sig.returnType = ret → (∀ w ∈ ox_good, w.before vs.toArray s = true) → ox_Fx G s s.heap → (∀ q, s.heap.size ≤ q → ox_A G q) →
      W p l e rm s m vs.toArray below meth c s.heap [] 0 0 (MQ below (ox_sQ v) vs.toArray s 0 0 (ox_A G)) (F0 m 0 ((lg_sl vs ++ List.replicate (maxL - (lg_sl vs).length) Slot.unset).toArray) [])) : ox_sM l y (.code y bytes maxL ret) rm G vs.toArray v := by
  refine vx_ofW hy rfl (fun p e s m args below meth c s₁ B hml hT hP => ?_)
  obtain ⟨rfl, hFx, hbs⟩ := hP
  rw [lg_entry_eq]
  exact vx_ret (body p e s m below meth c B.exec B.bytes hml (findClass_of_methodNamed B.named) B.notSynchronized B.returns (fun w hw => atoms_spec B.pre w (List.mem_cons_of_mem _ hw)) hFx (fun q hq => Nat.le_trans hbs hq))
theorem ox_s_coder {l : Launch} {G : ox_G} {i : Nat} (hi : i < 6) : ox_sM l Lib.Cold.length.CO ox_cwC ox_s0 G [Value.ref (ox_ad G (200, i, 0))].toArray (.int 0) := by
  refine ox_sbody (by decide) (fun p e s m below meth c hx hb hml ho hlk hr hts hF hA => ?_)
  have hS : va_S (ox_A G) s.heap s.heap [] := ⟨Nat.le_refl _, fun _ _ _ => rfl, fun z hz => by cases hz⟩
  refine va_gets hx hb hF.2.2.2.2.2.2.2.2.2.1 hS ho (hts _ (ox_swi 10 rfl)) (fun _ h => h) (index := 38) (by decide +kernel) ?_
  refine lv_if_eq hx hb (off := 10) (tgt := 13) (by decide +kernel) (by decide) (fun h => absurd h (by decide)) (fun _ => ?_)
  refine lv_aload_n hx hb (k := 0) (x := ox_ad G (200, i, 0)) (by decide +kernel) rfl rfl ?_
  refine vk_getf hx hb (hF.2.1.1 i hi).2.1 hS ho (hts _ (ox_swi 11 rfl)) (fun _ h => h) (by decide +kernel) ?_
  refine lv_goto hx hb (off := 4) (tgt := 14) (by decide +kernel) (by decide) ?_
  exact ox_nret hx hb hr (by decide) (fun t ht hW => ⟨rfl, ht⟩) (fun q hq => by cases hq) (by decide +kernel) hlk
theorem ox_s_lat {l : Launch} {G : ox_G} {i : Nat} (hi : i < 6) : ox_sM l Lib.Cold.charAt.IL ox_cwI ox_s0 G [Value.ref (ox_ad G (200, i, 0))].toArray (.int 1) := by
  refine ox_sbody (by decide) (fun p e s m below meth c hx hb hml ho hlk hr hts hF hA => ?_)
  have hS : va_S (ox_A G) s.heap s.heap [] := ⟨Nat.le_refl _, fun _ _ _ => rfl, fun z hz => by cases hz⟩
  refine va_gets hx hb hF.2.2.2.2.2.2.2.2.2.1 hS ho (hts _ (ox_swi 10 rfl)) (fun _ h => h) (index := 38) (by decide +kernel) ?_
  refine lv_if_eq hx hb (off := 14) (tgt := 17) (by decide +kernel) (by decide) (fun h => absurd h (by decide)) (fun _ => ?_)
  refine lv_aload_n hx hb (k := 0) (x := ox_ad G (200, i, 0)) (by decide +kernel) rfl rfl ?_
  refine vk_getf hx hb (hF.2.1.1 i hi).2.1 hS ho (hts _ (ox_swi 11 rfl)) (fun _ h => h) (by decide +kernel) ?_
  refine lv_if_ne hx hb (off := 7) (tgt := 17) (by decide +kernel) (by decide) (fun h => absurd rfl h) (fun _ => ?_)
  refine lv_iconst hx hb (n := 1) (v := 1) (by decide +kernel) rfl ?_
  refine lv_goto hx hb (off := 4) (tgt := 18) (by decide +kernel) (by decide) ?_
  exact ox_nret hx hb hr (by decide) (fun t ht hW => ⟨rfl, ht⟩) (fun q hq => by cases hq) (by decide +kernel) hlk
theorem ox_sig {U : State} {a : Array Value} {y : MethodName} {bytes : ByteArray} {maxL : Nat} {ret : Option FieldType} (h : (Jvm.Cond.code y bytes maxL ret).before a U = true) : Lib.Cold.Sig U y := by
  obtain ⟨mk, hn⟩ := Cond.code_named h
  obtain ⟨meth, c, h1, -, -, -, -, -, -, h2⟩ := Cond.code_spec hn h
  exact ⟨mk, meth, hn, h1, h2⟩
theorem ox_j6 : ∀ i, i < 6 → ∀ j, j < 6 → j < ox_lens.getD i 0 → (0 : Int32) ≤ Int32.ofNat j ∧ Int32.ofNat j < Int32.ofNat (ox_lens.getD i 0) ∧ (Int32.ofNat j).toNatClampNeg = j ∧ ¬ Int32.ofNat j < 0 := by decide +kernel
theorem ox_l6 : ∀ i, i < 6 → ox_lens.getD i 0 ≤ 6 := by decide
theorem ox_s_l1 {l : Launch} {G : ox_G} {i j : Nat} (hi : i < 6) (hj : j < ox_lens.getD i 0) : ox_sM l Lib.Cold.charAt.SL ox_cwB ox_s0 G [Value.ref (ox_aV G i), .int (Int32.ofNat j)].toArray (.int ((((ox_byts.getD i []).getD j 0) &&& 255).toUInt32.toUInt16.toUInt32.toInt32)) := by
  obtain ⟨q1, q2, q3, q4⟩ := ox_j6 i hi j (Nat.lt_of_lt_of_le hj (ox_l6 i hi)) hj
  refine ox_cold (S := Lib.Cold.latin1.spec) (P := fun a U => ∃ fmt arr, Lib.Cold.latin1.P (ox_aV G i) (Int32.ofNat j) ((ox_byts.getD i []).getD j 0) fmt arr a U) (Q := Lib.Cold.latin1.Q ((ox_byts.getD i []).getD j 0)) ?_ ?_ (fun a U o t h => ⟨h.1, fun hh => ⟨h.2, hh⟩⟩)
  · intro p e ha hc hk s m args below hf happ hp hk'
    obtain ⟨fmt, arr, hp⟩ := hp
    exact Lib.Cold.latin1.met l (ox_aV G i) (Int32.ofNat j) ((ox_byts.getD i []).getD j 0) fmt arr p e ha hc hk s m args below hf happ hp hk'
  · intro a U hw hp
    obtain ⟨rfl, hF, hbs⟩ := hp
    have g : ∀ w ∈ ox_good, w.onTables = true → ∀ a' : Array Value, w.before a' U = true := fun w h ho a' => va_tabs ho rfl (hw w (List.mem_cons_of_mem _ h))
    obtain ⟨arr, t1, t2, t3, t4, t5, t6, -⟩ := (hF.2.1.1 i hi).2.2.2
    obtain ⟨fmt, hfmt, hfr⟩ : ∃ fmt, va_Z "jdk/internal/util/Preconditions" "SIOOBE_FORMATTER" "Ljava/util/function/BiFunction;" fmt (ox_A G) U U.heap ∧ (fmt = .null ∨ ∃ t, fmt = .ref t) := by
      rcases hF.2.2.2.2.2.2.2.2.2.2 with h | ⟨t, h⟩
      · exact ⟨_, h, Or.inl rfl⟩
      · exact ⟨_, h, Or.inr ⟨t, rfl⟩⟩
    obtain ⟨cf, kf, fi, f, b, cell, z1, z2, z3, z4, z5, z6, z7, -⟩ := hfmt
    refine ⟨?_, fmt, arr, rfl, t1, t2, t3, ?_, ?_, ox_sig (g _ (ox_swi 5 rfl) rfl #[]), ?_, rfl, ⟨cf, fi, kf, f, b, cell, z1, z2, z3, z4, z5, (fun h => by rw [h] at z6; cases z6), z7⟩, ox_sig (g _ (ox_swi 6 rfl) rfl #[]), ?_⟩
    · simp only [Lib.Cold.latin1.spec, Cond.before_and, Bool.and_eq_true]
      exact ⟨g _ (ox_swi 4 rfl) rfl _, rfl, g _ (ox_swi 21 rfl) rfl _, g _ (ox_swi 22 rfl) rfl _, g _ (ox_swi 7 rfl) rfl _⟩
    · rintro (h | h)
      · exact q4 h
      · rw [q3] at h; omega
    · rw [q3]; exact t6 j hj
    · simp only [Lib.Cold.checkIndex.spec, Cond.before_and, Bool.and_eq_true]
      exact ⟨g _ (ox_swi 5 rfl) rfl _, rfl, g _ (ox_swi 23 rfl) rfl _, g _ (ox_swi 24 rfl) rfl _, g _ (ox_swi 25 rfl) rfl _, g _ (ox_swi 9 rfl) rfl _⟩
    · rw [t5]
      simp only [Lib.Preconditions.checkIndex.spec, Cond.before_and, Bool.and_eq_true]
      refine ⟨g _ (ox_swi 6 rfl) rfl _, rfl, rfl, rfl, ?_, ?_, ?_⟩
      · rcases hfr with rfl | ⟨t, rfl⟩ <;> rfl
      · simpa [Cond.before, Cond.holds, Cond.value, Term.eval] using q1
      · simpa [Cond.before, Cond.holds, Cond.value, Term.eval] using q2
section OX21b
variable {p : Program} {l : Launch} {e : Env} {R : Room} {s : State} {m : MethodId} {args : Array Value} {below : List Frame} {meth : Method} {c : Code}
variable {G : ox_G} {mc ms n : Nat} {Q : State → Prop} {cc : ByteArray} {own : String} {pc b tl : Nat} {ls st : List ox_V} {σ : ox_H}
def ox_sC (p : Program) (s : State) (m : MethodId) (args : Array Value) (c : Code) (G : ox_G) (n : Nat) (cc : ByteArray) (own : String) : Prop := p.tables.exec = Jvm.exec ∧ c.code = cc ∧ c.maxLocals = n ∧ s.vm.findClass own = some m.cls ∧ (∀ w ∈ ox_good, w.before args s = true) ∧ ox_Fx G s s.heap ∧ (∀ q, s.heap.size ≤ q → ox_A G q)
theorem ox_sback {H : Heap} {locs : List Loc} {cells slots : Nat} {arr : Array Slot} {st0 rest : List Value} {v : Value} {a : Array Value} (h2 : va_S (ox_A G) s.heap H locs) (hr : vx_Run p l e R s m args below meth c H locs cells slots 0 0 (F0 m pc arr st0) rest (ox_sQ v a) ox_sX (ox_A G))
    (kk : ∀ locs1, va_S (ox_A G) s.heap H locs1 → W p l e R s m args below meth c H locs1 cells slots Q (F0 m (pc + 3) arr (v :: rest))) : W p l e R s m args below meth c H locs cells slots Q (F0 m pc arr st0) := by
  intro T hT X
  rcases hr T hT X with ⟨v', st₀, t, T', L, h0, X', hL, e1, e2, ⟨hv, hh⟩, st⟩ | ⟨q, st₀, t, T', L, E, ce, h0, X', hL, e1, e2, hx, -⟩
  · cases hv
    obtain ⟨t2, a1, b1⟩ := kk (locs ++ L) ⟨h2.1, h2.2.1, fun z hz => (List.mem_append.mp hz).elim (h2.2.2 z) (hL z)⟩ T' (e1.trans (hh.trans h0)) X'
    exact ⟨t2, st t2 a1, b1⟩
  · exact hx.elim
theorem ox_s_at (C : ox_sC p s m args c G n cc own) {H : Heap} {locs : List Loc} (h2 : va_S (ox_A G) s.heap H locs) {a : Array Value} : ∀ U : State, U.heap = H → s.WarmedH U.vm → ox_sP G a a U := by
  intro U hU hW
  subst hU
  exact ⟨rfl, ox_Fx_to hW h2 C.2.2.2.2.2.1, Nat.le_trans (C.2.2.2.2.2.2 _ (Nat.le_refl _)) h2.1⟩
theorem ox_spay (hts : ∀ w ∈ ox_good, w.before args s = true) {cw : Jvm.Cond} (hcw : cw ∈ ox_good) : ∀ w ∈ cw :: ox_good, ∀ (a' : Array Value) (U : State), s.WarmedH U.vm → w.before a' U = true := by
  intro w hw a' U hW
  have hw : w ∈ ox_good := by
    rcases List.mem_cons.mp hw with rfl | hw
    · exact hcw
    · exact hw
  exact word_at hW (ox_good_ok w hw) (hts w hw)
theorem ox_scallV (C : ox_sC p s m args c G n cc own) {i idx maxL : Nat} {y : MethodName} {bytes : ByteArray} {ret : Option FieldType} {rm : Room} {As rest : List Value} {v : Value} (hM : ox_sM l y (.code y bytes maxL ret) rm G (Value.ref (ox_ad G (200, i, 0)) :: As).toArray v) (hi6 : i < 6)
    (hcw : Jvm.Cond.code y bytes maxL ret ∈ ox_good) (hini : Jvm.Cond.initialized y.cls ∈ ox_good) (hl : (Jvm.Cond.methodLink own idx y).before args s = true) (hi : Jvm.Cond.instanceMethod y ∈ ox_good) (hse : Jvm.Cond.selects ox_sn y y ∈ ox_good) (hne : y.cls ≠ "java/lang/invoke/MethodHandle" ∧ y.cls ≠ "java/lang/invoke/VarHandle")
    (hnp : ∀ sig, parseMethodDescriptor y.desc = some sig → As.length = sig.parameters.length) (hrm : rm.cells = 0 ∧ rm.slots = 0 ∧ rm.frames + 1 ≤ R.frames ∧ 8 + (maxL + 11) + rm.locals ≤ R.locals) {H : Heap} {locs : List Loc} {cells slots : Nat} {arr : Array Slot} (h2 : va_S (ox_A G) s.heap H locs) (harr : arr.size = n)
    (hcat : (rest.map fun v => v.category).sum ≤ 8) (hcs : cells ≤ R.cells ∧ slots ≤ R.slots) (hd : decode cc pc = .ok (.invokevirtual idx, 3)) (kk : ∀ locs1, va_S (ox_A G) s.heap H locs1 → W p l e R s m args below meth c H locs1 cells slots Q (F0 m (pc + 3) arr (v :: rest))) :
    W p l e R s m args below meth c H locs cells slots Q (F0 m pc arr (As.reverse ++ .ref (ox_ad G (200, i, 0)) :: rest)) := by
  have hts := C.2.2.2.2.1
  exact ox_sback h2 (vx_runV (C := ox_sn) (b := ox_ad G (200, i, 0)) (As := As) ⟨C.1, C.2.1, C.2.2.1, C.2.2.2.1, hts⟩ hM ⟨⟨hrm.1, hrm.2.1, hrm.2.2.1, hrm.2.2.2, ox_spay hts hcw, List.mem_cons_self, hts _ hcw, hts _ hini, hne, hnp, hl⟩, hts _ hi, hts _ hse⟩ ⟨ox_sblind, vk_recv C.2.2.2.2.2.1.2.1 hi6 h2, ox_s_at C h2⟩ rfl rfl harr rfl (lv_room (pc := pc) hcat) hd hcs) kk
theorem ox_scallS (C : ox_sC p s m args c G n cc own) {idx maxL : Nat} {y : MethodName} {bytes : ByteArray} {ret : Option FieldType} {rm : Room} {As rest : List Value} {v : Value} (hM : ox_sM l y (.code y bytes maxL ret) rm G As.toArray v)
    (hcw : Jvm.Cond.code y bytes maxL ret ∈ ox_good) (hini : Jvm.Cond.initialized y.cls ∈ ox_good) (hl : (Jvm.Cond.methodLink own idx y).before args s = true) (hi : Jvm.Cond.static y ∈ ox_good) (hne : y.cls ≠ "java/lang/invoke/MethodHandle" ∧ y.cls ≠ "java/lang/invoke/VarHandle")
    (hnp : ∀ sig, parseMethodDescriptor y.desc = some sig → As.length = sig.parameters.length) (hrm : rm.cells = 0 ∧ rm.slots = 0 ∧ rm.frames + 1 ≤ R.frames ∧ 8 + (maxL + 11) + rm.locals ≤ R.locals) {H : Heap} {locs : List Loc} {cells slots : Nat} {arr : Array Slot} (h2 : va_S (ox_A G) s.heap H locs) (harr : arr.size = n)
    (hcat : (rest.map fun v => v.category).sum ≤ 8) (hcs : cells ≤ R.cells ∧ slots ≤ R.slots) (hd : decode cc pc = .ok (.invokestatic idx, 3)) (kk : ∀ locs1, va_S (ox_A G) s.heap H locs1 → W p l e R s m args below meth c H locs1 cells slots Q (F0 m (pc + 3) arr (v :: rest))) :
    W p l e R s m args below meth c H locs cells slots Q (F0 m pc arr (As.reverse ++ rest)) := by
  have hts := C.2.2.2.2.1
  exact ox_sback h2 (vx_runS (As := As) ⟨C.1, C.2.1, C.2.2.1, C.2.2.2.1, hts⟩ hM ⟨⟨hrm.1, hrm.2.1, hrm.2.2.1, hrm.2.2.2, ox_spay hts hcw, List.mem_cons_self, hts _ hcw, hts _ hini, hne, hnp, hl⟩, hts _ hi⟩ ⟨ox_sblind, ox_s_at C h2⟩ rfl rfl harr rfl (lv_room (pc := pc) hcat) hd hcs) kk
end OX21b
theorem ox_s_np {y : MethodName} {k : Nat} (h : (parseMethodDescriptor y.desc).map (fun d => d.parameters.length) = some k) : ∀ sig, parseMethodDescriptor y.desc = some sig → k = sig.parameters.length := fun sig hs => by
  rw [hs] at h
  exact (Option.some.inj h).symm
theorem ox_s_len {l : Launch} {G : ox_G} {i : Nat} (hi : i < 6) : ox_sM l Lib.Cold.length.x ox_cwL ox_s1 G [Value.ref (ox_ad G (200, i, 0))].toArray (.int (Int32.ofNat (ox_lens.getD i 0))) := by
  refine ox_sbody (by decide) (fun p e s m below meth c hx hb hml ho hlk hr hts hF hA => ?_)
  have hS : va_S (ox_A G) s.heap s.heap [] := ⟨Nat.le_refl _, fun _ _ _ => rfl, fun z hz => by cases hz⟩
  refine lv_aload_n hx hb (k := 0) (x := ox_ad G (200, i, 0)) (by decide +kernel) rfl rfl ?_
  refine vk_getf hx hb (hF.2.1.1 i hi).2.2.1 hS ho (hts _ (ox_swi 12 rfl)) (fun _ h => h) (by decide +kernel) ?_
  refine va_tlen hx hb (hF.2.1.1 i hi).2.2.2 hS rfl (by decide +kernel) ?_
  refine lv_aload_n hx hb (k := 0) (x := ox_ad G (200, i, 0)) (by decide +kernel) rfl rfl ?_
  refine ox_scallV (As := []) (idx := 335) ⟨hx, hb, hml, ho, hts, hF, hA⟩ (ox_s_coder hi) hi (ox_swi 0 rfl) (ox_swi 7 rfl) (hts _ (ox_swi 13 rfl)) (ox_swi 15 rfl) (ox_swi 14 rfl) (by decide) (ox_s_np (k := 0) (by decide +kernel)) ⟨rfl, rfl, by decide, by decide⟩ hS rfl (show 1 ≤ 8 by decide) ⟨Nat.le_refl _, Nat.le_refl _⟩ (by decide +kernel) (fun locs1 hS1 => ?_)
  refine lv_ishr hx hb (by decide +kernel) ?_
  refine ox_nret hx hb hr (w := Int32.ofNat (ox_lens.getD i 0)) ?_ (fun t ht hW => ⟨rfl, ht⟩) (fun q hq => hS1.2.2 q hq) (by decide +kernel) hlk
  show Value.int _ = Value.int _
  exact congrArg Value.int ((show ∀ i, i < 6 → Int32.ofNat (ox_lens.getD i 0) >>> (0 &&& 31) = Int32.ofNat (ox_lens.getD i 0) by decide +kernel) i hi)
theorem ox_c6 : ∀ i, i < 6 → ∀ j, j < 6 → j < ox_lens.getD i 0 → narrow .char (.int ((((ox_byts.getD i []).getD j 0) &&& 255).toUInt32.toUInt16.toUInt32.toInt32)) = .int (Int32.ofInt (ox_sa i j)) := by decide +kernel
theorem ox_s_char {l : Launch} {G : ox_G} {i j : Nat} (hi : i < 6) (hj : j < ox_lens.getD i 0) : ox_sM l Lib.Cold.charAt.x ox_cwA ox_s1 G [Value.ref (ox_ad G (200, i, 0)), .int (Int32.ofNat j)].toArray (.int (Int32.ofInt (ox_sa i j))) := by
  refine ox_sbody (by decide) (fun p e s m below meth c hx hb hml ho hlk hr hts hF hA => ?_)
  have hS : va_S (ox_A G) s.heap s.heap [] := ⟨Nat.le_refl _, fun _ _ _ => rfl, fun z hz => by cases hz⟩
  refine lv_aload_n hx hb (k := 0) (x := ox_ad G (200, i, 0)) (by decide +kernel) rfl rfl ?_
  refine ox_scallV (As := []) (idx := 492) ⟨hx, hb, hml, ho, hts, hF, hA⟩ (ox_s_lat hi) hi (ox_swi 1 rfl) (ox_swi 7 rfl) (hts _ (ox_swi 16 rfl)) (ox_swi 18 rfl) (ox_swi 17 rfl) (by decide) (ox_s_np (k := 0) (by decide +kernel)) ⟨rfl, rfl, by decide, by decide⟩ hS rfl (by decide) ⟨Nat.le_refl _, Nat.le_refl _⟩ (by decide +kernel) (fun locs1 hS1 => ?_)
  refine lv_if_eq hx hb (off := 12) (tgt := 16) (by decide +kernel) (by decide) (fun h => absurd h (by decide)) (fun _ => ?_)
  refine lv_aload_n hx hb (k := 0) (x := ox_ad G (200, i, 0)) (by decide +kernel) rfl rfl ?_
  refine vk_getf hx hb (hF.2.1.1 i hi).2.2.1 hS1 ho (hts _ (ox_swi 12 rfl)) (fun _ h => h) (by decide +kernel) ?_
  refine lv_iload_n hx hb (k := 1) (x := Int32.ofNat j) (by decide +kernel) rfl rfl ?_
  refine ox_scallS (As := [.ref (ox_aV G i), .int (Int32.ofNat j)]) (rest := []) (idx := 495) ⟨hx, hb, hml, ho, hts, hF, hA⟩ (ox_s_l1 hi hj) (ox_swi 4 rfl) (ox_swi 8 rfl) (hts _ (ox_swi 19 rfl)) (ox_swi 20 rfl) (by decide) (ox_s_np (k := 2) (by decide +kernel)) ⟨rfl, rfl, by decide, by decide⟩ hS1 rfl (by decide) ⟨Nat.le_refl _, Nat.le_refl _⟩ (by decide +kernel) (fun locs2 hS2 => ?_)
  exact ox_nret hx hb hr (ox_c6 i hi j (Nat.lt_of_lt_of_le hj (ox_l6 i hi)) hj) (fun t ht hW => ⟨rfl, ht⟩) (fun q hq => hS2.2.2 q hq) (by decide +kernel) hlk
section OX21c
variable {p : Program} {l : Launch} {e : Env} {R : Room} {s : State} {m : MethodId} {args : Array Value} {below : List Frame} {meth : Method} {c : Code}
variable {G : ox_G} {mc ms n : Nat} {Q : State → Prop} {cc : ByteArray} {own : String} {pc b tl : Nat} {ls st : List ox_V} {σ : ox_H}
theorem ox_sC_of (C : ox_Cx p l R s m args meth c G mc ms n cc own) : ox_sC p s m args c G n cc own := ⟨C.1, C.2.1, C.2.2.1, C.2.2.2.1, C.2.2.2.2.1, C.2.2.2.2.2.1, C.2.2.2.2.2.2.2.2.2⟩
theorem ox_s_ok {w j : Nat} (h : ox_ok tl (.inr (.inr (200, w, j)))) : w < 6 ∧ j = 0 := by
  rcases h with h | h | h | h
  · have hb := ox_L_rb h
    exfalso
    rcases ox_rb_arr hb (by show 100 ≤ 200; omega) with g | g
    · have : 200 - 100 < 11 := g.1
      omega
    · have := g.2.2
      simp at this
  · exact h.2
  · cases h
  · cases h
theorem ox_sl_le (w : Nat) : ox_sl w ≤ 6 := by
  unfold ox_sl
  split
  · omega
  · split <;> omega
theorem ox_sl_eq : ∀ w, w < 6 → ox_sl w = ox_lens.getD w 0 := by decide
theorem ox_sa_i32 : ∀ w, w < 6 → ∀ j, j < 6 → j < ox_sl w → 0 ≤ ox_sa w j ∧ ox_sa w j < 65536 := by decide
theorem ox_r_slen (C : ox_Cx p l R s m args meth c G mc ms n cc own) {idx w : Nat} (hl : (Jvm.Cond.methodLink own idx Lib.Cold.length.x).before args s = true) (hs : ¬ 8 < ox_sc (.inr (.inr (200, w, 0)) :: st)) (hd : decode cc pc = .ok (.invokevirtual idx, 3))
    (k : ox_S9 p l e R s m args below meth c G mc ms n Q (pc + 3) b tl ls (.inl (ox_sl w) :: st) σ) {j : Nat} : ox_S9 p l e R s m args below meth c G mc ms n Q pc b tl ls (.inr (.inr (200, w, j)) :: st) σ := by
  intro H locs cells slots arr h1 h2 h3 h4 h5 h6 h7
  obtain ⟨hv, g5⟩ := List.forall_mem_cons.mp h5
  obtain ⟨hw, rfl⟩ := ox_s_ok hv
  obtain ⟨r1, r2, r3, r4⟩ := C.2.2.2.2.2.2.2.2.1
  have hs8 : ox_sc st ≤ 8 := by
    have : ox_sc (.inr (.inr (200, w, 0)) :: st) = 1 + ox_sc st := rfl
    omega
  refine ox_scallV (As := []) (rest := st.map (ox_mv G)) (rm := ox_s1) (ox_sC_of C) (ox_s_len hw) hw (ox_swi 2 rfl) (ox_swi 7 rfl) hl (ox_swi 26 rfl) (ox_swi 27 rfl) (by decide) (ox_s_np (k := 0) (by decide +kernel)) ⟨rfl, rfl, by show 3 + 1 ≤ _; omega, by show 8 + (1 + 11) + 100 ≤ _; omega⟩ h2 h3.1 (by rw [ox_sc_cat]; exact hs8) ⟨by omega, by omega⟩ hd (fun locs1 hS1 => ?_)
  have e1 : Value.int (Int32.ofNat (ox_lens.getD w 0)) = ox_mv G (.inl (ox_sl w)) := by
    rw [← ox_sl_eq w hw]
    rfl
  rw [e1]
  have := ox_sl_le w
  exact k H locs1 cells slots arr h1 hS1 h3 h4 (ox_okc (show ox_i32 (ox_sl w) from ⟨by omega, by omega⟩) g5) h6 h7
theorem ox_r_schar (C : ox_Cx p l R s m args meth c G mc ms n cc own) {idx w : Nat} {i : Int} (hl : (Jvm.Cond.methodLink own idx Lib.Cold.charAt.x).before args s = true) (hs : ¬ 8 < ox_sc (.inl i :: .inr (.inr (200, w, 0)) :: st)) (hi : 0 ≤ i ∧ i.toNat < ox_sl w) (hd : decode cc pc = .ok (.invokevirtual idx, 3))
    (k : ox_S9 p l e R s m args below meth c G mc ms n Q (pc + 3) b tl ls (.inl (ox_sa w i.toNat) :: st) σ) {j : Nat} : ox_S9 p l e R s m args below meth c G mc ms n Q pc b tl ls (.inl i :: .inr (.inr (200, w, j)) :: st) σ := by
  intro H locs cells slots arr h1 h2 h3 h4 h5 h6 h7
  obtain ⟨-, h8⟩ := List.forall_mem_cons.mp h5
  obtain ⟨hv, g5⟩ := List.forall_mem_cons.mp h8
  obtain ⟨hw, rfl⟩ := ox_s_ok hv
  obtain ⟨r1, r2, r3, r4⟩ := C.2.2.2.2.2.2.2.2.1
  obtain ⟨h0, hlt⟩ := hi
  obtain ⟨j, rfl⟩ : ∃ j : Nat, i = (j : Int) := ⟨i.toNat, by omega⟩
  have hlt : j < ox_sl w := by simpa using hlt
  have hs8 : ox_sc st ≤ 8 := by
    have : ox_sc (.inl (j : Int) :: .inr (.inr (200, w, 0)) :: st) = 1 + (1 + ox_sc st) := rfl
    omega
  refine ox_scallV (As := [.int (Int32.ofNat j)]) (rest := st.map (ox_mv G)) (rm := ox_s1) (ox_sC_of C) (ox_s_char hw (by rw [← ox_sl_eq w hw]; exact hlt)) hw (ox_swi 3 rfl) (ox_swi 7 rfl) hl (ox_swi 28 rfl) (ox_swi 29 rfl) (by decide) (ox_s_np (k := 1) (by decide +kernel)) ⟨rfl, rfl, by show 3 + 1 ≤ _; omega, by show 8 + (2 + 11) + 100 ≤ _; omega⟩ h2 h3.1 (by rw [ox_sc_cat]; exact hs8) ⟨by omega, by omega⟩ hd (fun locs1 hS1 => ?_)
  have hr := ox_sa_i32 w hw j (Nat.lt_of_lt_of_le hlt (ox_sl_le w)) hlt
  exact k H locs1 cells slots arr h1 hS1 h3 h4 (ox_okc (show ox_i32 (ox_sa w j) from ⟨by omega, by omega⟩) g5) h6 h7
end OX21c
