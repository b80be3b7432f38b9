/-! ===== the small machine of the makings is the machine ===== -/
def ob_ds (c : Nat) : String := if c = 1 then "(II)V" else if c = 2 then "(LOutlinery$Lines;LOutlinery$Sums;)V" else if c = 3 then "(LOutlinery$Lines;LOutlinery$Sums;)V" else if c = 5 then "(LOutlinery$Outline;LOutlinery$Sums;)V" else if c = 7 then "(LOutlinery$Outline;LOutlinery$Sheet;LOutlinery$Sums;)V" else if c = 8 then "(LOutlinery$Outline;LOutlinery$Sheet;)V" else "()V"
def ob_yn (c : Nat) : MethodName := ⟨ox_cn c, "<init>", ob_ds c⟩
def ob_aok (ty : Nat) (a : ArrayType) : Bool := (ty == 0 && decide (a = .int) && ox_in1 (.arrayClass .int)) || (ty == 1 && decide (a = .char) && ox_in1 (.arrayClass .char)) || (ty == 2 && decide (a = .boolean) && ox_in1 (.arrayClass .boolean)) || (ty == 4 && decide (a = .long) && ox_in1 (.arrayClass .long))
def ob_rty (ty : FieldType) : Bool := match ty with | .object _ => true | .array _ => true | _ => false
def ob_ch (own : String) (i : Instr) (pc n : Nat) (f : List Nat) : Bool := match i with
  | .iconst _ | .iload_n _ | .aload_n _ | .istore_n _ | .astore_n _ | .dup | .imul | .aastore | .return_ => n == 1
  | .bipush x => n == 2 && decide (-128 ≤ x ∧ x < 128)
  | .sipush x => n == 3 && decide (-32768 ≤ x ∧ x < 32768)
  | .istore _ => n == 2
  | .iinc _ _ => n == 3
  | .goto o => n == 3 && ox_no pc o
  | .if_icmp _ o => n == 3 && ox_no pc o
  | .new k => n == 3 && (match f with | c :: _ => decide (c < 11) && ox_in1 (.classLink own k (ox_cn c)) && ox_in1 (.instantiable (ox_cn c) (ox_nf c)) && ox_in1 (.initialized (ox_cn c)) | _ => false)
  | .newarray a => n == 2 && (match f with | ty :: _ => ob_aok ty a | _ => false)
  | .anewarray k => n == 3 && ox_in1 (.classLink own k "Outlinery$Reading")
  | .putfield k => n == 3 && (match f with | c :: j :: _ => decide (c < 11) && decide (j < ox_nf c) && ox_in1 (.fieldLink own k (ox_F c j).1 (ox_F c j).2.1 (ox_F c j).2.2.1) && (!(ox_F c j).2.2.2 || decide ((ox_F c j).1 = own)) && (if (ox_fk c j).1 = 0 then decide (ox_T c j = .int) else ob_rty (ox_T c j)) | _ => false)
  | .getfield k => n == 3 && (match f with | c :: j :: _ => decide (c < 11) && decide (j < ox_nf c) && ox_in1 (.fieldLink own k (ox_F c j).1 (ox_F c j).2.1 (ox_F c j).2.2.1) | _ => false)
  | .invokespecial k => n == 3 && (match f with
    | 0 :: _ => ox_in1 (.methodLink own k Lib.objectInit)
    | 1 :: y :: np :: _ => decide (y < 11) && (ox_in1 (.methodLink own k (ob_yn y)) || decide (Jvm.Cond.methodLinkNest own k (ob_yn y) "Outlinery" ∈ ox_nest)) && ox_in1 (.instanceMethod (ob_yn y)) && ox_in1 (.initialized (ox_cn y)) && decide ((parseMethodDescriptor (ob_yn y).desc).map (fun d => d.parameters.length) = some np)
    | _ => false)
  | _ => true
def ob_Co (M : ob_M) (bytes : ByteArray) : Prop := ∀ pc i n f, M.2.1 pc = some (i, n, f) → decode bytes pc = .ok (i, n) ∧ ob_ch (ox_cn M.1) i pc n f = true
/-- what is checked of a constructor -/
def ob_Eo (c : Nat) (M : ob_M) : Prop := ∃ bytes : ByteArray, Jvm.Cond.code (ob_yn c) bytes M.2.2.1 none ∈ ox_good ∧ M.1 = c ∧ c < 11 ∧ M.2.2.1 ≤ 20 ∧ plainName (ox_cn c) = true ∧ (ox_cn c ≠ "java/lang/invoke/MethodHandle" ∧ ox_cn c ≠ "java/lang/invoke/VarHandle") ∧ Jvm.Cond.initialized (ox_cn c) ∈ ox_good ∧ ob_Co M bytes
abbrev ob_rd : String := "Outlinery$Reading"
def ob_Pc (G : ox_G) (as : List Nat) (av : List ox_V) (B : ob_B) : Array Value → State → Prop := fun a U => a = (av.map (ox_mv (ob_G G as))).toArray ∧ (∀ v ∈ av, ob_vk B.length v = true) ∧ as.length = B.length ∧ ob_wf B ∧ va_K (ox_D G) ox_cls (ox_tys G) U ∧ va_AO ob_rd U ∧ (∀ w ∈ ox_nest, va_Nw w U) ∧ va_P (ox_D G) ox_cls (ob_ws G as B) U.heap ∧ va_D (ox_A G) (ob_ws G as B) ∧ ox_bs G ≤ U.heap.size
def ob_Qc (G : ox_G) (as : List Nat) (B' : ob_B) : Array Value → State → Outcome → State → Prop := fun _ st o t => o = .returned none ∧ va_F (ox_A G) st t ∧ ∃ t9, (as ++ t9).length = B'.length ∧ ob_wf B' ∧ va_P (ox_D G) ox_cls (ob_ws G (as ++ t9) B') t.heap ∧ va_D (ox_A G) (ob_ws G (as ++ t9) B')
def ob_rm (d kc ks : Nat) : Room := { frames := d + 10, cells := kc, slots := ks, locals := 41 * d + 200 }
def ob_Ct (l : Launch) (d c : Nat) (cw : Jvm.Cond) (kc ks : Nat) (G : ox_G) (as : List Nat) (av : List ox_V) (B B' : ob_B) : Prop := Met l (ob_yn c) (cw :: ox_good) (ob_rm d kc ks) (ob_Pc G as av B) (ob_Qc G as B') kc ks (ox_A G)
def ob_Or (l : Launch) (d : Nat) (ms : Nat → Option ob_M) (C : ob_C) : Prop := ∀ c av B B', C c av B = some B' → ∀ M, ms c = some M → ∀ bytes, Jvm.Cond.code (ob_yn c) bytes M.2.2.1 none ∈ ox_good → ob_Co M bytes → ∀ G as, ob_Ct l d c (.code (ob_yn c) bytes M.2.2.1 none) M.2.2.2.1 M.2.2.2.2 G as av B B'
theorem ob_nest_to {s U : State} (hW : s.WarmedH U.vm) (h : ∀ w ∈ ox_nest, va_Nw w s) : ∀ w ∈ ox_nest, va_Nw w U := by
  intro w hw
  have hz := h w hw
  have h2 := (List.mem_filter.mp hw).2
  cases w <;> first | exact va_Nw.warmF hW hz | exact va_Nw.warmM hW hz | exact va_Nw.warmC hW hz | exact va_Nw.warmD hW hz | cases h2
theorem ob_blind {G : ox_G} {as : List Nat} {av : List ox_V} {B : ob_B} : FrameBlind (ob_Pc G as av B) := fun a U g mk h => by
  obtain ⟨h1, h2, h3, h4, h5, h6, h7, h8, h9, h10⟩ := h
  have hv : U.vm.Alike (U.calling g mk a).vm := Vm.Alike.refl U.vm
  exact ⟨h1, h2, h3, h4, h5.moved hv, h6.moved hv, fun w hw => va_Nw.same (u := U) (ox_nest_ot hw) rfl (h7 w hw), h8, h9, h10⟩
section OB94
variable {p : Program} {l : Launch} {e : Env} {R : Room} {s : State} {m : MethodId} {args : Array Value} {below : List Frame} {meth : Method} {c : Code}
variable {G : ox_G} {mc ms9 n : Nat} {Q : State → Prop} {cc : ByteArray} {own : String} {pc b d : Nat} {ls st : List ox_V} {B : ob_B} {as0 : List Nat}
def ob_S9 (p : Program) (l : Launch) (e : Env) (R : Room) (s : State) (m : MethodId) (args : Array Value) (below : List Frame) (meth : Method) (c : Code) (G : ox_G) (as0 : List Nat) (mc ms9 n : Nat) (Q : State → Prop) (x : ob_X) : Prop :=
  ∀ (t9 : List Nat) (H : Heap) (locs : List Loc) (cells slots : Nat) (arr : Array Slot), (as0 ++ t9).length = x.2.2.2.2.2.length → va_P (ox_D G) ox_cls (ob_ws G (as0 ++ t9) x.2.2.2.2.2) H → va_D (ox_A G) (ob_ws G (as0 ++ t9) x.2.2.2.2.2) → va_S (ox_A G) s.heap H locs → ox_lr (ob_G G (as0 ++ t9)) x.2.2.2.1 n arr →
    (∀ v ∈ x.2.2.2.1, ob_vk x.2.2.2.2.2.length v = true) → (∀ v ∈ x.2.2.2.2.1, ob_vk x.2.2.2.2.2.length v = true) → ob_wf x.2.2.2.2.2 → cells + x.2.1 ≤ mc → slots + x.2.2.1 ≤ ms9 →
    W p l e R s m args below meth c H locs cells slots Q (F0 m x.1 arr (x.2.2.2.2.1.map (ox_mv (ob_G G (as0 ++ t9)))))
def ob_Cx (p : Program) (l : Launch) (R : Room) (s : State) (m : MethodId) (args : Array Value) (meth : Method) (c : Code) (G : ox_G) (mc ms9 n : Nat) (cc : ByteArray) (own : String) : Prop :=
  p.tables.exec = Jvm.exec ∧ c.code = cc ∧ c.maxLocals = n ∧ s.vm.findClass own = some m.cls ∧ (∀ w ∈ ox_good, w.before args s = true) ∧ va_K (ox_D G) ox_cls (ox_tys G) s ∧ va_AO ob_rd s ∧ (∀ w ∈ ox_nest, va_Nw w s) ∧ meth.locks = false ∧ (own ≠ "OutlineryLaw" → meth.name = "<init>") ∧ (10 ≤ R.frames ∧ 200 ≤ R.locals ∧ mc ≤ R.cells ∧ ms9 ≤ R.slots) ∧ (∀ q, s.heap.size ≤ q → ox_A G q)
theorem ob_vkc {k : Nat} {v : ox_V} {st : List ox_V} (hv : ob_vk k v = true) (h : ∀ u ∈ st, ob_vk k u = true) : ∀ u ∈ v :: st, ob_vk k u = true := List.forall_mem_cons.mpr ⟨hv, h⟩
theorem ob_g (C : ob_Cx p l R s m args meth c G mc ms9 n cc own) {w : Jvm.Cond} (h : ox_in1 w = true) : w.before args s = true := C.2.2.2.2.1 _ (ox_in1_of h)
theorem ob_vk_ref {k a j : Nat} (h : ob_vk k (.inr (.inr (500, a, j))) = true) : a < k ∧ j = 0 := of_decide_eq_true (show decide (a < k ∧ j = 0) = true from h)
theorem ob_mvr {as : List Nat} {k : Nat} : ox_mv (ob_G G as) (ob_r k) = .ref (as.getD k 0) := by
  show Value.ref (if (500 : Nat) = 500 then as.getD k 0 else ox_ad G (500, k, 0)) = _
  rw [if_pos rfl]
/-- a new cell: where it goes on -/
theorem ob_pushed {t9 : List Nat} {x : ob_E} {q cells slots b' d' pc' : Nat} {rest : List ox_V} {H1 : Heap} {locs : List Loc} {arr : Array Slot} (k : ob_S9 p l e R s m args below meth c G as0 mc ms9 n Q (pc', b', d', ls, ob_r B.length :: rest, B ++ [x])) (hl : (as0 ++ t9).length = B.length) (hx : ∀ n, ob_xk n x)
    (hP : va_P (ox_D G) ox_cls (ob_ws G (as0 ++ t9) B ++ [(q, ob_ent G (as0 ++ t9 ++ [q]) x)]) H1) (hD : va_D (ox_A G) (ob_ws G (as0 ++ t9) B ++ [(q, ob_ent G (as0 ++ t9 ++ [q]) x)])) (hS : va_S (ox_A G) s.heap H1 locs) (h3 : ox_lr (ob_G G (as0 ++ t9)) ls n arr)
    (h4 : ∀ v ∈ ls, ob_vk B.length v = true) (h5 : ∀ v ∈ rest, ob_vk B.length v = true) (hw : ob_wf B) (h6 : cells + b' ≤ mc) (h7 : slots + d' ≤ ms9) : W p l e R s m args below meth c H1 locs cells slots Q (F0 m pc' arr (.ref q :: rest.map (ox_mv (ob_G G (as0 ++ t9))))) := by
  rw [← ob_ws_push hl hw] at hP hD
  have hl1 : (as0 ++ (t9 ++ [q])).length = (B ++ [x]).length := by
    rw [← List.append_assoc, show ((as0 ++ t9) ++ [q]).length = (as0 ++ t9).length + 1 by rw [List.length_append]; rfl, hl, List.length_append]; rfl
  have hn : B.length ≤ (B ++ [x]).length := by rw [List.length_append]; exact Nat.le_add_right _ _
  have z := k (t9 ++ [q]) H1 locs cells slots arr hl1 (by rw [← List.append_assoc]; exact hP) (by rw [← List.append_assoc]; exact hD) hS (by rw [← List.append_assoc]; exact ob_lr_app h3 (fun v hv => by rw [hl]; exact h4 v hv)) (fun v hv => ob_vk_le hn (h4 v hv))
    (ob_vkc (by
      have : B.length < (B ++ [x]).length := by rw [List.length_append]; exact Nat.lt_succ_self _
      exact decide_eq_true ⟨this, rfl⟩) (fun v hv => ob_vk_le hn (h5 v hv))) (ob_wf_push hw (hx _)) h6 h7
  have e1 : (ob_r B.length :: rest).map (ox_mv (ob_G G (as0 ++ (t9 ++ [q])))) = .ref q :: rest.map (ox_mv (ob_G G (as0 ++ t9))) := by
    rw [List.map_cons, ob_mvr, ← List.append_assoc, ob_map_app (fun v hv => by rw [hl]; exact h5 v hv)]
    congr 2
    rw [List.getD_eq_getElem?_getD, ← hl, List.getElem?_append_right (Nat.le_refl _), Nat.sub_self]
    rfl
  rw [← e1]
  exact z
theorem ob_r_new (C : ob_Cx p l R s m args meth c G mc ms9 n cc own) {idx c1 : Nat} (hc : c1 < 11) (w1 : ox_in1 (.classLink own idx (ox_cn c1)) = true) (w2 : ox_in1 (.instantiable (ox_cn c1) (ox_nf c1)) = true) (w3 : ox_in1 (.initialized (ox_cn c1)) = true) (hd9 : ox_nf c1 ≤ d) (hd : decode cc pc = .ok (.new idx, 3))
    (k : ob_S9 p l e R s m args below meth c G as0 mc ms9 n Q (pc + 3, b, d - ox_nf c1, ls, ob_r B.length :: st, B ++ [.inl (c1, ob_df c1)])) : ob_S9 p l e R s m args below meth c G as0 mc ms9 n Q (pc, b + 1, d, ls, st, B) := by
  intro t9 H locs cells slots arr hl hP hD h2 h3 h4 h5 hw h6 h7
  dsimp only at hl hP hD h3 h4 h5 hw h6 h7 ⊢
  obtain ⟨r1, r2, r3, r4⟩ := C.2.2.2.2.2.2.2.2.2.2.1
  refine va_new (C := ox_cn c1) (T := ox_F c1) (N := ox_nf c1) (ci := c1) C.1 C.2.1 C.2.2.2.2.1 (ox_lays_in hc) (ox_T c1) (ox_T_ok c1 hc) C.2.2.2.1 (ob_g C w1) (ob_g C w2) (ob_g C w3) C.2.2.2.2.2.1 hP hD h2 C.2.2.2.2.2.2.2.2.2.2.2 (ox_cls_at hc) (fs := (ob_df c1).map (ob_fm [])) (ob_df_ok c1 hc) (by omega) (by omega) hd (fun q H1 hP hD hS => ?_)
  have e1 : ((.inr (c1, (ob_df c1).map (ob_fm [])) : va_E)) = ob_ent G (as0 ++ t9 ++ [q]) (.inl (c1, ob_df c1)) := by
    show _ = (Sum.inr (c1, (ob_df c1).map (ob_fm (as0 ++ t9 ++ [q]))) : va_E)
    rw [ob_df_fm (as := as0 ++ t9 ++ [q])]
  rw [e1] at hP hD
  exact ob_pushed k hl (fun n => ob_df_k) hP hD hS h3 h4 h5 hw (by omega) (by omega)
theorem ob_r_newa (C : ob_Cx p l R s m args meth c G mc ms9 n cc own) {ty : Nat} {z : Int} {a : ArrayType} (ha : ob_aok ty a = true) (hz : 0 ≤ z ∧ z < 100000 ∧ z.toNat ≤ d) (hd : decode cc pc = .ok (.newarray a, 2))
    (k : ob_S9 p l e R s m args below meth c G as0 mc ms9 n Q (pc + 2, b, d - z.toNat, ls, ob_r B.length :: st, B ++ [.inr (ty, z.toNat, [])])) : ob_S9 p l e R s m args below meth c G as0 mc ms9 n Q (pc, b + 1, d, ls, .inl z :: st, B) := by
  intro t9 H locs cells slots arr hl hP hD h2 h3 h4 h5 hw h6 h7
  dsimp only at hl hP hD h3 h4 h5 hw h6 h7 ⊢
  obtain ⟨r1, r2, r3, r4⟩ := C.2.2.2.2.2.2.2.2.2.2.1
  have h5' := (List.forall_mem_cons.mp h5).2
  have hz2 : ox_i32 z := ⟨by omega, by omega⟩
  have hn1 : ¬ Int32.ofInt z < 0 := by
    intro q
    have := Int32.lt_iff_toInt_lt.mp q
    rw [ox_toI hz2] at this
    simp at this
    omega
  have hN : (Int32.ofInt z).toNatClampNeg = z.toNat := ox_toN hz2
  have hK := C.2.2.2.2.2.1
  unfold ob_aok at ha
  simp only [Bool.or_eq_true, Bool.and_eq_true, beq_iff_eq, decide_eq_true_eq] at ha
  rcases ha with ((⟨⟨rfl, rfl⟩, hw1⟩ | ⟨⟨rfl, rfl⟩, hw1⟩) | ⟨⟨rfl, rfl⟩, hw1⟩) | ⟨⟨rfl, rfl⟩, hw1⟩
  · refine va_newa (atype := .int) (N' := z.toNat) (a0 := (z.toNat, .inl (fun _ => 0))) C.1 C.2.1 (ob_g C hw1) rfl hK hP hD h2 C.2.2.2.2.2.2.2.2.2.2.2 (fun cA => rfl) hn1 hN (by show z.toNat * 4 ≤ _; omega) (by omega) (by omega) hd (fun q cA H1 hK1 hP hD hS => ?_)
    obtain rfl : cA = ox_cA G 0 := Option.some.inj ((hK1.2 5 (cA, .int) rfl).2.symm.trans (hK.2 0 (ox_cA G 0, .int) rfl).2)
    exact ob_pushed k hl (fun n q hq => by cases hq) hP hD hS h3 h4 h5' hw (by omega) (by omega)
  · refine va_newa (atype := .char) (N' := z.toNat) (a0 := (z.toNat, .inl (fun _ => 0))) C.1 C.2.1 (ob_g C hw1) rfl hK hP hD h2 C.2.2.2.2.2.2.2.2.2.2.2 (fun cA => rfl) hn1 hN (by show z.toNat * 2 ≤ _; omega) (by omega) (by omega) hd (fun q cA H1 hK1 hP hD hS => ?_)
    obtain rfl : cA = ox_cA G 1 := Option.some.inj ((hK1.2 5 (cA, .char) rfl).2.symm.trans (hK.2 1 (ox_cA G 1, .char) rfl).2)
    exact ob_pushed k hl (fun n q hq => by cases hq) hP hD hS h3 h4 h5' hw (by omega) (by omega)
  · refine va_newa (atype := .boolean) (N' := z.toNat) (a0 := (z.toNat, .inl (fun _ => 0))) C.1 C.2.1 (ob_g C hw1) rfl hK hP hD h2 C.2.2.2.2.2.2.2.2.2.2.2 (fun cA => rfl) hn1 hN (by show z.toNat * 1 ≤ _; omega) (by omega) (by omega) hd (fun q cA H1 hK1 hP hD hS => ?_)
    obtain rfl : cA = ox_cA G 2 := Option.some.inj ((hK1.2 5 (cA, .boolean) rfl).2.symm.trans (hK.2 2 (ox_cA G 2, .boolean) rfl).2)
    exact ob_pushed k hl (fun n q hq => by cases hq) hP hD hS h3 h4 h5' hw (by omega) (by omega)
  · refine va_newa (atype := .long) (N' := z.toNat) (a0 := (z.toNat, .inr (.inl (fun _ => 0)))) C.1 C.2.1 (ob_g C hw1) rfl hK hP hD h2 C.2.2.2.2.2.2.2.2.2.2.2 (fun cA => rfl) hn1 hN (by show z.toNat * 8 ≤ _; omega) (by omega) (by omega) hd (fun q cA H1 hK1 hP hD hS => ?_)
    obtain rfl : cA = ox_cA G 4 := Option.some.inj ((hK1.2 5 (cA, .long) rfl).2.symm.trans (hK.2 4 (ox_cA G 4, .long) rfl).2)
    exact ob_pushed k hl (fun n q hq => by cases hq) hP hD hS h3 h4 h5' hw (by omega) (by omega)
theorem ob_r_newq (C : ob_Cx p l R s m args meth c G mc ms9 n cc own) {z : Int} {idx : Nat} (w1 : ox_in1 (.classLink own idx "Outlinery$Reading") = true) (hz : 0 ≤ z ∧ z < 100000 ∧ z.toNat ≤ d) (hd : decode cc pc = .ok (.anewarray idx, 3))
    (k : ob_S9 p l e R s m args below meth c G as0 mc ms9 n Q (pc + 3, b, d - z.toNat, ls, ob_r B.length :: st, B ++ [.inr (3, z.toNat, [])])) : ob_S9 p l e R s m args below meth c G as0 mc ms9 n Q (pc, b + 1, d, ls, .inl z :: st, B) := by
  intro t9 H locs cells slots arr hl hP hD h2 h3 h4 h5 hw h6 h7
  dsimp only at hl hP hD h3 h4 h5 hw h6 h7 ⊢
  obtain ⟨r1, r2, r3, r4⟩ := C.2.2.2.2.2.2.2.2.2.2.1
  have h5' := (List.forall_mem_cons.mp h5).2
  have hz2 : ox_i32 z := ⟨by omega, by omega⟩
  have hn1 : ¬ Int32.ofInt z < 0 := by
    intro q
    have := Int32.lt_iff_toInt_lt.mp q
    rw [ox_toI hz2] at this
    simp at this
    omega
  have hN : (Int32.ofInt z).toNatClampNeg = z.toNat := ox_toN hz2
  have hK := C.2.2.2.2.2.1
  refine va_newq (C := ob_rd) (N' := z.toNat) C.1 C.2.1 C.2.2.2.1 (ob_g C w1) C.2.2.2.2.2.2.1 hK hP hD h2 C.2.2.2.2.2.2.2.2.2.2.2 hn1 hN (by omega) (by omega) (by omega) hd (fun q cA H1 hK1 hP hD hS => ?_)
  obtain ⟨-, -, -, -, -, y1⟩ := (hK1.2 5 (cA, .object ob_rd) rfl).2
  obtain ⟨-, -, -, -, -, y2⟩ := (hK.2 3 (ox_cA G 3, .object ob_rd) rfl).2
  obtain rfl : cA = ox_cA G 3 := Option.some.inj (y1.symm.trans y2)
  exact ob_pushed k hl (fun n q hq => by cases hq) hP hD hS h3 h4 h5' hw (by omega) (by omega)
theorem ob_r_aast (C : ob_Cx p l R s m args meth c G mc ms9 n cc own) {z : Int} {v a n9 : Nat} {rs : List (Nat × Nat)} {fs : List ob_F} (ha : B[a]? = some (.inr (3, n9, rs))) (hv : B[v]? = some (.inl (4, fs))) (hz : 0 ≤ z ∧ z < 100000 ∧ z.toNat < n9) (hd : decode cc pc = .ok (.aastore, 1))
    (k : ob_S9 p l e R s m args below meth c G as0 mc ms9 n Q (pc + 1, b, d, ls, st, B.set a (.inr (3, n9, (z.toNat, v) :: rs)))) : ob_S9 p l e R s m args below meth c G as0 mc ms9 n Q (pc, b, d, ls, ob_r v :: .inl z :: ob_r a :: st, B) := by
  intro t9 H locs cells slots arr hl hP hD h2 h3 h4 h5 hw h6 h7
  dsimp only at hl hP hD h3 h4 h5 hw h6 h7 ⊢
  have h5' := (List.forall_mem_cons.mp (List.forall_mem_cons.mp (List.forall_mem_cons.mp h5).2).2).2
  have hz2 : ox_i32 z := ⟨by omega, by omega⟩
  have hN : (Int32.ofInt z).toNatClampNeg = z.toNat := ox_toN hz2
  have hin : vp_in (Int32.ofInt z) n9 := vp_in_iff.mpr (by rw [ox_toI hz2]; omega)
  have hal := ob_ws_at (G := G) hl ha
  have hvl := ob_ws_at (G := G) hl hv
  refine va_astq C.1 C.2.1 C.2.2.2.2.2.1 hP hD h2 a 3 v 4 hal rfl hvl (ox_cls_at (by omega)) hin hd (fun H1 locs1 hP hD hS => ?_)
  rw [hN] at hP hD
  have e1 : ((.inl (ox_cA G 3, n9, .inr (.inr (.inr (.inr (va_up (fun i => (ob_lk rs i).map (fun k => (as0 ++ t9).getD k 0)) z.toNat (some ((as0 ++ t9).getD v 0))))))) : va_E)) = ob_ent G (as0 ++ t9) (.inr (3, n9, (z.toNat, v) :: rs)) := by
    show _ = (Sum.inl (ox_cA G 3, n9, .inr (.inr (.inr (.inr (fun i => (ob_lk ((z.toNat, v) :: rs) i).map (fun k => (as0 ++ t9).getD k 0)))))) : va_E)
    congr 7
    funext i
    show (if i = z.toNat then _ else _) = Option.map _ (if i = z.toNat then some v else ob_lk rs i)
    split <;> rfl
  rw [e1, ob_ws_set hl] at hP hD
  refine k t9 H1 locs1 cells slots arr (by rw [List.length_set]; exact hl) hP hD hS h3 (by rw [List.length_set]; exact h4) (by rw [List.length_set]; exact h5') (ob_wf_set hw ?_) h6 h7
  intro q hq
  rcases List.mem_cons.mp hq with rfl | hq
  · exact (List.getElem?_eq_some_iff.mp hv).1
  · exact hw _ (List.mem_of_getElem? ha) q hq
theorem ob_r_put (C : ob_Cx p l R s m args meth c G mc ms9 n cc own) {idx c1 j a : Nat} {fs : List ob_F} {u : ox_V} {u9 : ob_F} (hc : c1 < 11) (hj : j < ox_nf c1) (w1 : ox_in1 (.fieldLink own idx (ox_F c1 j).1 (ox_F c1 j).2.1 (ox_F c1 j).2.2.1) = true) (hfi : (ox_F c1 j).2.2.2 = false ∨ ((ox_F c1 j).1 = own ∧ own ≠ "OutlineryLaw")) (ha : B[a]? = some (.inl (c1, fs))) (hjl : j < fs.length)
    (hu : ∀ as, ox_mv (ob_G G as) u = ob_fm as u9) (hk9 : ob_fk B.length u9 = true) (hnr : ∀ as, narrow (ox_T c1 j) (ob_fm as u9) = ob_fm as u9 ∧ fits (ox_T c1 j) (ob_fm as u9) = true) (hd : decode cc pc = .ok (.putfield idx, 3))
    (k : ob_S9 p l e R s m args below meth c G as0 mc ms9 n Q (pc + 3, b, d, ls, st, B.set a (.inl (c1, fs.set j u9)))) : ob_S9 p l e R s m args below meth c G as0 mc ms9 n Q (pc, b, d, ls, u :: ob_r a :: st, B) := by
  intro t9 H locs cells slots arr hl hP hD h2 h3 h4 h5 hw h6 h7
  dsimp only at hl hP hD h3 h4 h5 hw h6 h7 ⊢
  have h5' := (List.forall_mem_cons.mp (List.forall_mem_cons.mp h5).2).2
  have hal := ob_ws_at (G := G) hl ha
  have fin : ∀ (H1 : Heap) (locs1 : List Loc), va_P (ox_D G) ox_cls ((ob_ws G (as0 ++ t9) B).set a ((as0 ++ t9).getD a 0, .inr (c1, (fs.map (ob_fm (as0 ++ t9))).set j (ob_fm (as0 ++ t9) u9)))) H1 → va_D (ox_A G) ((ob_ws G (as0 ++ t9) B).set a ((as0 ++ t9).getD a 0, .inr (c1, (fs.map (ob_fm (as0 ++ t9))).set j (ob_fm (as0 ++ t9) u9)))) → va_S (ox_A G) s.heap H1 locs1 → W p l e R s m args below meth c H1 locs1 cells slots Q (F0 m (pc + 3) arr (st.map (ox_mv (ob_G G (as0 ++ t9))))) := by
    intro H1 locs1 hP hD hS
    have e1 : ((.inr (c1, (fs.map (ob_fm (as0 ++ t9))).set j (ob_fm (as0 ++ t9) u9)) : va_E)) = ob_ent G (as0 ++ t9) (.inl (c1, fs.set j u9)) := by
      show _ = (Sum.inr (c1, (fs.set j u9).map (ob_fm (as0 ++ t9))) : va_E)
      rw [List.map_set]
    rw [e1, ob_ws_set hl] at hP hD
    refine k t9 H1 locs1 cells slots arr (by rw [List.length_set]; exact hl) hP hD hS h3 (by rw [List.length_set]; exact h4) (by rw [List.length_set]; exact h5') (ob_wf_set hw ?_) h6 h7
    intro v hv
    rcases List.mem_or_eq_of_mem_set hv with hv | rfl
    · exact hw _ (List.mem_of_getElem? ha) v hv
    · exact hk9
  show W p l e R s m args below meth c H locs cells slots Q (F0 m pc arr (ox_mv (ob_G G (as0 ++ t9)) u :: .ref ((as0 ++ t9).getD a 0) :: st.map (ox_mv (ob_G G (as0 ++ t9)))))
  rw [hu]
  rcases hfi with hfi | ⟨hfi, hlaw⟩
  · exact va_put (C := ox_cn c1) (T := ox_F c1) (N := ox_nf c1) C.1 C.2.1 C.2.2.2.2.1 (ox_lays_in hc) (ox_T c1) (ox_T_ok c1 hc) (ox_F_apart c1 hc) C.2.2.2.1 C.2.2.2.2.2.1 hP hD h2 a hal (ox_cls_at hc) j hj (ob_g C w1) (fun _ h9 => h9) hfi (ox_T_ok c1 hc j hj) (hnr _).1 (hnr _).2 (by simpa using hjl) hd fin
  · by_cases hf : (ox_F c1 j).2.2.2 = true
    · exact va_putF (C := ox_cn c1) (T := ox_F c1) (N := ox_nf c1) C.1 C.2.1 C.2.2.2.2.1 (ox_lays_in hc) (ox_T c1) (ox_T_ok c1 hc) (ox_F_apart c1 hc) C.2.2.2.1 C.2.2.2.2.2.1 hP hD h2 a hal (ox_cls_at hc) j hj (ob_g C w1) (fun _ h9 => h9) hf (C.2.2.2.2.2.2.2.2.2.1 hlaw) hfi (ox_T_ok c1 hc j hj) (hnr _).1 (hnr _).2 (by simpa using hjl) hd fin
    · exact va_put (C := ox_cn c1) (T := ox_F c1) (N := ox_nf c1) C.1 C.2.1 C.2.2.2.2.1 (ox_lays_in hc) (ox_T c1) (ox_T_ok c1 hc) (ox_F_apart c1 hc) C.2.2.2.1 C.2.2.2.2.2.1 hP hD h2 a hal (ox_cls_at hc) j hj (ob_g C w1) (fun _ h9 => h9) (by simpa using hf) (ox_T_ok c1 hc j hj) (hnr _).1 (hnr _).2 (by simpa using hjl) hd fin
theorem ob_r_get (C : ob_Cx p l R s m args meth c G mc ms9 n cc own) {idx c1 j a k9 : Nat} {fs : List ob_F} (hc : c1 < 11) (hj : j < ox_nf c1) (w1 : ox_in1 (.fieldLink own idx (ox_F c1 j).1 (ox_F c1 j).2.1 (ox_F c1 j).2.2.1) = true) (ha : B[a]? = some (.inl (c1, fs))) (hf : fs[j]? = some (.inr (some k9))) (hd : decode cc pc = .ok (.getfield idx, 3))
    (k : ob_S9 p l e R s m args below meth c G as0 mc ms9 n Q (pc + 3, b, d, ls, ob_r k9 :: st, B)) : ob_S9 p l e R s m args below meth c G as0 mc ms9 n Q (pc, b, d, ls, ob_r a :: st, B) := by
  intro t9 H locs cells slots arr hl hP hD h2 h3 h4 h5 hw h6 h7
  dsimp only at hl hP hD h3 h4 h5 hw h6 h7 ⊢
  have h5' := (List.forall_mem_cons.mp h5).2
  have hal := ob_ws_at (G := G) hl ha
  have hk := hw _ (List.mem_of_getElem? ha) _ (List.mem_of_getElem? hf)
  have hk : k9 < B.length := of_decide_eq_true hk
  refine va_get (C := ox_cn c1) (T := ox_F c1) (N := ox_nf c1) (v := .ref ((as0 ++ t9).getD k9 0)) C.1 C.2.1 C.2.2.2.2.1 (ox_lays_in hc) C.2.2.2.1 C.2.2.2.2.2.1 hP a hal (ox_cls_at hc) j hj (ob_g C w1) (fun _ h9 => h9) (by rw [List.getElem?_map, hf]; rfl) hd ?_
  exact k t9 H locs cells slots arr hl hP hD h2 h3 h4 (ob_vkc (decide_eq_true ⟨hk, rfl⟩) h5') hw h6 h7
theorem ob_r_obj (C : ob_Cx p l R s m args meth c G mc ms9 n cc own) {idx a : Nat} (w1 : ox_in1 (.methodLink own idx Lib.objectInit) = true) (h8 : ox_sc st ≤ 8) (hd : decode cc pc = .ok (.invokespecial idx, 3))
    (k : ob_S9 p l e R s m args below meth c G as0 mc ms9 n Q (pc + 3, b, d, ls, st, B)) : ob_S9 p l e R s m args below meth c G as0 mc ms9 n Q (pc, b, d, ls, ob_r a :: st, B) := by
  intro t9 H locs cells slots arr hl hP hD h2 h3 h4 h5 hw h6 h7
  dsimp only at hl hP hD h3 h4 h5 hw h6 h7 ⊢
  have h5' := (List.forall_mem_cons.mp h5).2
  obtain ⟨r1, r2, r3, r4⟩ := C.2.2.2.2.2.2.2.2.2.2.1
  have hcat : 2 * (F0 m pc arr ((ob_r a :: st).map (ox_mv (ob_G G (as0 ++ t9))))).monitorRoom + ((st.map (ox_mv (ob_G G (as0 ++ t9)))).map fun v => v.category).sum ≤ 8 := lv_room (pc := pc) (by rw [ox_sc_cat]; exact h8)
  exact W.objInit C.1 C.2.1 C.2.2.2.1 (ob_g C w1) (C.2.2.2.2.1 _ (ox_in1_of (by decide +kernel))) (C.2.2.2.2.1 _ (ox_in1_of (by decide +kernel))) rfl (h3.1.trans C.2.2.1.symm) rfl hd (by omega) (by omega) (k t9 H locs cells slots arr hl hP hD h2 h3 h4 h5' hw h6 h7)
end OB94
