/-! ===== what is checked of the code, and a step of the whole machine ===== -/
def ox_no (pc : Nat) (o : Int) : Bool := decide (0 ≤ (pc : Int) + o)
def ox_fcb (own : String) (k : Nat) (f : List Nat) : Bool := match f with
  | c :: j :: kd :: c2 :: k2 :: nest :: w :: _ => decide (c < 11) && decide (j < ox_nf c) &&
    ((kd == 1 && (ox_fk c j).1 == 1) || (kd == 2 && ox_fk c j == (2, c2, k2)) || (kd == 0 && (ox_fk c j).1 == 0 && decide (ox_T c j = .int) && ox_ty c j == 0) || (kd == 3 && (ox_fk c j).1 == 0 && decide (ox_T c j = .char) && ox_ty c j == 1)) &&
    decide (tables_1[w]? = some (if nest = 0 then .fieldLink own k (ox_F c j).1 (ox_F c j).2.1 (ox_F c j).2.2.1 else .fieldLinkNest own k (ox_F c j).1 (ox_F c j).2.1 (ox_F c j).2.2.1 "Outlinery"))
  | _ => false
def ox_fin (f : List Nat) : Bool := match f with | c :: j :: _ => !(ox_F c j).2.2.2 | _ => false
def ox_jn (z : Nat) : MethodName := if z = 1 then Lib.Math.max.name else if z = 2 then Lib.Math.min.name else if z = 3 then Lib.Math.abs.name else if z = 4 then arraycopyName else if z = 5 then Lib.Cold.length.x else Lib.Cold.charAt.x
def ox_cab (own : String) (k : Nat) (virt : Bool) (f : List Nat) : Bool := match f with
  | [z, w] => decide (1 ≤ z ∧ z ≤ 6) && decide (tables_1[w]? = some (.methodLink own k (ox_jn z))) && (virt == decide (5 ≤ z))
  | 0 :: y :: n :: cost :: rc :: rf :: nest :: w :: _ => (match ox_ms y with
    | none => false
    | some M => decide (M.2.2.2.1 ≤ cost) && n == ox_np y + (if virt then 1 else 0) && rc == (if virt then M.1 + 1 else 0) && (virt == !ox_sf y) && decide (M.1 < 12) && (!virt || decide (M.1 < 11)) && (nest == 0 || decide (2 ≤ rf)) && (nest == 0 || decide (M.1 < 11)) && (!(M.1 == 11) || !virt) &&
      decide (tables_1[w]? = some (if nest = 0 then .methodLink own k (ox_yn y) else .methodLinkNest own k (ox_yn y) "Outlinery")))
  | _ => false
def ox_ldb (own : String) (k : Nat) (f : List Nat) : Bool := match f with
  | 0 :: x :: y :: w :: _ => decide (x < 2147483648 ∧ y < 2147483648) && decide (tables_1[w]? = some (.constant own k (Int32.ofInt (ox_c x y))))
  | 1 :: i :: w :: _ => decide (i < 6) && decide (tables_1[w]? = some (.stringRef own k (ox_lit i)))
  | 2 :: _ => true
  | _ => false
def ox_thb (M : ox_M) (pc k : Nat) (f : List Nat) : Bool := match f with
  | e :: _ => decide (1 ≤ e ∧ e < 4) && k == ox_ik e && M.1 == 0 && (match M.2.1 (pc + 3), M.2.1 (pc + 4) with
    | some (.dup, 1, _), some (.ldc i, 2, [2, 0, w]) => (match tables_1[w]? with | some (.stringRef own i2 _) => own == "Outlinery" && i2 == i | _ => false) && (match M.2.1 (pc + 6), M.2.1 (pc + 9) with | some (.invokespecial ic, 3, _), some (.athrow, 1, _) => ic == ox_ic e | _, _ => false)
    | some (.dup, 1, _), some (.ldc_w i, 3, [2, 0, w]) => (match tables_1[w]? with | some (.stringRef own i2 _) => own == "Outlinery" && i2 == i | _ => false) && (match M.2.1 (pc + 7), M.2.1 (pc + 10) with | some (.invokespecial ic, 3, _), some (.athrow, 1, _) => ic == ox_ic e | _, _ => false)
    | _, _ => false)
  | _ => false
def ox_chk (M : ox_M) (pc : Nat) (i : Instr) (n : Nat) (f : List Nat) : Bool := match i with
  | .iconst x => n == 1 && decide (-1 ≤ x ∧ x ≤ 5)
  | .bipush x => n == 2 && decide (-128 ≤ x ∧ x < 128)
  | .sipush x => n == 3 && decide (-32768 ≤ x ∧ x < 32768)
  | .ldc k => n == 2 && ox_ldb (ox_cn M.1) k f
  | .ldc_w k => n == 3 && ox_ldb (ox_cn M.1) k f
  | .ldc2_w k => n == 3 && (match f with | x :: y :: w :: _ => decide (x < 2147483648 ∧ y < 2147483648) && decide (tables_1[w]? = some (.constantLong (ox_cn M.1) k (Int64.ofInt (ox_c x y)))) | _ => false)
  | .iload _ | .lload _ | .aload _ | .istore _ | .lstore _ | .astore _ => n == 2
  | .iload_n _ | .lload_n _ | .aload_n _ | .istore_n _ | .lstore_n _ | .astore_n _ => n == 1
  | .iinc _ _ => n == 3
  | .pop | .dup | .dup2 | .iadd | .isub | .imul | .iand | .ior | .ishl | .idiv | .irem | .ineg | .ladd | .lsub | .lmul | .lcmp | .i2l | .l2i | .i2c => n == 1
  | .iaload | .caload | .baload | .aaload | .laload | .iastore | .castore | .bastore | .lastore | .arraylength => n == 1
  | .getfield k => n == 3 && ox_fcb (ox_cn M.1) k f
  | .putfield k => n == 3 && ox_fcb (ox_cn M.1) k f && ox_fin f
  | .goto o => n == 3 && ox_no pc o
  | .ifCond _ o | .if_icmp _ o | .if_acmp _ o => n == 3 && ox_no pc o
  | .tableswitch d lo hi offs => lo == 0 && decide (hi + 1 = offs.size) && offs.toList.all (ox_no pc) && ox_no pc d && f == ox_swl pc offs.toList 0 (ox_tgt pc d)
  | .lookupswitch d ps => (ps.toList.zip (ps.toList.drop 1)).all (fun (a, next) => a.1 < next.1) && ps.toList.all (fun q => decide (0 ≤ q.1)) && ps.toList.all (fun q => ox_no pc q.2) && ox_no pc d && f == ox_swp pc ps.toList (ox_tgt pc d)
  | .invokevirtual k => n == 3 && ox_cab (ox_cn M.1) k true f
  | .invokestatic k => n == 3 && ox_cab (ox_cn M.1) k false f
  | .new k => n == 3 && ox_thb M pc k f
  | .newarray a => n == 2 && decide (a = .int)
  | .ireturn | .areturn | .return_ => n == 1
  | _ => true
/-- a method's code is what the table says -/
def ox_Co (M : ox_M) (bytes : ByteArray) : Prop := ∀ pc i n f, M.2.1 pc = some (i, n, f) → decode bytes pc = .ok (i, n) ∧ ox_chk M pc i n f = true
/-- its handlers -/
def ox_Ho (M : ox_M) (bytes : ByteArray) (hh : List (Nat × Nat × Nat × Nat)) : Prop := ∀ pc e h x, M.2.2.2.2.2.2 pc e = some (h, x) → 1 ≤ e ∧ e < 4 ∧ x < M.2.2.2.2.1 ∧ ∃ pre z suf, tableOf hh = pre ++ z :: suf ∧
  (∀ w ∈ pre, w.catchType ≠ 0 ∧ ∃ e', 1 ≤ e' ∧ e' < 4 ∧ e' ≠ e ∧ Jvm.Cond.classLink "OutlineryLaw" w.catchType (ox_xn e') ∈ ox_good) ∧ covers z pc = true ∧ z.catchType ≠ 0 ∧ Jvm.Cond.classLink "OutlineryLaw" z.catchType (ox_xn e) ∈ ox_good ∧
  ((decode bytes z.handlerPc = .ok (.astore x, 2) ∧ h = z.handlerPc + 2) ∨ ∃ x4 : Fin 4, x4.val = x ∧ decode bytes z.handlerPc = .ok (.astore_n x4, 1) ∧ h = z.handlerPc + 1)
def ox_Eo (y : Nat) (M : ox_M) : Prop := ∃ (cw : Jvm.Cond) (bytes : ByteArray) (ret : Option FieldType) (hh : List (Nat × Nat × Nat × Nat)),
  tables_1[ox_cwi y]? = some cw ∧ cw ∈ ox_good ∧ ((M.1 ≠ 11 ∧ cw = .code (ox_yn y) bytes M.2.2.2.2.1 ret) ∨ (M.1 = 11 ∧ cw = .codeWith (ox_yn y) bytes M.2.2.2.2.1 ret hh ∧ ox_Ho M bytes hh)) ∧ (M.1 ≠ 11 → ∀ pc e, M.2.2.2.2.2.2 pc e = none) ∧
  ox_rt M.2.2.2.2.2.1 ret ∧ (ox_yn y).cls = ox_cn M.1 ∧ Jvm.Cond.initialized (ox_yn y).cls ∈ ox_good ∧ plainName (ox_yn y).cls = true ∧ ((ox_yn y).cls ≠ "java/lang/invoke/MethodHandle" ∧ (ox_yn y).cls ≠ "java/lang/invoke/VarHandle") ∧
  (∀ sig, parseMethodDescriptor (ox_yn y).desc = some sig → ox_np y = sig.parameters.length) ∧ M.2.2.2.2.1 ≤ 20 ∧ (if ox_sf y then Jvm.Cond.static (ox_yn y) ∈ ox_good else Jvm.Cond.instanceMethod (ox_yn y) ∈ ox_good ∧ Jvm.Cond.selects (ox_cn M.1) (ox_yn y) (ox_yn y) ∈ ox_good) ∧ ox_Co M bytes
section OX22
variable {p : Program} {l : Launch} {e : Env} {R : Room} {s : State} {m : MethodId} {args : Array Value} {below : List Frame} {meth : Method} {c : Code}
variable {G G0 : ox_G} {mc ms n tl0 : Nat} {Q : State → Prop} {cc : ByteArray} {own : String} {pc b tl : Nat} {ls st : List ox_V} {σ : ox_H} {o : ox_O}
theorem ox_mem_at {w : Nat} {x : Jvm.Cond} (h : tables_1[w]? = some x) : x ∈ tables_1 := List.mem_of_getElem? h
theorem ox_fc_of (C : ox_Cx p l R s m args meth c G mc ms n cc own) {k : Nat} {f : List Nat} (h : ox_fcb own k f = true) : ∃ c1 j kd c2 k2 fr, f = c1 :: j :: kd :: c2 :: k2 :: fr ∧ ox_fc c1 j kd c2 k2 ∧ ox_fl own args s k c1 j := by
  rcases f with _ | ⟨c1, _ | ⟨j, _ | ⟨kd, _ | ⟨c2, _ | ⟨k2, _ | ⟨nest, _ | ⟨w, fr⟩⟩⟩⟩⟩⟩⟩ <;> try cases h
  unfold ox_fcb at h
  simp only [Bool.and_eq_true, Bool.or_eq_true, decide_eq_true_eq, beq_iff_eq] at h
  obtain ⟨⟨⟨h1, h2⟩, h3⟩, h4⟩ := h
  refine ⟨c1, j, kd, c2, k2, nest :: w :: fr, rfl, ⟨h1, h2, ?_⟩, ?_⟩
  · rcases h3 with ((⟨a, b⟩ | ⟨a, b⟩) | ⟨⟨⟨a, b⟩, c⟩, d⟩) | ⟨⟨⟨a, b⟩, c⟩, d⟩
    · exact Or.inl ⟨a, b⟩
    · exact Or.inr (Or.inl ⟨a, b⟩)
    · exact Or.inr (Or.inr (Or.inl ⟨a, b, c, d⟩))
    · exact Or.inr (Or.inr (Or.inr ⟨a, b, c, d⟩))
  · by_cases hn : nest = 0
    · rw [if_pos hn] at h4
      exact Or.inl (ox_hg C (ox_mem_at h4) rfl)
    · rw [if_neg hn] at h4
      exact Or.inr (ox_hw C (ox_mem_at h4) (by
        rw [Bool.or_eq_true, decide_eq_true_eq]
        exact Or.inr (List.mem_filter.mpr ⟨ox_mem_at h4, rfl⟩)))
end OX22
