/-! ===== the start: what the Statement gives, the makings, the law's loop ===== -/
/-- the strings that are read -/
def oz_ix (i : Nat) : Nat := [314, 316, 318, 320, 322, 226].getD i 0
def oz_tm (i : Nat) : Term := .string "Outlinery" (oz_ix i)
abbrev oz_nw : List Jvm.Cond := flatC (Jvm.Cond.and given_1 narrow_1)
set_option maxRecDepth 100000 in
theorem oz_n1 : ∀ i, i < 6 → Jvm.Cond.exactly (oz_tm i) ox_sn ∈ oz_nw := by decide +kernel
set_option maxRecDepth 100000 in
theorem oz_n2 : ∀ i, i < 6 → Jvm.Cond.eq (.field (oz_tm i) ox_sn "coder" "B") (.int 0) ∈ oz_nw := by decide +kernel
set_option maxRecDepth 100000 in
theorem oz_n3 : ∀ i, i < 6 → Jvm.Cond.arrayOf (.field (oz_tm i) ox_sn "value" "[B") .byte ∈ oz_nw := by decide +kernel
set_option maxRecDepth 100000 in
theorem oz_n4 : ∀ i, i < 6 → Jvm.Cond.eq (.length (.field (oz_tm i) ox_sn "value" "[B")) (.int (Int32.ofNat (ox_lens.getD i 0))) ∈ oz_nw := by decide +kernel
set_option maxRecDepth 100000 in
theorem oz_n5 : ∀ i, i < 6 → ∀ j, j < 6 → j < ox_lens.getD i 0 → Jvm.Cond.eq (.elem (.field (oz_tm i) ox_sn "value" "[B") (.int (Int32.ofNat j))) (.int ((ox_byts.getD i []).getD j 0)) ∈ oz_nw := by decide +kernel
set_option maxRecDepth 100000 in
theorem oz_n6 : tables_1.all (fun w => match w with
  | .stringRef own k tx => decide (Jvm.Cond.exactly (.string own k) ox_sn ∈ oz_nw) && (List.range 6).all (fun i => !(decide (tx = ox_lit i)) || (decide (own = "Outlinery") && decide (k = oz_ix i)))
  | _ => true) = true := by decide +kernel
set_option maxRecDepth 100000 in
theorem oz_n7b : ((List.range 4).all fun e => (List.range 4).all fun e' => e == 0 || (e' == 0 || (e' == e || decide (Jvm.Cond.not (.castable (ox_xn e) (ox_xn e')) ∈ oz_nw)))) = true := by decide +kernel
theorem oz_n7 (e : Nat) (h1 : e < 4) (h2 : 1 ≤ e) (e' : Nat) (h3 : e' < 4) (h4 : 1 ≤ e') (h5 : e' ≠ e) : Jvm.Cond.not (.castable (ox_xn e) (ox_xn e')) ∈ oz_nw := by
  have h := List.all_eq_true.mp (List.all_eq_true.mp oz_n7b e (List.mem_range.mpr h1)) e' (List.mem_range.mpr h3)
  rw [Bool.or_eq_true, Bool.or_eq_true, Bool.or_eq_true, beq_iff_eq, beq_iff_eq, beq_iff_eq, decide_eq_true_eq] at h
  rcases h with h | h | h | h
  · omega
  · omega
  · exact absurd h h5
  · exact h
set_option maxRecDepth 100000 in
theorem oz_n8 : ∀ e, e < 4 → 1 ≤ e → Jvm.Cond.castable (ox_xn e) (ox_xn e) ∈ ox_nest := by decide +kernel
set_option maxRecDepth 100000 in
theorem oz_n9 : Jvm.Cond.eq (.static ox_sn "COMPACT_STRINGS" "Z") (.int 1) ∈ oz_nw ∧ Jvm.Cond.isRef (.static "jdk/internal/util/Preconditions" "SIOOBE_FORMATTER" "Ljava/util/function/BiFunction;") ∈ oz_nw ∧ Jvm.Cond.isRef (.static Bundle.tN "UNASSIGNED_STACK" Bundle.steD) ∈ oz_nw ∧ Jvm.Cond.isRef (.static Bundle.tN "SUPPRESSED_SENTINEL" Bundle.listD) ∈ oz_nw := by decide +kernel
set_option maxRecDepth 100000 in
theorem oz_t1 : ∀ w ∈ [Jvm.Cond.laysStatic ox_sn "COMPACT_STRINGS" "Z", .initialized ox_sn, .laysStatic "jdk/internal/util/Preconditions" "SIOOBE_FORMATTER" "Ljava/util/function/BiFunction;", .initialized "jdk/internal/util/Preconditions", .laysStatic Bundle.tN "UNASSIGNED_STACK" Bundle.steD, .laysStatic Bundle.tN "SUPPRESSED_SENTINEL" Bundle.listD, .initialized Bundle.tN,
  .arrayClass .int, .arrayClass .char, .arrayClass .boolean, .arrayClass .long, .arrayOver (.object ob_rd)], w ∈ tables_1 := by decide +kernel
set_option maxRecDepth 100000 in
theorem oz_t2 : ∀ c, c < 11 → Jvm.Cond.instantiable (ox_cn c) (ox_nf c) ∈ tables_1 := by decide +kernel
theorem oz_b6 : ∀ i, i < 6 → ∀ j, j < 6 → (Int32.ofNat (ox_lens.getD i 0) = Int32.ofNat (ox_lens.getD j 0) ∧ ∀ k, k < 6 → k < ox_lens.getD i 0 → k < ox_lens.getD j 0 → (ox_byts.getD i []).getD k 0 = (ox_byts.getD j []).getD k 0) → i = j := by decide +kernel
section OZ1
variable {p : Program} {l : Launch} {e : Env} {s : State} {m : MethodId} {below : List Frame} {meth : Method} {c : Code} {args : Array Value}
/-- the six strings' cells -/
theorem oz_str {A : Nat → Prop} (hq : ∀ w ∈ oz_nw, w.before args s = true) (hA : ∀ a : Nat, a < s.heap.size → ¬ A a) : ∃ adK aV : Nat → Nat, vk_S 6 ox_lens ox_byts adK aV A s s.heap ∧ ∀ i : Nat, i < 6 → (oz_tm i).eval args s none [] s = some (.ref (adK i)) := by
  have h0 : ∀ i : Nat, ∃ q : Nat × Nat, i < 6 → (oz_tm i).eval args s none [] s = some (.ref q.1) ∧ va_O ox_sn q.1 A s s.heap ∧ va_OF ox_sn "coder" "B" (.int 0) q.1 A s s.heap ∧ va_OF ox_sn "value" "[B" (.ref q.2) q.1 A s s.heap ∧ va_T .byte q.2 (ox_lens.getD i 0) (fun j => .int ((ox_byts.getD i []).getD j 0)) A s s.heap := by
    intro i
    by_cases hi : i < 6
    · obtain ⟨a, c, cA, kA, q1, q2, q3, q4, q5, q6, -⟩ := Cond.exactly_spec (args := args) (first := s) (o := none) (s := s) (idx := []) (t := oz_tm i) (cls := ox_sn) (hq _ (oz_n1 i hi))
      obtain ⟨t, ht, hT⟩ := va_Tof (f := fun j => .int ((ox_byts.getD i []).getD j 0)) (A := A) (Nat.lt_of_le_of_lt (ox_l6 i hi) (by decide)) (hq _ (oz_n3 i hi)) (va_eqt (hq _ (oz_n4 i hi))) (fun j hj => va_eqt (hq _ (oz_n5 i hi j (Nat.lt_of_lt_of_le hj (ox_l6 i hi)) hj))) hA
      exact ⟨(a, t), fun _ => ⟨q1, ⟨cA, q3, q5, by rw [q6]; exact q2, hA a (Array.getElem?_eq_some_iff.mp q3).1⟩, vk_OFof q1 (va_eqt (hq _ (oz_n2 i hi))) hA, vk_OFof q1 ht hA, hT⟩⟩
    · exact ⟨(0, 0), fun h => absurd h hi⟩
  obtain ⟨ad, had⟩ := Classical.axiomOfChoice h0
  refine ⟨fun i => (ad i).1, fun i => (ad i).2, ⟨fun i hi => (had i hi).2, fun i j hi hj he => ?_⟩, fun i hi => (had i hi).1⟩
  obtain ⟨-, -, -, ⟨cf, k, fi, f, cell, g1, -, g3, -, g5, -⟩, ⟨ci, i1, -, -, i4, i5, i6, -⟩⟩ := had i hi
  obtain ⟨-, -, -, ⟨cf', k', fi', f', cell', g1', -, g3', -, g5', -⟩, ⟨cj, j1, -, -, j4, j5, j6, -⟩⟩ := had j hj
  have he : (ad i).1 = (ad j).1 := he
  cases g1.symm.trans g1'
  rw [← he] at g3'
  cases g3.symm.trans g3'
  have hv : (ad i).2 = (ad j).2 := by
    have := g5.symm.trans g5'
    exact Value.ref.inj (Option.some.inj this)
  rw [← hv] at j1
  cases i1.symm.trans j1
  refine oz_b6 i hi j hj ⟨i5.symm.trans j5, fun k hk h1 h2 => ?_⟩
  have := (i6 k h1).symm.trans (j6 k h2)
  exact Value.int.inj (Option.some.inj this)
theorem oz_kn (hts : ∀ w ∈ lw_tbl, w.before args s = true) : ∃ (D : va_G) (cA : Nat → ClassId), ∀ G : ox_G, ox_D G = D → ox_cA G = cA → va_K (ox_D G) ox_cls (ox_tys G) s := by
  have ht : ∀ w ∈ tables_1, w.before args s = true := fun w hw => hts w (List.mem_append_right _ hw)
  have hg : ∀ w ∈ ox_good, w.before args s = true := fun w hw => hts w (List.mem_filter.mp hw).1
  have h1 : ∀ c : Nat, ∃ q : ClassId × (Nat → Nat), c < 11 → u_Kn s (ox_cn c) (ox_F c) (ox_nf c) q.1 q.2 := by
    intro c
    by_cases hc : c < 11
    · obtain ⟨cC, iS, hK⟩ := u_known (C := ox_cn c) (T := ox_F c) (N := ox_nf c) hg (ox_lays_in hc) (ht _ (oz_t2 c hc))
      exact ⟨(cC, iS), fun _ => hK⟩
    · exact ⟨(0, fun _ => 0), fun h => absurd h hc⟩
  obtain ⟨q, hq⟩ := Classical.axiomOfChoice h1
  have prim : ∀ ty : FieldType, Jvm.Cond.arrayClass ty ∈ tables_1 → (∀ cA, s.vm.findClass ("[" ++ ty.toString) = some cA → va_RA s cA ty) → ∃ cA, ArrOfT s cA ty ∧ va_RA s cA ty := by
    intro ty hw hr
    obtain ⟨cA, kA, comp, f1, f2, f3⟩ := Cond.arrayClass_spec (args := args) (first := s) (o := none) (idx := []) (ht _ hw)
    exact ⟨cA, fun N z => ⟨(fun k h => by cases h), kA, f2, comp, f3⟩, hr cA f1⟩
  obtain ⟨a0, k0, r0⟩ := prim .int (oz_t1 _ (List.mem_of_getElem? (i := 7) rfl)) (fun _ h => h)
  obtain ⟨a1, k1, r1⟩ := prim .char (oz_t1 _ (List.mem_of_getElem? (i := 8) rfl)) (fun _ h => h)
  obtain ⟨a2, k2, r2⟩ := prim .boolean (oz_t1 _ (List.mem_of_getElem? (i := 9) rfl)) (fun _ h => h)
  obtain ⟨a4, k4, r4⟩ := prim .long (oz_t1 _ (List.mem_of_getElem? (i := 10) rfl)) (fun _ h => h)
  obtain ⟨comp, a3, kA, f1, -, f2, f3, f4⟩ := Cond.arrayOver_spec (args := args) (first := s) (o := none) (idx := []) (n := ob_rd) (ht _ (oz_t1 _ (List.mem_of_getElem? (i := 11) rfl)))
  have k3 : ArrOfT s a3 (.object ob_rd) := fun N z => ⟨(fun k h => by cases h), kA, f2, comp, f3⟩
  refine ⟨(fun c => (q c).1, fun c => (q c).2), fun t => if t = 0 then a0 else if t = 1 then a1 else if t = 2 then a2 else if t = 3 then a3 else a4, fun G hD hC => ⟨fun c r hr => ?_, fun k r hr => ?_⟩⟩
  · have hc : c < 11 := by
      have := (List.getElem?_eq_some_iff.mp hr).1
      unfold ox_cls at this
      rw [List.length_map, List.length_range] at this
      exact this
    rw [ox_cls_at hc] at hr
    cases hr
    rw [hD]
    exact hq c hc
  · have e : ox_tys G = [(a0, .int), (a1, .char), (a2, .boolean), (a3, .object ob_rd), (a4, .long)] := by
      unfold ox_tys
      rw [hC]
      rfl
    rw [e] at hr
    have hk : k < 5 := (List.getElem?_eq_some_iff.mp hr).1
    match k, hk with
    | 0, _ => cases hr; exact ⟨k0, r0⟩
    | 1, _ => cases hr; exact ⟨k1, r1⟩
    | 2, _ => cases hr; exact ⟨k2, r2⟩
    | 3, _ => cases hr; exact ⟨k3, kA, comp, f2, f3, f1, f4⟩
    | 4, _ => cases hr; exact ⟨k4, r4⟩
/-- what is fixed, at the law's entry -/
theorem oz_fx (hts : ∀ w ∈ lw_tbl, w.before args s = true) (hq : ∀ w ∈ oz_nw, w.before args s = true) {G : ox_G} (hK : va_K (ox_D G) ox_cls (ox_tys G) s) (hbs : ox_bs G = s.heap.size) (hb : ox_ad G (122, 0, 0) < s.heap.size) (hS : vk_S 6 ox_lens ox_byts (fun i => ox_ad G (200, i, 0)) (ox_aV G) (ox_A G) s s.heap) (hev : ∀ i : Nat, i < 6 → (oz_tm i).eval args s none [] s = some (.ref (ox_ad G (200, i, 0)))) : ox_Fx G s s.heap := by
  have ht : ∀ w ∈ tables_1, w.before args s = true := fun w hw => hts w (List.mem_append_right _ hw)
  have hA : ∀ a : Nat, a < s.heap.size → ¬ ox_A G a := fun a ha (q : ox_bs G ≤ a) => by omega
  obtain ⟨n1, n2, n3, n4⟩ := oz_n9
  have tt : ∀ (i : Nat) {w : Jvm.Cond}, [Jvm.Cond.laysStatic ox_sn "COMPACT_STRINGS" "Z", .initialized ox_sn, .laysStatic "jdk/internal/util/Preconditions" "SIOOBE_FORMATTER" "Ljava/util/function/BiFunction;", .initialized "jdk/internal/util/Preconditions", .laysStatic Bundle.tN "UNASSIGNED_STACK" Bundle.steD, .laysStatic Bundle.tN "SUPPRESSED_SENTINEL" Bundle.listD, .initialized Bundle.tN,
    .arrayClass .int, .arrayClass .char, .arrayClass .boolean, .arrayClass .long, .arrayOver (.object ob_rd)][i]? = some w → w.before args s = true := fun i w h => ht _ (oz_t1 _ (List.mem_of_getElem? h))
  have hnest : ∀ w ∈ ox_nest, va_Nw w s := fun w hw => va_Nw.of (ox_nest_ot hw) (ht w (List.mem_filter.mp hw).1)
  refine ⟨hK, hS, fun own k tx hm => ?_, vx_Zqof (tt 4 rfl) (tt 6 rfl) (hq _ n3) hA, vx_Zqof (tt 5 rfl) (tt 6 rfl) (hq _ n4) hA, hnest, by rw [hbs]; exact hb, fun e h1 h2 => hnest _ (oz_n8 e h2 h1), fun e e' h1 h2 h3 h4 h5 => va_Nc.of (hq _ (oz_n7 e h2 h1 e' h4 h3 h5)), va_Zof (tt 0 rfl) (tt 1 rfl) (va_eqi (hq _ n1)) hA, va_Zqof (tt 2 rfl) (tt 3 rfl) (hq _ n2) hA⟩
  have hc := List.all_eq_true.mp oz_n6 _ hm
  have hc : (decide (Jvm.Cond.exactly (.string own k) ox_sn ∈ oz_nw) && (List.range 6).all (fun i => !(decide (tx = ox_lit i)) || (decide (own = "Outlinery") && decide (k = oz_ix i)))) = true := hc
  rw [Bool.and_eq_true, decide_eq_true_eq] at hc
  obtain ⟨a, c9, cA, kA, q1, -⟩ := Cond.exactly_spec (args := args) (first := s) (o := none) (s := s) (idx := []) (t := .string own k) (cls := ox_sn) (hq _ hc.1)
  refine ⟨a, vk_R.of (ht _ hm) q1, fun i hi htx => ?_⟩
  have hi2 := List.all_eq_true.mp hc.2 i (List.mem_range.mpr hi)
  rw [Bool.or_eq_true, Bool.not_eq_true', decide_eq_false_iff_not, Bool.and_eq_true, decide_eq_true_eq, decide_eq_true_eq] at hi2
  rcases hi2 with hi2 | ⟨rfl, rfl⟩
  · exact absurd htx hi2
  · exact Value.ref.inj (Option.some.inj (q1.symm.trans (hev i hi)))
end OZ1
