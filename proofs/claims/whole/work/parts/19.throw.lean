/-! ===== a throw ===== -/
def ox_tn : List String := ["java/lang/RuntimeException", "java/lang/Exception"]
def ox_ic (e : Nat) : Nat := if e = 1 then 75 else if e = 2 then 93 else 102
def ox_ik (e : Nat) : Nat := if e = 1 then 71 else if e = 2 then 89 else 98
theorem ox_tw_0 : ∀ e, e < 4 → ∀ w ∈ Jvm.Cond.classLink "Outlinery" (ox_ik e) (ox_xn e) :: Jvm.Cond.initialized (ox_xn e) :: vx_atS "Outlinery" (ox_ic e) (ox_xn e) ox_tn, w ∈ tables_1 ∧ (goodWord w || decide (w ∈ ox_nest)) = true ∧ vx_ot w = true := by decide +kernel
theorem ox_tw_f : ∀ e, e < 4 → Bundle.fit (ox_xn e) = true ∧ ∀ n ∈ ox_tn, Bundle.fit n = true := by decide +kernel
section OX19
variable {p : Program} {l : Launch} {e : Env} {R : Room} {s : State} {m : MethodId} {args : Array Value} {below : List Frame} {meth : Method} {c : Code}
variable {G G0 : ox_G} {mc ms n tl0 : Nat} {Q : State → Prop} {cc : ByteArray} {pc b tl : Nat} {ls st : List ox_V} {σ : ox_H} {o : ox_O}
theorem ox_nest_ot {w : Jvm.Cond} (h : w ∈ ox_nest) : w.onTables = true := by
  have := (List.mem_filter.mp h).2
  cases w <;> first | rfl | cases this
theorem ox_hw {own : String} (C : ox_Cx p l R s m args meth c G mc ms n cc own) {w : Jvm.Cond} (h : w ∈ tables_1) (hg : (goodWord w || decide (w ∈ ox_nest)) = true) : w.before args s = true := by
  rw [Bool.or_eq_true, decide_eq_true_eq] at hg
  rcases hg with hg | hg
  · exact ox_hg C h hg
  · exact va_Nw.use (ox_nest_ot hg) (C.2.2.2.2.2.1.2.2.2.2.2.1 w hg)
theorem ox_r_throw (C : ox_Cx p l R s m args meth c G mc ms n cc "Outlinery") (hG : ox_Gt G0 tl0 G tl) {ee is : Nat} {tx : String} {wide : Bool} (he : 1 ≤ ee ∧ ee < 4) (hT : ∀ x ∈ c.exceptionTable.toList, False) (htx : Jvm.Cond.stringRef "Outlinery" is tx ∈ tables_1)
    (d0 : decode cc pc = .ok (.new (ox_ik ee), 3)) (d3 : decode cc (pc + 3) = .ok (.dup, 1)) (d4 : decode cc (pc + 4) = if wide then .ok (.ldc_w is, 3) else .ok (.ldc is, 2)) (d6 : decode cc (if wide then pc + 7 else pc + 6) = .ok (.invokespecial (ox_ic ee), 3)) (d9 : decode cc (if wide then pc + 10 else pc + 9) = .ok (.athrow, 1)) :
    ox_S9 p l e R s m args below meth c G mc ms n (vx_MQ below (ox_Qc G0 tl0 (.inr ee, σ)) (ox_XC G0 tl0 (.inr ee, σ)) args s mc ms (ox_A G0)) pc (b + 1) tl ls [] σ := by
  intro H locs cells slots arr h1 h2 h3 h4 h5 h6 h7
  rw [← ox_Gt_A hG]
  obtain ⟨hx, hb, hml, hown, hts, ⟨f1, f2, f3, f4, f5, f6, f7⟩, hlk, hst, ⟨hf, hlo, hmc, hms⟩, hA⟩ := id C
  obtain ⟨sa, hsa, -⟩ := f3 _ _ _ htx
  have W0 := ox_tw_0 ee (by omega)
  have hk := ox_hw C (W0 _ List.mem_cons_self).1 (W0 _ List.mem_cons_self).2.1
  have hini := ox_hw C (W0 _ (List.mem_cons_of_mem _ List.mem_cons_self)).1 (W0 _ (List.mem_cons_of_mem _ List.mem_cons_self)).2.1
  have hat : ∀ w ∈ vx_atS "Outlinery" (ox_ic ee) (ox_xn ee) ox_tn, w.before args s = true := fun w hw => ox_hw C (W0 w (List.mem_cons_of_mem _ (List.mem_cons_of_mem _ hw))).1 (W0 w (List.mem_cons_of_mem _ (List.mem_cons_of_mem _ hw))).2.1
  have hgood := fun w hw => (W0 w hw).2.2
  have hfin : ∀ t : State, s.vm.Alike t.vm → H.size ≤ t.heap.size → (∀ q : Nat, q < H.size → t.heap[q]? = H[q]?) → ox_XC G0 tl0 (.inr ee, σ) (ox_xn ee) s t := by
    intro t hv hz hq
    refine ⟨rfl, ?_, ?_⟩
    · refine ox_Wd_moved hv (ox_Gt_Wd hG ⟨fun k q hk => (h1.1 k q hk).kept (hq _ (h1.1 k q hk).lt), h1.2.1, h1.2.2.1, ?_⟩)
      have hlt : ox_ad G (122, 0, 0) < ox_bs G := f7.1
      have hsz := Nat.lt_of_lt_of_le hlt (ox_bs_le C)
      exact h1.2.2.2.kept (hq _ (Nat.lt_of_lt_of_le hsz h2.1))
    · rw [← ox_Gt_A hG]
      exact ⟨Nat.le_trans h2.1 hz, fun q q1 q2 => (hq q (Nat.lt_of_lt_of_le q1 h2.1)).trans (h2.2.1 q q1 q2)⟩
  have hnl : ox_tn.length = 2 := rfl
  cases wide with
  | false =>
    exact vx_throwS hx hb hst hown (ox_tw_f ee (by omega)).1 (ox_tw_f ee (by omega)).2 hk hini hsa hat hgood f4 f5 h2 (by rw [hml, h3.1]) d0 d3 d4 d6 d9 (fun x hx => (hT x hx).elim) (by rw [hnl]; omega) (by rw [hnl]; simp only [List.map_nil, List.sum_nil]; omega) (by omega) (by omega) hlk hfin h2.2.2 (by omega) (by omega)
  | true =>
    exact vx_throwSW hx hb hst hown (ox_tw_f ee (by omega)).1 (ox_tw_f ee (by omega)).2 hk hini hsa hat hgood f4 f5 h2 (by rw [hml, h3.1]) d0 d3 d4 d6 d9 (fun x hx => (hT x hx).elim) (by rw [hnl]; omega) (by rw [hnl]; simp only [List.map_nil, List.sum_nil]; omega) (by omega) (by omega) hlk hfin h2.2.2 (by omega) (by omega)
end OX19
