section OX21
variable {p : Program} {l : Launch} {e : Env} {R : Room} {s : State} {m : MethodId} {args : Array Value} {below : List Frame} {meth : Method} {c : Code}
variable {G G0 : ox_G} {mc ms n tl0 : Nat} {Q : State → Prop} {cc : ByteArray} {own : String} {pc b tl : Nat} {ls st : List ox_V} {σ : ox_H} {o : ox_O}
/-- what a call needs of the callee's words: its code, its class, its parameters -/
def ox_cb (own : String) (idx : Nat) (y : MethodName) (cw : Jvm.Cond) (np : Nat) (maxL : Nat) : Prop :=
  cw ∈ ox_good ∧ Jvm.Cond.initialized y.cls ∈ ox_good ∧ (y.cls ≠ "java/lang/invoke/MethodHandle" ∧ y.cls ≠ "java/lang/invoke/VarHandle") ∧ (∀ sig, parseMethodDescriptor y.desc = some sig → np = sig.parameters.length) ∧ maxL ≤ 20
theorem ox_stk {av : List ox_V} {nn : Nat} (hav : (st.take nn).reverse = av) : st.map (ox_mv G) = (av.map (ox_mv G)).reverse ++ (st.drop nn).map (ox_mv G) := by
  rw [← hav, List.map_reverse, List.reverse_reverse, ← List.map_append, List.take_append_drop]
theorem ox_catr {nn : Nat} (h : ox_sc (st.drop nn) ≤ 8) {arr : Array Slot} {st0 : List Value} : 2 * (F0 m pc arr st0).monitorRoom + (((st.drop nn).map (ox_mv G)).map fun v => v.category).sum ≤ 8 := lv_room (pc := pc) (by rw [ox_sc_cat]; exact h)
/-- the receiver's cell -/
theorem ox_recv (C : ox_Cx p l R s m args meth c G mc ms n cc own) {H : Heap} (h1 : ox_Wd G tl σ s H) {t k j : Nat} (ht : t < 11) (hr : ox_rok tl (t, k, j)) : ∃ cell : Cell, H[ox_ad G (t, k, j)]? = some cell ∧ cell.vm.isStatics = false ∧ s.vm.findClass (ox_cn t) = some cell.cls := by
  obtain ⟨hr, rfl, -⟩ := ox_rok_obj hr ht
  obtain ⟨q, hq, he⟩ := ox_Wd_at h1 hr
  rw [ox_ent_obj ht] at he
  exact va_recv (ox_tys_at C) h1.1 (ox_cls_at ht) he
/-- an own or public method of an object, by a link -/
theorem ox_c_V (C : ox_Cx p l R s m args meth c G mc ms n cc own) {d idx cost np maxL t k j nn : Nat} {y : MethodName} {bytes : ByteArray} {ret : Option FieldType} {av : List ox_V} (hR : d + 11 ≤ R.frames ∧ 41 * d + 241 ≤ R.locals) (hc : ox_cb own idx y (.code y bytes maxL ret) np maxL)
    (hl : Jvm.Cond.methodLink own idx y ∈ ox_good) (hi : Jvm.Cond.instanceMethod y ∈ ox_good) (hse : (Jvm.Cond.selects (ox_cn t) y y).before args s = true) (ht : t < 11) (hM : ox_Ct l d y (.code y bytes maxL ret) cost G tl (.inr (.inr (t, k, j)) :: av) σ o)
    (hd : decode cc pc = .ok (.invokevirtual idx, 3)) (hav : (st.take nn).reverse = .inr (.inr (t, k, j)) :: av) (hn : av.length = np) (h8 : ox_sc (st.drop nn) ≤ 8) {H : Heap} {locs : List Loc} {cells slots : Nat} {arr : Array Slot} (h1 : ox_Wd G tl σ s H) (h2 : va_S (ox_A G) s.heap H locs) (h3 : ox_lr G ls n arr) (h5 : ∀ v ∈ st, ox_ok tl v) (h6 : cells + cost ≤ mc) (h7 : slots + 16 * cost ≤ ms) :
    vx_Run p l e R s m args below meth c H locs cells slots cost (16 * cost) (F0 m pc arr (st.map (ox_mv G))) ((st.drop nn).map (ox_mv G)) (ox_Qc G tl o (((.inr (.inr (t, k, j)) :: av).map (ox_mv G)).toArray)) (ox_XC G tl o) (ox_A G) := by
  obtain ⟨g1, g2, g3, g4, g5⟩ := hc
  have hts := C.2.2.2.2.1
  have hok : ∀ v ∈ ((.inr (.inr (t, k, j)) : ox_V) :: av), ox_ok tl v := by
    intro v hv
    rw [← hav] at hv
    exact h5 v (List.mem_of_mem_take (List.mem_reverse.mp hv))
  have hmcR := C.2.2.2.2.2.2.2.2.1
  refine vx_runV (C := ox_cn t) (b := ox_ad G (t, k, j)) (As := av.map (ox_mv G)) ⟨C.1, C.2.1, C.2.2.1, C.2.2.2.1, hts⟩ hM ⟨⟨rfl, rfl, by show d + 10 + 1 ≤ _; omega, by show 8 + (maxL + 11) + (41 * d + 200) ≤ _; omega, ox_ws_pay C g1, List.mem_cons_self, hts _ g1, hts _ g2, g3, g4, hts _ hl⟩, hts _ hi, hse⟩ ⟨ox_blind, ox_recv C h1 ht (hok _ List.mem_cons_self), ox_Pc_at C h1 h2 hok⟩ rfl (by simpa using hn) h3.1 ?_ (ox_catr h8) hd ⟨by omega, by omega⟩
  show st.map (ox_mv G) = _
  rw [ox_stk hav, List.map_cons, List.reverse_cons, List.append_assoc]
  rfl
/-- a private method of a nest mate -/
theorem ox_c_VN (C : ox_Cx p l R s m args meth c G mc ms n cc own) {d idx cost np maxL t k j nn : Nat} {y : MethodName} {bytes : ByteArray} {ret : Option FieldType} {av : List ox_V} {r : Option ox_V} {σ' : ox_H} (hR : d + 11 ≤ R.frames ∧ 41 * d + 241 ≤ R.locals) (hc : ox_cb own idx y (.code y bytes maxL ret) np maxL)
    (hl : (Jvm.Cond.methodLinkNest own idx y "Outlinery").before args s = true) (hi : Jvm.Cond.instanceMethod y ∈ ox_good) (hse : (Jvm.Cond.selects (ox_cn t) y y).before args s = true) (ht : t < 11) (hM : ox_Ct l d y (.code y bytes maxL ret) cost G tl (.inr (.inr (t, k, j)) :: av) σ (.inl r, σ'))
    (hd : decode cc pc = .ok (.invokevirtual idx, 3)) (hav : (st.take nn).reverse = .inr (.inr (t, k, j)) :: av) (hn : av.length = np) (h8 : ox_sc (st.drop nn) ≤ 8) {H : Heap} {locs : List Loc} {cells slots : Nat} {arr : Array Slot} (h1 : ox_Wd G tl σ s H) (h2 : va_S (ox_A G) s.heap H locs) (h3 : ox_lr G ls n arr) (h5 : ∀ v ∈ st, ox_ok tl v) (h6 : cells + cost ≤ mc) (h7 : slots + 16 * cost ≤ ms) :
    va_Run p l e R s m args below meth c H locs cells slots cost (16 * cost) (F0 m pc arr (st.map (ox_mv G))) ((st.drop nn).map (ox_mv G)) (ox_Qc G tl (.inl r, σ') (((.inr (.inr (t, k, j)) :: av).map (ox_mv G)).toArray)) (ox_A G) := by
  obtain ⟨g1, g2, g3, g4, g5⟩ := hc
  have hts := C.2.2.2.2.1
  have hok : ∀ v ∈ ((.inr (.inr (t, k, j)) : ox_V) :: av), ox_ok tl v := by
    intro v hv
    rw [← hav] at hv
    exact h5 v (List.mem_of_mem_take (List.mem_reverse.mp hv))
  have hmcR := C.2.2.2.2.2.2.2.2.1
  refine va_runVN (C := ox_cn t) (b := ox_ad G (t, k, j)) (As := av.map (ox_mv G)) ⟨C.1, C.2.1, C.2.2.1, C.2.2.2.1, hts⟩ (ox_met_of hM) ⟨⟨⟨rfl, rfl, by show d + 10 + 1 ≤ _; omega, by show 8 + (maxL + 11) + (41 * d + 200) ≤ _; omega, ox_ws_pay C g1, List.mem_cons_self⟩, hts _ g1, hts _ g2, g3, g4, hl⟩, hts _ hi, hse⟩ ⟨ox_blind, ox_recv C h1 ht (hok _ List.mem_cons_self), ox_Pc_at C h1 h2 hok⟩ rfl (by simpa using hn) h3.1 ?_ (ox_catr h8) hd ⟨by omega, by omega⟩
  show st.map (ox_mv G) = _
  rw [ox_stk hav, List.map_cons, List.reverse_cons, List.append_assoc]
  rfl
/-- a static method, by a link -/
theorem ox_c_S (C : ox_Cx p l R s m args meth c G mc ms n cc own) {d idx cost np maxL nn : Nat} {y : MethodName} {bytes : ByteArray} {ret : Option FieldType} {av : List ox_V} (hR : d + 11 ≤ R.frames ∧ 41 * d + 241 ≤ R.locals) (hc : ox_cb own idx y (.code y bytes maxL ret) np maxL)
    (hl : Jvm.Cond.methodLink own idx y ∈ ox_good) (hi : Jvm.Cond.static y ∈ ox_good) (hM : ox_Ct l d y (.code y bytes maxL ret) cost G tl av σ o)
    (hd : decode cc pc = .ok (.invokestatic idx, 3)) (hav : (st.take nn).reverse = av) (hn : av.length = np) (h8 : ox_sc (st.drop nn) ≤ 8) {H : Heap} {locs : List Loc} {cells slots : Nat} {arr : Array Slot} (h1 : ox_Wd G tl σ s H) (h2 : va_S (ox_A G) s.heap H locs) (h3 : ox_lr G ls n arr) (h5 : ∀ v ∈ st, ox_ok tl v) (h6 : cells + cost ≤ mc) (h7 : slots + 16 * cost ≤ ms) :
    vx_Run p l e R s m args below meth c H locs cells slots cost (16 * cost) (F0 m pc arr (st.map (ox_mv G))) ((st.drop nn).map (ox_mv G)) (ox_Qc G tl o ((av.map (ox_mv G)).toArray)) (ox_XC G tl o) (ox_A G) := by
  obtain ⟨g1, g2, g3, g4, g5⟩ := hc
  have hts := C.2.2.2.2.1
  have hok : ∀ v ∈ av, ox_ok tl v := by
    intro v hv
    rw [← hav] at hv
    exact h5 v (List.mem_of_mem_take (List.mem_reverse.mp hv))
  have hmcR := C.2.2.2.2.2.2.2.2.1
  exact vx_runS (As := av.map (ox_mv G)) ⟨C.1, C.2.1, C.2.2.1, C.2.2.2.1, hts⟩ hM ⟨⟨rfl, rfl, by show d + 10 + 1 ≤ _; omega, by show 8 + (maxL + 11) + (41 * d + 200) ≤ _; omega, ox_ws_pay C g1, List.mem_cons_self, hts _ g1, hts _ g2, g3, g4, hts _ hl⟩, hts _ hi⟩ ⟨ox_blind, ox_Pc_at C h1 h2 hok⟩ rfl (by simpa using hn) h3.1 (ox_stk hav) (ox_catr h8) hd ⟨by omega, by omega⟩
/-- a static method of a nest mate -/
theorem ox_c_SN (C : ox_Cx p l R s m args meth c G mc ms n cc own) {d idx cost np maxL nn : Nat} {y : MethodName} {bytes : ByteArray} {ret : Option FieldType} {av : List ox_V} {r : Option ox_V} {σ' : ox_H} (hR : d + 11 ≤ R.frames ∧ 41 * d + 241 ≤ R.locals) (hc : ox_cb own idx y (.code y bytes maxL ret) np maxL)
    (hl : (Jvm.Cond.methodLinkNest own idx y "Outlinery").before args s = true) (hi : Jvm.Cond.static y ∈ ox_good) (hM : ox_Ct l d y (.code y bytes maxL ret) cost G tl av σ (.inl r, σ'))
    (hd : decode cc pc = .ok (.invokestatic idx, 3)) (hav : (st.take nn).reverse = av) (hn : av.length = np) (h8 : ox_sc (st.drop nn) ≤ 8) {H : Heap} {locs : List Loc} {cells slots : Nat} {arr : Array Slot} (h1 : ox_Wd G tl σ s H) (h2 : va_S (ox_A G) s.heap H locs) (h3 : ox_lr G ls n arr) (h5 : ∀ v ∈ st, ox_ok tl v) (h6 : cells + cost ≤ mc) (h7 : slots + 16 * cost ≤ ms) :
    va_Run p l e R s m args below meth c H locs cells slots cost (16 * cost) (F0 m pc arr (st.map (ox_mv G))) ((st.drop nn).map (ox_mv G)) (ox_Qc G tl (.inl r, σ') ((av.map (ox_mv G)).toArray)) (ox_A G) := by
  obtain ⟨g1, g2, g3, g4, g5⟩ := hc
  have hts := C.2.2.2.2.1
  have hok : ∀ v ∈ av, ox_ok tl v := by
    intro v hv
    rw [← hav] at hv
    exact h5 v (List.mem_of_mem_take (List.mem_reverse.mp hv))
  have hmcR := C.2.2.2.2.2.2.2.2.1
  exact va_runSN (As := av.map (ox_mv G)) ⟨C.1, C.2.1, C.2.2.1, C.2.2.2.1, hts⟩ (ox_met_of hM) ⟨⟨⟨rfl, rfl, by show d + 10 + 1 ≤ _; omega, by show 8 + (maxL + 11) + (41 * d + 200) ≤ _; omega, ox_ws_pay C g1, List.mem_cons_self⟩, hts _ g1, hts _ g2, g3, g4, hl⟩, hts _ hi, trivial⟩ ⟨ox_blind, ox_Pc_at C h1 h2 hok⟩ rfl (by simpa using hn) h3.1 (ox_stk hav) (ox_catr h8) hd ⟨by omega, by omega⟩
/-- a static method with a table, by a link -/
theorem ox_c_SX (C : ox_Cx p l R s m args meth c G mc ms n cc own) {d idx cost np maxL nn : Nat} {y : MethodName} {bytes : ByteArray} {ret : Option FieldType} {hh : List (Nat × Nat × Nat × Nat)} {av : List ox_V} (hR : d + 11 ≤ R.frames ∧ 41 * d + 241 ≤ R.locals) (hc : ox_cb own idx y (.codeWith y bytes maxL ret hh) np maxL)
    (hl : Jvm.Cond.methodLink own idx y ∈ ox_good) (hi : Jvm.Cond.static y ∈ ox_good) (hM : ox_Ct l d y (.codeWith y bytes maxL ret hh) cost G tl av σ o)
    (hd : decode cc pc = .ok (.invokestatic idx, 3)) (hav : (st.take nn).reverse = av) (hn : av.length = np) (h8 : ox_sc (st.drop nn) ≤ 8) {H : Heap} {locs : List Loc} {cells slots : Nat} {arr : Array Slot} (h1 : ox_Wd G tl σ s H) (h2 : va_S (ox_A G) s.heap H locs) (h3 : ox_lr G ls n arr) (h5 : ∀ v ∈ st, ox_ok tl v) (h6 : cells + cost ≤ mc) (h7 : slots + 16 * cost ≤ ms) :
    vx_Run p l e R s m args below meth c H locs cells slots cost (16 * cost) (F0 m pc arr (st.map (ox_mv G))) ((st.drop nn).map (ox_mv G)) (ox_Qc G tl o ((av.map (ox_mv G)).toArray)) (ox_XC G tl o) (ox_A G) := by
  obtain ⟨g1, g2, g3, g4, g5⟩ := hc
  have hts := C.2.2.2.2.1
  have hok : ∀ v ∈ av, ox_ok tl v := by
    intro v hv
    rw [← hav] at hv
    exact h5 v (List.mem_of_mem_take (List.mem_reverse.mp hv))
  have hmcR := C.2.2.2.2.2.2.2.2.1
  exact vx_runSX (As := av.map (ox_mv G)) ⟨C.1, C.2.1, C.2.2.1, C.2.2.2.1, hts⟩ hM ⟨⟨rfl, rfl, by show d + 10 + 1 ≤ _; omega, by show 8 + (maxL + 11) + (41 * d + 200) ≤ _; omega, ox_ws_pay C g1, List.mem_cons_self⟩, hts _ g1, hts _ g2, g3, g4, hts _ hl, hts _ hi⟩ ⟨ox_blind, ox_Pc_at C h1 h2 hok⟩ rfl (by simpa using hn) h3.1 (ox_stk hav) (ox_catr h8) hd ⟨by omega, by omega⟩
end OX21
