/-! ===== a step of the machine for a step over whole numbers ===== -/
def ox_dm (v : ox_V) : Bool := match v with | .inr (.inr r) => r.1 == 999 | _ => false
def ox_lr (G : ox_G) (ls : List ox_V) (n : Nat) (arr : Array Slot) : Prop := arr.size = n ∧ lv_wf arr ∧ ∀ (i : Nat) (v : ox_V), ls[i]? = some v → ox_dm v = false → arr[i]? = some (.val (ox_mv G v))
def ox_ll (G : ox_G) (ls : List ox_V) : List (Nat × Value) := ls.zipIdx.filterMap fun q => if ox_dm q.1 then none else some (q.2, ox_mv G q.1)
theorem ox_ll_mem {G : ox_G} {ls : List ox_V} {q : Nat × Value} : q ∈ ox_ll G ls ↔ ∃ v, ls[q.1]? = some v ∧ ox_dm v = false ∧ q.2 = ox_mv G v := by
  unfold ox_ll
  rw [List.mem_filterMap]
  constructor
  · rintro ⟨⟨v, i⟩, h1, h2⟩
    have h1 := List.mem_zipIdx_iff_getElem?.mp h1
    have h1 : ls[i]? = some v := h1
    cases hd : ox_dm v with
    | true => simp [hd] at h2
    | false =>
      simp [hd] at h2
      subst h2
      exact ⟨v, h1, hd, rfl⟩
  · rintro ⟨v, h1, h2, h3⟩
    refine ⟨(v, q.1), List.mem_zipIdx_iff_getElem?.mpr h1, ?_⟩
    simp [h2, ← h3]
theorem ox_ll_of {G : ox_G} {ls : List ox_V} {n : Nat} {arr : Array Slot} (h : ox_lr G ls n arr) : lv_has arr n (ox_ll G ls) := ⟨h.1, h.2.1, fun q hq => by
  obtain ⟨v, h1, h2, h3⟩ := ox_ll_mem.mp hq
  rw [h3]
  exact h.2.2 _ _ h1 h2⟩
theorem ox_set_at : ∀ (ls : List ox_V) (i : Nat) (v u : ox_V) (j : Nat), (ox_set ls i v)[j]? = some u → (j = i ∧ u = v) ∨ (j ≠ i ∧ u = ox_d) ∨ (j ≠ i ∧ ls[j]? = some u ∧ ¬ (j + 1 = i ∧ ox_2 u = true))
  | [], i, v, u, j, h => by
    have : (ox_set [] i v) = [] := by cases i with | zero => rfl | succ i => cases i <;> rfl
    rw [this] at h; cases h
  | x :: r, 0, v, u, j, h => by
    cases j with
    | zero => cases h; exact Or.inl ⟨rfl, rfl⟩
    | succ j => exact Or.inr (Or.inr ⟨by omega, h, fun q => by omega⟩)
  | x :: r, 1, v, u, j, h => by
    cases j with
    | zero =>
      have h : some (if ox_2 x then ox_d else x) = some u := h
      cases hx : ox_2 x with
      | true => rw [hx] at h; cases h; exact Or.inr (Or.inl ⟨by omega, rfl⟩)
      | false => rw [hx] at h; cases h; exact Or.inr (Or.inr ⟨by omega, rfl, fun q => by have z : ox_2 x = true := q.2; rw [hx] at z; cases z⟩)
    | succ j =>
      cases r with
      | nil => cases h
      | cons y r =>
        cases j with
        | zero => cases h; exact Or.inl ⟨rfl, rfl⟩
        | succ j => exact Or.inr (Or.inr ⟨by omega, h, fun q => by omega⟩)
  | x :: r, i + 2, v, u, j, h => by
    cases j with
    | zero => cases h; exact Or.inr (Or.inr ⟨by omega, rfl, fun q => by omega⟩)
    | succ j =>
      rcases ox_set_at r (i + 1) v u j h with ⟨h1, h2⟩ | ⟨h1, h2⟩ | ⟨h1, h2, h3⟩
      · exact Or.inl ⟨by omega, h2⟩
      · exact Or.inr (Or.inl ⟨by omega, h2⟩)
      · exact Or.inr (Or.inr ⟨by omega, h2, fun q => h3 ⟨by omega, q.2⟩⟩)
theorem ox_cat (G : ox_G) (v : ox_V) : ((ox_mv G v).category == 2) = ox_2 v := by
  rcases v with x | x | x <;> rfl
theorem ox_lr_set {G : ox_G} {ls : List ox_V} {n i : Nat} {arr arr' : Array Slot} {v : ox_V} (h' : lv_has arr' n ((i, ox_mv G v) :: (ox_ll G ls).filter (fun q => !(q.1 == i) && !(q.1 + 1 == i && q.2.category == 2)))) : ox_lr G (ox_set ls i v) n arr' := by
  refine ⟨h'.1, h'.2.1, fun j u hj hd => ?_⟩
  rcases ox_set_at ls i v u j hj with ⟨rfl, rfl⟩ | ⟨h1, rfl⟩ | ⟨h1, h2, h3⟩
  · exact h'.2.2 _ List.mem_cons_self
  · cases hd
  · refine h'.2.2 (j, ox_mv G u) (List.mem_cons_of_mem _ (List.mem_filter.mpr ⟨ox_ll_mem.mpr ⟨u, h2, hd, rfl⟩, ?_⟩))
    show (!(j == i) && !(j + 1 == i && (ox_mv G u).category == 2)) = true
    rw [ox_cat]
    have e1 : (j == i) = false := by simpa using h1
    rw [e1]
    cases hz : ox_2 u with
    | false => simp
    | true =>
      have : ¬ j + 1 = i := fun q => h3 ⟨q, hz⟩
      simp [this]
theorem ox_lr_setl {G : ox_G} {ls : List ox_V} {n i : Nat} {arr arr' : Array Slot} {v : ox_V} (h' : lv_has arr' n ((i, ox_mv G v) :: (ox_ll G ls).filter (fun q => !(q.1 == i) && (!(q.1 == i + 1) && !(q.1 + 1 == i && q.2.category == 2))))) : ox_lr G ((ox_set ls i v).set (i + 1) ox_d) n arr' := by
  refine ⟨h'.1, h'.2.1, fun j u hj hd => ?_⟩
  by_cases hi : i + 1 = j
  · subst hi
    rw [List.getElem?_set] at hj
    simp at hj
    rw [← hj.2] at hd; cases hd
  · rw [List.getElem?_set_ne hi] at hj
    rcases ox_set_at ls i v u j hj with ⟨rfl, rfl⟩ | ⟨h1, rfl⟩ | ⟨h1, h2, h3⟩
    · exact h'.2.2 _ List.mem_cons_self
    · cases hd
    · refine h'.2.2 (j, ox_mv G u) (List.mem_cons_of_mem _ (List.mem_filter.mpr ⟨ox_ll_mem.mpr ⟨u, h2, hd, rfl⟩, ?_⟩))
      show (!(j == i) && (!(j == i + 1) && !(j + 1 == i && (ox_mv G u).category == 2))) = true
      rw [ox_cat]
      have e1 : (j == i) = false := by simpa using h1
      have e2 : (j == i + 1) = false := by simpa using fun q => hi q.symm
      rw [e1, e2]
      cases hz : ox_2 u with
      | false => simp
      | true =>
        have : ¬ j + 1 = i := fun q => h3 ⟨q, hz⟩
        simp [this]
theorem ox_ok_d {tl : Nat} : ox_ok tl ox_d := Or.inr (Or.inr (Or.inr rfl))
theorem ox_ok_set {tl : Nat} {ls : List ox_V} {i : Nat} {v : ox_V} (h : ∀ u ∈ ls, ox_ok tl u) (hv : ox_ok tl v) : ∀ u ∈ ox_set ls i v, ox_ok tl u := by
  intro u hu
  obtain ⟨j, hj⟩ := List.getElem?_of_mem hu
  rcases ox_set_at ls i v u j hj with ⟨_, rfl⟩ | ⟨_, rfl⟩ | ⟨_, h2, _⟩
  · exact hv
  · exact ox_ok_d
  · exact h u (List.mem_of_getElem? h2)
theorem ox_ok_setd {tl : Nat} {ls : List ox_V} {i : Nat} (h : ∀ u ∈ ls, ox_ok tl u) : ∀ u ∈ ls.set i ox_d, ox_ok tl u := by
  intro u hu
  rcases List.mem_or_eq_of_mem_set hu with q | rfl
  · exact h u q
  · exact ox_ok_d
theorem ox_lr_setd {G : ox_G} {ls : List ox_V} {n i : Nat} {arr : Array Slot} (h : ox_lr G ls n arr) : ox_lr G (ls.set i ox_d) n arr := by
  refine ⟨h.1, h.2.1, fun j u hj hd => ?_⟩
  by_cases hi : i = j
  · subst hi
    rw [List.getElem?_set] at hj
    simp at hj
    rw [← hj.2] at hd; cases hd
  · rw [List.getElem?_set_ne hi] at hj
    exact h.2.2 j u hj hd
theorem ox_lr_kl {G : ox_G} {n : Nat} {arr : Array Slot} : ∀ (ks : List Nat) {ls : List ox_V}, ox_lr G ls n arr → ox_lr G (ox_kl ks ls) n arr
  | [], _, h => h
  | _ :: r, _, h => ox_lr_kl r (ox_lr_setd h)
theorem ox_ok_kl {tl : Nat} : ∀ (ks : List Nat) {ls : List ox_V}, (∀ u ∈ ls, ox_ok tl u) → ∀ u ∈ ox_kl ks ls, ox_ok tl u
  | [], _, h => h
  | _ :: r, _, h => ox_ok_kl r (ox_ok_setd h)
section OX13
variable {p : Program} {l : Launch} {e : Env} {R : Room} {s : State} {m : MethodId} {args : Array Value} {below : List Frame} {meth : Method} {c : Code}
/-- from every state of the machine that is this state over whole numbers: it comes to Q -/
def ox_S9 (p : Program) (l : Launch) (e : Env) (R : Room) (s : State) (m : MethodId) (args : Array Value) (below : List Frame) (meth : Method) (c : Code) (G : ox_G) (mc ms n : Nat) (Q : State → Prop) (pc b tl : Nat) (ls st : List ox_V) (σ : ox_H) : Prop :=
  ∀ (H : Heap) (locs : List Loc) (cells slots : Nat) (arr : Array Slot), ox_Wd G tl σ s H → va_S (ox_A G) s.heap H locs → ox_lr G ls n arr → (∀ v ∈ ls, ox_ok tl v) → (∀ v ∈ st, ox_ok tl v) → cells + b ≤ mc → slots + 16 * b ≤ ms →
    W p l e R s m args below meth c H locs cells slots Q (F0 m pc arr (st.map (ox_mv G)))
/-- what stays through a method's run -/
def ox_Cx (p : Program) (l : Launch) (R : Room) (s : State) (m : MethodId) (args : Array Value) (meth : Method) (c : Code) (G : ox_G) (mc ms n : Nat) (cc : ByteArray) (own : String) : Prop :=
  p.tables.exec = Jvm.exec ∧ c.code = cc ∧ c.maxLocals = n ∧ s.vm.findClass own = some m.cls ∧ (∀ w ∈ ox_good, w.before args s = true) ∧ ox_Fx G s s.heap ∧ meth.locks = false ∧ l.stackTraces = false ∧ (10 ≤ R.frames ∧ 200 ≤ R.locals ∧ mc ≤ R.cells ∧ ms ≤ R.slots) ∧ (∀ q, s.heap.size ≤ q → ox_A G q)
variable {G : ox_G} {mc ms n : Nat} {Q : State → Prop} {cc : ByteArray} {own : String} {pc b tl : Nat} {ls st : List ox_V} {σ : ox_H}
theorem ox_okc {tl : Nat} {v : ox_V} {st : List ox_V} (hv : ox_ok tl v) (h : ∀ u ∈ st, ox_ok tl u) : ∀ u ∈ v :: st, ox_ok tl u := List.forall_mem_cons.mpr ⟨hv, h⟩
theorem ox_S_kl {ks : List Nat} (k : ox_S9 p l e R s m args below meth c G mc ms n Q pc b tl (ox_kl ks ls) st σ) : ox_S9 p l e R s m args below meth c G mc ms n Q pc b tl ls st σ := fun H locs cells slots arr h1 h2 h3 h4 h5 h6 h7 => k H locs cells slots arr h1 h2 (ox_lr_kl ks h3) (ox_ok_kl ks h4) h5 h6 h7

theorem ox_r_iconst (C : ox_Cx p l R s m args meth c G mc ms n cc own) {x : Int} (hx : ox_i32 x) (hd : decode cc pc = .ok (.iconst x, 1)) (k : ox_S9 p l e R s m args below meth c G mc ms n Q (pc + 1) b tl ls (.inl x :: st) σ) : ox_S9 p l e R s m args below meth c G mc ms n Q pc b tl ls st σ := by
  intro H locs cells slots arr h1 h2 h3 h4 h5 h6 h7
  exact lv_iconst C.1 C.2.1 hd rfl (k H locs cells slots arr h1 h2 h3 h4 (ox_okc hx h5) h6 h7)

theorem ox_r_bipush (C : ox_Cx p l R s m args meth c G mc ms n cc own) {x : Int} (hx : -128 ≤ x ∧ x < 128) (hd : decode cc pc = .ok (.bipush x, 2)) (k : ox_S9 p l e R s m args below meth c G mc ms n Q (pc + 2) b tl ls (.inl x :: st) σ) : ox_S9 p l e R s m args below meth c G mc ms n Q pc b tl ls st σ := by
  intro H locs cells slots arr h1 h2 h3 h4 h5 h6 h7
  have hx2 : ox_i32 x := ⟨by omega, by omega⟩
  exact lv_bipush C.1 C.2.1 hd (Int32.toInt_inj.mp (by rw [ox_toI hx2, Int8.toInt_toInt32, Int8.toInt_ofInt_of_le (by omega) (by omega)])) (k H locs cells slots arr h1 h2 h3 h4 (ox_okc hx2 h5) h6 h7)

theorem ox_r_sipush (C : ox_Cx p l R s m args meth c G mc ms n cc own) {x : Int} (hx : -32768 ≤ x ∧ x < 32768) (hd : decode cc pc = .ok (.sipush x, 3)) (k : ox_S9 p l e R s m args below meth c G mc ms n Q (pc + 3) b tl ls (.inl x :: st) σ) : ox_S9 p l e R s m args below meth c G mc ms n Q pc b tl ls st σ := by
  intro H locs cells slots arr h1 h2 h3 h4 h5 h6 h7
  have hx2 : ox_i32 x := ⟨by omega, by omega⟩
  exact lv_sipush C.1 C.2.1 hd (Int32.toInt_inj.mp (by rw [ox_toI hx2, Int16.toInt_toInt32, Int16.toInt_ofInt_of_le (by omega) (by omega)])) (k H locs cells slots arr h1 h2 h3 h4 (ox_okc hx2 h5) h6 h7)

theorem ox_r_iload (C : ox_Cx p l R s m args meth c G mc ms n cc own) {i : Nat} {x : Int} (hl : ls[i]? = some (.inl x)) (hd : decode cc pc = .ok (.iload i, 2)) (k : ox_S9 p l e R s m args below meth c G mc ms n Q (pc + 2) b tl ls (.inl x :: st) σ) : ox_S9 p l e R s m args below meth c G mc ms n Q pc b tl ls st σ := by
  intro H locs cells slots arr h1 h2 h3 h4 h5 h6 h7
  exact lv_iload C.1 C.2.1 hd (h3.2.2 _ _ hl rfl) (k H locs cells slots arr h1 h2 h3 h4 (ox_okc (h4 _ (List.mem_of_getElem? hl)) h5) h6 h7)

theorem ox_r_iload_n (C : ox_Cx p l R s m args meth c G mc ms n cc own) {i : Fin 4} {x : Int} (hl : ls[i.val]? = some (.inl x)) (hd : decode cc pc = .ok (.iload_n i, 1)) (k : ox_S9 p l e R s m args below meth c G mc ms n Q (pc + 1) b tl ls (.inl x :: st) σ) : ox_S9 p l e R s m args below meth c G mc ms n Q pc b tl ls st σ := by
  intro H locs cells slots arr h1 h2 h3 h4 h5 h6 h7
  exact lv_iload_n C.1 C.2.1 hd rfl (h3.2.2 _ _ hl rfl) (k H locs cells slots arr h1 h2 h3 h4 (ox_okc (h4 _ (List.mem_of_getElem? hl)) h5) h6 h7)

theorem ox_r_lload (C : ox_Cx p l R s m args meth c G mc ms n cc own) {i : Nat} {x : Int} (hl : ls[i]? = some (.inr (.inl x))) (hd : decode cc pc = .ok (.lload i, 2)) (k : ox_S9 p l e R s m args below meth c G mc ms n Q (pc + 2) b tl ls (.inr (.inl x) :: st) σ) : ox_S9 p l e R s m args below meth c G mc ms n Q pc b tl ls st σ := by
  intro H locs cells slots arr h1 h2 h3 h4 h5 h6 h7
  exact lv_lload C.1 C.2.1 hd (h3.2.2 _ _ hl rfl) (k H locs cells slots arr h1 h2 h3 h4 (ox_okc (h4 _ (List.mem_of_getElem? hl)) h5) h6 h7)

theorem ox_r_lload_n (C : ox_Cx p l R s m args meth c G mc ms n cc own) {i : Fin 4} {x : Int} (hl : ls[i.val]? = some (.inr (.inl x))) (hd : decode cc pc = .ok (.lload_n i, 1)) (k : ox_S9 p l e R s m args below meth c G mc ms n Q (pc + 1) b tl ls (.inr (.inl x) :: st) σ) : ox_S9 p l e R s m args below meth c G mc ms n Q pc b tl ls st σ := by
  intro H locs cells slots arr h1 h2 h3 h4 h5 h6 h7
  exact lv_lload_n C.1 C.2.1 hd rfl (h3.2.2 _ _ hl rfl) (k H locs cells slots arr h1 h2 h3 h4 (ox_okc (h4 _ (List.mem_of_getElem? hl)) h5) h6 h7)

theorem ox_r_aload (C : ox_Cx p l R s m args meth c G mc ms n cc own) {i : Nat} {r : Nat × Nat × Nat} (hr : r.1 < 999) (hl : ls[i]? = some (.inr (.inr r))) (hd : decode cc pc = .ok (.aload i, 2)) (k : ox_S9 p l e R s m args below meth c G mc ms n Q (pc + 2) b tl ls (.inr (.inr r) :: st) σ) : ox_S9 p l e R s m args below meth c G mc ms n Q pc b tl ls st σ := by
  intro H locs cells slots arr h1 h2 h3 h4 h5 h6 h7
  have hz : ox_dm (.inr (.inr r)) = false := by show (r.1 == 999) = false; simp; omega
  exact lv_aload C.1 C.2.1 hd (h3.2.2 _ _ hl hz) (k H locs cells slots arr h1 h2 h3 h4 (ox_okc (h4 _ (List.mem_of_getElem? hl)) h5) h6 h7)

theorem ox_r_aload_n (C : ox_Cx p l R s m args meth c G mc ms n cc own) {i : Fin 4} {r : Nat × Nat × Nat} (hr : r.1 < 999) (hl : ls[i.val]? = some (.inr (.inr r))) (hd : decode cc pc = .ok (.aload_n i, 1)) (k : ox_S9 p l e R s m args below meth c G mc ms n Q (pc + 1) b tl ls (.inr (.inr r) :: st) σ) : ox_S9 p l e R s m args below meth c G mc ms n Q pc b tl ls st σ := by
  intro H locs cells slots arr h1 h2 h3 h4 h5 h6 h7
  have hz : ox_dm (.inr (.inr r)) = false := by show (r.1 == 999) = false; simp; omega
  exact lv_aload_n C.1 C.2.1 hd rfl (h3.2.2 _ _ hl hz) (k H locs cells slots arr h1 h2 h3 h4 (ox_okc (h4 _ (List.mem_of_getElem? hl)) h5) h6 h7)

theorem ox_r_istore (C : ox_Cx p l R s m args meth c G mc ms n cc own) {i : Nat} {x : Int} (hi : i < n) (hd : decode cc pc = .ok (.istore i, 2)) (k : ox_S9 p l e R s m args below meth c G mc ms n Q (pc + 2) b tl (ox_set ls i (.inl x)) st σ) : ox_S9 p l e R s m args below meth c G mc ms n Q pc b tl ls (.inl x :: st) σ := by
  intro H locs cells slots arr h1 h2 h3 h4 h5 h6 h7
  obtain ⟨hv, h5⟩ := List.forall_mem_cons.mp h5
  exact lv_istore C.1 C.2.1 hd (ox_ll_of h3) hi rfl (fun arr' h' => k H locs cells slots arr' h1 h2 (ox_lr_set (v := .inl x) (arr := arr) h') (ox_ok_set h4 hv) h5 h6 h7)

theorem ox_r_istore_n (C : ox_Cx p l R s m args meth c G mc ms n cc own) {i : Fin 4} {x : Int} (hi : i.val < n) (hd : decode cc pc = .ok (.istore_n i, 1)) (k : ox_S9 p l e R s m args below meth c G mc ms n Q (pc + 1) b tl (ox_set ls i.val (.inl x)) st σ) : ox_S9 p l e R s m args below meth c G mc ms n Q pc b tl ls (.inl x :: st) σ := by
  intro H locs cells slots arr h1 h2 h3 h4 h5 h6 h7
  obtain ⟨hv, h5⟩ := List.forall_mem_cons.mp h5
  exact lv_istore_n C.1 C.2.1 hd rfl (ox_ll_of h3) hi rfl (fun arr' h' => k H locs cells slots arr' h1 h2 (ox_lr_set (v := .inl x) (arr := arr) h') (ox_ok_set h4 hv) h5 h6 h7)

theorem ox_r_astore (C : ox_Cx p l R s m args meth c G mc ms n cc own) {i : Nat} {x : Nat × Nat × Nat} (hi : i < n) (hd : decode cc pc = .ok (.astore i, 2)) (k : ox_S9 p l e R s m args below meth c G mc ms n Q (pc + 2) b tl (ox_set ls i (.inr (.inr x))) st σ) : ox_S9 p l e R s m args below meth c G mc ms n Q pc b tl ls (.inr (.inr x) :: st) σ := by
  intro H locs cells slots arr h1 h2 h3 h4 h5 h6 h7
  obtain ⟨hv, h5⟩ := List.forall_mem_cons.mp h5
  exact lv_astore C.1 C.2.1 hd (ox_ll_of h3) hi rfl (fun arr' h' => k H locs cells slots arr' h1 h2 (ox_lr_set (v := .inr (.inr x)) (arr := arr) h') (ox_ok_set h4 hv) h5 h6 h7)

theorem ox_r_astore_n (C : ox_Cx p l R s m args meth c G mc ms n cc own) {i : Fin 4} {x : Nat × Nat × Nat} (hi : i.val < n) (hd : decode cc pc = .ok (.astore_n i, 1)) (k : ox_S9 p l e R s m args below meth c G mc ms n Q (pc + 1) b tl (ox_set ls i.val (.inr (.inr x))) st σ) : ox_S9 p l e R s m args below meth c G mc ms n Q pc b tl ls (.inr (.inr x) :: st) σ := by
  intro H locs cells slots arr h1 h2 h3 h4 h5 h6 h7
  obtain ⟨hv, h5⟩ := List.forall_mem_cons.mp h5
  exact lv_astore_n C.1 C.2.1 hd rfl (ox_ll_of h3) hi rfl (fun arr' h' => k H locs cells slots arr' h1 h2 (ox_lr_set (v := .inr (.inr x)) (arr := arr) h') (ox_ok_set h4 hv) h5 h6 h7)

theorem ox_r_lstore (C : ox_Cx p l R s m args meth c G mc ms n cc own) {i : Nat} {x : Int} (hi : i + 1 < n) (hd : decode cc pc = .ok (.lstore i, 2)) (k : ox_S9 p l e R s m args below meth c G mc ms n Q (pc + 2) b tl ((ox_set ls i (.inr (.inl x))).set (i + 1) ox_d) st σ) : ox_S9 p l e R s m args below meth c G mc ms n Q pc b tl ls (.inr (.inl x) :: st) σ := by
  intro H locs cells slots arr h1 h2 h3 h4 h5 h6 h7
  obtain ⟨hv, h5⟩ := List.forall_mem_cons.mp h5
  exact lv_lstore C.1 C.2.1 hd (ox_ll_of h3) hi rfl (fun arr' h' => k H locs cells slots arr' h1 h2 (ox_lr_setl (v := .inr (.inl x)) (arr := arr) h') (ox_ok_setd (ox_ok_set h4 hv)) h5 h6 h7)

theorem ox_r_lstore_n (C : ox_Cx p l R s m args meth c G mc ms n cc own) {i : Fin 4} {x : Int} (hi : i.val + 1 < n) (hd : decode cc pc = .ok (.lstore_n i, 1)) (k : ox_S9 p l e R s m args below meth c G mc ms n Q (pc + 1) b tl ((ox_set ls i.val (.inr (.inl x))).set (i.val + 1) ox_d) st σ) : ox_S9 p l e R s m args below meth c G mc ms n Q pc b tl ls (.inr (.inl x) :: st) σ := by
  intro H locs cells slots arr h1 h2 h3 h4 h5 h6 h7
  obtain ⟨hv, h5⟩ := List.forall_mem_cons.mp h5
  exact lv_lstore_n C.1 C.2.1 hd rfl (ox_ll_of h3) hi rfl (fun arr' h' => k H locs cells slots arr' h1 h2 (ox_lr_setl (v := .inr (.inl x)) (arr := arr) h') (ox_ok_setd (ox_ok_set h4 hv)) h5 h6 h7)

theorem ox_r_iinc (C : ox_Cx p l R s m args meth c G mc ms n cc own) {i : Nat} {x d : Int} (hl : ls[i]? = some (.inl x)) (hi : i < n) (hd : decode cc pc = .ok (.iinc i d, 3)) (k : ox_S9 p l e R s m args below meth c G mc ms n Q (pc + 3) b tl (ox_set ls i (.inl (ox_w (x + d)))) st σ) : ox_S9 p l e R s m args below meth c G mc ms n Q pc b tl ls st σ := by
  intro H locs cells slots arr h1 h2 h3 h4 h5 h6 h7
  have hm : (i, ox_mv G (.inl x)) ∈ ox_ll G ls := ox_ll_mem.mpr ⟨_, hl, rfl, rfl⟩
  obtain ⟨q, hq⟩ := List.getElem?_of_mem hm
  exact lv_iinc (v := Int32.ofInt (ox_w (x + d))) C.1 C.2.1 hd (ox_ll_of h3) hq (by rw [ox_add]) hi rfl (fun arr' h' => k H locs cells slots arr' h1 h2 (ox_lr_set (v := .inl (ox_w (x + d))) (arr := arr) h') (ox_ok_set h4 (ox_w_in _)) h5 h6 h7)

theorem ox_r_pop (C : ox_Cx p l R s m args meth c G mc ms n cc own) {x : Int} (hd : decode cc pc = .ok (.pop, 1)) (k : ox_S9 p l e R s m args below meth c G mc ms n Q (pc + 1) b tl ls st σ) : ox_S9 p l e R s m args below meth c G mc ms n Q pc b tl ls (.inl x :: st) σ := by
  intro H locs cells slots arr h1 h2 h3 h4 h5 h6 h7
  exact lv_pop C.1 C.2.1 hd rfl (k H locs cells slots arr h1 h2 h3 h4 (List.forall_mem_cons.mp h5).2 h6 h7)

theorem ox_r_dup (C : ox_Cx p l R s m args meth c G mc ms n cc own) {v : ox_V} (hv : ox_2 v = false) (hd : decode cc pc = .ok (.dup, 1)) (k : ox_S9 p l e R s m args below meth c G mc ms n Q (pc + 1) b tl ls (v :: v :: st) σ) : ox_S9 p l e R s m args below meth c G mc ms n Q pc b tl ls (v :: st) σ := by
  intro H locs cells slots arr h1 h2 h3 h4 h5 h6 h7
  have hc : (ox_mv G v).category = 1 := by rcases v with x | x | x <;> first | rfl | cases hv
  exact lv_dup C.1 C.2.1 hd hc (k H locs cells slots arr h1 h2 h3 h4 (ox_okc (List.forall_mem_cons.mp h5).1 h5) h6 h7)

theorem ox_r_dup2 (C : ox_Cx p l R s m args meth c G mc ms n cc own) {v u : ox_V} (hv : ox_2 v = false) (hu : ox_2 u = false) (hd : decode cc pc = .ok (.dup2, 1)) (k : ox_S9 p l e R s m args below meth c G mc ms n Q (pc + 1) b tl ls (v :: u :: v :: u :: st) σ) : ox_S9 p l e R s m args below meth c G mc ms n Q pc b tl ls (v :: u :: st) σ := by
  intro H locs cells slots arr h1 h2 h3 h4 h5 h6 h7
  have hc : (ox_mv G v).category = 1 := by rcases v with x | x | x <;> first | rfl | cases hv
  have hc2 : (ox_mv G u).category = 1 := by rcases u with x | x | x <;> first | rfl | cases hu
  exact lv_dup2_11 C.1 C.2.1 hd hc hc2 (k H locs cells slots arr h1 h2 h3 h4 (ox_okc (List.forall_mem_cons.mp h5).1 (ox_okc (List.forall_mem_cons.mp (List.forall_mem_cons.mp h5).2).1 h5)) h6 h7)

theorem ox_r_iadd (C : ox_Cx p l R s m args meth c G mc ms n cc own) {x y : Int} (hd : decode cc pc = .ok (.iadd, 1)) (k : ox_S9 p l e R s m args below meth c G mc ms n Q (pc + 1) b tl ls (.inl (ox_w (x + y)) :: st) σ) : ox_S9 p l e R s m args below meth c G mc ms n Q pc b tl ls (.inl y :: .inl x :: st) σ := by
  intro H locs cells slots arr h1 h2 h3 h4 h5 h6 h7
  have z := k H locs cells slots arr h1 h2 h3 h4 (ox_okc (ox_w_in _) (List.forall_mem_cons.mp (List.forall_mem_cons.mp h5).2).2) h6 h7
  refine lv_iadd C.1 C.2.1 hd ?_
  rw [ox_add]
  exact z

theorem ox_r_isub (C : ox_Cx p l R s m args meth c G mc ms n cc own) {x y : Int} (hd : decode cc pc = .ok (.isub, 1)) (k : ox_S9 p l e R s m args below meth c G mc ms n Q (pc + 1) b tl ls (.inl (ox_w (x - y)) :: st) σ) : ox_S9 p l e R s m args below meth c G mc ms n Q pc b tl ls (.inl y :: .inl x :: st) σ := by
  intro H locs cells slots arr h1 h2 h3 h4 h5 h6 h7
  have z := k H locs cells slots arr h1 h2 h3 h4 (ox_okc (ox_w_in _) (List.forall_mem_cons.mp (List.forall_mem_cons.mp h5).2).2) h6 h7
  refine lv_isub C.1 C.2.1 hd ?_
  rw [ox_sub]
  exact z

theorem ox_r_imul (C : ox_Cx p l R s m args meth c G mc ms n cc own) {x y : Int} (hd : decode cc pc = .ok (.imul, 1)) (k : ox_S9 p l e R s m args below meth c G mc ms n Q (pc + 1) b tl ls (.inl (ox_w (x * y)) :: st) σ) : ox_S9 p l e R s m args below meth c G mc ms n Q pc b tl ls (.inl y :: .inl x :: st) σ := by
  intro H locs cells slots arr h1 h2 h3 h4 h5 h6 h7
  have z := k H locs cells slots arr h1 h2 h3 h4 (ox_okc (ox_w_in _) (List.forall_mem_cons.mp (List.forall_mem_cons.mp h5).2).2) h6 h7
  refine lv_imul C.1 C.2.1 hd ?_
  rw [ox_mul]
  exact z

theorem ox_r_iand (C : ox_Cx p l R s m args meth c G mc ms n cc own) {x y : Int} (hd : decode cc pc = .ok (.iand, 1)) (k : ox_S9 p l e R s m args below meth c G mc ms n Q (pc + 1) b tl ls (.inl (ox_and x y) :: st) σ) : ox_S9 p l e R s m args below meth c G mc ms n Q pc b tl ls (.inl y :: .inl x :: st) σ := by
  intro H locs cells slots arr h1 h2 h3 h4 h5 h6 h7
  have z := k H locs cells slots arr h1 h2 h3 h4 (ox_okc (ox_toInt_in _) (List.forall_mem_cons.mp (List.forall_mem_cons.mp h5).2).2) h6 h7
  refine lv_iand C.1 C.2.1 hd ?_
  rw [ox_and_i]
  exact z

theorem ox_r_ior (C : ox_Cx p l R s m args meth c G mc ms n cc own) {x y : Int} (hd : decode cc pc = .ok (.ior, 1)) (k : ox_S9 p l e R s m args below meth c G mc ms n Q (pc + 1) b tl ls (.inl (ox_or x y) :: st) σ) : ox_S9 p l e R s m args below meth c G mc ms n Q pc b tl ls (.inl y :: .inl x :: st) σ := by
  intro H locs cells slots arr h1 h2 h3 h4 h5 h6 h7
  have z := k H locs cells slots arr h1 h2 h3 h4 (ox_okc (ox_toInt_in _) (List.forall_mem_cons.mp (List.forall_mem_cons.mp h5).2).2) h6 h7
  refine lv_ior C.1 C.2.1 hd ?_
  rw [ox_or_i]
  exact z

theorem ox_r_ishl (C : ox_Cx p l R s m args meth c G mc ms n cc own) {x y : Int} (hd : decode cc pc = .ok (.ishl, 1)) (k : ox_S9 p l e R s m args below meth c G mc ms n Q (pc + 1) b tl ls (.inl (ox_shl x y) :: st) σ) : ox_S9 p l e R s m args below meth c G mc ms n Q pc b tl ls (.inl y :: .inl x :: st) σ := by
  intro H locs cells slots arr h1 h2 h3 h4 h5 h6 h7
  have z := k H locs cells slots arr h1 h2 h3 h4 (ox_okc (ox_toInt_in _) (List.forall_mem_cons.mp (List.forall_mem_cons.mp h5).2).2) h6 h7
  refine lv_ishl C.1 C.2.1 hd ?_
  rw [ox_shl_i]
  exact z

theorem ox_r_idiv (C : ox_Cx p l R s m args meth c G mc ms n cc own) {x y : Int} (hy0 : ¬ y = 0) (hd : decode cc pc = .ok (.idiv, 1)) (k : ox_S9 p l e R s m args below meth c G mc ms n Q (pc + 1) b tl ls (.inl (ox_w (x.tdiv y)) :: st) σ) : ox_S9 p l e R s m args below meth c G mc ms n Q pc b tl ls (.inl y :: .inl x :: st) σ := by
  intro H locs cells slots arr h1 h2 h3 h4 h5 h6 h7
  obtain ⟨hy, h5⟩ := List.forall_mem_cons.mp h5
  obtain ⟨hx, h5⟩ := List.forall_mem_cons.mp h5
  have hy : ox_i32 y := hy
  have hx : ox_i32 x := hx
  have z := k H locs cells slots arr h1 h2 h3 h4 (ox_okc (v := .inl _) (ox_w_in _) h5) h6 h7
  refine lv_idiv C.1 C.2.1 hd (by rw [← ox_0, ox_eq hy ox_i0]; exact hy0) ?_
  rw [ox_div hx hy]
  exact z

theorem ox_r_irem (C : ox_Cx p l R s m args meth c G mc ms n cc own) {x y : Int} (hy0 : ¬ y = 0) (hd : decode cc pc = .ok (.irem, 1)) (k : ox_S9 p l e R s m args below meth c G mc ms n Q (pc + 1) b tl ls (.inl (x.tmod y) :: st) σ) : ox_S9 p l e R s m args below meth c G mc ms n Q pc b tl ls (.inl y :: .inl x :: st) σ := by
  intro H locs cells slots arr h1 h2 h3 h4 h5 h6 h7
  obtain ⟨hy, h5⟩ := List.forall_mem_cons.mp h5
  obtain ⟨hx, h5⟩ := List.forall_mem_cons.mp h5
  have hy : ox_i32 y := hy
  have hx : ox_i32 x := hx
  have z := k H locs cells slots arr h1 h2 h3 h4 (ox_okc (v := .inl _) (ox_tmod_in hx) h5) h6 h7
  refine lv_irem C.1 C.2.1 hd (by rw [← ox_0, ox_eq hy ox_i0]; exact hy0) ?_
  rw [ox_rem hx hy]
  exact z

theorem ox_r_ineg (C : ox_Cx p l R s m args meth c G mc ms n cc own) {x : Int} (hd : decode cc pc = .ok (.ineg, 1)) (k : ox_S9 p l e R s m args below meth c G mc ms n Q (pc + 1) b tl ls (.inl (ox_w (-x)) :: st) σ) : ox_S9 p l e R s m args below meth c G mc ms n Q pc b tl ls (.inl x :: st) σ := by
  intro H locs cells slots arr h1 h2 h3 h4 h5 h6 h7
  have z := k H locs cells slots arr h1 h2 h3 h4 (ox_okc (ox_w_in _) (List.forall_mem_cons.mp h5).2) h6 h7
  refine lv_ineg C.1 C.2.1 hd ?_
  rw [ox_neg]
  exact z

theorem ox_r_ladd (C : ox_Cx p l R s m args meth c G mc ms n cc own) {x y : Int} (hd : decode cc pc = .ok (.ladd, 1)) (k : ox_S9 p l e R s m args below meth c G mc ms n Q (pc + 1) b tl ls (.inr (.inl (ox_wl (x + y))) :: st) σ) : ox_S9 p l e R s m args below meth c G mc ms n Q pc b tl ls (.inr (.inl y) :: .inr (.inl x) :: st) σ := by
  intro H locs cells slots arr h1 h2 h3 h4 h5 h6 h7
  have z := k H locs cells slots arr h1 h2 h3 h4 (ox_okc (v := .inr (.inl _)) (ox_wl_in _) (List.forall_mem_cons.mp (List.forall_mem_cons.mp h5).2).2) h6 h7
  refine lv_ladd C.1 C.2.1 hd ?_
  rw [ox_addl]
  exact z

theorem ox_r_lsub (C : ox_Cx p l R s m args meth c G mc ms n cc own) {x y : Int} (hd : decode cc pc = .ok (.lsub, 1)) (k : ox_S9 p l e R s m args below meth c G mc ms n Q (pc + 1) b tl ls (.inr (.inl (ox_wl (x - y))) :: st) σ) : ox_S9 p l e R s m args below meth c G mc ms n Q pc b tl ls (.inr (.inl y) :: .inr (.inl x) :: st) σ := by
  intro H locs cells slots arr h1 h2 h3 h4 h5 h6 h7
  have z := k H locs cells slots arr h1 h2 h3 h4 (ox_okc (v := .inr (.inl _)) (ox_wl_in _) (List.forall_mem_cons.mp (List.forall_mem_cons.mp h5).2).2) h6 h7
  refine lv_lsub C.1 C.2.1 hd ?_
  rw [ox_subl]
  exact z

theorem ox_r_lmul (C : ox_Cx p l R s m args meth c G mc ms n cc own) {x y : Int} (hd : decode cc pc = .ok (.lmul, 1)) (k : ox_S9 p l e R s m args below meth c G mc ms n Q (pc + 1) b tl ls (.inr (.inl (ox_wl (x * y))) :: st) σ) : ox_S9 p l e R s m args below meth c G mc ms n Q pc b tl ls (.inr (.inl y) :: .inr (.inl x) :: st) σ := by
  intro H locs cells slots arr h1 h2 h3 h4 h5 h6 h7
  have z := k H locs cells slots arr h1 h2 h3 h4 (ox_okc (v := .inr (.inl _)) (ox_wl_in _) (List.forall_mem_cons.mp (List.forall_mem_cons.mp h5).2).2) h6 h7
  refine lv_lmul C.1 C.2.1 hd ?_
  rw [ox_mull]
  exact z

theorem ox_r_lcmp (C : ox_Cx p l R s m args meth c G mc ms n cc own) {x y : Int} (hd : decode cc pc = .ok (.lcmp, 1)) (k : ox_S9 p l e R s m args below meth c G mc ms n Q (pc + 1) b tl ls (.inl (if x < y then -1 else if x = y then 0 else 1) :: st) σ) : ox_S9 p l e R s m args below meth c G mc ms n Q pc b tl ls (.inr (.inl y) :: .inr (.inl x) :: st) σ := by
  intro H locs cells slots arr h1 h2 h3 h4 h5 h6 h7
  obtain ⟨hy, h5⟩ := List.forall_mem_cons.mp h5
  obtain ⟨hx, h5⟩ := List.forall_mem_cons.mp h5
  have hy : ox_i64 y := hy
  have hx : ox_i64 x := hx
  have z := k H locs cells slots arr h1 h2 h3 h4 (ox_okc (v := .inl _) (by show ox_i32 _; unfold ox_i32; split <;> (try split) <;> omega) h5) h6 h7
  refine W.lcmp C.1 C.2.1 hd ?_
  have e : lg_cmp (Int64.ofInt x) (Int64.ofInt y) = Int32.ofInt (if x < y then -1 else if x = y then 0 else 1) := by
    unfold lg_cmp
    simp only [gt_iff_lt, ox_ltl hy hx, ox_eql hx hy]
    by_cases q1 : y < x
    · rw [if_pos q1, if_neg (by omega), if_neg (by omega)]; rfl
    · rw [if_neg q1]
      by_cases q2 : x = y
      · rw [if_pos q2, if_neg (by omega), if_pos q2]; rfl
      · rw [if_neg q2, if_pos (by omega)]; rfl
  rw [e]
  exact z

theorem ox_r_i2l (C : ox_Cx p l R s m args meth c G mc ms n cc own) {x : Int} (hd : decode cc pc = .ok (.i2l, 1)) (k : ox_S9 p l e R s m args below meth c G mc ms n Q (pc + 1) b tl ls (.inr (.inl x) :: st) σ) : ox_S9 p l e R s m args below meth c G mc ms n Q pc b tl ls (.inl x :: st) σ := by
  intro H locs cells slots arr h1 h2 h3 h4 h5 h6 h7
  obtain ⟨hx, h5⟩ := List.forall_mem_cons.mp h5
  have hx : ox_i32 x := hx
  exact lv_i2l C.1 C.2.1 hd (ox_i2l hx) (k H locs cells slots arr h1 h2 h3 h4 (ox_okc (v := .inr (.inl x)) (ox_32_64 hx) h5) h6 h7)

theorem ox_r_l2i (C : ox_Cx p l R s m args meth c G mc ms n cc own) {x : Int} (hd : decode cc pc = .ok (.l2i, 1)) (k : ox_S9 p l e R s m args below meth c G mc ms n Q (pc + 1) b tl ls (.inl (ox_w x) :: st) σ) : ox_S9 p l e R s m args below meth c G mc ms n Q pc b tl ls (.inr (.inl x) :: st) σ := by
  intro H locs cells slots arr h1 h2 h3 h4 h5 h6 h7
  exact lv_l2i C.1 C.2.1 hd (ox_l2i x) (k H locs cells slots arr h1 h2 h3 h4 (ox_okc (v := .inl _) (ox_w_in _) (List.forall_mem_cons.mp h5).2) h6 h7)

theorem ox_r_i2c (C : ox_Cx p l R s m args meth c G mc ms n cc own) {x : Int} (hd : decode cc pc = .ok (.i2c, 1)) (k : ox_S9 p l e R s m args below meth c G mc ms n Q (pc + 1) b tl ls (.inl (x % 65536) :: st) σ) : ox_S9 p l e R s m args below meth c G mc ms n Q pc b tl ls (.inl x :: st) σ := by
  intro H locs cells slots arr h1 h2 h3 h4 h5 h6 h7
  exact lv_i2c C.1 C.2.1 hd (ox_i2c x) (k H locs cells slots arr h1 h2 h3 h4 (ox_okc (v := .inl _) (by show ox_i32 _; unfold ox_i32; omega) (List.forall_mem_cons.mp h5).2) h6 h7)

theorem ox_r_goto (C : ox_Cx p l R s m args meth c G mc ms n cc own) {o : Int} (ho : 0 ≤ (pc : Int) + o) (hd : decode cc pc = .ok (.goto o, 3)) (k : ox_S9 p l e R s m args below meth c G mc ms n Q (ox_tgt pc o) b tl ls st σ) : ox_S9 p l e R s m args below meth c G mc ms n Q pc b tl ls st σ := by
  intro H locs cells slots arr h1 h2 h3 h4 h5 h6 h7
  exact lv_goto C.1 C.2.1 hd (by unfold ox_tgt; omega) (k H locs cells slots arr h1 h2 h3 h4 h5 h6 h7)

theorem ox_r_if (C : ox_Cx p l R s m args meth c G mc ms n cc own) {cd : ClassFile.Cond} {o : Int} {x : Int} (ho : 0 ≤ (pc : Int) + o) (hd : decode cc pc = .ok (.ifCond cd o, 3)) {T F : Option ox_O} {q : ox_O} (h : ox_cmp cd x 0 T F = some q)
    (kt : T = some q → ox_S9 p l e R s m args below meth c G mc ms n Q (ox_tgt pc o) b tl ls st σ) (kf : F = some q → ox_S9 p l e R s m args below meth c G mc ms n Q (pc + 3) b tl ls st σ) : ox_S9 p l e R s m args below meth c G mc ms n Q pc b tl ls (.inl x :: st) σ := by
  intro H locs cells slots arr h1 h2 h3 h4 h5 h6 h7
  obtain ⟨hx, h5⟩ := List.forall_mem_cons.mp h5
  have hx : ox_i32 x := hx
  have ht : (pc : Int) + o = (ox_tgt pc o : Int) := by unfold ox_tgt; omega
  have e0 : Int32.ofInt x = 0 ↔ x = 0 := by rw [← ox_0, ox_eq hx ox_i0]
  have e1 : Int32.ofInt x < 0 ↔ x < 0 := by rw [← ox_0, ox_lt hx ox_i0]
  have e2 : (0 : Int32) ≤ Int32.ofInt x ↔ 0 ≤ x := by rw [← ox_0, ox_le ox_i0 hx]
  have e3 : (0 : Int32) < Int32.ofInt x ↔ 0 < x := by rw [← ox_0, ox_lt ox_i0 hx]
  have e4 : Int32.ofInt x ≤ 0 ↔ x ≤ 0 := by rw [← ox_0, ox_le hx ox_i0]
  have KT := fun z => kt z H locs cells slots arr h1 h2 h3 h4 h5 h6 h7
  have KF := fun z => kf z H locs cells slots arr h1 h2 h3 h4 h5 h6 h7
  cases cd
  · exact lv_if_eq C.1 C.2.1 hd ht (fun z => KT (by rw [← h]; exact (if_pos (e0.mp z)).symm)) (fun z => KF (by rw [← h]; exact (if_neg (fun w => z (e0.mpr w))).symm))
  · exact lv_if_ne C.1 C.2.1 hd ht (fun z => KT (by rw [← h]; exact (if_neg (fun w => z (e0.mpr w))).symm)) (fun z => KF (by rw [← h]; exact (if_pos (e0.mp z)).symm))
  · exact lv_if_lt C.1 C.2.1 hd ht (fun z => KT (by rw [← h]; exact (if_pos (e1.mp z)).symm)) (fun z => KF (by rw [← h]; exact (if_neg (fun w => z (e1.mpr w))).symm))
  · exact lv_if_ge C.1 C.2.1 hd ht (fun z => KT (by rw [← h]; exact (if_pos (e2.mp z)).symm)) (fun z => KF (by rw [← h]; exact (if_neg (fun w => z (e2.mpr w))).symm))
  · exact lv_if_gt C.1 C.2.1 hd ht (fun z => KT (by rw [← h]; exact (if_pos (e3.mp z)).symm)) (fun z => KF (by rw [← h]; exact (if_neg (fun w => z (e3.mpr w))).symm))
  · exact lv_if_le C.1 C.2.1 hd ht (fun z => KT (by rw [← h]; exact (if_pos (e4.mp z)).symm)) (fun z => KF (by rw [← h]; exact (if_neg (fun w => z (e4.mpr w))).symm))
theorem ox_r_icmp (C : ox_Cx p l R s m args meth c G mc ms n cc own) {cd : ClassFile.Cond} {o : Int} {x y : Int} (ho : 0 ≤ (pc : Int) + o) (hd : decode cc pc = .ok (.if_icmp cd o, 3)) {T F : Option ox_O} {q : ox_O} (h : ox_cmp cd x y T F = some q)
    (kt : T = some q → ox_S9 p l e R s m args below meth c G mc ms n Q (ox_tgt pc o) b tl ls st σ) (kf : F = some q → ox_S9 p l e R s m args below meth c G mc ms n Q (pc + 3) b tl ls st σ) : ox_S9 p l e R s m args below meth c G mc ms n Q pc b tl ls (.inl y :: .inl x :: st) σ := by
  intro H locs cells slots arr h1 h2 h3 h4 h5 h6 h7
  obtain ⟨hy, h5⟩ := List.forall_mem_cons.mp h5
  obtain ⟨hx, h5⟩ := List.forall_mem_cons.mp h5
  have hx : ox_i32 x := hx
  have hy : ox_i32 y := hy
  have ht : (pc : Int) + o = (ox_tgt pc o : Int) := by unfold ox_tgt; omega
  have e0 := ox_eq hx hy
  have e1 := ox_lt hx hy
  have e2 := ox_le hy hx
  have e3 := ox_lt hy hx
  have e4 := ox_le hx hy
  have KT := fun z => kt z H locs cells slots arr h1 h2 h3 h4 h5 h6 h7
  have KF := fun z => kf z H locs cells slots arr h1 h2 h3 h4 h5 h6 h7
  cases cd
  · exact lv_icmp_eq C.1 C.2.1 hd ht (fun z => KT (by rw [← h]; exact (if_pos (e0.mp z)).symm)) (fun z => KF (by rw [← h]; exact (if_neg (fun w => z (e0.mpr w))).symm))
  · exact lv_icmp_ne C.1 C.2.1 hd ht (fun z => KT (by rw [← h]; exact (if_neg (fun w => z (e0.mpr w))).symm)) (fun z => KF (by rw [← h]; exact (if_pos (e0.mp z)).symm))
  · exact lv_icmp_lt C.1 C.2.1 hd ht (fun z => KT (by rw [← h]; exact (if_pos (e1.mp z)).symm)) (fun z => KF (by rw [← h]; exact (if_neg (fun w => z (e1.mpr w))).symm))
  · exact lv_icmp_ge C.1 C.2.1 hd ht (fun z => KT (by rw [← h]; exact (if_pos (e2.mp z)).symm)) (fun z => KF (by rw [← h]; exact (if_neg (fun w => z (e2.mpr w))).symm))
  · exact lv_icmp_gt C.1 C.2.1 hd ht (fun z => KT (by rw [← h]; exact (if_pos (e3.mp z)).symm)) (fun z => KF (by rw [← h]; exact (if_neg (fun w => z (e3.mpr w))).symm))
  · exact lv_icmp_le C.1 C.2.1 hd ht (fun z => KT (by rw [← h]; exact (if_pos (e4.mp z)).symm)) (fun z => KF (by rw [← h]; exact (if_neg (fun w => z (e4.mpr w))).symm))
end OX13
