/-! ===== constants, switches, copies, lengths, Math ===== -/
theorem ox_lenM_le (j : Nat) : ox_lenM j ≤ 12000 := by
  unfold ox_lenM
  (repeat' split) <;> omega
theorem ox_len_32 {σ : ox_H} (h : ox_sok σ) (c k j : Nat) : ox_len σ c k j < 2147483648 := by
  have h22 : (σ 22 0 1 0).toNat < 2147483648 := by
    have : ox_i32 (σ 22 0 1 0) := h 22 0 1 0
    unfold ox_i32 at this
    omega
  have h1 : ox_ln k ≤ 300 := by unfold ox_ln; repeat' split
                                all_goals omega
  have h2 : ox_wd k ≤ 48 := by unfold ox_wd; split <;> omega
  have h3 : ox_ln k * ox_wd k ≤ 300 * 48 := Nat.mul_le_mul h1 h2
  have h4 := ox_lenM_le j
  unfold ox_len
  (repeat' split) <;> omega
def ox_swl (pc : Nat) : List Int → Nat → Nat → List Nat
  | [], _, d => [d]
  | o :: r, i, d => i :: ox_tgt pc o :: ox_swl pc r (i + 1) d
theorem ox_sw_tab {x : Int} {pc d : Nat} {k : Nat → Option ox_O} : ∀ (offs : List Int) (i : Nat), ox_sw x (ox_swl pc offs i d) k = if (i : Int) ≤ x ∧ x < i + offs.length then k (ox_tgt pc (offs.getD (x - i).toNat 0)) else k d
  | [], i => by
    rw [if_neg (by simp <;> omega)]
    rfl
  | o :: r, i => by
    have ih := ox_sw_tab (x := x) (pc := pc) (d := d) (k := k) r (i + 1)
    have e : ox_sw x (ox_swl pc (o :: r) i d) k = if x = (i : Int) then k (ox_tgt pc o) else ox_sw x (ox_swl pc r (i + 1) d) k := by
      cases r <;> rfl
    rw [e, ih]
    by_cases h : x = (i : Int)
    · rw [if_pos h, if_pos (by simp; omega)]
      have : (x - i).toNat = 0 := by omega
      rw [this]
      rfl
    · rw [if_neg h]
      by_cases h2 : (i : Int) ≤ x ∧ x < i + (o :: r).length
      · rw [if_pos h2, if_pos (by simp at h2; omega)]
        have : (x - i).toNat = (x - (i + 1 : Nat)).toNat + 1 := by omega
        rw [this]
        rfl
      · rw [if_neg h2, if_neg (by simp at h2; omega)]
def ox_swp (pc : Nat) : List (Int × Int) → Nat → List Nat
  | [], d => [d]
  | (a, o) :: r, d => a.toNat :: ox_tgt pc o :: ox_swp pc r d
theorem ox_sw_look {x : Int} {pc : Nat} {dflt : Int} {k : Nat → Option ox_O} : ∀ (ps : List (Int × Int)), (∀ q ∈ ps, 0 ≤ q.1) → ox_sw x (ox_swp pc ps (ox_tgt pc dflt)) k = k (ox_tgt pc (Op.lookupswitch.offset ps dflt x))
  | [], _ => rfl
  | (a, o) :: r, h => by
    have ih := ox_sw_look (x := x) (pc := pc) (dflt := dflt) (k := k) r (fun q hq => h q (List.mem_cons_of_mem _ hq))
    have ha : 0 ≤ a := h (a, o) List.mem_cons_self
    have e : ox_sw x (ox_swp pc ((a, o) :: r) (ox_tgt pc dflt)) k = if x = (a.toNat : Int) then k (ox_tgt pc o) else ox_sw x (ox_swp pc r (ox_tgt pc dflt)) k := by
      rcases r with _ | ⟨⟨a2, o2⟩, r⟩ <;> rfl
    rw [e, ih]
    have e2 : (a.toNat : Int) = a := by omega
    rw [e2, Op.lookupswitch.offset_cons]
    by_cases hx : x = a
    · rw [if_pos hx, if_pos hx.symm]
    · rw [if_neg hx, if_neg (fun z => hx z.symm)]
theorem ox_look_nn {pc : Nat} {d x : Int} (hd : 0 ≤ (pc : Int) + d) : ∀ (ps : List (Int × Int)), (∀ q ∈ ps, 0 ≤ (pc : Int) + q.2) → 0 ≤ (pc : Int) + Op.lookupswitch.offset ps d x
  | [], _ => hd
  | (a, o) :: r, h => by
    rw [Op.lookupswitch.offset_cons]
    split
    · exact h (a, o) List.mem_cons_self
    · exact ox_look_nn hd r (fun q hq => h q (List.mem_cons_of_mem _ hq))
section OX16
variable {p : Program} {l : Launch} {e : Env} {R : Room} {s : State} {m : MethodId} {args : Array Value} {below : List Frame} {meth : Method} {c : Code}
variable {G : ox_G} {mc ms n : Nat} {Q : State → Prop} {cc : ByteArray} {own : String} {pc b tl : Nat} {ls st : List ox_V} {σ : ox_H}
theorem ox_sc_cat (G : ox_G) : ∀ st : List ox_V, ((st.map (ox_mv G)).map fun v => v.category).sum = ox_sc st
  | [] => rfl
  | v :: r => by
    show (ox_mv G v).category + ((r.map (ox_mv G)).map fun v => v.category).sum = (if ox_2 v then 2 else 1) + ox_sc r
    rw [ox_sc_cat G r]
    rcases v with x | x | x <;> rfl
theorem ox_r_alen (C : ox_Cx p l R s m args meth c G mc ms n cc own) {t u j : Nat} (hd : decode cc pc = .ok (.arraylength, 1)) (ht : 100 ≤ t ∧ t ≤ 122)
    (k : ox_S9 p l e R s m args below meth c G mc ms n Q (pc + 1) b tl ls (.inl (ox_len σ (t - 100) u j) :: st) σ) : ox_S9 p l e R s m args below meth c G mc ms n Q pc b tl ls (.inr (.inr (t, u, j)) :: st) σ := by
  intro H locs cells slots arr h1 h2 h3 h4 h5 h6 h7
  have hK := ox_tys_at C
  obtain ⟨hr, h55⟩ := List.forall_mem_cons.mp h5
  obtain ⟨c1, rfl⟩ : ∃ c1, t = 100 + c1 := ⟨t - 100, by omega⟩
  rw [Nat.add_sub_cancel_left] at k
  have hl := ox_len_32 h1.2.2.1 c1 u j
  have z := k H locs cells slots arr h1 h2 h3 h4 (ox_okc (v := .inl _) (by show ox_i32 _; unfold ox_i32; omega) h55) h6 h7
  rcases ox_rok_arr hr ht.1 ht.2 with hr | hr
  · obtain ⟨q, hq, he⟩ := ox_Wd_at h1 hr
    rw [ox_ent_arr] at he
    have hty : ∃ ty, (ox_tys G)[ox_ty c1 j]? = some (ox_cA G (ox_ty c1 j), ty) := by
      have : ox_ty c1 j ≤ 4 := by
        unfold ox_ty
        repeat' split
        all_goals omega
      rcases (show ox_ty c1 j = 0 ∨ ox_ty c1 j = 1 ∨ ox_ty c1 j = 2 ∨ ox_ty c1 j = 3 ∨ ox_ty c1 j = 4 by omega) with q | q | q | q | q <;> rw [q] <;> exact ⟨_, rfl⟩
    obtain ⟨ty, hty⟩ := hty
    exact va_alen C.1 C.2.1 hK h1.1 q _ he hty (v := Int32.ofInt (ox_len σ c1 u j : Int)) rfl hd z
  · obtain ⟨e1, rfl, rfl⟩ : 100 + c1 = 122 ∧ u = 0 ∧ j = 0 := by simpa using hr
    obtain rfl : c1 = 22 := by omega
    obtain ⟨scr, g1, g2, g3, g4, g5⟩ := h1.2.2.2
    exact W.alen (n := Int32.ofInt ((σ 22 0 1 0).toNat : Int)) C.1 C.2.1 g1 g2 (by rw [g4]; rfl) rfl rfl hd z
theorem ox_r_acmp (C : ox_Cx p l R s m args meth c G mc ms n cc own) {x y : Nat} {o : Int} (ho : 0 ≤ (pc : Int) + o) (hd : decode cc pc = .ok (.if_acmp .ne o, 3)) {T F : Option ox_O} {q : ox_O} (h : (if x = y then F else T) = some q)
    (kt : T = some q → ox_S9 p l e R s m args below meth c G mc ms n Q (ox_tgt pc o) b tl ls st σ) (kf : F = some q → ox_S9 p l e R s m args below meth c G mc ms n Q (pc + 3) b tl ls st σ) : ox_S9 p l e R s m args below meth c G mc ms n Q pc b tl ls (.inr (.inr (1, y, 0)) :: .inr (.inr (1, x, 0)) :: st) σ := by
  intro H locs cells slots arr h1 h2 h3 h4 h5 h6 h7
  obtain ⟨hy, h5⟩ := List.forall_mem_cons.mp h5
  obtain ⟨hx, h5⟩ := List.forall_mem_cons.mp h5
  obtain ⟨hy, -, -⟩ := ox_rok_obj (tl := tl) hy (by omega)
  obtain ⟨hx, -, -⟩ := ox_rok_obj (tl := tl) hx (by omega)
  obtain ⟨qy, hqy, hey⟩ := ox_Wd_at h1 hy
  obtain ⟨qx, hqx, hex⟩ := ox_Wd_at h1 hx
  have ht : (pc : Int) + o = (ox_tgt pc o : Int) := by unfold ox_tgt; omega
  refine lv_acmp_ne (rx := some (ox_ad G (1, x, 0))) (ry := some (ox_ad G (1, y, 0))) C.1 C.2.1 hd ht (fun z => ?_) (fun z => ?_)
  · exact kt (by rw [← h, if_neg (fun w => z (by rw [w]))]) H locs cells slots arr h1 h2 h3 h4 h5 h6 h7
  · have e1 : qx = qy := h1.2.1.1 qx qy _ _ hex hey (Option.some.inj z)
    have e2 : ((1, x, 0) : Nat × Nat × Nat) = (1, y, 0) := by
      rw [e1] at hqx
      exact Option.some.inj (hqx.symm.trans hqy)
    have e3 : x = y := by simpa using e2
    exact kf (by rw [← h, if_pos e3]) H locs cells slots arr h1 h2 h3 h4 h5 h6 h7
theorem ox_r_tab (C : ox_Cx p l R s m args meth c G mc ms n cc own) {d hi : Int} {offs : Array Int} {ln : Nat} {x : Int} (hd : decode cc pc = .ok (.tableswitch d 0 hi offs, ln)) (hz : hi + 1 = offs.size) (ho : ∀ q ∈ offs.toList, 0 ≤ (pc : Int) + q) (hdd : 0 ≤ (pc : Int) + d) {g : Nat → Option ox_O} {o : ox_O} (h : ox_sw x (ox_swl pc offs.toList 0 (ox_tgt pc d)) g = some o)
    (k : ∀ t, g t = some o → ox_S9 p l e R s m args below meth c G mc ms n Q t b tl ls st σ) : ox_S9 p l e R s m args below meth c G mc ms n Q pc b tl ls (.inl x :: st) σ := by
  intro H locs cells slots arr h1 h2 h3 h4 h5 h6 h7
  obtain ⟨hx, h5⟩ := List.forall_mem_cons.mp h5
  have hx : ox_i32 x := hx
  rw [ox_sw_tab] at h
  have e1 := ox_toI hx
  by_cases hc : ((0 : Nat) : Int) ≤ x ∧ x < ((0 : Nat) : Int) + (offs.toList.length : Nat)
  · rw [if_pos hc] at h
    have hlt : x.toNat < offs.size := by have := hc.2; simp at this; omega
    have e3 : (x - ((0 : Nat) : Int)).toNat = x.toNat := by simp
    rw [e3] at h
    have hg : offs.toList.getD x.toNat 0 = offs[x.toNat] := by
      rw [List.getD_eq_getElem?_getD, List.getElem?_eq_getElem (by simpa using hlt)]
      simp
    rw [hg] at h
    have z := k _ h H locs cells slots arr h1 h2 h3 h4 h5 h6 h7
    refine lv_tableIn (x := Int32.ofInt x) (off := offs[x.toNat]) C.1 C.2.1 hd (by rw [e1]; omega) (by rw [e1]; have := hc.2; simp at this; omega) (by rw [e1]; simp [hlt]) ?_ z
    have := ho offs[x.toNat] (by simp)
    unfold ox_tgt
    omega
  · rw [if_neg hc] at h
    have z := k _ h H locs cells slots arr h1 h2 h3 h4 h5 h6 h7
    refine lv_tableOut (x := Int32.ofInt x) C.1 C.2.1 hd (by rw [e1]; simp at hc; omega) ?_ z
    unfold ox_tgt
    omega
theorem ox_r_look (C : ox_Cx p l R s m args meth c G mc ms n cc own) {d : Int} {ps : Array (Int × Int)} {ln : Nat} {x : Int} (hd : decode cc pc = .ok (.lookupswitch d ps, ln)) (hp : (ps.toList.zip (ps.toList.drop 1)).all (fun (a, next) => a.1 < next.1) = true) (hps : ∀ q ∈ ps.toList, 0 ≤ q.1) (ho : ∀ q ∈ ps.toList, 0 ≤ (pc : Int) + q.2) (hdd : 0 ≤ (pc : Int) + d) {g : Nat → Option ox_O} {o : ox_O} (h : ox_sw x (ox_swp pc ps.toList (ox_tgt pc d)) g = some o)
    (k : ∀ t, g t = some o → ox_S9 p l e R s m args below meth c G mc ms n Q t b tl ls st σ) : ox_S9 p l e R s m args below meth c G mc ms n Q pc b tl ls (.inl x :: st) σ := by
  intro H locs cells slots arr h1 h2 h3 h4 h5 h6 h7
  obtain ⟨hx, h5⟩ := List.forall_mem_cons.mp h5
  have hx : ox_i32 x := hx
  rw [ox_sw_look _ hps] at h
  have z := k _ h H locs cells slots arr h1 h2 h3 h4 h5 h6 h7
  refine lv_lookup (x := Int32.ofInt x) (off := Op.lookupswitch.offset ps.toList d x) C.1 C.2.1 hd hp (by rw [ox_toI hx]) ?_ z
  have := ox_look_nn (x := x) hdd ps.toList ho
  unfold ox_tgt
  omega
theorem ox_r_ldc (C : ox_Cx p l R s m args meth c G mc ms n cc own) {idx : Nat} {x : Int} (hx : ox_i32 x) (hcn : (Jvm.Cond.constant own idx (Int32.ofInt x)).before args s = true) (hd : decode cc pc = .ok (.ldc idx, 2))
    (k : ox_S9 p l e R s m args below meth c G mc ms n Q (pc + 2) b tl ls (.inl x :: st) σ) : ox_S9 p l e R s m args below meth c G mc ms n Q pc b tl ls st σ := by
  intro H locs cells slots arr h1 h2 h3 h4 h5 h6 h7
  exact lv_ldc C.1 C.2.1 C.2.2.2.1 hcn hd (k H locs cells slots arr h1 h2 h3 h4 (ox_okc (v := .inl _) hx h5) h6 h7)
theorem ox_r_ldcw (C : ox_Cx p l R s m args meth c G mc ms n cc own) {idx : Nat} {x : Int} (hx : ox_i32 x) (hcn : (Jvm.Cond.constant own idx (Int32.ofInt x)).before args s = true) (hd : decode cc pc = .ok (.ldc_w idx, 3))
    (k : ox_S9 p l e R s m args below meth c G mc ms n Q (pc + 3) b tl ls (.inl x :: st) σ) : ox_S9 p l e R s m args below meth c G mc ms n Q pc b tl ls st σ := by
  intro H locs cells slots arr h1 h2 h3 h4 h5 h6 h7
  exact lv_ldcw C.1 C.2.1 C.2.2.2.1 hcn hd (k H locs cells slots arr h1 h2 h3 h4 (ox_okc (v := .inl _) hx h5) h6 h7)
theorem ox_r_ldc2 (C : ox_Cx p l R s m args meth c G mc ms n cc own) {idx : Nat} {x : Int} (hx : ox_i64 x) (hcn : (Jvm.Cond.constantLong own idx (Int64.ofInt x)).before args s = true) (hd : decode cc pc = .ok (.ldc2_w idx, 3))
    (k : ox_S9 p l e R s m args below meth c G mc ms n Q (pc + 3) b tl ls (.inr (.inl x) :: st) σ) : ox_S9 p l e R s m args below meth c G mc ms n Q pc b tl ls st σ := by
  intro H locs cells slots arr h1 h2 h3 h4 h5 h6 h7
  exact lv_ldc2 C.1 C.2.1 C.2.2.2.1 hcn hd (k H locs cells slots arr h1 h2 h3 h4 (ox_okc (v := .inr (.inl _)) hx h5) h6 h7)
theorem ox_ldcS_w {cc : ByteArray} {ls : Array Slot} {rest : List Value} {H : Heap} {locs : List Loc} {cells slots : Nat} (hexec : p.tables.exec = Jvm.exec) (hb : c.code = cc) {own tx : String} {index q : Nat} (hown : s.vm.findClass own = some m.cls) (hZ : vk_R own index tx q s) (hdg : decode cc pc = .ok (.ldc_w index, 3))
    (k : W p l e R s m args below meth c H locs cells slots Q (F0 m (pc + 3) ls (.ref q :: rest))) : W p l e R s m args below meth c H locs cells slots Q (F0 m pc ls rest) := by
  intro T hT X
  obtain ⟨t, a1, b1⟩ := k T hT X
  exact ⟨t, X.ldcStringW hexec hown (text := tx) (a := q) hZ.1 hZ.2 (g := F0 m pc ls rest) rfl (by rw [hb]; exact hdg) t a1, b1⟩
theorem ox_r_ldcS (C : ox_Cx p l R s m args meth c G mc ms n cc own) {idx w : Nat} (hw : w < 6) (hcn : Jvm.Cond.stringRef own idx (ox_lit w) ∈ tables_1) (hd : decode cc pc = .ok (.ldc idx, 2))
    (k : ox_S9 p l e R s m args below meth c G mc ms n Q (pc + 2) b tl ls (.inr (.inr (200, w, 0)) :: st) σ) : ox_S9 p l e R s m args below meth c G mc ms n Q pc b tl ls st σ := by
  intro H locs cells slots arr h1 h2 h3 h4 h5 h6 h7
  obtain ⟨a, ha, hi⟩ := C.2.2.2.2.2.1.2.2.1 _ _ _ hcn
  have hi := hi w hw rfl
  subst hi
  exact va_ldcS C.1 C.2.1 C.2.2.2.1 ha hd (k H locs cells slots arr h1 h2 h3 h4 (ox_okc (v := .inr (.inr (200, w, 0))) (Or.inr (Or.inl ⟨rfl, hw, rfl⟩)) h5) h6 h7)
theorem ox_r_ldcSw (C : ox_Cx p l R s m args meth c G mc ms n cc own) {idx w : Nat} (hw : w < 6) (hcn : Jvm.Cond.stringRef own idx (ox_lit w) ∈ tables_1) (hd : decode cc pc = .ok (.ldc_w idx, 3))
    (k : ox_S9 p l e R s m args below meth c G mc ms n Q (pc + 3) b tl ls (.inr (.inr (200, w, 0)) :: st) σ) : ox_S9 p l e R s m args below meth c G mc ms n Q pc b tl ls st σ := by
  intro H locs cells slots arr h1 h2 h3 h4 h5 h6 h7
  obtain ⟨a, ha, hi⟩ := C.2.2.2.2.2.1.2.2.1 _ _ _ hcn
  have hi := hi w hw rfl
  subst hi
  exact ox_ldcS_w C.1 C.2.1 C.2.2.2.1 ha hd (k H locs cells slots arr h1 h2 h3 h4 (ox_okc (v := .inr (.inr (200, w, 0))) (Or.inr (Or.inl ⟨rfl, hw, rfl⟩)) h5) h6 h7)
end OX16
