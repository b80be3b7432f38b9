/-! ===== new rows, ends, throws ===== -/
def ox_Gu (G : ox_G) (q : Nat) : ox_G := (G.1, G.2.1, fun r => if r = (120, 0, 0) then q else ox_ad G r, G.2.2.2.1, G.2.2.2.2)
theorem ox_Gu_ad {G : ox_G} {q : Nat} {r : Nat × Nat × Nat} (h : r ≠ (120, 0, 0)) : ox_ad (ox_Gu G q) r = ox_ad G r := if_neg h
theorem ox_L0_ne {r : Nat × Nat × Nat} (h : r ∈ ox_L0) : r ≠ (120, 0, 0) := by
  rintro rfl
  have := List.nodup_append.mp ox_L_nd0
  exact this.2.2 _ h _ List.mem_cons_self rfl
theorem ox_Gu_ent {G : ox_G} {q : Nat} {σ : ox_H} {r : Nat × Nat × Nat} (h : r ∈ ox_L0) : ox_ent (ox_Gu G q) (ox_nw σ) r = ox_ent G σ r := by
  have hb := ox_L_rb (tl := 0) (show r ∈ ox_L 0 from h)
  obtain ⟨t, k, j⟩ := r
  by_cases h1 : t < 100
  · obtain ⟨g1, g2, g3⟩ := ox_rb_obj hb h1
    have g3 : j = 0 := g3
    subst g3
    rw [ox_ent_obj g1, ox_ent_obj g1]
    congr 2
    apply List.map_congr_left
    intro z hz
    have hz := List.mem_range.mp hz
    have e : ox_nw σ t k z 0 = σ t k z 0 := if_neg (by omega)
    have e1 : ox_ad (ox_Gu G q) (100 + t, k, z) = ox_ad G (100 + t, k, z) := ox_Gu_ad (fun w => by have : 100 + t = 120 := congrArg Prod.fst w; omega)
    rcases hf : ox_fk t z with ⟨a, b, d⟩
    have e2 : a = 2 → ox_ad (ox_Gu G q) (b, d, 0) = ox_ad G (b, d, 0) := fun ha => by
      have g := ox_fk_ref t g1 z hz (by rw [hf]; exact ha)
      rw [hf] at g
      exact ox_Gu_ad (fun w => by have z9 : b = 120 := congrArg Prod.fst w; have g9 : b < 11 := g.1; omega)
    unfold ox_fv
    rw [e, e1, hf]
    split
    · rfl
    · rename_i hh
      simp only [Prod.mk.injEq] at hh
      obtain ⟨y1, y2, y3⟩ := hh
      subst y1 y2 y3
      rw [e2 rfl]
    · rfl
  · obtain ⟨c, rfl⟩ : ∃ c, t = 100 + c := ⟨t - 100, by omega⟩
    have hc : c ≠ 20 := by
      rintro rfl
      rcases ox_rb_arr hb (by show 100 ≤ 120; omega) with g | g
      · have : 120 - 100 < 11 := g.1
        omega
      · have g1 : k = 0 := g.1
        have g2 : j = 0 := g.2.1
        subst g1; subst g2
        exact ox_L0_ne h rfl
    rw [ox_ent_arr, ox_ent_arr]
    have e : ox_nw σ c k j = σ c k j := funext fun i => if_neg hc
    have e2 : ox_len (ox_nw σ) c k j = ox_len σ c k j := by
      have : ox_nw σ 22 0 1 0 = σ 22 0 1 0 := if_neg (by omega)
      unfold ox_len
      rw [this]
    have e3 : (fun i => some (ox_ad (ox_Gu G q) (4, i, 0))) = fun i => some (ox_ad G (4, i, 0)) := funext fun i => by rw [ox_Gu_ad (by simp)]
    unfold ox_rw
    rw [e, e2, e3]
    rfl
theorem ox_Gu_ws {G : ox_G} {q : Nat} {σ : ox_H} : ox_ws (ox_Gu G q) 0 (ox_nw σ) = ox_ws G 0 σ := by
  unfold ox_ws
  apply List.map_congr_left
  intro r hr
  have hr : r ∈ ox_L0 := hr
  rw [ox_Gu_ent hr, ox_Gu_ad (ox_L0_ne hr)]
/-- the launch's numbers as the method began with them, and as they are now -/
def ox_Gt (G0 : ox_G) (tl0 : Nat) (G : ox_G) (tl : Nat) : Prop := (G = G0 ∧ tl = tl0) ∨ (∃ q, G = ox_Gu G0 q ∧ tl0 = 0 ∧ tl = 1)
theorem ox_Gt_A {G0 G : ox_G} {tl0 tl : Nat} (h : ox_Gt G0 tl0 G tl) : ox_A G = ox_A G0 := by
  rcases h with ⟨rfl, -⟩ | ⟨q, rfl, -⟩ <;> rfl
theorem ox_Gu_mv {G : ox_G} {q : Nat} {v : ox_V} (h : v ≠ .inr (.inr (120, 0, 0))) : ox_mv (ox_Gu G q) v = ox_mv G v := by
  rcases v with x | x | r
  · rfl
  · rfl
  · show Value.ref _ = Value.ref _
    rw [ox_Gu_ad (fun w => h (by rw [w]))]
theorem ox_L_split {G : ox_G} {σ : ox_H} : ox_ws G 1 σ = ox_ws G 0 σ ++ [(ox_ad G (120, 0, 0), ox_ent G σ (120, 0, 0))] := by
  show (ox_L0 ++ [(120, 0, 0)]).map _ = ox_L0.map _ ++ _
  rw [List.map_append]
  rfl
theorem ox_ent_G {G : ox_G} {q : Nat} {σ : ox_H} {r : Nat × Nat × Nat} (h : r ∈ ox_L0) : ox_ent (ox_Gu G q) σ r = ox_ent G σ r := by
  have hb := ox_L_rb (tl := 0) (show r ∈ ox_L 0 from h)
  obtain ⟨t, k, j⟩ := r
  by_cases h1 : t < 100
  · obtain ⟨g1, g2, g3⟩ := ox_rb_obj hb h1
    have g3 : j = 0 := g3
    subst g3
    rw [ox_ent_obj g1, ox_ent_obj g1]
    congr 2
    apply List.map_congr_left
    intro z hz
    have hz := List.mem_range.mp hz
    have e1 : ox_ad (ox_Gu G q) (100 + t, k, z) = ox_ad G (100 + t, k, z) := ox_Gu_ad (fun w => by have : 100 + t = 120 := congrArg Prod.fst w; omega)
    rcases hf : ox_fk t z with ⟨a, b, d⟩
    have e2 : a = 2 → ox_ad (ox_Gu G q) (b, d, 0) = ox_ad G (b, d, 0) := fun ha => by
      have g := ox_fk_ref t g1 z hz (by rw [hf]; exact ha)
      rw [hf] at g
      exact ox_Gu_ad (fun w => by have z9 : b = 120 := congrArg Prod.fst w; have g9 : b < 11 := g.1; omega)
    unfold ox_fv
    rw [e1, hf]
    split
    · rfl
    · rename_i hh
      simp only [Prod.mk.injEq] at hh
      obtain ⟨y1, y2, y3⟩ := hh
      subst y1 y2 y3
      rw [e2 rfl]
    · rfl
  · obtain ⟨c, rfl⟩ : ∃ c, t = 100 + c := ⟨t - 100, by omega⟩
    rw [ox_ent_arr, ox_ent_arr]
    have e3 : (fun i => some (ox_ad (ox_Gu G q) (4, i, 0))) = fun i => some (ox_ad G (4, i, 0)) := funext fun i => by rw [ox_Gu_ad (by simp)]
    unfold ox_rw
    rw [e3]
    rfl
theorem ox_ws_G {G : ox_G} {q : Nat} {σ : ox_H} : ox_ws (ox_Gu G q) 0 σ = ox_ws G 0 σ := by
  unfold ox_ws
  apply List.map_congr_left
  intro r hr
  have hr : r ∈ ox_L0 := hr
  rw [ox_ent_G hr, ox_Gu_ad (ox_L0_ne hr)]
/-- back to the numbers of the beginning -/
theorem ox_Gt_Wd {G0 G : ox_G} {tl0 tl : Nat} {σ : ox_H} {U : State} {H : Heap} (h : ox_Gt G0 tl0 G tl) (hW : ox_Wd G tl σ U H) : ox_Wd G0 tl0 σ U H := by
  rcases h with ⟨rfl, rfl⟩ | ⟨q, rfl, rfl, rfl⟩
  · exact hW
  · obtain ⟨h1, h2, h3, h4⟩ := hW
    rw [ox_L_split, ox_ws_G] at h1 h2
    refine ⟨fun k r hk => h1 k r (by rw [List.getElem?_append_left (List.getElem?_eq_some_iff.mp hk).1]; exact hk), ⟨fun i j a b ha hb e => h2.1 i j a b (by rw [List.getElem?_append_left (List.getElem?_eq_some_iff.mp ha).1]; exact ha) (by rw [List.getElem?_append_left (List.getElem?_eq_some_iff.mp hb).1]; exact hb) e, fun k r hk => h2.2 k r (by rw [List.getElem?_append_left (List.getElem?_eq_some_iff.mp hk).1]; exact hk)⟩, h3, ?_⟩
    rw [ox_Gu_ad (by simp)] at h4
    exact h4
def ox_Qc (G : ox_G) (tl : Nat) (o : ox_O) : Array Value → State → Outcome → State → Prop := fun _ st oc t => match o with
  | (.inl r, σ') => oc = .returned (r.map (ox_mv G)) ∧ ox_Wd G tl σ' t t.heap ∧ va_F (ox_A G) st t ∧ ∀ v, r = some v → ox_ok tl v
  | (.inr _, _) => False
def ox_XC (G : ox_G) (tl : Nat) (o : ox_O) : String → State → State → Prop := fun E st t => match o with
  | (.inl _, _) => False
  | (.inr e, σ') => E = ox_xn e ∧ ox_Wd G tl σ' t t.heap ∧ va_F (ox_A G) st t
theorem ox_Wd_moved {G : ox_G} {tl : Nat} {σ : ox_H} {u U : State} {H : Heap} (hvm : u.vm.Alike U.vm) (h : ox_Wd G tl σ u H) : ox_Wd G tl σ U H := ⟨h.1, h.2.1, h.2.2.1, h.2.2.2.moved hvm⟩
section OX18
variable {p : Program} {l : Launch} {e : Env} {R : Room} {s : State} {m : MethodId} {args : Array Value} {below : List Frame} {meth : Method} {c : Code}
variable {G G0 : ox_G} {mc ms n tl0 : Nat} {Q : State → Prop} {cc : ByteArray} {own : String} {pc b tl : Nat} {ls st : List ox_V} {σ : ox_H} {o : ox_O}
/-- an int's end, narrowed -/
theorem ox_nret {cc : ByteArray} {H : Heap} {locs : List Loc} {cells slots : Nat} {Qc : Array Value → State → Outcome → State → Prop} {free : Addr → Prop} {v w : Int32} {ty : FieldType} (hexec : p.tables.exec = Jvm.exec) (hb : c.code = cc) (hr : meth.sig.returnType = some ty) (hn : narrow ty (.int v) = .int w)
    (hq : ∀ t : State, t.heap = H → s.WarmedH t.vm → Qc args s (.returned (some (.int w))) t) (hf : ∀ q ∈ locs, free q.base)
    {pc : Nat} {ls : Array Slot} (hdg : decode cc pc = .ok (.ireturn, 1)) (hlocks : meth.locks = false) : W p l e R s m args below meth c H locs cells slots (MQ below Qc args s cells slots free) (F0 m pc ls [.int v]) := by
  intro T hT X
  obtain ⟨fs, hret, hrun, hended, hW, hframe⟩ := X.leave (v := some (.int w)) (fun h => by rw [hr] at h; cases h)
  have hmeth' : T.vm.method? m = some meth := X.method'
  refine ⟨T.setFrames fs, ?_, .returned (some (.int w)), hrun, hended, hq _ hT hW, locs, ⟨⟨_, rfl⟩, hW, hframe⟩, hf⟩
  jvm_step X.here [X.here.top, hexec, hb, hdg, hmeth', hr, hn]
  (try refine ⟨rfl, ?_⟩); (try refine ⟨rfl, ?_⟩)
  first | (intro acts; rw [hret _ acts rfl rfl rfl]) | rw [hret _ _ rfl rfl rfl]
  exact Steps.refl _
def ox_rt (r : Nat) (ret : Option FieldType) : Prop := (r = 0 ∧ ret = none) ∨ (r = 1 ∧ ret = some .int) ∨ (r = 2 ∧ ret = some .char) ∨ (r = 3 ∧ ret = some .boolean) ∨ (r = 4 ∧ ∃ nm, ret = some (.object nm))
theorem ox_r_iret (C : ox_Cx p l R s m args meth c G mc ms n cc own) (hG : ox_Gt G0 tl0 G tl) {x y : Int} {ty : FieldType} (hr : meth.sig.returnType = some ty) (hn : narrow ty (.int (Int32.ofInt x)) = .int (Int32.ofInt y)) (hy : ox_i32 x → ox_i32 y) (hd : decode cc pc = .ok (.ireturn, 1)) :
    ox_S9 p l e R s m args below meth c G mc ms n (vx_MQ below (ox_Qc G0 tl0 (.inl (some (.inl y)), σ)) (ox_XC G0 tl0 (.inl (some (.inl y)), σ)) args s mc ms (ox_A G0)) pc b tl ls [.inl x] σ := by
  intro H locs cells slots arr h1 h2 h3 h4 h5 h6 h7
  refine vx_ret ?_
  refine W.widen (k := mc) (n := ms) (by omega) (by omega) ?_
  rw [← ox_Gt_A hG]
  refine ox_nret C.1 C.2.1 hr hn (fun t ht hW => ?_) h2.2.2 hd C.2.2.2.2.2.2.1
  refine ⟨rfl, ?_, ?_, fun v hv => ?_⟩
  · rw [ht]; exact ox_Wd_moved hW.alike (ox_Gt_Wd hG h1)
  · rw [← ox_Gt_A hG]; exact h2.F ht
  · cases hv
    exact hy (h5 _ List.mem_cons_self)
theorem ox_r_aret (C : ox_Cx p l R s m args meth c G mc ms n cc own) (hG : ox_Gt G0 tl0 G tl) {r : Nat × Nat × Nat} (hr120 : ¬ r.1 = 120) {nm : String} (hr : meth.sig.returnType = some (.object nm)) (hd : decode cc pc = .ok (.areturn, 1)) :
    ox_S9 p l e R s m args below meth c G mc ms n (vx_MQ below (ox_Qc G0 tl0 (.inl (some (.inr (.inr r))), σ)) (ox_XC G0 tl0 (.inl (some (.inr (.inr r))), σ)) args s mc ms (ox_A G0)) pc b tl ls [.inr (.inr r)] σ := by
  intro H locs cells slots arr h1 h2 h3 h4 h5 h6 h7
  refine vx_ret ?_
  refine W.widen (k := mc) (n := ms) (by omega) (by omega) ?_
  rw [← ox_Gt_A hG]
  have hv : ox_mv G (.inr (.inr r)) = ox_mv G0 (.inr (.inr r)) := by
    rcases hG with ⟨rfl, -⟩ | ⟨q, rfl, -⟩
    · rfl
    · exact ox_Gu_mv (fun w => hr120 (by cases w; rfl))
  refine W.aret C.1 C.2.1 hr (Or.inl ⟨nm, rfl⟩) (Or.inr ⟨_, rfl⟩) (fun t ht hW => ?_) h2.2.2 hd C.2.2.2.2.2.2.1
  refine ⟨by rw [show Value.ref (ox_ad G r) = ox_mv G0 (.inr (.inr r)) from hv]; rfl, ?_, ?_, fun v hv => ?_⟩
  · rw [ht]; exact ox_Wd_moved hW.alike (ox_Gt_Wd hG h1)
  · rw [← ox_Gt_A hG]; exact h2.F ht
  · cases hv
    have hk : ox_rok tl r := h5 _ List.mem_cons_self
    show ox_rok tl0 r
    rcases hG with ⟨-, rfl⟩ | ⟨q, -, rfl, rfl⟩
    · exact hk
    · rcases hk with hk | hk
      · refine Or.inl ?_
        rcases List.mem_append.mp (show r ∈ ox_L0 ++ [(120, 0, 0)] from hk) with z | z
        · exact z
        · exact absurd (by rw [List.mem_singleton.mp z]) hr120
      · exact Or.inr hk
theorem ox_r_vret (C : ox_Cx p l R s m args meth c G mc ms n cc own) (hG : ox_Gt G0 tl0 G tl) (hr : meth.sig.returnType = none) (hd : decode cc pc = .ok (.return_, 1)) :
    ox_S9 p l e R s m args below meth c G mc ms n (vx_MQ below (ox_Qc G0 tl0 (.inl none, σ)) (ox_XC G0 tl0 (.inl none, σ)) args s mc ms (ox_A G0)) pc b tl ls [] σ := by
  intro H locs cells slots arr h1 h2 h3 h4 h5 h6 h7
  refine vx_ret ?_
  refine W.widen (k := mc) (n := ms) (by omega) (by omega) ?_
  rw [← ox_Gt_A hG]
  refine W.vret C.1 C.2.1 hr (fun t ht hW => ?_) h2.2.2 hd C.2.2.2.2.2.2.1
  refine ⟨rfl, ?_, ?_, fun v hv => by cases hv⟩
  · rw [ht]; exact ox_Wd_moved hW.alike (ox_Gt_Wd hG h1)
  · rw [← ox_Gt_A hG]; exact h2.F ht
theorem ox_Cx_u (C : ox_Cx p l R s m args meth c G mc ms n cc own) {q : Nat} : ox_Cx p l R s m args meth c (ox_Gu G q) mc ms n cc own := by
  obtain ⟨a1, a2, a3, a4, a5, ⟨b1, b2, b3, b4, b5, b6, b7⟩, a7, a8, a9, a10⟩ := C
  have e2 : (fun i => ox_ad (ox_Gu G q) (200, i, 0)) = fun i => ox_ad G (200, i, 0) := funext fun i => ox_Gu_ad (by simp)
  refine ⟨a1, a2, a3, a4, a5, ⟨b1, ?_, ?_, b4, b5, b6, ?_⟩, a7, a8, a9, a10⟩
  · rw [e2]; exact b2
  · intro own k tx h
    obtain ⟨a, ha, hi⟩ := b3 own k tx h
    exact ⟨a, ha, fun i h1 h2 => by rw [ox_Gu_ad (by simp)]; exact hi i h1 h2⟩
  · rw [ox_Gu_ad (by simp)]; exact b7
theorem ox_r_newa (C : ox_Cx p l R s m args meth c G mc ms n cc own) (hd : decode cc pc = .ok (.newarray .int, 2))
    (k : ∀ q, ox_S9 p l e R s m args below meth c (ox_Gu G q) mc ms n Q (pc + 2) b 1 ls (.inr (.inr (120, 0, 0)) :: st) (ox_nw σ)) : ox_S9 p l e R s m args below meth c G mc ms n Q pc (b + 1) 0 ls (.inl 10 :: st) σ := by
  intro H locs cells slots arr h1 h2 h3 h4 h5 h6 h7
  obtain ⟨-, h5⟩ := List.forall_mem_cons.mp h5
  have hK := ox_tys_at C
  have hw : Jvm.Cond.arrayClass .int ∈ tables_1 := by decide +kernel
  obtain ⟨-, -, -, -, -, -, -, -, ⟨hf, hlo, hmc, hms⟩, hA⟩ := id C
  have ok1 : ∀ v, ox_ok 0 v → v ≠ .inr (.inr (120, 0, 0)) := by
    rintro v hv rfl
    rcases hv with hv | ⟨hv, -⟩ | hv | hv
    · exact ox_L0_ne hv rfl
    · cases hv
    · cases hv
    · cases hv
  have ok2 : ∀ v, ox_ok 0 v → ox_ok 1 v := by
    intro v hv
    rcases v with x | x | r
    · exact hv
    · exact hv
    · rcases hv with hv | hv
      · exact Or.inl (ox_L_up hv)
      · exact Or.inr hv
  refine va_newa (atype := .int) (N' := 10) (a0 := (10, .inl (fun _ => 0))) C.1 C.2.1 (ox_hg C hw rfl) rfl hK h1.1 h1.2.1 h2 hA (fun cA => rfl) (by decide) rfl (by decide) (by omega) (by omega) hd (fun q cA H1 hK1 hP hD hS => ?_)
  have ecA : cA = ox_cA G 0 := by
    have z1 := (hK1.2 5 (cA, .int) rfl).2
    have z2 := (hK.2 0 (ox_cA G 0, .int) rfl).2
    exact Option.some.inj (z1.symm.trans z2)
  subst ecA
  have ews : ox_ws G 0 σ ++ [(q, .inl (ox_cA G 0, (10, .inl (fun _ => (0 : Int32)))))] = ox_ws (ox_Gu G q) 1 (ox_nw σ) := by
    rw [ox_L_split, ox_Gu_ws]
    rfl
  rw [ews] at hP hD
  have hX := h1.2.2.2
  have hlt : ox_ad G (122, 0, 0) < ox_bs G := C.2.2.2.2.2.1.2.2.2.2.2.2.1
  have hnA : ¬ ox_A G (ox_ad G (122, 0, 0)) := fun z => absurd (show ox_bs G ≤ _ from z) (Nat.not_le.mpr hlt)
  have hsz := Nat.lt_of_lt_of_le hlt (ox_bs_le C)
  have hW1 : ox_Wd (ox_Gu G q) 1 (ox_nw σ) s H1 := by
    refine ⟨hP, hD, ?_, ?_⟩
    · intro c' k' j' i'
      unfold ox_nw
      by_cases hc : c' = 20
      · rw [if_pos hc, hc]
        show ox_i32 0
        exact ox_i0
      · rw [if_neg hc]; exact h1.2.2.1 c' k' j' i'
    · rw [ox_Gu_ad (by simp)]
      exact hX.kept ((hS.2.1 _ hsz hnA).trans (h2.2.1 _ hsz hnA).symm)
  have z := k q H1 locs (cells + 1) (slots + 10) arr hW1 hS ⟨h3.1, h3.2.1, fun i v hv hdm => by rw [ox_Gu_mv (ok1 v (h4 v (List.mem_of_getElem? hv)))]; exact h3.2.2 i v hv hdm⟩ (fun v hv => ok2 v (h4 v hv)) (ox_okc (v := .inr (.inr (120, 0, 0))) (Or.inl (List.mem_append_right _ List.mem_cons_self)) (fun v hv => ok2 v (h5 v hv))) (by omega) (by omega)
  have est : st.map (ox_mv (ox_Gu G q)) = st.map (ox_mv G) := List.map_congr_left fun v hv => ox_Gu_mv (ok1 v (h5 v hv))
  rw [List.map_cons, est] at z
  exact z
end OX18
