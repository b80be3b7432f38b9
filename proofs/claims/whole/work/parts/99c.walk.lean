/-! ===== the law, from its entry to its end, out of the mathematics ===== -/
theorem oz_mono {p : Program} {l : Launch} {e : Env} {R : Room} {s : State} {m : MethodId} {args : Array Value} {below : List Frame} {meth : Method} {c : Code} {H : Heap} {locs : List Loc} {cells slots : Nat} {Q Q' : State → Prop} {g : JFrame} (h : W p l e R s m args below meth c H locs cells slots Q g) (hq : ∀ t, Q t → Q' t) : W p l e R s m args below meth c H locs cells slots Q' g := fun T hT X => by
  obtain ⟨t, a, b⟩ := h T hT X
  exact ⟨t, a, hq t b⟩
def oz_Q (below : List Frame) (s : State) : State → Prop := fun t => ∃ L9 : List Loc, t.status = .running ∧ Ended t below (.returned (some (.int 1))) ∧ FrameEnd s (.returned (some (.int 1))) t L9 601024 7293034 ∧ ∀ q ∈ L9, s.heap.size ≤ q.base
section OZ2
variable {p : Program} {l : Launch} {e : Env} {s : State} {m : MethodId} {below : List Frame} {meth : Method} {c : Code}
theorem oz_walk (hst : l.stackTraces = false) {b L : Nat} {xs : Nat → Int32} (hL : L ≤ 2560) (hM : oz_M L xs) (hx : p.tables.exec = Jvm.exec) (hb : c.code = code) (hr : meth.sig.returnType = ret) (hml : c.maxLocals = 7) (hown : s.vm.findClass "OutlineryLaw" = some m.cls)
    (hts : ∀ w ∈ lw_tbl, w.before #[Value.ref b] s = true) (hX : va_X b L xs s s.heap) (hbl : b < s.heap.size) (hlk : meth.locks = false) (hq : ∀ w ∈ oz_nw, w.before #[Value.ref b] s = true) : W p l e room_1 s m #[Value.ref b] below meth c s.heap [] 0 0 (oz_Q below s) (entryFrame m ([Value.ref b] : List Value).toArray 7) := by
  obtain ⟨D, cA, hK⟩ := oz_kn hts
  have hA0 : ∀ a : Nat, a < s.heap.size → ¬ (fun q : Nat => s.heap.size ≤ q) a := fun a ha q => absurd ha (Nat.not_lt.mpr q)
  obtain ⟨adK, aV, hS, hev⟩ := oz_str hq hA0
  have hg : ∀ w ∈ ox_good, w.before #[Value.ref b] s = true := fun w hw => hts w (List.mem_filter.mp hw).1
  have ht : ∀ w ∈ tables_1, w.before #[Value.ref b] s = true := fun w hw => hts w (List.mem_append_right _ hw)
  have hfx : ∀ as : List Nat, ox_Fx (ob_Gf D cA adK aV b s.heap.size as) s s.heap := fun as =>
    oz_fx (G := ob_Gf D cA adK aV b s.heap.size as) hts hq (hK _ rfl rfl) rfl hbl hS hev
  generalize hGb : ob_Gf D cA adK aV b s.heap.size [] = Gb
  have hfb := hfx []
  rw [hGb] at hfb
  have hbsb : ox_bs Gb = s.heap.size := by rw [← hGb]; rfl
  have hCb : ob_Cx p l room_1 s m #[Value.ref b] meth c Gb 601024 7293034 7 code "OutlineryLaw" :=
    ⟨hx, hb, hml, hown, hg, hfb.1, va_AO.of (ht _ (oz_t1 _ (List.mem_of_getElem? (i := 11) rfl))), hfb.2.2.2.2.2.1, hlk, fun h => absurd rfl h, ⟨by decide, by decide, Nat.le_refl _, Nat.le_refl _⟩, fun q hq => by show ox_bs Gb ≤ q; rw [hbsb]; exact hq⟩
  have hb9 : ox_ad Gb (122, 0, 0) = b := by rw [← hGb]; rfl
  obtain ⟨σ', hJ⟩ := hM
  have hev9 := L_Law_law_23 0 450000 (ox_H0 L xs) 0 0 _ hJ _ rfl
  obtain ⟨N, hN⟩ := ox_ev_run.mp hev9
  rw [lg_entry_eq]
  have k : ob_S9 p l e room_1 s m #[Value.ref b] below meth c Gb [] 601024 7293034 7 (oz_Q below s) (23, 600885, 7216977, ob_lf, [], ob_Bf) := by
    intro t9 H locs cells slots arr hl hP hD h2 h3 h4 h5 hw h6 h7
    dsimp only at hl hP hD h3 h6 h7 ⊢
    rw [List.nil_append] at hl hP hD h3
    generalize hGf : ob_Gf D cA adK aV b s.heap.size t9 = Gf
    have hf := hfx t9
    rw [hGf] at hf
    have hbsf : ox_bs Gf = s.heap.size := by rw [← hGf]; rfl
    have eA : ox_A Gf = ox_A Gb := by rw [← hGf, ← hGb]; rfl
    have hcA : ox_cA Gb = cA := by rw [← hGb]; rfl
    have hD9 : ox_D Gb = D := by rw [← hGb]; rfl
    rw [hD9] at hP
    obtain ⟨w1, w2⟩ := ob_world (L := L) (xs := xs) (cA := cA) (adK := adK) (aV := aV) (b := b) (bs := s.heap.size) (ox_A Gb) hcA hP hD hl
    rw [hGf] at w1 w2
    have hCx : ox_Cx p l room_1 s m #[Value.ref b] meth c Gf 601024 7293034 7 code "OutlineryLaw" :=
      ⟨hx, hb, hml, hown, hg, hf, hlk, hst, ⟨by decide, by decide, Nat.le_refl _, Nat.le_refl _⟩, fun q hq => by show ox_bs Gf ≤ q; rw [hbsf]; exact hq⟩
    have hbf : ox_ad Gf (122, 0, 0) = b := by rw [← hGf]; rfl
    have hWd : ox_Wd Gf 0 (ox_H0 L xs) s H := by
      refine ⟨by rw [show ox_D Gf = D by rw [← hGf]; rfl]; exact w1, by rw [eA]; exact w2, ox_H0_sok L hL xs, ?_⟩
      rw [hbf]
      have e1 : (ox_H0 L xs 22 0 1 0).toNat = L := rfl
      have e2 : (fun j => Int32.ofInt (ox_H0 L xs 22 0 0 j)) = xs := funext fun j => Int32.ofInt_toInt _
      rw [e1, e2]
      exact hX.kept (h2.2.1 b hbl (fun q : ox_bs Gb ≤ b => by rw [hbsb] at q; omega))
    have mvr : ∀ r : Nat × Nat × Nat, r.1 < 122 → ox_mv Gf (.inr (.inr r)) = ox_mv (ob_G Gb t9) (ob_r (ob_ix r)) := by
      intro r h9
      rw [ob_mvr, ← hGf]
      show Value.ref _ = Value.ref _
      rw [ob_Gf_ad h9]
    have hlr : ox_lr Gf [.inr (.inr (122, 0, 0)), .inr (.inr (0, 0, 0)), .inr (.inr (10, 0, 0)), .inr (.inr (121, 0, 0)), .inl 0, ox_d, ox_d] 7 arr := by
      refine ⟨h3.1, h3.2.1, fun i v hi hd => ?_⟩
      have hi7 : i < 7 := (List.getElem?_eq_some_iff.mp hi).1
      have z := fun (u : ox_V) (hu : ob_lf[i]? = some u) (hdu : ox_dm u = false) => h3.2.2 i u hu hdu
      match i, hi7 with
      | 0, _ =>
        cases hi
        rw [z (.inr (.inr (122, 0, 0))) rfl rfl]
        show some (Slot.val (Value.ref (if (122 : Nat) = 500 then t9.getD 0 0 else ox_ad Gb (122, 0, 0)))) = some (Slot.val (Value.ref (ox_ad Gf (122, 0, 0))))
        rw [if_neg (by decide), hb9, hbf]
      | 1, _ => cases hi; rw [z (ob_r 0) rfl rfl, mvr (0, 0, 0) (by decide)]; rfl
      | 2, _ => cases hi; rw [z (ob_r 105) rfl rfl, mvr (10, 0, 0) (by decide)]; rfl
      | 3, _ => cases hi; rw [z (ob_r 131) rfl rfl, mvr (121, 0, 0) (by decide)]; rfl
      | 4, _ => cases hi; exact z (.inl 0) rfl rfl
      | 5, _ => cases hi; cases hd
      | 6, _ => cases hi; cases hd
    have hTb : ox_Tb m_Law_law code c := by
      refine Or.inr ⟨rfl, c.exceptionTable.toList.map (fun z => (z.startPc, z.endPc, z.handlerPc, z.catchType)), ?_, fun pc e h x hm => by cases hm⟩
      unfold tableOf
      rw [List.map_map]
      exact (List.map_id _).symm
    have hrun := ox_run_ok (p := p) (l := l) (e := e) (R := room_1) (s := s) (m := m) (args := #[Value.ref b]) (below := below) (meth := meth) (c := c) (G0 := Gf) (mc := 601024) (ms := 7293034) (n := 7) (tl0 := 0) (cc := code) (own := "OutlineryLaw") (d := 1214) rfl rfl oz_law_Co hr (Or.inr (Or.inr (Or.inr (Or.inl ⟨rfl, rfl⟩)))) hTb ⟨by decide, by decide⟩ (ox_orc hst ox_E_all 1214) ox_E_all
      (fun h => absurd rfl h) (fun e e' h1 h2 h3 h4 h5 => hf.2.2.2.2.2.2.2.2.1 e e' h1 h2 h3 h4 h5) (fun e h1 h2 => va_Nw.use rfl (hf.2.2.2.2.2.2.2.1 e h1 h2)) N 23 450000 0 _ [] _ hN Gf ⟨hCx, Or.inl ⟨rfl, rfl⟩⟩ H locs cells slots arr hWd (by rw [eA]; exact h2) hlr
      (fun v hv => by
        have hmem : ∀ r : Nat × Nat × Nat, r ∈ ox_L0 → ox_ok 0 (.inr (.inr r)) := fun r hr => Or.inl hr
        rcases List.mem_cons.mp hv with rfl | hv
        · exact Or.inr (Or.inr (Or.inl rfl))
        rcases List.mem_cons.mp hv with rfl | hv
        · exact hmem _ (by decide +kernel)
        rcases List.mem_cons.mp hv with rfl | hv
        · exact hmem _ (by decide +kernel)
        rcases List.mem_cons.mp hv with rfl | hv
        · exact hmem _ (by decide +kernel)
        rcases List.mem_cons.mp hv with rfl | hv
        · exact ⟨by decide, by decide⟩
        rcases List.mem_cons.mp hv with rfl | hv
        · exact ox_ok_d
        rcases List.mem_cons.mp hv with rfl | hv
        · exact ox_ok_d
        · cases hv) (fun v hv => by cases hv) (by omega) (by omega)
    refine oz_mono hrun (fun t h => ?_)
    obtain ⟨o, q1, q2, q3⟩ := h
    rcases q3 with ⟨⟨ho, -⟩, L9, q4, q5⟩ | ⟨q, -, E, ce, L9, hx9, -⟩
    · subst ho
      exact ⟨L9, q1, q2, q4, fun z hz => by have := q5 z hz; have := show ox_bs Gf ≤ z.base from this; rw [hbsf] at this; exact this⟩
    · exact hx9.elim
  have hst9 := ob_to_ok hCb (dd := 3) (P := 23) (M := m_mk_L) (CC := ob_zz ob_ms 3) (ms := ob_ms) rfl rfl (fun _ => rfl) ob_Co_L ⟨by decide, by decide⟩ (ob_orc ob_E_all 3) ob_E_all k 100 ob_x0 ob_fin_eq
  have z := hst9 [] s.heap [] 0 0 ((lg_sl [Value.ref b] ++ List.replicate (7 - (lg_sl [Value.ref b]).length) Slot.unset).toArray)
  have hlr0 := ox_lr_entry (ob_G Gb []) (av := [.inr (.inr (122, 0, 0))]) (n := 7) (by decide)
  have ea : ([.inr (.inr (122, 0, 0))] : List ox_V).map (ox_mv (ob_G Gb [])) = [Value.ref b] := by
    show [Value.ref (if (122 : Nat) = 500 then ([] : List Nat).getD 0 0 else ox_ad Gb (122, 0, 0))] = _
    rw [if_neg (by decide), hb9]
  rw [ea] at hlr0
  exact z rfl (fun k q hq => by cases hq) ⟨(fun i j p q hp => by cases hp), (fun k q hq => by cases hq)⟩ ⟨Nat.le_refl _, (fun _ _ _ => rfl), (fun z hz => by cases hz)⟩ hlr0 (fun v hv => by
    rcases ox_in_mem _ _ _ hv with rfl | g
    · rfl
    · rw [List.mem_singleton.mp g]; rfl) (fun v hv => by cases hv) (fun x hx => by cases hx) (Nat.le_refl _) (Nat.le_refl _)
end OZ2
