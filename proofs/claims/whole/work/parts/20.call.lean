/-! ===== the contract of a method, and calls ===== -/
def ox_rm (d cost : Nat) : Room := { frames := d + 10, cells := cost, slots := 16 * cost, locals := 41 * d + 200 }
def ox_Pc (G : ox_G) (tl : Nat) (σ : ox_H) (av : List ox_V) : Array Value → State → Prop := fun a U => a = (av.map (ox_mv G)).toArray ∧ (∀ v ∈ av, ox_ok tl v) ∧ ox_Fx G U U.heap ∧ ox_Wd G tl σ U U.heap ∧ ox_bs G ≤ U.heap.size
def ox_Ct (l : Launch) (d : Nat) (y : MethodName) (cw : Jvm.Cond) (cost : Nat) (G : ox_G) (tl : Nat) (av : List ox_V) (σ : ox_H) (o : ox_O) : Prop :=
  vx_Met l y (cw :: ox_good) (ox_rm d cost) (ox_Pc G tl σ av) (ox_Qc G tl o) (ox_XC G tl o) cost (16 * cost) (ox_A G)
theorem ox_good_ok : ∀ w ∈ ox_good, (w.onTables && w.keeps) = true ∨ ∃ ty, w = .arrayClass ty := fun w hw => good_of_word (List.mem_filter.mp hw).2
theorem ox_Fy_to {G : ox_G} {s U : State} {H : Heap} {locs : List Loc} (hW : s.WarmedH U.vm) (hS : va_S (ox_A G) s.heap H locs) (h : ox_Fy G s s.heap) : ox_Fy G U H :=
  ⟨fun e h1 h2 => va_Nw.warmC hW (h.1 e h1 h2), fun e e' h1 h2 h3 h4 h5 => (h.2.1 e e' h1 h2 h3 h4 h5).moved hW.alike, va_Z.moved hW.alike (h.2.2.1.kept hS.2.1), va_Zq.moved hW.alike (h.2.2.2.kept hS.2.1)⟩
theorem ox_Fx_to {G : ox_G} {s U : State} {H : Heap} {locs : List Loc} (hW : s.WarmedH U.vm) (hS : va_S (ox_A G) s.heap H locs) (h : ox_Fx G s s.heap) : ox_Fx G U H := by
  obtain ⟨f1, f2, f3, f4, f5, f6, f7, f8⟩ := h
  refine ⟨f1.moved hW.alike, vk_S.moved hW.alike (f2.kept hS.2.1), fun own k tx hm => ?_, vx_Zq.moved hW.alike (f4.kept hS.2.1), vx_Zq.moved hW.alike (f5.kept hS.2.1), fun w hw => ?_, f7, ox_Fy_to hW hS f8⟩
  · obtain ⟨a, ha, hi⟩ := f3 own k tx hm
    exact ⟨a, vk_R.warm hW ha, hi⟩
  · have hz := f6 w hw
    have h2 := (List.mem_filter.mp hw).2
    cases w <;> first | exact va_Nw.warmF hW hz | exact va_Nw.warmM hW hz | exact va_Nw.warmC hW hz | exact va_Nw.warmD hW hz | cases h2
theorem ox_Fx_calling {G : ox_G} {U : State} {g : JFrame} {mk : MethodId} {a : Array Value} (h : ox_Fx G U U.heap) : ox_Fx G (U.calling g mk a) (U.calling g mk a).heap := by
  obtain ⟨f1, f2, f3, f4, f5, f6, f7, f8⟩ := h
  have hv : U.vm.Alike (U.calling g mk a).vm := Vm.Alike.refl U.vm
  refine ⟨f1.moved hv, vk_S.moved hv f2, fun own k tx hm => ?_, vx_Zq.moved hv f4, vx_Zq.moved hv f5, fun w hw => va_Nw.same (u := U) (ox_nest_ot hw) rfl (f6 w hw), f7, fun e h1 h2 => va_Nw.same (u := U) rfl rfl (f8.1 e h1 h2), fun e e' h1 h2 h3 h4 h5 => (f8.2.1 e e' h1 h2 h3 h4 h5).moved hv, va_Z.moved hv f8.2.2.1, va_Zq.moved hv f8.2.2.2⟩
  obtain ⟨b, hb, hi⟩ := f3 own k tx hm
  exact ⟨b, vk_R.same rfl hb, hi⟩
theorem ox_blind {G : ox_G} {tl : Nat} {σ : ox_H} {av : List ox_V} : FrameBlind (ox_Pc G tl σ av) := fun a U g mk h => ⟨h.1, h.2.1, ox_Fx_calling h.2.2.1, ox_Wd_moved (u := U) (U := U.calling g mk a) (Vm.Alike.refl U.vm) h.2.2.2.1, h.2.2.2.2⟩
section OX20
variable {p : Program} {l : Launch} {e : Env} {R : Room} {s : State} {m : MethodId} {args : Array Value} {below : List Frame} {meth : Method} {c : Code}
variable {G G0 : ox_G} {mc ms n tl0 : Nat} {Q : State → Prop} {cc : ByteArray} {own : String} {pc b tl : Nat} {ls st : List ox_V} {σ : ox_H} {o : ox_O}
theorem ox_Pc_at {H : Heap} {locs : List Loc} (C : ox_Cx p l R s m args meth c G mc ms n cc own) (h1 : ox_Wd G tl σ s H) (h2 : va_S (ox_A G) s.heap H locs) {av : List ox_V} (hv : ∀ v ∈ av, ox_ok tl v) : ∀ U : State, U.heap = H → s.WarmedH U.vm → ox_Pc G tl σ av (av.map (ox_mv G)).toArray U := by
  intro U hU hW
  subst hU
  exact ⟨rfl, hv, ox_Fx_to hW h2 C.2.2.2.2.2.1, ox_Wd_moved hW.alike h1, Nat.le_trans (ox_bs_le C) h2.1⟩
theorem ox_ws_pay (C : ox_Cx p l R s m args meth c G mc ms n cc own) {cw : Jvm.Cond} (hcw : cw ∈ ox_good) : ∀ w ∈ cw :: ox_good, ∀ (a' : Array Value) (U : State), s.WarmedH U.vm → w.before a' U = true := by
  intro w hw a' U hW
  have hw : w ∈ ox_good := by
    rcases List.mem_cons.mp hw with rfl | hw
    · exact hcw
    · exact hw
  exact word_at hW (ox_good_ok w hw) (C.2.2.2.2.1 w hw)
/-- where a call that returned goes on -/
theorem ox_back_ret {cost d : Nat} {av rest : List ox_V} {σ' : ox_H} {r : Option ox_V} {H : Heap} {locs : List Loc} {cells slots : Nat} {arr : Array Slot} {st0 : List Value} {a : Array Value} (C : ox_Cx p l R s m args meth c G mc ms n cc own) (h2 : va_S (ox_A G) s.heap H locs)
    (hr : va_Run p l e R s m args below meth c H locs cells slots cost (16 * cost) (F0 m pc arr st0) (rest.map (ox_mv G)) (ox_Qc G tl (.inl r, σ') a) (ox_A G))
    (kk : ∀ (H1 : Heap) (locs1 : List Loc), (∀ v, r = some v → ox_ok tl v) → ox_Wd G tl σ' s H1 → va_S (ox_A G) s.heap H1 locs1 → W p l e R s m args below meth c H1 locs1 (cells + cost) (slots + 16 * cost) Q (F0 m (pc + 3) arr ((r.map (ox_mv G)).toList ++ rest.map (ox_mv G)))) : W p l e R s m args below meth c H locs cells slots Q (F0 m pc arr st0) := by
  intro T hT X
  obtain ⟨v, st₀, t, T', L, h0, X', hL, e1, e2, ⟨hv, hWd, hF, hok⟩, st⟩ := hr T hT X
  cases hv
  obtain ⟨k1, k2, k3⟩ := vx_keep h0 e1 h2 (fun _ _ h => h) (fun _ h => h) hL hF
  have hWd2 : ox_Wd G tl σ' s T'.heap := by
    rw [e1]
    exact ox_Wd_moved (show t.vm.Alike s.vm by rw [← e2]; exact X'.warmed.alike.symm) hWd
  obtain ⟨t2, a1, b1⟩ := kk T'.heap (locs ++ L) hok hWd2 k3 T' rfl X'
  exact ⟨t2, st t2 a1, b1⟩
theorem ox_met_of {d cost : Nat} {y : MethodName} {cw : Jvm.Cond} {av : List ox_V} {σ' : ox_H} {r : Option ox_V} (h : ox_Ct l d y cw cost G tl av σ (.inl r, σ')) : Met l y (cw :: ox_good) (ox_rm d cost) (ox_Pc G tl σ av) (ox_Qc G tl (.inl r, σ')) cost (16 * cost) (ox_A G) := by
  refine MetFree.mono h (fun _ _ h => h) (fun _ _ _ _ _ h => h) ?_
  intro a st o t _ hq
  rcases hq with hq | ⟨q, -, hT⟩
  · exact hq
  · obtain ⟨E, ce, L, hX, -⟩ := hT
    exact hX.elim
end OX20
