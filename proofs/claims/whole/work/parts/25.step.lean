/-! ===== a step of the whole machine for each step over whole numbers ===== -/
theorem ox_bin_inv {f : Int → Int → Int} {st : List ox_V} {k : List ox_V → Option ox_O} {o : ox_O} (h : ox_bin f st k = some o) : ∃ y x r, st = .inl y :: .inl x :: r ∧ k (.inl (f x y) :: r) = some o := by
  rcases st with _ | ⟨y | y | y, _ | ⟨x | x | x, r⟩⟩ <;> first | exact ⟨_, _, _, rfl, h⟩ | cases h
theorem ox_binl_inv {f : Int → Int → Int} {st : List ox_V} {k : List ox_V → Option ox_O} {o : ox_O} (h : ox_binl f st k = some o) : ∃ y x r, st = .inr (.inl y) :: .inr (.inl x) :: r ∧ k (.inr (.inl (f x y)) :: r) = some o := by
  rcases st with _ | ⟨y | y | y, _ | ⟨x | x | x, r⟩⟩ <;> first | exact ⟨_, _, _, rfl, h⟩ | cases h
theorem ox_if_inv {P : Prop} [Decidable P] {α : Type} {x : Option α} {o : α} (h : (if P then x else none) = some o) : P ∧ x = some o := by
  by_cases hp : P
  · rw [if_pos hp] at h; exact ⟨hp, h⟩
  · rw [if_neg hp] at h; cases h
theorem ox_ifn_inv {P : Prop} [Decidable P] {α : Type} {x : Option α} {o : α} (h : (if P then none else x) = some o) : ¬ P ∧ x = some o := by
  by_cases hp : P
  · rw [if_pos hp] at h; cases h
  · rw [if_neg hp] at h; exact ⟨hp, h⟩
theorem ox_lr_setx {G : ox_G} {ls : List ox_V} {n i : Nat} {arr' : Array Slot} {w : Value} (h' : lv_has arr' n ((i, w) :: (ox_ll G ls).filter (fun q => !(q.1 == i) && !(q.1 + 1 == i && q.2.category == 2)))) : ox_lr G (ox_set ls i ox_d) n arr' := by
  refine ⟨h'.1, h'.2.1, fun j u hj hd => ?_⟩
  rcases ox_set_at ls i ox_d u j hj with ⟨rfl, rfl⟩ | ⟨h1, rfl⟩ | ⟨h1, h2, h3⟩
  · cases hd
  · cases hd
  · refine h'.2.2 (j, ox_mv G u) (List.mem_cons_of_mem _ (List.mem_filter.mpr ⟨ox_ll_mem.mpr ⟨u, h2, hd, rfl⟩, ?_⟩))
    show (!(j == i) && !(j + 1 == i && (ox_mv G u).category == 2)) = true
    rw [ox_cat]
    have e1 : (j == i) = false := by simpa using h1
    rw [e1]
    cases hz : ox_2 u with
    | false => simp
    | true =>
      have : ¬ j + 1 = i := fun q => h3 ⟨q, hz⟩
      simp [this]
section OX24
variable {p : Program} {l : Launch} {e : Env} {R : Room} {s : State} {m : MethodId} {args : Array Value} {below : List Frame} {meth : Method} {c : Code}
variable {G G0 : ox_G} {mc ms n tl0 : Nat} {Q : State → Prop} {cc : ByteArray} {own : String} {pc b tl : Nat} {ls st : List ox_V} {σ : ox_H} {o : ox_O}
theorem ox_left {cost : Nat} {σ' : ox_H} {r : Option ox_V} {H : Heap} {locs : List Loc} {cells slots : Nat} {g : JFrame} {rest : List Value} {a : Array Value} (hr : vx_Run p l e R s m args below meth c H locs cells slots cost (16 * cost) g rest (ox_Qc G tl (.inl r, σ') a) (ox_XC G tl (.inl r, σ')) (ox_A G)) :
    va_Run p l e R s m args below meth c H locs cells slots cost (16 * cost) g rest (ox_Qc G tl (.inl r, σ') a) (ox_A G) := by
  intro T hT X
  rcases hr T hT X with h | ⟨q, st₀, t, T', L, E, ce, h0, X', hL, e1, e2, hx, -⟩
  · exact h
  · exact False.elim hx
/-- where a call that threw goes on -/
theorem ox_back_thr {cost e' : Nat} {rest : List ox_V} {σ' : ox_H} {H : Heap} {locs : List Loc} {cells slots : Nat} {arr : Array Slot} {st0 : List Value} {a : Array Value} (h2 : va_S (ox_A G) s.heap H locs)
    (hr : vx_Run p l e R s m args below meth c H locs cells slots cost (16 * cost) (F0 m pc arr st0) (rest.map (ox_mv G)) (ox_Qc G tl (.inr e', σ') a) (ox_XC G tl (.inr e', σ')) (ox_A G))
    (kx : ∀ (H1 : Heap) (locs1 : List Loc) (q9 : Addr) (ce : Cell), ox_Wd G tl σ' s H1 → va_S (ox_A G) s.heap H1 locs1 → H1[q9]? = some ce → ce.vm = .none → s.vm.findClass (ox_xn e') = some ce.cls → vx_W p l e R s m args below meth c H1 locs1 (cells + cost) (slots + 16 * cost) Q (F0 m pc arr (rest.map (ox_mv G))) q9) : W p l e R s m args below meth c H locs cells slots Q (F0 m pc arr st0) := by
  intro T hT X
  rcases hr T hT X with ⟨v, st₀, t, T', L, h0, X', hL, e1, e2, hq, st⟩ | ⟨q, st₀, t, T', L, E, ce, h0, X', hL, e1, e2, ⟨hE, hWd, hF⟩, hce, hcv, hcl, st⟩
  · exact False.elim hq
  · subst hE
    obtain ⟨k1, k2, k3⟩ := vx_keep h0 e1 h2 (fun _ _ h => h) (fun _ h => h) hL hF
    have hWd2 : ox_Wd G tl σ' s T'.heap := by
      rw [e1]
      exact ox_Wd_moved (show t.vm.Alike s.vm by rw [← e2]; exact X'.warmed.alike.symm) hWd
    obtain ⟨t2, a1, b1⟩ := kx T'.heap (locs ++ L) q ce hWd2 k3 (by rw [e1]; exact hce) hcv hcl T' rfl X'
    exact ⟨t2, st.trans a1, b1⟩
theorem ox_call_run (C : ox_Cx p l R s m args meth c G mc ms n cc own) {d k y nn w nest : Nat} {M' : ox_M} {virt : Bool} {oi : ox_O} (hR : d + 11 ≤ R.frames ∧ 41 * d + 241 ≤ R.locals) (hE : ox_Eo y M') (hM : ∀ cw, tables_1[ox_cwi y]? = some cw → ox_Ct l d (ox_yn y) cw M'.2.2.2.1 G tl (st.take nn).reverse σ oi)
    (hn : nn = ox_np y + (if virt then 1 else 0)) (hsf : virt = !ox_sf y) (hvt : virt = true → M'.1 < 11) (hnst : nest ≠ 0 → M'.1 < 11) (hw : tables_1[w]? = some (if nest = 0 then .methodLink own k (ox_yn y) else .methodLinkNest own k (ox_yn y) "Outlinery"))
    (hrc : virt = true → ∃ k1 j1 r, (st.take nn).reverse = .inr (.inr (M'.1, k1, j1)) :: r) (hlen : nn ≤ st.length) (h8 : ox_sc (st.drop nn) ≤ 8) (hd : decode cc pc = .ok (if virt then .invokevirtual k else .invokestatic k, 3))
    {H : Heap} {locs : List Loc} {cells slots : Nat} {arr : Array Slot} (h1 : ox_Wd G tl σ s H) (h2 : va_S (ox_A G) s.heap H locs) (h3 : ox_lr G ls n arr) (h5 : ∀ v ∈ st, ox_ok tl v) (h6 : cells + M'.2.2.2.1 ≤ mc) (h7 : slots + 16 * M'.2.2.2.1 ≤ ms) :
    (nest = 0 → vx_Run p l e R s m args below meth c H locs cells slots M'.2.2.2.1 (16 * M'.2.2.2.1) (F0 m pc arr (st.map (ox_mv G))) ((st.drop nn).map (ox_mv G)) (ox_Qc G tl oi (((st.take nn).reverse.map (ox_mv G)).toArray)) (ox_XC G tl oi) (ox_A G)) ∧
    (nest ≠ 0 → ∀ r σ', oi = (.inl r, σ') → va_Run p l e R s m args below meth c H locs cells slots M'.2.2.2.1 (16 * M'.2.2.2.1) (F0 m pc arr (st.map (ox_mv G))) ((st.drop nn).map (ox_mv G)) (ox_Qc G tl oi (((st.take nn).reverse.map (ox_mv G)).toArray)) (ox_A G)) := by
  obtain ⟨cw, bytes, ret, hh, e1, e2, e3, e4, e5, e6, e7, e8, e9, e10, e11, e12, e13⟩ := hE
  have hM := hM cw e1
  have hlk0 : nest = 0 → Jvm.Cond.methodLink own k (ox_yn y) ∈ ox_good := fun h => by rw [if_pos h] at hw; exact ox_in_good (ox_mem_at hw) rfl
  have hlk1 : nest ≠ 0 → (Jvm.Cond.methodLinkNest own k (ox_yn y) "Outlinery").before args s = true := fun h => by
    rw [if_neg h] at hw
    exact ox_hw C (ox_mem_at hw) (by rw [Bool.or_eq_true]; exact Or.inr (decide_eq_true (List.mem_filter.mpr ⟨ox_mem_at hw, rfl⟩)))
  cases virt with
  | true =>
    have hs : ox_sf y = false := by simpa using hsf.symm
    rw [if_neg (by rw [hs]; simp)] at e12
    obtain ⟨k1, j1, av, hav⟩ := hrc rfl
    have hl : av.length = ox_np y := by
      have := congrArg List.length hav
      rw [List.length_reverse, List.length_take, List.length_cons] at this
      simp at hn
      omega
    rcases e3 with ⟨-, rfl⟩ | ⟨q, -⟩
    · rw [hav] at hM ⊢
      refine ⟨fun h0 => ox_c_V C hR ⟨e2, e7, e9, e10, e11⟩ (hlk0 h0) e12.1 (C.2.2.2.2.1 _ e12.2) (hvt rfl) hM hd hav hl h8 h1 h2 h3 h5 h6 h7, fun h0 r σ' ho => ?_⟩
      subst ho
      exact ox_c_VN C hR ⟨e2, e7, e9, e10, e11⟩ (hlk1 h0) e12.1 (C.2.2.2.2.1 _ e12.2) (hvt rfl) hM hd hav hl h8 h1 h2 h3 h5 h6 h7
    · have := hvt rfl
      omega
  | false =>
    have hs : ox_sf y = true := by simpa using hsf.symm
    rw [if_pos hs] at e12
    have hl : (st.take nn).reverse.length = ox_np y := by
      rw [List.length_reverse, List.length_take]
      simp at hn
      omega
    rcases e3 with ⟨-, rfl⟩ | ⟨q, rfl, -⟩
    · refine ⟨fun h0 => ox_c_S C hR ⟨e2, e7, e9, e10, e11⟩ (hlk0 h0) e12 hM hd rfl hl h8 h1 h2 h3 h5 h6 h7, fun h0 r σ' ho => ?_⟩
      subst ho
      exact ox_c_SN C hR ⟨e2, e7, e9, e10, e11⟩ (hlk1 h0) e12 hM hd rfl hl h8 h1 h2 h3 h5 h6 h7
    · exact ⟨fun h0 => ox_c_SX C hR ⟨e2, e7, e9, e10, e11⟩ (hlk0 h0) e12 hM hd rfl hl h8 h1 h2 h3 h5 h6 h7, fun h0 => absurd (hnst h0) (by omega)⟩
end OX24
section OX25
variable {p : Program} {l : Launch} {e : Env} {R : Room} {s : State} {m : MethodId} {args : Array Value} {below : List Frame} {meth : Method} {c : Code}
variable {G0 : ox_G} {mc ms n tl0 : Nat} {cc : ByteArray} {own : String} {o : ox_O}
/-- where the walk stands: the fixed facts, and the launch's numbers as they are -/
def ox_Cp (p : Program) (l : Launch) (R : Room) (s : State) (m : MethodId) (args : Array Value) (meth : Method) (c : Code) (G0 : ox_G) (tl0 mc ms n : Nat) (cc : ByteArray) (own : String) (G : ox_G) (tl : Nat) : Prop := ox_Cx p l R s m args meth c G mc ms n cc own ∧ ox_Gt G0 tl0 G tl
/-- what is known of the callees -/
def ox_Or (l : Launch) (d : Nat) (orc : ox_C) : Prop := ∀ y tl av σ o, orc y tl av σ = some o → ∀ M, ox_ms y = some M → ∀ cw, tables_1[ox_cwi y]? = some cw → ∀ G, ox_Ct l d (ox_yn y) cw M.2.2.2.1 G tl av σ o
/-- the method's own table -/
def ox_Tb (M : ox_M) (cc : ByteArray) (c : Code) : Prop := (M.1 ≠ 11 ∧ ∀ x ∈ c.exceptionTable.toList, False) ∨ (M.1 = 11 ∧ ∃ hh, c.exceptionTable.toList = tableOf hh ∧ ox_Ho M cc hh)
/-- a thrown thing is caught here, or goes out -/
theorem ox_after_thr {K : ox_K} {M : ox_M} {pc b cost Mc tl rf e' : Nat} {ls rest : List ox_V} {σ' : ox_H} (hn : n = M.2.2.2.2.1) (hown : own = ox_cn M.1) (hT : ox_Tb M cc c) (hnh : M.1 ≠ 11 → ∀ pc e, M.2.2.2.2.2.2 pc e = none) (hnc : ∀ e e', 1 ≤ e → e < 4 → 1 ≤ e' → e' < 4 → e' ≠ e → va_Nc (ox_xn e) (ox_xn e') s) (hcs : ∀ e, 1 ≤ e → e < 4 → (Jvm.Cond.castable (ox_xn e) (ox_xn e)).before args s = true)
    (hK : ∀ pc b tl ls st σ, K pc b tl ls st σ = some o → ∀ G, ox_Cp p l R s m args meth c G0 tl0 mc ms n cc own G tl → ox_S9 p l e R s m args below meth c G mc ms n (vx_MQ below (ox_Qc G0 tl0 o) (ox_XC G0 tl0 o) args s mc ms (ox_A G0)) pc b tl ls st σ)
    (h : ox_back M pc rf rest (some (.inr e', σ')) (fun pc' x' st' σ' => K pc' (b - cost) tl (ox_xl x' ls) st' σ') = some o) {G : ox_G} (hG : ox_Cp p l R s m args meth c G0 tl0 mc ms n cc own G tl) (hb : Mc ≤ cost) (hb2 : cost ≤ b)
    {H : Heap} {locs : List Loc} {cells slots : Nat} {arr : Array Slot} (h2 : va_S (ox_A G) s.heap H locs) (h3 : ox_lr G ls n arr) (h4 : ∀ v ∈ ls, ox_ok tl v) (h6 : cells + b ≤ mc) (h7 : slots + 16 * b ≤ ms) {st0 : List Value} {a : Array Value}
    (hr : vx_Run p l e R s m args below meth c H locs cells slots Mc (16 * Mc) (F0 m pc arr st0) (rest.map (ox_mv G)) (ox_Qc G tl (.inr e', σ') a) (ox_XC G tl (.inr e', σ')) (ox_A G)) :
    W p l e R s m args below meth c H locs cells slots (vx_MQ below (ox_Qc G0 tl0 o) (ox_XC G0 tl0 o) args s mc ms (ox_A G0)) (F0 m pc arr st0) := by
  have C := hG.1
  refine ox_back_thr h2 hr (fun H1 locs1 q9 ce hWd hS hce hcv hcl => ?_)
  unfold ox_back at h
  obtain ⟨-, h⟩ := ox_ifn_inv h
  cases hm : M.2.2.2.2.2.2 pc e' with
  | none =>
    rw [hm] at h
    obtain ⟨h11, h⟩ := ox_ifn_inv h
    cases h
    have hT' : ∀ x ∈ c.exceptionTable.toList, False := by
      rcases hT with ⟨-, q⟩ | ⟨q, -⟩
      · exact q
      · exact absurd q h11
    refine vx_out (fun x hx => (hT' x hx).elim) C.2.2.2.2.2.2.1 hce hcv hcl (fun t ht hA => ?_) (fun z hz => ?_) (by omega) (by omega)
    · refine ⟨rfl, ?_, ?_⟩
      · rw [ht]; exact ox_Wd_moved hA (ox_Gt_Wd hG.2 hWd)
      · rw [← ox_Gt_A hG.2]; exact hS.F ht
    · rw [← ox_Gt_A hG.2]; exact hS.2.2 z hz
  | some hp =>
    obtain ⟨hp, x⟩ := hp
    rw [hm] at h
    have h11 : M.1 = 11 := Classical.byContradiction fun q => by rw [hnh q pc e'] at hm; cases hm
    rcases hT with ⟨q, -⟩ | ⟨-, hh, hct, hHo⟩
    · exact absurd h11 q
    obtain ⟨b1, b2, b3, pre, z, suf, hsp, hpre, hcov, hz0, hlk, hdec⟩ := hHo pc e' hp x hm
    have hown' : s.vm.findClass "OutlineryLaw" = some m.cls := by
      have := C.2.2.2.1
      rw [hown, h11] at this
      exact this
    subst hn
    have fin : ∀ arr', ox_lr G (ox_set ls x ox_d) M.2.2.2.2.1 arr' → W p l e R s m args below meth c H1 locs1 (cells + Mc) (slots + 16 * Mc) (vx_MQ below (ox_Qc G0 tl0 o) (ox_XC G0 tl0 o) args s mc ms (ox_A G0)) (F0 m hp arr' []) := fun arr' h' =>
      hK _ _ _ _ _ _ h G hG H1 locs1 (cells + Mc) (slots + 16 * Mc) arr' hWd hS h' (ox_ok_set h4 ox_ok_d) (fun v hv => by cases hv) (by omega) (by omega)
    refine vx_catch hown' pre z suf (by rw [hct]; exact hsp) (fun w hw => Or.inr ?_) hcov hz0 (C.2.2.2.2.1 _ hlk) (hcs _ b1 b2) hce hcv hcl ?_
    · obtain ⟨w0, e2, a1, a2, a3, a4⟩ := hpre w hw
      exact ⟨w0, ox_xn e2, C.2.2.2.2.1 _ a4, hnc e' e2 b1 b2 a1 a2 a3⟩
    · rcases hdec with ⟨hd, rfl⟩ | ⟨x4, rfl, hd, rfl⟩
      · exact lv_astore C.1 C.2.1 hd (ox_ll_of h3) b3 rfl (fun arr' h' => fin arr' (ox_lr_setx (w := .ref q9) h'))
      · exact lv_astore_n C.1 C.2.1 hd rfl (ox_ll_of h3) b3 rfl (fun arr' h' => fin arr' (ox_lr_setx (w := .ref q9) h'))
theorem ox_step_call {K : ox_K} {orc : ox_C} {d : Nat} {M : ox_M} {pc b tl : Nat} {ls st : List ox_V} {σ : ox_H} {k : Nat} {f : List Nat} {virt : Bool} (hn : n = M.2.2.2.2.1) (hown : own = ox_cn M.1) (hT : ox_Tb M cc c) (hR : d + 11 ≤ R.frames ∧ 41 * d + 241 ≤ R.locals) (hO : ox_Or l d orc) (hE : ∀ y M, ox_ms y = some M → ox_Eo y M)
    (hnh : M.1 ≠ 11 → ∀ pc e, M.2.2.2.2.2.2 pc e = none) (hnc : ∀ e e', 1 ≤ e → e < 4 → 1 ≤ e' → e' < 4 → e' ≠ e → va_Nc (ox_xn e) (ox_xn e') s) (hcs : ∀ e, 1 ≤ e → e < 4 → (Jvm.Cond.castable (ox_xn e) (ox_xn e)).before args s = true)
    (hK : ∀ pc b tl ls st σ, K pc b tl ls st σ = some o → ∀ G, ox_Cp p l R s m args meth c G0 tl0 mc ms n cc own G tl → ox_S9 p l e R s m args below meth c G mc ms n (vx_MQ below (ox_Qc G0 tl0 o) (ox_XC G0 tl0 o) args s mc ms (ox_A G0)) pc b tl ls st σ)
    (hc : ox_cab (ox_cn M.1) k virt f = true) (hd : decode cc pc = .ok (if virt then .invokevirtual k else .invokestatic k, 3)) (h : ox_call M orc K pc b tl ls st σ f = some o) {G : ox_G} (hG : ox_Cp p l R s m args meth c G0 tl0 mc ms n cc own G tl) : ox_S9 p l e R s m args below meth c G mc ms n (vx_MQ below (ox_Qc G0 tl0 o) (ox_XC G0 tl0 o) args s mc ms (ox_A G0)) pc b tl ls st σ := by
  have C := hG.1
  rcases f with _ | ⟨z, f⟩
  · cases hc
  rcases f with _ | ⟨w, f⟩
  · cases hc
  rcases f with _ | ⟨nn, f⟩
  · have hc : (decide (1 ≤ z ∧ z ≤ 6) && decide (tables_1[w]? = some (.methodLink (ox_cn M.1) k (ox_jn z))) && (virt == decide (5 ≤ z))) = true := hc
    rw [Bool.and_eq_true, Bool.and_eq_true, ← hown] at hc
    obtain ⟨⟨c1, c2⟩, c3⟩ := hc
    have c1 := of_decide_eq_true c1
    have hl := ox_hg C (ox_mem_at (of_decide_eq_true c2)) rfl
    obtain rfl : virt = decide (5 ≤ z) := eq_of_beq c3
    have hz : z = 1 ∨ z = 2 ∨ z = 3 ∨ z = 4 ∨ z = 5 ∨ z = 6 := by omega
    rcases hz with rfl | rfl | rfl | rfl | rfl | rfl
    · obtain ⟨h9, h⟩ := ox_if_inv (show (if ox_sc st ≤ 20 then ox_bin (fun x y => if x < y then y else x) st (fun st => K (pc + 3) b tl ls st σ) else none) = some o from h)
      obtain ⟨y, x, r, rfl, h⟩ := ox_bin_inv h
      exact ox_r_max C hl h9 hd (hK _ _ _ _ _ _ h G hG)
    · obtain ⟨h9, h⟩ := ox_if_inv (show (if ox_sc st ≤ 20 then ox_bin (fun x y => if y < x then y else x) st (fun st => K (pc + 3) b tl ls st σ) else none) = some o from h)
      obtain ⟨y, x, r, rfl, h⟩ := ox_bin_inv h
      exact ox_r_min C hl h9 hd (hK _ _ _ _ _ _ h G hG)
    · unfold ox_call at h
      obtain ⟨h9, h⟩ := ox_if_inv h
      rcases st with _ | ⟨y | y | y, st⟩ <;> try (cases h; done)
      exact ox_r_abs C hl h9 hd (hK _ _ _ _ _ _ h G hG)
    · exact ox_r_acp C hl hd (show ox_acp σ st (fun st σ => K (pc + 3) b tl ls st σ) = some o from h) (fun st' σ' h => hK _ _ _ _ _ _ h G hG)
    · unfold ox_call at h
      obtain ⟨h9, h⟩ := ox_ifn_inv h
      split at h
      · exact ox_r_slen C hl h9 hd (hK _ _ _ _ _ _ h G hG)
      · cases h
    · unfold ox_call at h
      obtain ⟨h9, h⟩ := ox_ifn_inv h
      split at h
      · obtain ⟨h8, h⟩ := ox_if_inv h
        exact ox_r_schar C hl h9 h8 hd (hK _ _ _ _ _ _ h G hG)
      · cases h
  rcases z with _ | z
  rotate_left
  · rcases f with _ | ⟨_, _ | ⟨_, _ | ⟨_, _ | ⟨_, _ | ⟨_, _⟩⟩⟩⟩⟩ <;> cases hc
  rcases f with _ | ⟨cost, _ | ⟨rc, _ | ⟨rf, _ | ⟨nest, _ | ⟨w2, fr⟩⟩⟩⟩⟩ <;> try (cases hc; done)
  have hc : (match ox_ms w with
    | none => false
    | some M2 => decide (M2.2.2.2.1 ≤ cost) && nn == ox_np w + (if virt then 1 else 0) && rc == (if virt then M2.1 + 1 else 0) && (virt == !ox_sf w) && decide (M2.1 < 12) && (!virt || decide (M2.1 < 11)) && (nest == 0 || decide (2 ≤ rf)) && (nest == 0 || decide (M2.1 < 11)) && (!(M2.1 == 11) || !virt) &&
      decide (tables_1[w2]? = some (if nest = 0 then .methodLink (ox_cn M.1) k (ox_yn w) else .methodLinkNest (ox_cn M.1) k (ox_yn w) "Outlinery"))) = true := hc
  cases hy : ox_ms w with
  | none => rw [hy] at hc; cases hc
  | some M2 =>
  rw [hy] at hc
  simp only [Bool.and_eq_true, beq_iff_eq, decide_eq_true_eq, Bool.or_eq_true, Bool.not_eq_true'] at hc
  obtain ⟨⟨⟨⟨⟨⟨⟨⟨⟨c1, c2⟩, c3⟩, c4⟩, c5⟩, c6⟩, c7⟩, c8⟩, -⟩, c10⟩ := hc
  rw [← hown] at c10
  unfold ox_call at h
  obtain ⟨⟨g1, g2, g3⟩, h⟩ := ox_if_inv h
  obtain ⟨g4, h⟩ := ox_if_inv h
  have hrc : virt = true → ∃ k1 j1 r, (st.take nn).reverse = .inr (.inr (M2.1, k1, j1)) :: r := by
    intro hv
    subst hv
    obtain rfl : rc = M2.1 + 1 := c3
    rcases hh : (st.take nn).reverse with _ | ⟨v | v | ⟨t, k1, j1⟩, r⟩ <;> rw [hh] at g3
    · cases g3
    · cases g3
    · cases g3
    · exact ⟨k1, j1, r, by rw [eq_of_beq (show (t == M2.1) = true from g3)]⟩
  cases ho : orc w tl (st.take nn).reverse σ with
  | none => rw [ho] at h; cases h
  | some oi =>
  rw [ho] at h
  intro H locs cells slots arr h1 h2 h3 h4 h5 h6 h7
  have q6 : cells + M2.2.2.2.1 ≤ mc := by omega
  have q7 : slots + 16 * M2.2.2.2.1 ≤ ms := by omega
  have hrun := ox_call_run (e := e) (below := below) (ls := ls) (w := w2) (nest := nest) C hR (hE w M2 hy) (fun cw hcw => hO w tl _ σ oi ho M2 hy cw hcw G) c2 c4 (fun hv => c6.elim (fun q => by rw [hv] at q; cases q) id) (fun q => c8.resolve_left q) c10 hrc g1 g2 hd h1 h2 h3 h5 q6 q7
  obtain ⟨oc, σ'⟩ := oi
  rcases oc with r | e'
  · have hva := fun q => if h0 : nest = 0 then ox_left (hrun.1 h0) else hrun.2 h0 r σ' q
    refine ox_back_ret (av := []) (d := d) C h2 (hva rfl) (fun H1 locs1 hok hWd hS => ?_)
    unfold ox_back at h
    rcases r with _ | v
    · obtain ⟨-, h⟩ := ox_if_inv h
      exact hK _ _ _ _ _ _ h G hG H1 locs1 _ _ arr hWd hS h3 h4 (fun u hu => h5 u (List.mem_of_mem_drop hu)) (by omega) (by omega)
    · obtain ⟨-, h⟩ := ox_if_inv h
      exact hK _ _ _ _ _ _ h G hG H1 locs1 _ _ arr hWd hS h3 h4 (List.forall_mem_cons.mpr ⟨hok v rfl, fun u hu => h5 u (List.mem_of_mem_drop hu)⟩) (by omega) (by omega)
  · have h0 : nest = 0 := by
      rcases c7 with q | q
      · exact q
      · unfold ox_back at h
        exact absurd q (ox_ifn_inv h).1
    exact ox_after_thr hn hown hT hnh hnc hcs hK h hG c1 g4 h2 h3 h4 h6 h7 (hrun.1 h0)
theorem ox_step_new {M : ox_M} {pc b tl k ee : Nat} {ls : List ox_V} {σ : ox_H} {fr : List Nat} (hown : own = ox_cn M.1) (hCo : ox_Co M cc) (hT : ox_Tb M cc c) (hc : ox_thb M pc k (ee :: fr) = true) (hd : decode cc pc = .ok (.new k, 3))
    {G : ox_G} (hG : ox_Cp p l R s m args meth c G0 tl0 mc ms n cc own G tl) : ox_S9 p l e R s m args below meth c G mc ms n (vx_MQ below (ox_Qc G0 tl0 (.inr ee, σ)) (ox_XC G0 tl0 (.inr ee, σ)) args s mc ms (ox_A G0)) pc (b + 1) tl ls [] σ := by
  have hc : (decide (1 ≤ ee ∧ ee < 4) && k == ox_ik ee && M.1 == 0 && (match M.2.1 (pc + 3), M.2.1 (pc + 4) with
    | some (.dup, 1, _), some (.ldc i, 2, [2, 0, w]) => (match tables_1[w]? with | some (.stringRef own i2 _) => own == "Outlinery" && i2 == i | _ => false) && (match M.2.1 (pc + 6), M.2.1 (pc + 9) with | some (.invokespecial ic, 3, _), some (.athrow, 1, _) => ic == ox_ic ee | _, _ => false)
    | some (.dup, 1, _), some (.ldc_w i, 3, [2, 0, w]) => (match tables_1[w]? with | some (.stringRef own i2 _) => own == "Outlinery" && i2 == i | _ => false) && (match M.2.1 (pc + 7), M.2.1 (pc + 10) with | some (.invokespecial ic, 3, _), some (.athrow, 1, _) => ic == ox_ic ee | _, _ => false)
    | _, _ => false)) = true := hc
  rw [Bool.and_eq_true, Bool.and_eq_true, Bool.and_eq_true] at hc
  obtain ⟨⟨⟨h1, h2⟩, h3⟩, h4⟩ := hc
  have h1 := of_decide_eq_true h1
  obtain rfl : k = ox_ik ee := eq_of_beq h2
  have h3 : M.1 = 0 := eq_of_beq h3
  obtain rfl : own = "Outlinery" := by rw [hown, h3]; rfl
  have C := hG.1
  have hT' : ∀ x ∈ c.exceptionTable.toList, False := by
    rcases hT with ⟨-, q⟩ | ⟨q, -⟩
    · exact q
    · rw [h3] at q; cases q
  split at h4
  · rename_i fd i w hm3 hm4
    rw [Bool.and_eq_true] at h4
    obtain ⟨h5, h6⟩ := h4
    split at h5
    · rename_i ow i2 tx hw
      simp only [Bool.and_eq_true, beq_iff_eq] at h5
      obtain ⟨rfl, rfl⟩ := h5
      split at h6
      · rename_i ic f6 f9 hm6 hm9
        obtain rfl := eq_of_beq h6
        exact ox_r_throw (wide := false) C hG.2 h1 hT' (ox_mem_at hw) hd (hCo _ _ _ _ hm3).1 (hCo _ _ _ _ hm4).1 (hCo _ _ _ _ hm6).1 (hCo _ _ _ _ hm9).1
      · cases h6
    · cases h5
  · rename_i fd i w hm3 hm4
    rw [Bool.and_eq_true] at h4
    obtain ⟨h5, h6⟩ := h4
    split at h5
    · rename_i ow i2 tx hw
      simp only [Bool.and_eq_true, beq_iff_eq] at h5
      obtain ⟨rfl, rfl⟩ := h5
      split at h6
      · rename_i ic f6 f9 hm6 hm9
        obtain rfl := eq_of_beq h6
        exact ox_r_throw (wide := true) C hG.2 h1 hT' (ox_mem_at hw) hd (hCo _ _ _ _ hm3).1 (hCo _ _ _ _ hm4).1 (hCo _ _ _ _ hm6).1 (hCo _ _ _ _ hm9).1
      · cases h6
    · cases h5
  · cases h4
theorem ox_step {K : ox_K} {orc : ox_C} {d : Nat} {M : ox_M} {ret : Option FieldType} {pc b tl : Nat} {ls st : List ox_V} {σ : ox_H} (hn : n = M.2.2.2.2.1) (hown : own = ox_cn M.1) (hCo : ox_Co M cc) (hret : meth.sig.returnType = ret) (hrt : ox_rt M.2.2.2.2.2.1 ret) (hT : ox_Tb M cc c) (hR : d + 11 ≤ R.frames ∧ 41 * d + 241 ≤ R.locals) (hO : ox_Or l d orc) (hE : ∀ y M, ox_ms y = some M → ox_Eo y M)
    (hnh : M.1 ≠ 11 → ∀ pc e, M.2.2.2.2.2.2 pc e = none) (hnc : ∀ e e', 1 ≤ e → e < 4 → 1 ≤ e' → e' < 4 → e' ≠ e → va_Nc (ox_xn e) (ox_xn e') s) (hcs : ∀ e, 1 ≤ e → e < 4 → (Jvm.Cond.castable (ox_xn e) (ox_xn e)).before args s = true)
    (hK : ∀ pc b tl ls st σ, K pc b tl ls st σ = some o → ∀ G, ox_Cp p l R s m args meth c G0 tl0 mc ms n cc own G tl → ox_S9 p l e R s m args below meth c G mc ms n (vx_MQ below (ox_Qc G0 tl0 o) (ox_XC G0 tl0 o) args s mc ms (ox_A G0)) pc b tl ls st σ)
    (h : ox_st M orc K pc b tl ls st σ = some o) {G : ox_G} (hG : ox_Cp p l R s m args meth c G0 tl0 mc ms n cc own G tl) : ox_S9 p l e R s m args below meth c G mc ms n (vx_MQ below (ox_Qc G0 tl0 o) (ox_XC G0 tl0 o) args s mc ms (ox_A G0)) pc b tl ls st σ := by
  unfold ox_st at h
  cases hm : M.2.1 pc with
  | none => rw [hm] at h; cases h
  | some q =>
  obtain ⟨i, nn, f⟩ := q
  rw [hm] at h
  obtain ⟨hd, hchk⟩ := hCo pc i nn f hm
  have C := hG.1
  subst hn
  have kk : ∀ {pc b ls st σ}, K pc b tl ls st σ = some o → ox_S9 p l e R s m args below meth c G mc ms M.2.2.2.2.1 (vx_MQ below (ox_Qc G0 tl0 o) (ox_XC G0 tl0 o) args s mc ms (ox_A G0)) pc b tl ls st σ := fun h => hK _ _ _ _ _ _ h G hG
  cases i with
  | iconst x =>
    have hc : (nn == 1 && decide (-1 ≤ x ∧ x ≤ 5)) = true := hchk
    simp only [Bool.and_eq_true, beq_iff_eq, decide_eq_true_eq] at hc
    obtain ⟨rfl, hc⟩ := hc
    exact ox_r_iconst C (by unfold ox_i32; omega) hd (kk h)
  | bipush x =>
    have hc : (nn == 2 && decide (-128 ≤ x ∧ x < 128)) = true := hchk
    simp only [Bool.and_eq_true, beq_iff_eq, decide_eq_true_eq] at hc
    obtain ⟨rfl, hc⟩ := hc
    exact ox_r_bipush C hc hd (kk h)
  | sipush x =>
    have hc : (nn == 3 && decide (-32768 ≤ x ∧ x < 32768)) = true := hchk
    simp only [Bool.and_eq_true, beq_iff_eq, decide_eq_true_eq] at hc
    obtain ⟨rfl, hc⟩ := hc
    exact ox_r_sipush C hc hd (kk h)
  | ldc k =>
    have hc : (nn == 2 && ox_ldb (ox_cn M.1) k f) = true := hchk
    simp only [Bool.and_eq_true, beq_iff_eq] at hc
    obtain ⟨rfl, hc⟩ := hc
    rcases f with _ | ⟨z, f⟩
    · cases h
    · match z, f, h, hc with
      | 0, [], h, _ => cases h
      | 0, [_], h, _ => cases h
      | 0, x :: y :: [], h, hc => cases hc
      | 0, x :: y :: w :: fr, h, hc =>
        have hc : (decide (x < 2147483648 ∧ y < 2147483648) && decide (tables_1[w]? = some (.constant (ox_cn M.1) k (Int32.ofInt (ox_c x y))))) = true := hc
        simp only [Bool.and_eq_true, decide_eq_true_eq] at hc
        have hw := ox_hg C (ox_mem_at hc.2) rfl
        rw [← hown] at hw
        exact ox_r_ldc C (by unfold ox_i32 ox_c; omega) hw hd (kk h)
      | 1, [], h, _ => cases h
      | 1, i :: [], h, hc => exact absurd hc (by intro z; cases z)
      | 1, i :: w :: fr, h, hc =>
        have hc : (decide (i < 6) && decide (tables_1[w]? = some (.stringRef (ox_cn M.1) k (ox_lit i)))) = true := hc
        simp only [Bool.and_eq_true, decide_eq_true_eq] at hc
        have hw := ox_mem_at hc.2
        rw [← hown] at hw
        exact ox_r_ldcS C hc.1 hw hd (kk h)
      | z + 2, f, h, _ => cases h
  | ldc_w k =>
    have hc : (nn == 3 && ox_ldb (ox_cn M.1) k f) = true := hchk
    simp only [Bool.and_eq_true, beq_iff_eq] at hc
    obtain ⟨rfl, hc⟩ := hc
    rcases f with _ | ⟨z, f⟩
    · cases h
    · match z, f, h, hc with
      | 0, [], h, _ => cases h
      | 0, [_], h, _ => cases h
      | 0, x :: y :: [], h, hc => cases hc
      | 0, x :: y :: w :: fr, h, hc =>
        have hc : (decide (x < 2147483648 ∧ y < 2147483648) && decide (tables_1[w]? = some (.constant (ox_cn M.1) k (Int32.ofInt (ox_c x y))))) = true := hc
        simp only [Bool.and_eq_true, decide_eq_true_eq] at hc
        have hw := ox_hg C (ox_mem_at hc.2) rfl
        rw [← hown] at hw
        exact ox_r_ldcw C (by unfold ox_i32 ox_c; omega) hw hd (kk h)
      | 1, [], h, _ => cases h
      | 1, i :: [], h, hc => exact absurd hc (by intro z; cases z)
      | 1, i :: w :: fr, h, hc =>
        have hc : (decide (i < 6) && decide (tables_1[w]? = some (.stringRef (ox_cn M.1) k (ox_lit i)))) = true := hc
        simp only [Bool.and_eq_true, decide_eq_true_eq] at hc
        have hw := ox_mem_at hc.2
        rw [← hown] at hw
        exact ox_r_ldcSw C hc.1 hw hd (kk h)
      | z + 2, f, h, _ => cases h
  | ldc2_w k =>
    have hc : (nn == 3 && (match (generalizing := false) f with | x :: y :: w :: _ => decide (x < 2147483648 ∧ y < 2147483648) && decide (tables_1[w]? = some (.constantLong (ox_cn M.1) k (Int64.ofInt (ox_c x y)))) | _ => false)) = true := hchk
    rw [Bool.and_eq_true, beq_iff_eq] at hc
    obtain ⟨rfl, hc⟩ := hc
    rcases f with _ | ⟨x, _ | ⟨y, _ | ⟨w, fr⟩⟩⟩
    · cases h
    · cases h
    · cases hc
    · have hc : (decide (x < 2147483648 ∧ y < 2147483648) && decide (tables_1[w]? = some (.constantLong (ox_cn M.1) k (Int64.ofInt (ox_c x y))))) = true := hc
      simp only [Bool.and_eq_true, decide_eq_true_eq] at hc
      have hw := ox_hg C (ox_mem_at hc.2) rfl
      rw [← hown] at hw
      exact ox_r_ldc2 C (by unfold ox_i64 ox_c; omega) hw hd (kk h)
  | iload x =>
    obtain rfl : nn = 2 := by simpa using (show (nn == 2) = true from hchk)
    have h : (match ls[x]? with | some (.inl v) => K (pc + 2) b tl ls (.inl v :: st) σ | _ => none) = some o := h
    cases hl : ls[x]? with
    | none => rw [hl] at h; cases h
    | some v =>
      rw [hl] at h
      rcases v with v | v | v
      · exact ox_r_iload C hl hd (kk h)
      · cases h
      · cases h
  | iload_n x =>
    obtain rfl : nn = 1 := by simpa using (show (nn == 1) = true from hchk)
    have h : (match ls[x.val]? with | some (.inl v) => K (pc + 1) b tl ls (.inl v :: st) σ | _ => none) = some o := h
    cases hl : ls[x.val]? with
    | none => rw [hl] at h; cases h
    | some v =>
      rw [hl] at h
      rcases v with v | v | v
      · exact ox_r_iload_n C hl hd (kk h)
      · cases h
      · cases h
  | lload x =>
    obtain rfl : nn = 2 := by simpa using (show (nn == 2) = true from hchk)
    have h : (match ls[x]? with | some (.inr (.inl v)) => K (pc + 2) b tl ls (.inr (.inl v) :: st) σ | _ => none) = some o := h
    cases hl : ls[x]? with
    | none => rw [hl] at h; cases h
    | some v =>
      rw [hl] at h
      rcases v with v | v | v
      · cases h
      · exact ox_r_lload C hl hd (kk h)
      · cases h
  | lload_n x =>
    obtain rfl : nn = 1 := by simpa using (show (nn == 1) = true from hchk)
    have h : (match ls[x.val]? with | some (.inr (.inl v)) => K (pc + 1) b tl ls (.inr (.inl v) :: st) σ | _ => none) = some o := h
    cases hl : ls[x.val]? with
    | none => rw [hl] at h; cases h
    | some v =>
      rw [hl] at h
      rcases v with v | v | v
      · cases h
      · exact ox_r_lload_n C hl hd (kk h)
      · cases h
  | aload x =>
    obtain rfl : nn = 2 := by simpa using (show (nn == 2) = true from hchk)
    have h : (match ls[x]? with | some (.inr (.inr (t, u, v))) => if t < 999 then K (pc + 2) b tl ls (.inr (.inr (t, u, v)) :: st) σ else none | _ => none) = some o := h
    cases hl : ls[x]? with
    | none => rw [hl] at h; cases h
    | some v =>
      rw [hl] at h
      rcases v with v | v | ⟨t, u, v⟩
      · cases h
      · cases h
      · obtain ⟨h9, h⟩ := ox_if_inv h
        exact ox_r_aload C h9 hl hd (kk h)
  | aload_n x =>
    obtain rfl : nn = 1 := by simpa using (show (nn == 1) = true from hchk)
    have h : (match ls[x.val]? with | some (.inr (.inr (t, u, v))) => if t < 999 then K (pc + 1) b tl ls (.inr (.inr (t, u, v)) :: st) σ else none | _ => none) = some o := h
    cases hl : ls[x.val]? with
    | none => rw [hl] at h; cases h
    | some v =>
      rw [hl] at h
      rcases v with v | v | ⟨t, u, v⟩
      · cases h
      · cases h
      · obtain ⟨h9, h⟩ := ox_if_inv h
        exact ox_r_aload_n C h9 hl hd (kk h)
  | istore x =>
    obtain rfl : nn = 2 := by simpa using (show (nn == 2) = true from hchk)
    rcases st with _ | ⟨v | v | v, st⟩
    · cases h
    · obtain ⟨h9, h⟩ := ox_if_inv h
      exact ox_r_istore C h9 hd (kk h)
    · cases h
    · cases h
  | istore_n x =>
    obtain rfl : nn = 1 := by simpa using (show (nn == 1) = true from hchk)
    rcases st with _ | ⟨v | v | v, st⟩
    · cases h
    · obtain ⟨h9, h⟩ := ox_if_inv h
      exact ox_r_istore_n C h9 hd (kk h)
    · cases h
    · cases h
  | astore x =>
    obtain rfl : nn = 2 := by simpa using (show (nn == 2) = true from hchk)
    rcases st with _ | ⟨v | v | v, st⟩
    · cases h
    · cases h
    · cases h
    · obtain ⟨h9, h⟩ := ox_if_inv h
      exact ox_r_astore C h9 hd (kk h)
  | astore_n x =>
    obtain rfl : nn = 1 := by simpa using (show (nn == 1) = true from hchk)
    rcases st with _ | ⟨v | v | v, st⟩
    · cases h
    · cases h
    · cases h
    · obtain ⟨h9, h⟩ := ox_if_inv h
      exact ox_r_astore_n C h9 hd (kk h)
  | lstore x =>
    obtain rfl : nn = 2 := by simpa using (show (nn == 2) = true from hchk)
    rcases st with _ | ⟨v | v | v, st⟩
    · cases h
    · cases h
    · obtain ⟨h9, h⟩ := ox_if_inv h
      exact ox_r_lstore C h9 hd (kk h)
    · cases h
  | lstore_n x =>
    obtain rfl : nn = 1 := by simpa using (show (nn == 1) = true from hchk)
    rcases st with _ | ⟨v | v | v, st⟩
    · cases h
    · cases h
    · obtain ⟨h9, h⟩ := ox_if_inv h
      exact ox_r_lstore_n C h9 hd (kk h)
    · cases h
  | iinc x dd =>
    obtain rfl : nn = 3 := by simpa using (show (nn == 3) = true from hchk)
    have h : (match ls[x]? with | some (.inl v) => (if x < M.2.2.2.2.1 then K (pc + 3) b tl (ox_set ls x (.inl (ox_w (v + dd)))) st σ else none) | _ => none) = some o := h
    cases hl : ls[x]? with
    | none => rw [hl] at h; cases h
    | some v =>
      rw [hl] at h
      rcases v with v | v | v
      · obtain ⟨h9, h⟩ := ox_if_inv h
        exact ox_r_iinc C hl h9 hd (kk h)
      · cases h
      · cases h
  | pop =>
    obtain rfl : nn = 1 := by simpa using (show (nn == 1) = true from hchk)
    rcases st with _ | ⟨v | v | v, st⟩
    · cases h
    · exact ox_r_pop C hd (kk h)
    · cases h
    · cases h
  | dup =>
    obtain rfl : nn = 1 := by simpa using (show (nn == 1) = true from hchk)
    rcases st with _ | ⟨v, st⟩
    · cases h
    · obtain ⟨h9, h⟩ := ox_ifn_inv h
      exact ox_r_dup C (by simpa using h9) hd (kk h)
  | dup2 =>
    obtain rfl : nn = 1 := by simpa using (show (nn == 1) = true from hchk)
    rcases st with _ | ⟨v, _ | ⟨u, st⟩⟩
    · cases h
    · cases h
    · obtain ⟨h9, h⟩ := ox_ifn_inv h
      simp only [Bool.or_eq_true, not_or, Bool.not_eq_true] at h9
      exact ox_r_dup2 C h9.1 h9.2 hd (kk h)
  | iadd =>
    obtain rfl : nn = 1 := by simpa using (show (nn == 1) = true from hchk)
    obtain ⟨y, x, r, rfl, h⟩ := ox_bin_inv h
    exact ox_r_iadd C hd (kk h)
  | isub =>
    obtain rfl : nn = 1 := by simpa using (show (nn == 1) = true from hchk)
    obtain ⟨y, x, r, rfl, h⟩ := ox_bin_inv h
    exact ox_r_isub C hd (kk h)
  | imul =>
    obtain rfl : nn = 1 := by simpa using (show (nn == 1) = true from hchk)
    obtain ⟨y, x, r, rfl, h⟩ := ox_bin_inv h
    exact ox_r_imul C hd (kk h)
  | iand =>
    obtain rfl : nn = 1 := by simpa using (show (nn == 1) = true from hchk)
    obtain ⟨y, x, r, rfl, h⟩ := ox_bin_inv h
    exact ox_r_iand C hd (kk h)
  | ior =>
    obtain rfl : nn = 1 := by simpa using (show (nn == 1) = true from hchk)
    obtain ⟨y, x, r, rfl, h⟩ := ox_bin_inv h
    exact ox_r_ior C hd (kk h)
  | ishl =>
    obtain rfl : nn = 1 := by simpa using (show (nn == 1) = true from hchk)
    obtain ⟨y, x, r, rfl, h⟩ := ox_bin_inv h
    exact ox_r_ishl C hd (kk h)
  | ladd =>
    obtain rfl : nn = 1 := by simpa using (show (nn == 1) = true from hchk)
    obtain ⟨y, x, r, rfl, h⟩ := ox_binl_inv h
    exact ox_r_ladd C hd (kk h)
  | lsub =>
    obtain rfl : nn = 1 := by simpa using (show (nn == 1) = true from hchk)
    obtain ⟨y, x, r, rfl, h⟩ := ox_binl_inv h
    exact ox_r_lsub C hd (kk h)
  | lmul =>
    obtain rfl : nn = 1 := by simpa using (show (nn == 1) = true from hchk)
    obtain ⟨y, x, r, rfl, h⟩ := ox_binl_inv h
    exact ox_r_lmul C hd (kk h)
  | idiv =>
    obtain rfl : nn = 1 := by simpa using (show (nn == 1) = true from hchk)
    rcases st with _ | ⟨y | y | y, _ | ⟨x | x | x, st⟩⟩ <;> try (cases h; done)
    obtain ⟨h9, h⟩ := ox_ifn_inv h
    exact ox_r_idiv C h9 hd (kk h)
  | irem =>
    obtain rfl : nn = 1 := by simpa using (show (nn == 1) = true from hchk)
    rcases st with _ | ⟨y | y | y, _ | ⟨x | x | x, st⟩⟩ <;> try (cases h; done)
    obtain ⟨h9, h⟩ := ox_ifn_inv h
    exact ox_r_irem C h9 hd (kk h)
  | ineg =>
    obtain rfl : nn = 1 := by simpa using (show (nn == 1) = true from hchk)
    rcases st with _ | ⟨y | y | y, st⟩ <;> try (cases h; done)
    exact ox_r_ineg C hd (kk h)
  | lcmp =>
    obtain rfl : nn = 1 := by simpa using (show (nn == 1) = true from hchk)
    rcases st with _ | ⟨y | y | y, _ | ⟨x | x | x, st⟩⟩ <;> try (cases h; done)
    exact ox_r_lcmp C hd (kk h)
  | i2l =>
    obtain rfl : nn = 1 := by simpa using (show (nn == 1) = true from hchk)
    rcases st with _ | ⟨y | y | y, st⟩ <;> try (cases h; done)
    exact ox_r_i2l C hd (kk h)
  | l2i =>
    obtain rfl : nn = 1 := by simpa using (show (nn == 1) = true from hchk)
    rcases st with _ | ⟨y | y | y, st⟩ <;> try (cases h; done)
    exact ox_r_l2i C hd (kk h)
  | i2c =>
    obtain rfl : nn = 1 := by simpa using (show (nn == 1) = true from hchk)
    rcases st with _ | ⟨y | y | y, st⟩ <;> try (cases h; done)
    exact ox_r_i2c C hd (kk h)
  | iaload =>
    obtain rfl : nn = 1 := by simpa using (show (nn == 1) = true from hchk)
    exact ox_r_ald C (Or.inl ⟨rfl, rfl⟩) hd h (fun st' h => kk h)
  | caload =>
    obtain rfl : nn = 1 := by simpa using (show (nn == 1) = true from hchk)
    exact ox_r_ald C (Or.inr (Or.inl ⟨rfl, rfl⟩)) hd h (fun st' h => kk h)
  | baload =>
    obtain rfl : nn = 1 := by simpa using (show (nn == 1) = true from hchk)
    exact ox_r_ald C (Or.inr (Or.inr (Or.inl ⟨rfl, rfl⟩))) hd h (fun st' h => kk h)
  | aaload =>
    obtain rfl : nn = 1 := by simpa using (show (nn == 1) = true from hchk)
    exact ox_r_ald C (Or.inr (Or.inr (Or.inr (Or.inl ⟨rfl, rfl⟩)))) hd h (fun st' h => kk h)
  | laload =>
    obtain rfl : nn = 1 := by simpa using (show (nn == 1) = true from hchk)
    exact ox_r_ald C (Or.inr (Or.inr (Or.inr (Or.inr ⟨rfl, rfl⟩)))) hd h (fun st' h => kk h)
  | iastore =>
    obtain rfl : nn = 1 := by simpa using (show (nn == 1) = true from hchk)
    exact ox_r_ast C (Or.inl ⟨rfl, rfl, rfl⟩) hd h (fun st' σ' h => kk h)
  | castore =>
    obtain rfl : nn = 1 := by simpa using (show (nn == 1) = true from hchk)
    exact ox_r_ast C (Or.inr (Or.inl ⟨rfl, rfl, rfl⟩)) hd h (fun st' σ' h => kk h)
  | bastore =>
    obtain rfl : nn = 1 := by simpa using (show (nn == 1) = true from hchk)
    exact ox_r_ast C (Or.inr (Or.inr (Or.inl ⟨rfl, rfl, rfl⟩))) hd h (fun st' σ' h => kk h)
  | lastore =>
    obtain rfl : nn = 1 := by simpa using (show (nn == 1) = true from hchk)
    exact ox_r_ast C (Or.inr (Or.inr (Or.inr ⟨rfl, rfl⟩))) hd h (fun st' σ' h => kk h)
  | arraylength =>
    obtain rfl : nn = 1 := by simpa using (show (nn == 1) = true from hchk)
    rcases st with _ | ⟨y | y | ⟨t, u, j⟩, st⟩ <;> try (cases h; done)
    obtain ⟨h9, h⟩ := ox_if_inv h
    exact ox_r_alen C hd h9 (kk h)
  | getfield k =>
    have hc : (nn == 3 && ox_fcb (ox_cn M.1) k f) = true := hchk
    simp only [Bool.and_eq_true, beq_iff_eq] at hc
    obtain ⟨rfl, hc⟩ := hc
    rw [← hown] at hc
    obtain ⟨c1, j, kd, c2, k2, fr, rfl, g1, g2⟩ := ox_fc_of C hc
    exact ox_r_gf C hd g1 g2 h (fun st' h => kk h)
  | putfield k =>
    have hc : (nn == 3 && ox_fcb (ox_cn M.1) k f && ox_fin f) = true := hchk
    simp only [Bool.and_eq_true, beq_iff_eq] at hc
    obtain ⟨⟨rfl, hc⟩, hf⟩ := hc
    rw [← hown] at hc
    obtain ⟨c1, j, kd, c2, k2, fr, rfl, g1, g2⟩ := ox_fc_of C hc
    have hf : (!(ox_F c1 j).2.2.2) = true := hf
    exact ox_r_pf C hd g1 (by simpa using hf) g2 h (fun st' σ' h => kk h)
  | goto oo =>
    have hc : (nn == 3 && ox_no pc oo) = true := hchk
    simp only [Bool.and_eq_true, beq_iff_eq] at hc
    obtain ⟨rfl, hc⟩ := hc
    exact ox_r_goto C (of_decide_eq_true hc) hd (kk h)
  | ifCond cd oo =>
    have hc : (nn == 3 && ox_no pc oo) = true := hchk
    simp only [Bool.and_eq_true, beq_iff_eq] at hc
    obtain ⟨rfl, hc⟩ := hc
    rcases st with _ | ⟨y | y | y, st⟩ <;> try (cases h; done)
    exact ox_r_if C (of_decide_eq_true hc) hd h (fun h => kk h) (fun h => kk h)
  | if_icmp cd oo =>
    have hc : (nn == 3 && ox_no pc oo) = true := hchk
    simp only [Bool.and_eq_true, beq_iff_eq] at hc
    obtain ⟨rfl, hc⟩ := hc
    rcases st with _ | ⟨y | y | y, _ | ⟨x | x | x, st⟩⟩ <;> try (cases h; done)
    exact ox_r_icmp C (of_decide_eq_true hc) hd h (fun h => kk h) (fun h => kk h)
  | if_acmp cd oo =>
    have hc : (nn == 3 && ox_no pc oo) = true := hchk
    simp only [Bool.and_eq_true, beq_iff_eq] at hc
    obtain ⟨rfl, hc⟩ := hc
    dsimp only at h
    split at h
    · exact ox_r_acmp C (of_decide_eq_true hc) hd h (fun h => kk h) (fun h => kk h)
    · cases h
  | tableswitch d lo hi offs =>
    have hc : (lo == 0 && decide (hi + 1 = offs.size) && offs.toList.all (ox_no pc) && ox_no pc d && f == ox_swl pc offs.toList 0 (ox_tgt pc d)) = true := hchk
    simp only [Bool.and_eq_true, beq_iff_eq, decide_eq_true_eq] at hc
    obtain ⟨⟨⟨⟨rfl, h1⟩, h2⟩, h3⟩, rfl⟩ := hc
    rcases st with _ | ⟨y | y | y, st⟩ <;> try (cases h; done)
    exact ox_r_tab C hd h1 (fun q hq => of_decide_eq_true (List.all_eq_true.mp h2 q hq)) (of_decide_eq_true h3) h (fun t h => kk h)
  | lookupswitch d ps =>
    have hc : ((ps.toList.zip (ps.toList.drop 1)).all (fun (a, next) => a.1 < next.1) && ps.toList.all (fun q => decide (0 ≤ q.1)) && ps.toList.all (fun q => ox_no pc q.2) && ox_no pc d && f == ox_swp pc ps.toList (ox_tgt pc d)) = true := hchk
    rw [Bool.and_eq_true, Bool.and_eq_true, Bool.and_eq_true, Bool.and_eq_true, beq_iff_eq] at hc
    obtain ⟨⟨⟨⟨h1, h2⟩, h3⟩, h4⟩, rfl⟩ := hc
    rcases st with _ | ⟨y | y | y, st⟩ <;> try (cases h; done)
    exact ox_r_look C hd h1 (fun q hq => of_decide_eq_true (List.all_eq_true.mp h2 q hq)) (fun q hq => of_decide_eq_true (List.all_eq_true.mp h3 q hq)) (of_decide_eq_true h4) h (fun t h => kk h)
  | invokevirtual k =>
    have hc : (nn == 3 && ox_cab (ox_cn M.1) k true f) = true := hchk
    simp only [Bool.and_eq_true, beq_iff_eq] at hc
    obtain ⟨rfl, hc⟩ := hc
    exact ox_step_call (virt := true) rfl hown hT hR hO hE hnh hnc hcs hK hc hd h hG
  | invokestatic k =>
    have hc : (nn == 3 && ox_cab (ox_cn M.1) k false f) = true := hchk
    simp only [Bool.and_eq_true, beq_iff_eq] at hc
    obtain ⟨rfl, hc⟩ := hc
    exact ox_step_call (virt := false) rfl hown hT hR hO hE hnh hnc hcs hK hc hd h hG
  | new k =>
    have hc : (nn == 3 && ox_thb M pc k f) = true := hchk
    simp only [Bool.and_eq_true, beq_iff_eq] at hc
    obtain ⟨rfl, hc⟩ := hc
    rcases f with _ | ⟨ee, fr⟩
    · rcases b with _ | b <;> rcases st with _ | ⟨v, st⟩ <;> cases h
    rcases b with _ | b
    · rcases st with _ | ⟨v, st⟩ <;> cases h
    rcases st with _ | ⟨v, st⟩
    · cases h
      exact ox_step_new hown hCo hT hc hd hG
    · cases h
  | newarray a =>
    have hc : (nn == 2 && decide (a = .int)) = true := hchk
    simp only [Bool.and_eq_true, beq_iff_eq, decide_eq_true_eq] at hc
    obtain ⟨rfl, rfl⟩ := hc
    dsimp only at h
    split at h
    · refine ox_r_newa C hd (fun q => hK _ _ _ _ _ _ h (ox_Gu G q) ⟨ox_Cx_u C, ?_⟩)
      rcases hG.2 with ⟨rfl, h9⟩ | ⟨q9, _, _, h9⟩
      · exact Or.inr ⟨q, rfl, h9.symm, rfl⟩
      · cases h9
    · cases h
  | ireturn =>
    obtain rfl : nn = 1 := by simpa using (show (nn == 1) = true from hchk)
    dsimp only at h
    split at h
    · rename_i he
      cases h
      have hr : ret = some .int := by
        rcases hrt with ⟨q, -⟩ | ⟨-, q⟩ | ⟨q, -⟩ | ⟨q, -⟩ | ⟨q, -⟩ <;> first | exact q | (rw [he] at q; cases q)
      exact ox_r_iret C hG.2 (by rw [hret, hr]) (vp_nar_int _) (fun z => z) hd
    · rename_i he
      cases h
      have hr : ret = some .char := by
        rcases hrt with ⟨q, -⟩ | ⟨q, -⟩ | ⟨-, q⟩ | ⟨q, -⟩ | ⟨q, -⟩ <;> first | exact q | (rw [he] at q; cases q)
      exact ox_r_iret C hG.2 (by rw [hret, hr]) (by rw [← ox_char_nar]; rfl) (fun z => by unfold ox_i32; omega) hd
    · rename_i he
      cases h
      have hr : ret = some .boolean := by
        rcases hrt with ⟨q, -⟩ | ⟨q, -⟩ | ⟨q, -⟩ | ⟨-, q⟩ | ⟨q, -⟩ <;> first | exact q | (rw [he] at q; cases q)
      exact ox_r_iret C hG.2 (by rw [hret, hr]) (by rw [← ox_bool_nar]; rfl) (fun z => by unfold ox_i32; omega) hd
    · cases h
  | areturn =>
    obtain rfl : nn = 1 := by simpa using (show (nn == 1) = true from hchk)
    dsimp only at h
    split at h
    · rename_i he
      obtain ⟨h9, h⟩ := ox_ifn_inv h
      cases h
      rcases hrt with ⟨q, -⟩ | ⟨q, -⟩ | ⟨q, -⟩ | ⟨q, -⟩ | ⟨-, nm, q⟩ <;> first | exact ox_r_aret C hG.2 h9 (by rw [hret, q]) hd | (rw [he] at q; cases q)
    · cases h
  | return_ =>
    obtain rfl : nn = 1 := by simpa using (show (nn == 1) = true from hchk)
    dsimp only at h
    split at h
    · rename_i he
      cases h
      have hr : ret = none := by
        rcases hrt with ⟨-, q⟩ | ⟨q, -⟩ | ⟨q, -⟩ | ⟨q, -⟩ | ⟨q, -⟩ <;> first | exact q | (rw [he] at q; cases q)
      exact ox_r_vret C hG.2 (by rw [hret, hr]) hd
    · cases h
  | _ => exact absurd (show none = some o from h) (by intro z; cases z)
end OX25
