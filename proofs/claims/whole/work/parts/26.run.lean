/-! ===== the whole run, and the contract of every method ===== -/
theorem ox_in_at (G : ox_G) : ∀ (n : Nat) (av : List ox_V) (k j : Nat) (v : ox_V), (ox_in n av)[j]? = some v → ox_dm v = true ∨ (k + j, ox_mv G v) ∈ lv_args k (av.map (ox_mv G))
  | 0, _, _, _, _, h => by cases h
  | n + 1, [], k, j, v, h => by
    cases j with
    | zero => cases h; exact Or.inl rfl
    | succ j =>
      rcases ox_in_at G n [] k j v h with g | g
      · exact Or.inl g
      · cases g
  | 1, .inr (.inl x) :: r, k, j, v, h => by
    have h : ([.inr (.inl x)] : List ox_V)[j]? = some v := h
    cases j with
    | zero => cases h; exact Or.inr List.mem_cons_self
    | succ j => cases h
  | n + 2, .inr (.inl x) :: r, k, j, v, h => by
    have h : ((.inr (.inl x) : ox_V) :: ox_d :: ox_in n r)[j]? = some v := h
    cases j with
    | zero => cases h; exact Or.inr List.mem_cons_self
    | succ j =>
      cases j with
      | zero => cases h; exact Or.inl rfl
      | succ j =>
        rcases ox_in_at G n r (k + 2) j v h with g | g
        · exact Or.inl g
        · rw [show k + (j + 1 + 1) = k + 2 + j by omega]
          exact Or.inr (List.mem_cons_of_mem _ g)
  | n + 1, .inl x :: r, k, j, v, h => by
    cases j with
    | zero => cases h; exact Or.inr List.mem_cons_self
    | succ j =>
      rcases ox_in_at G n r (k + 1) j v h with g | g
      · exact Or.inl g
      · rw [show k + (j + 1) = k + 1 + j by omega]
        exact Or.inr (List.mem_cons_of_mem _ g)
  | n + 1, .inr (.inr x) :: r, k, j, v, h => by
    cases j with
    | zero => cases h; exact Or.inr List.mem_cons_self
    | succ j =>
      rcases ox_in_at G n r (k + 1) j v h with g | g
      · exact Or.inl g
      · rw [show k + (j + 1) = k + 1 + j by omega]
        exact Or.inr (List.mem_cons_of_mem _ g)
theorem ox_in_mem : ∀ (n : Nat) (av : List ox_V) (v : ox_V), v ∈ ox_in n av → v = ox_d ∨ v ∈ av
  | 0, _, _, h => by cases h
  | n + 1, [], v, h => by
    rcases List.mem_cons.mp h with rfl | h
    · exact Or.inl rfl
    · exact ox_in_mem n [] v h
  | 1, .inr (.inl x) :: r, v, h => by
    have h : v ∈ ([.inr (.inl x)] : List ox_V) := h
    rcases List.mem_cons.mp h with rfl | h
    · exact Or.inr List.mem_cons_self
    · cases h
  | n + 2, .inr (.inl x) :: r, v, h => by
    have h : v ∈ ((.inr (.inl x) : ox_V) :: ox_d :: ox_in n r) := h
    rcases List.mem_cons.mp h with rfl | h
    · exact Or.inr List.mem_cons_self
    · rcases List.mem_cons.mp h with rfl | h
      · exact Or.inl rfl
      · rcases ox_in_mem n r v h with g | g
        · exact Or.inl g
        · exact Or.inr (List.mem_cons_of_mem _ g)
  | n + 1, .inl x :: r, v, h => by
    rcases List.mem_cons.mp h with rfl | h
    · exact Or.inr List.mem_cons_self
    · rcases ox_in_mem n r v h with g | g
      · exact Or.inl g
      · exact Or.inr (List.mem_cons_of_mem _ g)
  | n + 1, .inr (.inr x) :: r, v, h => by
    rcases List.mem_cons.mp h with rfl | h
    · exact Or.inr List.mem_cons_self
    · rcases ox_in_mem n r v h with g | g
      · exact Or.inl g
      · exact Or.inr (List.mem_cons_of_mem _ g)
theorem ox_sl_len (G : ox_G) : ∀ av : List ox_V, (lg_sl (av.map (ox_mv G))).length = ox_sc av
  | [] => rfl
  | v :: r => by
    have h := ox_sl_len G r
    show (List.flatMap _ (ox_mv G v :: r.map (ox_mv G))).length = (if ox_2 v then 2 else 1) + ox_sc r
    rw [List.flatMap_cons, List.length_append, ← h]
    rcases v with x | x | x <;> rfl
theorem ox_lr_entry (G : ox_G) {av : List ox_V} {n : Nat} (h : ox_sc av ≤ n) : ox_lr G (ox_in n av) n ((lg_sl (av.map (ox_mv G)) ++ List.replicate (n - (lg_sl (av.map (ox_mv G))).length) Slot.unset).toArray) := by
  obtain ⟨h1, h2, h3⟩ := lv_entry (av.map (ox_mv G)) (n := n) (by rw [ox_sl_len]; exact h)
  refine ⟨h1, h2, fun i v hv hd => ?_⟩
  rcases ox_in_at G n av 0 i v hv with g | g
  · rw [g] at hd; cases hd
  · rw [Nat.zero_add] at g
    exact h3 _ g
section OX26
variable {p : Program} {l : Launch} {e : Env} {R : Room} {s : State} {m : MethodId} {args : Array Value} {below : List Frame} {meth : Method} {c : Code}
variable {G0 : ox_G} {mc ms n tl0 : Nat} {cc : ByteArray} {own : String} {o : ox_O}
theorem ox_run_ok {orc : ox_C} {d : Nat} {M : ox_M} {ret : Option FieldType} (hn : n = M.2.2.2.2.1) (hown : own = ox_cn M.1) (hCo : ox_Co M cc) (hret : meth.sig.returnType = ret) (hrt : ox_rt M.2.2.2.2.2.1 ret) (hT : ox_Tb M cc c) (hR : d + 11 ≤ R.frames ∧ 41 * d + 241 ≤ R.locals) (hO : ox_Or l d orc) (hE : ∀ y M, ox_ms y = some M → ox_Eo y M)
    (hnh : M.1 ≠ 11 → ∀ pc e, M.2.2.2.2.2.2 pc e = none) (hnc : ∀ e e', 1 ≤ e → e < 4 → 1 ≤ e' → e' < 4 → e' ≠ e → va_Nc (ox_xn e) (ox_xn e') s) (hcs : ∀ e, 1 ≤ e → e < 4 → (Jvm.Cond.castable (ox_xn e) (ox_xn e)).before args s = true) :
    ∀ (N pc b tl : Nat) (ls st : List ox_V) (σ : ox_H), ox_run M orc N pc b tl ls st σ = some o → ∀ G, ox_Cp p l R s m args meth c G0 tl0 mc ms n cc own G tl → ox_S9 p l e R s m args below meth c G mc ms n (vx_MQ below (ox_Qc G0 tl0 o) (ox_XC G0 tl0 o) args s mc ms (ox_A G0)) pc b tl ls st σ
  | 0, _, _, _, _, _, _, h, _, _ => by cases h
  | N + 1, pc, b, tl, ls, st, σ, h, G, hG =>
    ox_step (K := fun pc' b' tl' ls' st' σ' => ox_run M orc N pc' b' tl' (ox_kl (M.2.2.1 pc') ls') st' σ') hn hown hCo hret hrt hT hR hO hE hnh hnc hcs (fun pc b tl ls st σ h G hG => ox_S_kl (ox_run_ok hn hown hCo hret hrt hT hR hO hE hnh hnc hcs N pc b tl _ st σ h G hG)) h hG
end OX26
theorem ox_ct_of {l : Launch} {d N y tl : Nat} {M : ox_M} {orc : ox_C} {cw : Jvm.Cond} {G : ox_G} {av : List ox_V} {σ : ox_H} {o : ox_O} (hst : l.stackTraces = false) (hE : ∀ y M, ox_ms y = some M → ox_Eo y M) (hO : ox_Or l d orc) (hM : ox_ms y = some M) (hcw : tables_1[ox_cwi y]? = some cw)
    (hrun : ox_run M orc N 0 M.2.2.2.1 tl (ox_in M.2.2.2.2.1 av) [] σ = some o) (hsc : ox_sc av ≤ M.2.2.2.2.1) : ox_Ct l (d + 1) (ox_yn y) cw M.2.2.2.1 G tl av σ o := by
  obtain ⟨cw', bytes, ret, hh, e1, e2, e3, e4, e5, e6, e7, e8, e9, e10, e11, e12, e13⟩ := hE y M hM
  cases Option.some.inj (hcw.symm.trans e1)
  have body : ∀ (p : Program) (e : Env) (s : State) (m : MethodId) (args : Array Value) (below : List Frame) (meth : Method) (c : Code) (s₁ : State), BodyLoose p l (ox_yn y) (headSpec (cw :: ox_good) (ox_rm (d + 1) M.2.2.2.1)) bytes M.2.2.2.2.1 ret e s m args below meth c s₁ → c.maxLocals = M.2.2.2.2.1 → ox_Tb M bytes c → ox_Pc G tl σ av args s →
      W p l e (headSpec (cw :: ox_good) (ox_rm (d + 1) M.2.2.2.1)).room s m args below meth c s.heap [] 0 0 (vx_MQ below (ox_Qc G tl o) (ox_XC G tl o) args s M.2.2.2.1 (16 * M.2.2.2.1) (ox_A G)) (entryFrame m args M.2.2.2.2.1) := by
    intro p e s m args below meth c s₁ B hml hT hP
    obtain ⟨rfl, hok, hFx, hWd, hbs⟩ := hP
    have hFy := hFx.2.2.2.2.2.2.2
    rw [lg_entry_eq]
    have hC : ox_Cx p l (headSpec (cw :: ox_good) (ox_rm (d + 1) M.2.2.2.1)).room s m ((av.map (ox_mv G)).toArray) meth c G M.2.2.2.1 (16 * M.2.2.2.1) M.2.2.2.2.1 bytes (ox_cn M.1) :=
      ⟨B.exec, B.bytes, hml, by rw [← e6]; exact findClass_of_methodNamed B.named, fun w hw => atoms_spec B.pre w (List.mem_cons_of_mem _ hw), hFx, B.notSynchronized, hst, ⟨by show 10 ≤ d + 1 + 10; omega, by show 200 ≤ 41 * (d + 1) + 200; omega, Nat.le_refl _, Nat.le_refl _⟩, fun q hq => Nat.le_trans hbs hq⟩
    exact ox_run_ok (G0 := G) (tl0 := tl) rfl rfl e13 B.returns e5 hT ⟨by show d + 11 ≤ d + 1 + 10; omega, by show 41 * d + 241 ≤ 41 * (d + 1) + 200; omega⟩ hO hE e4 (fun e e' h1 h2 h3 h4 h5 => hFy.2.1 e e' h1 h2 h3 h4 h5) (fun e h1 h2 => va_Nw.use rfl (hFy.1 e h1 h2))
      N 0 M.2.2.2.1 tl (ox_in M.2.2.2.2.1 av) [] σ hrun G ⟨hC, Or.inl ⟨rfl, rfl⟩⟩ s.heap [] 0 0 _ hWd ⟨Nat.le_refl _, fun _ _ _ => rfl, fun z hz => by cases hz⟩ (ox_lr_entry G hsc)
      (fun v hv => by
        rcases ox_in_mem _ _ _ hv with rfl | g
        · exact ox_ok_d
        · exact hok v g) (fun v hv => by cases hv) (by omega) (by omega)
  rcases e3 with ⟨h11, rfl⟩ | ⟨h11, rfl, hHo⟩
  · exact vx_ofW e8 rfl (fun p e s m args below meth c s₁ B hml hT hP => body p e s m args below meth c s₁ B hml (Or.inl ⟨h11, hT⟩) hP)
  · exact vx_ofWH e8 rfl (fun p e s m args below meth c s₁ B hml hP => body p e s m args below meth c s₁ B hml (Or.inr ⟨h11, hh, vx_table (x := ox_yn y) B (atoms_spec B.pre _ List.mem_cons_self), hHo⟩) hP)
theorem ox_orc {l : Launch} (hst : l.stackTraces = false) (hE : ∀ y M, ox_ms y = some M → ox_Eo y M) : ∀ d, ox_Or l d (ox_zz ox_ms d)
  | 0 => fun y tl av σ o h => by cases h
  | d + 1 => fun y tl av σ o h M hM cw hcw G => by
    have h : (match ox_ms y with | none => none | some M => bif Nat.ble (ox_sc av) M.2.2.2.2.1 then ox_ev M (ox_zz ox_ms d) 0 M.2.2.2.1 tl (ox_in M.2.2.2.2.1 av) [] σ else none) = some o := h
    rw [hM] at h
    dsimp only at h
    cases hb : Nat.ble (ox_sc av) M.2.2.2.2.1 with
    | false => rw [hb] at h; cases h
    | true =>
      rw [hb] at h
      obtain ⟨N, hN⟩ := ox_ev_run.mp h
      exact ox_ct_of hst hE (ox_orc hst hE d) hM hcw hN (Nat.le_of_ble_eq_true hb)
