/-! ===== rows that write, fields, copies ===== -/
theorem ox_ty_lt {c j : Nat} (hc : c < 11) : ox_ty c j ≠ 4 := by
  unfold ox_ty
  repeat' split
  all_goals omega
theorem ox_up_at {σ : ox_H} {c k j i : Nat} {v : Int} : (fun x => Int32.ofInt (ox_up σ c k j i v c k j x)) = upd (fun x => Int32.ofInt (σ c k j x)) i (Int32.ofInt v) := by
  funext x
  unfold ox_up upd
  by_cases h : x = i
  · rw [if_pos ⟨rfl, rfl, rfl, h⟩, if_pos h]
  · rw [if_neg (fun z => h z.2.2.2), if_neg h]
theorem ox_up_atl {σ : ox_H} {c k j i : Nat} {v : Int} : (fun x => Int64.ofInt (ox_up σ c k j i v c k j x)) = vp_updL (fun x => Int64.ofInt (σ c k j x)) i (Int64.ofInt v) := by
  funext x
  unfold ox_up vp_updL
  by_cases h : x = i
  · rw [if_pos ⟨rfl, rfl, rfl, h⟩, if_pos h]
  · rw [if_neg (fun z => h z.2.2.2), if_neg h]
theorem ox_row_up {G : ox_G} {σ : ox_H} {c k j i : Nat} {v : Int} (hc : c ≠ 22) (h3 : ox_ty c j ≠ 3) (h4 : ox_ty c j ≠ 4) : ox_ent G (ox_up σ c k j i v) (100 + c, k, j) = .inl (ox_cA G (ox_ty c j), ox_len σ c k j, .inl (upd (fun x => Int32.ofInt (σ c k j x)) i (Int32.ofInt v))) := by
  rw [ox_ent_arr, ox_rw_n h3 h4, ox_len_up hc, ox_up_at]
theorem ox_row_upl {G : ox_G} {σ : ox_H} {c k j i : Nat} {v : Int} (hc : c ≠ 22) (h4 : ox_ty c j = 4) : ox_ent G (ox_up σ c k j i v) (100 + c, k, j) = .inl (ox_cA G (ox_ty c j), ox_len σ c k j, .inr (.inl (vp_updL (fun x => Int64.ofInt (σ c k j x)) i (Int64.ofInt v)))) := by
  rw [ox_ent_arr, ox_rw_4 h4, ox_len_up hc, ox_up_atl]
theorem ox_fv_1 {G : ox_G} {σ : ox_H} {c k j : Nat} (h : (ox_fk c j).1 = 1) : ox_fv G σ c k j = .ref (ox_ad G (100 + c, k, j)) := by
  rcases hf : ox_fk c j with ⟨a, b, d⟩
  rw [hf] at h
  have h : a = 1 := h
  subst h
  simp only [ox_fv, hf]
theorem ox_fv_2 {G : ox_G} {σ : ox_H} {c k j c2 k2 : Nat} (h : ox_fk c j = (2, c2, k2)) : ox_fv G σ c k j = .ref (ox_ad G (c2, k2, 0)) := by
  simp only [ox_fv, h]
theorem ox_fv_0 {G : ox_G} {σ : ox_H} {c k j : Nat} (h : (ox_fk c j).1 = 0) : ox_fv G σ c k j = .int (Int32.ofInt (σ c k j 0)) := by
  rcases hf : ox_fk c j with ⟨a, b, d⟩
  rw [hf] at h
  have h : a = 0 := h
  subst h
  simp only [ox_fv, hf]
section OX15
variable {p : Program} {l : Launch} {e : Env} {R : Room} {s : State} {m : MethodId} {args : Array Value} {below : List Frame} {meth : Method} {c : Code}
variable {G : ox_G} {mc ms n : Nat} {Q : State → Prop} {cc : ByteArray} {own : String} {pc b tl : Nat} {ls st : List ox_V} {σ : ox_H}
theorem ox_r_ast (C : ox_Cx p l R s m args meth c G mc ms n cc own) {i : Instr} {ty : Nat} {gg : Int → Int} (hi : (i = .iastore ∧ ty = 0 ∧ gg = fun v => v) ∨ (i = .castore ∧ ty = 1 ∧ gg = fun v => v % 65536) ∨ (i = .bastore ∧ ty = 2 ∧ gg = fun v => v % 2) ∨ (i = .lastore ∧ ty = 4)) (hd : decode cc pc = .ok (i, 1)) {g : List ox_V → ox_H → Option ox_O} {o : ox_O} (h : ox_ast ty gg σ st g = some o)
    (k : ∀ st' σ', g st' σ' = some o → ox_S9 p l e R s m args below meth c G mc ms n Q (pc + 1) b tl ls st' σ') : ox_S9 p l e R s m args below meth c G mc ms n Q pc b tl ls st σ := by
  intro H locs cells slots arr h1 h2 h3 h4 h5 h6 h7
  have hK := ox_tys_at C
  rcases st with _ | ⟨v | v | v, _ | ⟨x | x | x, _ | ⟨y | y | ⟨t, u, j⟩, r⟩⟩⟩ <;> try cases h
  · unfold ox_ast at h
    dsimp only at h
    by_cases hc1 : 100 ≤ t ∧ t < 122 ∧ ox_ty (t - 100) j = ty ∧ ty ≤ 2
    rotate_left
    · rw [if_neg hc1] at h; cases h
    rw [if_pos hc1] at h
    obtain ⟨ha, hb, hty, hle⟩ := hc1
    by_cases hin : 0 ≤ x ∧ x.toNat < ox_len σ (t - 100) u j
    rotate_left
    · rw [if_neg hin] at h; cases h
    rw [if_pos hin] at h
    obtain ⟨hv, h5⟩ := List.forall_mem_cons.mp h5
    obtain ⟨hx, h5⟩ := List.forall_mem_cons.mp h5
    obtain ⟨hr, h55⟩ := List.forall_mem_cons.mp h5
    have hx : ox_i32 x := hx
    have hv : ox_i32 v := hv
    obtain ⟨c1, rfl⟩ : ∃ c1, t = 100 + c1 := ⟨t - 100, by omega⟩
    rw [Nat.add_sub_cancel_left] at hty hin h
    have hvi := ox_vin hx hin
    have hn := ox_toN hx
    have hr : (100 + c1, u, j) ∈ ox_L tl := by
      rcases ox_rok_arr hr ha (by omega) with hr | hr
      · exact hr
      · have : 100 + c1 = 122 := congrArg Prod.fst hr
        omega
    obtain ⟨q, hq, he⟩ := ox_Wd_at h1 hr
    have hc22 : c1 ≠ 22 := by omega
    rw [ox_ent_arr, ox_rw_n (by omega) (by omega), hty] at he
    have hset : ∀ w, (ox_ws G tl σ).set q (ox_ad G (100 + c1, u, j), .inl (ox_cA G ty, ox_len σ c1 u j, .inl (upd (fun x => Int32.ofInt (σ c1 u j x)) x.toNat (Int32.ofInt w)))) = ox_ws G tl (ox_up σ c1 u j x.toNat w) := fun w =>
      ox_ws_set hq (ox_but_rows ox_but_up hc22 hr) (by rw [ox_row_up hc22 (by omega) (by omega), hty])
    rcases hi with ⟨rfl, rfl, rfl⟩ | ⟨rfl, rfl, rfl⟩ | ⟨rfl, rfl, rfl⟩ | ⟨-, q⟩
    · refine va_iast C.1 C.2.1 hK h1.1 h1.2.1 h2 q 0 he rfl hvi hd (fun H1 locs1 hP hD hS => ?_)
      rw [hn, hset] at hP hD
      exact k _ _ h H1 locs1 cells slots arr (ox_Wd_to C h1 h2 hS ox_but_up hc22 (ox_sok_up h1.2.2.1 (by rw [hty]; exact hv)) hP hD) hS h3 h4 h55 h6 h7
    · refine va_cast C.1 C.2.1 hK h1.1 h1.2.1 h2 q 1 he rfl hvi hd (fun H1 locs1 hP hD hS => ?_)
      rw [hn, ox_char_nar, hset] at hP hD
      exact k _ _ h H1 locs1 cells slots arr (ox_Wd_to C h1 h2 hS ox_but_up hc22 (ox_sok_up h1.2.2.1 (by rw [hty]; show 0 ≤ v % 65536 ∧ v % 65536 < 65536; omega)) hP hD) hS h3 h4 h55 h6 h7
    · refine va_zast C.1 C.2.1 hK h1.1 h1.2.1 h2 q 2 he rfl hvi hd (fun H1 locs1 hP hD hS => ?_)
      rw [hn, ox_bool_nar, hset] at hP hD
      exact k _ _ h H1 locs1 cells slots arr (ox_Wd_to C h1 h2 hS ox_but_up hc22 (ox_sok_up h1.2.2.1 (by rw [hty]; show 0 ≤ v % 2 ∧ v % 2 < 2; omega)) hP hD) hS h3 h4 h55 h6 h7
    · omega
  · unfold ox_ast at h
    dsimp only at h
    by_cases hc1 : 100 ≤ t ∧ t < 122 ∧ ox_ty (t - 100) j = ty ∧ ty = 4
    rotate_left
    · rw [if_neg hc1] at h; cases h
    rw [if_pos hc1] at h
    obtain ⟨ha, hb, hty, rfl⟩ := hc1
    by_cases hin : 0 ≤ x ∧ x.toNat < ox_len σ (t - 100) u j
    rotate_left
    · rw [if_neg hin] at h; cases h
    rw [if_pos hin] at h
    obtain ⟨hv, h5⟩ := List.forall_mem_cons.mp h5
    obtain ⟨hx, h5⟩ := List.forall_mem_cons.mp h5
    obtain ⟨hr, h55⟩ := List.forall_mem_cons.mp h5
    have hx : ox_i32 x := hx
    have hv : ox_i64 v := hv
    obtain ⟨c1, rfl⟩ : ∃ c1, t = 100 + c1 := ⟨t - 100, by omega⟩
    rw [Nat.add_sub_cancel_left] at hty hin h
    have hvi := ox_vin hx hin
    have hn := ox_toN hx
    have hr : (100 + c1, u, j) ∈ ox_L tl := by
      rcases ox_rok_arr hr ha (by omega) with hr | hr
      · exact hr
      · have : 100 + c1 = 122 := congrArg Prod.fst hr
        omega
    obtain ⟨q, hq, he⟩ := ox_Wd_at h1 hr
    have hc22 : c1 ≠ 22 := by omega
    rw [ox_ent_arr, ox_rw_4 hty, hty] at he
    have hset : (ox_ws G tl σ).set q (ox_ad G (100 + c1, u, j), .inl (ox_cA G 4, ox_len σ c1 u j, .inr (.inl (vp_updL (fun x => Int64.ofInt (σ c1 u j x)) x.toNat (Int64.ofInt v))))) = ox_ws G tl (ox_up σ c1 u j x.toNat v) :=
      ox_ws_set hq (ox_but_rows ox_but_up hc22 hr) (by rw [ox_row_upl hc22 hty, hty])
    rcases hi with ⟨-, w, -⟩ | ⟨-, w, -⟩ | ⟨-, w, -⟩ | ⟨rfl, -⟩
    · cases w
    · cases w
    · cases w
    refine va_last C.1 C.2.1 hK h1.1 h1.2.1 h2 q 4 he rfl hvi hd (fun H1 locs1 hP hD hS => ?_)
    rw [hn, hset] at hP hD
    exact k _ _ h H1 locs1 cells slots arr (ox_Wd_to C h1 h2 hS ox_but_up hc22 (ox_sok_up h1.2.2.1 (by rw [hty]; exact hv)) hP hD) hS h3 h4 h55 h6 h7
/-- a field's row: what the check says of it -/
def ox_fc (c1 j kd c2 k2 : Nat) : Prop := c1 < 11 ∧ j < ox_nf c1 ∧ ((kd = 1 ∧ (ox_fk c1 j).1 = 1) ∨ (kd = 2 ∧ ox_fk c1 j = (2, c2, k2)) ∨ (kd = 0 ∧ (ox_fk c1 j).1 = 0 ∧ ox_T c1 j = .int ∧ ox_ty c1 j = 0) ∨ (kd = 3 ∧ (ox_fk c1 j).1 = 0 ∧ ox_T c1 j = .char ∧ ox_ty c1 j = 1))
def ox_fl (own : String) (args : Array Value) (s : State) (idx c1 j : Nat) : Prop := (Cond.fieldLink own idx (ox_F c1 j).1 (ox_F c1 j).2.1 (ox_F c1 j).2.2.1).before args s = true ∨ (Cond.fieldLinkNest own idx (ox_F c1 j).1 (ox_F c1 j).2.1 (ox_F c1 j).2.2.1 "Outlinery").before args s = true
theorem ox_rok_obj {tl t k j : Nat} (h : ox_rok tl (t, k, j)) (h1 : t < 11) : (t, k, j) ∈ ox_L tl ∧ j = 0 ∧ k < ox_pool t := by
  have hr : (t, k, j) ∈ ox_L tl := by
    rcases h with h | ⟨h, -⟩ | h | h
    · exact h
    · have : t = 200 := h; omega
    · have : t = 122 := congrArg Prod.fst h
      omega
    · have : t = 999 := h; omega
  have := ox_rb_obj (ox_L_rb hr) (by show t < 100; omega)
  exact ⟨hr, this.2.2, this.2.1⟩
theorem ox_r_gf (C : ox_Cx p l R s m args meth c G mc ms n cc own) {idx c1 j kd c2 k2 : Nat} {fr : List Nat} (hd : decode cc pc = .ok (.getfield idx, 3)) (hc : ox_fc c1 j kd c2 k2) (hl : ox_fl own args s idx c1 j) {g : List ox_V → Option ox_O} {o : ox_O} (h : ox_gf (c1 :: j :: kd :: c2 :: k2 :: fr) σ st g = some o)
    (k : ∀ st', g st' = some o → ox_S9 p l e R s m args below meth c G mc ms n Q (pc + 3) b tl ls st' σ) : ox_S9 p l e R s m args below meth c G mc ms n Q pc b tl ls st σ := by
  intro H locs cells slots arr h1 h2 h3 h4 h5 h6 h7
  have hK := ox_tys_at C
  rcases st with _ | ⟨y | y | ⟨t, u, z⟩, r⟩ <;> try cases h
  unfold ox_gf at h
  dsimp only at h
  by_cases ht : t = c1
  rotate_left
  · rw [if_neg ht] at h; cases h
  rw [if_pos ht] at h
  subst ht
  obtain ⟨hr, h55⟩ := List.forall_mem_cons.mp h5
  obtain ⟨hc1, hj, hk⟩ := hc
  obtain ⟨hr, rfl, hu⟩ := ox_rok_obj hr hc1
  obtain ⟨q, hq, he⟩ := ox_Wd_at h1 hr
  rw [ox_ent_obj hc1] at he
  have kk : ∀ v : ox_V, ox_mv G v = ox_fv G σ t u j → ox_ok tl v → g (v :: r) = some o → W p l e R s m args below meth c H locs cells slots Q (F0 m pc arr ((ox_r t u 0 :: r).map (ox_mv G))) := by
    intro v hv hok hg
    have zz := k _ hg H locs cells slots arr h1 h2 h3 h4 (ox_okc hok h55) h6 h7
    rw [List.map_cons, hv] at zz
    rcases hl with hl | hl
    · exact va_get (C := ox_cn t) (T := ox_F t) (N := ox_nf t) C.1 C.2.1 C.2.2.2.2.1 (ox_lays_in hc1) C.2.2.2.1 hK h1.1 q he (ox_cls_at hc1) j hj hl (fun _ h9 => h9) (ox_fs_at hj) hd zz
    · exact va_getN (C := ox_cn t) (T := ox_F t) (N := ox_nf t) C.1 C.2.1 C.2.2.2.2.1 (ox_lays_in hc1) C.2.2.2.1 hK h1.1 q he (ox_cls_at hc1) j hj hl (fun _ h9 => h9) (ox_fs_at hj) hd zz
  rcases hk with ⟨rfl, hk⟩ | ⟨rfl, hk⟩ | ⟨rfl, hk, -, hty⟩ | ⟨rfl, hk, -, hty⟩
  · exact kk (.inr (.inr (100 + t, u, j))) (ox_fv_1 hk).symm (Or.inl (ox_L_up (ox_L_arr t hc1 u hu j hj hk))) h
  · have hz := ox_fk_ref t hc1 j hj (by rw [hk])
    rw [hk] at hz
    exact kk (.inr (.inr (c2, k2, 0))) (ox_fv_2 hk).symm (Or.inl (ox_L_up (ox_L_obj c2 hz.1 k2 hz.2))) h
  · exact kk (.inl (σ t u j 0)) (ox_fv_0 hk).symm (ox_vok_32 (ox_ty_lt hc1) (h1.2.2.1 t u j 0)) h
  · exact kk (.inl (σ t u j 0)) (ox_fv_0 hk).symm (ox_vok_32 (ox_ty_lt hc1) (h1.2.2.1 t u j 0)) h
theorem ox_char_of {v : Int} (h : 0 ≤ v ∧ v < 65536) : narrow .char (.int (Int32.ofInt v)) = .int (Int32.ofInt v) ∧ fits .char (.int (Int32.ofInt v)) = true := by
  have e : Int32.ofInt v = nI v.toNat := by rw [ox_nIof]; congr 1; omega
  rw [e]
  exact pk_charN (by omega)
theorem ox_r_pf (C : ox_Cx p l R s m args meth c G mc ms n cc own) {idx c1 j kd c2 k2 : Nat} {fr : List Nat} (hd : decode cc pc = .ok (.putfield idx, 3)) (hc : ox_fc c1 j kd c2 k2) (hfin : (ox_F c1 j).2.2.2 = false) (hl : ox_fl own args s idx c1 j) {g : List ox_V → ox_H → Option ox_O} {o : ox_O} (h : ox_pf (c1 :: j :: kd :: fr) σ st g = some o)
    (k : ∀ st' σ', g st' σ' = some o → ox_S9 p l e R s m args below meth c G mc ms n Q (pc + 3) b tl ls st' σ') : ox_S9 p l e R s m args below meth c G mc ms n Q pc b tl ls st σ := by
  intro H locs cells slots arr h1 h2 h3 h4 h5 h6 h7
  have hK := ox_tys_at C
  rcases st with _ | ⟨v | v | v, _ | ⟨y | y | ⟨t, u, z⟩, r⟩⟩ <;> try cases h
  unfold ox_pf at h
  dsimp only at h
  by_cases ht : t = c1
  rotate_left
  · rw [if_neg ht] at h; cases h
  rw [if_pos ht] at h
  subst ht
  obtain ⟨hv, h5⟩ := List.forall_mem_cons.mp h5
  obtain ⟨hr, h55⟩ := List.forall_mem_cons.mp h5
  have hv : ox_i32 v := hv
  obtain ⟨hc1, hj, hk⟩ := hc
  obtain ⟨hr, rfl, hu⟩ := ox_rok_obj hr hc1
  obtain ⟨q, hq, he⟩ := ox_Wd_at h1 hr
  rw [ox_ent_obj hc1] at he
  have hc22 : t ≠ 22 := by omega
  have kk : (ox_fk t j).1 = 0 → narrow (ox_T t j) (.int (Int32.ofInt v)) = .int (Int32.ofInt v) → fits (ox_T t j) (.int (Int32.ofInt v)) = true → ox_vok (ox_ty t j) v → g r (ox_up σ t u j 0 v) = some o → W p l e R s m args below meth c H locs cells slots Q (F0 m pc arr ((ox_i v :: ox_r t u 0 :: r).map (ox_mv G))) := by
    intro hk hn hf hok hg
    have hset : (ox_ws G tl σ).set q (ox_ad G (t, u, 0), .inr (t, ((List.range (ox_nf t)).map (fun j => ox_fv G σ t u j)).set j (.int (Int32.ofInt v)))) = ox_ws G tl (ox_up σ t u j 0 v) := by
      refine ox_ws_set hq (ox_but_objs ox_but_up hc1 hk hu) ?_
      rw [ox_ent_obj hc1]
      congr 2
      refine (ox_fs_set ?_ ?_).symm
      · rw [ox_fv_0 hk]
        unfold ox_up
        rw [if_pos ⟨rfl, rfl, rfl, rfl⟩]
      · intro j' _ hne
        have : ox_up σ t u j 0 v t u j' = σ t u j' := funext fun i => ox_but_up t u j' (fun w => hne w.2.1) i
        unfold ox_fv
        rw [this]
    have fin : ∀ (H1 : Heap) (locs1 : List Loc), va_P (ox_D G) ox_cls ((ox_ws G tl σ).set q (ox_ad G (t, u, 0), .inr (t, ((List.range (ox_nf t)).map (fun j => ox_fv G σ t u j)).set j (.int (Int32.ofInt v))))) H1 → va_D (ox_A G) ((ox_ws G tl σ).set q (ox_ad G (t, u, 0), .inr (t, ((List.range (ox_nf t)).map (fun j => ox_fv G σ t u j)).set j (.int (Int32.ofInt v))))) → va_S (ox_A G) s.heap H1 locs1 → W p l e R s m args below meth c H1 locs1 cells slots Q (F0 m (pc + 3) arr (r.map (ox_mv G))) := by
      intro H1 locs1 hP hD hS
      rw [hset] at hP hD
      exact k _ _ hg H1 locs1 cells slots arr (ox_Wd_to C h1 h2 hS ox_but_up hc22 (ox_sok_up h1.2.2.1 hok) hP hD) hS h3 h4 h55 h6 h7
    rcases hl with hl | hl
    · exact va_put (C := ox_cn t) (T := ox_F t) (N := ox_nf t) C.1 C.2.1 C.2.2.2.2.1 (ox_lays_in hc1) (ox_T t) (ox_T_ok t hc1) (ox_F_apart t hc1) C.2.2.2.1 hK h1.1 h1.2.1 h2 q he (ox_cls_at hc1) j hj hl (fun _ h9 => h9) hfin (ox_T_ok t hc1 j hj) hn hf (by simpa using hj) hd fin
    · exact va_putN (C := ox_cn t) (T := ox_F t) (N := ox_nf t) C.1 C.2.1 C.2.2.2.2.1 (ox_lays_in hc1) (ox_T t) (ox_T_ok t hc1) (ox_F_apart t hc1) C.2.2.2.1 hK h1.1 h1.2.1 h2 q he (ox_cls_at hc1) j hj hl (fun _ h9 => h9) hfin (ox_T_ok t hc1 j hj) hn hf (by simpa using hj) hd fin
  rcases hk with ⟨rfl, hk⟩ | ⟨rfl, hk⟩ | ⟨rfl, hk, hT, hty⟩ | ⟨rfl, hk, hT, hty⟩
  · cases h
  · cases h
  · exact kk hk (by rw [hT]; rfl) (by rw [hT]; rfl) (by rw [hty]; exact hv) h
  · by_cases hb : 0 ≤ v ∧ v < 65536
    · have h : (if 0 ≤ v ∧ v < 65536 then g r (ox_up σ t u j 0 v) else none) = some o := h
      rw [if_pos hb] at h
      exact kk hk (by rw [hT]; exact (ox_char_of hb).1) (by rw [hT]; exact (ox_char_of hb).2) (by rw [hty]; exact hb) h
    · have h : (if 0 ≤ v ∧ v < 65536 then g r (ox_up σ t u j 0 v) else none) = some o := h
      rw [if_neg hb] at h; cases h
end OX15
