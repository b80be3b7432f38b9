/-! ===== how the objects are made: a small machine over a list of cells ===== -/
abbrev ob_F : Type := Int ⊕ Option Nat
abbrev ob_E : Type := (Nat × List ob_F) ⊕ (Nat × Nat × List (Nat × Nat))
abbrev ob_B : Type := List ob_E
def ob_lk (rs : List (Nat × Nat)) (i : Nat) : Option Nat := match rs with | [] => none | q :: r => if i = q.1 then some q.2 else ob_lk r i
def ob_df (c : Nat) : List ob_F := (List.range (ox_nf c)).map fun j => if (ox_fk c j).1 = 0 then .inl 0 else .inr none
def ob_fm (as : List Nat) (v : ob_F) : Value := match v with | .inl x => .int (Int32.ofInt x) | .inr none => .null | .inr (some k) => .ref (as.getD k 0)
def ob_ent (G : ox_G) (as : List Nat) (x : ob_E) : va_E := match x with
  | .inl o => .inr (o.1, o.2.map (ob_fm as))
  | .inr a => .inl (ox_cA G a.1, (a.2.1, match a.1 with
    | 3 => .inr (.inr (.inr (.inr (fun i => (ob_lk a.2.2 i).map (fun k => as.getD k 0)))))
    | 4 => .inr (.inl (fun _ => 0))
    | _ => .inl (fun _ => 0)))
def ob_ws (G : ox_G) (as : List Nat) (B : ob_B) : va_W := List.zipWith (fun a x => (a, ob_ent G as x)) as B
def ob_G (G : ox_G) (as : List Nat) : ox_G := (G.1, G.2.1, fun r => if r.1 = 500 then as.getD r.2.1 0 else ox_ad G r, G.2.2.2.1, G.2.2.2.2)
def ob_vk (n : Nat) (v : ox_V) : Bool := match v with | .inr (.inr r) => if r.1 = 500 then decide (r.2.1 < n ∧ r.2.2 = 0) else true | _ => true
def ob_fk (n : Nat) (v : ob_F) : Bool := match v with | .inr (some k) => decide (k < n) | _ => true
def ob_xk (n : Nat) (x : ob_E) : Prop := match x with | .inl o => ∀ v ∈ o.2, ob_fk n v = true | .inr a => ∀ q ∈ a.2.2, q.2 < n
def ob_wf (B : ob_B) : Prop := ∀ x ∈ B, ob_xk B.length x
abbrev ob_X : Type := Nat × Nat × Nat × List ox_V × List ox_V × ob_B
/-- a constructor: its class, its code, its locals, its cells, its fields and elements -/
abbrev ob_M : Type := Nat × (Nat → Option ox_I) × Nat × Nat × Nat
abbrev ob_C : Type := Nat → List ox_V → ob_B → Option ob_B
abbrev ob_r (k : Nat) : ox_V := .inr (.inr (500, k, 0))
def ob_call (C : ob_C) (ms : Nat → Option ob_M) (pc b d : Nat) (ls st : List ox_V) (B : ob_B) (y np : Nat) : Option (ob_X ⊕ ob_B) := match ms y with
  | none => none
  | some M => if np + 1 ≤ st.length ∧ M.2.2.2.1 ≤ b ∧ M.2.2.2.2 ≤ d ∧ ox_sc (st.drop (np + 1)) ≤ 8 then (match (st.take (np + 1)).reverse with
    | .inr (.inr (500, k, 0)) :: r => (match C y (.inr (.inr (500, k, 0)) :: r) B with
      | some B' => some (.inl (pc + 3, b - M.2.2.2.1, d - M.2.2.2.2, ls, st.drop (np + 1), B'))
      | none => none)
    | _ => none) else none
def ob_st (M : ob_M) (C : ob_C) (ms : Nat → Option ob_M) (x : ob_X) : Option (ob_X ⊕ ob_B) :=
  match x with
  | (pc, b, d, ls, st, B) => match M.2.1 pc with
  | none => none
  | some (i, n, f) => match i with
    | .iconst x => some (.inl (pc + n, b, d, ls, .inl x :: st, B))
    | .bipush x => some (.inl (pc + n, b, d, ls, .inl x :: st, B))
    | .sipush x => some (.inl (pc + n, b, d, ls, .inl x :: st, B))
    | .iload_n k => (match ls[k.val]? with | some (.inl v) => some (.inl (pc + n, b, d, ls, .inl v :: st, B)) | _ => none)
    | .aload_n k => (match ls[k.val]? with | some (.inr (.inr r)) => if r.1 < 999 then some (.inl (pc + n, b, d, ls, .inr (.inr r) :: st, B)) else none | _ => none)
    | .istore_n k => (match st with | .inl v :: r => if k.val < M.2.2.1 then some (.inl (pc + n, b, d, ox_set ls k.val (.inl v), r, B)) else none | _ => none)
    | .istore k => (match st with | .inl v :: r => if k < M.2.2.1 then some (.inl (pc + n, b, d, ox_set ls k (.inl v), r, B)) else none | _ => none)
    | .astore_n k => (match st with | .inr (.inr v) :: r => if k.val < M.2.2.1 then some (.inl (pc + n, b, d, ox_set ls k.val (.inr (.inr v)), r, B)) else none | _ => none)
    | .dup => (match st with | v :: r => if ox_2 v then none else some (.inl (pc + n, b, d, ls, v :: v :: r, B)) | _ => none)
    | .imul => (match st with | .inl y :: .inl x :: r => some (.inl (pc + n, b, d, ls, .inl (ox_w (x * y)) :: r, B)) | _ => none)
    | .iinc k z => (match ls[k]? with | some (.inl v) => if k < M.2.2.1 then some (.inl (pc + n, b, d, ox_set ls k (.inl (ox_w (v + z))), st, B)) else none | _ => none)
    | .if_icmp .ge o => (match st with | .inl y :: .inl x :: r => if -2147483648 ≤ x ∧ x < 2147483648 ∧ -2147483648 ≤ y ∧ y < 2147483648 then (if y ≤ x then some (.inl (ox_tgt pc o, b, d, ls, r, B)) else some (.inl (pc + n, b, d, ls, r, B))) else none | _ => none)
    | .goto o => some (.inl (ox_tgt pc o, b, d, ls, st, B))
    | .new _ => (match f, b with | c :: _, b + 1 => if ox_nf c ≤ d then some (.inl (pc + n, b, d - ox_nf c, ls, ob_r B.length :: st, B ++ [.inl (c, ob_df c)])) else none | _, _ => none)
    | .newarray _ => (match f, b, st with | ty :: _, b + 1, .inl z :: r => if 0 ≤ z ∧ z < 100000 ∧ z.toNat ≤ d then some (.inl (pc + n, b, d - z.toNat, ls, ob_r B.length :: r, B ++ [.inr (ty, z.toNat, [])])) else none | _, _, _ => none)
    | .anewarray _ => (match b, st with | b + 1, .inl z :: r => if 0 ≤ z ∧ z < 100000 ∧ z.toNat ≤ d then some (.inl (pc + n, b, d - z.toNat, ls, ob_r B.length :: r, B ++ [.inr (3, z.toNat, [])])) else none | _, _ => none)
    | .aastore => (match st with | .inr (.inr (500, v, 0)) :: .inl z :: .inr (.inr (500, a, 0)) :: r => (match B[a]?, B[v]? with | some (.inr (3, m, rs)), some (.inl (4, _)) => (if 0 ≤ z ∧ z < 100000 ∧ z.toNat < m then some (.inl (pc + n, b, d, ls, r, B.set a (.inr (3, m, (z.toNat, v) :: rs)))) else none) | _, _ => none) | _ => none)
    | .putfield _ => (match f, st with
      | c :: j :: _, .inl x :: .inr (.inr (500, a, 0)) :: r => (match B[a]? with | some (.inl o) => if o.1 = c ∧ j < o.2.length ∧ (ox_fk c j).1 = 0 then some (.inl (pc + n, b, d, ls, r, B.set a (.inl (c, o.2.set j (.inl x))))) else none | _ => none)
      | c :: j :: _, .inr (.inr (500, k, 0)) :: .inr (.inr (500, a, 0)) :: r => (match B[a]? with | some (.inl o) => if o.1 = c ∧ j < o.2.length ∧ (ox_fk c j).1 ≠ 0 ∧ k < B.length then some (.inl (pc + n, b, d, ls, r, B.set a (.inl (c, o.2.set j (.inr (some k)))))) else none | _ => none)
      | _, _ => none)
    | .getfield _ => (match f, st with
      | c :: j :: _, .inr (.inr (500, a, 0)) :: r => (match B[a]? with | some (.inl o) => if o.1 = c then (match o.2[j]? with | some (.inr (some k)) => some (.inl (pc + n, b, d, ls, ob_r k :: r, B)) | _ => none) else none | _ => none)
      | _, _ => none)
    | .invokespecial _ => (match f with
      | 0 :: _ => (match st with | .inr (.inr (500, a, 0)) :: r => if ox_sc r ≤ 8 then some (.inl (pc + n, b, d, ls, r, B)) else none | _ => none)
      | 1 :: y :: np :: _ => ob_call C ms pc b d ls st B y np
      | _ => none)
    | .return_ => (match st with | [] => some (.inr B) | _ => none)
    | _ => none
def ob_ir (q : Option ox_I) (st : List ox_V) : Bool := match q, st with | some (.return_, _, _), [] => true | _, _ => false
def ob_run (M : ob_M) (C : ob_C) (ms : Nat → Option ob_M) (n : Nat) : ob_X → Option ob_B :=
  Nat.rec (motive := fun _ => ob_X → Option ob_B) (fun _ => none) (fun _ ih x => bif ob_ir (M.2.1 x.1) x.2.2.2.2.1 then some x.2.2.2.2.2 else match ob_st M C ms x with | some (.inl x) => ih x | _ => none) n
def ob_zz (ms : Nat → Option ob_M) (d : Nat) : ob_C :=
  Nat.rec (motive := fun _ => ob_C) (fun _ _ _ => none) (fun _ ih y av B => match ms y with | none => none | some M => bif Nat.ble (ox_sc av) M.2.2.1 then ob_run M ih ms 2000 (0, M.2.2.2.1, M.2.2.2.2, ox_in M.2.2.1 av, [], B) else none) d
/-- the law's head: to its place P -/
def ob_to (M : ob_M) (C : ob_C) (ms : Nat → Option ob_M) (P n : Nat) : ob_X → Option ob_X :=
  Nat.rec (motive := fun _ => ob_X → Option ob_X) (fun _ => none) (fun _ ih x => if x.1 = P then some x else match ob_st M C ms x with | some (.inl x) => ih x | _ => none) n
/-! cells and their addresses -/
theorem ob_get {as : List Nat} {n k : Nat} (h : as.length = n) (hk : k < n) : as[k]? = some (as.getD k 0) := by
  rw [List.getD_eq_getElem?_getD, List.getElem?_eq_getElem (by omega)]
  rfl
theorem ob_getD_app {as t : List Nat} {k : Nat} (h : k < as.length) : (as ++ t).getD k 0 = as.getD k 0 := by
  rw [List.getD_eq_getElem?_getD, List.getD_eq_getElem?_getD, List.getElem?_append_left h]
theorem ob_ws_get {G : ox_G} {as : List Nat} {B : ob_B} (i : Nat) : (ob_ws G as B)[i]? = (as[i]?).bind fun a => (B[i]?).map fun x => (a, ob_ent G as x) := by
  unfold ob_ws
  rw [List.getElem?_zipWith]
  cases as[i]? <;> cases B[i]? <;> rfl
theorem ob_ws_at {G : ox_G} {as : List Nat} {B : ob_B} {k : Nat} {x : ob_E} (hl : as.length = B.length) (h : B[k]? = some x) : (ob_ws G as B)[k]? = some (as.getD k 0, ob_ent G as x) := by
  rw [ob_ws_get, ob_get hl (List.getElem?_eq_some_iff.mp h).1, h]
  rfl
theorem ob_fm_app {as t : List Nat} {v : ob_F} (h : ob_fk as.length v = true) : ob_fm (as ++ t) v = ob_fm as v := by
  rcases v with x | _ | k
  · rfl
  · rfl
  · show Value.ref _ = Value.ref _
    rw [ob_getD_app (of_decide_eq_true h)]
theorem ob_lk_mem : ∀ (rs : List (Nat × Nat)) (i k : Nat), ob_lk rs i = some k → (i, k) ∈ rs
  | [], _, _, h => by cases h
  | q :: r, i, k, h => by
    unfold ob_lk at h
    by_cases hi : i = q.1
    · rw [if_pos hi] at h; cases h; rw [hi]; exact List.mem_cons_self
    · rw [if_neg hi] at h; exact List.mem_cons_of_mem _ (ob_lk_mem r i k h)
theorem ob_ent_app {G : ox_G} {as t : List Nat} {x : ob_E} (h : ob_xk as.length x) : ob_ent G (as ++ t) x = ob_ent G as x := by
  rcases x with ⟨c, fs⟩ | ⟨ty, n, rs⟩
  · show (Sum.inr (c, fs.map _) : va_E) = Sum.inr (c, fs.map _)
    rw [List.map_congr_left fun v hv => ob_fm_app (h v hv)]
  · have e : (fun i => (ob_lk rs i).map (fun k => (as ++ t).getD k 0)) = fun i => (ob_lk rs i).map (fun k => as.getD k 0) := by
      funext i
      cases hk : ob_lk rs i with
      | none => rfl
      | some k => exact congrArg some (ob_getD_app (h (i, k) (ob_lk_mem _ _ _ hk)))
    unfold ob_ent
    dsimp only
    rw [e]
theorem ob_ws_push {G : ox_G} {as : List Nat} {B : ob_B} {q : Nat} {x : ob_E} (hl : as.length = B.length) (hw : ob_wf B) : ob_ws G (as ++ [q]) (B ++ [x]) = ob_ws G as B ++ [(q, ob_ent G (as ++ [q]) x)] := by
  unfold ob_ws
  rw [List.zipWith_append hl]
  congr 1
  apply List.ext_getElem?
  intro i
  rw [List.getElem?_zipWith, List.getElem?_zipWith]
  cases ha : as[i]? with
  | none => rfl
  | some a =>
    cases hb : B[i]? with
    | none => rfl
    | some y =>
      have : ob_ent G (as ++ [q]) y = ob_ent G as y := ob_ent_app (by rw [hl]; exact hw y (List.mem_of_getElem? hb))
      dsimp only
      rw [this]
theorem ob_ws_set {G : ox_G} {as : List Nat} {B : ob_B} {a : Nat} {x : ob_E} (hl : as.length = B.length) : (ob_ws G as B).set a (as.getD a 0, ob_ent G as x) = ob_ws G as (B.set a x) := by
  apply List.ext_getElem?
  intro i
  rw [List.getElem?_set, ob_ws_get, ob_ws_get, List.getElem?_set]
  by_cases hi : a = i
  · subst hi
    rw [if_pos rfl, if_pos rfl]
    have hll : (ob_ws G as B).length = B.length := by unfold ob_ws; rw [List.length_zipWith, hl, Nat.min_self]
    by_cases hk : a < B.length
    · rw [if_pos (by rw [hll]; exact hk), if_pos hk, ob_get hl hk]
      rfl
    · rw [if_neg (by rw [hll]; exact hk), if_neg hk]
      cases as[a]? <;> rfl
  · rw [if_neg hi, if_neg hi]
theorem ob_mv_app {G : ox_G} {as t : List Nat} {v : ox_V} (h : ob_vk as.length v = true) : ox_mv (ob_G G (as ++ t)) v = ox_mv (ob_G G as) v := by
  rcases v with x | x | ⟨r, k, j⟩
  · rfl
  · rfl
  · show Value.ref (if r = 500 then (as ++ t).getD k 0 else _) = Value.ref (if r = 500 then as.getD k 0 else _)
    by_cases hr : r = 500
    · subst hr
      have h : decide (k < as.length ∧ j = 0) = true := h
      rw [if_pos rfl, if_pos rfl, ob_getD_app (of_decide_eq_true h).1]
    · rw [if_neg hr, if_neg hr]
theorem ob_map_app {G : ox_G} {as t : List Nat} {st : List ox_V} (h : ∀ v ∈ st, ob_vk as.length v = true) : st.map (ox_mv (ob_G G (as ++ t))) = st.map (ox_mv (ob_G G as)) := List.map_congr_left fun v hv => ob_mv_app (h v hv)
theorem ob_lr_app {G : ox_G} {as t : List Nat} {ls : List ox_V} {n : Nat} {arr : Array Slot} (h : ox_lr (ob_G G as) ls n arr) (hv : ∀ v ∈ ls, ob_vk as.length v = true) : ox_lr (ob_G G (as ++ t)) ls n arr := by
  refine ⟨h.1, h.2.1, fun i v hi hd => ?_⟩
  rw [ob_mv_app (hv v (List.mem_of_getElem? hi))]
  exact h.2.2 i v hi hd
theorem ob_vk_le {n n' : Nat} {v : ox_V} (hn : n ≤ n') (h : ob_vk n v = true) : ob_vk n' v = true := by
  rcases v with x | x | ⟨r, k, j⟩
  · rfl
  · rfl
  · unfold ob_vk at h ⊢
    dsimp only at h ⊢
    by_cases hr : r = 500
    · rw [if_pos hr] at h ⊢
      have h := of_decide_eq_true h
      exact decide_eq_true ⟨by omega, h.2⟩
    · rw [if_neg hr]
theorem ob_fk_le {n n' : Nat} {v : ob_F} (hn : n ≤ n') (h : ob_fk n v = true) : ob_fk n' v = true := by
  rcases v with x | _ | k
  · rfl
  · rfl
  · have h := of_decide_eq_true (show decide (k < n) = true from h)
    exact decide_eq_true (by omega)
theorem ob_xk_le {n n' : Nat} {x : ob_E} (hn : n ≤ n') (h : ob_xk n x) : ob_xk n' x := by
  rcases x with o | a
  · exact fun v hv => ob_fk_le hn (h v hv)
  · exact fun q hq => Nat.lt_of_lt_of_le (h q hq) hn
theorem ob_wf_push {B : ob_B} {x : ob_E} (h : ob_wf B) (hx : ob_xk (B.length + 1) x) : ob_wf (B ++ [x]) := by
  intro y hy
  rw [List.length_append, List.length_singleton]
  rcases List.mem_append.mp hy with hy | hy
  · exact ob_xk_le (Nat.le_succ _) (h y hy)
  · rw [List.mem_singleton.mp hy]; exact hx
theorem ob_wf_set {B : ob_B} {a : Nat} {x : ob_E} (h : ob_wf B) (hx : ob_xk B.length x) : ob_wf (B.set a x) := by
  intro y hy
  rw [List.length_set]
  rcases List.mem_or_eq_of_mem_set hy with hy | rfl
  · exact h y hy
  · exact hx
theorem ob_vk_set {k : Nat} {ls : List ox_V} {i : Nat} {v : ox_V} (h : ∀ u ∈ ls, ob_vk k u = true) (hv : ob_vk k v = true) : ∀ u ∈ ox_set ls i v, ob_vk k u = true := by
  intro u hu
  obtain ⟨j, hj⟩ := List.getElem?_of_mem hu
  rcases ox_set_at ls i v u j hj with ⟨_, rfl⟩ | ⟨_, rfl⟩ | ⟨_, h2, _⟩
  · exact hv
  · rfl
  · exact h u (List.mem_of_getElem? h2)
theorem ob_df_fm {c : Nat} {as : List Nat} : (ob_df c).map (ob_fm as) = (ob_df c).map (ob_fm []) := by
  apply List.map_congr_left
  intro v hv
  obtain ⟨j, -, rfl⟩ := List.mem_map.mp hv
  show ob_fm as (if (ox_fk c j).1 = 0 then .inl 0 else .inr none) = ob_fm [] (if (ox_fk c j).1 = 0 then .inl 0 else .inr none)
  split <;> rfl
theorem ob_df_k {c n : Nat} : ∀ v ∈ ob_df c, ob_fk n v = true := by
  intro v hv
  obtain ⟨j, -, rfl⟩ := List.mem_map.mp hv
  show ob_fk n (if (ox_fk c j).1 = 0 then .inl 0 else .inr none) = true
  split <;> rfl
theorem ob_df_ok : ∀ c, c < 11 → ∀ j, j < ox_nf c → defaultValue (ox_T c j) = vp_V ((ob_df c).map (ob_fm [])) j := by decide +kernel
