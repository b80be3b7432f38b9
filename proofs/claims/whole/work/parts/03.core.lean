/-! ===== a machine over whole numbers: values, heap, steps =====
values: a whole number of an int, of a long, or a reference (kind, number, field): kinds 0 to 11 objects of the own classes, 100 + c the array in a field of an object of class c, 120 the array that renumber makes, 121 the law's long row, 122 the script, 200 a String constant, 300 + e an exception, 999 nothing known.
heap: class, number, field, place. -/
abbrev ox_V : Type := Int ⊕ (Int ⊕ (Nat × Nat × Nat))
abbrev ox_H : Type := Nat → Nat → Nat → Nat → Int
abbrev ox_O : Type := (Option ox_V ⊕ Nat) × ox_H
abbrev ox_I : Type := Instr × Nat × List Nat
/-- a method: its class, its code, what dies where, its cost, its locals, its return (0 void, 1 int, 2 char, 3 boolean, 4 reference), its handlers (behind their astore, and its place) -/
abbrev ox_M : Type := Nat × (Nat → Option ox_I) × (Nat → List Nat) × Nat × Nat × Nat × (Nat → Nat → Option (Nat × Nat))
abbrev ox_K : Type := Nat → Nat → Nat → List ox_V → List ox_V → ox_H → Option ox_O
abbrev ox_C : Type := Nat → Nat → List ox_V → ox_H → Option ox_O
def ox_w (x : Int) : Int := (x + 2147483648) % 4294967296 - 2147483648
def ox_wl (x : Int) : Int := (x + 9223372036854775808) % 18446744073709551616 - 9223372036854775808
def ox_and (x y : Int) : Int := (Int32.ofInt x &&& Int32.ofInt y).toInt
def ox_or (x y : Int) : Int := (Int32.ofInt x ||| Int32.ofInt y).toInt
def ox_shl (x y : Int) : Int := (Int32.ofInt x <<< (Int32.ofInt y &&& 31)).toInt
abbrev ox_d : ox_V := .inr (.inr (999, 0, 0))
abbrev ox_i (x : Int) : ox_V := .inl x
abbrev ox_l (x : Int) : ox_V := .inr (.inl x)
abbrev ox_r (t k j : Nat) : ox_V := .inr (.inr (t, k, j))
def ox_up (σ : ox_H) (c k j i : Nat) (v : Int) : ox_H := fun c' k' j' i' => if c' = c ∧ j' = j ∧ k' = k ∧ i' = i then v else σ c' k' j' i'
/-- n places of the row (c, k, j) from dp on are those of the row (c0, k0, j0) from sp on -/
def ox_cp (σ : ox_H) (c0 k0 j0 sp c k j dp n : Nat) : ox_H := fun c' k' j' i' => if c' = c ∧ j' = j ∧ k' = k ∧ dp ≤ i' ∧ i' < dp + n then σ c0 k0 j0 (sp + (i' - dp)) else σ c' k' j' i'
def ox_nw (σ : ox_H) : ox_H := fun c k j i => if c = 20 then 0 else σ c k j i
def ox_c (x y : Nat) : Int := (x : Int) - (y : Int)
/-- widths of the rows of Lines: text, moved, the export's, seen, the archive's -/
def ox_ln (k : Nat) : Nat := if k = 2 then 100 else if k = 4 then 300 else 60
def ox_wd (k : Nat) : Nat := if k = 2 then 48 else 24
/-- what a field or a row holds: 0 ints, 1 chars, 2 booleans, 3 references, 4 longs -/
def ox_ty (c j : Nat) : Nat :=
  if c = 10 then 0 else if c = 1 then (if j = 2 then 1 else 0) else if c = 2 then (if j = 3 then 3 else 0) else if c = 3 then (if j = 2 then 1 else 0)
  else if c = 4 then (if j = 6 then 1 else 0) else if c = 6 then (if j = 3 then 1 else 0) else if c = 8 then (if j = 3 then 2 else 0) else if c = 9 then (if j = 2 then 1 else 0) else if c = 21 then 4 else 0
/-- how many places the rows of the reference have -/
def ox_lenM (j : Nat) : Nat :=
  if j < 22 then (if j = 0 then 1440 else if j = 1 then 60 else if j = 3 then 1440 else if j = 4 then 60 else if j = 6 then 7200 else if j = 7 then 300 else if j = 8 then 5 else if j = 9 then 5 else 61)
  else if j < 35 then (if j = 25 then 26 else if j = 26 then 26 else if j = 27 then 1500 else if j = 28 then 1500 else 4)
  else (if j = 35 then 10 else if j = 37 then 1440 else if j = 38 then 1440 else if j = 39 then 26 else if j = 40 then 26 else if j = 41 then 1440 else if j = 42 then 26 else if j = 43 then 12000 else 100)
def ox_len (σ : ox_H) (c k j : Nat) : Nat :=
  if c = 10 then ox_lenM j else if c = 1 then (if j = 2 then ox_ln k * ox_wd k else ox_ln k) else if c = 2 then 60 else if c = 3 then 24
  else if c = 5 then (if j = 2 then 720 else if j = 3 then 60 else 26) else if c = 6 then (if j < 2 then 60 else 720) else if c = 8 then 26 else if c = 9 then 5
  else if c = 20 then 10 else if c = 21 then 1 else (σ 22 0 1 0).toNat
/-- String constants that are read: TODO, WAIT, DONE, DROP with a blank behind, the empty one, TODO between blanks -/
def ox_sl (w : Nat) : Nat := if w < 4 then 5 else if w = 4 then 0 else 6
def ox_sa (w i : Nat) : Int :=
  if w = 0 then [84, 79, 68, 79, 32].getD i 0 else if w = 1 then [87, 65, 73, 84, 32].getD i 0 else if w = 2 then [68, 79, 78, 69, 32].getD i 0 else if w = 3 then [68, 82, 79, 80, 32].getD i 0 else [32, 84, 79, 68, 79, 32].getD i 0
/-- does the value take two places -/
def ox_2 (v : ox_V) : Bool := match v with | .inr (.inl _) => true | _ => false
def ox_sc (st : List ox_V) : Nat := match st with | [] => 0 | v :: r => (if ox_2 v then 2 else 1) + ox_sc r
def ox_set (ls : List ox_V) (i : Nat) (v : ox_V) : List ox_V :=
  match ls, i with
  | [], _ => []
  | _ :: r, 0 => v :: r
  | u :: r, 1 => (if ox_2 u then ox_d else u) :: (match r with | [] => [] | _ :: r' => v :: r')
  | u :: r, i + 2 => u :: ox_set r (i + 1) v
def ox_kl (ks : List Nat) (ls : List ox_V) : List ox_V := match ks with | [] => ls | k :: r => ox_kl r (ls.set k ox_d)
def ox_tgt (pc : Nat) (off : Int) : Nat := ((pc : Int) + off).toNat
def ox_sw (x : Int) (f : List Nat) (k : Nat → Option ox_O) : Option ox_O := match f with
  | [d] => k d
  | v :: t :: r => if x = (v : Int) then k t else ox_sw x r k
  | [] => none
def ox_bin (f : Int → Int → Int) (st : List ox_V) (k : List ox_V → Option ox_O) : Option ox_O := match st with
  | .inl y :: .inl x :: r => k (.inl (f x y) :: r)
  | _ => none
def ox_binl (f : Int → Int → Int) (st : List ox_V) (k : List ox_V → Option ox_O) : Option ox_O := match st with
  | .inr (.inl y) :: .inr (.inl x) :: r => k (.inr (.inl (f x y)) :: r)
  | _ => none
def ox_cmp (cd : ClassFile.Cond) (x y : Int) (t f : Option ox_O) : Option ox_O := match cd with
  | .eq => if x = y then t else f
  | .ne => if x = y then f else t
  | .lt => if x < y then t else f
  | .ge => if y ≤ x then t else f
  | .gt => if y < x then t else f
  | .le => if x ≤ y then t else f
def ox_ald (ty : Nat) (σ : ox_H) (st : List ox_V) (k : List ox_V → Option ox_O) : Option ox_O := match st with
  | .inl i :: .inr (.inr (t, n, j)) :: r =>
    if 100 ≤ t ∧ t ≤ 122 ∧ ox_ty (t - 100) j = ty then (if 0 ≤ i ∧ i.toNat < ox_len σ (t - 100) n j then
      (match ty with | 3 => k (.inr (.inr (4, i.toNat, 0)) :: r) | 4 => k (.inr (.inl (σ (t - 100) n j i.toNat)) :: r) | _ => k (.inl (σ (t - 100) n j i.toNat) :: r)) else none) else none
  | _ => none
def ox_ast (ty : Nat) (g : Int → Int) (σ : ox_H) (st : List ox_V) (k : List ox_V → ox_H → Option ox_O) : Option ox_O := match st with
  | .inl v :: .inl i :: .inr (.inr (t, n, j)) :: r =>
    if 100 ≤ t ∧ t < 122 ∧ ox_ty (t - 100) j = ty ∧ ty ≤ 2 then (if 0 ≤ i ∧ i.toNat < ox_len σ (t - 100) n j then k r (ox_up σ (t - 100) n j i.toNat (g v)) else none) else none
  | .inr (.inl v) :: .inl i :: .inr (.inr (t, n, j)) :: r =>
    if 100 ≤ t ∧ t < 122 ∧ ox_ty (t - 100) j = ty ∧ ty = 4 then (if 0 ≤ i ∧ i.toNat < ox_len σ (t - 100) n j then k r (ox_up σ (t - 100) n j i.toNat v) else none) else none
  | _ => none
def ox_gf (f : List Nat) (σ : ox_H) (st : List ox_V) (k : List ox_V → Option ox_O) : Option ox_O := match f, st with
  | c :: j :: kd :: c2 :: k2 :: _, .inr (.inr (t, n, _)) :: r =>
    if t = c then (match kd with | 1 => k (.inr (.inr (100 + c, n, j)) :: r) | 2 => k (.inr (.inr (c2, k2, 0)) :: r) | _ => k (.inl (σ c n j 0) :: r)) else none
  | _, _ => none
def ox_pf (f : List Nat) (σ : ox_H) (st : List ox_V) (k : List ox_V → ox_H → Option ox_O) : Option ox_O := match f, st with
  | c :: j :: kd :: _, .inl v :: .inr (.inr (t, n, _)) :: r =>
    if t = c then (match kd with | 0 => k r (ox_up σ c n j 0 v) | 3 => if 0 ≤ v ∧ v < 65536 then k r (ox_up σ c n j 0 v) else none | _ => none) else none
  | _, _ => none
def ox_acp (σ : ox_H) (st : List ox_V) (k : List ox_V → ox_H → Option ox_O) : Option ox_O := match st with
  | [.inl n, .inl dp, .inr (.inr (t1, k1, j1)), .inl sp, .inr (.inr (t0, k0, j0))] =>
    if 100 ≤ t0 ∧ 100 ≤ t1 ∧ t0 < 122 ∧ t1 < 122 ∧ ox_ty (t0 - 100) j0 = ox_ty (t1 - 100) j1 ∧ ox_ty (t1 - 100) j1 ≤ 2 then
      (if 0 ≤ n ∧ 0 ≤ dp ∧ 0 ≤ sp ∧ sp + n ≤ ox_len σ (t0 - 100) k0 j0 ∧ dp + n ≤ ox_len σ (t1 - 100) k1 j1 then
        k [] (ox_cp σ (t0 - 100) k0 j0 sp.toNat (t1 - 100) k1 j1 dp.toNat n.toNat) else none) else none
  | _ => none
/-- what comes back of a call -/
def ox_back (M : ox_M) (pc : Nat) (rf : Nat) (rest : List ox_V) (o : Option ox_O) (k : Nat → Option Nat → List ox_V → ox_H → Option ox_O) : Option ox_O := match o with
  | none => none
  | some (.inl v, σ) => (match v with | none => (if rf % 2 = 0 then k (pc + 3) none rest σ else none) | some v => (if rf % 2 = 1 then k (pc + 3) none (v :: rest) σ else none))
  | some (.inr e, σ) => if 2 ≤ rf then none else (match M.2.2.2.2.2.2 pc e with | some h => k h.1 (some h.2) [] σ | none => if M.1 = 11 then none else some (.inr e, σ))
def ox_xl (x : Option Nat) (ls : List ox_V) : List ox_V := match x with | none => ls | some x => ox_set ls x ox_d
def ox_call (M : ox_M) (orc : ox_C) (k : ox_K) (pc b tl : Nat) (ls st : List ox_V) (σ : ox_H) (f : List Nat) : Option ox_O := match f with
  | 0 :: y :: n :: cost :: rc :: rf :: _ =>
    if n ≤ st.length ∧ ox_sc (st.drop n) ≤ 8 ∧ (match rc with | 0 => true | c + 1 => (match (st.take n).reverse with | .inr (.inr (t, _, _)) :: _ => t == c | _ => false)) = true then
      (if cost ≤ b then ox_back M pc rf (st.drop n) (orc y tl (st.take n).reverse σ) (fun pc' x' st' σ' => k pc' (b - cost) tl (ox_xl x' ls) st' σ') else none)
    else none
  | 1 :: _ => if ox_sc st ≤ 20 then ox_bin (fun x y => if x < y then y else x) st (fun st => k (pc + 3) b tl ls st σ) else none
  | 2 :: _ => if ox_sc st ≤ 20 then ox_bin (fun x y => if y < x then y else x) st (fun st => k (pc + 3) b tl ls st σ) else none
  | 3 :: _ => if ox_sc st ≤ 20 then (match st with | .inl x :: r => k (pc + 3) b tl ls (.inl (if 0 ≤ x then x else ox_w (0 - x)) :: r) σ | _ => none) else none
  | 4 :: _ => ox_acp σ st (fun st σ => k (pc + 3) b tl ls st σ)
  | 5 :: _ => if 8 < ox_sc st then none else (match st with | .inr (.inr (200, w, _)) :: r => k (pc + 3) b tl ls (.inl (ox_sl w) :: r) σ | _ => none)
  | 6 :: _ => if 8 < ox_sc st then none else (match st with | .inl i :: .inr (.inr (200, w, _)) :: r => (if 0 ≤ i ∧ i.toNat < ox_sl w then k (pc + 3) b tl ls (.inl (ox_sa w i.toNat) :: r) σ else none) | _ => none)
  | _ => none
def ox_st (M : ox_M) (orc : ox_C) (k : ox_K) (pc b tl : Nat) (ls st : List ox_V) (σ : ox_H) : Option ox_O :=
  match M.2.1 pc with
  | none => none
  | some (i, n, f) =>
    match i with
    | .iconst x => k (pc + n) b tl ls (.inl x :: st) σ
    | .bipush x => k (pc + n) b tl ls (.inl x :: st) σ
    | .sipush x => k (pc + n) b tl ls (.inl x :: st) σ
    | .ldc _ => (match f with | 0 :: x :: y :: _ => k (pc + n) b tl ls (.inl (ox_c x y) :: st) σ | 1 :: w :: _ => k (pc + n) b tl ls (.inr (.inr (200, w, 0)) :: st) σ | _ => none)
    | .ldc_w _ => (match f with | 0 :: x :: y :: _ => k (pc + n) b tl ls (.inl (ox_c x y) :: st) σ | 1 :: w :: _ => k (pc + n) b tl ls (.inr (.inr (200, w, 0)) :: st) σ | _ => none)
    | .ldc2_w _ => (match f with | x :: y :: _ => k (pc + n) b tl ls (.inr (.inl (ox_c x y)) :: st) σ | _ => none)
    | .iload x => (match ls[x]? with | some (.inl v) => k (pc + n) b tl ls (.inl v :: st) σ | _ => none)
    | .iload_n x => (match ls[x.val]? with | some (.inl v) => k (pc + n) b tl ls (.inl v :: st) σ | _ => none)
    | .lload x => (match ls[x]? with | some (.inr (.inl v)) => k (pc + n) b tl ls (.inr (.inl v) :: st) σ | _ => none)
    | .lload_n x => (match ls[x.val]? with | some (.inr (.inl v)) => k (pc + n) b tl ls (.inr (.inl v) :: st) σ | _ => none)
    | .aload x => (match ls[x]? with | some (.inr (.inr (t, u, v))) => if t < 999 then k (pc + n) b tl ls (.inr (.inr (t, u, v)) :: st) σ else none | _ => none)
    | .aload_n x => (match ls[x.val]? with | some (.inr (.inr (t, u, v))) => if t < 999 then k (pc + n) b tl ls (.inr (.inr (t, u, v)) :: st) σ else none | _ => none)
    | .istore x => (match st with | .inl v :: r => (if x < M.2.2.2.2.1 then k (pc + n) b tl (ox_set ls x (.inl v)) r σ else none) | _ => none)
    | .istore_n x => (match st with | .inl v :: r => (if x.val < M.2.2.2.2.1 then k (pc + n) b tl (ox_set ls x.val (.inl v)) r σ else none) | _ => none)
    | .lstore x => (match st with | .inr (.inl v) :: r => (if x + 1 < M.2.2.2.2.1 then k (pc + n) b tl ((ox_set ls x (.inr (.inl v))).set (x + 1) ox_d) r σ else none) | _ => none)
    | .lstore_n x => (match st with | .inr (.inl v) :: r => (if x.val + 1 < M.2.2.2.2.1 then k (pc + n) b tl ((ox_set ls x.val (.inr (.inl v))).set (x.val + 1) ox_d) r σ else none) | _ => none)
    | .astore x => (match st with | .inr (.inr v) :: r => (if x < M.2.2.2.2.1 then k (pc + n) b tl (ox_set ls x (.inr (.inr v))) r σ else none) | _ => none)
    | .astore_n x => (match st with | .inr (.inr v) :: r => (if x.val < M.2.2.2.2.1 then k (pc + n) b tl (ox_set ls x.val (.inr (.inr v))) r σ else none) | _ => none)
    | .iinc x d => (match ls[x]? with | some (.inl v) => (if x < M.2.2.2.2.1 then k (pc + n) b tl (ox_set ls x (.inl (ox_w (v + d)))) st σ else none) | _ => none)
    | .pop => (match st with | .inl _ :: r => k (pc + n) b tl ls r σ | _ => none)
    | .dup => (match st with | v :: r => if ox_2 v then none else k (pc + n) b tl ls (v :: v :: r) σ | _ => none)
    | .dup2 => (match st with | v :: u :: r => if ox_2 v || ox_2 u then none else k (pc + n) b tl ls (v :: u :: v :: u :: r) σ | _ => none)
    | .iadd => ox_bin (fun x y => ox_w (x + y)) st (fun st => k (pc + n) b tl ls st σ)
    | .isub => ox_bin (fun x y => ox_w (x - y)) st (fun st => k (pc + n) b tl ls st σ)
    | .imul => ox_bin (fun x y => ox_w (x * y)) st (fun st => k (pc + n) b tl ls st σ)
    | .iand => ox_bin ox_and st (fun st => k (pc + n) b tl ls st σ)
    | .ior => ox_bin ox_or st (fun st => k (pc + n) b tl ls st σ)
    | .ishl => ox_bin ox_shl st (fun st => k (pc + n) b tl ls st σ)
    | .idiv => (match st with | .inl y :: .inl x :: r => (if y = 0 then none else k (pc + n) b tl ls (.inl (ox_w (x.tdiv y)) :: r) σ) | _ => none)
    | .irem => (match st with | .inl y :: .inl x :: r => (if y = 0 then none else k (pc + n) b tl ls (.inl (x.tmod y) :: r) σ) | _ => none)
    | .ineg => (match st with | .inl x :: r => k (pc + n) b tl ls (.inl (ox_w (-x)) :: r) σ | _ => none)
    | .ladd => ox_binl (fun x y => ox_wl (x + y)) st (fun st => k (pc + n) b tl ls st σ)
    | .lsub => ox_binl (fun x y => ox_wl (x - y)) st (fun st => k (pc + n) b tl ls st σ)
    | .lmul => ox_binl (fun x y => ox_wl (x * y)) st (fun st => k (pc + n) b tl ls st σ)
    | .lcmp => (match st with | .inr (.inl y) :: .inr (.inl x) :: r => k (pc + n) b tl ls (.inl (if x < y then -1 else if x = y then 0 else 1) :: r) σ | _ => none)
    | .i2l => (match st with | .inl x :: r => k (pc + n) b tl ls (.inr (.inl x) :: r) σ | _ => none)
    | .l2i => (match st with | .inr (.inl x) :: r => k (pc + n) b tl ls (.inl (ox_w x) :: r) σ | _ => none)
    | .i2c => (match st with | .inl x :: r => k (pc + n) b tl ls (.inl (x % 65536) :: r) σ | _ => none)
    | .iaload => ox_ald 0 σ st (fun st => k (pc + n) b tl ls st σ)
    | .caload => ox_ald 1 σ st (fun st => k (pc + n) b tl ls st σ)
    | .baload => ox_ald 2 σ st (fun st => k (pc + n) b tl ls st σ)
    | .aaload => ox_ald 3 σ st (fun st => k (pc + n) b tl ls st σ)
    | .laload => ox_ald 4 σ st (fun st => k (pc + n) b tl ls st σ)
    | .iastore => ox_ast 0 (fun v => v) σ st (fun st σ => k (pc + n) b tl ls st σ)
    | .castore => ox_ast 1 (fun v => v % 65536) σ st (fun st σ => k (pc + n) b tl ls st σ)
    | .bastore => ox_ast 2 (fun v => v % 2) σ st (fun st σ => k (pc + n) b tl ls st σ)
    | .lastore => ox_ast 4 (fun v => v) σ st (fun st σ => k (pc + n) b tl ls st σ)
    | .arraylength => (match st with | .inr (.inr (t, u, j)) :: r => (if 100 ≤ t ∧ t ≤ 122 then k (pc + n) b tl ls (.inl (ox_len σ (t - 100) u j) :: r) σ else none) | _ => none)
    | .getfield _ => ox_gf f σ st (fun st => k (pc + n) b tl ls st σ)
    | .putfield _ => ox_pf f σ st (fun st σ => k (pc + n) b tl ls st σ)
    | .goto o => k (ox_tgt pc o) b tl ls st σ
    | .ifCond cd o => (match st with | .inl x :: r => ox_cmp cd x 0 (k (ox_tgt pc o) b tl ls r σ) (k (pc + n) b tl ls r σ) | _ => none)
    | .if_icmp cd o => (match st with | .inl y :: .inl x :: r => ox_cmp cd x y (k (ox_tgt pc o) b tl ls r σ) (k (pc + n) b tl ls r σ) | _ => none)
    | .if_acmp cd o => (match cd, st with | .ne, .inr (.inr (1, y, 0)) :: .inr (.inr (1, x, 0)) :: r => (if x = y then k (pc + n) b tl ls r σ else k (ox_tgt pc o) b tl ls r σ) | _, _ => none)
    | .tableswitch _ _ _ _ => (match st with | .inl x :: r => ox_sw x f (fun t => k t b tl ls r σ) | _ => none)
    | .lookupswitch _ _ => (match st with | .inl x :: r => ox_sw x f (fun t => k t b tl ls r σ) | _ => none)
    | .invokevirtual _ => ox_call M orc k pc b tl ls st σ f
    | .invokestatic _ => ox_call M orc k pc b tl ls st σ f
    | .new _ => (match f, b, st with | e :: _, _ + 1, [] => some (.inr e, σ) | _, _, _ => none)
    | .newarray _ => (match st, tl, b with | .inl 10 :: r, 0, b' + 1 => k (pc + n) b' 1 ls (.inr (.inr (120, 0, 0)) :: r) (ox_nw σ) | _, _, _ => none)
    | .ireturn => (match st, M.2.2.2.2.2.1 with | [.inl v], 1 => some (.inl (some (.inl v)), σ) | [.inl v], 2 => some (.inl (some (.inl (v % 65536))), σ) | [.inl v], 3 => some (.inl (some (.inl (v % 2))), σ) | _, _ => none)
    | .areturn => (match st, M.2.2.2.2.2.1 with | [.inr (.inr v)], 4 => if v.1 = 120 then none else some (.inl (some (.inr (.inr v))), σ) | _, _ => none)
    | .return_ => (match st, M.2.2.2.2.2.1 with | [], 0 => some (.inl none, σ) | _, _ => none)
    | _ => none
/-- so many steps -/
def ox_run (M : ox_M) (orc : ox_C) (n : Nat) : ox_K :=
  Nat.rec (motive := fun _ => ox_K) (fun _ _ _ _ _ _ => none) (fun _ ih pc b tl ls st σ => ox_st M orc (fun pc' b' tl' ls' st' σ' => ih pc' b' tl' (ox_kl (M.2.2.1 pc') ls') st' σ') pc b tl ls st σ) n
/-- the end that it comes to -/
noncomputable def ox_ev (M : ox_M) (orc : ox_C) : ox_K := fun pc b tl ls st σ =>
  @dite _ (∃ o, ∃ n, ox_run M orc n pc b tl ls st σ = some o) (Classical.propDecidable _) (fun h => some h.choose) (fun _ => none)
noncomputable def ox_kk (M : ox_M) (orc : ox_C) : ox_K := fun pc b tl ls st σ => ox_ev M orc pc b tl (ox_kl (M.2.2.1 pc) ls) st σ
def ox_tb (last : Nat) (t : Nat → Option ox_I) : Nat → Option ox_I := fun pc => bif Nat.ble pc last then t pc else none
