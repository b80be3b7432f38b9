/-! ===== the world: classes, cells, what is fixed ===== -/
def ox_cn (c : Nat) : String := if c = 0 then "Outlinery" else if c = 1 then "Outlinery$Lines" else if c = 2 then "Outlinery$Outline" else if c = 3 then "Outlinery$Reader" else if c = 4 then "Outlinery$Reading" else if c = 5 then "Outlinery$Sheet" else if c = 6 then "Outlinery$Sums" else if c = 7 then "Outlinery$Export" else if c = 8 then "Outlinery$Kept" else if c = 9 then "Outlinery$Archive" else if c = 10 then "OutlineryModel" else "OutlineryLaw"
def ox_nf (c : Nat) : Nat := if c = 0 then 9 else if c = 1 then 6 else if c = 2 then 11 else if c = 3 then 6 else if c = 4 then 12 else if c = 5 then 6 else if c = 6 then 7 else if c = 7 then 5 else if c = 8 then 6 else if c = 9 then 4 else if c = 10 then 47 else 0
def ox_F0 : u_T := fun k => match k with
  | 0 => ("Outlinery", "text", "LOutlinery$Lines;", true)
  | 1 => ("Outlinery", "moved", "LOutlinery$Lines;", true)
  | 2 => ("Outlinery", "outline", "LOutlinery$Outline;", true)
  | 3 => ("Outlinery", "sheet", "LOutlinery$Sheet;", true)
  | 4 => ("Outlinery", "export", "LOutlinery$Export;", true)
  | 5 => ("Outlinery", "kept", "LOutlinery$Kept;", true)
  | 6 => ("Outlinery", "store", "LOutlinery$Archive;", true)
  | 7 => ("Outlinery", "todayIs", "I", false)
  | _ => ("Outlinery", "now", "I", false)
def ox_T0 : Nat → FieldType := fun k => match k with
  | 0 => .object "Outlinery$Lines"
  | 1 => .object "Outlinery$Lines"
  | 2 => .object "Outlinery$Outline"
  | 3 => .object "Outlinery$Sheet"
  | 4 => .object "Outlinery$Export"
  | 5 => .object "Outlinery$Kept"
  | 6 => .object "Outlinery$Archive"
  | 7 => .int
  | _ => .int
def ox_F1 : u_T := fun k => match k with
  | 0 => ("Outlinery$Lines", "most", "I", true)
  | 1 => ("Outlinery$Lines", "width", "I", true)
  | 2 => ("Outlinery$Lines", "signs", "[C", true)
  | 3 => ("Outlinery$Lines", "sizes", "[I", true)
  | 4 => ("Outlinery$Lines", "count", "I", false)
  | _ => ("Outlinery$Lines", "version", "I", false)
def ox_T1 : Nat → FieldType := fun k => match k with
  | 0 => .int
  | 1 => .int
  | 2 => .array (.char)
  | 3 => .array (.int)
  | 4 => .int
  | _ => .int
def ox_F2 : u_T := fun k => match k with
  | 0 => ("Outlinery$Outline", "text", "LOutlinery$Lines;", true)
  | 1 => ("Outlinery$Outline", "reader", "LOutlinery$Reader;", true)
  | 2 => ("Outlinery$Outline", "nothing", "LOutlinery$Reading;", true)
  | 3 => ("Outlinery$Outline", "readings", "[LOutlinery$Reading;", true)
  | 4 => ("Outlinery$Outline", "owners", "[I", true)
  | 5 => ("Outlinery$Outline", "heads", "[I", true)
  | 6 => ("Outlinery$Outline", "levels", "[I", true)
  | 7 => ("Outlinery$Outline", "parents", "[I", true)
  | 8 => ("Outlinery$Outline", "tags", "[I", true)
  | 9 => ("Outlinery$Outline", "count", "I", false)
  | _ => ("Outlinery$Outline", "version", "I", false)
def ox_T2 : Nat → FieldType := fun k => match k with
  | 0 => .object "Outlinery$Lines"
  | 1 => .object "Outlinery$Reader"
  | 2 => .object "Outlinery$Reading"
  | 3 => .array (.object "Outlinery$Reading")
  | 4 => .array (.int)
  | 5 => .array (.int)
  | 6 => .array (.int)
  | 7 => .array (.int)
  | 8 => .array (.int)
  | 9 => .int
  | _ => .int
def ox_F3 : u_T := fun k => match k with
  | 0 => ("Outlinery$Reader", "text", "LOutlinery$Lines;", true)
  | 1 => ("Outlinery$Reader", "sums", "LOutlinery$Sums;", true)
  | 2 => ("Outlinery$Reader", "signs", "[C", true)
  | 3 => ("Outlinery$Reader", "current", "I", false)
  | 4 => ("Outlinery$Reader", "size", "I", false)
  | _ => ("Outlinery$Reader", "place", "I", false)
def ox_T3 : Nat → FieldType := fun k => match k with
  | 0 => .object "Outlinery$Lines"
  | 1 => .object "Outlinery$Sums"
  | 2 => .array (.char)
  | 3 => .int
  | 4 => .int
  | _ => .int
def ox_F4 : u_T := fun k => match k with
  | 0 => ("Outlinery$Reading", "kind", "I", false)
  | 1 => ("Outlinery$Reading", "letter", "I", false)
  | 2 => ("Outlinery$Reading", "number", "I", false)
  | 3 => ("Outlinery$Reading", "first", "I", false)
  | 4 => ("Outlinery$Reading", "last", "I", false)
  | 5 => ("Outlinery$Reading", "distance", "I", false)
  | 6 => ("Outlinery$Reading", "mark", "C", false)
  | 7 => ("Outlinery$Reading", "level", "I", false)
  | 8 => ("Outlinery$Reading", "state", "I", false)
  | 9 => ("Outlinery$Reading", "titleFrom", "I", false)
  | 10 => ("Outlinery$Reading", "titleEnd", "I", false)
  | _ => ("Outlinery$Reading", "tags", "I", false)
def ox_T4 : Nat → FieldType := fun k => match k with
  | 0 => .int
  | 1 => .int
  | 2 => .int
  | 3 => .int
  | 4 => .int
  | 5 => .int
  | 6 => .char
  | 7 => .int
  | 8 => .int
  | 9 => .int
  | 10 => .int
  | _ => .int
def ox_F5 : u_T := fun k => match k with
  | 0 => ("Outlinery$Sheet", "outline", "LOutlinery$Outline;", true)
  | 1 => ("Outlinery$Sheet", "sums", "LOutlinery$Sums;", true)
  | 2 => ("Outlinery$Sheet", "values", "[I", true)
  | 3 => ("Outlinery$Sheet", "tops", "[I", true)
  | 4 => ("Outlinery$Sheet", "blocks", "[I", true)
  | _ => ("Outlinery$Sheet", "version", "I", false)
def ox_T5 : Nat → FieldType := fun k => match k with
  | 0 => .object "Outlinery$Outline"
  | 1 => .object "Outlinery$Sums"
  | 2 => .array (.int)
  | 3 => .array (.int)
  | 4 => .array (.int)
  | _ => .int
def ox_F6 : u_T := fun k => match k with
  | 0 => ("Outlinery$Sums", "cells", "[I", true)
  | 1 => ("Outlinery$Sums", "terms", "[I", true)
  | 2 => ("Outlinery$Sums", "ends", "[I", true)
  | 3 => ("Outlinery$Sums", "joins", "[C", true)
  | 4 => ("Outlinery$Sums", "kinds", "[I", true)
  | 5 => ("Outlinery$Sums", "letters", "[I", true)
  | _ => ("Outlinery$Sums", "numbers", "[I", true)
def ox_T6 : Nat → FieldType := fun k => match k with
  | 0 => .array (.int)
  | 1 => .array (.int)
  | 2 => .array (.int)
  | 3 => .array (.char)
  | 4 => .array (.int)
  | 5 => .array (.int)
  | _ => .array (.int)
def ox_F7 : u_T := fun k => match k with
  | 0 => ("Outlinery$Export", "outline", "LOutlinery$Outline;", true)
  | 1 => ("Outlinery$Export", "sheet", "LOutlinery$Sheet;", true)
  | 2 => ("Outlinery$Export", "sums", "LOutlinery$Sums;", true)
  | 3 => ("Outlinery$Export", "out", "LOutlinery$Lines;", true)
  | _ => ("Outlinery$Export", "version", "I", false)
def ox_T7 : Nat → FieldType := fun k => match k with
  | 0 => .object "Outlinery$Outline"
  | 1 => .object "Outlinery$Sheet"
  | 2 => .object "Outlinery$Sums"
  | 3 => .object "Outlinery$Lines"
  | _ => .int
def ox_F8 : u_T := fun k => match k with
  | 0 => ("Outlinery$Kept", "outline", "LOutlinery$Outline;", true)
  | 1 => ("Outlinery$Kept", "sheet", "LOutlinery$Sheet;", true)
  | 2 => ("Outlinery$Kept", "seen", "LOutlinery$Lines;", true)
  | 3 => ("Outlinery$Kept", "has", "[Z", true)
  | 4 => ("Outlinery$Kept", "values", "[I", true)
  | _ => ("Outlinery$Kept", "count", "I", false)
def ox_T8 : Nat → FieldType := fun k => match k with
  | 0 => .object "Outlinery$Outline"
  | 1 => .object "Outlinery$Sheet"
  | 2 => .object "Outlinery$Lines"
  | 3 => .array (.boolean)
  | 4 => .array (.int)
  | _ => .int
def ox_F9 : u_T := fun k => match k with
  | 0 => ("Outlinery$Archive", "parts", "LOutlinery$Lines;", true)
  | 1 => ("Outlinery$Archive", "sizes", "[I", true)
  | 2 => ("Outlinery$Archive", "signs", "[C", true)
  | _ => ("Outlinery$Archive", "count", "I", false)
def ox_T9 : Nat → FieldType := fun k => match k with
  | 0 => .object "Outlinery$Lines"
  | 1 => .array (.int)
  | 2 => .array (.char)
  | _ => .int
def ox_F10 : u_T := fun k => match k with
  | 0 => ("OutlineryModel", "sg", "[I", true)
  | 1 => ("OutlineryModel", "len", "[I", true)
  | 2 => ("OutlineryModel", "many", "I", false)
  | 3 => ("OutlineryModel", "ms", "[I", true)
  | 4 => ("OutlineryModel", "ml", "[I", true)
  | 5 => ("OutlineryModel", "mm", "I", false)
  | 6 => ("OutlineryModel", "as", "[I", true)
  | 7 => ("OutlineryModel", "al", "[I", true)
  | 8 => ("OutlineryModel", "an", "[I", true)
  | 9 => ("OutlineryModel", "ap", "[I", true)
  | 10 => ("OutlineryModel", "archived", "I", false)
  | 11 => ("OutlineryModel", "at", "I", false)
  | 12 => ("OutlineryModel", "stars", "I", false)
  | 13 => ("OutlineryModel", "state", "I", false)
  | 14 => ("OutlineryModel", "from", "I", false)
  | 15 => ("OutlineryModel", "to", "I", false)
  | 16 => ("OutlineryModel", "tags", "I", false)
  | 17 => ("OutlineryModel", "first", "I", false)
  | 18 => ("OutlineryModel", "second", "I", false)
  | 19 => ("OutlineryModel", "third", "I", false)
  | 20 => ("OutlineryModel", "mark", "I", false)
  | 21 => ("OutlineryModel", "head", "[I", true)
  | 22 => ("OutlineryModel", "entries", "I", false)
  | 23 => ("OutlineryModel", "today", "I", false)
  | 24 => ("OutlineryModel", "now", "I", false)
  | 25 => ("OutlineryModel", "kv", "[I", true)
  | 26 => ("OutlineryModel", "kk", "[I", true)
  | 27 => ("OutlineryModel", "kl", "[I", true)
  | 28 => ("OutlineryModel", "sig", "[I", true)
  | 29 => ("OutlineryModel", "sigs", "I", false)
  | 30 => ("OutlineryModel", "runs", "I", false)
  | 31 => ("OutlineryModel", "depth", "I", false)
  | 32 => ("OutlineryModel", "pos", "[I", true)
  | 33 => ("OutlineryModel", "stop", "[I", true)
  | 34 => ("OutlineryModel", "plus", "[I", true)
  | 35 => ("OutlineryModel", "turn", "[I", true)
  | 36 => ("OutlineryModel", "finding", "I", false)
  | 37 => ("OutlineryModel", "known", "[I", true)
  | 38 => ("OutlineryModel", "found", "[I", true)
  | 39 => ("OutlineryModel", "blockKnown", "[I", true)
  | 40 => ("OutlineryModel", "blockFound", "[I", true)
  | 41 => ("OutlineryModel", "busy", "[I", true)
  | 42 => ("OutlineryModel", "block", "[I", true)
  | 43 => ("OutlineryModel", "xs", "[I", true)
  | 44 => ("OutlineryModel", "xl", "[I", true)
  | 45 => ("OutlineryModel", "exported", "I", false)
  | _ => ("OutlineryModel", "thrown", "I", false)
def ox_T10 : Nat → FieldType := fun k => match k with
  | 0 => .array (.int)
  | 1 => .array (.int)
  | 2 => .int
  | 3 => .array (.int)
  | 4 => .array (.int)
  | 5 => .int
  | 6 => .array (.int)
  | 7 => .array (.int)
  | 8 => .array (.int)
  | 9 => .array (.int)
  | 10 => .int
  | 11 => .int
  | 12 => .int
  | 13 => .int
  | 14 => .int
  | 15 => .int
  | 16 => .int
  | 17 => .int
  | 18 => .int
  | 19 => .int
  | 20 => .int
  | 21 => .array (.int)
  | 22 => .int
  | 23 => .int
  | 24 => .int
  | 25 => .array (.int)
  | 26 => .array (.int)
  | 27 => .array (.int)
  | 28 => .array (.int)
  | 29 => .int
  | 30 => .int
  | 31 => .int
  | 32 => .array (.int)
  | 33 => .array (.int)
  | 34 => .array (.int)
  | 35 => .array (.int)
  | 36 => .int
  | 37 => .array (.int)
  | 38 => .array (.int)
  | 39 => .array (.int)
  | 40 => .array (.int)
  | 41 => .array (.int)
  | 42 => .array (.int)
  | 43 => .array (.int)
  | 44 => .array (.int)
  | 45 => .int
  | _ => .int
def ox_F (c : Nat) : u_T := if c = 0 then ox_F0 else if c = 1 then ox_F1 else if c = 2 then ox_F2 else if c = 3 then ox_F3 else if c = 4 then ox_F4 else if c = 5 then ox_F5 else if c = 6 then ox_F6 else if c = 7 then ox_F7 else if c = 8 then ox_F8 else if c = 9 then ox_F9 else ox_F10
def ox_T (c : Nat) : Nat → FieldType := if c = 0 then ox_T0 else if c = 1 then ox_T1 else if c = 2 then ox_T2 else if c = 3 then ox_T3 else if c = 4 then ox_T4 else if c = 5 then ox_T5 else if c = 6 then ox_T6 else if c = 7 then ox_T7 else if c = 8 then ox_T8 else if c = 9 then ox_T9 else ox_T10
def ox_cls : List vw_C := (List.range 11).map (fun c => (ox_cn c, ox_F c, ox_nf c))
/-- what a field is: 0 a number, 1 a row of its own, 2 an object of a class, its number -/
def ox_fk (c j : Nat) : Nat × Nat × Nat := if c = 0 then (if j = 0 then (2, 1, 0) else if j = 1 then (2, 1, 1) else if j = 2 then (2, 2, 0) else if j = 3 then (2, 5, 0) else if j = 4 then (2, 7, 0) else if j = 5 then (2, 8, 0) else if j = 6 then (2, 9, 0) else (0, 0, 0)) else if c = 1 then (if j = 2 then (1, 0, 0) else if j = 3 then (1, 0, 0) else (0, 0, 0)) else if c = 2 then (if j = 0 then (2, 1, 0) else if j = 1 then (2, 3, 0) else if j = 2 then (2, 4, 60) else if j = 3 then (1, 0, 0) else if j = 4 then (1, 0, 0) else if j = 5 then (1, 0, 0) else if j = 6 then (1, 0, 0) else if j = 7 then (1, 0, 0) else if j = 8 then (1, 0, 0) else (0, 0, 0)) else if c = 3 then (if j = 0 then (2, 1, 0) else if j = 1 then (2, 6, 0) else if j = 2 then (1, 0, 0) else (0, 0, 0)) else if c = 5 then (if j = 0 then (2, 2, 0) else if j = 1 then (2, 6, 0) else if j = 2 then (1, 0, 0) else if j = 3 then (1, 0, 0) else if j = 4 then (1, 0, 0) else (0, 0, 0)) else if c = 6 then (if j = 0 then (1, 0, 0) else if j = 1 then (1, 0, 0) else if j = 2 then (1, 0, 0) else if j = 3 then (1, 0, 0) else if j = 4 then (1, 0, 0) else if j = 5 then (1, 0, 0) else if j = 6 then (1, 0, 0) else (0, 0, 0)) else if c = 7 then (if j = 0 then (2, 2, 0) else if j = 1 then (2, 5, 0) else if j = 2 then (2, 6, 0) else if j = 3 then (2, 1, 2) else (0, 0, 0)) else if c = 8 then (if j = 0 then (2, 2, 0) else if j = 1 then (2, 5, 0) else if j = 2 then (2, 1, 3) else if j = 3 then (1, 0, 0) else if j = 4 then (1, 0, 0) else (0, 0, 0)) else if c = 9 then (if j = 0 then (2, 1, 4) else if j = 1 then (1, 0, 0) else if j = 2 then (1, 0, 0) else (0, 0, 0)) else if c = 10 then (if j = 0 then (1, 0, 0) else if j = 1 then (1, 0, 0) else if j = 3 then (1, 0, 0) else if j = 4 then (1, 0, 0) else if j = 6 then (1, 0, 0) else if j = 7 then (1, 0, 0) else if j = 8 then (1, 0, 0) else if j = 9 then (1, 0, 0) else if j = 21 then (1, 0, 0) else if j = 25 then (1, 0, 0) else if j = 26 then (1, 0, 0) else if j = 27 then (1, 0, 0) else if j = 28 then (1, 0, 0) else if j = 32 then (1, 0, 0) else if j = 33 then (1, 0, 0) else if j = 34 then (1, 0, 0) else if j = 35 then (1, 0, 0) else if j = 37 then (1, 0, 0) else if j = 38 then (1, 0, 0) else if j = 39 then (1, 0, 0) else if j = 40 then (1, 0, 0) else if j = 41 then (1, 0, 0) else if j = 42 then (1, 0, 0) else if j = 43 then (1, 0, 0) else if j = 44 then (1, 0, 0) else (0, 0, 0)) else (0, 0, 0)
def ox_pool (c : Nat) : Nat := if c = 1 then 5 else if c = 4 then 61 else 1
/-- the cells: objects, their rows, the law's long row; with tl = 1 the row that renumber made -/
def ox_L0 : List (Nat × Nat × Nat) := ((List.range 11).flatMap fun c => (List.range (ox_pool c)).map fun k => (c, k, 0)) ++ ((List.range 11).flatMap fun c => (List.range (ox_pool c)).flatMap fun k => ((List.range (ox_nf c)).filter fun j => (ox_fk c j).1 == 1).map fun j => (100 + c, k, j)) ++ [(121, 0, 0)]
def ox_L (tl : Nat) : List (Nat × Nat × Nat) := if tl = 0 then ox_L0 else ox_L0 ++ [(120, 0, 0)]
/-- the launch's numbers: classes and their slots, rows' classes by what they hold, addresses, the first address of this run, the script's -/
abbrev ox_G : Type := va_G × (Nat → ClassId) × (Nat × Nat × Nat → Nat) × (Nat → Nat) × Nat
abbrev ox_D (G : ox_G) : va_G := G.1
abbrev ox_cA (G : ox_G) : Nat → ClassId := G.2.1
abbrev ox_ad (G : ox_G) : Nat × Nat × Nat → Nat := G.2.2.1
abbrev ox_aV (G : ox_G) : Nat → Nat := G.2.2.2.1
abbrev ox_bs (G : ox_G) : Nat := G.2.2.2.2
def ox_A (G : ox_G) : Nat → Prop := fun q => ox_bs G ≤ q
def ox_fv (G : ox_G) (σ : ox_H) (c k j : Nat) : Value := match ox_fk c j with
  | (1, _, _) => .ref (ox_ad G (100 + c, k, j))
  | (2, c2, k2) => .ref (ox_ad G (c2, k2, 0))
  | _ => .int (Int32.ofInt (σ c k j 0))
def ox_rw (G : ox_G) (σ : ox_H) (c k j : Nat) : vp_A := (ox_len σ c k j, match ox_ty c j with
  | 3 => .inr (.inr (.inr (.inr (fun i => some (ox_ad G (4, i, 0))))))
  | 4 => .inr (.inl (fun i => Int64.ofInt (σ c k j i)))
  | _ => .inl (fun i => Int32.ofInt (σ c k j i)))
def ox_ent (G : ox_G) (σ : ox_H) (r : Nat × Nat × Nat) : va_E := if r.1 < 100 then .inr (r.1, (List.range (ox_nf r.1)).map (fun j => ox_fv G σ r.1 r.2.1 j)) else .inl (ox_cA G (ox_ty (r.1 - 100) r.2.2), ox_rw G σ (r.1 - 100) r.2.1 r.2.2)
def ox_ws (G : ox_G) (tl : Nat) (σ : ox_H) : va_W := (ox_L tl).map fun r => (ox_ad G r, ox_ent G σ r)
def ox_tys (G : ox_G) : List (ClassId × FieldType) := [(ox_cA G 0, .int), (ox_cA G 1, .char), (ox_cA G 2, .boolean), (ox_cA G 3, .object "Outlinery$Reading"), (ox_cA G 4, .long)]
def ox_vok (ty : Nat) (v : Int) : Prop := match ty with
  | 1 => 0 ≤ v ∧ v < 65536
  | 2 => 0 ≤ v ∧ v < 2
  | 4 => ox_i64 v
  | _ => ox_i32 v
def ox_sok (σ : ox_H) : Prop := ∀ c k j i, ox_vok (ox_ty c j) (σ c k j i)
/-- references that are there -/
def ox_rok (tl : Nat) (r : Nat × Nat × Nat) : Prop := r ∈ ox_L tl ∨ (r.1 = 200 ∧ r.2.1 < 6 ∧ r.2.2 = 0) ∨ r = (122, 0, 0) ∨ r.1 = 999
def ox_ok (tl : Nat) (v : ox_V) : Prop := match v with
  | .inl x => ox_i32 x
  | .inr (.inl x) => ox_i64 x
  | .inr (.inr r) => ox_rok tl r
def ox_mv (G : ox_G) (v : ox_V) : Value := match v with
  | .inl x => .int (Int32.ofInt x)
  | .inr (.inl x) => .long (Int64.ofInt x)
  | .inr (.inr r) => .ref (ox_ad G r)
/-- the world that moves -/
def ox_Wd (G : ox_G) (tl : Nat) (σ : ox_H) (U : State) (H : Heap) : Prop := va_P (ox_D G) ox_cls (ox_ws G tl σ) H ∧ va_D (ox_A G) (ox_ws G tl σ) ∧ ox_sok σ ∧ va_X (ox_ad G (122, 0, 0)) (σ 22 0 1 0).toNat (fun j => Int32.ofInt (σ 22 0 0 j)) U H
def ox_lens : List Nat := [5, 5, 5, 5, 0, 6]
def ox_byts : List (List Int32) := [[84, 79, 68, 79, 32], [87, 65, 73, 84, 32], [68, 79, 78, 69, 32], [68, 82, 79, 80, 32], [], [32, 84, 79, 68, 79, 32]]
/-- words that are not good ones, but of the tables alone -/
def ox_nest : List Cond := tables_1.filter fun w => match w with | .fieldLinkNest _ _ _ _ _ _ => true | .methodLinkNest _ _ _ _ => true | .castable _ _ => true | .declares _ => true | _ => false
def ox_good : List Cond := lw_tbl.filter goodWord
/-- String constants: every word stringRef of the tables has its cell; those of our six are apart -/
def ox_lit (i : Nat) : String := if i = 0 then "TODO " else if i = 1 then "WAIT " else if i = 2 then "DONE " else if i = 3 then "DROP " else if i = 4 then "" else " TODO "
def ox_xn (e : Nat) : String := if e = 1 then "java/lang/IndexOutOfBoundsException" else if e = 2 then "java/lang/IllegalArgumentException" else "java/lang/IllegalStateException"
/-- what else the launch holds fixed: how the three exceptions stand to each other; Strings are compact; the formatter -/
def ox_Fy (G : ox_G) (U : State) (H : Heap) : Prop :=
  (∀ e, 1 ≤ e → e < 4 → va_Nw (.castable (ox_xn e) (ox_xn e)) U) ∧ (∀ e e', 1 ≤ e → e < 4 → 1 ≤ e' → e' < 4 → e' ≠ e → va_Nc (ox_xn e) (ox_xn e') U) ∧
  va_Z "java/lang/String" "COMPACT_STRINGS" "Z" (.int 1) (ox_A G) U H ∧ va_Zq "jdk/internal/util/Preconditions" "SIOOBE_FORMATTER" "Ljava/util/function/BiFunction;" (ox_A G) U H
def ox_Fx (G : ox_G) (U : State) (H : Heap) : Prop :=
  va_K (ox_D G) ox_cls (ox_tys G) U ∧ vk_S 6 ox_lens ox_byts (fun i => ox_ad G (200, i, 0)) (ox_aV G) (ox_A G) U H ∧
  (∀ own k tx, Cond.stringRef own k tx ∈ tables_1 → ∃ a, vk_R own k tx a U ∧ ∀ i, i < 6 → tx = ox_lit i → a = ox_ad G (200, i, 0)) ∧
  vx_Zq Bundle.tN "UNASSIGNED_STACK" Bundle.steD (ox_A G) U H ∧ vx_Zq Bundle.tN "SUPPRESSED_SENTINEL" Bundle.listD (ox_A G) U H ∧ (∀ w ∈ ox_nest, va_Nw w U) ∧ ox_ad G (122, 0, 0) < ox_bs G ∧ ox_Fy G U H
