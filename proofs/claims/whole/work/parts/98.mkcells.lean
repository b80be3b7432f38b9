/-! ===== the cells behind the law's head, by program; what each of the world's cells is among them ===== -/
def ob_Bf : ob_B := [.inl (0, [.inr (some 1), .inr (some 4), .inr (some 15), .inr (some 85), .inr (some 89), .inr (some 93), .inr (some 99), .inl 0, .inl 0]),
  .inl (1, [.inl 60, .inl 24, .inr (some 2), .inr (some 3), .inl 0, .inl 0]),
  .inr (1, 1440, []),
  .inr (0, 60, []),
  .inl (1, [.inl 60, .inl 24, .inr (some 5), .inr (some 6), .inl 0, .inl 0]),
  .inr (1, 1440, []),
  .inr (0, 60, []),
  .inl (6, [.inr (some 8), .inr (some 9), .inr (some 10), .inr (some 11), .inr (some 12), .inr (some 13), .inr (some 14)]),
  .inr (0, 60, []),
  .inr (0, 60, []),
  .inr (0, 720, []),
  .inr (1, 720, []),
  .inr (0, 720, []),
  .inr (0, 720, []),
  .inr (0, 720, []),
  .inl (2, [.inr (some 1), .inr (some 22), .inr (some 24), .inr (some 16), .inr (some 17), .inr (some 18), .inr (some 19), .inr (some 20), .inr (some 21), .inl 0, .inl (-1)]),
  .inr (3, 60, [(59, 84), (58, 83), (57, 82), (56, 81), (55, 80), (54, 79), (53, 78), (52, 77), (51, 76), (50, 75), (49, 74), (48, 73), (47, 72), (46, 71), (45, 70), (44, 69), (43, 68), (42, 67), (41, 66), (40, 65), (39, 64), (38, 63), (37, 62), (36, 61), (35, 60), (34, 59), (33, 58), (32, 57), (31, 56), (30, 55), (29, 54), (28, 53), (27, 52), (26, 51), (25, 50), (24, 49), (23, 48), (22, 47), (21, 46), (20, 45), (19, 44), (18, 43), (17, 42), (16, 41), (15, 40), (14, 39), (13, 38), (12, 37), (11, 36), (10, 35), (9, 34), (8, 33), (7, 32), (6, 31), (5, 30), (4, 29), (3, 28), (2, 27), (1, 26), (0, 25)]),
  .inr (0, 60, []),
  .inr (0, 60, []),
  .inr (0, 60, []),
  .inr (0, 60, []),
  .inr (0, 60, []),
  .inl (3, [.inr (some 1), .inr (some 7), .inr (some 23), .inl 0, .inl 0, .inl 0]),
  .inr (1, 24, []),
  .inl (4, [.inl 7, .inl 0, .inl 0, .inl (-1), .inl (-1), .inl (-1), .inl 0, .inl 0, .inl (-1), .inl 0, .inl 0, .inl 0]),
  .inl (4, [.inl 7, .inl 0, .inl 0, .inl (-1), .inl (-1), .inl (-1), .inl 0, .inl 0, .inl (-1), .inl 0, .inl 0, .inl 0]),
  .inl (4, [.inl 7, .inl 0, .inl 0, .inl (-1), .inl (-1), .inl (-1), .inl 0, .inl 0, .inl (-1), .inl 0, .inl 0, .inl 0]),
  .inl (4, [.inl 7, .inl 0, .inl 0, .inl (-1), .inl (-1), .inl (-1), .inl 0, .inl 0, .inl (-1), .inl 0, .inl 0, .inl 0]),
  .inl (4, [.inl 7, .inl 0, .inl 0, .inl (-1), .inl (-1), .inl (-1), .inl 0, .inl 0, .inl (-1), .inl 0, .inl 0, .inl 0]),
  .inl (4, [.inl 7, .inl 0, .inl 0, .inl (-1), .inl (-1), .inl (-1), .inl 0, .inl 0, .inl (-1), .inl 0, .inl 0, .inl 0]),
  .inl (4, [.inl 7, .inl 0, .inl 0, .inl (-1), .inl (-1), .inl (-1), .inl 0, .inl 0, .inl (-1), .inl 0, .inl 0, .inl 0]),
  .inl (4, [.inl 7, .inl 0, .inl 0, .inl (-1), .inl (-1), .inl (-1), .inl 0, .inl 0, .inl (-1), .inl 0, .inl 0, .inl 0]),
  .inl (4, [.inl 7, .inl 0, .inl 0, .inl (-1), .inl (-1), .inl (-1), .inl 0, .inl 0, .inl (-1), .inl 0, .inl 0, .inl 0]),
  .inl (4, [.inl 7, .inl 0, .inl 0, .inl (-1), .inl (-1), .inl (-1), .inl 0, .inl 0, .inl (-1), .inl 0, .inl 0, .inl 0]),
  .inl (4, [.inl 7, .inl 0, .inl 0, .inl (-1), .inl (-1), .inl (-1), .inl 0, .inl 0, .inl (-1), .inl 0, .inl 0, .inl 0]),
  .inl (4, [.inl 7, .inl 0, .inl 0, .inl (-1), .inl (-1), .inl (-1), .inl 0, .inl 0, .inl (-1), .inl 0, .inl 0, .inl 0]),
  .inl (4, [.inl 7, .inl 0, .inl 0, .inl (-1), .inl (-1), .inl (-1), .inl 0, .inl 0, .inl (-1), .inl 0, .inl 0, .inl 0]),
  .inl (4, [.inl 7, .inl 0, .inl 0, .inl (-1), .inl (-1), .inl (-1), .inl 0, .inl 0, .inl (-1), .inl 0, .inl 0, .inl 0]),
  .inl (4, [.inl 7, .inl 0, .inl 0, .inl (-1), .inl (-1), .inl (-1), .inl 0, .inl 0, .inl (-1), .inl 0, .inl 0, .inl 0]),
  .inl (4, [.inl 7, .inl 0, .inl 0, .inl (-1), .inl (-1), .inl (-1), .inl 0, .inl 0, .inl (-1), .inl 0, .inl 0, .inl 0]),
  .inl (4, [.inl 7, .inl 0, .inl 0, .inl (-1), .inl (-1), .inl (-1), .inl 0, .inl 0, .inl (-1), .inl 0, .inl 0, .inl 0]),
  .inl (4, [.inl 7, .inl 0, .inl 0, .inl (-1), .inl (-1), .inl (-1), .inl 0, .inl 0, .inl (-1), .inl 0, .inl 0, .inl 0]),
  .inl (4, [.inl 7, .inl 0, .inl 0, .inl (-1), .inl (-1), .inl (-1), .inl 0, .inl 0, .inl (-1), .inl 0, .inl 0, .inl 0]),
  .inl (4, [.inl 7, .inl 0, .inl 0, .inl (-1), .inl (-1), .inl (-1), .inl 0, .inl 0, .inl (-1), .inl 0, .inl 0, .inl 0]),
  .inl (4, [.inl 7, .inl 0, .inl 0, .inl (-1), .inl (-1), .inl (-1), .inl 0, .inl 0, .inl (-1), .inl 0, .inl 0, .inl 0]),
  .inl (4, [.inl 7, .inl 0, .inl 0, .inl (-1), .inl (-1), .inl (-1), .inl 0, .inl 0, .inl (-1), .inl 0, .inl 0, .inl 0]),
  .inl (4, [.inl 7, .inl 0, .inl 0, .inl (-1), .inl (-1), .inl (-1), .inl 0, .inl 0, .inl (-1), .inl 0, .inl 0, .inl 0]),
  .inl (4, [.inl 7, .inl 0, .inl 0, .inl (-1), .inl (-1), .inl (-1), .inl 0, .inl 0, .inl (-1), .inl 0, .inl 0, .inl 0]),
  .inl (4, [.inl 7, .inl 0, .inl 0, .inl (-1), .inl (-1), .inl (-1), .inl 0, .inl 0, .inl (-1), .inl 0, .inl 0, .inl 0]),
  .inl (4, [.inl 7, .inl 0, .inl 0, .inl (-1), .inl (-1), .inl (-1), .inl 0, .inl 0, .inl (-1), .inl 0, .inl 0, .inl 0]),
  .inl (4, [.inl 7, .inl 0, .inl 0, .inl (-1), .inl (-1), .inl (-1), .inl 0, .inl 0, .inl (-1), .inl 0, .inl 0, .inl 0]),
  .inl (4, [.inl 7, .inl 0, .inl 0, .inl (-1), .inl (-1), .inl (-1), .inl 0, .inl 0, .inl (-1), .inl 0, .inl 0, .inl 0]),
  .inl (4, [.inl 7, .inl 0, .inl 0, .inl (-1), .inl (-1), .inl (-1), .inl 0, .inl 0, .inl (-1), .inl 0, .inl 0, .inl 0]),
  .inl (4, [.inl 7, .inl 0, .inl 0, .inl (-1), .inl (-1), .inl (-1), .inl 0, .inl 0, .inl (-1), .inl 0, .inl 0, .inl 0]),
  .inl (4, [.inl 7, .inl 0, .inl 0, .inl (-1), .inl (-1), .inl (-1), .inl 0, .inl 0, .inl (-1), .inl 0, .inl 0, .inl 0]),
  .inl (4, [.inl 7, .inl 0, .inl 0, .inl (-1), .inl (-1), .inl (-1), .inl 0, .inl 0, .inl (-1), .inl 0, .inl 0, .inl 0]),
  .inl (4, [.inl 7, .inl 0, .inl 0, .inl (-1), .inl (-1), .inl (-1), .inl 0, .inl 0, .inl (-1), .inl 0, .inl 0, .inl 0]),
  .inl (4, [.inl 7, .inl 0, .inl 0, .inl (-1), .inl (-1), .inl (-1), .inl 0, .inl 0, .inl (-1), .inl 0, .inl 0, .inl 0]),
  .inl (4, [.inl 7, .inl 0, .inl 0, .inl (-1), .inl (-1), .inl (-1), .inl 0, .inl 0, .inl (-1), .inl 0, .inl 0, .inl 0]),
  .inl (4, [.inl 7, .inl 0, .inl 0, .inl (-1), .inl (-1), .inl (-1), .inl 0, .inl 0, .inl (-1), .inl 0, .inl 0, .inl 0]),
  .inl (4, [.inl 7, .inl 0, .inl 0, .inl (-1), .inl (-1), .inl (-1), .inl 0, .inl 0, .inl (-1), .inl 0, .inl 0, .inl 0]),
  .inl (4, [.inl 7, .inl 0, .inl 0, .inl (-1), .inl (-1), .inl (-1), .inl 0, .inl 0, .inl (-1), .inl 0, .inl 0, .inl 0]),
  .inl (4, [.inl 7, .inl 0, .inl 0, .inl (-1), .inl (-1), .inl (-1), .inl 0, .inl 0, .inl (-1), .inl 0, .inl 0, .inl 0]),
  .inl (4, [.inl 7, .inl 0, .inl 0, .inl (-1), .inl (-1), .inl (-1), .inl 0, .inl 0, .inl (-1), .inl 0, .inl 0, .inl 0]),
  .inl (4, [.inl 7, .inl 0, .inl 0, .inl (-1), .inl (-1), .inl (-1), .inl 0, .inl 0, .inl (-1), .inl 0, .inl 0, .inl 0]),
  .inl (4, [.inl 7, .inl 0, .inl 0, .inl (-1), .inl (-1), .inl (-1), .inl 0, .inl 0, .inl (-1), .inl 0, .inl 0, .inl 0]),
  .inl (4, [.inl 7, .inl 0, .inl 0, .inl (-1), .inl (-1), .inl (-1), .inl 0, .inl 0, .inl (-1), .inl 0, .inl 0, .inl 0]),
  .inl (4, [.inl 7, .inl 0, .inl 0, .inl (-1), .inl (-1), .inl (-1), .inl 0, .inl 0, .inl (-1), .inl 0, .inl 0, .inl 0]),
  .inl (4, [.inl 7, .inl 0, .inl 0, .inl (-1), .inl (-1), .inl (-1), .inl 0, .inl 0, .inl (-1), .inl 0, .inl 0, .inl 0]),
  .inl (4, [.inl 7, .inl 0, .inl 0, .inl (-1), .inl (-1), .inl (-1), .inl 0, .inl 0, .inl (-1), .inl 0, .inl 0, .inl 0]),
  .inl (4, [.inl 7, .inl 0, .inl 0, .inl (-1), .inl (-1), .inl (-1), .inl 0, .inl 0, .inl (-1), .inl 0, .inl 0, .inl 0]),
  .inl (4, [.inl 7, .inl 0, .inl 0, .inl (-1), .inl (-1), .inl (-1), .inl 0, .inl 0, .inl (-1), .inl 0, .inl 0, .inl 0]),
  .inl (4, [.inl 7, .inl 0, .inl 0, .inl (-1), .inl (-1), .inl (-1), .inl 0, .inl 0, .inl (-1), .inl 0, .inl 0, .inl 0]),
  .inl (4, [.inl 7, .inl 0, .inl 0, .inl (-1), .inl (-1), .inl (-1), .inl 0, .inl 0, .inl (-1), .inl 0, .inl 0, .inl 0]),
  .inl (4, [.inl 7, .inl 0, .inl 0, .inl (-1), .inl (-1), .inl (-1), .inl 0, .inl 0, .inl (-1), .inl 0, .inl 0, .inl 0]),
  .inl (4, [.inl 7, .inl 0, .inl 0, .inl (-1), .inl (-1), .inl (-1), .inl 0, .inl 0, .inl (-1), .inl 0, .inl 0, .inl 0]),
  .inl (4, [.inl 7, .inl 0, .inl 0, .inl (-1), .inl (-1), .inl (-1), .inl 0, .inl 0, .inl (-1), .inl 0, .inl 0, .inl 0]),
  .inl (4, [.inl 7, .inl 0, .inl 0, .inl (-1), .inl (-1), .inl (-1), .inl 0, .inl 0, .inl (-1), .inl 0, .inl 0, .inl 0]),
  .inl (4, [.inl 7, .inl 0, .inl 0, .inl (-1), .inl (-1), .inl (-1), .inl 0, .inl 0, .inl (-1), .inl 0, .inl 0, .inl 0]),
  .inl (4, [.inl 7, .inl 0, .inl 0, .inl (-1), .inl (-1), .inl (-1), .inl 0, .inl 0, .inl (-1), .inl 0, .inl 0, .inl 0]),
  .inl (4, [.inl 7, .inl 0, .inl 0, .inl (-1), .inl (-1), .inl (-1), .inl 0, .inl 0, .inl (-1), .inl 0, .inl 0, .inl 0]),
  .inl (4, [.inl 7, .inl 0, .inl 0, .inl (-1), .inl (-1), .inl (-1), .inl 0, .inl 0, .inl (-1), .inl 0, .inl 0, .inl 0]),
  .inl (4, [.inl 7, .inl 0, .inl 0, .inl (-1), .inl (-1), .inl (-1), .inl 0, .inl 0, .inl (-1), .inl 0, .inl 0, .inl 0]),
  .inl (4, [.inl 7, .inl 0, .inl 0, .inl (-1), .inl (-1), .inl (-1), .inl 0, .inl 0, .inl (-1), .inl 0, .inl 0, .inl 0]),
  .inl (4, [.inl 7, .inl 0, .inl 0, .inl (-1), .inl (-1), .inl (-1), .inl 0, .inl 0, .inl (-1), .inl 0, .inl 0, .inl 0]),
  .inl (5, [.inr (some 15), .inr (some 7), .inr (some 86), .inr (some 87), .inr (some 88), .inl (-1)]),
  .inr (0, 720, []),
  .inr (0, 60, []),
  .inr (0, 26, []),
  .inl (7, [.inr (some 15), .inr (some 85), .inr (some 7), .inr (some 90), .inl (-1)]),
  .inl (1, [.inl 100, .inl 48, .inr (some 91), .inr (some 92), .inl 0, .inl 0]),
  .inr (1, 4800, []),
  .inr (0, 100, []),
  .inl (8, [.inr (some 15), .inr (some 85), .inr (some 96), .inr (some 94), .inr (some 95), .inl 0]),
  .inr (2, 26, []),
  .inr (0, 26, []),
  .inl (1, [.inl 60, .inl 24, .inr (some 97), .inr (some 98), .inl 0, .inl 0]),
  .inr (1, 1440, []),
  .inr (0, 60, []),
  .inl (9, [.inr (some 100), .inr (some 103), .inr (some 104), .inl 0]),
  .inl (1, [.inl 300, .inl 24, .inr (some 101), .inr (some 102), .inl 0, .inl 0]),
  .inr (1, 7200, []),
  .inr (0, 300, []),
  .inr (0, 5, []),
  .inr (1, 5, []),
  .inl (10, [.inr (some 106), .inr (some 107), .inl 0, .inr (some 108), .inr (some 109), .inl 0, .inr (some 110), .inr (some 111), .inr (some 112), .inr (some 113), .inl 0, .inl 0, .inl 0, .inl 0, .inl 0, .inl 0, .inl 0, .inl 0, .inl 0, .inl 0, .inl 0, .inr (some 114), .inl 0, .inl 0, .inl 0, .inr (some 115), .inr (some 116), .inr (some 117), .inr (some 118), .inl 0, .inl 0, .inl 0, .inr (some 119), .inr (some 120), .inr (some 121), .inr (some 122), .inl 0, .inr (some 123), .inr (some 124), .inr (some 125), .inr (some 126), .inr (some 127), .inr (some 128), .inr (some 129), .inr (some 130), .inl 0, .inl 0]),
  .inr (0, 1440, []),
  .inr (0, 60, []),
  .inr (0, 1440, []),
  .inr (0, 60, []),
  .inr (0, 7200, []),
  .inr (0, 300, []),
  .inr (0, 5, []),
  .inr (0, 5, []),
  .inr (0, 61, []),
  .inr (0, 26, []),
  .inr (0, 26, []),
  .inr (0, 1500, []),
  .inr (0, 1500, []),
  .inr (0, 4, []),
  .inr (0, 4, []),
  .inr (0, 4, []),
  .inr (0, 10, []),
  .inr (0, 1440, []),
  .inr (0, 1440, []),
  .inr (0, 26, []),
  .inr (0, 26, []),
  .inr (0, 1440, []),
  .inr (0, 26, []),
  .inr (0, 12000, []),
  .inr (0, 100, []),
  .inr (4, 1, [])]
def ob_lf : List ox_V := [.inr (.inr (122, 0, 0)), ob_r 0, ob_r 105, ob_r 131, .inl 0, ox_d, ox_d]
def ob_eqE (x y : ob_E) : Bool := match x, y with
  | .inl a, .inl b => decide (a.1 = b.1) && decide (a.2 = b.2)
  | .inr a, .inr b => decide (a.1 = b.1) && decide (a.2.1 = b.2.1) && decide (a.2.2 = b.2.2)
  | _, _ => false
def ob_eqB : ob_B → ob_B → Bool
  | [], [] => true
  | x :: r, y :: s => ob_eqE x y && ob_eqB r s
  | _, _ => false
theorem ob_eqB_ok : ∀ {x y : ob_B}, ob_eqB x y = true → x = y
  | [], [], _ => rfl
  | [], _ :: _, h => by cases h
  | _ :: _, [], h => by cases h
  | x :: r, y :: s, h => by
    have h : (ob_eqE x y && ob_eqB r s) = true := h
    rw [Bool.and_eq_true] at h
    rw [ob_eqB_ok h.2]
    congr 1
    have h1 := h.1
    rcases x with ⟨a, b⟩ | ⟨a, b, c⟩ <;> rcases y with ⟨a', b'⟩ | ⟨a', b', c'⟩
    · have h1 : (decide (a = a') && decide (b = b')) = true := h1
      rw [Bool.and_eq_true, decide_eq_true_eq, decide_eq_true_eq] at h1
      rw [h1.1, h1.2]
    · cases h1
    · cases h1
    · have h1 : (decide (a = a') && decide (b = b') && decide (c = c')) = true := h1
      rw [Bool.and_eq_true, Bool.and_eq_true, decide_eq_true_eq, decide_eq_true_eq, decide_eq_true_eq] at h1
      rw [h1.1.1, h1.1.2, h1.2]
set_option maxRecDepth 100000 in
theorem ob_fin_eb : (match ob_fin with | some (a, b, d, ls, st, B) => Nat.beq a 23 && Nat.beq b 600885 && Nat.beq d 7216977 && decide (ls = ob_lf) && st.isEmpty && ob_eqB B ob_Bf | none => false) = true := by decide +kernel
theorem ob_fin_eq : ob_fin = some (23, 600885, 7216977, ob_lf, [], ob_Bf) := by
  have h := ob_fin_eb
  cases hf : ob_fin with
  | none => rw [hf] at h; cases h
  | some x =>
    obtain ⟨a, b, d, ls, st, B⟩ := x
    rw [hf] at h
    simp only [Bool.and_eq_true, decide_eq_true_eq] at h
    obtain ⟨⟨⟨⟨⟨h1, h2⟩, h3⟩, h4⟩, h5⟩, h6⟩ := h
    rw [Nat.eq_of_beq_eq_true h1, Nat.eq_of_beq_eq_true h2, Nat.eq_of_beq_eq_true h3, h4, List.isEmpty_iff.mp h5, ob_eqB_ok h6]
def ob_io (c k : Nat) : Nat := if c = 0 then 0 else if c = 1 then [1, 4, 90, 96, 100].getD k 0 else if c = 2 then 15 else if c = 3 then 22 else if c = 4 then (if k < 60 then 25 + k else 24) else if c = 5 then 85 else if c = 6 then 7 else if c = 7 then 89 else if c = 8 then 93 else if c = 9 then 99 else 105
def ob_fd (a j : Nat) : Nat := match ob_Bf[a]? with | some (.inl o) => (match o.2[j]? with | some (.inr (some k)) => k | _ => 0) | _ => 0
def ob_ix (r : Nat × Nat × Nat) : Nat := if r.1 < 100 then ob_io r.1 r.2.1 else if r.1 = 121 then 131 else ob_fd (ob_io (r.1 - 100) r.2.1) r.2.2
/-- the numbers with which the objects begin -/
def ob_i0 (c k j : Nat) : Int := if c = 1 then (if j = 0 then (ox_ln k : Int) else if j = 1 then (ox_wd k : Int) else 0) else if c = 2 then (if j = 10 then -1 else 0) else if c = 4 then (if j = 0 then 7 else if j = 3 then -1 else if j = 4 then -1 else if j = 5 then -1 else if j = 8 then -1 else 0) else if c = 5 then (if j = 5 then -1 else 0) else if c = 7 then (if j = 4 then -1 else 0) else 0
/-- the heap with which the law's loop begins -/
def ox_H0 (L : Nat) (xs : Nat → Int32) : ox_H := fun c k j i => if c = 22 then (if j = 1 then (L : Int) else if j = 0 then (xs i).toInt else 0) else ob_i0 c k j
def ob_fv (c k j : Nat) : ob_F := match ox_fk c j with
  | (1, _, _) => .inr (some (ob_ix (100 + c, k, j)))
  | (2, c2, k2) => .inr (some (ob_ix (c2, k2, 0)))
  | _ => .inl (ob_i0 c k j)
def ob_ac (c : Nat) : Bool := decide (c = 10 ∨ c = 1 ∨ c = 2 ∨ c = 3 ∨ c = 5 ∨ c = 6 ∨ c = 8 ∨ c = 9 ∨ c = 21)
def ob_mt (r : Nat × Nat × Nat) : Bool := match ob_Bf[ob_ix r]? with
  | some (.inl o) => decide (r.1 < 11) && r.2.2 == 0 && o.1 == r.1 && decide (o.2 = (List.range (ox_nf r.1)).map (fun j => ob_fv r.1 r.2.1 j))
  | some (.inr a) => decide (100 ≤ r.1) && decide (r.1 < 122) && a.1 == ox_ty (r.1 - 100) r.2.2 && a.2.1 == ox_len (fun _ _ _ _ => 0) (r.1 - 100) r.2.1 r.2.2 && ob_ac (r.1 - 100) && (if a.1 = 3 then a.2.1 == 60 && (List.range 60).all (fun i => ob_lk a.2.2 i == some (ob_ix (4, i, 0))) else (a.2.2 == [] && ob_i0 (r.1 - 100) r.2.1 r.2.2 == 0))
  | none => false
set_option maxRecDepth 100000 in
theorem ob_mt_ok : ox_L0.all ob_mt = true := by decide +kernel
set_option maxRecDepth 100000 in
theorem ob_ix_nd : va_nd (ox_L0.map ob_ix) = true := by decide +kernel
theorem ob_i0_ok (c k j : Nat) : ox_vok (ox_ty c j) (ob_i0 c k j) := by
  have hw : (ox_wd k : Int) = 48 ∨ (ox_wd k : Int) = 24 := by unfold ox_wd; split <;> simp
  have hn : (ox_ln k : Int) = 100 ∨ (ox_ln k : Int) = 300 ∨ (ox_ln k : Int) = 60 := by
    unfold ox_ln
    split
    · simp
    · split <;> simp
  have h0 : ∀ ty, ox_vok ty 0 := by
    intro ty
    unfold ox_vok
    split
    · omega
    · omega
    · exact ⟨by omega, by omega⟩
    · exact ⟨by omega, by omega⟩
  have hi : ∀ ty x, ty = 0 → -1 ≤ x → x ≤ 300 → ox_vok ty x := by
    rintro ty x rfl h1 h2
    show ox_i32 x
    exact ⟨by omega, by omega⟩
  unfold ob_i0
  by_cases h1 : c = 1
  · rw [if_pos h1]; subst h1
    by_cases j0 : j = 0
    · rw [if_pos j0]; subst j0; exact hi _ _ rfl (by omega) (by omega)
    · rw [if_neg j0]
      by_cases j1 : j = 1
      · rw [if_pos j1]; subst j1; exact hi _ _ rfl (by omega) (by omega)
      · rw [if_neg j1]; exact h0 _
  rw [if_neg h1]
  by_cases h2 : c = 2
  · rw [if_pos h2]; subst h2
    by_cases j0 : j = 10
    · rw [if_pos j0]; subst j0; exact hi _ _ rfl (by omega) (by omega)
    · rw [if_neg j0]; exact h0 _
  rw [if_neg h2]
  by_cases h4 : c = 4
  · rw [if_pos h4]; subst h4
    by_cases j0 : j = 0
    · rw [if_pos j0]; subst j0; exact hi _ _ rfl (by omega) (by omega)
    rw [if_neg j0]
    by_cases j3 : j = 3
    · rw [if_pos j3]; subst j3; exact hi _ _ rfl (by omega) (by omega)
    rw [if_neg j3]
    by_cases j4 : j = 4
    · rw [if_pos j4]; subst j4; exact hi _ _ rfl (by omega) (by omega)
    rw [if_neg j4]
    by_cases j5 : j = 5
    · rw [if_pos j5]; subst j5; exact hi _ _ rfl (by omega) (by omega)
    rw [if_neg j5]
    by_cases j8 : j = 8
    · rw [if_pos j8]; subst j8; exact hi _ _ rfl (by omega) (by omega)
    rw [if_neg j8]; exact h0 _
  rw [if_neg h4]
  by_cases h5 : c = 5
  · rw [if_pos h5]; subst h5
    by_cases j0 : j = 5
    · rw [if_pos j0]; subst j0; exact hi _ _ rfl (by omega) (by omega)
    · rw [if_neg j0]; exact h0 _
  rw [if_neg h5]
  by_cases h7 : c = 7
  · rw [if_pos h7]; subst h7
    by_cases j0 : j = 4
    · rw [if_pos j0]; subst j0; exact hi _ _ rfl (by omega) (by omega)
    · rw [if_neg j0]; exact h0 _
  rw [if_neg h7]
  exact h0 _
theorem ox_H0_sok (L : Nat) (hL : L ≤ 2560) (xs : Nat → Int32) : ox_sok (ox_H0 L xs) := by
  intro c k j i
  unfold ox_H0
  by_cases h : c = 22
  · subst h
    have e : ox_ty 22 j = 0 := rfl
    rw [if_pos rfl, e]
    show ox_i32 _
    split
    · exact ⟨by omega, by omega⟩
    · split
      · exact ox_toInt_in _
      · exact ⟨by omega, by omega⟩
  · rw [if_neg h]
    exact ob_i0_ok c k j
/-- the launch's numbers out of the addresses of the cells made -/
def ob_Gf (D : va_G) (cA : Nat → ClassId) (adK aV : Nat → Nat) (b bs : Nat) (as : List Nat) : ox_G := (D, cA, fun r => if r.1 = 200 then adK r.2.1 else if r = (122, 0, 0) then b else as.getD (ob_ix r) 0, aV, bs)
theorem ob_Gf_ad {D : va_G} {cA : Nat → ClassId} {adK aV : Nat → Nat} {b bs : Nat} {as : List Nat} {r : Nat × Nat × Nat} (h : r.1 < 122) : ox_ad (ob_Gf D cA adK aV b bs as) r = as.getD (ob_ix r) 0 := by
  show (if r.1 = 200 then _ else if r = (122, 0, 0) then _ else _) = _
  rw [if_neg (by omega), if_neg (fun q => by rw [q] at h; exact absurd h (by decide))]
theorem ob_H0_len {L : Nat} {xs : Nat → Int32} {c k j : Nat} (h : ob_ac c = true) : ox_len (ox_H0 L xs) c k j = ox_len (fun _ _ _ _ => 0) c k j := by
  unfold ob_ac at h
  rw [decide_eq_true_eq] at h
  rcases h with rfl | rfl | rfl | rfl | rfl | rfl | rfl | rfl | rfl <;> rfl
theorem ob_cell_congr {cA : ClassId} {n : Nat} {f g : Nat → Option Nat} (h : ∀ i, i < n → f i = g i) : vp_cell cA (n, .inr (.inr (.inr (.inr f)))) = vp_cell cA (n, .inr (.inr (.inr (.inr g)))) := by
  show arrV cA n (fun j => va_rf (f j)) = arrV cA n (fun j => va_rf (g j))
  unfold arrV
  congr 1
  apply Array.ext
  · simp
  · intro i h1 h2
    have h1 : i < n := by simpa using h1
    simp [h i h1]
section OB98
variable {D : va_G} {cA : Nat → ClassId} {adK aV : Nat → Nat} {b bs : Nat} {as : List Nat} {G : ox_G} {L : Nat} {xs : Nat → Int32} {H : Heap}
/-- each cell of the world stands in the heap -/
theorem ob_world_at (hG : ox_cA G = cA) (hP : va_P D ox_cls (ob_ws G as ob_Bf) H) (hl : as.length = ob_Bf.length) {r : Nat × Nat × Nat} (hr : r ∈ ox_L0) : va_at D ox_cls (ox_ad (ob_Gf D cA adK aV b bs as) r, ox_ent (ob_Gf D cA adK aV b bs as) (ox_H0 L xs) r) H := by
  have hm := List.all_eq_true.mp ob_mt_ok r hr
  unfold ob_mt at hm
  cases hB : ob_Bf[ob_ix r]? with
  | none => rw [hB] at hm; cases hm
  | some x =>
    rw [hB] at hm
    have hat := hP _ _ (ob_ws_at (G := G) hl hB)
    obtain ⟨t, k, j⟩ := r
    rcases x with ⟨c1, fs⟩ | ⟨ty, n, rs⟩
    · simp only [Bool.and_eq_true, decide_eq_true_eq, beq_iff_eq] at hm
      obtain ⟨⟨⟨h1, rfl⟩, h3⟩, h4⟩ := hm
      have h1 : t < 11 := h1
      have h3 : c1 = t := h3
      subst h3
      have h4 : fs = (List.range (ox_nf c1)).map (fun j => ob_fv c1 k j) := h4
      rw [ox_ent_obj h1, ob_Gf_ad (by show c1 < 122; omega)]
      have e : (List.range (ox_nf c1)).map (fun j => ox_fv (ob_Gf D cA adK aV b bs as) (ox_H0 L xs) c1 k j) = fs.map (ob_fm as) := by
        rw [h4, List.map_map]
        apply List.map_congr_left
        intro z hz
        have hz := List.mem_range.mp hz
        show ox_fv _ _ c1 k z = ob_fm as (ob_fv c1 k z)
        rcases hf : ox_fk c1 z with ⟨a, b2, d2⟩
        by_cases a1 : a = 1
        · unfold ox_fv ob_fv
          rw [hf]
          subst a1
          show Value.ref _ = Value.ref _
          rw [ob_Gf_ad (by show 100 + c1 < 122; omega)]
        · by_cases a2 : a = 2
          · unfold ox_fv ob_fv
            rw [hf]
            subst a2
            have g := ox_fk_ref c1 h1 z hz (by rw [hf])
            rw [hf] at g
            have g1 : b2 < 11 := g.1
            show Value.ref _ = Value.ref _
            rw [ob_Gf_ad (by show b2 < 122; omega)]
          · have e1 : ox_fv (ob_Gf D cA adK aV b bs as) (ox_H0 L xs) c1 k z = .int (Int32.ofInt (ox_H0 L xs c1 k z 0)) := by
              unfold ox_fv
              rw [hf]
              split
              · rename_i hh; simp only [Prod.mk.injEq] at hh; exact absurd hh.1 a1
              · rename_i hh; simp only [Prod.mk.injEq] at hh; exact absurd hh.1 a2
              · rfl
            have e2 : ob_fv c1 k z = .inl (ob_i0 c1 k z) := by
              unfold ob_fv
              rw [hf]
              split
              · rename_i hh; simp only [Prod.mk.injEq] at hh; exact absurd hh.1 a1
              · rename_i hh; simp only [Prod.mk.injEq] at hh; exact absurd hh.1 a2
              · rfl
            rw [e1, e2]
            show Value.int _ = Value.int _
            unfold ox_H0
            rw [if_neg (by omega)]
      rw [e]
      exact hat
    · simp only [Bool.and_eq_true, decide_eq_true_eq, beq_iff_eq] at hm
      obtain ⟨⟨⟨⟨⟨h1, h2⟩, h3⟩, h4⟩, h6⟩, h5⟩ := hm
      have h1 : 100 ≤ t := h1
      have h2 : t < 122 := h2
      obtain ⟨c1, rfl⟩ : ∃ c, t = 100 + c := ⟨t - 100, by omega⟩
      have e0 : 100 + c1 - 100 = c1 := Nat.add_sub_cancel_left ..
      have h3 : ty = ox_ty (100 + c1 - 100) j := h3
      have h4 : n = ox_len (fun _ _ _ _ => 0) (100 + c1 - 100) k j := h4
      have h6 : ob_ac (100 + c1 - 100) = true := h6
      rw [e0] at h3 h4 h6
      subst h3
      rw [ox_ent_arr, ob_Gf_ad (by show 100 + c1 < 122; omega)]
      have hlen : ox_len (ox_H0 L xs) c1 k j = n := by rw [ob_H0_len h6, h4]
      have hne : c1 ≠ 22 := by omega
      show H[as.getD (ob_ix (100 + c1, k, j)) 0]? = some (vp_cell (cA (ox_ty c1 j)) (ox_rw (ob_Gf D cA adK aV b bs as) (ox_H0 L xs) c1 k j))
      have hat : H[as.getD (ob_ix (100 + c1, k, j)) 0]? = some (vp_cell (ox_cA G (ox_ty c1 j)) (n, match ox_ty c1 j with
        | 3 => .inr (.inr (.inr (.inr (fun i => (ob_lk rs i).map (fun k => as.getD k 0)))))
        | 4 => .inr (.inl (fun _ => 0))
        | _ => .inl (fun _ => 0))) := hat
      rw [hat, hG]
      congr 1
      by_cases h33 : ox_ty c1 j = 3
      · unfold ox_rw
        rw [hlen]
        rw [h33] at h5 ⊢
        rw [if_pos rfl, Bool.and_eq_true, beq_iff_eq] at h5
        obtain ⟨h51, h52⟩ := h5
        have h51 : n = 60 := h51
        refine ob_cell_congr (fun i hi => ?_)
        have := List.all_eq_true.mp h52 i (List.mem_range.mpr (by omega))
        rw [eq_of_beq this]
        show some _ = some _
        rw [ob_Gf_ad (by show 4 < 122; omega)]
      · rw [if_neg h33, Bool.and_eq_true, beq_iff_eq, beq_iff_eq] at h5
        have h52 : ob_i0 (100 + c1 - 100) k j = 0 := h5.2
        rw [e0] at h52
        have hz : ox_H0 L xs c1 k j = fun _ => 0 := by
          funext i
          unfold ox_H0
          rw [if_neg hne, h52]
        by_cases h44 : ox_ty c1 j = 4
        · unfold ox_rw
          rw [hlen, hz, h44]
          rfl
        · rw [ox_rw_n h33 h44, hlen, hz]
          split
          · rename_i hh; exact absurd hh h33
          · rename_i hh; exact absurd hh h44
          · rfl
theorem ob_world (A : Nat → Prop) (hG : ox_cA G = cA) (hP : va_P D ox_cls (ob_ws G as ob_Bf) H) (hD : va_D A (ob_ws G as ob_Bf)) (hl : as.length = ob_Bf.length) : va_P D ox_cls (ox_ws (ob_Gf D cA adK aV b bs as) 0 (ox_H0 L xs)) H ∧ va_D A (ox_ws (ob_Gf D cA adK aV b bs as) 0 (ox_H0 L xs)) := by
  have hw : ∀ (k : Nat) (q : Nat × va_E), (ox_ws (ob_Gf D cA adK aV b bs as) 0 (ox_H0 L xs))[k]? = some q → ∃ r, ox_L0[k]? = some r ∧ r ∈ ox_L0 ∧ q = (ox_ad (ob_Gf D cA adK aV b bs as) r, ox_ent (ob_Gf D cA adK aV b bs as) (ox_H0 L xs) r) := by
    intro k q hq
    have hq : ((ox_L0.map fun r => (ox_ad (ob_Gf D cA adK aV b bs as) r, ox_ent (ob_Gf D cA adK aV b bs as) (ox_H0 L xs) r)))[k]? = some q := hq
    rw [List.getElem?_map] at hq
    cases hr : ox_L0[k]? with
    | none => rw [hr] at hq; cases hq
    | some r => rw [hr] at hq; cases hq; exact ⟨r, rfl, List.mem_of_getElem? hr, rfl⟩
  have hix : ∀ r ∈ ox_L0, r.1 < 122 ∧ ∃ x, ob_Bf[ob_ix r]? = some x := by
    intro r hr
    have hm := List.all_eq_true.mp ob_mt_ok r hr
    unfold ob_mt at hm
    cases hB : ob_Bf[ob_ix r]? with
    | none => rw [hB] at hm; cases hm
    | some x =>
      refine ⟨?_, x, rfl⟩
      rw [hB] at hm
      rcases x with o | a
      · simp only [Bool.and_eq_true, decide_eq_true_eq] at hm
        have := hm.1.1.1
        omega
      · simp only [Bool.and_eq_true, decide_eq_true_eq] at hm
        exact hm.1.1.1.1.2
  refine ⟨fun k q hq => ?_, fun i j p q hp hq he => ?_, fun k q hq => ?_⟩
  · obtain ⟨r, -, hr, rfl⟩ := hw k q hq
    exact ob_world_at hG hP hl hr
  · obtain ⟨r1, h1, m1, rfl⟩ := hw i p hp
    obtain ⟨r2, h2, m2, rfl⟩ := hw j q hq
    obtain ⟨l1, x1, g1⟩ := hix r1 m1
    obtain ⟨l2, x2, g2⟩ := hix r2 m2
    have he : ox_ad (ob_Gf D cA adK aV b bs as) r1 = ox_ad (ob_Gf D cA adK aV b bs as) r2 := he
    rw [ob_Gf_ad l1, ob_Gf_ad l2] at he
    have e3 := hD.1 _ _ _ _ (ob_ws_at (G := G) hl g1) (ob_ws_at (G := G) hl g2) he
    refine va_nd_inj _ ob_ix_nd i j (ob_ix r1) ?_ ?_
    · rw [List.getElem?_map, h1]; rfl
    · rw [List.getElem?_map, h2, e3]; rfl
  · obtain ⟨r, -, hr, rfl⟩ := hw k q hq
    obtain ⟨l1, x1, g1⟩ := hix r hr
    show A (ox_ad (ob_Gf D cA adK aV b bs as) r)
    rw [ob_Gf_ad l1]
    exact hD.2 _ _ (ob_ws_at (G := G) hl g1)
end OB98
/-- what the mathematics owes: the law's loop answers 1 -/
def oz_M (L : Nat) (xs : Nat → Int32) : Prop := ∃ σ', J_Law_law_23 0 450000 (ox_H0 L xs) = some (1, σ')
