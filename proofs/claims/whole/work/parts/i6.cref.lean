/-! ===== the class's sheet is right once it is refreshed ===== -/
/-- a cell that stays open is an ERROR -/
def oy_cl (v : Int) : Int := if v = 1000001 then 1000000 else v
/-- the sheet is the text's -/
def oy_SH (T : oy_T) (σ : ox_H) : Prop := ∃ f, oy_fin T f ∧ oy_vs (fun l c => oy_cl (f l c)) σ ∧ oy_tps T σ ∧ oy_bks T σ
section OYI6
variable {T : oy_T} {σ : ox_H} {f : Nat → Nat → Int}
theorem oc_souter (hT : oy_ok T) : ∀ (k v2 n : Nat) (v1 : Int) (f : Nat → Nat → Int) (σ : ox_H), oy_Q T σ → oy_tps T σ → oy_bks T σ → oy_vs f σ → oy_pin T f → ((v1 = 0 ∧ oy_nc T f 0) ∨ (v1 = 1 ∧ oy_ct f 720 + v2 ≤ 720)) → v2 + k = 720 → k < n → ∃ f' τ, ox_lp B_She_refresh_42 n (v1, (v2 : Int), σ) = J_She_refresh_123 τ ∧ oy_fs oy_s5 σ τ ∧ (∀ j i, j ≠ 2 → τ 5 0 j i = σ 5 0 j i) ∧ oy_vs f' τ ∧ oy_fin T f'
  | _, _, 0, _, _, _, _, _, _, _, _, _, _, h => absurd h (Nat.not_lt_zero _)
  | 0, v2, n + 1, v1, f, σ, _, _, _, hv, hp, hd, h1, _ => by
    refine ⟨f, σ, oy_lp_m ?_, oy_fs.rf, fun _ _ _ => rfl, hv, hp.fin hT ?_⟩
    · unfold B_She_refresh_42
      dsimp only
      rw [if_pos (by omega)]
    · rcases hd with ⟨_, h⟩ | ⟨_, h⟩
      · exact h
      · intro j _ hj h3
        exact absurd h3 (oy_ct_0 (show oy_ct f 720 = 0 by omega) j hj)
  | k + 1, v2, n + 1, v1, f, σ, hQ, ht, hb, hv, hp, hd, h1, h2 => by
    rcases hd with ⟨z, h⟩ | ⟨z, h⟩
    · refine ⟨f, σ, oy_lp_m ?_, oy_fs.rf, fun _ _ _ => rfl, hv, hp.fin hT h⟩
      unfold B_She_refresh_42
      dsimp only
      rw [if_neg (by omega), if_pos z]
    · obtain ⟨v1', f1, σ1, e1, r1, g1, vs1, p1, d1⟩ := oc_spass hT v2 (by omega) 720 0 ox_fu 0 f σ hQ ht hb hv hp (Or.inl rfl) rfl (by show 720 < 100000; decide)
      have hd1 : (v1' = 0 ∧ oy_nc T f1 0) ∨ (v1' = 1 ∧ oy_ct f1 720 + (v2 + 1) ≤ 720) := by
        rcases d1 with ⟨a, b, c⟩ | ⟨a, b⟩
        · rw [b]
          exact Or.inl ⟨a, c⟩
        · exact Or.inr ⟨a, by omega⟩
      obtain ⟨f2, τ, e2, r2, g2, vs2, p2⟩ := oc_souter hT k (v2 + 1) n v1' f1 σ1 (hQ.fs5 r1) (fun l hl => (g1 3 l (by decide)).trans (ht l hl)) (fun x hx => (g1 4 x (by decide)).trans (hb x hx)) vs1 p1 hd1 (by omega) (by omega)
      refine ⟨f2, τ, (oy_lp_l (a' := (v1', ((v2 + 1 : Nat) : Int), σ1)) ?_).trans e2, r1.tr r2, fun j i hj => (g2 j i hj).trans (g1 j i hj), vs2, p2⟩
      unfold B_She_refresh_42 J_She_refresh_59
      dsimp only
      rw [if_neg (by omega), z, if_neg (by decide)]
      exact e1
theorem oc_cll : ∀ (k i n : Nat) (σ : ox_H), i + k = 720 → k < n → ∃ τ, ox_lp B_She_refresh_125 n ((i : Int), σ) = some τ ∧ oy_fs oy_s5 σ τ ∧ (∀ j, j < 720 → τ 5 0 2 j = if j < i then σ 5 0 2 j else oy_cl (σ 5 0 2 j)) ∧ ∀ j i, j ≠ 2 → τ 5 0 j i = σ 5 0 j i
  | _, _, 0, _, _, h => absurd h (Nat.not_lt_zero _)
  | 0, i, n + 1, σ, h1, _ => by
    refine ⟨σ, oy_lp_m (X := some σ) ?_, oy_fs.rf, fun j hj => (if_pos (by omega)).symm, fun _ _ _ => rfl⟩
    unfold B_She_refresh_125 J_She_refresh_168
    dsimp only
    rw [if_pos (by omega)]
  | k + 1, i, n + 1, σ, h1, h2 => by
    obtain ⟨τ, e1, f1, g1, g2⟩ := oc_cll k (i + 1) n (ox_up σ 5 0 2 i (oy_cl (σ 5 0 2 i))) (by omega) (by omega)
    refine ⟨τ, (oy_lp_l (a' := (((i + 1 : Nat) : Int), ox_up σ 5 0 2 i (oy_cl (σ 5 0 2 i)))) ?_).trans e1, (oy_fs.rf.up rfl).tr f1, fun j hj => ?_, fun j i hj => (g2 j i hj).trans (oy_up_ne (fun q => hj q.2))⟩
    · unfold B_She_refresh_125 J_She_refresh_161 oy_cl
      dsimp only
      rw [if_neg (by omega), if_pos (by omega), Int.toNat_natCast, oy_er, oy_op]
      by_cases q : σ 5 0 2 i = 1000001
      · rw [if_pos q, if_pos q, if_pos (by omega), oy_w1 (by omega)]
      · rw [if_neg q, if_neg q, if_pos (by omega), if_pos (by omega), oy_w1 (by omega)]
    · rw [g1 j hj]
      by_cases q : j = i
      · rw [q, if_pos (by omega), if_neg (by omega)]
        exact oy_up_same
      · rw [oy_up_ni q]
        by_cases q2 : j < i
        · rw [if_pos (by omega), if_pos q2]
        · rw [if_neg (by omega), if_neg q2]
theorem oc_sheet (hT : oy_ok T) (hQ : oy_Q T σ) (hS : σ 5 0 5 0 = σ 2 0 10 0 → oy_SH T σ) : ∃ τ, F_She_refresh σ = some τ ∧ oy_fs oy_s5 σ τ ∧ oy_SH T τ ∧ τ 5 0 5 0 = σ 2 0 10 0 := by
  unfold F_She_refresh
  by_cases q : σ 5 0 5 0 = σ 2 0 10 0
  · rw [if_pos q]
    exact ⟨σ, rfl, oy_fs.rf, hS q, q⟩
  rw [if_neg q]
  have f0 : oy_fs oy_s5 σ (ox_up σ 5 0 5 0 (σ 2 0 10 0)) := oy_fs.rf.up rfl
  have v0 : ox_up σ 5 0 5 0 (σ 2 0 10 0) 5 0 5 0 = σ 2 0 10 0 := oy_up_same
  generalize ox_up σ 5 0 5 0 (σ 2 0 10 0) = σ0 at f0 v0 ⊢
  have Q0 := hQ.fs5 f0
  obtain ⟨σ1, e1, f1, b1, g1⟩ := oc_findBlocks hT Q0
  have Q1 := Q0.fs5 f1
  obtain ⟨σ2, e2, f2, t2, g2⟩ := oc_findTops hT Q1
  have Q2 := Q1.fs5 f2
  obtain ⟨σ3, e3, f3, vs3, g3⟩ := oc_openCells hT Q2
  have Q3 := Q2.fs5 f3
  have t3 : oy_tps T σ3 := fun l hl => (g3 3 l (by decide)).trans (t2 l hl)
  have b3 : oy_bks T σ3 := fun x hx => (g3 4 x (by decide)).trans ((g2 4 x (by decide)).trans (b1 x hx))
  have p3 : oy_pin T (sp_D T 0) := by
    refine ⟨⟨0, fun _ _ => oy_lq.rf⟩, fun _ _ => oy_lq.rf, fun l c hs => ?_⟩
    by_cases z : c < sp_nc T l
    · exact absurd (if_pos z) hs
    · rw [sp_D_no T z 0]
      exact (if_neg z).symm
  have hct := oy_ct_le (sp_D T 0) 720
  obtain ⟨f, σ4, e4, f4, g4, vs4, p4⟩ := oc_souter hT 720 0 ox_fu 1 (sp_D T 0) σ3 Q3 t3 b3 vs3 p3 (Or.inr ⟨rfl, by omega⟩) rfl (by show 720 < 100000; decide)
  obtain ⟨σ5, e5, f5, c5, g5⟩ := oc_cll 720 0 ox_fu σ4 rfl (by show 720 < 100000; decide)
  refine ⟨σ5, ?_, f0.tr (f1.tr (f2.tr (f3.tr (f4.tr f5)))), ⟨f, p4, oy_vs_of (fun i hi => ?_), fun l hl => (g5 3 l (by decide)).trans ((g4 3 l (by decide)).trans (t3 l hl)), fun x hx => (g5 4 x (by decide)).trans ((g4 4 x (by decide)).trans (b3 x hx))⟩, ?_⟩
  · rw [e1, Option.bind_some, e2, Option.bind_some, e3, Option.bind_some]
    unfold J_She_refresh_42
    refine Eq.trans e4 ?_
    unfold J_She_refresh_123 J_She_refresh_125
    exact e5
  · rw [c5 i hi, if_neg (Nat.not_lt_zero _), vs4.at hi]
  · rw [g5 5 0 (by decide), g4 5 0 (by decide), g3 5 0 (by decide), g2 5 0 (by decide), g1 5 0 (by decide)]
    exact v0
end OYI6
