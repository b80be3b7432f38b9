/-! ===== the export: the class's parts and includes ===== -/
theorem sp_kind_6 {w : List Int} (h : sp_kind w = 6) : sp_lt (oy_wk w 1) := by
  unfold sp_kind at h
  by_cases q : w.length = 2 ∧ oy_wk w 0 = 33 ∧ sp_lt (oy_wk w 1)
  · exact q.2.2
  · rw [if_neg q] at h
    revert h
    split <;> (try split) <;> (try split) <;> (try split) <;> (try split) <;> (try split) <;> intro h <;> exact absurd h (by decide)
/-- an entry's part that is dropped comes to nothing -/
theorem sp_px_dpd {T : oy_T} {f : Nat → Nat → Int} {d t m : Nat} (ht : t < sp_n T) (hs : sp_es_st T t = 3) : sp_px T f d (sp_en T t) (sp_en T (sp_la T t)) m = [] := by
  have h1 := sp_en_lt ht
  have hk : sp_kind (oy_ln T (sp_en T t)) = 0 := sp_kind_H.mpr h1.2
  have hla := sp_la_in ht
  have hlt := sp_en_lt3 hla.1 hla.2
  have hp := sp_pe_gt hk
  have ht2 : (sp_esn T (sp_en T t)).length = t := by
    rcases Nat.lt_trichotomy (sp_esn T (sp_en T t)).length t with z | z | z
    · have := sp_en_lt3 z (Nat.le_of_lt ht)
      omega
    · exact z
    · have := sp_en_lt3 z (Nat.le_of_lt hp.2.2.1)
      omega
  rw [sp_px_drop hlt ⟨hk, hs⟩]
  unfold sp_pe
  rw [ht2]
  exact sp_px_nil (Nat.le_refl _)
section OYN3
variable {T O : oy_T} {σ : ox_H} {f : Nat → Nat → Int} {P : Int → Int → Int → Int → ox_H → Option ox_H}
/-- lines put by a level of the class -/
def oy_XP (T : oy_T) (f : Nat → Nat → Int) (P : Int → Int → Int → Int → ox_H → Option ox_H) (d deep : Nat) : Prop := ∀ (a e m : Nat) (O : oy_T) (σ : ox_H), e ≤ T.length → a ≤ 60 → m ≤ 5 → oy_XQ T f O σ → ∃ τ, P (a : Int) (e : Int) (m : Int) (deep : Int) σ = some τ ∧ oy_fs (oy_le 2) σ τ ∧ oy_XQ T f ((O ++ sp_px T f d a e m).take 100) τ
theorem oy_XQ.c (h : oy_XQ T f O σ) : O.length ≤ 100 := h.2.2.1.1
theorem oc_xinc {d deep : Nat} (hT : oy_ok T) (hd : deep ≤ 10) (hP : oy_XP T f P d (deep + 1)) {l m : Nat} (hl : l < T.length) (h6 : sp_kind (oy_ln T l) = 6) (hm : m ≤ 5) (h : oy_XQ T f O σ) : ∃ τ, F_Exp_putInclude P (l : Int) (m : Int) (deep : Int) σ = some τ ∧ oy_fs (oy_le 2) σ τ ∧ oy_XQ T f ((O ++ sp_inc (sp_px T f d) T l m).take 100) τ := by
  have h60 := hT.1
  have hc := h.c
  have hn := sp_n_le (T := T)
  obtain ⟨e1, r1⟩ := oc_erd hT h.1 hl
  have hlt := sp_kind_6 h6
  have hlet : σ 4 l 1 0 = oy_wk (oy_ln T l) 1 - 97 := r1.2.2.2.2.2.2.1 h6
  have ew : ox_w (97 + σ 4 l 1 0) % 65536 = oy_wk (oy_ln T l) 1 := by
    rw [hlet, oy_w (by omega) (by omega)]
    omega
  have nil : ∃ τ, J_Exp_putInclude_43 P σ = some τ ∧ oy_fs (oy_le 2) σ τ ∧ oy_XQ T f ((O ++ []).take 100) τ := by
    rw [List.append_nil, List.take_of_length_le hc]
    exact ⟨σ, rfl, oy_fs.rf, h⟩
  unfold F_Exp_putInclude sp_inc
  rw [e1, Option.bind_some, ew, oc_titled hT h.1 (show 1 ≤ oy_wk (oy_ln T l) 1 by omega), Option.bind_some]
  have hti := sp_ti_in (T := T) (c := oy_wk (oy_ln T l) 1)
  generalize sp_ti T (oy_wk (oy_ln T l) 1) = t at *
  by_cases q : t = -1
  · rw [if_pos q, if_pos q]
    exact nil
  rw [if_neg q, if_neg q]
  obtain ⟨x, rfl⟩ : ∃ x : Nat, t = x := ⟨t.toNat, by omega⟩
  have hx : x < sp_n T := by omega
  rw [Int.toNat_natCast, oc_est hT h.1 hx, Option.bind_some]
  by_cases q3 : sp_es_st T x = 3
  · rw [if_pos q3, sp_px_dpd hx q3]
    exact nil
  rw [if_neg q3, oc_ownerOf hT h.1 hl, Option.bind_some]
  have hle := sp_en_le (T := T) (sp_la T x)
  have hle2 := sp_en_le (T := T) x
  have main : ∀ s : Nat, s ≤ 5 → ∃ τ, J_Exp_putInclude_79 P (deep : Int) (x : Int) (s : Int) σ = some τ ∧ oy_fs (oy_le 2) σ τ ∧ oy_XQ T f ((O ++ sp_px T f d (sp_en T x) (sp_en T (sp_la T x)) s).take 100) τ := by
    intro s hs
    obtain ⟨τ, e2, a2, b2⟩ := hP (sp_en T x) (sp_en T (sp_la T x)) s O σ hle (by omega) hs h
    refine ⟨τ, ?_, a2, b2⟩
    unfold J_Exp_putInclude_79
    rw [oc_eln hT h.1 hx, Option.bind_some, oc_partEnd hT h.1 hx, Option.bind_some, oy_w1 (by omega), e2, Option.bind_some]
  by_cases q4 : (sp_esn T (l + 1)).length = 0
  · rw [if_pos (show ((sp_esn T (l + 1)).length : Int) - 1 = -1 by omega), if_pos q4]
    exact main 0 (Nat.zero_le _)
  · have ho := sp_esn_n hl q4
    have eo : ((sp_esn T (l + 1)).length : Int) - 1 = (((sp_esn T (l + 1)).length - 1 : Nat) : Int) := by omega
    have hlv : sp_lv T ((sp_esn T (l + 1)).length - 1) ≤ 5 := (sp_en_lt ho).2.2.1
    rw [if_neg (show ¬ ((sp_esn T (l + 1)).length : Int) - 1 = -1 by omega), if_neg q4, eo, oc_elv hT h.1 ho, Option.bind_some]
    have es : (if ox_w ((sp_lv T ((sp_esn T (l + 1)).length - 1) : Int) + (m : Int)) < 5 then ox_w ((sp_lv T ((sp_esn T (l + 1)).length - 1) : Int) + (m : Int)) else 5) = ((sp_x5 (sp_lv T ((sp_esn T (l + 1)).length - 1) + m) : Nat) : Int) := by
      rw [oy_w (by omega) (by omega)]
      unfold sp_x5
      by_cases z : sp_lv T ((sp_esn T (l + 1)).length - 1) + m < 5
      · rw [if_pos (by omega), if_pos z]
        omega
      · rw [if_neg (by omega), if_neg z]
        rfl
    rw [es]
    exact main _ (by unfold sp_x5; split <;> omega)
theorem oc_xroom (h : oy_XQ T f O σ) : F_Lin_hasRoom 2 1 σ = some (if O.length < 100 then 1 else 0) := by
  have hc := h.c
  have h0 : σ 1 2 0 0 = 100 := h.2.2.2.2.2
  have h4 : σ 1 2 4 0 = O.length := h.2.2.2.1.1
  unfold F_Lin_hasRoom J_Lin_hasRoom_18
  rw [h0, h4, oy_w (by omega) (by omega)]
  by_cases q : O.length < 100
  · rw [if_neg (by omega), if_pos q]
    rfl
  · rw [if_pos (by omega), if_neg q]
    rfl
theorem oc_xputl {d deep : Nat} (hT : oy_ok T) (hfi : oy_fin T f) (hdd : d + deep = 3) (hP : ∀ d', d = d' + 1 → oy_XP T f P d' (deep + 1)) {e m : Nat} (he : e ≤ T.length) (hm : m ≤ 5) : ∀ (k i n g : Nat) (O : oy_T) (σ : ox_H), (i + k = e ∨ (k = 0 ∧ e ≤ i)) → i ≤ 60 → oy_XQ T f O σ → k < n → ∃ τ, ox_lp (B_Exp_put_6 P (e : Int) (m : Int) (deep : Int)) n ((g : Int), (i : Int), σ) = some τ ∧ oy_fs (oy_le 2) σ τ ∧ oy_XQ T f ((O ++ sp_px T f d (if i < g then g else i) e m).take 100) τ
  | _, _, 0, _, _, _, _, _, _, h => absurd h (Nat.not_lt_zero _)
  | 0, i, n + 1, g, O, σ, h1, _, h, _ => by
    have hc := h.c
    refine ⟨σ, oy_lp_m (X := some σ) ?_, oy_fs.rf, ?_⟩
    · unfold B_Exp_put_6 J_Exp_put_125
      dsimp only
      rw [if_pos (by omega)]
    · rw [sp_px_nil (by split <;> omega), List.append_nil, List.take_of_length_le hc]
      exact h
  | k + 1, i, n + 1, g, O, σ, h1, h60', h, hn => by
    have h60 := hT.1
    have hc := h.c
    have hl : i < T.length := by omega
    have hrm := oc_xroom h
    by_cases q : O.length < 100
    rotate_left
    · rw [if_neg q] at hrm
      refine ⟨σ, oy_lp_m (X := some σ) ?_, oy_fs.rf, ?_⟩
      · unfold B_Exp_put_6 J_Exp_put_125
        dsimp only
        rw [if_neg (by omega), hrm, Option.bind_some, if_pos rfl]
      · rw [List.take_append_of_le_length (by omega), List.take_of_length_le hc]
        exact h
    rw [if_pos q] at hrm
    by_cases qg : i < g
    · rw [if_pos qg]
      obtain ⟨τ, e1, a1, b1⟩ := oc_xputl hT hfi hdd hP he hm k (i + 1) n g O σ (by omega) (by omega) h (by omega)
      refine ⟨τ, (oy_lp_l (a' := ((g : Int), ((i + 1 : Nat) : Int), σ)) ?_).trans e1, a1, ?_⟩
      · unfold B_Exp_put_6 J_Exp_put_119
        dsimp only
        rw [if_neg (by omega), hrm, Option.bind_some, if_neg oy_10, if_neg (by omega), oy_w1 (by omega)]
      · have eg : (if i + 1 < g then g else i + 1) = g := by split <;> omega
        rw [eg] at b1
        exact b1
    rw [if_neg qg]
    obtain ⟨er, rd⟩ := oc_erd hT h.1 hl
    have hk : σ 4 i 0 0 = sp_kind (oy_ln T i) := rd.1
    by_cases qd : sp_dpd T i
    · have hp := sp_pe_gt qd.1
      have hst : σ 4 i 8 0 = 3 := (rd.2.1 qd.1).2.1.trans qd.2
      obtain ⟨τ, e1, a1, b1⟩ := oc_xputl hT hfi hdd hP he hm k (i + 1) n (sp_pe T i) O σ (by omega) (by omega) h (by omega)
      refine ⟨τ, (oy_lp_l (a' := ((sp_pe T i : Int), ((i + 1 : Nat) : Int), σ)) ?_).trans e1, a1, ?_⟩
      · have epe : F_Otl_partEnd ((sp_esn T i).length : Int) σ = some (sp_pe T i : Int) := oc_partEnd hT h.1 hp.2.2.1
        unfold B_Exp_put_6 J_Exp_put_119
        dsimp only
        rw [if_neg (by omega), hrm, Option.bind_some, if_neg oy_10, if_pos (by omega), er, Option.bind_some, if_pos (hk.trans qd.1), if_pos hst, oc_ownerH hT h.1 hl (sp_kind_H.mp qd.1), Option.bind_some, epe, Option.bind_some, oy_w1 (by omega)]
      · have eg : (if i + 1 < sp_pe T i then sp_pe T i else i + 1) = sp_pe T i := by split <;> omega
        rw [eg] at b1
        rw [sp_px_drop (by omega) qd]
        exact b1
    rw [sp_px_step (show i < e by omega) qd]
    have item : ∃ σ1, J_Exp_put_82 P (e : Int) (m : Int) (deep : Int) (g : Int) (i : Int) i σ = some (.inl ((g : Int), ((i + 1 : Nat) : Int), σ1)) ∧ oy_fs (oy_le 2) σ σ1 ∧ oy_XQ T f ((O ++ sp_xi (sp_ic T f d) T f i m).take 100) σ1 := by
      have ln : sp_kind (oy_ln T i) ≠ 6 ∨ 3 ≤ deep → ∃ σ1, J_Exp_put_110 P (e : Int) (m : Int) (deep : Int) (g : Int) (i : Int) i σ = some (.inl ((g : Int), ((i + 1 : Nat) : Int), σ1)) ∧ oy_fs (oy_le 2) σ σ1 ∧ oy_XQ T f ((O ++ sp_xi (sp_ic T f d) T f i m).take 100) σ1 := by
        intro z
        obtain ⟨σ1, e1, a1, b1⟩ := oc_xline hT hfi hl hm h q
        refine ⟨σ1, ?_, a1, ?_⟩
        · unfold J_Exp_put_110 J_Exp_put_119
          rw [e1, Option.bind_some, oy_w1 (by omega)]
        · have ei : sp_xi (sp_ic T f d) T f i m = if sp_kind (oy_ln T i) = 0 ∨ sp_kind (oy_ln T i) = 4 ∨ sp_kind (oy_ln T i) = 7 then [sp_xl T f i m] else [] := by
            unfold sp_xi
            by_cases y : sp_kind (oy_ln T i) = 6
            · have hd0 : d = 0 := by omega
              rw [if_pos y, if_neg (by omega), hd0]
              rfl
            · rw [if_neg y]
          rw [← ei] at b1
          rw [List.take_of_length_le b1.c]
          exact b1
      unfold J_Exp_put_82
      rw [hk]
      by_cases y : sp_kind (oy_ln T i) = 6
      · rw [if_pos y]
        by_cases y3 : 3 ≤ deep
        · rw [if_pos (by omega)]
          exact ln (Or.inr y3)
        · rw [if_neg (by omega)]
          obtain ⟨d', rfl⟩ : ∃ d', d = d' + 1 := ⟨d - 1, by omega⟩
          obtain ⟨σ1, e1, a1, b1⟩ := oc_xinc hT (by omega) (hP d' rfl) hl y hm h
          refine ⟨σ1, ?_, a1, ?_⟩
          · unfold J_Exp_put_119
            rw [e1, Option.bind_some, oy_w1 (by omega)]
          · unfold sp_xi
            rw [if_pos y]
            exact b1
      · rw [if_neg y]
        exact ln (Or.inl y)
    obtain ⟨σ1, e1, a1, b1⟩ := item
    obtain ⟨τ, e2, a2, b2⟩ := oc_xputl hT hfi hdd hP he hm k (i + 1) n g ((O ++ sp_xi (sp_ic T f d) T f i m).take 100) σ1 (by omega) (by omega) b1 (by omega)
    refine ⟨τ, (oy_lp_l (a' := ((g : Int), ((i + 1 : Nat) : Int), σ1)) ?_).trans e2, a1.tr a2, ?_⟩
    · unfold B_Exp_put_6
      dsimp only
      rw [if_neg (by omega), hrm, Option.bind_some, if_neg oy_10, if_pos (by omega), er, Option.bind_some]
      by_cases y0 : sp_kind (oy_ln T i) = 0
      · have hst : ¬ σ 4 i 8 0 = 3 := fun z => qd ⟨y0, (rd.2.1 y0).2.1.symm.trans z⟩
        rw [if_pos (hk.trans y0), if_neg hst]
        exact e1
      · rw [if_neg (fun z => y0 (hk.symm.trans z))]
        exact e1
    · rw [if_neg (show ¬ i + 1 < g by omega), oy_tkk, List.append_assoc] at b2
      exact b2
theorem oc_xput {d deep : Nat} (hT : oy_ok T) (hfi : oy_fin T f) (hdd : d + deep = 3) (hP : ∀ d', d = d' + 1 → oy_XP T f P d' (deep + 1)) : oy_XP T f (F_Exp_put P) d deep := by
  intro a e m O σ he ha hm h
  have h60 := hT.1
  obtain ⟨τ, e1, a1, b1⟩ := oc_xputl hT hfi hdd hP he hm (e - a) a ox_fu a O σ (by omega) ha h (by show e - a < 100000; omega)
  rw [if_neg (Nat.lt_irrefl _)] at b1
  exact ⟨τ, e1, a1, b1⟩
theorem oc_xlev (hT : oy_ok T) (hfi : oy_fin T f) : ∀ d deep, d + deep = 3 → oy_XP T f (K_Exp_put (d + 2)) d deep
  | 0, deep, h => oc_xput (P := K_Exp_put 1) hT hfi h (fun d' z => by omega)
  | d + 1, deep, h => oc_xput (P := K_Exp_put (d + 2)) hT hfi h (fun d' z => by
    rw [← Nat.succ.inj z]
    exact oc_xlev hT hfi d (deep + 1) (by omega))
end OYN3
