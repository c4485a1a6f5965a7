/-! PURE: the law's loop -/
theorem opStep {α : Type} {fx fm : mj_H → Option (α × mj_H)} {T : Nat → Nat} {I : Nat → Bool × (Nat → Nat)} {X : (Nat → Int32) × Nat} {F : Int64 × Int64} {K : Int32 × Int32 × Int32} {h : mj_H} (op : OPB fx fm T I X F K) (s : XS h T I X F K) (m : MS h T I X F K) : ∃ a h1 h2, fx h = some (a, h1) ∧ mj_ob h1 53 9 = true ∧ fm h1 = some (a, h2) ∧ LR h2 := by
  obtain ⟨a, T', I', X', F', K', p, o1, o2⟩ := op
  obtain ⟨h1, a1, a2, a3⟩ := o1 h s
  have m1 := m.fr a3
  obtain ⟨h2, b1, b2, b3⟩ := o2 h1 m1
  exact ⟨a, h1, h2, a1, m1.g.ob, b1, T', I', X', F', K', a2.fr b3, b2, p⟩
theorem ex_iff {L j : Nat} (hL : L ≤ 448) (hj : j ≤ 448) : (Int32.ofNat L - (7 : Int32)) < nI j ↔ L < j + 7 := by
  show nI L - (7 : Int32) < nI j ↔ _
  by_cases q : 7 ≤ L
  · rw [show (7 : Int32) = nI 7 from rfl, pk_sub q, nlt_iff (by omega) (by omega)]; omega
  · have e : ∀ L, L < 7 → (nI L - (7 : Int32)).toInt = (L : Int) - 7 := by decide
    rw [Int32.lt_iff_toInt_lt, e L (by omega), nI_toInt (show j < 2 ^ 31 by omega)]; omega
theorem xl_at {L : Nat} {xs : Nat → Int32} {j : Nat} (hj : j < L) (hL : L ≤ 448) : mj_xl L xs (nI j) = some (xs j) := by
  unfold mj_xl
  rw [ok_nI (show j < 2 ^ 31 by omega), if_pos (decide_eq_true hj), nI_clamp (show j < 2 ^ 31 by omega)]
theorem law_step {L : Nat} {xs : Nat → Int32} {i : Nat} {h : mj_H} (hL : L ≤ 448) (hi : 7 * i + 7 ≤ L) (r : LR h) (K18 : Nat → Nat → Int32 → mj_H → Option (Int32 × mj_H)) : ∃ h', LR h' ∧ b_L_law_18 L xs K18 0 53 (nI (7 * i)) h = K18 0 53 (nI (7 * (i + 1))) h' := by
  obtain ⟨T, I, X, F, K, s, m, p⟩ := id r
  have ob8 := s.x.ob
  have cx : ¬ (Int32.ofNat L - (7 : Int32)) < nI (7 * i) := by rw [ex_iff hL (by omega)]; omega
  have e0 := xl_at (xs := xs) (show 7 * i < L by omega) hL
  have at_ : ∀ k : Nat, k < 7 → ∀ y : Int32, y = nI k → mj_xl L xs (nI (7 * i) + y) = some (xs (7 * i + k)) := fun k hk y hy => by
    rw [hy, nI_add]; exact xl_at (by omega) hL
  have e1 := at_ 1 (by decide) 1 rfl
  have e2 := at_ 2 (by decide) 2 rfl
  have e3 := at_ 3 (by decide) 3 rfl
  have e4 := at_ 4 (by decide) 4 rfl
  have e5 := at_ 5 (by decide) 5 rfl
  have e6 := at_ 6 (by decide) 6 rfl
  have nx : nI (7 * i) + (7 : Int32) = nI (7 * (i + 1)) := by
    rw [show (7 : Int32) = nI 7 from rfl, nI_add, Nat.mul_add, Nat.mul_one]
  have go : ∀ h2, f_L_law_1259 L xs K18 0 53 (nI (7 * i)) h2 = K18 0 53 (nI (7 * (i + 1))) h2 := fun h2 => by rw [f_L_law_1259, nx]
  rw [b_L_law_18, if_neg cx, bs1 e0]
  by_cases c0 : (xs (7 * i) &&& (63 : Int32)) = (0 : Int32)
  · obtain ⟨a, h1, h2, ax, ob, am, r2⟩ := opStep (op_muster p F K (xs (7 * i + 1))) s m
    refine ⟨h2, r2, ?_⟩
    rw [if_pos c0, bs1 e1, if_pos ob8, bs1 ax, bs1 e1, if_pos ob, bs1 am, if_pos rfl]
    exact go h2
  rw [if_neg c0]
  by_cases c1 : (xs (7 * i) &&& (63 : Int32)) = (1 : Int32)
  · obtain ⟨a, h1, h2, ax, ob, am, r2⟩ := opStep (op_man p F K (xs (7 * i + 1)) (xs (7 * i + 2)) (xs (7 * i + 3)) (xs (7 * i + 4)) (xs (7 * i + 5)) (xs (7 * i + 6))) s m
    refine ⟨h2, r2, ?_⟩
    rw [if_pos c1, bs1 e1, bs1 e2, bs1 e3, bs1 e4, bs1 e5, bs1 e6, if_pos ob8, bs1 ax, bs1 e1, bs1 e2, bs1 e3, bs1 e4, bs1 e5, bs1 e6, if_pos ob, bs1 am, if_pos rfl]
    exact go h2
  rw [if_neg c1]
  by_cases c2 : (xs (7 * i) &&& (63 : Int32)) = (2 : Int32)
  · obtain ⟨a, h1, h2, ax, ob, am, r2⟩ := opStep (op_worn p F K (xs (7 * i + 1)) (xs (7 * i + 2))) s m
    refine ⟨h2, r2, ?_⟩
    rw [if_pos c2, bs1 e1, bs1 e2, if_pos ob8, bs1 ax, bs1 e1, bs1 e2, if_pos ob, bs1 am, if_pos rfl]
    exact go h2
  rw [if_neg c2]
  by_cases c3 : (xs (7 * i) &&& (63 : Int32)) = (3 : Int32)
  · obtain ⟨a, h1, h2, ax, ob, am, r2⟩ := opStep (op_pair p F K (xs (7 * i + 1)) (xs (7 * i + 2))) s m
    refine ⟨h2, r2, ?_⟩
    rw [if_pos c3, bs1 e1, bs1 e2, if_pos ob8, bs1 ax, bs1 e1, bs1 e2, if_pos ob, bs1 am, if_pos rfl]
    exact go h2
  rw [if_neg c3]
  by_cases c4 : (xs (7 * i) &&& (63 : Int32)) = (4 : Int32)
  · obtain ⟨a, h1, h2, ax, ob, am, r2⟩ := opStep (op_word p F K (xs (7 * i + 1))) s m
    refine ⟨h2, r2, ?_⟩
    rw [if_pos c4, bs1 e1, if_pos ob8, bs1 ax, bs1 e1, if_pos ob, bs1 am, if_pos rfl]
    exact go h2
  rw [if_neg c4]
  by_cases c5 : (xs (7 * i) &&& (63 : Int32)) = (5 : Int32)
  · obtain ⟨a, h1, h2, ax, ob, am, r2⟩ := opStep (op_type p F K (xs (7 * i + 1))) s m
    refine ⟨h2, r2, ?_⟩
    rw [if_pos c5, bs1 e1, if_pos ob8, bs1 ax, bs1 e1, if_pos ob, bs1 am, if_pos rfl]
    exact go h2
  rw [if_neg c5]
  by_cases c6 : (xs (7 * i) &&& (63 : Int32)) = (6 : Int32)
  · obtain ⟨a, h1, h2, ax, ob, am, r2⟩ := opStep (op_clear p F K ) s m
    refine ⟨h2, r2, ?_⟩
    rw [if_pos c6, if_pos ob8, bs1 ax, if_pos ob, bs1 am, if_pos rfl]
    exact go h2
  rw [if_neg c6]
  by_cases c7 : (xs (7 * i) &&& (63 : Int32)) = (7 : Int32)
  · obtain ⟨a, h1, h2, ax, ob, am, r2⟩ := opStep (op_read p F K ) s m
    refine ⟨h2, r2, ?_⟩
    rw [if_pos c7, if_pos ob8, bs1 ax, if_pos ob, bs1 am, if_pos rfl]
    exact go h2
  rw [if_neg c7]
  by_cases c8 : (xs (7 * i) &&& (63 : Int32)) = (8 : Int32)
  · by_cases z : xs (7 * i + 3) = 0
    · obtain ⟨a, h1, h2, ax, ob, am, r2⟩ := opStep (op_test p F K (xs (7 * i + 1)) (xs (7 * i + 2)) false) s m
      rw [bi_f] at ax am
      refine ⟨h2, r2, ?_⟩
      rw [if_pos c8, bs1 e1, bs1 e2, bs1 e3, if_pos z, f_L_law_444, if_pos ob8, bs1 ax, bs1 e1, bs1 e2, bs1 e3, if_pos z, f_L_law_471, if_pos ob, bs1 am, if_pos rfl]
      exact go h2
    · obtain ⟨a, h1, h2, ax, ob, am, r2⟩ := opStep (op_test p F K (xs (7 * i + 1)) (xs (7 * i + 2)) true) s m
      rw [bi_t] at ax am
      refine ⟨h2, r2, ?_⟩
      rw [if_pos c8, bs1 e1, bs1 e2, bs1 e3, if_neg z, f_L_law_444, if_pos ob8, bs1 ax, bs1 e1, bs1 e2, bs1 e3, if_neg z, f_L_law_471, if_pos ob, bs1 am, if_pos rfl]
      exact go h2
  rw [if_neg c8]
  by_cases c9 : (xs (7 * i) &&& (63 : Int32)) = (9 : Int32)
  · obtain ⟨a, h1, h2, ax, ob, am, r2⟩ := opStep (op_undo p F K ) s m
    refine ⟨h2, r2, ?_⟩
    rw [if_pos c9, if_pos ob8, bs1 ax, if_pos ob, bs1 am, if_pos rfl]
    exact go h2
  rw [if_neg c9]
  by_cases c10 : (xs (7 * i) &&& (63 : Int32)) = (10 : Int32)
  · obtain ⟨a, h1, h2, ax, ob, am, r2⟩ := opStep (op_weight p F K (xs (7 * i + 1)) (xs (7 * i + 2))) s m
    refine ⟨h2, r2, ?_⟩
    rw [if_pos c10, bs1 e1, bs1 e2, if_pos ob8, bs1 ax, bs1 e1, bs1 e2, if_pos ob, bs1 am, if_pos rfl]
    exact go h2
  rw [if_neg c10]
  by_cases c11 : (xs (7 * i) &&& (63 : Int32)) = (11 : Int32)
  · by_cases z : xs (7 * i + 3) = 0
    · obtain ⟨a, h1, h2, ax, ob, am, r2⟩ := opStep (op_cases p F K (xs (7 * i + 1)) (xs (7 * i + 2)) false) s m
      rw [bi_f] at ax am
      refine ⟨h2, r2, ?_⟩
      rw [if_pos c11, bs1 e1, bs1 e2, bs1 e3, if_pos z, f_L_law_550, if_pos ob8, bs1 ax, bs1 e1, bs1 e2, bs1 e3, if_pos z, f_L_law_577, if_pos ob, bs1 am, if_pos rfl]
      exact go h2
    · obtain ⟨a, h1, h2, ax, ob, am, r2⟩ := opStep (op_cases p F K (xs (7 * i + 1)) (xs (7 * i + 2)) true) s m
      rw [bi_t] at ax am
      refine ⟨h2, r2, ?_⟩
      rw [if_pos c11, bs1 e1, bs1 e2, bs1 e3, if_neg z, f_L_law_550, if_pos ob8, bs1 ax, bs1 e1, bs1 e2, bs1 e3, if_neg z, f_L_law_577, if_pos ob, bs1 am, if_pos rfl]
      exact go h2
  rw [if_neg c11]
  by_cases c12 : (xs (7 * i) &&& (63 : Int32)) = (12 : Int32)
  · obtain ⟨a, h1, h2, ax, ob, am, r2⟩ := opStep (op_trust p F K (xs (7 * i + 1))) s m
    refine ⟨h2, r2, ?_⟩
    rw [if_pos c12, bs1 e1, if_pos ob8, bs1 ax, bs1 e1, if_pos ob, bs1 am, if_pos rfl]
    exact go h2
  rw [if_neg c12]
  by_cases c13 : (xs (7 * i) &&& (63 : Int32)) = (13 : Int32)
  · obtain ⟨a, h1, h2, ax, ob, am, r2⟩ := opStep (op_shows p F K (xs (7 * i + 1)) (xs (7 * i + 2))) s m
    refine ⟨h2, r2, ?_⟩
    rw [if_pos c13, bs1 e1, bs1 e2, if_pos ob8, bs1 ax, bs1 e1, bs1 e2, if_pos ob, bs1 am, if_pos rfl]
    exact go h2
  rw [if_neg c13]
  by_cases c14 : (xs (7 * i) &&& (63 : Int32)) = (14 : Int32)
  · obtain ⟨a, h1, h2, ax, ob, am, r2⟩ := opStep (op_of p F K (xs (7 * i + 1)) (xs (7 * i + 2))) s m
    refine ⟨h2, r2, ?_⟩
    rw [if_pos c14, bs1 e1, bs1 e2, if_pos ob8, bs1 ax, bs1 e1, bs1 e2, if_pos ob, bs1 am, if_pos rfl]
    exact go h2
  rw [if_neg c14]
  by_cases c15 : (xs (7 * i) &&& (63 : Int32)) = (15 : Int32)
  · obtain ⟨a, h1, h2, ax, ob, am, r2⟩ := opStep (op_hold p F K (xs (7 * i + 1)) (xs (7 * i + 2))) s m
    refine ⟨h2, r2, ?_⟩
    rw [if_pos c15, bs1 e1, bs1 e2, if_pos ob8, bs1 ax, bs1 e1, bs1 e2, if_pos ob, bs1 am, if_pos rfl]
    exact go h2
  rw [if_neg c15]
  by_cases c16 : (xs (7 * i) &&& (63 : Int32)) = (16 : Int32)
  · obtain ⟨a, h1, h2, ax, ob, am, r2⟩ := opStep (op_keep p F K (xs (7 * i + 1)) (xs (7 * i + 2))) s m
    refine ⟨h2, r2, ?_⟩
    rw [if_pos c16, bs1 e1, bs1 e2, if_pos ob8, bs1 ax, bs1 e1, bs1 e2, if_pos ob, bs1 am, if_pos rfl]
    exact go h2
  rw [if_neg c16]
  by_cases c17 : (xs (7 * i) &&& (63 : Int32)) = (17 : Int32)
  · obtain ⟨a, h1, h2, ax, ob, am, r2⟩ := opStep (op_worth p F K (xs (7 * i + 1)) (xs (7 * i + 2)) (xs (7 * i + 3)) (xs (7 * i + 4))) s m
    refine ⟨h2, r2, ?_⟩
    rw [if_pos c17, bs1 e1, bs1 e2, bs1 e3, bs1 e4, if_pos ob8, bs1 ax, bs1 e1, bs1 e2, bs1 e3, bs1 e4, if_pos ob, bs1 am, if_pos rfl]
    exact go h2
  rw [if_neg c17]
  by_cases c18 : (xs (7 * i) &&& (63 : Int32)) = (18 : Int32)
  · obtain ⟨a, h1, h2, ax, ob, am, r2⟩ := opStep (op_best p F K (xs (7 * i + 1)) (xs (7 * i + 2))) s m
    refine ⟨h2, r2, ?_⟩
    rw [if_pos c18, bs1 e1, bs1 e2, if_pos ob8, bs1 ax, bs1 e1, bs1 e2, if_pos ob, bs1 am, if_pos rfl]
    exact go h2
  rw [if_neg c18]
  by_cases c19 : (xs (7 * i) &&& (63 : Int32)) = (19 : Int32)
  · obtain ⟨a, h1, h2, ax, ob, am, r2⟩ := opStep (op_sift p F K (xs (7 * i + 1)) (xs (7 * i + 2)) (xs (7 * i + 3))) s m
    refine ⟨h2, r2, ?_⟩
    rw [if_pos c19, bs1 e1, bs1 e2, bs1 e3, if_pos ob8, bs1 ax, bs1 e1, bs1 e2, bs1 e3, if_pos ob, bs1 am, if_pos rfl]
    exact go h2
  rw [if_neg c19]
  by_cases c20 : (xs (7 * i) &&& (63 : Int32)) = (20 : Int32)
  · obtain ⟨a, h1, h2, ax, ob, am, r2⟩ := opStep (op_runs p F K (xs (7 * i + 1))) s m
    refine ⟨h2, r2, ?_⟩
    rw [if_pos c20, bs1 e1, if_pos ob8, bs1 ax, bs1 e1, if_pos ob, bs1 am, if_pos rfl]
    exact go h2
  rw [if_neg c20]
  by_cases c21 : (xs (7 * i) &&& (63 : Int32)) = (21 : Int32)
  · obtain ⟨a, h1, h2, ax, ob, am, r2⟩ := opStep (op_home p F K (xs (7 * i + 1))) s m
    refine ⟨h2, r2, ?_⟩
    rw [if_pos c21, bs1 e1, if_pos ob8, bs1 ax, bs1 e1, if_pos ob, bs1 am, if_pos rfl]
    exact go h2
  rw [if_neg c21]
  by_cases c22 : (xs (7 * i) &&& (63 : Int32)) = (22 : Int32)
  · obtain ⟨a, h1, h2, ax, ob, am, r2⟩ := opStep (op_spy p F K (xs (7 * i + 1))) s m
    refine ⟨h2, r2, ?_⟩
    rw [if_pos c22, bs1 e1, if_pos ob8, bs1 ax, bs1 e1, if_pos ob, bs1 am, if_pos rfl]
    exact go h2
  rw [if_neg c22]
  by_cases c23 : (xs (7 * i) &&& (63 : Int32)) = (23 : Int32)
  · by_cases z : xs (7 * i + 2) = 0
    · obtain ⟨a, h1, h2, ax, ob, am, r2⟩ := opStep (op_looks p F K (xs (7 * i + 1)) false (xs (7 * i + 3))) s m
      rw [bi_f] at ax am
      refine ⟨h2, r2, ?_⟩
      rw [if_pos c23, bs1 e1, bs1 e2, if_pos z, f_L_law_957, bs1 e3, if_pos ob8, bs1 ax, bs1 e1, bs1 e2, if_pos z, f_L_law_984, bs1 e3, if_pos ob, bs1 am, if_pos rfl]
      exact go h2
    · obtain ⟨a, h1, h2, ax, ob, am, r2⟩ := opStep (op_looks p F K (xs (7 * i + 1)) true (xs (7 * i + 3))) s m
      rw [bi_t] at ax am
      refine ⟨h2, r2, ?_⟩
      rw [if_pos c23, bs1 e1, bs1 e2, if_neg z, f_L_law_957, bs1 e3, if_pos ob8, bs1 ax, bs1 e1, bs1 e2, if_neg z, f_L_law_984, bs1 e3, if_pos ob, bs1 am, if_pos rfl]
      exact go h2
  rw [if_neg c23]
  by_cases c24 : (xs (7 * i) &&& (63 : Int32)) = (24 : Int32)
  · obtain ⟨a, h1, h2, ax, ob, am, r2⟩ := opStep (op_next p F K (xs (7 * i + 1))) s m
    refine ⟨h2, r2, ?_⟩
    rw [if_pos c24, bs1 e1, if_pos ob8, bs1 ax, bs1 e1, if_pos ob, bs1 am, if_pos rfl]
    exact go h2
  rw [if_neg c24]
  by_cases c25 : (xs (7 * i) &&& (63 : Int32)) = (25 : Int32)
  · obtain ⟨a, h1, h2, ax, ob, am, r2⟩ := opStep (op_boast p F K (xs (7 * i + 1)) (xs (7 * i + 2)) (xs (7 * i + 3))) s m
    refine ⟨h2, r2, ?_⟩
    rw [if_pos c25, bs1 e1, bs1 e2, bs1 e3, if_pos ob8, bs1 ax, bs1 e1, bs1 e2, bs1 e3, if_pos ob, bs1 am, if_pos rfl]
    exact go h2
  rw [if_neg c25]
  by_cases c26 : (xs (7 * i) &&& (63 : Int32)) = (26 : Int32)
  · obtain ⟨a, h1, h2, ax, ob, am, r2⟩ := opStep (op_again p F K (xs (7 * i + 1))) s m
    refine ⟨h2, r2, ?_⟩
    rw [if_pos c26, bs1 e1, if_pos ob8, bs1 ax, bs1 e1, if_pos ob, bs1 am, if_pos rfl]
    exact go h2
  rw [if_neg c26]
  by_cases c27 : (xs (7 * i) &&& (63 : Int32)) = (27 : Int32)
  · obtain ⟨a, h1, h2, ax, ob, am, r2⟩ := opStep (op_drawn p F K (xs (7 * i + 1)) (xs (7 * i + 2)) (xs (7 * i + 3))) s m
    refine ⟨h2, r2, ?_⟩
    rw [if_pos c27, bs1 e1, bs1 e2, bs1 e3, if_pos ob8, bs1 ax, bs1 e1, bs1 e2, bs1 e3, if_pos ob, bs1 am, if_pos rfl]
    exact go h2
  rw [if_neg c27]
  by_cases c28 : (xs (7 * i) &&& (63 : Int32)) = (28 : Int32)
  · obtain ⟨a, h1, h2, ax, ob, am, r2⟩ := opStep (op_part p F K (xs (7 * i + 1))) s m
    refine ⟨h2, r2, ?_⟩
    rw [if_pos c28, bs1 e1, if_pos ob8, bs1 ax, bs1 e1, if_pos ob, bs1 am, if_pos rfl]
    exact go h2
  rw [if_neg c28]
  by_cases c29 : (xs (7 * i) &&& (63 : Int32)) = (29 : Int32)
  · obtain ⟨a, h1, h2, ax, ob, am, r2⟩ := opStep (op_image p F K (xs (7 * i + 1))) s m
    refine ⟨h2, r2, ?_⟩
    rw [if_pos c29, bs1 e1, if_pos ob8, bs1 ax, bs1 e1, if_pos ob, bs1 am, if_pos rfl]
    exact go h2
  rw [if_neg c29]
  by_cases c30 : (xs (7 * i) &&& (63 : Int32)) = (30 : Int32)
  · obtain ⟨a, h1, h2, ax, ob, am, r2⟩ := opStep (op_from p F K (xs (7 * i + 1))) s m
    refine ⟨h2, r2, ?_⟩
    rw [if_pos c30, bs1 e1, if_pos ob8, bs1 ax, bs1 e1, if_pos ob, bs1 am, if_pos rfl]
    exact go h2
  rw [if_neg c30]
  by_cases c31 : (xs (7 * i) &&& (63 : Int32)) = (31 : Int32)
  · obtain ⟨a, h1, h2, ax, ob, am, r2⟩ := opStep (op_status p F K (xs (7 * i + 1))) s m
    refine ⟨h2, r2, ?_⟩
    rw [if_pos c31, bs1 e1, if_pos ob8, bs1 ax, bs1 e1, if_pos ob, bs1 am, if_pos rfl]
    exact go h2
  rw [if_neg c31]
  by_cases c32 : (xs (7 * i) &&& (63 : Int32)) = (32 : Int32)
  · obtain ⟨a, h1, h2, ax, ob, am, r2⟩ := opStep (op_count p F K (xs (7 * i + 1))) s m
    refine ⟨h2, r2, ?_⟩
    rw [if_pos c32, bs1 e1, if_pos ob8, bs1 ax, bs1 e1, if_pos ob, bs1 am, if_pos rfl]
    exact go h2
  rw [if_neg c32]
  by_cases c33 : (xs (7 * i) &&& (63 : Int32)) = (33 : Int32)
  · obtain ⟨a, h1, h2, ax, ob, am, r2⟩ := opStep (op_digest p F K ) s m
    refine ⟨h2, r2, ?_⟩
    rw [if_pos c33, if_pos ob8, bs1 ax, if_pos ob, bs1 am, if_pos rfl]
    exact go h2
  rw [if_neg c33]
  exact ⟨h, r, go h⟩
theorem pure_law (L : Nat) (xs : Nat → Int32) (hL : L ≤ 448) : ∃ q : Int32 × mj_H, f_L_law L xs [] = some q ∧ q.1 = 1 := by
  obtain ⟨h0, e0, r0⟩ := law0 L xs
  rw [e0]
  have key : ∀ (d i fu : Nat) (h : mj_H), i + d = L / 7 → d < fu → LR h → ∃ q : Int32 × mj_H, mj_fix (fun (K18 : (Nat × Nat × Int32 × mj_H) → Option (Int32 × mj_H)) (s : Nat × Nat × Int32 × mj_H) => b_L_law_18 L xs (fun v1 v2 v3 h => K18 (v1, v2, v3, h)) s.1 s.2.1 s.2.2.1 s.2.2.2) fu (0, 53, nI (7 * i), h) = some q ∧ q.1 = 1 := by
    intro d
    induction d with
    | zero =>
      intro i fu h hi hf r
      match fu, hf with
      | fu + 1, _ =>
        have c : (Int32.ofNat L - (7 : Int32)) < nI (7 * i) := by rw [ex_iff hL (by omega)]; omega
        refine ⟨(1, h), ?_, rfl⟩
        rw [mj_fix]
        dsimp only
        rw [b_L_law_18, if_pos c]
    | succ d ih =>
      intro i fu h hi hf r
      match fu, hf with
      | fu + 1, hf =>
        rw [mj_fix]
        dsimp only
        obtain ⟨h', r', e⟩ := law_step (xs := xs) (i := i) hL (by omega) r (fun v1 v2 v3 h => mj_fix (fun (K18 : (Nat × Nat × Int32 × mj_H) → Option (Int32 × mj_H)) (s : Nat × Nat × Int32 × mj_H) => b_L_law_18 L xs (fun v1 v2 v3 h => K18 (v1, v2, v3, h)) s.1 s.2.1 s.2.2.1 s.2.2.2) fu (v1, v2, v3, h))
        rw [e]
        exact ih (i + 1) fu h' (by omega) (by omega) r'
  exact key (L / 7) 0 1000 h0 (by omega) (by omega) r0
