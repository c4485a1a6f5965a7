/-! PURE: the muster as numbers; the class's band -/
def tw (T : Nat → Nat) (m : Nat) : Nat → Nat := fun k => T (16 + (6 * m + k))
def trust (T : Nat → Nat) (m : Nat) : Nat := share (tw T m) 3 false
def know (T : Nat → Nat) (m : Nat) : Bool := (T 2).testBit m
def showsN (T : Nat → Nat) (m test : Nat) : Nat := share (tw T m) test (know T m)
def brob (T : Nat → Nat) (a b : Nat) : Bool := (T (10 + a)).testBit b
def beside (c m : Nat) : Nat := (if 0 < m then 2 ^ (m - 1) else 0) ||| (if m + 1 < c then 2 ^ (m + 1) else 0)
def cost (t : Nat) : Nat := if t = 0 then 2 else if t = 1 then 5 else 3
def beh (T : Nat → Nat) (tested test : Nat) (shown : Bool) (m : Nat) : Nat → Nat := if m = tested ∨ brob T m tested = true then weighN (tw T m) test shown (know T m) else tw T m
def testT (T : Nat → Nat) (tested test : Nat) (shown : Bool) : Nat → Nat := fun j =>
  if j = 1 then T 1 - cost test else if j = 2 then (if test = 0 then T 2 ||| beside (T 0) tested else T 2) else if 16 ≤ j ∧ j < 16 + 6 * T 0 then beh T tested test shown ((j - 16) / 6) ((j - 16) % 6) else T j
def WR6 (c : Nat) (W : Nat → Nat) : Prop := (∀ i, i < 6 * c → W i ≤ 999999) ∧ ∀ m, m < c → ∃ k, k < 6 ∧ 0 < W (6 * m + k)
def WF (T : Nat → Nat) : Prop := T 0 ≤ 6 ∧ T 1 ≤ 99 ∧ T 2 < 2 ^ T 0 ∧ T 3 ≤ 8 ∧ (∀ m, m < T 0 → T (4 + m) ≤ 31 ∧ T (10 + m) < 2 ^ T 0 ∧ brob T m m = false) ∧ (∀ a, a < T 0 → ∀ b, b < T 0 → brob T a b = brob T b a) ∧ WR6 (T 0) (fun i => T (16 + i)) ∧ ∀ u, u < T 3 → T (52 + 38 * u) ≤ 99 ∧ T (53 + 38 * u) < 2 ^ T 0 ∧ WR6 (T 0) (fun i => T (54 + 38 * u + i))
def BN (h : mj_H) (p : Nat) (T : Nat → Nat) : Prop := T 0 ≤ 6 ∧ h[p]? = some (cO 0 [.ref (p + 1), .ref (p + 2), .ref (p + 3), .ref (p + 4), .int (nI (T 0)), .int (nI (T 2)), .int (nI (T 1))]) ∧ (∃ w, h[p + 1]? = some (cJ 36 w) ∧ ∀ i, i < 6 * T 0 → w i = lN (T (16 + i))) ∧ (∃ sg, h[p + 2]? = some (cI 6 sg) ∧ ∀ m, m < T 0 → sg m = nI (T (4 + m))) ∧ (∃ br, h[p + 3]? = some (cI 6 br) ∧ ∀ m, m < T 0 → br m = nI (T (10 + m))) ∧ h[p + 4]? = some (cO 5 [.ref (p + 5)]) ∧ ∃ g, h[p + 5]? = some (cJ 6 g)
theorem BN.fr {h h' : mj_H} {p : Nat} {T : Nat → Nat} (b : BN h p T) (e : ∀ k, p ≤ k → k < p + 6 → h'[k]? = h[k]?) : BN h' p T := by
  obtain ⟨b0, b1, ⟨w, b2, b3⟩, ⟨sg, b4, b5⟩, ⟨br, b6, b7⟩, b8, g, b9⟩ := b
  exact ⟨b0, by rw [e p (by omega) (by omega)]; exact b1, ⟨w, by rw [e _ (by omega) (by omega)]; exact b2, b3⟩, ⟨sg, by rw [e _ (by omega) (by omega)]; exact b4, b5⟩, ⟨br, by rw [e _ (by omega) (by omega)]; exact b6, b7⟩, by rw [e _ (by omega) (by omega)]; exact b8, g, by rw [e _ (by omega) (by omega)]; exact b9⟩
/-- only the scratch row of a band was written -/
def S5 (h h' : mj_H) (p : Nat) : Prop := ∃ g, h' = h.set (p + 5) (cJ 6 g)
theorem S5.tr {h h1 h2 : mj_H} {p : Nat} (a : S5 h h1 p) (b : S5 h1 h2 p) : S5 h h2 p := by
  obtain ⟨g, rfl⟩ := a
  obtain ⟨g2, rfl⟩ := b
  exact ⟨g2, by rw [List.set_set]⟩
theorem BN.rf {h : mj_H} {p : Nat} {T : Nat → Nat} (b : BN h p T) : S5 h h p := by
  obtain ⟨b0, b1, ⟨w, b2, b3⟩, ⟨sg, b4, b5⟩, ⟨br, b6, b7⟩, b8, g, b9⟩ := b
  exact ⟨g, (set_same b9).symm⟩
theorem BN.s5 {h h' : mj_H} {p : Nat} {T : Nat → Nat} (b : BN h p T) (s : S5 h h' p) : BN h' p T := by
  obtain ⟨g2, rfl⟩ := s
  obtain ⟨b0, b1, ⟨w, b2, b3⟩, ⟨sg, b4, b5⟩, ⟨br, b6, b7⟩, b8, g, b9⟩ := b
  exact ⟨b0, get_set b1 (by omega), ⟨w, get_set b2 (by omega), b3⟩, ⟨sg, get_set b4 (by omega), b5⟩, ⟨br, get_set b6 (by omega), b7⟩, get_set b8 (by omega), g2, get_self b9⟩
/-! bits -/
theorem sh31 : ∀ m, m < 31 → ((nI m &&& (31 : Int32)).toBitVec.smod 32).toNat = m := by decide
theorem tb_div (s m : Nat) : s.testBit m = decide (s / 2 ^ m % 2 = 1) := Nat.testBit_eq_decide_div_mod_eq
theorem bit_nI {s m : Nat} (hs : s < 2 ^ 31) (hm : m < 31) : (((nI s >>> (nI m &&& (31 : Int32))) &&& (1 : Int32)) = 1) ↔ s.testBit m = true := by
  have h1 : s / 2 ^ m < 2 ^ 32 := Nat.lt_of_le_of_lt (Nat.div_le_self _ _) (by omega)
  rw [pk_shrN hs _ m (sh31 m hm), pk_andN h1 1 rfl, tb_div, n1, nI_eq (by omega) (by decide)]
  simp
theorem pow_lt31 {m : Nat} (hm : m < 31) : 2 ^ m < 2 ^ 31 := Nat.pow_lt_pow_right (by decide) hm
theorem shl1 {m : Nat} (hm : m < 31) : (1 : Int32) <<< (nI m &&& (31 : Int32)) = nI (2 ^ m) := by
  have := pow_lt31 hm
  have h := pk_shlN (n := 1) (nI m &&& (31 : Int32)) m (sh31 m hm) (by omega)
  rw [Nat.one_mul] at h
  exact h
theorem X8_isIn_s {s m : Nat} (hs : s < 2 ^ 31) (hm : m < 31) (h : mj_H) : f_X8_isIn (nI s) (nI m) h = some (bi (s.testBit m), h) := by
  have := bit_nI hs hm
  cases q : s.testBit m <;> simp [f_X8_isIn, this, q, bi]
theorem X0_has_s {h : mj_H} {p : Nat} {T : Nat → Nat} (b : BN h p T) (x : Int32) : f_X0_has p x h = some (bi (mj_ok x (T 0)), h) := by
  obtain ⟨b0, b1, -⟩ := b
  have k := ok_iff (x := x) (n := T 0) (by omega)
  by_cases q1 : x < 0
  · have : mj_ok x (T 0) = false := by cases q : mj_ok x (T 0); rfl; exact absurd q1 (k.mp q).1
    simp [f_X0_has, q1, this, bi_f]
  · by_cases q2 : nI (T 0) ≤ x
    · have : mj_ok x (T 0) = false := by cases q : mj_ok x (T 0); rfl; exact absurd q2 (k.mp q).2
      simp [f_X0_has, q1, mj_gI, mj_gV, b1, q2, this, bi_f]
    · have := k.mpr ⟨q1, q2⟩
      simp [f_X0_has, q1, mj_gI, mj_gV, b1, q2, this, bi_t]
theorem pow6 {c : Nat} (h : c ≤ 6) : 2 ^ c ≤ 64 := Nat.pow_le_pow_right (by decide) h
theorem X0_hasAll_s {h : mj_H} {p : Nat} {T : Nat → Nat} (b : BN h p T) (x : Int32) : f_X0_hasAll p x h = some (bi (mj_ok x (2 ^ T 0)), h) := by
  obtain ⟨b0, b1, -⟩ := b
  have hp := pow6 b0
  have k := ok_iff (x := x) (n := 2 ^ T 0) (by omega)
  by_cases q1 : x < 0
  · have : mj_ok x (2 ^ T 0) = false := by cases q : mj_ok x (2 ^ T 0); rfl; exact absurd q1 (k.mp q).1
    simp [f_X0_hasAll, q1, this, bi_f]
  · by_cases q2 : nI (2 ^ T 0) ≤ x
    · have : mj_ok x (2 ^ T 0) = false := by cases q : mj_ok x (2 ^ T 0); rfl; exact absurd q2 (k.mp q).2
      simp [f_X0_hasAll, q1, mj_gI, mj_gV, b1, shl1 (show T 0 < 31 by omega), q2, this, bi_f]
    · have := k.mpr ⟨q1, q2⟩
      simp [f_X0_hasAll, q1, mj_gI, mj_gV, b1, shl1 (show T 0 < 31 by omega), q2, this, bi_t]
theorem WF.t2 {T : Nat → Nat} (w : WF T) : T 2 < 64 := Nat.lt_of_lt_of_le w.2.2.1 (pow6 w.1)
theorem WF.br {T : Nat → Nat} (w : WF T) {m : Nat} (hm : m < T 0) : T (10 + m) < 64 := Nat.lt_of_lt_of_le (w.2.2.2.2.1 m hm).2.1 (pow6 w.1)
theorem WF.w {T : Nat → Nat} (w : WF T) {m : Nat} (hm : m < T 0) : ∀ k, k < 6 → tw T m k ≤ 999999 := fun k hk => w.2.2.2.2.2.2.1.1 (6 * m + k) (by have := w.1; omega)
theorem WF.wp {T : Nat → Nat} (w : WF T) {m : Nat} (hm : m < T 0) : ∃ k, k < 6 ∧ 0 < tw T m k := w.2.2.2.2.2.2.1.2 m hm
theorem X0_knows_s {h : mj_H} {p : Nat} {T : Nat → Nat} (b : BN h p T) (w : WF T) {m : Nat} (hm : m < T 0) : f_X0_knows p (nI m) h = some (bi (know T m), h) := by
  obtain ⟨b0, b1, -⟩ := b
  have := w.t2
  simp [f_X0_knows, mj_gI, mj_gV, b1, X8_isIn_s (show T 2 < 2 ^ 31 by omega) (show m < 31 by omega), bi_01]
  rfl
theorem X0_brothersOf_s {h : mj_H} {p : Nat} {T : Nat → Nat} (b : BN h p T) {m : Nat} (hm : m < T 0) : f_X0_brothersOf p (nI m) h = some (nI (T (10 + m)), h) := by
  obtain ⟨b0, b1, -, -, ⟨br, b6, b7⟩, -⟩ := b
  have h1 : ¬ nI m < 0 := nI_pos (by omega)
  have h2 : ¬ nI 6 ≤ nI m := nI_ge (by omega) (by decide)
  simp [f_X0_brothersOf, h1, mj_gR, mj_gV, b1, aL_I b6, h2, aI_r b6 (show m < 6 by omega) (by decide), b7 m hm]
theorem X0_signsOf_s {h : mj_H} {p : Nat} {T : Nat → Nat} (b : BN h p T) {m : Nat} (hm : m < T 0) : f_X0_signsOf p (nI m) h = some (nI (T (4 + m)), h) := by
  obtain ⟨b0, b1, -, ⟨sg, b6, b7⟩, -⟩ := b
  have h1 : ¬ nI m < 0 := nI_pos (by omega)
  have h2 : ¬ nI 6 ≤ nI m := nI_ge (by omega) (by decide)
  simp [f_X0_signsOf, h1, mj_gR, mj_gV, b1, aL_I b6, h2, aI_r b6 (show m < 6 by omega) (by decide), b7 m hm]
theorem BN.ob {h : mj_H} {p : Nat} {T : Nat → Nat} (b : BN h p T) : mj_ob h p 0 = true := ob_r b.2.1
theorem BN.ob5 {h : mj_H} {p : Nat} {T : Nat → Nat} (b : BN h p T) : mj_ob h (p + 4) 5 = true := ob_r b.2.2.2.2.2.1
theorem BN.row {h : mj_H} {p : Nat} {T : Nat → Nat} (b : BN h p T) : mj_gR h p 0 3 = some (p + 4) := gR_r b.2.1 rfl
theorem X0_areBrothers_s {h : mj_H} {p : Nat} {T : Nat → Nat} (b : BN h p T) (w : WF T) {m n : Nat} (hm : m < T 0) (hn : n < T 0) : f_X0_areBrothers p (nI m) (nI n) h = some (bi (brob T m n), h) := by
  have h1 := w.br hm
  have h2 := w.1
  simp [f_X0_areBrothers, b.ob, X0_brothersOf_s b hm, X8_isIn_s (show T (10 + m) < 2 ^ 31 by omega) (show n < 31 by omega), bi_01]
  rfl
theorem X0_load_s {h : mj_H} {p : Nat} {T : Nat → Nat} (b : BN h p T) {m : Nat} (hm : m < T 0) : ∃ g, f_X5_load (p + 4) p (nI m) h = some (h.set (p + 5) (cJ 6 g)) ∧ ∀ k, k < 6 → g k = lN (tw T m k) := by
  obtain ⟨b0, b1, ⟨w, b2, b3⟩, ⟨sg, b4, b5⟩, ⟨br, b6, b7⟩, b8, g, b9⟩ := b
  refine ⟨_, X5_load_s b8 b9 b1 b2 (by omega) (by omega) (by omega) (by omega), fun k hk => ?_⟩
  rw [fill_in hk]
  exact b3 _ (by omega)
theorem X0_trustOf_s {h : mj_H} {p : Nat} {T : Nat → Nat} (b : BN h p T) (w : WF T) {m : Nat} (hm : m < T 0) : ∃ h', f_X0_trustOf p (nI m) h = some (nI (trust T m), h') ∧ S5 h h' p := by
  obtain ⟨g, h1, h2⟩ := X0_load_s b hm
  have b' := b.s5 ⟨g, rfl⟩
  have hg := get_self (c := cJ 6 g) b.2.2.2.2.2.2.choose_spec
  have hc := X5_chance_s b'.2.2.2.2.2.1 hg h2 (w.w hm) (sm_pos (w.wp hm)) (show 3 < 4 by decide) false
  refine ⟨_, ?_, g, rfl⟩
  simp only [f_X0_trustOf, b.row, b.ob5, h1, b'.row, b'.ob5, Option.bind_some, if_true]
  rw [show (3 : Int32) = nI 3 from rfl, show (0 : Int32) = bi false from rfl, hc]
  rfl
theorem X0_showsOf_s {h : mj_H} {p : Nat} {T : Nat → Nat} (b : BN h p T) (w : WF T) {m test : Nat} (hm : m < T 0) (ht : test < 3) : ∃ h', f_X0_showsOf p (nI m) (nI test) h = some (nI (showsN T m test), h') ∧ S5 h h' p := by
  obtain ⟨g, h1, h2⟩ := X0_load_s b hm
  have b' := b.s5 ⟨g, rfl⟩
  have hg := get_self (c := cJ 6 g) b.2.2.2.2.2.2.choose_spec
  have hc := X5_chance_s b'.2.2.2.2.2.1 hg h2 (w.w hm) (sm_pos (w.wp hm)) (show test < 4 by omega) (know T m)
  refine ⟨_, ?_, g, rfl⟩
  simp only [f_X0_showsOf, b.row, b.ob5, h1, b'.row, b'.ob, b'.ob5, X0_knows_s b' w hm, hc, Option.bind_some, if_true]
  rfl
theorem beh_ok {T : Nat → Nat} (w : WF T) {tested test : Nat} {shown : Bool} (ht : test < 3) {m : Nat} (hm : m < T 0) : (∀ k, k < 6 → beh T tested test shown m k ≤ 999999) ∧ ∃ k, k < 6 ∧ 0 < beh T tested test shown m k := by
  unfold beh
  split
  · exact weighN_ok (by omega) (w.w hm)
  · exact ⟨w.w hm, w.wp hm⟩
theorem X0_trustBehind_s {h : mj_H} {p : Nat} {T : Nat → Nat} (b : BN h p T) (w : WF T) {m tested test : Nat} (hm : m < T 0) (htd : tested < T 0) (ht : test < 3) (shown : Bool) : ∃ h', f_X0_trustBehind p (nI m) (nI tested) (nI test) (bi shown) h = some (nI (share (beh T tested test shown m) 3 false), h') ∧ S5 h h' p := by
  obtain ⟨g, h1, h2⟩ := X0_load_s b hm
  have b' := b.s5 ⟨g, rfl⟩
  have hg := get_self (c := cJ 6 g) b.2.2.2.2.2.2.choose_spec
  have h38 : ∀ (h3 : mj_H) (W : Nat → Nat) (g3 : Nat → Int64), BN h3 p T → h3[p + 5]? = some (cJ 6 g3) → (∀ k, k < 6 → g3 k = lN (W k)) → (∀ k, k < 6 → W k ≤ 999999) → (∃ k, k < 6 ∧ 0 < W k) → f_X0_trustBehind_38 p h3 = some (nI (share W 3 false), h3) := by
    intro h3 W g3 b3 hg3 e3 hB hp
    have hc := X5_chance_s b3.2.2.2.2.2.1 hg3 e3 hB (sm_pos hp) (show 3 < 4 by decide) false
    simp only [f_X0_trustBehind_38, b3.row, b3.ob5, Option.bind_some, if_true]
    rw [show (3 : Int32) = nI 3 from rfl, show (0 : Int32) = bi false from rfl, hc]
    rfl
  have h23 : ∃ h', f_X0_trustBehind_23 p (nI m) (nI test) (bi shown) (h.set (p + 5) (cJ 6 g)) = some (nI (share (weighN (tw T m) test shown (know T m)) 3 false), h') ∧ S5 h h' p := by
    obtain ⟨h5, z1, g5, z2, z3⟩ := X5_weigh_s b'.2.2.2.2.2.1 hg (by omega) h2 (w.w hm) ht shown (know T m)
    have b5 : BN h5 p T := b'.s5 ⟨g5, z2⟩
    have hw := weighN_ok (W := tw T m) (shown := shown) (word := know T m) (show test < 4 by omega) (w.w hm)
    refine ⟨h5, ?_, g5, by rw [z2, List.set_set]⟩
    simp only [f_X0_trustBehind_23, b'.row, b'.ob, X0_knows_s b' w hm, b'.ob5, z1, Option.bind_some, if_true]
    exact h38 h5 _ g5 b5 (by rw [z2]; exact get_self hg) z3 hw.1 hw.2
  have h32 := w.1
  by_cases q : m = tested
  · subst q
    obtain ⟨h', e1, e2⟩ := h23
    refine ⟨h', ?_, e2⟩
    rw [show beh T m test shown m = weighN (tw T m) test shown (know T m) by simp [beh], ← e1]
    simp [f_X0_trustBehind, b.row, b.ob5, h1]
  · have q' : ¬ nI m = nI tested := fun z => q ((nI_eq (by omega) (by omega)).mp z)
    have hb := X0_areBrothers_s b' w hm htd
    cases q2 : brob T m tested
    · refine ⟨_, ?_, g, rfl⟩
      rw [show beh T tested test shown m = tw T m by simp [beh, q, q2]]
      have := h38 _ (tw T m) g b' hg h2 (w.w hm) (w.wp hm)
      simp [f_X0_trustBehind, b.row, b.ob5, h1, q', b'.ob, hb, q2, bi_f, this]
    · obtain ⟨h', e1, e2⟩ := h23
      refine ⟨h', ?_, e2⟩
      rw [show beh T tested test shown m = weighN (tw T m) test shown (know T m) by simp [beh, q2], ← e1]
      simp [f_X0_trustBehind, b.row, b.ob5, h1, q', b'.ob, hb, q2, bi_t]
