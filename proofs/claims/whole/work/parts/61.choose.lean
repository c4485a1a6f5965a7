/-! PURE: hold, keep, worth, best: both -/
def YS (h : mj_H) : Prop := (∃ tr bm, OD h tr bm) ∧ (h[46]? = some (cO 5 [.ref 47]) ∧ ∃ g, h[47]? = some (cJ 6 g)) ∧ ∃ sz f, SF h sz f
def YN (h : mj_H) (T : Nat → Nat) : Prop := XG h ∧ BN h 1 T ∧ YS h
/-- only scratch rows of X8's were written -/
def YX (h h' : mj_H) (T : Nat → Nat) : Prop := BN h' 1 T ∧ YS h' ∧ ∀ k, k ≠ 6 → (k < 43 ∨ 52 ≤ k) → h'[k]? = h[k]?
theorem YX.rf {h : mj_H} {T : Nat → Nat} (y : YN h T) : YX h h T := ⟨y.2.1, y.2.2, fun _ _ _ => rfl⟩
theorem YX.tr {h h1 h2 : mj_H} {T : Nat → Nat} (a : YX h h1 T) (b : YX h1 h2 T) : YX h h2 T := ⟨b.1, b.2.1, fun k k1 k2 => (b.2.2 k k1 k2).trans (a.2.2 k k1 k2)⟩
theorem YN.yx {h h' : mj_H} {T : Nat → Nat} (y : YN h T) (s : YX h h' T) : YN h' T := ⟨y.1.fr (s.2.2 0 (by decide) (by decide)), s.1, s.2.1⟩
theorem YX.s5 {h h' : mj_H} {T : Nat → Nat} (y : YN h T) (s : S5 h h' 1) : YX h h' T := by
  obtain ⟨x, b, ⟨⟨tr, bm, o⟩, ⟨t1, g, t2⟩, sz, f, q⟩⟩ := y
  refine ⟨b.s5 s, ⟨⟨tr, bm, o.fr (fun k k1 k2 => s.oth (by omega))⟩, ⟨by rw [s.oth (by decide)]; exact t1, g, by rw [s.oth (by decide)]; exact t2⟩, sz, f, q.fr (fun k k1 k2 => s.oth (by omega))⟩, fun k k1 k2 => s.oth k1⟩
theorem YX.od {h h' : mj_H} {T tr : Nat → Nat} {bm : Int32} (y : YN h T) (b : BN h' 1 T) (o : OD h' tr bm) (e : ∀ k, k ≠ 6 → k ≠ 43 → k ≠ 44 → k ≠ 45 → h'[k]? = h[k]?) : YX h h' T := by
  obtain ⟨x, -, ⟨-, ⟨t1, g, t2⟩, sz, f, q⟩⟩ := y
  refine ⟨b, ⟨⟨tr, bm, o⟩, ⟨by rw [e _ (by decide) (by decide) (by decide) (by decide)]; exact t1, g, by rw [e _ (by decide) (by decide) (by decide) (by decide)]; exact t2⟩, sz, f, q.fr (fun k k1 k2 => e k (by omega) (by omega) (by omega) (by omega))⟩, fun k k1 k2 => e k k1 (by omega) (by omega) (by omega)⟩
theorem X8_waysNow_s {h : mj_H} {T : Nat → Nat} (y : YN h T) (w : WF T) {k j : Nat} (hk : k ≤ 6) (hj : j ≤ 6) : ∃ h', f_X8_waysNow 0 (nI k) (nI j) h = some (vN (trs T) (T 0) k j, h') ∧ YX h h' T := by
  have yy := y
  obtain ⟨x, b, ⟨⟨tr, bm, o⟩, -⟩⟩ := y
  obtain ⟨h1, e1, b1, o1, f1⟩ := X2_seeNow_s b w o
  obtain ⟨h2, e2, o2, f2⟩ := X2_chooseBest_s o1 (trs_le T) (c := T 0) w.1 hk hj
  have x1 : XG h1 := x.fr (f1 0 (by decide) (by decide))
  have b2 : BN h2 1 T := b1.fr (fun i i1 i2 => f2 i (by omega) (by omega))
  refine ⟨h2, ?_, YX.od yy b2 o2 (fun i i1 i2 i3 i4 => (f2 i i2 i4).trans (f1 i i1 i3))⟩
  simp only [f_X8_waysNow, x.odds, x.band, Option.bind_some, o.ob, if_true, e1, x1.odds, x1.band, b1.sz, o1.ob, e2]
  rfl
theorem X8_gainOf_s {h : mj_H} {T : Nat → Nat} (y : YN h T) (w : WF T) {m test k j : Nat} (hm : m < T 0) (ht : test < 3) (hk : k ≤ 6) (hj : j ≤ 6) : ∃ h', f_X8_gainOf 0 (nI m) (nI test) (nI k) (nI j) (vN (trs T) (T 0) k j) h = some (wN T m test k j, h') ∧ YX h h' T := by
  obtain ⟨h1, e1, s1⟩ := X0_showsOf_s y.2.1 w hm ht
  have z1 := YX.s5 y s1
  have y1 := y.yx z1
  obtain ⟨x1, b1, ⟨⟨tr1, bm1, o1⟩, -⟩⟩ := y.yx z1
  obtain ⟨h2, e2, b2, o2, f2⟩ := X2_seeBehind_s b1 w o1 hm ht true
  obtain ⟨h3, e3, o3, f3⟩ := X2_chooseBest_s o2 (trb_le T m test true) (c := T 0) w.1 hk hj
  have x2 : XG h2 := x1.fr (f2 0 (by decide) (by decide))
  have b3 : BN h3 1 T := b2.fr (fun i i1 i2 => f3 i (by omega) (by omega))
  have z3 := YX.od y1 b3 o3 (fun i i1 i2 i3 i4 => (f3 i i2 i4).trans (f2 i i1 i3))
  have y3 := y1.yx z3
  have x3 := y3.1
  obtain ⟨h4, e4, b4, o4, f4⟩ := X2_seeBehind_s b3 w o3 hm ht false
  obtain ⟨h5, e5, o5, f5⟩ := X2_chooseBest_s o4 (trb_le T m test false) (c := T 0) w.1 hk hj
  have x4 : XG h4 := x3.fr (f4 0 (by decide) (by decide))
  have b5 : BN h5 1 T := b4.fr (fun i i1 i2 => f5 i (by omega) (by omega))
  have z5 := YX.od y3 b5 o5 (fun i i1 i2 i3 i4 => (f5 i i2 i4).trans (f4 i i1 i3))
  rw [bi_t] at e2
  rw [bi_f] at e4
  have hsh := showsN_le T (m := m) ht
  have l1 : (nI (showsN T m test)).toInt64 = lN (showsN T m test) := lN_toInt64 (by omega)
  have l2 : (60 : Int64) - lN (showsN T m test) = lN (60 - showsN T m test) := by
    rw [l60]; exact lN_sub hsh
  refine ⟨h5, ?_, (z1.tr z3).tr z5⟩
  simp only [f_X8_gainOf, y.1.band, Option.bind_some, y.2.1.ob, if_true, e1, x1.odds, x1.band, o1.ob, e2, x2.odds, x2.band, b2.sz, o2.ob, e3, x3.odds, x3.band, o3.ob, e4, x4.odds, x4.band, b4.sz, o4.ob, e5, l1, l2]
  rfl
def bsT (T : Nat → Nat) (k j m : Nat) : Nat → Int32 × Int32 → Int32 × Int32
  | 0, p => p
  | i + 1, p => if cost i ≤ T 1 then (if (bsT T k j m i p).1 = -1 ∨ ¬ wN T m i k j ≤ (bsT T k j m i p).2 then (nI (10 * m + i), wN T m i k j) else bsT T k j m i p) else bsT T k j m i p
def bsO (T : Nat → Nat) (k j : Nat) : Nat → Int32 × Int32
  | 0 => (-1, 0)
  | m + 1 => bsT T k j m 3 (bsO T k j m)
theorem e10m (m i : Nat) : (10 : Int32) * nI m + nI i = nI (10 * m + i) := by
  rw [show (10 : Int32) = nI 10 from rfl, pk_mul, nI_add]
theorem X9_best_63_s {h : mj_H} {T : Nat → Nat} (n : MN h T) (w : WF T) {m k j : Nat} (hm : m < T 0) (hk : k ≤ T 0) (hj : j ≤ 6) (p : Int32 × Int32) : ∃ h', SX h h' ∧ ∀ K39, f_X9_best_63 K39 53 (nI k) (nI j) p.1 p.2 (nI m) (0 : Int32) h = K39 53 (nI k) (nI j) (bsT T k j m 3 p).1 (bsT T k j m 3 p).2 (nI (m + 1)) h' := by
  have w1 := w.2.1
  have key := fix_inP (F := fun K39 => fun (K63 : (Nat × Int32 × Int32 × Int32 × Int32 × Int32 × Int32 × mj_H) → Option (Int32 × mj_H)) (s : Nat × Int32 × Int32 × Int32 × Int32 × Int32 × Int32 × mj_H) => b_X9_best_63 K39 (fun v0 v1 v2 v3 v4 v5 v6 h => K63 (v0, v1, v2, v3, v4, v5, v6, h)) s.1 s.2.1 s.2.2.1 s.2.2.2.1 s.2.2.2.2.1 s.2.2.2.2.2.1 s.2.2.2.2.2.2.1 s.2.2.2.2.2.2.2) (fun i s => ∃ h1, s = (53, nI k, nI j, (bsT T k j m i p).1, (bsT T k j m i p).2, nI m, nI i, h1) ∧ SX h h1) 3 (fun i hi s hs => ?_) 1000 (by decide) (53, nI k, nI j, p.1, p.2, nI m, nI 0, h) ⟨h, rfl, SX.rf n.2.2⟩
  · obtain ⟨s', q, ⟨h2, rfl, sx2⟩, hq, e⟩ := key
    refine ⟨h2, sx2, fun K39 => ?_⟩
    have c1 : (3 : Int32) ≤ nI 3 := by decide
    match q, hq, e with
    | q + 1, _, e =>
      show mj_fix _ 1000 (53, nI k, nI j, p.1, p.2, nI m, nI 0, h) = _
      rw [e K39]
      show b_X9_best_63 K39 _ 53 (nI k) (nI j) (bsT T k j m 3 p).1 (bsT T k j m 3 p).2 (nI m) (nI 3) h2 = _
      rw [b_X9_best_63, if_pos c1, nI_1]
  · obtain ⟨h1, rfl, sx1⟩ := hs
    have n1 := n.sx sx1
    have c1 : ¬ (3 : Int32) ≤ nI i := nI_ge (b := 3) hi (by decide)
    have hc := cost_le i
    have c2 : nI (T 1) < nI (cost i) ↔ T 1 < cost i := nlt_iff (by omega) (by omega)
    have hco := X9_costOf_s hi h1
    obtain ⟨P, hP⟩ : ∃ P, P = bsT T k j m i p := ⟨_, rfl⟩
    by_cases q : cost i ≤ T 1
    · obtain ⟨h2, e2, sx2⟩ := X9_worthOf_s n1 w hm hi hk hj
      have q' : ¬ T 1 < cost i := by omega
      refine ⟨(53, nI k, nI j, (bsT T k j m (i + 1) p).1, (bsT T k j m (i + 1) p).2, nI m, nI (i + 1), h2), ⟨h2, rfl, sx1.tr sx2⟩, fun K39 K => ?_⟩
      rw [bsT, if_pos q, ← hP]
      have z1 : ¬ (1 : Int32) = 0 := by decide
      by_cases p1 : P.1 = -1
      · rw [if_pos (Or.inl p1)]
        simp only [b_X9_best_63, c1, if_false, n1.1.now, Option.bind_some, n1.a1, hco, c2, q', n1.1.ob, if_true, e2, p1, f_X9_best_107, f_X9_best_112, z1, f_X9_best_131, f_X9_best_144, f_X9_best_146, e10m, nI_1]
      · by_cases p2 : wN T m i k j ≤ P.2
        · have p3 : ¬ (P.1 = -1 ∨ ¬ wN T m i k j ≤ P.2) := fun z => z.elim p1 (fun y => y p2)
          rw [if_neg p3]
          simp only [b_X9_best_63, c1, if_false, n1.1.now, Option.bind_some, n1.a1, hco, c2, q', n1.1.ob, if_true, e2, p1, p2, f_X9_best_112, f_X9_best_131, f_X9_best_144, f_X9_best_146, nI_1]
        · rw [if_pos (Or.inr p2)]
          simp only [b_X9_best_63, c1, if_false, n1.1.now, Option.bind_some, n1.a1, hco, c2, q', n1.1.ob, if_true, e2, p1, p2, f_X9_best_107, f_X9_best_112, z1, f_X9_best_131, f_X9_best_144, f_X9_best_146, e10m, nI_1]
    · have q' : T 1 < cost i := by omega
      refine ⟨(53, nI k, nI j, (bsT T k j m (i + 1) p).1, (bsT T k j m (i + 1) p).2, nI m, nI (i + 1), h1), ⟨h1, rfl, sx1⟩, fun K39 K => ?_⟩
      rw [bsT, if_neg q]
      simp only [b_X9_best_63, c1, if_false, n1.1.now, Option.bind_some, n1.a1, hco, c2, q', if_true, f_X9_best_146, nI_1]
theorem X9_best_39_s {h : mj_H} {T : Nat → Nat} (n : MN h T) (w : WF T) {k j : Nat} (hk : k ≤ 3) (hj : j ≤ 6) : ∃ h', f_X9_best_39 53 (nI k) (nI j) (-1 : Int32) (0 : Int32) (0 : Int32) h = some (if k ≤ T 0 then (bsO T k j (T 0)).1 else -1, h') ∧ SX h h' := by
  have w0 := w.1
  by_cases q : k ≤ T 0
  · rw [if_pos q]
    have key := fix_inv (F := fun (K39 : (Nat × Int32 × Int32 × Int32 × Int32 × Int32 × mj_H) → Option (Int32 × mj_H)) (s : Nat × Int32 × Int32 × Int32 × Int32 × Int32 × mj_H) => b_X9_best_39 (fun v0 v1 v2 v3 v4 v5 h => K39 (v0, v1, v2, v3, v4, v5, h)) s.1 s.2.1 s.2.2.1 s.2.2.2.1 s.2.2.2.2.1 s.2.2.2.2.2.1 s.2.2.2.2.2.2)
      (fun m s => ∃ h1, s = (53, nI k, nI j, (bsO T k j m).1, (bsO T k j m).2, nI m, h1) ∧ SX h h1)
      (fun r => ∃ h', r = ((bsO T k j (T 0)).1, h') ∧ SX h h') (T 0) (fun m hm s hs => ?_) (fun s hs => ?_) 1000 (by omega) (53, nI k, nI j, -1, 0, nI 0, h) ⟨h, rfl, SX.rf n.2.2⟩
    · obtain ⟨r, k1, h', rfl, sx⟩ := key
      exact ⟨h', k1, sx⟩
    · obtain ⟨h1, rfl, sx1⟩ := hs
      refine Or.inl ?_
      have n1 := n.sx sx1
      have c1 : ¬ nI (T 0) ≤ nI m := nI_ge hm (by omega)
      have c2 : ¬ nI (T 0) < nI k := nI_nlt q (by omega)
      obtain ⟨h2, sx2, e2⟩ := X9_best_63_s n1 w hm q hj (bsO T k j m)
      refine ⟨_, ⟨h2, rfl, sx1.tr sx2⟩, fun K => ?_⟩
      simp only [b_X9_best_39, n1.1.now, Option.bind_some, n1.a0, c1, if_false, c2]
      exact e2 (fun v0 v1 v2 v3 v4 v5 h => K (v0, v1, v2, v3, v4, v5, h))
    · obtain ⟨h1, rfl, sx1⟩ := hs
      have n1 := n.sx sx1
      have c1 : nI (T 0) ≤ nI (T 0) := Int32.le_refl _
      refine ⟨_, ⟨h1, rfl, sx1⟩, fun K => ?_⟩
      simp only [b_X9_best_39, n1.1.now, Option.bind_some, n1.a0, c1, if_true]
  · rw [if_neg q]
    refine ⟨h, ?_, SX.rf n.2.2⟩
    have c2 : nI (T 0) < nI k := nI_lt (by omega) (by omega)
    show b_X9_best_39 _ 53 (nI k) (nI j) (-1) 0 (0 : Int32) h = _
    by_cases z : nI (T 0) ≤ (0 : Int32)
    · simp only [b_X9_best_39, n.1.now, Option.bind_some, n.a0, z, if_true]
    · simp only [b_X9_best_39, n.1.now, Option.bind_some, n.a0, z, if_false, c2, if_true]
theorem X8_best_67_s {h : mj_H} {T : Nat → Nat} (y : YN h T) (w : WF T) {m k j : Nat} (hm : m < T 0) (hk : k ≤ 6) (hj : j ≤ 6) (p : Int32 × Int32) : ∃ h', YX h h' T ∧ ∀ K52, f_X8_best_67 K52 0 (nI k) (nI j) (vN (trs T) (T 0) k j) p.1 p.2 (nI m) (0 : Int32) h = K52 0 (nI k) (nI j) (vN (trs T) (T 0) k j) (bsT T k j m 3 p).1 (bsT T k j m 3 p).2 (nI (m + 1)) h' := by
  have w1 := w.2.1
  have key := fix_inP (F := fun K52 => fun (K67 : (Nat × Int32 × Int32 × Int64 × Int32 × Int32 × Int32 × Int32 × mj_H) → Option (Int32 × mj_H)) (s : Nat × Int32 × Int32 × Int64 × Int32 × Int32 × Int32 × Int32 × mj_H) => b_X8_best_67 K52 (fun v0 v1 v2 v3 v5 v6 v7 v8 h => K67 (v0, v1, v2, v3, v5, v6, v7, v8, h)) s.1 s.2.1 s.2.2.1 s.2.2.2.1 s.2.2.2.2.1 s.2.2.2.2.2.1 s.2.2.2.2.2.2.1 s.2.2.2.2.2.2.2.1 s.2.2.2.2.2.2.2.2) (fun i s => ∃ h1, s = (0, nI k, nI j, vN (trs T) (T 0) k j, (bsT T k j m i p).1, (bsT T k j m i p).2, nI m, nI i, h1) ∧ YX h h1 T) 3 (fun i hi s hs => ?_) 1000 (by decide) (0, nI k, nI j, vN (trs T) (T 0) k j, p.1, p.2, nI m, nI 0, h) ⟨h, rfl, YX.rf y⟩
  · obtain ⟨s', q, ⟨h2, rfl, sx2⟩, hq, e⟩ := key
    refine ⟨h2, sx2, fun K52 => ?_⟩
    have c1 : (3 : Int32) ≤ nI 3 := by decide
    match q, hq, e with
    | q + 1, _, e =>
      show mj_fix _ 1000 (0, nI k, nI j, vN (trs T) (T 0) k j, p.1, p.2, nI m, nI 0, h) = _
      rw [e K52]
      show b_X8_best_67 K52 _ 0 (nI k) (nI j) (vN (trs T) (T 0) k j) (bsT T k j m 3 p).1 (bsT T k j m 3 p).2 (nI m) (nI 3) h2 = _
      rw [b_X8_best_67, if_pos c1, nI_1]
  · obtain ⟨h1, rfl, sx1⟩ := hs
    have y1 := y.yx sx1
    have c1 : ¬ (3 : Int32) ≤ nI i := nI_ge (b := 3) hi (by decide)
    have hc := cost_le i
    have c2 : nI (cost i) ≤ nI (T 1) ↔ cost i ≤ T 1 := nle_iff (by omega) (by omega)
    have hco := X8_costOf_s hi h1
    obtain ⟨P, hP⟩ : ∃ P, P = bsT T k j m i p := ⟨_, rfl⟩
    by_cases q : cost i ≤ T 1
    · obtain ⟨h2, e2, sx2⟩ := X8_gainOf_s y1 w hm hi hk hj
      refine ⟨(0, nI k, nI j, vN (trs T) (T 0) k j, (bsT T k j m (i + 1) p).1, (bsT T k j m (i + 1) p).2, nI m, nI (i + 1), h2), ⟨h2, rfl, sx1.tr sx2⟩, fun K39 K => ?_⟩
      rw [bsT, if_pos q, ← hP]
      by_cases p1 : P.1 = -1
      · rw [if_pos (Or.inl p1)]
        simp only [b_X8_best_67, c1, if_false, y1.1.band, Option.bind_some, y1.2.1.dl, hco, c2, q, y1.1.ob, if_true, e2, p1, f_X8_best_117, f_X8_best_131, e10m, nI_1]
      · by_cases p2 : wN T m i k j ≤ P.2
        · have p3 : ¬ (P.1 = -1 ∨ ¬ wN T m i k j ≤ P.2) := fun z => z.elim p1 (fun y => y p2)
          rw [if_neg p3]
          simp only [b_X8_best_67, c1, if_false, y1.1.band, Option.bind_some, y1.2.1.dl, hco, c2, q, y1.1.ob, if_true, e2, p1, p2, f_X8_best_131, nI_1]
        · rw [if_pos (Or.inr p2)]
          simp only [b_X8_best_67, c1, if_false, y1.1.band, Option.bind_some, y1.2.1.dl, hco, c2, q, y1.1.ob, if_true, e2, p1, p2, f_X8_best_117, f_X8_best_131, e10m, nI_1]
    · refine ⟨(0, nI k, nI j, vN (trs T) (T 0) k j, (bsT T k j m (i + 1) p).1, (bsT T k j m (i + 1) p).2, nI m, nI (i + 1), h1), ⟨h1, rfl, sx1⟩, fun K39 K => ?_⟩
      rw [bsT, if_neg q]
      simp only [b_X8_best_67, c1, if_false, y1.1.band, Option.bind_some, y1.2.1.dl, hco, c2, q, f_X8_best_131, nI_1]
theorem X8_best_52_s {h : mj_H} {T : Nat → Nat} (y : YN h T) (w : WF T) {k j : Nat} (hk : k ≤ 6) (hj : j ≤ 6) : ∃ h', f_X8_best_52 0 (nI k) (nI j) (vN (trs T) (T 0) k j) (-1 : Int32) (0 : Int32) (0 : Int32) h = some ((bsO T k j (T 0)).1, h') ∧ YX h h' T := by
  have w0 := w.1
  have key := fix_inv (F := fun (K52 : (Nat × Int32 × Int32 × Int64 × Int32 × Int32 × Int32 × mj_H) → Option (Int32 × mj_H)) (s : Nat × Int32 × Int32 × Int64 × Int32 × Int32 × Int32 × mj_H) => b_X8_best_52 (fun v0 v1 v2 v3 v5 v6 v7 h => K52 (v0, v1, v2, v3, v5, v6, v7, h)) s.1 s.2.1 s.2.2.1 s.2.2.2.1 s.2.2.2.2.1 s.2.2.2.2.2.1 s.2.2.2.2.2.2.1 s.2.2.2.2.2.2.2)
    (fun m s => ∃ h1, s = (0, nI k, nI j, vN (trs T) (T 0) k j, (bsO T k j m).1, (bsO T k j m).2, nI m, h1) ∧ YX h h1 T)
    (fun r => ∃ h', r = ((bsO T k j (T 0)).1, h') ∧ YX h h' T) (T 0) (fun m hm s hs => ?_) (fun s hs => ?_) 1000 (by omega) (0, nI k, nI j, vN (trs T) (T 0) k j, -1, 0, nI 0, h) ⟨h, rfl, YX.rf y⟩
  · obtain ⟨r, k1, h', rfl, sx⟩ := key
    exact ⟨h', k1, sx⟩
  · obtain ⟨h1, rfl, sx1⟩ := hs
    refine Or.inl ?_
    have y1 := y.yx sx1
    have c1 : ¬ nI (T 0) ≤ nI m := nI_ge hm (by omega)
    obtain ⟨h2, sx2, e2⟩ := X8_best_67_s y1 w hm hk hj (bsO T k j m)
    refine ⟨_, ⟨h2, rfl, sx1.tr sx2⟩, fun K => ?_⟩
    simp only [b_X8_best_52, y1.1.band, Option.bind_some, y1.2.1.sz, c1, if_false]
    exact e2 (fun v0 v1 v2 v3 v5 v6 v7 h => K (v0, v1, v2, v3, v5, v6, v7, h))
  · obtain ⟨h1, rfl, sx1⟩ := hs
    have y1 := y.yx sx1
    have c1 : nI (T 0) ≤ nI (T 0) := Int32.le_refl _
    refine ⟨_, ⟨h1, rfl, sx1⟩, fun K => ?_⟩
    simp only [b_X8_best_52, y1.1.band, Option.bind_some, y1.2.1.sz, c1, if_true]
/-! hold -/
def hdA (T : Nat → Nat) (men j : Nat) : Int64 := lN (holdN (trs T) men j 6 / Nat.gcd (holdN (trs T) men j 6) (60 ^ popc men))
def hdB (T : Nat → Nat) (men j : Nat) : Int64 := lN (60 ^ popc men / Nat.gcd (holdN (trs T) men j 6) (60 ^ popc men))
theorem X9_hold_32_s {h : mj_H} {T : Nat → Nat} {fs : List Value} (n : MN h T) (w : WF T) (o : h[53]? = some (cO 9 fs)) (hl : fs.length = 20) {men j : Nat} (hm : men < 2 ^ T 0) (hj : j ≤ 6) : ∃ w', f_X9_hold_32 53 (nI men) (nI j) (1 : Int64) (0 : Int32) h = some (1, (h.set 62 (cJ 7 w')).set 53 (cO 9 ((fs.set 5 (.long (hdA T men j))).set 6 (.long (hdB T men j))))) := by
  have w0 := w.1
  have hp := pow6 w0
  have hpc := popc_le men
  obtain ⟨n1, ⟨f, n2, n3⟩, sc⟩ := n
  have n : MN h T := ⟨n1, ⟨f, n2, n3⟩, sc⟩
  obtain ⟨w', e1⟩ := X9_holdOn_s (men := men) (j := j) n1 sc.1 n2 (by decide) (by decide) (by decide) w (AT.of n3) (by omega) hj
  rw [hold_now hm w0] at e1
  have hB := holdN_le (trs_le T) (men := men) (j := j) (c := 6) (by decide)
  have h60 := pow60 hpc
  have h60p : 0 < 60 ^ popc men := Nat.pow_pos (by decide)
  have mg3 := n1.set (k := 62) (c := cJ 7 w') (by decide)
  have fr := X9_fraction_s (a := holdN (trs T) men j 6) (b := 60 ^ popc men) hl (get_set (c := cJ 7 w') o (show 62 ≠ 53 by decide)) (by omega) (by omega) h60p
  have hb := X9_bits_s (show men < 64 by omega) h
  refine ⟨w', ?_⟩
  unfold f_X9_hold_32
  refine fix_iter (st := fun i => ((53 : Nat), nI men, nI j, lN (60 ^ i), nI i, h)) (popc men) _ (fun i hi K => ?_) (fun K => ?_) 1000 (by omega)
  · have c1 : ¬ nI (popc men) ≤ nI i := nI_ge hi (by omega)
    have e2 : lN (60 ^ i) * (60 : Int64) = lN (60 ^ (i + 1)) := by rw [l60, lN_mul, Nat.pow_succ]
    show b_X9_hold_32 _ 53 (nI men) (nI j) (lN (60 ^ i)) (nI i) h = K (53, nI men, nI j, lN (60 ^ (i + 1)), nI (i + 1), h)
    simp only [b_X9_hold_32, hb, Option.bind_some, c1, if_false, e2, nI_1]
  · have c1 : nI (popc men) ≤ nI (popc men) := Int32.le_refl _
    show b_X9_hold_32 _ 53 (nI men) (nI j) (lN (60 ^ popc men)) (nI (popc men)) h = _
    simp only [b_X9_hold_32, hb, Option.bind_some, c1, if_true, n1.now, n1.ob, e1, mg3.ob, fr]
    rfl
theorem X8_hold_52_s {h : mj_H} {fs : List Value} (o : h[0]? = some (cO 8 fs)) (hl : fs.length = 14) {men a : Nat} (hm : men < 64) (ha : a < 2 ^ 62) : f_X8_hold_52 0 (nI men) (lN a) (1 : Int64) (0 : Int32) h = some (1, h.set 0 (cO 8 ((fs.set 9 (.long (lN (a / Nat.gcd a (60 ^ popc men))))).set 10 (.long (lN (60 ^ popc men / Nat.gcd a (60 ^ popc men))))))) := by
  have hpc := popc_le men
  have h60 := pow60 hpc
  have h60p : 0 < 60 ^ popc men := Nat.pow_pos (by decide)
  have hb := bitCount_s hm h
  have gce := X8_gc_s h ha (show 60 ^ popc men < 2 ^ 40 by omega)
  have hg : 0 < Nat.gcd a (60 ^ popc men) := Nat.gcd_pos_of_pos_right a h60p
  have hg2 : Nat.gcd a (60 ^ popc men) ≤ 60 ^ popc men := Nat.gcd_le_right a h60p
  have z1 : ¬ lN (Nat.gcd a (60 ^ popc men)) ≤ (0 : Int64) := by rw [l0, lle (by omega) (by omega)]; omega
  have z2 : ¬ lN (Nat.gcd a (60 ^ popc men)) = (0 : Int64) := by rw [l0, leq (by omega) (by omega)]; omega
  have s1 := sV_r (k := 9) (.long (lN (a / Nat.gcd a (60 ^ popc men)))) o (by omega)
  have s2 := sV_s (fs := fs.set 9 (.long (lN (a / Nat.gcd a (60 ^ popc men))))) (k := 10) (c := 8) (p := 0) (.long (lN (60 ^ popc men / Nat.gcd a (60 ^ popc men)))) o (by rw [List.length_set]; omega)
  unfold f_X8_hold_52
  refine fix_iter (st := fun i => ((0 : Nat), nI men, lN a, lN (60 ^ i), nI i, h)) (popc men) _ (fun i hi K => ?_) (fun K => ?_) 1000 (by omega)
  · have c1 : ¬ nI (popc men) ≤ nI i := nI_ge hi (by omega)
    have e2 : lN (60 ^ i) * (60 : Int64) = lN (60 ^ (i + 1)) := by rw [l60, lN_mul, Nat.pow_succ]
    show b_X8_hold_52 _ 0 (nI men) (lN a) (lN (60 ^ i)) (nI i) h = K (0, nI men, lN a, lN (60 ^ (i + 1)), nI (i + 1), h)
    simp only [b_X8_hold_52, hb, Option.bind_some, c1, if_false, e2, nI_1]
  · have c1 : nI (popc men) ≤ nI (popc men) := Int32.le_refl _
    show b_X8_hold_52 _ 0 (nI men) (lN a) (lN (60 ^ popc men)) (nI (popc men)) h = _
    simp only [b_X8_hold_52, hb, Option.bind_some, c1, if_true, gce, z1, z2, if_false, pk_lDiv (show a < 2 ^ 63 by omega) hg (show Nat.gcd a (60 ^ popc men) < 2 ^ 63 by omega), pk_lDiv (show 60 ^ popc men < 2 ^ 63 by omega) hg (show Nat.gcd a (60 ^ popc men) < 2 ^ 63 by omega), s1, s2]
