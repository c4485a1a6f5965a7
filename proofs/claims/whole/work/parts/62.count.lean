/-! PURE: drawn, spy, again, of, count, digest: both -/
def dwX (x : Int64) : Int64 := ((x * (1103515245 : Int64)) + (12345 : Int64)) - ((x * (1103515245 : Int64)) + (12345 : Int64)) / (2147483648 : Int64) * (2147483648 : Int64)
def dwC (t : Nat) (x : Int64) : Int32 := if (nI t).toInt64 ≤ (x / (65536 : Int64)) - (x / (65536 : Int64)) / (60 : Int64) * (60 : Int64) then 0 else 1
def drI (T : Nat → Nat) (men : Nat) : Nat → Int64 × Int32 → Int64 × Int32
  | 0, p => p
  | m + 1, p => if men.testBit m = true then (dwX (drI T men m p).1, (drI T men m p).2 + dwC (trust T m) (dwX (drI T men m p).1)) else drI T men m p
def drO (T : Nat → Nat) (men : Nat) (x : Int64) : Nat → Int64 × Int32
  | 0 => (x, 0)
  | n + 1 => drI T men (T 0) (drO T men x n)
theorem X9_drawn_58_s {h : mj_H} {T : Nat → Nat} (n : MN h T) (w : WF T) {men : Nat} (hm : men < 64) (N d : Int32) (p : Int64 × Int32) (K49 : Nat → Int32 → Int32 → Int64 → Int32 → Int32 → mj_H → Option (Int32 × mj_H)) : f_X9_drawn_58 K49 53 (nI men) N p.1 p.2 d (0 : Int32) h = K49 53 (nI men) N (drI T men (T 0) p).1 (drI T men (T 0) p).2 (d + (1 : Int32)) h := by
  have w0 := w.1
  unfold f_X9_drawn_58
  refine fix_iter (st := fun i => ((53 : Nat), nI men, N, (drI T men i p).1, (drI T men i p).2, d, nI i, h)) (T 0) _ (fun i hi K => ?_) (fun K => ?_) 1000 (by omega)
  · have c1 : ¬ nI (T 0) ≤ nI i := nI_ge hi (by omega)
    have hh := X9_has_s (s := men) (m := i) (by omega) (by omega) h
    have tr := n.trust w hi
    show b_X9_drawn_58 K49 _ 53 (nI men) N (drI T men i p).1 (drI T men i p).2 d (nI i) h = K (53, nI men, N, (drI T men (i + 1) p).1, (drI T men (i + 1) p).2, d, nI (i + 1), h)
    rw [drI]
    obtain ⟨P, hP⟩ : ∃ P, P = drI T men i p := ⟨_, rfl⟩
    rw [← hP]
    simp only [b_X9_drawn_58, n.1.now, Option.bind_some, n.a0, c1, if_false, hh]
    cases q : men.testBit i
    · simp only [bi_f, if_true, Bool.false_eq_true, if_false, f_X9_drawn_128, nI_1]
    · have z : ¬ (1 : Int32) = 0 := by decide
      have hb : ∀ F : Int32 × mj_H → Option (Int32 × mj_H), (f_X9_trustOn 54 (nI i) h).bind F = F (nI (trust T i), h) := fun F => by rw [tr]; rfl
      rw [bi_t, if_neg z, hb]
      dsimp only
      rw [if_pos rfl]
      dsimp only
      obtain ⟨X, hX⟩ : ∃ X, X = dwX P.1 := ⟨_, rfl⟩
      have hX' : X = ((P.1 * (1103515245 : Int64)) + (12345 : Int64)) - ((P.1 * (1103515245 : Int64)) + (12345 : Int64)) / (2147483648 : Int64) * (2147483648 : Int64) := hX
      rw [← hX', ← hX]
      by_cases q2 : (nI (trust T i)).toInt64 ≤ (X / (65536 : Int64)) - (X / (65536 : Int64)) / (60 : Int64) * (60 : Int64)
      · have e2 : dwC (trust T i) X = 0 := if_pos q2
        rw [if_pos q2, e2]
        simp only [f_X9_drawn_125, f_X9_drawn_128, nI_1]
      · have e2 : dwC (trust T i) X = 1 := if_neg q2
        rw [if_neg q2, e2]
        simp only [f_X9_drawn_125, f_X9_drawn_128, nI_1]
  · have c1 : nI (T 0) ≤ nI (T 0) := Int32.le_refl _
    show b_X9_drawn_58 K49 _ 53 (nI men) N (drI T men (T 0) p).1 (drI T men (T 0) p).2 d (nI (T 0)) h = _
    simp only [b_X9_drawn_58, n.1.now, Option.bind_some, n.a0, c1, if_true]
theorem X9_drawn_49_s {h : mj_H} {T : Nat → Nat} (n : MN h T) (w : WF T) {men N : Nat} (hm : men < 64) (hN : N ≤ 30) (x : Int64) : f_X9_drawn_49 53 (nI men) (nI N) x (0 : Int32) (0 : Int32) h = some ((drO T men x N).2, h) := by
  unfold f_X9_drawn_49
  refine fix_iter (st := fun i => ((53 : Nat), nI men, nI N, (drO T men x i).1, (drO T men x i).2, nI i, h)) N _ (fun i hi K => ?_) (fun K => ?_) 1000 (by omega)
  · have c1 : ¬ nI N ≤ nI i := nI_ge hi (by omega)
    have e := X9_drawn_58_s n w hm (nI N) (nI i) (drO T men x i) (fun v0 v1 v2 v4 v6 v7 h => K (v0, v1, v2, v4, v6, v7, h))
    rw [nI_1] at e
    show b_X9_drawn_49 _ 53 (nI men) (nI N) (drO T men x i).1 (drO T men x i).2 (nI i) h = K (53, nI men, nI N, (drI T men (T 0) (drO T men x i)).1, (drI T men (T 0) (drO T men x i)).2, nI (i + 1), h)
    rw [← e, b_X9_drawn_49, if_neg c1]
  · have c1 : nI N ≤ nI N := Int32.le_refl _
    show b_X9_drawn_49 _ 53 (nI men) (nI N) (drO T men x N).1 (drO T men x N).2 (nI N) h = _
    rw [b_X9_drawn_49, if_pos c1]
theorem X8_drawn_69_s {h : mj_H} {T : Nat → Nat} {bm : Int32} (x : XG h) (b : BN h 1 T) (w : WF T) (o : OD h (trs T) bm) {men : Nat} (hm : men < 64) (N d : Int32) (p : Int64 × Int32) (K60 : Nat → Int32 → Int32 → Int64 → Int32 → Int32 → mj_H → Option (Int32 × mj_H)) : f_X8_drawn_69 K60 0 (nI men) N p.1 p.2 d (0 : Int32) h = K60 0 (nI men) N (drI T men (T 0) p).1 (drI T men (T 0) p).2 (d + (1 : Int32)) h := by
  have w0 := w.1
  unfold f_X8_drawn_69
  refine fix_iter (st := fun i => ((0 : Nat), nI men, N, (drI T men i p).1, (drI T men i p).2, d, nI i, h)) (T 0) _ (fun i hi K => ?_) (fun K => ?_) 1000 (by omega)
  · have c1 : ¬ nI (T 0) ≤ nI i := nI_ge hi (by omega)
    have hh := X8_isIn_s (s := men) (m := i) (by omega) (by omega) h
    have tr := X2_trustSeen_s o (show i < 6 by omega)
    have v1 : trs T i = trust T i := by unfold trs; rw [if_pos hi]
    rw [v1] at tr
    show b_X8_drawn_69 K60 _ 0 (nI men) N (drI T men i p).1 (drI T men i p).2 d (nI i) h = K (0, nI men, N, (drI T men (i + 1) p).1, (drI T men (i + 1) p).2, d, nI (i + 1), h)
    rw [drI]
    obtain ⟨P, hP⟩ : ∃ P, P = drI T men i p := ⟨_, rfl⟩
    rw [← hP]
    simp only [b_X8_drawn_69, x.band, Option.bind_some, b.sz, c1, if_false, hh]
    cases q : men.testBit i
    · simp only [bi_f, if_true, Bool.false_eq_true, if_false, f_X8_drawn_140, nI_1]
    · have z : ¬ (1 : Int32) = 0 := by decide
      have hb : ∀ F : Int32 × mj_H → Option (Int32 × mj_H), (f_X2_trustSeen 43 (nI i) h).bind F = F (nI (trust T i), h) := fun F => by rw [tr]; rfl
      have hc : ∀ F : Nat → Option (Int32 × mj_H), (mj_gR h 0 8 5).bind F = F 43 := fun F => by rw [x.odds]; rfl
      rw [bi_t, if_neg z, hc, if_pos o.ob, hb]
      dsimp only
      rw [if_pos rfl]
      dsimp only
      obtain ⟨X, hX⟩ : ∃ X, X = dwX P.1 := ⟨_, rfl⟩
      have hX' : X = ((P.1 * (1103515245 : Int64)) + (12345 : Int64)) - ((P.1 * (1103515245 : Int64)) + (12345 : Int64)) / (2147483648 : Int64) * (2147483648 : Int64) := hX
      rw [← hX', ← hX]
      by_cases q2 : (nI (trust T i)).toInt64 ≤ (X / (65536 : Int64)) - (X / (65536 : Int64)) / (60 : Int64) * (60 : Int64)
      · have e2 : dwC (trust T i) X = 0 := if_pos q2
        rw [if_pos q2, e2]
        simp only [f_X8_drawn_137, f_X8_drawn_140, nI_1]
      · have e2 : dwC (trust T i) X = 1 := if_neg q2
        rw [if_neg q2, e2]
        simp only [f_X8_drawn_137, f_X8_drawn_140, nI_1]
  · have c1 : nI (T 0) ≤ nI (T 0) := Int32.le_refl _
    show b_X8_drawn_69 K60 _ 0 (nI men) N (drI T men (T 0) p).1 (drI T men (T 0) p).2 d (nI (T 0)) h = _
    simp only [b_X8_drawn_69, x.band, Option.bind_some, b.sz, c1, if_true]
theorem X8_drawn_60_s {h : mj_H} {T : Nat → Nat} {bm : Int32} (x : XG h) (b : BN h 1 T) (w : WF T) (o : OD h (trs T) bm) {men N : Nat} (hm : men < 64) (hN : N ≤ 30) (s : Int64) : f_X8_drawn_60 0 (nI men) (nI N) s (0 : Int32) (0 : Int32) h = some ((drO T men s N).2, h) := by
  unfold f_X8_drawn_60
  refine fix_iter (st := fun i => ((0 : Nat), nI men, nI N, (drO T men s i).1, (drO T men s i).2, nI i, h)) N _ (fun i hi K => ?_) (fun K => ?_) 1000 (by omega)
  · have c1 : ¬ nI N ≤ nI i := nI_ge hi (by omega)
    have e := X8_drawn_69_s x b w o hm (nI N) (nI i) (drO T men s i) (fun v0 v1 v2 v4 v6 v7 h => K (v0, v1, v2, v4, v6, v7, h))
    rw [nI_1] at e
    show b_X8_drawn_60 _ 0 (nI men) (nI N) (drO T men s i).1 (drO T men s i).2 (nI i) h = K (0, nI men, nI N, (drI T men (T 0) (drO T men s i)).1, (drI T men (T 0) (drO T men s i)).2, nI (i + 1), h)
    rw [← e, b_X8_drawn_60, if_neg c1]
  · have c1 : nI N ≤ nI N := Int32.le_refl _
    show b_X8_drawn_60 _ 0 (nI men) (nI N) (drO T men s N).1 (drO T men s N).2 (nI N) h = _
    rw [b_X8_drawn_60, if_pos c1]
/-! spy, again -/
def noSpy (W : Nat → Nat) : Nat → Nat := fun k => if k = 5 then 0 else W k
def spyN (T : Nat → Nat) (m : Nat) : Int32 := (if sm (noSpy (tw T m)) 6 = 0 then (60 : Int32) else nI (share (noSpy (tw T m)) 3 false)) - nI (trust T m)
theorem noSpy_le {T : Nat → Nat} (w : WF T) {m : Nat} (hm : m < T 0) : ∀ k, k < 6 → noSpy (tw T m) k ≤ 999999 := fun k hk => by
  unfold noSpy; split
  · omega
  · exact w.w hm k hk
theorem X9_spy_in {h : mj_H} {T : Nat → Nat} (n : MN h T) (w : WF T) {m : Nat} (hm : m < T 0) : ∃ h1 h2 h', f_X9_layDay 53 h = some h1 ∧ MG h1 ∧ mj_uI h1 63 (((16 : Int32) + ((6 : Int32) * nI m)) + (5 : Int32)) (0 : Int32) = some h2 ∧ MG h2 ∧ f_X9_allOf 63 (nI m) h2 = some (lN (sm (noSpy (tw T m)) 6), h2) ∧ (0 < sm (noSpy (tw T m)) 6 → f_X9_trustOn 63 (nI m) h2 = some (nI (share (noSpy (tw T m)) 3 false), h2)) ∧ (∀ s0, f_X9_spy_60 53 (nI m) s0 h2 = some (s0 - nI (trust T m), h')) ∧ SX h h' := by
  have w0 := w.1
  obtain ⟨g, e1, e2, -⟩ := X9_layDay_s n
  have mg1 := n.1.set (k := 63) (c := cI 52 g) (by decide)
  have gd := get_self (c := cI 52 g) n.2.2.2.1.choose_spec
  have u := uI_r (0 : Int32) gd (show 16 + (6 * m + 5) < 52 by omega) (by decide)
  rw [← ix3, List.set_set] at u
  have sx := SX.d n.2.2 (upd g (16 + (6 * m + 5)) 0)
  have n2 := n.sx sx
  have gd2 := get_self (c := cI 52 (upd g (16 + (6 * m + 5)) 0)) n.2.2.2.1.choose_spec
  have e3 : ∀ k, k < 6 → upd g (16 + (6 * m + 5)) 0 (16 + (6 * m + k)) = nI (noSpy (tw T m) k) := fun k hk => by
    unfold noSpy
    by_cases q : k = 5
    · subst q; simp [upd, nI_0]
    · rw [if_neg q, show upd g (16 + (6 * m + 5)) 0 (16 + (6 * m + k)) = g (16 + (6 * m + k)) by unfold upd; rw [if_neg (by omega)]]
      exact e2.w (by decide) (by omega) k hk
  have a1 := X9_allOf_s gd2 (by decide) (by decide) (show m < 6 by omega) e3 (noSpy_le w hm)
  have tr := n2.trust w hm
  refine ⟨_, _, _, e1, mg1, u, n2.1, a1, fun hp => X9_trustOn_s gd2 (by decide) (by decide) (by omega) e3 (noSpy_le w hm) hp, fun s0 => ?_, sx⟩
  simp only [f_X9_spy_60, n2.1.now, Option.bind_some, tr]
def agN (T : Nat → Nat) (m : Nat) : Nat := share (weighN (tw T m) 0 true (know T m)) 0 true
theorem X9_again_in {h : mj_H} {T : Nat → Nat} (n : MN h T) (w : WF T) {m : Nat} (hm : m < T 0) : ∃ h1 h2, f_X9_layDay 53 h = some h1 ∧ MG h1 ∧ f_X9_weighs 63 (nI m) (0 : Int32) (1 : Int32) h1 = some h2 ∧ MG h2 ∧ f_X9_shareOf 63 (nI m) (0 : Int32) (1 : Int32) h2 = some (nI (agN T m), h2) ∧ SX h h2 := by
  have w0 := w.1
  obtain ⟨g, e1, e2, -⟩ := X9_layDay_s n
  have mg1 := n.1.set (k := 63) (c := cI 52 g) (by decide)
  have gd := get_self (c := cI 52 g) n.2.2.2.1.choose_spec
  obtain ⟨g2, i1, i2⟩ := X9_weighs_s gd (by decide) (by decide) (show m < 6 by omega) (e2 2 (by decide) (by decide)) w.t2 (W := tw T m) (fun k hk => by rw [Nat.add_assoc]; exact e2.w (by decide) (by omega) k hk) (w.w hm) (test := 0) (by decide) true
  rw [List.set_set, bi_t, show nI 0 = (0 : Int32) from rfl] at i1
  have sx := SX.d n.2.2 g2
  have n2 := n.sx sx
  have gd2 := get_self (c := cI 52 g2) n.2.2.2.1.choose_spec
  have ok := weighN_ok (W := tw T m) (test := 0) (shown := true) (word := (T 2).testBit m) (by decide) (w.w hm)
  have s := X9_shareOf_s gd2 (by decide) (by decide) (show m < 6 by omega) (fun k hk => by rw [← Nat.add_assoc]; exact i2.2 k hk) ok.1 (sm_pos ok.2) (what := 0) (by decide) true
  rw [bi_t, show nI 0 = (0 : Int32) from rfl] at s
  exact ⟨_, _, e1, mg1, i1, n2.1, s, sx⟩
/-- the trial row -/
theorem trial_load {h : mj_H} {T : Nat → Nat} (y : YN h T) {m : Nat} (hm : m < T 0) : ∃ g, f_X5_load 46 1 (nI m) h = some (h.set 47 (cJ 6 g)) ∧ ∀ k, k < 6 → g k = lN (tw T m k) := by
  obtain ⟨x, ⟨b0, b1, ⟨w, b2, b3⟩, -⟩, ⟨-, ⟨t1, g, t2⟩, -⟩⟩ := y
  refine ⟨_, X5_load_s t1 t2 b1 b2 (by decide) (by decide) (by decide) (show m < 6 by omega), fun k hk => ?_⟩
  rw [fill_in hk, b3 _ (by omega)]
  rfl
theorem YX.t {h : mj_H} {T : Nat → Nat} (y : YN h T) (g : Nat → Int64) : YX h (h.set 47 (cJ 6 g)) T := by
  obtain ⟨x, b, ⟨⟨tr, bm, o⟩, ⟨t1, g0, t2⟩, sz, f, q⟩⟩ := y
  refine ⟨b.set (by omega), ⟨⟨tr, bm, o.fr (fun k k1 k2 => List.getElem?_set_ne (by omega))⟩, ⟨get_set t1 (by decide), g, get_self t2⟩, sz, f, q.fr (fun k k1 k2 => List.getElem?_set_ne (by omega))⟩, fun k k1 k2 => List.getElem?_set_ne (by omega)⟩
theorem X8_spy_in {h : mj_H} {T : Nat → Nat} (y : YN h T) (w : WF T) {m : Nat} (hm : m < T 0) : ∃ h1 h2 h', mj_ob h 46 5 = true ∧ f_X5_load 46 1 (nI m) h = some h1 ∧ XG h1 ∧ mj_ob h1 46 5 = true ∧ f_X5_dropSpy 46 h1 = some h2 ∧ XG h2 ∧ mj_ob h2 46 5 = true ∧ f_X5_isEmpty 46 h2 = some (bi (decide (sm (noSpy (tw T m)) 6 = 0)), h2) ∧ (0 < sm (noSpy (tw T m)) 6 → f_X5_chance 46 (3 : Int32) (0 : Int32) h2 = some (nI (share (noSpy (tw T m)) 3 false), h2)) ∧ (∀ s0, f_X8_spy_61 0 (nI m) s0 h2 = some (s0 - nI (trust T m), h')) ∧ YX h h' T := by
  obtain ⟨g, e1, e2⟩ := trial_load y hm
  have z1 := YX.t y g
  have y1 := y.yx z1
  have t1 := y.2.2.2.1.1
  have t1' := y1.2.2.2.1.1
  have t2' := get_self (c := cJ 6 g) y.2.2.2.1.2.choose_spec
  have u := uJ_r (0 : Int64) t2' (show 5 < 6 by decide) (by decide)
  rw [List.set_set, show nI 5 = (5 : Int32) from rfl] at u
  have z2 := YX.t y (vp_updL g 5 0)
  have y2 := y.yx z2
  have t1'' := y2.2.2.2.1.1
  have t2'' := get_self (c := cJ 6 (vp_updL g 5 0)) y.2.2.2.1.2.choose_spec
  have e3 : ∀ k, k < 6 → vp_updL g 5 0 k = lN (noSpy (tw T m) k) := fun k hk => by
    unfold noSpy
    by_cases q : k = 5
    · subst q; rw [pk_uLs]; rfl
    · rw [if_neg q, pk_uLn q]; exact e2 k hk
  have d1 : f_X5_dropSpy 46 (h.set 47 (cJ 6 g)) = some (h.set 47 (cJ 6 (vp_updL g 5 0))) := by
    simp only [f_X5_dropSpy, gR_r (k := 0) (q := 47) t1' rfl, Option.bind_some, u]
  have em := X5_isEmpty_s t1'' t2'' e3 (fun k hk => Nat.le_trans (noSpy_le w hm k hk) (by decide))
  obtain ⟨h3, tr, s3⟩ := X0_trustOf_s y2.2.1 w hm
  have z3 := YX.s5 y2 s3
  refine ⟨_, _, h3, ob_r t1, e1, y1.1, ob_r t1', d1, y2.1, ob_r t1'', em, fun hp => X5_chance_s t1'' t2'' e3 (noSpy_le w hm) hp (what := 3) (by decide) false, fun s0 => ?_, z2.tr z3⟩
  simp only [f_X8_spy_61, y2.1.band, Option.bind_some, y2.2.1.ob, if_true, tr]
theorem X8_again_in {h : mj_H} {T : Nat → Nat} (y : YN h T) (w : WF T) {m : Nat} (hm : m < T 0) : ∃ h1 h2, mj_ob h 46 5 = true ∧ f_X5_load 46 1 (nI m) h = some h1 ∧ XG h1 ∧ mj_ob h1 1 0 = true ∧ f_X0_knows 1 (nI m) h1 = some (bi (know T m), h1) ∧ mj_ob h1 46 5 = true ∧ f_X5_weigh 46 (0 : Int32) (1 : Int32) (bi (know T m)) h1 = some h2 ∧ XG h2 ∧ mj_ob h2 46 5 = true ∧ f_X5_chance 46 (0 : Int32) (1 : Int32) h2 = some (nI (agN T m), h2) ∧ YX h h2 T := by
  obtain ⟨g, e1, e2⟩ := trial_load y hm
  have z1 := YX.t y g
  have y1 := y.yx z1
  have t1' := y1.2.2.2.1.1
  have t2' := get_self (c := cJ 6 g) y.2.2.2.1.2.choose_spec
  obtain ⟨h2, i1, g2, i2, i3⟩ := X5_weigh_s t1' t2' (by decide) e2 (w.w hm) (test := 0) (by decide) true (know T m)
  rw [bi_t, show nI 0 = (0 : Int32) from rfl] at i1
  rw [List.set_set] at i2
  subst i2
  have z2 := YX.t y g2
  have y2 := y.yx z2
  have t1'' := y2.2.2.2.1.1
  have t2'' := get_self (c := cJ 6 g2) y.2.2.2.1.2.choose_spec
  have ok := weighN_ok (W := tw T m) (test := 0) (shown := true) (word := know T m) (by decide) (w.w hm)
  have c := X5_chance_s t1'' t2'' i3 ok.1 (sm_pos ok.2) (what := 0) (by decide) true
  rw [bi_t, show nI 0 = (0 : Int32) from rfl] at c
  exact ⟨_, _, ob_r y.2.2.2.1.1, e1, y1.1, y1.2.1.ob, X0_knows_s y1.2.1 w hm, ob_r t1', i1, y2.1, ob_r t1'', c, z2⟩
/-! of, count, digest -/
theorem X9_of_91_s {h : mj_H} {T : Nat → Nat} (n : MN h T) (w : WF T) {m : Nat} (hm : m < T 0) : f_X9_of_91 53 (nI m) (0 : Int32) (1 : Int32) h = some (nI (lik (tw T m) 5), h) := by
  have w0 := w.1
  unfold f_X9_of_91
  refine fix_iter (st := fun i => ((53 : Nat), nI m, nI (lik (tw T m) i), nI (i + 1), h)) 5 _ (fun i hi K => ?_) (fun K => ?_) 1000 (by decide)
  · have h1 := lik_le (tw T m) i
    have w1 := w.w hm (i + 1) (by omega)
    have w2 := w.w hm (lik (tw T m) i) (by omega)
    have c0 : ¬ (6 : Int32) ≤ nI (i + 1) := nI_ge (b := 6) (by omega) (by decide)
    have r1 := n.a (j := 16 + (6 * m + (i + 1))) (by omega)
    have r2 := n.a (j := 16 + (6 * m + lik (tw T m) i)) (by omega)
    have v1 : T (16 + (6 * m + (i + 1))) = tw T m (i + 1) := rfl
    have v2 : T (16 + (6 * m + lik (tw T m) i)) = tw T m (lik (tw T m) i) := rfl
    rw [v1] at r1
    rw [v2] at r2
    have c1 : nI (tw T m (i + 1)) ≤ nI (tw T m (lik (tw T m) i)) ↔ tw T m (i + 1) ≤ tw T m (lik (tw T m) i) := nle_iff (by omega) (by omega)
    show b_X9_of_91 _ 53 (nI m) (nI (lik (tw T m) i)) (nI (i + 1)) h = K (53, nI m, nI (if tw T m (lik (tw T m) i) < tw T m (i + 1) then i + 1 else lik (tw T m) i), nI (i + 1 + 1), h)
    simp only [b_X9_of_91, c0, if_false, n.1.now, Option.bind_some, ix3, r1, r2, c1]
    by_cases q : tw T m (i + 1) ≤ tw T m (lik (tw T m) i)
    · rw [if_pos q, if_neg (by omega)]
      simp only [f_X9_of_136, nI_1]
    · rw [if_neg q, if_pos (by omega)]
      simp only [f_X9_of_136, nI_1]
  · have c0 : (6 : Int32) ≤ nI (5 + 1) := by decide
    show b_X9_of_91 _ 53 (nI m) (nI (lik (tw T m) 5)) (nI (5 + 1)) h = _
    simp only [b_X9_of_91, c0, if_true]
def cnt (T : Nat → Nat) (tn what : Nat) : Nat := if what = 0 then T 0 else if what = 1 then T 1 else if what = 2 then pairsN T else if what = 3 then popc (T 2) else if what = 4 then T 3 else tn
theorem X9_counted_s {h : mj_H} {T : Nat → Nat} {tn what : Nat} (n : MN h T) (w : WF T) (hs : mj_gI h 53 9 4 = some (nI tn)) (hw : what < 6) : f_X9_counted 53 (nI what) h = some (nI (cnt T tn what), h) := by
  have w0 := w.1
  have t2 := w.t2
  have fin : ∀ v2 : Int32, (what = 2 → v2 = nI (sm (fun m => popc (T (10 + m))) (T 0))) → f_X9_counted_40 53 (nI what) v2 h = some (nI (cnt T tn what), h) := by
    intro v2 hv
    have hh : what = 0 ∨ what = 1 ∨ what = 2 ∨ what = 3 ∨ what = 4 ∨ what = 5 := by omega
    have z : ∀ a b : Nat, a < 10 → b < 10 → a ≠ b → ¬ nI a = nI b := fun a b ha hb hab => by
      rw [nI_eq (by omega) (by omega)]; exact hab
    rcases hh with rfl | rfl | rfl | rfl | rfl | rfl
    · simp only [f_X9_counted_40, show (0 : Int32) = nI 0 from rfl, if_true, n.1.now, Option.bind_some]
      rw [show nI 0 = (0 : Int32) from rfl, n.a0]; rfl
    · have c0 : ¬ nI 1 = (0 : Int32) := by decide
      have c1 : nI 1 = (1 : Int32) := rfl
      simp only [f_X9_counted_40, c0, if_false, c1, if_true, n.1.now, Option.bind_some, n.a1]; rfl
    · have c0 : ¬ nI 2 = (0 : Int32) := by decide
      have c1 : ¬ nI 2 = (1 : Int32) := by decide
      have c2 : nI 2 = (2 : Int32) := rfl
      have hb := sm_popc (f := fun m => T (10 + m)) (T 0)
      have d : nI (sm (fun m => popc (T (10 + m))) (T 0)) / (2 : Int32) = nI (sm (fun m => popc (T (10 + m))) (T 0) / 2) := pk_div (d := 2) (by omega) (by decide) (by decide)
      rw [hv rfl]
      simp only [f_X9_counted_40, c0, if_false, c1, c2, if_true, d]; rfl
    · have c0 : ¬ nI 3 = (0 : Int32) := by decide
      have c1 : ¬ nI 3 = (1 : Int32) := by decide
      have c2 : ¬ nI 3 = (2 : Int32) := by decide
      have c3 : nI 3 = (3 : Int32) := rfl
      simp only [f_X9_counted_40, c0, if_false, c1, c2, c3, if_true, n.1.now, Option.bind_some, n.a2, X9_bits_s t2]; rfl
    · have c0 : ¬ nI 4 = (0 : Int32) := by decide
      have c1 : ¬ nI 4 = (1 : Int32) := by decide
      have c2 : ¬ nI 4 = (2 : Int32) := by decide
      have c3 : ¬ nI 4 = (3 : Int32) := by decide
      have c4 : nI 4 = (4 : Int32) := rfl
      simp only [f_X9_counted_40, c0, if_false, c1, c2, c3, c4, if_true, n.1.now, Option.bind_some, n.a3]; rfl
    · have c0 : ¬ nI 5 = (0 : Int32) := by decide
      have c1 : ¬ nI 5 = (1 : Int32) := by decide
      have c2 : ¬ nI 5 = (2 : Int32) := by decide
      have c3 : ¬ nI 5 = (3 : Int32) := by decide
      have c4 : ¬ nI 5 = (4 : Int32) := by decide
      simp only [f_X9_counted_40, c0, if_false, c1, c2, c3, c4, hs, Option.bind_some]; rfl
  by_cases q : what = 2
  · subst q
    unfold f_X9_counted f_X9_counted_4
    refine fix_iter (st := fun i => ((53 : Nat), nI 2, nI (sm (fun m => popc (T (10 + m))) i), nI i, h)) (T 0) _ (fun i hi K => ?_) (fun K => ?_) 1000 (by omega)
    · have c1 : ¬ nI (T 0) ≤ nI i := nI_ge hi (by omega)
      have r := n.a (j := 10 + i) (by omega)
      have hb := X9_bits_s (w.br hi) h
      have c2 : nI 2 = (2 : Int32) := rfl
      show b_X9_counted_4 _ 53 (nI 2) (nI (sm (fun m => popc (T (10 + m))) i)) (nI i) h = K (53, nI 2, nI (sm (fun m => popc (T (10 + m))) i + popc (T (10 + i))), nI (i + 1), h)
      simp only [b_X9_counted_4, n.1.now, Option.bind_some, n.a0, c1, if_false]
      rw [if_pos c2]
      simp only [show (10 : Int32) = nI 10 from rfl, nI_add, r, Option.bind_some, hb, nI_1]
    · have c1 : nI (T 0) ≤ nI (T 0) := Int32.le_refl _
      show b_X9_counted_4 _ 53 (nI 2) (nI (sm (fun m => popc (T (10 + m))) (T 0))) (nI (T 0)) h = _
      simp only [b_X9_counted_4, n.1.now, Option.bind_some, n.a0, c1, if_true]
      exact fin _ (fun _ => rfl)
  · have c2 : ¬ nI what = (2 : Int32) := by
      rw [show (2 : Int32) = nI 2 from rfl, nI_eq (by omega) (by omega)]; exact q
    show b_X9_counted_4 _ 53 (nI what) (0 : Int32) (0 : Int32) h = _
    have f0 := fin 0 (fun z => absurd z q)
    by_cases q2 : nI (T 0) ≤ (0 : Int32)
    · simp only [b_X9_counted_4, n.1.now, Option.bind_some, n.a0, q2, if_true, f0]
    · simp only [b_X9_counted_4, n.1.now, Option.bind_some, n.a0, q2, if_false, c2, f0]
theorem X8_howMany_s {h : mj_H} {T : Nat → Nat} {tn what : Nat} (x : XG h) (b : BN h 1 T) (w : WF T) (hp : mj_gI h 7 3 4 = some (nI (T 3))) (hr : mj_gR h 33 4 0 = some 34) (hs : mj_gI h 34 7 1 = some (nI tn)) (hw : what < 6) : f_X8_howMany 0 (nI what) h = some (nI (cnt T tn what), h) := by
  have t2 := w.t2
  have hh : what = 0 ∨ what = 1 ∨ what = 2 ∨ what = 3 ∨ what = 4 ∨ what = 5 := by omega
  rcases hh with rfl | rfl | rfl | rfl | rfl | rfl
  · have c0 : nI 0 = (0 : Int32) := rfl
    simp only [f_X8_howMany, c0, if_true, x.band, Option.bind_some, b.sz]; rfl
  · have c0 : ¬ nI 1 = (0 : Int32) := by decide
    have c1 : nI 1 = (1 : Int32) := rfl
    simp only [f_X8_howMany, c0, if_false, c1, if_true, x.band, Option.bind_some, b.dl]; rfl
  · have c0 : ¬ nI 2 = (0 : Int32) := by decide
    have c1 : ¬ nI 2 = (1 : Int32) := by decide
    have c2 : nI 2 = (2 : Int32) := rfl
    simp only [f_X8_howMany, c0, if_false, c1, c2, if_true, x.band, Option.bind_some, b.ob, X0_pairs_s b w]; rfl
  · have c0 : ¬ nI 3 = (0 : Int32) := by decide
    have c1 : ¬ nI 3 = (1 : Int32) := by decide
    have c2 : ¬ nI 3 = (2 : Int32) := by decide
    have c3 : nI 3 = (3 : Int32) := rfl
    simp only [f_X8_howMany, c0, if_false, c1, c2, c3, if_true, x.band, Option.bind_some, b.inf, bitCount_s t2]; rfl
  · have c0 : ¬ nI 4 = (0 : Int32) := by decide
    have c1 : ¬ nI 4 = (1 : Int32) := by decide
    have c2 : ¬ nI 4 = (2 : Int32) := by decide
    have c3 : ¬ nI 4 = (3 : Int32) := by decide
    have c4 : nI 4 = (4 : Int32) := rfl
    simp only [f_X8_howMany, c0, if_false, c1, c2, c3, c4, if_true, x.past, Option.bind_some, hp]; rfl
  · have c0 : ¬ nI 5 = (0 : Int32) := by decide
    have c1 : ¬ nI 5 = (1 : Int32) := by decide
    have c2 : ¬ nI 5 = (2 : Int32) := by decide
    have c3 : ¬ nI 5 = (3 : Int32) := by decide
    have c4 : ¬ nI 5 = (4 : Int32) := by decide
    simp only [f_X8_howMany, c0, if_false, c1, c2, c3, c4, x.reader, Option.bind_some, hr, hs]; rfl
def dgC (T : Nat → Nat) (tn : Nat) : Nat → Int64
  | 0 => 971
  | i + 1 => 31 * dgC T tn i + lN (cnt T tn i)
def dgW (W : Nat → Nat) : Nat → Int64 → Int64
  | 0, x => x
  | i + 1, x => 31 * dgW W i x + lN (W i)
def dgM (T : Nat → Nat) (tn : Nat) : Nat → Int64
  | 0 => dgC T tn 6
  | m + 1 => 31 * (31 * (31 * dgW (tw T m) 6 (dgM T tn m) + lN (T (4 + m))) + lN (T (10 + m))) + (if know T m = true then 1 else 0)
def dgR (T : Nat → Nat) (tn : Nat) (F : Int64 × Int64) : Int64 := 31 * (31 * dgM T tn (T 0) + F.1) + F.2
theorem cnt_lt {T : Nat → Nat} {tn what : Nat} (w : WF T) (ht : tn ≤ 150) : cnt T tn what < 2 ^ 31 := by
  have w0 := w.1
  have w1 := w.2.1
  have w3 := w.2.2.2.1
  have hp := popc_le (T 2)
  have hs := sm_popc (f := fun m => T (10 + m)) (T 0)
  have hq : pairsN T ≤ T 0 * 6 := Nat.le_trans (Nat.div_le_self _ _) hs
  unfold cnt
  split
  · omega
  · split
    · omega
    · split
      · omega
      · split
        · omega
        · split <;> omega
theorem X9_digest_s {h : mj_H} {T : Nat → Nat} {tn : Nat} {F : Int64 × Int64} (n : MN h T) (w : WF T) (ht : tn ≤ 150) (hs : mj_gI h 53 9 4 = some (nI tn)) (hA : mj_gJ h 53 9 5 = some F.1) (hB : mj_gJ h 53 9 6 = some F.2) : f_X9_digest 53 h = some (dgR T tn F, h) := by
  have w0 := w.1
  have t2 := w.t2
  have in46 : ∀ m, m < T 0 → ∀ K33 x, f_X9_digest_46 K33 53 x (nI m) (0 : Int32) h = K33 53 (31 * (31 * (31 * dgW (tw T m) 6 x + lN (T (4 + m))) + lN (T (10 + m))) + (if know T m = true then 1 else 0)) (nI (m + 1)) h := by
    intro m hm K33 x
    have b1 := (w.2.2.2.2.1 m hm).1
    have b2 := w.br hm
    unfold f_X9_digest_46
    refine fix_iter (st := fun i => ((53 : Nat), dgW (tw T m) i x, nI m, nI i, h)) 6 _ (fun i hi K => ?_) (fun K => ?_) 1000 (by decide)
    · have r := n.a (j := 16 + (6 * m + i)) (by omega)
      have v1 : T (16 + (6 * m + i)) = tw T m i := rfl
      rw [v1] at r
      have w1 := w.w hm i hi
      have e1 : (nI (tw T m i)).toInt64 = lN (tw T m i) := lN_toInt64 (by omega)
      show b_X9_digest_46 K33 _ 53 (dgW (tw T m) i x) (nI m) (nI i) h = K (53, 31 * dgW (tw T m) i x + lN (tw T m i), nI m, nI (i + 1), h)
      simp only [b_X9_digest_46, le6 hi, if_false, n.1.now, Option.bind_some, ix3, r, e1, nI_1]
    · have r1 := n.a (j := 4 + m) (by omega)
      have r2 := n.a (j := 10 + m) (by omega)
      have e1 : (nI (T (4 + m))).toInt64 = lN (T (4 + m)) := lN_toInt64 (by omega)
      have e2 : (nI (T (10 + m))).toInt64 = lN (T (10 + m)) := lN_toInt64 (by omega)
      have e3 : ((nI (T 2) >>> (nI m &&& (31 : Int32))) &&& (1 : Int32)).toInt64 = if know T m = true then 1 else 0 := by
        have h1 : T 2 / 2 ^ m < 2 ^ 32 := Nat.lt_of_le_of_lt (Nat.div_le_self _ _) (by omega)
        rw [pk_shrN (by omega) _ m (sh31 m (by omega)), pk_andN h1 1 rfl]
        unfold know
        rw [tb_div]
        have : T 2 / 2 ^ m % 2 = 0 ∨ T 2 / 2 ^ m % 2 = 1 := by omega
        rcases this with q | q
        · rw [show T 2 / 2 ^ m % 2 ^ 1 = 0 from q]; rfl
        · rw [show T 2 / 2 ^ m % 2 ^ 1 = 1 from q]; rfl
      show b_X9_digest_46 K33 _ 53 (dgW (tw T m) 6 x) (nI m) (nI 6) h = _
      simp only [b_X9_digest_46, ge6, if_true, n.1.now, Option.bind_some, show (4 : Int32) = nI 4 from rfl, show (10 : Int32) = nI 10 from rfl, nI_add, r1, r2, n.a2, e1, e2, e3, nI_1]
  have in33 : f_X9_digest_33 53 (dgC T tn 6) (0 : Int32) h = some (dgR T tn F, h) := by
    unfold f_X9_digest_33
    refine fix_iter (st := fun m => ((53 : Nat), dgM T tn m, nI m, h)) (T 0) _ (fun m hm K => ?_) (fun K => ?_) 1000 (by omega)
    · have c1 : ¬ nI (T 0) ≤ nI m := nI_ge hm (by omega)
      have e := in46 m hm (fun v0 v1 v3 h => K (v0, v1, v3, h)) (dgM T tn m)
      show b_X9_digest_33 _ 53 (dgM T tn m) (nI m) h = K (53, dgM T tn (m + 1), nI (m + 1), h)
      simp only [b_X9_digest_33, n.1.now, Option.bind_some, n.a0, c1, if_false]
      exact e
    · have c1 : nI (T 0) ≤ nI (T 0) := Int32.le_refl _
      show b_X9_digest_33 _ 53 (dgM T tn (T 0)) (nI (T 0)) h = _
      simp only [b_X9_digest_33, n.1.now, Option.bind_some, n.a0, c1, if_true, hA, hB]
      rfl
  unfold f_X9_digest f_X9_digest_6
  refine fix_iter (st := fun i => ((53 : Nat), dgC T tn i, nI i, h)) 6 _ (fun i hi K => ?_) (fun K => ?_) 1000 (by decide)
  · have e := X9_counted_s n w hs hi
    have e1 : (nI (cnt T tn i)).toInt64 = lN (cnt T tn i) := lN_toInt64 (cnt_lt w ht)
    show b_X9_digest_6 _ 53 (dgC T tn i) (nI i) h = K (53, 31 * dgC T tn i + lN (cnt T tn i), nI (i + 1), h)
    simp only [b_X9_digest_6, le6 hi, if_false, n.1.ob, if_true, e, Option.bind_some, e1, nI_1]
  · show b_X9_digest_6 _ 53 (dgC T tn 6) (nI 6) h = _
    simp only [b_X9_digest_6, ge6, if_true]
    exact in33
theorem X8_digest_s {h : mj_H} {T : Nat → Nat} {tn : Nat} {F : Int64 × Int64} (x : XG h) (b : BN h 1 T) (w : WF T) (ht : tn ≤ 150) (hp : mj_gI h 7 3 4 = some (nI (T 3))) (hr : mj_gR h 33 4 0 = some 34) (hs : mj_gI h 34 7 1 = some (nI tn)) (hA : mj_gJ h 0 8 9 = some F.1) (hB : mj_gJ h 0 8 10 = some F.2) : f_X8_digest 0 h = some (dgR T tn F, h) := by
  have w0 := w.1
  have in46 : ∀ m, m < T 0 → ∀ K32 z, f_X8_digest_46 K32 0 z (nI m) (0 : Int32) h = K32 0 (31 * (31 * (31 * dgW (tw T m) 6 z + lN (T (4 + m))) + lN (T (10 + m))) + (if know T m = true then 1 else 0)) (nI (m + 1)) h := by
    intro m hm K32 z
    have b1 := (w.2.2.2.2.1 m hm).1
    have b2 := w.br hm
    unfold f_X8_digest_46
    refine fix_iter (st := fun i => ((0 : Nat), dgW (tw T m) i z, nI m, nI i, h)) 6 _ (fun i hi K => ?_) (fun K => ?_) 1000 (by decide)
    · have r := X0_weight_s b hm hi
      show b_X8_digest_46 K32 _ 0 (dgW (tw T m) i z) (nI m) (nI i) h = K (0, 31 * dgW (tw T m) i z + lN (tw T m i), nI m, nI (i + 1), h)
      simp only [b_X8_digest_46, le6 hi, if_false, x.band, Option.bind_some, b.ob, if_true, r, nI_1]
    · have r1 := X0_signsOf_s b hm
      have r2 := X0_brothersOf_s b hm
      have r3 := X0_knows_s b w hm
      have e1 : (nI (T (4 + m))).toInt64 = lN (T (4 + m)) := lN_toInt64 (by omega)
      have e2 : (nI (T (10 + m))).toInt64 = lN (T (10 + m)) := lN_toInt64 (by omega)
      show b_X8_digest_46 K32 _ 0 (dgW (tw T m) 6 z) (nI m) (nI 6) h = _
      simp only [b_X8_digest_46, ge6, if_true, x.band, Option.bind_some, b.ob, r1, r2, r3, e1, e2]
      cases know T m
      · simp only [bi_f, if_true, Bool.false_eq_true, if_false, f_X8_digest_129, nI_1]
        rfl
      · have z1 : ¬ (1 : Int32) = 0 := by decide
        simp only [bi_t, z1, if_true, if_false, f_X8_digest_129, nI_1]
        rfl
  have in32 : f_X8_digest_32 0 (dgC T tn 6) (0 : Int32) h = some (dgR T tn F, h) := by
    unfold f_X8_digest_32
    refine fix_iter (st := fun m => ((0 : Nat), dgM T tn m, nI m, h)) (T 0) _ (fun m hm K => ?_) (fun K => ?_) 1000 (by omega)
    · have c1 : ¬ nI (T 0) ≤ nI m := nI_ge hm (by omega)
      have e := in46 m hm (fun v0 v1 v3 h => K (v0, v1, v3, h)) (dgM T tn m)
      show b_X8_digest_32 _ 0 (dgM T tn m) (nI m) h = K (0, dgM T tn (m + 1), nI (m + 1), h)
      simp only [b_X8_digest_32, x.band, Option.bind_some, b.sz, c1, if_false]
      exact e
    · have c1 : nI (T 0) ≤ nI (T 0) := Int32.le_refl _
      show b_X8_digest_32 _ 0 (dgM T tn (T 0)) (nI (T 0)) h = _
      simp only [b_X8_digest_32, x.band, Option.bind_some, b.sz, c1, if_true, hA, hB]
      rfl
  unfold f_X8_digest f_X8_digest_6
  refine fix_iter (st := fun i => ((0 : Nat), dgC T tn i, nI i, h)) 6 _ (fun i hi K => ?_) (fun K => ?_) 1000 (by decide)
  · have e := X8_howMany_s x b w hp hr hs hi
    have e1 : (nI (cnt T tn i)).toInt64 = lN (cnt T tn i) := lN_toInt64 (cnt_lt w ht)
    have c1 : ¬ (5 : Int32) < nI i := nI_nlt (a := 5) (by omega) (by decide)
    show b_X8_digest_6 _ 0 (dgC T tn i) (nI i) h = K (0, 31 * dgC T tn i + lN (cnt T tn i), nI (i + 1), h)
    simp only [b_X8_digest_6, c1, if_false, x.ob, if_true, e, Option.bind_some, e1, nI_1]
  · have c1 : (5 : Int32) < nI 6 := by decide
    show b_X8_digest_6 _ 0 (dgC T tn 6) (nI 6) h = _
    simp only [b_X8_digest_6, c1, if_true]
    exact in32
