/-! PURE: the model's object, its muster, hold and keep -/
def MG (h : mj_H) : Prop := mj_ob h 53 9 = true ∧ mj_gR h 53 9 0 = some 54 ∧ mj_gR h 53 9 1 = some 55 ∧ mj_gR h 53 9 2 = some 56 ∧ mj_gR h 53 9 3 = some 57 ∧ mj_gR h 53 9 7 = some 58 ∧ mj_gR h 53 9 8 = some 59 ∧ mj_gR h 53 9 14 = some 60 ∧ mj_gR h 53 9 16 = some 61 ∧ mj_gR h 53 9 17 = some 62 ∧ mj_gR h 53 9 18 = some 63 ∧ mj_gR h 53 9 19 = some 64
theorem MG.fr {h h' : mj_H} (g : MG h) (e : h'[53]? = h[53]?) : MG h' := by
  unfold MG mj_ob mj_gR mj_gV at g ⊢
  rw [e]; exact g
theorem MG.set {h : mj_H} {k : Nat} {c : mj_C} (g : MG h) (hk : k ≠ 53) : MG (h.set k c) := g.fr (List.getElem?_set_ne hk)
theorem MG.ob {h : mj_H} (g : MG h) : mj_ob h 53 9 = true := g.1
theorem MG.now {h : mj_H} (g : MG h) : mj_gR h 53 9 0 = some 54 := g.2.1
theorem MG.ways {h : mj_H} (g : MG h) : mj_gR h 53 9 17 = some 62 := g.2.2.2.2.2.2.2.2.2.1
theorem MG.day {h : mj_H} (g : MG h) : mj_gR h 53 9 18 = some 63 := g.2.2.2.2.2.2.2.2.2.2.1
theorem MG.row {h : mj_H} (g : MG h) : mj_gR h 53 9 19 = some 64 := g.2.2.2.2.2.2.2.2.2.2.2
def SC (h : mj_H) : Prop := (∃ w, h[62]? = some (cJ 7 w)) ∧ (∃ g, h[63]? = some (cI 52 g)) ∧ ∃ r, h[64]? = some (cI 3 r)
/-- only the model's scratch rows were written -/
def SX (h h' : mj_H) : Prop := SC h' ∧ ∀ k, k ≠ 62 → k ≠ 63 → k ≠ 64 → h'[k]? = h[k]?
theorem SX.rf {h : mj_H} (s : SC h) : SX h h := ⟨s, fun _ _ _ _ => rfl⟩
theorem SX.tr {h h1 h2 : mj_H} (a : SX h h1) (b : SX h1 h2) : SX h h2 := ⟨b.1, fun k k1 k2 k3 => (b.2 k k1 k2 k3).trans (a.2 k k1 k2 k3)⟩
theorem SX.w {h : mj_H} (s : SC h) (w : Nat → Int64) : SX h (h.set 62 (cJ 7 w)) := by
  obtain ⟨⟨w0, s1⟩, ⟨g, s2⟩, r, s3⟩ := s
  exact ⟨⟨⟨w, get_self s1⟩, ⟨g, get_set s2 (by decide)⟩, r, get_set s3 (by decide)⟩, fun k k1 k2 k3 => List.getElem?_set_ne (by omega)⟩
theorem SX.d {h : mj_H} (s : SC h) (w : Nat → Int32) : SX h (h.set 63 (cI 52 w)) := by
  obtain ⟨⟨w0, s1⟩, ⟨g, s2⟩, r, s3⟩ := s
  exact ⟨⟨⟨w0, get_set s1 (by decide)⟩, ⟨w, get_self s2⟩, r, get_set s3 (by decide)⟩, fun k k1 k2 k3 => List.getElem?_set_ne (by omega)⟩
theorem SX.r {h : mj_H} (s : SC h) (w : Nat → Int32) : SX h (h.set 64 (cI 3 w)) := by
  obtain ⟨⟨w0, s1⟩, ⟨g, s2⟩, r, s3⟩ := s
  exact ⟨⟨⟨w0, get_set s1 (by decide)⟩, ⟨g, get_set s2 (by decide)⟩, w, get_self s3⟩, fun k k1 k2 k3 => List.getElem?_set_ne (by omega)⟩
/-- the model tells the muster T -/
def MN (h : mj_H) (T : Nat → Nat) : Prop := MG h ∧ (∃ f, h[54]? = some (cI 356 f) ∧ ∀ j, j < 356 → f j = nI (T j)) ∧ SC h
theorem MN.sx {h h' : mj_H} {T : Nat → Nat} (m : MN h T) (s : SX h h') : MN h' T := by
  obtain ⟨m1, ⟨f, m2, m3⟩, m4⟩ := m
  exact ⟨m1.fr (s.2 53 (by decide) (by decide) (by decide)), ⟨f, by rw [s.2 54 (by decide) (by decide) (by decide)]; exact m2, m3⟩, s.1⟩
theorem MN.a {h : mj_H} {T : Nat → Nat} (m : MN h T) {j : Nat} (hj : j < 356) : mj_aI h 54 (nI j) = some (nI (T j)) := by
  obtain ⟨m1, ⟨f, m2, m3⟩, m4⟩ := m
  rw [aI_r m2 hj (by decide), m3 j hj]
theorem MN.a0 {h : mj_H} {T : Nat → Nat} (m : MN h T) : mj_aI h 54 (0 : Int32) = some (nI (T 0)) := m.a (j := 0) (by decide)
theorem MN.a1 {h : mj_H} {T : Nat → Nat} (m : MN h T) : mj_aI h 54 (1 : Int32) = some (nI (T 1)) := m.a (j := 1) (by decide)
theorem MN.a2 {h : mj_H} {T : Nat → Nat} (m : MN h T) : mj_aI h 54 (2 : Int32) = some (nI (T 2)) := m.a (j := 2) (by decide)
theorem MN.a3 {h : mj_H} {T : Nat → Nat} (m : MN h T) : mj_aI h 54 (3 : Int32) = some (nI (T 3)) := m.a (j := 3) (by decide)
theorem MN.man {h : mj_H} {T : Nat → Nat} (m : MN h T) (w : WF T) (x : Int32) : f_X9_isMan 53 x h = some (bi (mj_ok x (T 0)), h) := by
  obtain ⟨m1, ⟨f, m2, m3⟩, m4⟩ := m
  exact X9_isMan_s m1.now m2 (m3 0 (by decide)) w.1 x
theorem MN.men {h : mj_H} {T : Nat → Nat} (m : MN h T) (w : WF T) (x : Int32) : f_X9_areMen 53 x h = some (bi (mj_ok x (2 ^ T 0)), h) := by
  obtain ⟨m1, ⟨f, m2, m3⟩, m4⟩ := m
  exact X9_areMen_s m1.now m2 (m3 0 (by decide)) w.1 x
theorem MN.trust {h : mj_H} {T : Nat → Nat} (n : MN h T) (w : WF T) {m : Nat} (hm : m < T 0) : f_X9_trustOn 54 (nI m) h = some (nI (trust T m), h) := by
  obtain ⟨m1, ⟨f, m2, m3⟩, m4⟩ := n
  exact X9_trustA m2 (by decide) (by decide) w (fun j hj _ => m3 j hj) hm
theorem MN.share {h : mj_H} {T : Nat → Nat} (n : MN h T) (w : WF T) {m : Nat} (hm : m < T 0) {what : Nat} (hwh : what < 4) (rr : Bool) : f_X9_shareOf 54 (nI m) (nI what) (bi rr) h = some (nI (share (tw T m) what rr), h) := by
  obtain ⟨m1, ⟨f, m2, m3⟩, m4⟩ := n
  exact X9_shareA m2 (by decide) (by decide) w (fun j hj _ => m3 j hj) hm hwh rr
theorem hsum_lo {d : Nat → Nat} {j : Nat} : ∀ {n : Nat}, n ≤ j → hsum d j n = 0
  | 0, _ => rfl
  | n + 1, h => by rw [hsum, hsum_lo (by omega), if_neg (by omega)]
theorem X9_holdOn_132_s {h : mj_H} {w : Nat → Int64} {d : Nat → Nat} {j : Nat} (mg : MG h) (hw : h[62]? = some (cJ 7 w)) (e : ∀ k, k < 7 → w k = lN (d k)) (hj : j ≤ 6) : f_X9_holdOn_132 53 (0 : Int64) (nI j) h = some (lN (hsum d j 7), h) := by
  unfold f_X9_holdOn_132
  have h0 : ((53 : Nat), (0 : Int64), nI j, h) = (fun i => (53, lN (hsum d j (j + i)), nI (j + i), h)) 0 := by
    show _ = (53, lN (hsum d j (j + 0)), nI (j + 0), h)
    rw [Nat.add_zero, hsum_lo (Nat.le_refl _)]; rfl
  rw [h0]
  refine fix_iter (st := fun i => ((53 : Nat), lN (hsum d j (j + i)), nI (j + i), h)) (7 - j) _ (fun i hi K => ?_) (fun K => ?_) 1000 (by omega)
  · have c1 : ¬ (7 : Int32) ≤ nI (j + i) := nI_ge (b := 7) (by omega) (by decide)
    have c2 : j ≤ j + i := by omega
    show b_X9_holdOn_132 _ 53 _ _ h = K (53, lN (hsum d j (j + i + 1)), nI (j + i + 1), h)
    simp [b_X9_holdOn_132, c1, mg.ways, aJ_r hw (show j + i < 7 by omega) (by decide), e (j + i) (by omega), lN_add, hsum, nI_1]
  · have e7 : j + (7 - j) = 7 := by omega
    show b_X9_holdOn_132 _ 53 (lN (hsum d j (j + (7 - j)))) (nI (j + (7 - j))) h = _
    rw [e7]
    have c1 : (7 : Int32) ≤ nI 7 := by decide
    simp [b_X9_holdOn_132, c1]
def wI (w : Nat → Int64) (d : Nat → Nat) (t i : Nat) : Nat → Int64 := fun k => if k < 7 ∧ 7 ≤ k + i then lN (dpS d t k) else w k
theorem wI_up (w : Nat → Int64) (d : Nat → Nat) (t k : Nat) (hk : k < 7) : vp_updL (wI w d t (6 - k)) k (lN (dpS d t k)) = wI w d t (6 - k + 1) := by
  funext x
  by_cases z : x = k
  · subst z; rw [pk_uLs, wI, if_pos (by omega)]
  · rw [pk_uLn z, wI, wI]
    by_cases z2 : x < 7 ∧ 7 ≤ x + (6 - k)
    · rw [if_pos z2, if_pos (by omega)]
    · rw [if_neg z2, if_neg (by omega)]
def mI (i : Nat) : Int32 := if i ≤ 6 then nI (6 - i) else -1
theorem X9_holdOn_65_s {h : mj_H} {a : Nat} {men j m : Int32} {w : Nat → Int64} {d : Nat → Nat} {t : Nat} (mg : MG h) (o2 : h[62]? = some (cJ 7 w)) (e : ∀ k, k < 7 → w k = lN (d k)) (ht : t ≤ 60) (K36 : Nat → Nat → Int32 → Int32 → Int32 → mj_H → Option (Int64 × mj_H)) : f_X9_holdOn_65 K36 53 a men j m (nI t) (6 : Int32) h = K36 53 a men j (m + (1 : Int32)) (h.set 62 (cJ 7 (wI w d t 7))) := by
  have e1 : ((60 : Int32) - nI t).toInt64 = lN (60 - t) := by
    rw [show (60 : Int32) = nI 60 from rfl, pk_sub ht]; exact lN_toInt64 (by omega)
  have e2 : (nI t).toInt64 = lN t := lN_toInt64 (by omega)
  unfold f_X9_holdOn_65
  have w0 : wI w d t 0 = w := by
    funext k; rw [wI, if_neg (by omega)]
  have h0 : ((53 : Nat), a, men, j, m, nI t, (6 : Int32), h) = (fun i => (53, a, men, j, m, nI t, mI i, h.set 62 (cJ 7 (wI w d t i)))) 0 := by
    show _ = (53, a, men, j, m, nI t, mI 0, h.set 62 (cJ 7 (wI w d t 0)))
    rw [w0, set_same o2]; rfl
  rw [h0]
  refine fix_iter (st := fun i => ((53 : Nat), a, men, j, m, nI t, mI i, h.set 62 (cJ 7 (wI w d t i)))) 7 _ (fun i hi K => ?_) (fun K => ?_) 1000 (by decide)
  · obtain ⟨k, hk⟩ : ∃ k, k = 6 - i := ⟨_, rfl⟩
    have hik : i = 6 - k := by omega
    subst hik
    have mg1 := mg.set (k := 62) (c := cJ 7 (wI w d t (6 - k))) (by decide)
    have g2 := get_self (c := cJ 7 (wI w d t (6 - k))) o2
    have a1 : wI w d t (6 - k) k = lN (d k) := by rw [wI, if_neg (by omega)]; exact e k (by omega)
    have e6 : mI (6 - k) = nI k := by rw [mI, if_pos (by omega), show 6 - (6 - k) = k by omega]
    have u := wI_up w d t k (by omega)
    have c1 : ¬ nI k < (0 : Int32) := nI_pos (by omega)
    have r1 := aJ_r g2 (show k < 7 by omega) (by decide)
    have r2 := fun x => uJ_r x g2 (show k < 7 by omega) (by decide)
    show b_X9_holdOn_65 K36 _ 53 a men j m (nI t) (mI (6 - k)) (h.set 62 (cJ 7 (wI w d t (6 - k)))) = K (53, a, men, j, m, nI t, mI (6 - k + 1), h.set 62 (cJ 7 (wI w d t (6 - k + 1))))
    rw [e6]
    match k, hk, a1, u, c1, r1, r2, mg1, g2 with
    | 0, hk, a1, u, c1, r1, r2, mg1, g2 =>
      have c2 : nI 0 ≤ (0 : Int32) := by decide
      have m1 : mI (6 - 0 + 1) = nI 0 + (-1 : Int32) := rfl
      have s0 : dpS d t 0 = d 0 * (60 - t) := rfl
      rw [s0] at u
      rw [m1, ← u]
      simp only [b_X9_holdOn_65, c1, if_false, mg1.ways, Option.bind_some, r1, c2, if_true, f_X9_holdOn_112, a1, e1, lN_mul, r2, List.set_set, l0, lN_add, Nat.add_zero]
    | k + 1, hk, a1, u, c1, r1, r2, mg1, g2 =>
      have c2 : ¬ nI (k + 1) ≤ (0 : Int32) := nI_nle (by omega) (by omega)
      have m1 : mI (6 - (k + 1) + 1) = nI (k + 1) + (-1 : Int32) := by
        rw [pk_m1, mI, if_pos (by omega), show 6 - (6 - (k + 1) + 1) = k by omega]
      have s0 : dpS d t (k + 1) = d (k + 1) * (60 - t) + d k * t := rfl
      have a2 : wI w d t (6 - (k + 1)) k = lN (d k) := by rw [wI, if_neg (by omega)]; exact e k (by omega)
      have r3 := aJ_r g2 (show k < 7 by omega) (by decide)
      rw [s0] at u
      rw [m1, ← u]
      simp only [b_X9_holdOn_65, c1, if_false, mg1.ways, Option.bind_some, r1, c2, f_X9_holdOn_112, a1, e1, lN_mul, r2, List.set_set, lN_add, nI_pred, r3, a2, e2]
  · have c1 : mI 7 < (0 : Int32) := by decide
    show b_X9_holdOn_65 K36 _ 53 a men j m (nI t) (mI 7) (h.set 62 (cJ 7 (wI w d t 7))) = _
    simp only [b_X9_holdOn_65, c1, if_true, f_X9_holdOn_120]
theorem trust_le (T : Nat → Nat) (m : Nat) : trust T m ≤ 60 := share_le (by decide)
theorem X9_holdOn_s {h : mj_H} {a n : Nat} {f : Nat → Int32} {T : Nat → Nat} {men j : Nat} (mg : MG h) (sc : ∃ w, h[62]? = some (cJ 7 w)) (ha : h[a]? = some (cI n f)) (da : 62 ≠ a) (hn : 52 ≤ n) (hn2 : n < 2 ^ 31) (w : WF T) (e : AT n f T) (hm : men < 64) (hj : j ≤ 6) : ∃ w', f_X9_holdOn 53 a (nI men) (nI j) h = some (lN (holdN (trust T) men j (T 0)), h.set 62 (cJ 7 w')) := by
  have w0 := w.1
  obtain ⟨wv, hw⟩ := sc
  have mid : ∀ w0 : Nat → Int64, (∀ k, k < 7 → w0 k = lN (dp0 k)) → ∃ w', f_X9_holdOn_36 53 a (nI men) (nI j) (0 : Int32) (h.set 62 (cJ 7 w0)) = some (lN (holdN (trust T) men j (T 0)), h.set 62 (cJ 7 w')) := by
    intro w0 hw0
    have key := fix_inv (F := fun (K36 : (Nat × Nat × Int32 × Int32 × Int32 × mj_H) → Option (Int64 × mj_H)) (s : Nat × Nat × Int32 × Int32 × Int32 × mj_H) => b_X9_holdOn_36 (fun v0 v1 v2 v3 v4 h => K36 (v0, v1, v2, v3, v4, h)) s.1 s.2.1 s.2.2.1 s.2.2.2.1 s.2.2.2.2.1 s.2.2.2.2.2)
      (fun i s => ∃ w1, s = (53, a, nI men, nI j, nI i, h.set 62 (cJ 7 w1)) ∧ ∀ k, k < 7 → w1 k = lN (dp (trust T) men i k))
      (fun r => ∃ w', r = (lN (holdN (trust T) men j (T 0)), h.set 62 (cJ 7 w'))) (T 0) (fun i hi s hs => ?_) (fun s hs => ?_) 1000 (by omega) (53, a, nI men, nI j, nI 0, h.set 62 (cJ 7 w0)) ⟨w0, rfl, hw0⟩
    · obtain ⟨r, k1, w', rfl⟩ := key
      exact ⟨w', k1⟩
    · obtain ⟨w1, rfl, hw1⟩ := hs
      refine Or.inl ?_
      have mg1 := mg.set (k := 62) (c := cJ 7 w1) (by decide)
      have ga := get_set (c := cJ 7 w1) ha da
      have g2 := get_self (c := cJ 7 w1) hw
      have r0 := aI_r ga (show 0 < n by omega) hn2
      rw [show nI 0 = (0 : Int32) from rfl, e 0 (by omega) (by omega)] at r0
      have c1 : ¬ nI (T 0) ≤ nI i := nI_ge hi (by omega)
      have hh := X9_has_s (s := men) (m := i) (by omega) (by omega) (h.set 62 (cJ 7 w1))
      by_cases q : men.testBit i = true
      · have ht := X9_trustA ga hn hn2 w e hi
        have hr := X9_holdOn_65_s (a := a) (men := nI men) (j := nI j) (m := nI i) mg1 g2 hw1 (trust_le T i)
        rw [List.set_set] at hr
        refine ⟨_, ⟨wI w1 (dp (trust T) men i) (trust T i) 7, rfl, fun k hk => ?_⟩, fun K => ?_⟩
        · rw [wI, if_pos (by omega), dp, if_pos q]
        · rw [q] at hh
          have := hr (fun v0 v1 v2 v3 v4 h => K (v0, v1, v2, v3, v4, h))
          simp only [b_X9_holdOn_36, r0, Option.bind_some, c1, if_false, hh, bi_t, ht]
          rw [nI_1] at this
          exact this
      · have q' : men.testBit i = false := by cases z : men.testBit i; rfl; exact absurd z q
        refine ⟨_, ⟨w1, rfl, fun k hk => ?_⟩, fun K => ?_⟩
        · rw [dp, if_neg q]; exact hw1 k hk
        · rw [q'] at hh
          simp only [b_X9_holdOn_36, r0, Option.bind_some, c1, if_false, hh, bi_f, if_true, f_X9_holdOn_120, nI_1]
    · obtain ⟨w1, rfl, hw1⟩ := hs
      have mg1 := mg.set (k := 62) (c := cJ 7 w1) (by decide)
      have ga := get_set (c := cJ 7 w1) ha da
      have g2 := get_self (c := cJ 7 w1) hw
      have r0 := aI_r ga (show 0 < n by omega) hn2
      rw [show nI 0 = (0 : Int32) from rfl, e 0 (by omega) (by omega)] at r0
      have c1 : nI (T 0) ≤ nI (T 0) := Int32.le_refl _
      have fin := X9_holdOn_132_s mg1 g2 hw1 hj
      refine ⟨_, ⟨w1, rfl⟩, fun K => ?_⟩
      simp only [b_X9_holdOn_36, r0, Option.bind_some, c1, if_true]
      exact fin
  obtain ⟨w', hm2⟩ := mid (fill (fun k => lN (dp0 k)) wv 7) (fun k hk => by rw [fill_in hk])
  refine ⟨w', ?_⟩
  rw [← hm2]
  unfold f_X9_holdOn f_X9_holdOn_3
  have h0 : ((53 : Nat), a, nI men, nI j, (0 : Int32), h) = (fun i => (53, a, nI men, nI j, nI i, h.set 62 (cJ 7 (fill (fun k => lN (dp0 k)) wv i)))) 0 := by
    simp only [fill_0, set_same hw]; rfl
  rw [h0]
  refine fix_iter (st := fun i => ((53 : Nat), a, nI men, nI j, nI i, h.set 62 (cJ 7 (fill (fun k => lN (dp0 k)) wv i)))) 7 _ (fun i hi K => ?_) (fun K => ?_) 1000 (by decide)
  · have mg1 := mg.set (k := 62) (c := cJ 7 (fill (fun k => lN (dp0 k)) wv i)) (by decide)
    have g2 := get_self (c := cJ 7 (fill (fun k => lN (dp0 k)) wv i)) hw
    have c1 : ¬ (7 : Int32) ≤ nI i := nI_ge (b := 7) hi (by decide)
    have u := fill_J (fun k => lN (dp0 k)) wv i
    have r2 := fun x => uJ_r x g2 hi (by decide)
    show b_X9_holdOn_3 _ 53 a (nI men) (nI j) (nI i) _ = K (53, a, nI men, nI j, nI (i + 1), h.set 62 (cJ 7 (fill (fun k => lN (dp0 k)) wv (i + 1))))
    rw [← u]
    by_cases z : i = 0
    · subst z
      have c2 : nI 0 = (0 : Int32) := rfl
      simp only [b_X9_holdOn_3, c1, if_false, mg1.ways, Option.bind_some, f_X9_holdOn_26, r2, List.set_set, nI_1]
      rw [if_pos c2]
      rfl
    · have c2 := nI_ne0 (show 0 < i by omega) (show i < 2 ^ 31 by omega)
      have e0 : lN (dp0 i) = (0 : Int64) := by rw [dp0, if_neg z]; rfl
      simp only [b_X9_holdOn_3, c1, if_false, mg1.ways, Option.bind_some, f_X9_holdOn_26, r2, List.set_set, nI_1, c2, e0]
  · have c1 : (7 : Int32) ≤ nI 7 := by decide
    show b_X9_holdOn_3 _ 53 a (nI men) (nI j) (nI 7) _ = _
    simp only [b_X9_holdOn_3, c1, if_true]
theorem m1_cbM {F : Nat → Nat} {k n : Nat} (hB : ∀ x, F x < 2 ^ 60) : (-1 : Int64) ≤ cbM (cb F k n) := by
  cases h : cb F k n with
  | none => exact Int64.le_refl _
  | some p =>
    obtain ⟨b, m⟩ := p
    have := (cb_at h).2
    have := hB b
    show (-1 : Int64) ≤ lN m
    rw [Int64.le_iff_toInt_le, pk_lT (by omega), show (-1 : Int64).toInt = -1 from rfl]
    omega
theorem X9_keepOn_s {h : mj_H} {a n : Nat} {f : Nat → Int32} {T : Nat → Nat} {k j : Nat} (mg : MG h) (sc : ∃ w, h[62]? = some (cJ 7 w)) (ha : h[a]? = some (cI n f)) (da : 62 ≠ a) (hn : 52 ≤ n) (hn2 : n < 2 ^ 31) (w : WF T) (e : AT n f T) (hk : k ≤ 6) (hj : j ≤ 6) : ∃ w', f_X9_keepOn 53 a (nI k) (nI j) h = some (cbB (-1) (cb (fun men => holdN (trust T) men j (T 0)) k (2 ^ T 0)), h.set 62 (cJ 7 w')) := by
  have w0 := w.1
  have hp := pow6 w0
  obtain ⟨wv, hw⟩ := sc
  obtain ⟨F, hF⟩ : ∃ F, F = fun men => holdN (trust T) men j (T 0) := ⟨_, rfl⟩
  have hB : ∀ x, F x < 2 ^ 60 := fun x => by
    have := holdN_le (trust_le T) (men := x) (j := j) w0
    subst hF; show holdN (trust T) x j (T 0) < 2 ^ 60; omega
  rw [← hF]
  have key := fix_inv (F := fun (K11 : (Nat × Nat × Int32 × Int32 × Int32 × Int64 × Int32 × mj_H) → Option (Int32 × mj_H)) (s : Nat × Nat × Int32 × Int32 × Int32 × Int64 × Int32 × mj_H) => b_X9_keepOn_11 (fun v0 v1 v2 v3 v4 v5 v7 h => K11 (v0, v1, v2, v3, v4, v5, v7, h)) s.1 s.2.1 s.2.2.1 s.2.2.2.1 s.2.2.2.2.1 s.2.2.2.2.2.1 s.2.2.2.2.2.2.1 s.2.2.2.2.2.2.2)
    (fun i s => ∃ w1, s = (53, a, nI k, nI j, cbB (-1) (cb F k i), cbM (cb F k i), nI i, h.set 62 (cJ 7 w1)))
    (fun r => ∃ w', r = (cbB (-1) (cb F k (2 ^ T 0)), h.set 62 (cJ 7 w'))) (2 ^ T 0) (fun i hi s hs => ?_) (fun s hs => ?_) 1000 (by omega) (53, a, nI k, nI j, (-1 : Int32), (-1 : Int64), (0 : Int32), h) ⟨wv, by rw [set_same hw]; rfl⟩
  · obtain ⟨r, k1, w', rfl⟩ := key
    exact ⟨w', k1⟩
  · obtain ⟨w1, rfl⟩ := hs
    refine Or.inl ?_
    have mg1 := mg.set (k := 62) (c := cJ 7 w1) (by decide)
    have ga := get_set (c := cJ 7 w1) ha da
    have g2 := get_self (c := cJ 7 w1) hw
    have r0 := aI_r ga (show 0 < n by omega) hn2
    rw [show nI 0 = (0 : Int32) from rfl, e 0 (by omega) (by omega)] at r0
    have c1 : ¬ nI (2 ^ T 0) ≤ nI i := nI_ge hi (by omega)
    have sh := shl1 (show T 0 < 31 by omega)
    have hb := X9_bits_s (show i < 64 by omega) (h.set 62 (cJ 7 w1))
    have hpk := popc_le i
    have ceq : (nI (popc i) = nI k) ↔ popc i = k := nI_eq (by omega) (by omega)
    by_cases q : popc i = k
    · obtain ⟨w2, hh⟩ := X9_holdOn_s (men := i) (j := j) mg1 ⟨w1, g2⟩ ga da hn hn2 w e (by omega) hj
      rw [List.set_set] at hh
      have hFi : holdN (trust T) i j (T 0) = F i := by subst hF; rfl
      rw [hFi] at hh
      have upd1 : ∀ z y, ¬ lN (F i) ≤ z → b_X9_keepOn_11 = b_X9_keepOn_11 → ∀ K : (Nat × Nat × Int32 × Int32 × Int32 × Int64 × Int32 × mj_H) → Option (Int32 × mj_H), b_X9_keepOn_11 (fun v0 v1 v2 v3 v4 v5 v7 h => K (v0, v1, v2, v3, v4, v5, v7, h)) 53 a (nI k) (nI j) y z (nI i) (h.set 62 (cJ 7 w1)) = K (53, a, nI k, nI j, nI i, lN (F i), nI (i + 1), h.set 62 (cJ 7 w2)) := by
        intro z y hz _ K
        simp only [b_X9_keepOn_11, r0, Option.bind_some, sh, c1, if_false, hb, ceq, q, if_true, mg1.ob, hh, f_X9_keepOn_44, hz, f_X9_keepOn_61, f_X9_keepOn_78, nI_1]
      cases hcb : cb F k i with
      | none =>
        have e1 : cb F k (i + 1) = some (i, F i) := by simp [cb, q, hcb]
        exact ⟨_, ⟨w2, by rw [e1]; rfl⟩, fun K => upd1 _ _ (lN_m1 (by have := hB i; omega)) rfl K⟩
      | some p =>
        obtain ⟨b, m⟩ := p
        obtain ⟨hb1, hb2⟩ := cb_at hcb
        have hb3 := hB b
        have hb4 := hB i
        by_cases q2 : m < F i
        · have e1 : cb F k (i + 1) = some (i, F i) := by simp [cb, q, hcb, q2]
          exact ⟨_, ⟨w2, by rw [e1]; rfl⟩, fun K => upd1 _ _ (by show ¬ lN (F i) ≤ lN m; rw [lle (by omega) (by omega)]; omega) rfl K⟩
        · have e1 : cb F k (i + 1) = some (b, m) := by simp [cb, q, hcb, q2]
          have hle : lN (F i) ≤ lN m := by rw [lle (by omega) (by omega)]; omega
          refine ⟨_, ⟨w2, by rw [e1]⟩, fun K => ?_⟩
          show b_X9_keepOn_11 _ 53 a (nI k) (nI j) (nI b) (lN m) (nI i) (h.set 62 (cJ 7 w1)) = K (53, a, nI k, nI j, nI b, lN m, nI (i + 1), h.set 62 (cJ 7 w2))
          simp only [b_X9_keepOn_11, r0, Option.bind_some, sh, c1, if_false, hb, ceq, q, if_true, mg1.ob, hh, f_X9_keepOn_44, hle, f_X9_keepOn_61, f_X9_keepOn_78, nI_1]
    · have e1 : cb F k (i + 1) = cb F k i := by simp [cb, q]
      have hle := m1_cbM (k := k) (n := i) hB
      refine ⟨_, ⟨w1, rfl⟩, fun K => ?_⟩
      rw [e1]
      simp only [b_X9_keepOn_11, r0, Option.bind_some, sh, c1, if_false, hb, ceq, q, f_X9_keepOn_44, hle, if_true, f_X9_keepOn_61, f_X9_keepOn_78, nI_1]
  · obtain ⟨w1, rfl⟩ := hs
    have ga := get_set (c := cJ 7 w1) ha da
    have r0 := aI_r ga (show 0 < n by omega) hn2
    rw [show nI 0 = (0 : Int32) from rfl, e 0 (by omega) (by omega)] at r0
    have c1 : nI (2 ^ T 0) ≤ nI (2 ^ T 0) := Int32.le_refl _
    have sh := shl1 (show T 0 < 31 by omega)
    refine ⟨_, ⟨w1, rfl⟩, fun K => ?_⟩
    simp only [b_X9_keepOn_11, r0, Option.bind_some, sh, c1, if_true]
