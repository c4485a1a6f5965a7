/-! PURE: the model's day, worth, fraction -/
theorem X9_layDay_s {h : mj_H} {T : Nat → Nat} (n : MN h T) : ∃ g, f_X9_layDay 53 h = some (h.set 63 (cI 52 g)) ∧ AT 52 g T ∧ g 1 = nI (T 1) := by
  obtain ⟨m1, ⟨f, m2, m3⟩, ⟨w0, s1⟩, ⟨g, s2⟩, r, s3⟩ := n
  have c := X9_copies_s (s := 0) (d := 0) (c := 52) m2 s2 (by decide) (by decide) (by decide) (by decide) (by decide) (by decide)
  rw [show nI 0 = (0 : Int32) from rfl, show nI 52 = (52 : Int32) from rfl] at c
  refine ⟨fill2 (fun k => f (0 + k)) g 0 52, ?_, fun j hj _ => ?_, ?_⟩
  · simp only [f_X9_layDay, m1.now, m1.day, Option.bind_some, c]
  · show fill2 (fun k => f (0 + k)) g 0 52 j = _
    rw [fill2_in (by omega) (by omega)]
    show f (0 + (j - 0)) = _
    rw [show 0 + (j - 0) = j by omega]; exact m3 j (by omega)
  · show fill2 (fun k => f (0 + k)) g 0 52 1 = _
    rw [fill2_in (by omega) (by omega)]
    exact m3 1 (by decide)
theorem AT.of {n : Nat} {f : Nat → Int32} {T : Nat → Nat} (h : ∀ j, j < n → f j = nI (T j)) : AT n f T := fun j hj _ => h j hj
theorem X9_behind_s {h : mj_H} {T : Nat → Nat} (n : MN h T) (w : WF T) {m test k j : Nat} (hm : m < T 0) (ht : test < 3) (shown : Bool) (hk : k ≤ T 0) (hj : j ≤ 6) : ∃ h', f_X9_behind 53 (nI m) (nI test) (bi shown) (nI k) (nI j) h = some (vN (trb T m test shown) (T 0) k j, h') ∧ SX h h' := by
  have w0 := w.1
  obtain ⟨g, e1, e2, e3⟩ := X9_layDay_s n
  obtain ⟨n1, -, sc⟩ := n
  have sx1 := SX.d sc g
  have mg1 := n1.set (k := 63) (c := cI 52 g) (by decide)
  have g1 := get_self (c := cI 52 g) sc.2.1.choose_spec
  obtain ⟨g2, i1, i2, i3⟩ := X9_tests_s g1 (by decide) (by decide) w e2 hm ht shown
  rw [List.set_set] at i1
  have sx2 := SX.d sc g2
  have mg2 := n1.set (k := 63) (c := cI 52 g2) (by decide)
  have gd2 := get_self (c := cI 52 g2) sc.2.1.choose_spec
  have w2 := w.tests hm ht shown
  obtain ⟨w3, j1⟩ := X9_keepOn_s (k := k) (j := j) mg2 sx2.1.1 gd2 (by decide) (by decide) (by decide) w2 i2 (by omega) hj
  rw [testT_0] at j1
  have cc : cb (fun men => holdN (trust (testT T m test shown)) men j (T 0)) k (2 ^ T 0) = cb (fun men => holdN (trb T m test shown) men j 6) k (2 ^ T 0) := cb_congr (fun x hx => hold_beh hx w0)
  obtain ⟨b, mm, c1, c2, c3⟩ := cb_ex (f := fun men => holdN (trb T m test shown) men j 6) hk w0
  rw [cc, c1] at j1
  have hp := pow6 w0
  have sx3 := sx2.tr (SX.w sx2.1 w3)
  have mg3 := mg2.set (k := 62) (c := cJ 7 w3) (by decide)
  have gd3 := get_set (c := cJ 7 w3) gd2 (show 62 ≠ 63 by decide)
  obtain ⟨w4, l1⟩ := X9_holdOn_s (men := b) (j := j) mg3 sx3.1.1 gd3 (by decide) (by decide) (by decide) w2 i2 (by omega) hj
  rw [testT_0, hold_beh c2 w0] at l1
  refine ⟨_, ?_, sx3.tr (SX.w sx3.1 w4)⟩
  have vv : vN (trb T m test shown) (T 0) k j = lN (holdN (trb T m test shown) b j 6) := by
    unfold vN; rw [c1, c3]; rfl
  rw [vv]
  simp only [f_X9_behind, n1.ob, if_true, e1, Option.bind_some, mg1.day, i1, mg2.day, mg2.ob, j1, cbB, mg3.ob, l1]
theorem X9_showsOn_s {h : mj_H} {T : Nat → Nat} (n : MN h T) (w : WF T) {m test : Nat} (hm : m < T 0) (ht : test < 3) : f_X9_showsOn 53 (nI m) (nI test) h = some (nI (showsN T m test), h) := by
  have w0 := w.1
  have t2 := w.t2
  have s := n.share w hm (show test < 4 by omega) (know T m)
  have hh := X9_has_s (s := T 2) (m := m) (by omega) (by omega) h
  have hk : know T m = (T 2).testBit m := rfl
  rw [hk] at s
  simp only [f_X9_showsOn, n.1.now, Option.bind_some, n.a2, hh, s]
  rfl
theorem showsN_le (T : Nat → Nat) {m test : Nat} (ht : test < 3) : showsN T m test ≤ 60 := share_le (by omega)
theorem keep_hold {h : mj_H} {T : Nat → Nat} (n : MN h T) (w : WF T) {k j : Nat} (hk : k ≤ T 0) (hj : j ≤ 6) : ∃ p h', f_X9_keepOn 53 54 (nI k) (nI j) h = some (p, h') ∧ MG h' ∧ ∃ h2, f_X9_holdOn 53 54 p (nI j) h' = some (vN (trs T) (T 0) k j, h2) ∧ SX h h2 := by
  have w0 := w.1
  have hp := pow6 w0
  obtain ⟨n1, ⟨f, n2, n3⟩, sc⟩ := n
  obtain ⟨w3, j1⟩ := X9_keepOn_s (k := k) (j := j) n1 sc.1 n2 (by decide) (by decide) (by decide) w (AT.of n3) (by omega) hj
  have cc : cb (fun men => holdN (trust T) men j (T 0)) k (2 ^ T 0) = cb (fun men => holdN (trs T) men j 6) k (2 ^ T 0) := cb_congr (fun x hx => hold_now hx w0)
  obtain ⟨b, mm, c1, c2, c3⟩ := cb_ex (f := fun men => holdN (trs T) men j 6) hk w0
  rw [cc, c1] at j1
  have sx3 := SX.w sc w3
  have mg3 := n1.set (k := 62) (c := cJ 7 w3) (by decide)
  have gd3 := get_set (c := cJ 7 w3) n2 (show 62 ≠ 54 by decide)
  obtain ⟨w4, l1⟩ := X9_holdOn_s (men := b) (j := j) mg3 sx3.1.1 gd3 (by decide) (by decide) (by decide) w (AT.of n3) (by omega) hj
  rw [hold_now c2 w0] at l1
  have vv : vN (trs T) (T 0) k j = lN (holdN (trs T) b j 6) := by
    unfold vN; rw [c1, c3]; rfl
  rw [vv]
  exact ⟨_, _, j1, mg3, _, l1, sx3.tr (SX.w sx3.1 w4)⟩
theorem X9_worthOf_s {h : mj_H} {T : Nat → Nat} (n : MN h T) (w : WF T) {m test k j : Nat} (hm : m < T 0) (ht : test < 3) (hk : k ≤ T 0) (hj : j ≤ 6) : ∃ h', f_X9_worthOf 53 (nI m) (nI test) (nI k) (nI j) h = some (wN T m test k j, h') ∧ SX h h' := by
  have s1 := X9_showsOn_s n w hm ht
  have hsh := showsN_le T (m := m) ht
  obtain ⟨h1, b1, x1⟩ := X9_behind_s n w hm ht true hk hj
  have n1 := n.sx x1
  obtain ⟨h2, b2, x2⟩ := X9_behind_s n1 w hm ht false hk hj
  have n2 := n1.sx x2
  obtain ⟨p, h3, k1, k2, h4, k3, k4⟩ := keep_hold n2 w hk hj
  have e1 : (nI (showsN T m test)).toInt64 = lN (showsN T m test) := lN_toInt64 (by omega)
  have e2 : ((60 : Int32) - nI (showsN T m test)).toInt64 = lN (60 - showsN T m test) := by
    rw [show (60 : Int32) = nI 60 from rfl, pk_sub hsh]; exact lN_toInt64 (by omega)
  refine ⟨h4, ?_, (x1.tr x2).tr k4⟩
  rw [bi_t] at b1
  rw [bi_f] at b2
  simp only [f_X9_worthOf, n.1.ob, if_true, s1, Option.bind_some, b1, n1.1.ob, b2, n2.1.ob, n2.1.now, k1, k2.ob, k3, e1, e2]
  rfl
/-! fraction -/
theorem X9_frac_loop {h : mj_H} {fs : List Value} {u l : Int64} (hl : fs.length = 20) (o : h[53]? = some (cO 9 fs)) : ∀ (n a b fu : Nat), a < 2 ^ 62 → b < 2 ^ 62 → b < 2 ^ n → 2 * n + 1 < fu → 0 < Nat.gcd a b → mj_fix (fun (K6 : (Nat × Int64 × Int64 × Int64 × Int64 × mj_H) → Option (mj_H)) (s : Nat × Int64 × Int64 × Int64 × Int64 × mj_H) => b_X9_fraction_6 (fun v0 v1 v3 v5 v7 h => K6 (v0, v1, v3, v5, v7, h)) s.1 s.2.1 s.2.2.1 s.2.2.2.1 s.2.2.2.2.1 s.2.2.2.2.2) fu (53, u, l, lN a, lN b, h) = some (h.set 53 (cO 9 ((fs.set 5 (.long (u / lN (Nat.gcd a b)))).set 6 (.long (l / lN (Nat.gcd a b)))))) := by
  have z : ∀ (a fu : Nat), 0 < fu → 0 < a → a < 2 ^ 62 → mj_fix (fun (K6 : (Nat × Int64 × Int64 × Int64 × Int64 × mj_H) → Option (mj_H)) (s : Nat × Int64 × Int64 × Int64 × Int64 × mj_H) => b_X9_fraction_6 (fun v0 v1 v3 v5 v7 h => K6 (v0, v1, v3, v5, v7, h)) s.1 s.2.1 s.2.2.1 s.2.2.2.1 s.2.2.2.2.1 s.2.2.2.2.2) fu (53, u, l, lN a, lN 0, h) = some (h.set 53 (cO 9 ((fs.set 5 (.long (u / lN a))).set 6 (.long (l / lN a))))) := by
    intro a fu hf ha ha2
    have c2 : ¬ lN a = (0 : Int64) := by rw [l0, leq (by omega) (by omega)]; omega
    match fu, hf with
    | fu + 1, _ =>
      have s1 := sV_r (k := 5) (.long (u / lN a)) o (by omega)
      have s2 := sV_s (fs := fs.set 5 (.long (u / lN a))) (k := 6) (c := 9) (p := 53) (.long (l / lN a)) o (by rw [List.length_set]; omega)
      simp only [mj_fix, b_X9_fraction_6, ← l0, if_true, c2, if_false, s1, Option.bind_some, s2]
  have st : ∀ (a b fu : Nat), a < 2 ^ 62 → b < 2 ^ 62 → 0 < b → mj_fix (fun (K6 : (Nat × Int64 × Int64 × Int64 × Int64 × mj_H) → Option (mj_H)) (s : Nat × Int64 × Int64 × Int64 × Int64 × mj_H) => b_X9_fraction_6 (fun v0 v1 v3 v5 v7 h => K6 (v0, v1, v3, v5, v7, h)) s.1 s.2.1 s.2.2.1 s.2.2.2.1 s.2.2.2.2.1 s.2.2.2.2.2) (fu + 1) (53, u, l, lN a, lN b, h) = mj_fix (fun (K6 : (Nat × Int64 × Int64 × Int64 × Int64 × mj_H) → Option (mj_H)) (s : Nat × Int64 × Int64 × Int64 × Int64 × mj_H) => b_X9_fraction_6 (fun v0 v1 v3 v5 v7 h => K6 (v0, v1, v3, v5, v7, h)) s.1 s.2.1 s.2.2.1 s.2.2.2.1 s.2.2.2.2.1 s.2.2.2.2.2) fu (53, u, l, lN b, lN (a % b), h) := by
    intro a b fu ha hb h0
    have c2 : ¬ lN b = (0 : Int64) := by rw [l0, leq (by omega) (by omega)]; omega
    simp only [mj_fix, b_X9_fraction_6, c2, if_false, lrem_ ha h0 hb]
  intro n
  induction n with
  | zero =>
    intro a b fu ha hb h1 h3 hg
    have : b = 0 := by omega
    subst this
    rw [Nat.gcd_zero_right] at hg ⊢
    exact z a fu (by omega) hg ha
  | succ n ih =>
    intro a b fu ha hb h1 h3 hg
    rcases Nat.eq_zero_or_pos b with q | q
    · subst q
      rw [Nat.gcd_zero_right] at hg ⊢
      exact z a fu (by omega) hg ha
    · match fu, h3 with
      | fu + 2, h3 =>
        rw [st a b (fu + 1) ha hb q, eu a b]
        rw [eu a b] at hg
        have hr := Nat.mod_lt a q
        rcases Nat.eq_zero_or_pos (a % b) with q2 | q2
        · rw [q2, Nat.gcd_zero_right] at hg ⊢
          exact z b (fu + 1) (by omega) hg hb
        · rw [st b (a % b) fu hb (by omega) q2, eu b (a % b)]
          rw [eu b (a % b)] at hg
          have h5 := Nat.mod_lt b q2
          have h6 : b % (a % b) < 2 ^ n := by
            have h7 : a % b + b % (a % b) ≤ b := by
              have h8 := Nat.div_add_mod b (a % b)
              have h9 : 1 ≤ b / (a % b) := (Nat.one_le_div_iff q2).mpr (Nat.le_of_lt hr)
              have h10 : (a % b) * 1 ≤ (a % b) * (b / (a % b)) := Nat.mul_le_mul_left _ h9
              omega
            have : 2 ^ (n + 1) = 2 * 2 ^ n := by rw [Nat.pow_succ]; omega
            omega
          exact ih (a % b) (b % (a % b)) fu (by omega) (by omega) h6 (by omega) hg
theorem X9_fraction_s {h : mj_H} {fs : List Value} {a b : Nat} (hl : fs.length = 20) (o : h[53]? = some (cO 9 fs)) (ha : a < 2 ^ 62) (hb : b < 2 ^ 40) (h0 : 0 < b) : f_X9_fraction 53 (lN a) (lN b) h = some (h.set 53 (cO 9 ((fs.set 5 (.long (lN (a / Nat.gcd a b)))).set 6 (.long (lN (b / Nat.gcd a b)))))) := by
  have hg : 0 < Nat.gcd a b := Nat.gcd_pos_of_pos_right a h0
  have hg2 : Nat.gcd a b ≤ b := Nat.gcd_le_right a h0
  have := X9_frac_loop (u := lN a) (l := lN b) hl o 40 a b 1000 ha (by omega) hb (by omega) hg
  rw [pk_lDiv (by omega) hg (by omega), pk_lDiv (by omega) hg (by omega)] at this
  exact this
