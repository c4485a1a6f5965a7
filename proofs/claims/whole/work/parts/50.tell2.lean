/-! PURE: dress, bind, inform, become (class's band) -/
theorem pa {T : Nat → Nat} {m s : Nat} : wornT T m s 0 = T 0 ∧ wornT T m s 1 = T 1 ∧ wornT T m s 2 = T 2 := by
  refine ⟨?_, ?_, ?_⟩ <;> (unfold wornT; rw [if_neg (by omega), if_neg (by omega)])
theorem X0_dress_s {h : mj_H} {p : Nat} {T : Nat → Nat} (b : BN h p T) (m s : Int32) : ∃ h', f_X0_dress p m s h = some ((wornR T m s).1, h') ∧ BN h' p (wornR T m s).2 ∧ h'.length = h.length ∧ ∀ k, (k < p ∨ p + 6 ≤ k) → h'[k]? = h[k]? := by
  have hh := X0_has_s b m
  have hob := b.ob
  have b' := b
  obtain ⟨b0, b1, ⟨w, b2, b3⟩, ⟨sg, b4, b5⟩, ⟨br, b6, b7⟩, b8, g, b9⟩ := b'
  have k := ok_le (x := s) (n := 31) (by decide)
  cases q : mj_ok m (T 0)
  · rw [q] at hh
    have er : wornR T m s = (-2, T) := by simp [wornR, q]
    exact ⟨h, by rw [er]; simp [f_X0_dress, hob, hh, bi_f], by rw [er]; exact b, rfl, fun _ _ => rfl⟩
  · rw [q] at hh
    obtain ⟨e1, e2, e3⟩ := ok_c q
    have c1 : ¬ nI 6 ≤ m := by rw [e1]; exact nI_ge (by omega) (by decide)
    by_cases z : mj_ok s 32 = true
    · obtain ⟨z1, z2⟩ := k.mp z
      obtain ⟨f1, f2, f3⟩ := ok_c z
      have z3 : s ≤ (31 : Int32) := z2
      have er : wornR T m s = (nI (T (4 + tN m)), wornT T (tN m) (tN s)) := by simp [wornR, q, z]
      rw [er]
      have a1 := aI_r b4 (show tN m < 6 by omega) (by decide)
      have a2 := uI_r s b4 (show tN m < 6 by omega) (by decide)
      rw [← e1] at a1 a2
      obtain ⟨p0, p1, p2⟩ := pa (T := T) (m := tN m) (s := tN s)
      refine ⟨h.set (p + 2) (cI 6 (upd sg (tN m) s)), by simp [f_X0_dress, hob, hh, bi_t, mj_gR, mj_gV, b1, aL_I b4, c1, z1, z3, a1, a2, b5 _ e2], ?_, by simp, fun k hk => List.getElem?_set_ne (by omega)⟩
      show BN _ p (wornT T (tN m) (tN s))
      refine ⟨by rw [p0]; exact b0, by rw [p0, p1, p2]; exact get_set b1 (by omega), ⟨w, get_set b2 (by omega), fun i hi => ?_⟩, ⟨_, get_self b4, fun i hi => ?_⟩, ⟨br, get_set b6 (by omega), fun i hi => ?_⟩, get_set b8 (by omega), g, get_set b9 (by omega)⟩
      · rw [p0] at hi
        rw [b3 i hi]; unfold wornT; rw [if_neg (by omega), if_neg (by omega)]
      · rw [p0] at hi
        unfold wornT; rw [if_neg (by omega)]
        by_cases y : i = tN m
        · subst y; rw [pk_us, if_pos rfl, ← f1]
        · rw [pk_un y, if_neg (by omega)]; exact b5 i hi
      · rw [p0] at hi
        rw [b7 i hi]; unfold wornT; rw [if_neg (by omega), if_neg (by omega)]
    · have er : wornR T m s = (-2, T) := by simp [wornR, z]
      rw [er]
      refine ⟨h, ?_, b, rfl, fun _ _ => rfl⟩
      by_cases z1 : s < 0
      · simp [f_X0_dress, hob, hh, bi_t, mj_gR, mj_gV, b1, aL_I b4, c1, z1]
      · have z3 : ¬ s ≤ (31 : Int32) := fun y => z (k.mpr ⟨z1, y⟩)
        simp [f_X0_dress, hob, hh, bi_t, mj_gR, mj_gV, b1, aL_I b4, c1, z1, z3]
theorem pb {T : Nat → Nat} {m s : Nat} : pairT T m s 0 = T 0 ∧ pairT T m s 1 = T 1 ∧ pairT T m s 2 = T 2 := by
  refine ⟨?_, ?_, ?_⟩ <;> (unfold pairT; rw [if_neg (by omega), if_neg (by omega), if_neg (by omega)])
theorem X0_bind_s {h : mj_H} {p : Nat} {T : Nat → Nat} (b : BN h p T) (w : WF T) (x y : Int32) : ∃ h', f_X0_bind p x y h = some ((pairR T x y).1, h') ∧ BN h' p (pairR T x y).2 ∧ h'.length = h.length ∧ ∀ k, (k < p ∨ p + 6 ≤ k) → h'[k]? = h[k]? := by
  have hh := X0_has_s b x
  have hy := X0_has_s b y
  have hob := b.ob
  cases q : mj_ok x (T 0)
  · rw [q] at hh
    have er : pairR T x y = (-2, T) := by simp [pairR, q]
    exact ⟨h, by rw [er]; simp [f_X0_bind, hob, hh, bi_f], by rw [er]; exact b, rfl, fun _ _ => rfl⟩
  · rw [q] at hh
    cases q2 : mj_ok y (T 0)
    · rw [q2] at hy
      have er : pairR T x y = (-2, T) := by simp [pairR, q2]
      exact ⟨h, by rw [er]; simp [f_X0_bind, hob, hh, hy, bi_t, bi_f], by rw [er]; exact b, rfl, fun _ _ => rfl⟩
    · rw [q2] at hy
      by_cases q3 : x = y
      · have er : pairR T x y = (-2, T) := by simp [pairR, q3]
        exact ⟨h, by rw [er]; simp [f_X0_bind, hob, hh, hy, bi_t, q3], by rw [er]; exact b, rfl, fun _ _ => rfl⟩
      · obtain ⟨e1, e2, e3⟩ := ok_c q
        obtain ⟨f1, f2, f3⟩ := ok_c q2
        have b' := b
        obtain ⟨b0, b1, ⟨ww, b2, b3⟩, ⟨sg, b4, b5⟩, ⟨br, b6, b7⟩, b8, g, b9⟩ := b'
        have c1 : ¬ nI 6 ≤ x := by rw [e1]; exact nI_ge (by omega) (by decide)
        have c2 : y < nI 6 := by rw [f1]; exact nI_lt (by omega) (by decide)
        have hab := X0_areBrothers_s b w e2 f2
        rw [← e1, ← f1] at hab
        cases q4 : brob T (tN x) (tN y)
        · rw [q4] at hab
          have er : pairR T x y = (1, pairT T (tN x) (tN y)) := by simp [pairR, q, q2, q3, q4]
          rw [er]
          have ne : tN x ≠ tN y := fun z => q3 (by rw [e1, f1, z])
          have s1 := shl1 (m := tN y) (by omega)
          have s2 := shl1 (m := tN x) (by omega)
          rw [← f1] at s1
          rw [← e1] at s2
          have a1 := aI_r b6 (show tN x < 6 by omega) (by decide)
          have a2 := uI_r (br (tN x) ||| nI (2 ^ tN y)) b6 (show tN x < 6 by omega) (by decide)
          have g1 := get_set (c := cI 6 (upd br (tN x) (br (tN x) ||| nI (2 ^ tN y)))) b1 (show p + 3 ≠ p by omega)
          have g2 := get_self (c := cI 6 (upd br (tN x) (br (tN x) ||| nI (2 ^ tN y)))) b6
          have a3 := aI_r g2 (show tN y < 6 by omega) (by decide)
          rw [pk_un (show tN y ≠ tN x from fun z => ne z.symm)] at a3
          have a4 := uI_r (br (tN y) ||| nI (2 ^ tN x)) g2 (show tN y < 6 by omega) (by decide)
          rw [← e1] at a1 a2
          rw [← f1] at a3 a4
          obtain ⟨p0, p1, p2⟩ := pb (T := T) (m := tN x) (s := tN y)
          refine ⟨h.set (p + 3) (cI 6 (upd (upd br (tN x) (br (tN x) ||| nI (2 ^ tN y))) (tN y) (br (tN y) ||| nI (2 ^ tN x)))), by simp [f_X0_bind, hob, hh, hy, bi_t, bi_f, q3, mj_gR, mj_gV, b1, aL_I b6, c1, c2, hab, a1, a2, s1, s2, g1, a3, a4], ?_, by simp, fun k hk => List.getElem?_set_ne (by omega)⟩
          show BN _ p (pairT T (tN x) (tN y))
          refine ⟨by rw [p0]; exact b0, by rw [p0, p1, p2]; exact get_set b1 (by omega), ⟨ww, get_set b2 (by omega), fun i hi => ?_⟩, ⟨sg, get_set b4 (by omega), fun i hi => ?_⟩, ⟨_, get_self b6, fun i hi => ?_⟩, get_set b8 (by omega), g, get_set b9 (by omega)⟩
          · rw [p0] at hi
            rw [b3 i hi]; unfold pairT; rw [if_neg (by omega), if_neg (by omega), if_neg (by omega)]
          · rw [p0] at hi
            rw [b5 i hi]; unfold pairT; rw [if_neg (by omega), if_neg (by omega), if_neg (by omega)]
          · rw [p0] at hi
            unfold pairT; rw [if_neg (by omega)]
            by_cases y1 : i = tN x
            · subst y1
              rw [pk_un ne, pk_us, if_pos rfl, b7 _ e2, orI]
            · rw [if_neg (by omega)]
              by_cases y2 : i = tN y
              · subst y2
                rw [pk_us, if_pos rfl, b7 _ f2, orI]
              · rw [pk_un y2, pk_un y1, if_neg (by omega)]; exact b7 i hi
        · rw [q4] at hab
          have er : pairR T x y = (-3, T) := by simp [pairR, q, q2, q3, q4]
          exact ⟨h, by rw [er]; simp [f_X0_bind, hob, hh, hy, bi_t, q3, mj_gR, mj_gV, b1, aL_I b6, c1, c2, hab], by rw [er]; exact b, rfl, fun _ _ => rfl⟩
theorem X0_inform_s {h : mj_H} {p : Nat} {T : Nat → Nat} (b : BN h p T) (w : WF T) (x : Int32) : ∃ h', f_X0_inform p x h = some ((wordR T x).1, h') ∧ BN h' p (wordR T x).2 ∧ h'.length = h.length ∧ ∀ k, (k < p ∨ p + 6 ≤ k) → h'[k]? = h[k]? := by
  have hh := X0_has_s b x
  have hob := b.ob
  cases q : mj_ok x (T 0)
  · rw [q] at hh
    have er : wordR T x = (-2, T) := by simp [wordR, q]
    exact ⟨h, by rw [er]; simp [f_X0_inform, hob, hh, bi_f], by rw [er]; exact b, rfl, fun _ _ => rfl⟩
  · rw [q] at hh
    obtain ⟨e1, e2, e3⟩ := ok_c q
    have hk := X0_knows_s b w e2
    rw [← e1] at hk
    have b' := b
    obtain ⟨b0, b1, ⟨ww, b2, b3⟩, ⟨sg, b4, b5⟩, ⟨br, b6, b7⟩, b8, g, b9⟩ := b'
    cases q4 : know T (tN x)
    · rw [q4] at hk
      have er : wordR T x = (1, wordT T (tN x)) := by simp [wordR, q, q4]
      rw [er]
      have s2 := shl1 (m := tN x) (by omega)
      rw [← e1] at s2
      refine ⟨h.set p (cO 0 [.ref (p + 1), .ref (p + 2), .ref (p + 3), .ref (p + 4), .int (nI (T 0)), .int (nI (T 2 ||| 2 ^ tN x)), .int (nI (T 1))]), by simp [f_X0_inform, hob, hh, hk, bi_t, bi_f, mj_gI, mj_gV, b1, s2, sV_r _ b1, orI], ?_, by simp, fun k hk => List.getElem?_set_ne (by omega)⟩
      show BN _ p (wordT T (tN x))
      have p0 : wordT T (tN x) 0 = T 0 := by simp [wordT]
      have p1 : wordT T (tN x) 1 = T 1 := by simp [wordT]
      have p2 : wordT T (tN x) 2 = T 2 ||| 2 ^ tN x := by simp [wordT]
      refine ⟨by rw [p0]; exact b0, by rw [p0, p1, p2]; exact get_self b1, ⟨ww, get_set b2 (by omega), fun i hi => ?_⟩, ⟨sg, get_set b4 (by omega), fun i hi => ?_⟩, ⟨br, get_set b6 (by omega), fun i hi => ?_⟩, get_set b8 (by omega), g, get_set b9 (by omega)⟩
      · rw [p0] at hi
        rw [b3 i hi]; unfold wordT; rw [if_neg (by omega), if_neg (by omega)]
      · rw [p0] at hi
        rw [b5 i hi]; unfold wordT; rw [if_neg (by omega), if_neg (by omega)]
      · rw [p0] at hi
        rw [b7 i hi]; unfold wordT; rw [if_neg (by omega), if_neg (by omega)]
    · rw [q4] at hk
      have er : wordR T x = (-3, T) := by simp [wordR, q, q4]
      exact ⟨h, by rw [er]; simp [f_X0_inform, hob, hh, hk, bi_t], by rw [er]; exact b, rfl, fun _ _ => rfl⟩
theorem cpJ_r {h : mj_H} {a b n0 n1 s d n : Nat} {f g : Nat → Int64} (ha : h[a]? = some (cJ n0 f)) (hb : h[b]? = some (cJ n1 g)) (h1 : s + n ≤ n0) (h2 : d + n ≤ n1) (l0 : n0 < 2 ^ 30) (l1 : n1 < 2 ^ 30) : mj_cpJ h a (nI s) b (nI d) (nI n) = some (h.set b (cJ n1 (va_cpy f g s d n))) := by
  have c : mj_cok (nI s) (nI d) (nI n) n0 n1 = true := by
    simp only [mj_cok, nI_toInt (show s < 2 ^ 31 by omega), nI_toInt (show d < 2 ^ 31 by omega), nI_toInt (show n < 2 ^ 31 by omega), Bool.and_eq_true, decide_eq_true_eq]
    omega
  simp [mj_cpJ, ha, hb, c, nI_clamp (show s < 2 ^ 31 by omega), nI_clamp (show d < 2 ^ 31 by omega), nI_clamp (show n < 2 ^ 31 by omega)]
theorem cpI_r {h : mj_H} {a b n0 n1 s d n : Nat} {f g : Nat → Int32} (ha : h[a]? = some (cI n0 f)) (hb : h[b]? = some (cI n1 g)) (h1 : s + n ≤ n0) (h2 : d + n ≤ n1) (l0 : n0 < 2 ^ 30) (l1 : n1 < 2 ^ 30) : mj_cpI h a (nI s) b (nI d) (nI n) = some (h.set b (cI n1 (va_cpy f g s d n))) := by
  have c : mj_cok (nI s) (nI d) (nI n) n0 n1 = true := by
    simp only [mj_cok, nI_toInt (show s < 2 ^ 31 by omega), nI_toInt (show d < 2 ^ 31 by omega), nI_toInt (show n < 2 ^ 31 by omega), Bool.and_eq_true, decide_eq_true_eq]
    omega
  simp [mj_cpI, ha, hb, c, nI_clamp (show s < 2 ^ 31 by omega), nI_clamp (show d < 2 ^ 31 by omega), nI_clamp (show n < 2 ^ 31 by omega)]
theorem X0_become_s {h : mj_H} {p q : Nat} {T U : Nat → Nat} (b : BN h p T) (c : BN h q U) (d : p + 6 ≤ q ∨ q + 6 ≤ p) : ∃ h', f_X0_become p q h = some h' ∧ BN h' p U ∧ h'.length = h.length ∧ ∀ k, (k < p ∨ p + 6 ≤ k) → h'[k]? = h[k]? := by
  obtain ⟨b0, b1, ⟨w, b2, b3⟩, ⟨sg, b4, b5⟩, ⟨br, b6, b7⟩, b8, g, b9⟩ := b
  obtain ⟨c0, c1, ⟨w', c2, c3⟩, ⟨sg', c4, c5⟩, ⟨br', c6, c7⟩, c8, g', c9⟩ := c
  have r1 := cpJ_r (s := 0) (d := 0) (n := 36) c2 b2 (by decide) (by decide) (by decide) (by decide)
  have b1a := get_set (c := cJ 36 (va_cpy w' w 0 0 36)) b1 (show p + 1 ≠ p by omega)
  have c1a := get_set (c := cJ 36 (va_cpy w' w 0 0 36)) c1 (show p + 1 ≠ q by omega)
  have b4a := get_set (c := cJ 36 (va_cpy w' w 0 0 36)) b4 (show p + 1 ≠ p + 2 by omega)
  have c4a := get_set (c := cJ 36 (va_cpy w' w 0 0 36)) c4 (show p + 1 ≠ q + 2 by omega)
  have r2 := cpI_r (s := 0) (d := 0) (n := 6) c4a b4a (by decide) (by decide) (by decide) (by decide)
  have b1b := get_set (c := cI 6 (va_cpy sg' sg 0 0 6)) b1a (show p + 2 ≠ p by omega)
  have c1b := get_set (c := cI 6 (va_cpy sg' sg 0 0 6)) c1a (show p + 2 ≠ q by omega)
  have b6b := get_set (c := cI 6 (va_cpy sg' sg 0 0 6)) (get_set (c := cJ 36 (va_cpy w' w 0 0 36)) b6 (show p + 1 ≠ p + 3 by omega)) (show p + 2 ≠ p + 3 by omega)
  have c6b := get_set (c := cI 6 (va_cpy sg' sg 0 0 6)) (get_set (c := cJ 36 (va_cpy w' w 0 0 36)) c6 (show p + 1 ≠ q + 3 by omega)) (show p + 2 ≠ q + 3 by omega)
  have r3 := cpI_r (s := 0) (d := 0) (n := 6) c6b b6b (by decide) (by decide) (by decide) (by decide)
  have b1c := get_set (c := cI 6 (va_cpy br' br 0 0 6)) b1b (show p + 3 ≠ p by omega)
  have c1c := get_set (c := cI 6 (va_cpy br' br 0 0 6)) c1b (show p + 3 ≠ q by omega)
  rw [nI_0] at r1 r2 r3
  have c1d : ∀ cc, ((((h.set (p + 1) (cJ 36 (va_cpy w' w 0 0 36))).set (p + 2) (cI 6 (va_cpy sg' sg 0 0 6))).set (p + 3) (cI 6 (va_cpy br' br 0 0 6))).set p cc)[q]? = _ := fun cc => get_set c1c (show p ≠ q by omega)
  refine ⟨(((h.set (p + 1) (cJ 36 (va_cpy w' w 0 0 36))).set (p + 2) (cI 6 (va_cpy sg' sg 0 0 6))).set (p + 3) (cI 6 (va_cpy br' br 0 0 6))).set p (cO 0 [.ref (p + 1), .ref (p + 2), .ref (p + 3), .ref (p + 4), .int (nI (U 0)), .int (nI (U 2)), .int (nI (U 1))]), ?_, ?_, by simp, ?_⟩
  · simp [f_X0_become, mj_gR, mj_gI, mj_gV, b1, c1, show (36 : Int32) = nI 36 from rfl, n6, r1, b1a, c1a, r2, b1b, c1b, r3, c1c, sV_r _ b1c, sV_s _ b1c, c1d]
  · refine ⟨c0, get_self b1c, ⟨_, get_set (get_set (get_set (get_self b2) (by omega)) (by omega)) (by omega), fun i hi => ?_⟩, ⟨_, get_set (get_set (get_self b4a) (by omega)) (by omega), fun i hi => ?_⟩, ⟨_, get_set (get_self b6b) (by omega), fun i hi => ?_⟩, get_set (get_set (get_set (get_set b8 (by omega)) (by omega)) (by omega)) (by omega), g, get_set (get_set (get_set (get_set b9 (by omega)) (by omega)) (by omega)) (by omega)⟩
    · rw [pk_cpy_in (by omega) (by omega), Nat.zero_add, Nat.sub_zero]; exact c3 i hi
    · rw [pk_cpy_in (by omega) (by omega), Nat.zero_add, Nat.sub_zero]; exact c5 i hi
    · rw [pk_cpy_in (by omega) (by omega), Nat.zero_add, Nat.sub_zero]; exact c7 i hi
  · intro k hk
    rw [List.getElem?_set_ne (by omega), List.getElem?_set_ne (by omega), List.getElem?_set_ne (by omega), List.getElem?_set_ne (by omega)]
