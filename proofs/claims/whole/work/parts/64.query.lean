/-! PURE: the calls that ask -/
theorem op_trust {T : Nat → Nat} {I : Nat → Bool × (Nat → Nat)} {X : (Nat → Int32) × Nat} (p : PU T I X) (F : Int64 × Int64) (K : Int32 × Int32 × Int32) (m : Int32) : OPB (f_X8_trust 0 m) (f_X9_trust 53 m) T I X F K := by
  have w := p.1.1
  by_cases c1 : mj_ok m (T 0) = true
  · obtain ⟨e1, l1, -⟩ := ok_c c1
    refine ⟨nI (trust T (tN m)), T, I, X, F, K, p, fun h s => ?_, fun h s => ?_⟩
    · obtain ⟨h1, a1, a2⟩ := X0_trustOf_s s.b w l1
      rw [← e1] at a1
      refine XR.q s (YX.s5 s.y a2) ?_
      simp only [f_X8_trust, s.x.band, Option.bind_some, s.b.ob, if_true, X0_has_s s.b, c1, bi_t, one0, if_false, a1]
    · have a1 := s.n.trust w l1
      rw [← e1] at a1
      refine MR.i s ?_
      simp only [f_X9_trust, s.g.ob, if_true, s.n.man w, Option.bind_some, c1, bi_t, one0, if_false, s.g.now, a1]
  · rw [Bool.not_eq_true] at c1
    refine ⟨-2, T, I, X, F, kb K, p, fun h s => ?_, fun h s => ?_⟩
    · simp only [f_X8_trust, s.x.band, Option.bind_some, s.b.ob, if_true, X0_has_s s.b, c1, bi_f, s.x.ob]
      exact (X8_badR s).bd
    · simp only [f_X9_trust, s.g.ob, if_true, s.n.man w, Option.bind_some, c1, bi_f]
      exact (X9_bad_s s (-2)).bd
theorem op_shows {T : Nat → Nat} {I : Nat → Bool × (Nat → Nat)} {X : (Nat → Int32) × Nat} (p : PU T I X) (F : Int64 × Int64) (K : Int32 × Int32 × Int32) (m t : Int32) : OPB (f_X8_shows 0 m t) (f_X9_shows 53 m t) T I X F K := by
  have w := p.1.1
  by_cases c1 : mj_ok m (T 0) = true
  · by_cases c2 : mj_ok t 3 = true
    · obtain ⟨e1, l1, -⟩ := ok_c c1
      obtain ⟨e2, l2, -⟩ := ok_c c2
      refine ⟨nI (showsN T (tN m) (tN t)), T, I, X, F, K, p, fun h s => ?_, fun h s => ?_⟩
      · obtain ⟨h1, a1, a2⟩ := X0_showsOf_s s.b w l1 l2
        rw [← e1, ← e2] at a1
        refine XR.q s (YX.s5 s.y a2) ?_
        simp only [f_X8_shows, s.x.band, Option.bind_some, s.b.ob, if_true, X0_has_s s.b, c1, bi_t, one0, if_false, X8_isTest_s, c2, a1]
      · have a1 := X9_showsOn_s s.n w l1 l2
        rw [← e1, ← e2] at a1
        refine MR.i s ?_
        simp only [f_X9_shows, s.g.ob, if_true, s.n.man w, Option.bind_some, c1, bi_t, one0, if_false, X9_isTest_s, c2, a1]
    · rw [Bool.not_eq_true] at c2
      refine ⟨-2, T, I, X, F, kb K, p, fun h s => ?_, fun h s => ?_⟩
      · simp only [f_X8_shows, s.x.band, Option.bind_some, s.b.ob, if_true, X0_has_s s.b, c1, bi_t, one0, if_false, X8_isTest_s, c2, bi_f, f_X8_shows_30, s.x.ob]
        exact (X8_badR s).bd
      · simp only [f_X9_shows, s.g.ob, if_true, s.n.man w, Option.bind_some, c1, bi_t, one0, if_false, X9_isTest_s, c2, bi_f, f_X9_shows_24]
        exact (X9_bad_s s (-2)).bd
  · rw [Bool.not_eq_true] at c1
    refine ⟨-2, T, I, X, F, kb K, p, fun h s => ?_, fun h s => ?_⟩
    · simp only [f_X8_shows, s.x.band, Option.bind_some, s.b.ob, if_true, X0_has_s s.b, c1, bi_f, s.x.ob, f_X8_shows_30]
      exact (X8_badR s).bd
    · simp only [f_X9_shows, s.g.ob, if_true, s.n.man w, Option.bind_some, c1, bi_f, f_X9_shows_24]
      exact (X9_bad_s s (-2)).bd
theorem op_weight {T : Nat → Nat} {I : Nat → Bool × (Nat → Nat)} {X : (Nat → Int32) × Nat} (p : PU T I X) (F : Int64 × Int64) (K : Int32 × Int32 × Int32) (m k : Int32) : OPB (f_X8_weight 0 m k) (f_X9_weight 53 m k) T I X F K := by
  have w := p.1.1
  have w0 := w.1
  have rg := fun (A B : Option (Int64 × mj_H)) => rg4 (x := k) (n := 6) (by decide) A B
  by_cases c1 : mj_ok m (T 0) = true
  · by_cases c2 : mj_ok k 6 = true
    · obtain ⟨e1, l1, -⟩ := ok_c c1
      obtain ⟨e2, l2, -⟩ := ok_c c2
      have hw := w.w l1 (tN k) l2
      refine ⟨lN (tw T (tN m) (tN k)), T, I, X, F, K, p, fun h s => ?_, fun h s => ?_⟩
      · have a1 := X0_weight_s s.b l1 l2
        rw [← e1, ← e2] at a1
        refine XR.i s ?_
        simp only [f_X8_weight, s.x.band, Option.bind_some, s.b.ob, if_true, X0_has_s s.b, c1, bi_t, one0, if_false]
        refine (rg _ _).trans ?_
        rw [if_pos c2]
        simp only [a1, Option.bind_some]
      · have a1 := s.n.a (j := 16 + (6 * tN m + tN k)) (by omega)
        rw [← ix3, ← e1, ← e2] at a1
        refine MR.i s ?_
        simp only [f_X9_weight, s.g.ob, if_true, s.n.man w, Option.bind_some, c1, bi_t, one0, if_false, (X9_inL k h).2.2.2.2.1, c2, s.g.now, a1]
        show some ((nI (tw T (tN m) (tN k))).toInt64, h) = _
        rw [lN_toInt64 (by omega)]
    · rw [Bool.not_eq_true] at c2
      refine ⟨(-2 : Int32).toInt64, T, I, X, F, kb K, p, fun h s => ?_, fun h s => ?_⟩
      · have e : f_X8_weight 0 m k h = f_X8_weight_21 0 h := by
          simp only [f_X8_weight, s.x.band, Option.bind_some, s.b.ob, if_true, X0_has_s s.b, c1, bi_t, one0, if_false]
          refine (rg _ _).trans ?_
          rw [if_neg (by rw [c2]; decide)]
        rw [e, f_X8_weight_21, if_pos s.x.ob]
        exact (X8_badR s).bd64
      · simp only [f_X9_weight, s.g.ob, if_true, s.n.man w, Option.bind_some, c1, bi_t, one0, if_false, (X9_inL k h).2.2.2.2.1, c2, bi_f, f_X9_weight_38]
        exact (X9_bad_s s (-2)).bd64
  · rw [Bool.not_eq_true] at c1
    refine ⟨(-2 : Int32).toInt64, T, I, X, F, kb K, p, fun h s => ?_, fun h s => ?_⟩
    · simp only [f_X8_weight, s.x.band, Option.bind_some, s.b.ob, if_true, X0_has_s s.b, c1, bi_f, f_X8_weight_21, s.x.ob]
      exact (X8_badR s).bd64
    · simp only [f_X9_weight, s.g.ob, if_true, s.n.man w, Option.bind_some, c1, bi_f, f_X9_weight_38]
      exact (X9_bad_s s (-2)).bd64
theorem op_cases {T : Nat → Nat} {I : Nat → Bool × (Nat → Nat)} {X : (Nat → Int32) × Nat} (p : PU T I X) (F : Int64 × Int64) (K : Int32 × Int32 × Int32) (k t : Int32) (r : Bool) : OPB (f_X8_cases 0 k t (bi r)) (f_X9_cases 53 k t (bi r)) T I X F K := by
  have rg := fun (A B : Option (Int32 × mj_H)) => rg3 (x := k) (n := 6) (by decide) A B
  have rh := fun (A B : Option (Int32 × mj_H)) => rg2 (x := t) (n := 3) (by decide) A B
  have xe : ∀ h, f_X8_cases 0 k t (bi r) h = if mj_ok k 6 = true then (if mj_ok t 4 = true then (f_X8_casesOf k t (bi r) h).bind fun p2 => some (p2.1, p2.2) else f_X8_cases_19 0 h) else f_X8_cases_19 0 h := fun h => by
    unfold f_X8_cases
    refine (rg _ _).trans ?_
    split
    · exact rh _ _
    · rfl
  by_cases c1 : mj_ok k 6 = true
  · by_cases c2 : mj_ok t 4 = true
    · obtain ⟨e1, l1, -⟩ := ok_c c1
      obtain ⟨e2, l2, -⟩ := ok_c c2
      refine ⟨nI (cas (tN k) (tN t) r), T, I, X, F, K, p, fun h s => ?_, fun h s => ?_⟩
      · have a1 := X8_casesOf_s (tN k) l1 (tN t) l2 r h
        rw [← e1, ← e2] at a1
        refine XR.i s ?_
        rw [xe, if_pos c1, if_pos c2, a1]
        rfl
      · have a1 := X9_casesOf_s (tN k) l1 (tN t) l2 r h
        rw [← e1, ← e2] at a1
        refine MR.i s ?_
        simp only [f_X9_cases, (X9_inL k h).2.2.2.2.1, (X9_inL t h).2.2.2.2.2.1, Option.bind_some, c1, c2, bi_t, one0, if_false, a1]
    · rw [Bool.not_eq_true] at c2
      refine ⟨-2, T, I, X, F, kb K, p, fun h s => ?_, fun h s => ?_⟩
      · rw [xe, if_pos c1, if_neg (by rw [c2]; decide), f_X8_cases_19, if_pos s.x.ob]
        exact (X8_badR s).bd
      · simp only [f_X9_cases, (X9_inL k h).2.2.2.2.1, (X9_inL t h).2.2.2.2.2.1, Option.bind_some, c1, c2, bi_t, bi_f, one0, if_false, if_true, f_X9_cases_33, s.g.ob]
        exact (X9_bad_s s (-2)).bd
  · rw [Bool.not_eq_true] at c1
    refine ⟨-2, T, I, X, F, kb K, p, fun h s => ?_, fun h s => ?_⟩
    · rw [xe, if_neg (by rw [c1]; decide), f_X8_cases_19, if_pos s.x.ob]
      exact (X8_badR s).bd
    · simp only [f_X9_cases, (X9_inL k h).2.2.2.2.1, Option.bind_some, c1, bi_f, if_true, f_X9_cases_33, s.g.ob]
      exact (X9_bad_s s (-2)).bd
theorem op_of {T : Nat → Nat} {I : Nat → Bool × (Nat → Nat)} {X : (Nat → Int32) × Nat} (p : PU T I X) (F : Int64 × Int64) (K : Int32 × Int32 × Int32) (m t : Int32) : OPB (f_X8_of 0 m t) (f_X9_of 53 m t) T I X F K := by
  have w := p.1.1
  have w0 := w.1
  have t2 := w.t2
  by_cases c1 : mj_ok m (T 0) = true
  · obtain ⟨e1, l1, -⟩ := ok_c c1
    by_cases c2 : mj_ok t 4 = true
    · obtain ⟨e2, l2, -⟩ := ok_c c2
      have hh : tN t = 0 ∨ tN t = 1 ∨ tN t = 2 ∨ tN t = 3 := by omega
      have ol : (bi (mj_ok t 4)) = 1 := by rw [c2]; rfl
      rcases hh with q | q | q | q
      · rw [q] at e2
        subst e2
        have z0 : nI 0 = (0 : Int32) := rfl
        refine ⟨nI (T (4 + tN m)), T, I, X, F, K, p, fun h s => XR.i s ?_, fun h s => MR.i s ?_⟩
        · have a1 := X0_signsOf_s s.b l1
          rw [← e1] at a1
          simp only [f_X8_of, s.x.band, Option.bind_some, s.b.ob, if_true, X0_has_s s.b, c1, bi_t, one0, if_false, z0, a1]
        · have a1 := s.n.a (j := 4 + tN m) (by omega)
          rw [← nI_add, ← e1] at a1
          have a2 := (X9_inL (nI 0) h).2.2.2.2.2.1
          rw [c2] at a2
          simp only [f_X9_of, s.g.ob, if_true, s.n.man w, Option.bind_some, c1, bi_t, one0, if_false, a2]
          rw [if_pos z0]
          simp only [s.g.now, Option.bind_some, show (4 : Int32) = nI 4 from rfl, a1]
      · rw [q] at e2
        subst e2
        have z0 : ¬ nI 1 = (0 : Int32) := by decide
        have z1 : nI 1 = (1 : Int32) := rfl
        refine ⟨nI (T (10 + tN m)), T, I, X, F, K, p, fun h s => XR.i s ?_, fun h s => MR.i s ?_⟩
        · have a1 := X0_brothersOf_s s.b l1
          rw [← e1] at a1
          simp only [f_X8_of, s.x.band, Option.bind_some, s.b.ob, if_true, X0_has_s s.b, c1, bi_t, one0, if_false, z0, z1, a1]
        · have a1 := s.n.a (j := 10 + tN m) (by omega)
          rw [← nI_add, ← e1] at a1
          have a2 := (X9_inL (nI 1) h).2.2.2.2.2.1
          rw [c2] at a2
          simp only [f_X9_of, s.g.ob, if_true, s.n.man w, Option.bind_some, c1, bi_t, one0, if_false, a2, z0]
          rw [if_pos z1]
          simp only [s.g.now, Option.bind_some, show (10 : Int32) = nI 10 from rfl, a1]
      · rw [q] at e2
        subst e2
        have z0 : ¬ nI 2 = (0 : Int32) := by decide
        have z1 : ¬ nI 2 = (1 : Int32) := by decide
        have z2 : nI 2 = (2 : Int32) := rfl
        have y0 : ¬ (2 : Int32) = (0 : Int32) := by decide
        have y1 : ¬ (2 : Int32) = (1 : Int32) := by decide
        refine ⟨bi (know T (tN m)), T, I, X, F, K, p, fun h s => XR.i s ?_, fun h s => MR.i s ?_⟩
        · have a1 := X0_knows_s s.b w l1
          rw [← e1] at a1
          simp only [f_X8_of, s.x.band, Option.bind_some, s.b.ob, if_true, X0_has_s s.b, c1, bi_t, one0, if_false, y0, y1, z2, a1]
          cases know T (tN m)
          · simp only [bi_f, if_true]
          · simp only [bi_t, one0, if_false]
        · have a2 := (X9_inL (nI 2) h).2.2.2.2.2.1
          rw [c2] at a2
          simp only [f_X9_of, s.g.ob, if_true, s.n.man w, Option.bind_some, c1, bi_t, one0, if_false, a2, z0, z1]
          rw [if_pos z2]
          simp only [s.g.now, Option.bind_some, s.n.a2]
          have e3 : ((nI (T 2) >>> (m &&& (31 : Int32))) &&& (1 : Int32)) = bi (know T (tN m)) := by
            have h1 : T 2 / 2 ^ tN m < 2 ^ 32 := Nat.lt_of_le_of_lt (Nat.div_le_self _ _) (by omega)
            rw [e1, pk_shrN (by omega) _ (tN (nI (tN m))) (by rw [← e1]; have := sh31 (tN m) (by omega); rw [← e1] at this; exact this), ← e1, pk_andN h1 1 rfl]
            unfold know
            rw [tb_div]
            have : T 2 / 2 ^ tN m % 2 = 0 ∨ T 2 / 2 ^ tN m % 2 = 1 := by omega
            rcases this with q | q
            · rw [show T 2 / 2 ^ tN m % 2 ^ 1 = 0 from q]; rfl
            · rw [show T 2 / 2 ^ tN m % 2 ^ 1 = 1 from q]; rfl
          rw [e3]
      · rw [q] at e2
        subst e2
        have z0 : ¬ nI 3 = (0 : Int32) := by decide
        have z1 : ¬ nI 3 = (1 : Int32) := by decide
        have z2 : ¬ nI 3 = (2 : Int32) := by decide
        have z3 : nI 3 = (3 : Int32) := rfl
        have y0 : ¬ (3 : Int32) = (0 : Int32) := by decide
        have y1 : ¬ (3 : Int32) = (1 : Int32) := by decide
        have y2 : ¬ (3 : Int32) = (2 : Int32) := by decide
        refine ⟨nI (lik (tw T (tN m)) 5), T, I, X, F, K, p, fun h s => XR.i s ?_, fun h s => MR.i s ?_⟩
        · have a1 := X0_likeliest_s s.b w l1
          rw [← e1] at a1
          simp only [f_X8_of, s.x.band, Option.bind_some, s.b.ob, if_true, X0_has_s s.b, c1, bi_t, one0, if_false, y0, y1, y2, z3, a1]
        · have a1 := X9_of_91_s s.n w l1
          rw [← e1] at a1
          have a2 := (X9_inL (nI 3) h).2.2.2.2.2.1
          rw [c2] at a2
          simp only [f_X9_of, s.g.ob, if_true, s.n.man w, Option.bind_some, c1, bi_t, one0, if_false, a2, z0, z1, z2, a1]
    · rw [Bool.not_eq_true] at c2
      have z : ∀ n : Nat, n < 4 → ¬ t = nI n := fun n hn y => by
        rw [y, ok_nI (by omega)] at c2
        simp at c2; omega
      have z0 : ¬ t = (0 : Int32) := z 0 (by decide)
      have z1 : ¬ t = (1 : Int32) := z 1 (by decide)
      have z2 : ¬ t = (2 : Int32) := z 2 (by decide)
      have z3 : ¬ t = (3 : Int32) := z 3 (by decide)
      refine ⟨-2, T, I, X, F, kb K, p, fun h s => ?_, fun h s => ?_⟩
      · simp only [f_X8_of, s.x.band, Option.bind_some, s.b.ob, if_true, X0_has_s s.b, c1, bi_t, one0, if_false, z0, z1, z2, z3, s.x.ob]
        exact (X8_badR s).bd
      · simp only [f_X9_of, s.g.ob, if_true, s.n.man w, Option.bind_some, c1, bi_t, one0, if_false, (X9_inL t h).2.2.2.2.2.1, c2, bi_f, f_X9_of_20]
        exact (X9_bad_s s (-2)).bd
  · rw [Bool.not_eq_true] at c1
    refine ⟨-2, T, I, X, F, kb K, p, fun h s => ?_, fun h s => ?_⟩
    · simp only [f_X8_of, s.x.band, Option.bind_some, s.b.ob, if_true, X0_has_s s.b, c1, bi_f, s.x.ob]
      exact (X8_badR s).bd
    · simp only [f_X9_of, s.g.ob, if_true, s.n.man w, Option.bind_some, c1, bi_f, f_X9_of_20]
      exact (X9_bad_s s (-2)).bd
