/-! PURE: the calls that ask, the rest -/
theorem op_runs {T : Nat → Nat} {I : Nat → Bool × (Nat → Nat)} {X : (Nat → Int32) × Nat} (p : PU T I X) (F : Int64 × Int64) (K : Int32 × Int32 × Int32) (m : Int32) : OPB (f_X8_runs 0 m) (f_X9_runs 53 m) T I X F K := by
  have w := p.1.1
  by_cases c1 : mj_ok m (T 0) = true
  · obtain ⟨e1, l1, -⟩ := ok_c c1
    refine ⟨nI (rS T (tN m) (T 0 - tN m)), T, I, X, F, K, p, fun h s => ?_, fun h s => ?_⟩
    · have a1 := X8_runs_31_s s.x s.b w l1
      rw [← e1] at a1
      refine XR.i s ?_
      simp only [f_X8_runs, s.x.band, bs, s.b.ob, if_true, X0_has_s s.b, c1, bi_t, one0, if_false, s.b.inf]
      exact a1
    · obtain ⟨h1, a1, h2, a2, z⟩ := X9_runs_s s.n w l1
      rw [← e1] at a2
      refine MR.q s z ?_
      simp only [f_X9_runs, s.g.ob, if_true, s.n.man w, bs, c1, bi_t, one0, if_false, a1]
      exact a2
  · rw [Bool.not_eq_true] at c1
    refine ⟨-2, T, I, X, F, kb K, p, fun h s => ?_, fun h s => ?_⟩
    · simp only [f_X8_runs, s.x.band, bs, s.b.ob, if_true, X0_has_s s.b, c1, bi_f, s.x.ob]
      exact (X8_badR s).bd
    · simp only [f_X9_runs, s.g.ob, if_true, s.n.man w, bs, c1, bi_f]
      exact (X9_bad_s s (-2)).bd
theorem op_home {T : Nat → Nat} {I : Nat → Bool × (Nat → Nat)} {X : (Nat → Int32) × Nat} (p : PU T I X) (F : Int64 × Int64) (K : Int32 × Int32 × Int32) (t : Int32) : OPB (f_X8_home 0 t) (f_X9_home 53 t) T I X F K := by
  have w := p.1.1
  have w0 := w.1
  have hp := pow6 w0
  have hp0 : 0 < 2 ^ T 0 := Nat.pow_pos (by decide)
  have sh : ((1 : Int32) <<< (nI (T 0) &&& (31 : Int32))) - (1 : Int32) = nI (2 ^ T 0 - 1) := by
    rw [shl1 (show T 0 < 31 by omega), n1, pk_sub hp0]
  have rg := fun (A B : Option (Int32 × mj_H)) => rg2 (x := t) (n := 120) (by decide) A B
  by_cases c1 : mj_ok t 121 = true
  · obtain ⟨e1, l1, -⟩ := ok_c c1
    refine ⟨nI (homeN T (tN t)), T, I, X, F, K, p, fun h s => ?_, fun h s => ?_⟩
    · obtain ⟨tr, bm, o⟩ := s.y.2.2.1
      obtain ⟨h1, a1, b1, o1, f1⟩ := X2_seeNow_s s.b w o
      have z : YX h h1 T := YX.od s.y b1 o1 (fun i i1 i2 i3 i4 => f1 i i1 i3)
      have x1 := (s.y.yx z).1
      have a2 := X8_home_45_s x1 b1 w o1 (t := tN t) (by omega)
      rw [← e1] at a2
      refine XR.q s z ?_
      unfold f_X8_home
      refine (rg _ _).trans ?_
      rw [if_pos c1]
      simp only [s.x.odds, s.x.band, bs, o.ob, if_true, a1, x1.band, b1.sz, sh]
      exact a2
    · have a2 := X9_home_35_s s.n w (t := tN t) (by omega)
      rw [← e1] at a2
      refine MR.i s ?_
      simp only [f_X9_home, (X9_inL t h).2.2.2.2.2.2.2.2.1, bs, c1, bi_t, one0, if_false, s.g.now, s.n.a0, sh]
      exact a2
  · rw [Bool.not_eq_true] at c1
    refine ⟨-2, T, I, X, F, kb K, p, fun h s => ?_, fun h s => ?_⟩
    · have e : f_X8_home 0 t h = f_X8_home_10 0 h := by
        unfold f_X8_home
        refine (rg _ _).trans ?_
        rw [if_neg (by rw [c1]; decide)]
      rw [e, f_X8_home_10, if_pos s.x.ob]
      exact (X8_badR s).bd
    · simp only [f_X9_home, (X9_inL t h).2.2.2.2.2.2.2.2.1, bs, c1, bi_f, if_true, s.g.ob]
      exact (X9_bad_s s (-2)).bd
theorem op_spy {T : Nat → Nat} {I : Nat → Bool × (Nat → Nat)} {X : (Nat → Int32) × Nat} (p : PU T I X) (F : Int64 × Int64) (K : Int32 × Int32 × Int32) (m : Int32) : OPB (f_X8_spy 0 m) (f_X9_spy 53 m) T I X F K := by
  have w := p.1.1
  by_cases c1 : mj_ok m (T 0) = true
  · obtain ⟨e1, l1, -⟩ := ok_c c1
    refine ⟨spyN T (tN m), T, I, X, F, K, p, fun h s => ?_, fun h s => ?_⟩
    · obtain ⟨h1, h2, h3, a0, a1, x1, a2, a3, x2, a4, a5, a6, a7, z⟩ := X8_spy_in s.y w l1
      rw [← e1] at a1
      refine XR.q s z ?_
      by_cases q : sm (noSpy (tw T (tN m))) 6 = 0
      · have a8 := a7 (60 : Int32)
        rw [← e1] at a8
        rw [decide_eq_true q] at a5
        rw [spyN, if_pos q]
        simp only [f_X8_spy, s.x.band, bs, s.b.ob, if_true, X0_has_s s.b, c1, bi_t, one0, if_false, s.x.trial, a0, a1, x1.trial, a2, a3, x2.trial, a4, a5, a8]
      · have a8 := a7 (nI (share (noSpy (tw T (tN m))) 3 false))
        rw [← e1] at a8
        rw [decide_eq_false q] at a5
        have a9 := a6 (by omega)
        rw [spyN, if_neg q]
        simp only [f_X8_spy, s.x.band, bs, s.b.ob, if_true, X0_has_s s.b, c1, bi_t, bi_f, one0, if_false, s.x.trial, a0, a1, x1.trial, a2, a3, x2.trial, a4, a5, a9, a8]
    · obtain ⟨h1, h2, h3, a1, g1, a2, g2, a3, a4, a5, z⟩ := X9_spy_in s.n w l1
      rw [← e1] at a2 a3 a4
      refine MR.q s z ?_
      have hB := sm_le (f := noSpy (tw T (tN m))) (n := 6) (noSpy_le w l1)
      have cz : lN (sm (noSpy (tw T (tN m))) 6) = (0 : Int64) ↔ sm (noSpy (tw T (tN m))) 6 = 0 := leq (by omega) (by decide)
      by_cases q : sm (noSpy (tw T (tN m))) 6 = 0
      · have a8 := a5 (60 : Int32)
        rw [← e1] at a8
        rw [spyN, if_pos q]
        simp only [f_X9_spy, s.g.ob, if_true, s.n.man w, bs, c1, bi_t, one0, if_false, a1, g1.day, a2, g2.day, a3]
        rw [if_pos (cz.mpr q)]
        exact a8
      · have a8 := a5 (nI (share (noSpy (tw T (tN m))) 3 false))
        rw [← e1] at a8
        have a9 := a4 (by omega)
        rw [spyN, if_neg q]
        simp only [f_X9_spy, s.g.ob, if_true, s.n.man w, bs, c1, bi_t, one0, if_false, a1, g1.day, a2, g2.day, a3]
        rw [if_neg (fun y => q (cz.mp y))]
        simp only [g2.day, bs, a9]
        exact a8
  · rw [Bool.not_eq_true] at c1
    refine ⟨-2, T, I, X, F, kb K, p, fun h s => ?_, fun h s => ?_⟩
    · simp only [f_X8_spy, s.x.band, bs, s.b.ob, if_true, X0_has_s s.b, c1, bi_f, s.x.ob]
      exact (X8_badR s).bd
    · simp only [f_X9_spy, s.g.ob, if_true, s.n.man w, bs, c1, bi_f]
      exact (X9_bad_s s (-2)).bd
theorem op_again {T : Nat → Nat} {I : Nat → Bool × (Nat → Nat)} {X : (Nat → Int32) × Nat} (p : PU T I X) (F : Int64 × Int64) (K : Int32 × Int32 × Int32) (m : Int32) : OPB (f_X8_again 0 m) (f_X9_again 53 m) T I X F K := by
  have w := p.1.1
  by_cases c1 : mj_ok m (T 0) = true
  · obtain ⟨e1, l1, -⟩ := ok_c c1
    refine ⟨nI (agN T (tN m)), T, I, X, F, K, p, fun h s => ?_, fun h s => ?_⟩
    · obtain ⟨h1, h2, a0, a1, x1, a2, a3, a4, a5, x2, a6, a7, z⟩ := X8_again_in s.y w l1
      rw [← e1] at a1 a3
      refine XR.q s z ?_
      simp only [f_X8_again, s.x.band, bs, s.b.ob, if_true, X0_has_s s.b, c1, bi_t, one0, if_false, s.x.trial, a0, a1, x1.trial, x1.band, a2, a3, a4, a5, x2.trial, a6, a7]
    · obtain ⟨h1, h2, a1, g1, a2, g2, a3, z⟩ := X9_again_in s.n w l1
      rw [← e1] at a2 a3
      refine MR.q s z ?_
      simp only [f_X9_again, s.g.ob, if_true, s.n.man w, bs, c1, bi_t, one0, if_false, a1, g1.day, a2, g2.day, a3]
  · rw [Bool.not_eq_true] at c1
    refine ⟨-2, T, I, X, F, kb K, p, fun h s => ?_, fun h s => ?_⟩
    · simp only [f_X8_again, s.x.band, bs, s.b.ob, if_true, X0_has_s s.b, c1, bi_f, s.x.ob]
      exact (X8_badR s).bd
    · simp only [f_X9_again, s.g.ob, if_true, s.n.man w, bs, c1, bi_f]
      exact (X9_bad_s s (-2)).bd
theorem op_looks {T : Nat → Nat} {I : Nat → Bool × (Nat → Nat)} {X : (Nat → Int32) × Nat} (p : PU T I X) (F : Int64 × Int64) (K : Int32 × Int32 × Int32) (m : Int32) (all : Bool) (t : Int32) : OPB (f_X8_looks 0 m (bi all) t) (f_X9_looks 53 m (bi all) t) T I X F K := by
  have w := p.1.1
  have w0 := w.1
  have hp := pow6 w0
  have rg := fun (A B : Option (Int32 × mj_H)) => rg2 (x := t) (n := 1) (by decide) A B
  by_cases c1 : mj_ok m (2 ^ T 0) = true
  · obtain ⟨e1, l1, -⟩ := ok_c c1
    have xe : ∀ h, XS h T I X F K → f_X8_looks 0 m (bi all) t h = if mj_ok t 2 = true then f_X8_looks_39 0 m (bi all) t (0 : Int32) (31 : Int32) (0 : Int32) h else f_X8_looks_20 0 h := fun h s => by
      simp only [f_X8_looks, s.x.band, bs, s.b.ob, if_true, X0_hasAll_s s.b, c1, bi_t, one0, if_false]
      exact rg _ _
    by_cases c2 : mj_ok t 2 = true
    · refine ⟨lkR T (tN m) all t, T, I, X, F, K, p, fun h s => ?_, fun h s => ?_⟩
      · have a1 := X8_looks_39_s s.x s.b w (men := tN m) (by omega) all t
        rw [← e1] at a1
        exact XR.i s (by rw [xe h s, if_pos c2]; exact a1)
      · have a1 := X9_looks_32_s s.n w (men := tN m) (by omega) all t
        rw [← e1] at a1
        refine MR.i s ?_
        simp only [f_X9_looks, s.g.ob, if_true, s.n.men w, bs, c1, bi_t, one0, if_false, X9_isTwo_s, c2]
        exact a1
    · rw [Bool.not_eq_true] at c2
      refine ⟨-10, T, I, X, F, kb K, p, fun h s => ?_, fun h s => ?_⟩
      · rw [xe h s, if_neg (by rw [c2]; decide), f_X8_looks_20, if_pos s.x.ob]
        exact (X8_bad s (-10)).bd
      · simp only [f_X9_looks, s.g.ob, if_true, s.n.men w, bs, c1, bi_t, one0, if_false, X9_isTwo_s, c2, bi_f, f_X9_looks_15]
        exact (X9_bad_s s (-10)).bd
  · rw [Bool.not_eq_true] at c1
    refine ⟨-10, T, I, X, F, kb K, p, fun h s => ?_, fun h s => ?_⟩
    · simp only [f_X8_looks, s.x.band, bs, s.b.ob, if_true, X0_hasAll_s s.b, c1, bi_f, f_X8_looks_20, s.x.ob]
      exact (X8_bad s (-10)).bd
    · simp only [f_X9_looks, s.g.ob, if_true, s.n.men w, bs, c1, bi_f, f_X9_looks_15]
      exact (X9_bad_s s (-10)).bd
theorem op_next {T : Nat → Nat} {I : Nat → Bool × (Nat → Nat)} {X : (Nat → Int32) × Nat} (p : PU T I X) (F : Int64 × Int64) (K : Int32 × Int32 × Int32) (m : Int32) : OPB (f_X8_next 0 m) (f_X9_next 53 m) T I X F K := by
  have w := p.1.1
  have w0 := w.1
  have hp := pow6 w0
  by_cases c1 : mj_ok m (2 ^ T 0) = true
  · obtain ⟨e1, l1, -⟩ := ok_c c1
    refine ⟨nxR (ffirst (opn T (tN m)) (T 0)), T, I, X, F, K, p, fun h s => ?_, fun h s => ?_⟩
    · have a1 := X8_next_22_s s.x s.b w (men := tN m) (by omega)
      rw [← e1] at a1
      refine XR.i s ?_
      simp only [f_X8_next, s.x.band, bs, s.b.ob, if_true, X0_hasAll_s s.b, c1, bi_t, one0, if_false]
      exact a1
    · have a1 := X9_next_17_s s.n w (men := tN m) (by omega)
      rw [← e1] at a1
      refine MR.i s ?_
      simp only [f_X9_next, s.g.ob, if_true, s.n.men w, bs, c1, bi_t, one0, if_false]
      exact a1
  · rw [Bool.not_eq_true] at c1
    refine ⟨-10, T, I, X, F, kb K, p, fun h s => ?_, fun h s => ?_⟩
    · simp only [f_X8_next, s.x.band, bs, s.b.ob, if_true, X0_hasAll_s s.b, c1, bi_f, s.x.ob]
      exact (X8_bad s (-10)).bd
    · simp only [f_X9_next, s.g.ob, if_true, s.n.men w, bs, c1, bi_f]
      exact (X9_bad_s s (-10)).bd
theorem op_boast {T : Nat → Nat} {I : Nat → Bool × (Nat → Nat)} {X : (Nat → Int32) × Nat} (p : PU T I X) (F : Int64 × Int64) (K : Int32 × Int32 × Int32) (a b t : Int32) : OPB (f_X8_boast 0 a b t) (f_X9_boast 53 a b t) T I X F K := by
  have w := p.1.1
  have w0 := w.1
  have t2 := w.t2
  have rg := fun (A B : Option (Int32 × mj_H)) => rg2 (x := t) (n := 1) (by decide) A B
  have bad : (mj_ok a (T 0) = false ∨ mj_ok b (T 0) = false ∨ a = b ∨ mj_ok t 2 = false) → OPB (f_X8_boast 0 a b t) (f_X9_boast 53 a b t) T I X F K := by
    intro hb
    have xe : ∀ h, XS h T I X F K → f_X8_boast 0 a b t h = f_X8_boast_36 0 h := fun h s => by
      unfold f_X8_boast
      simp only [s.x.band, bs, s.b.ob, if_true, X0_has_s s.b]
      cases q1 : mj_ok a (T 0)
      · simp only [bi_f, if_true]
      · cases q2 : mj_ok b (T 0)
        · simp only [bi_t, bi_f, one0, if_false, if_true]
        · by_cases q3 : a = b
          · simp only [bi_t, one0, if_false, q3, if_true]
          · simp only [bi_t, one0, if_false, q3]
            refine (rg _ _).trans ?_
            cases q4 : mj_ok t 2
            · rw [if_neg (by decide)]
            · rw [q1, q2, q4] at hb
              simp [q3] at hb
    have me : ∀ h, MS h T I X F K → f_X9_boast 53 a b t h = f_X9_boast_28 53 h := fun h s => by
      unfold f_X9_boast
      simp only [s.g.ob, if_true, s.n.man w, bs, X9_isTwo_s]
      cases q1 : mj_ok a (T 0)
      · simp only [bi_f, if_true]
      · cases q2 : mj_ok b (T 0)
        · simp only [bi_t, bi_f, one0, if_false, if_true]
        · by_cases q3 : a = b
          · simp only [bi_t, one0, if_false, q3, if_true]
          · cases q4 : mj_ok t 2
            · simp only [bi_t, bi_f, one0, if_false, q3, if_true]
            · rw [q1, q2, q4] at hb
              simp [q3] at hb
    refine ⟨-2, T, I, X, F, kb K, p, fun h s => ?_, fun h s => ?_⟩
    · rw [xe h s, f_X8_boast_36, if_pos s.x.ob]
      exact (X8_badR s).bd
    · rw [me h s, f_X9_boast_28, if_pos s.g.ob]
      exact (X9_bad_s s (-2)).bd
  cases c1 : mj_ok a (T 0)
  · exact bad (Or.inl c1)
  · cases c2 : mj_ok b (T 0)
    · exact bad (Or.inr (Or.inl c2))
    · by_cases c3 : a = b
      · exact bad (Or.inr (Or.inr (Or.inl c3)))
      · cases c4 : mj_ok t 2
        · exact bad (Or.inr (Or.inr (Or.inr c4)))
        · obtain ⟨e1, l1, -⟩ := ok_c c1
          obtain ⟨e2, l2, -⟩ := ok_c c2
          have xe : ∀ h, XS h T I X F K → f_X8_boast 0 a b t h = if know T (tN a) = true then (if know T (tN b) = true then f_X8_boast_81 0 a b t (0 : Int32) (-1 : Int32) (0 : Int32) h else f_X8_boast_65 0 h) else f_X8_boast_65 0 h := fun h s => by
            have a1 := X0_knows_s s.b w l1
            have a2 := X0_knows_s s.b w l2
            rw [← e1] at a1
            rw [← e2] at a2
            simp only [f_X8_boast, s.x.band, bs, s.b.ob, if_true, X0_has_s s.b, c1, c2, bi_t, one0, if_false, c3]
            refine (rg _ _).trans ?_
            rw [if_pos c4]
            simp only [a1, bs]
            cases know T (tN a)
            · simp only [bi_f, if_true, Bool.false_eq_true, if_false]
            · simp only [bi_t, one0, if_false, a2, bs, if_true, s.x.band, s.b.ob]
              cases know T (tN b)
              · simp only [bi_f, if_true, Bool.false_eq_true, if_false]
              · simp only [bi_t, one0, if_false, if_true]
          have me : ∀ h, MS h T I X F K → f_X9_boast 53 a b t h = if know T (tN a) = true then (if know T (tN b) = true then f_X9_boast_77 53 a b t (0 : Int32) (-1 : Int32) (3 : Int32) h else f_X9_boast_61 53 h) else f_X9_boast_61 53 h := fun h s => by
            have a1 := X9_has_s (s := T 2) (m := tN a) (by omega) (by omega) h
            have a2 := X9_has_s (s := T 2) (m := tN b) (by omega) (by omega) h
            rw [← e1] at a1
            rw [← e2] at a2
            have k1 : (T 2).testBit (tN a) = know T (tN a) := rfl
            have k2 : (T 2).testBit (tN b) = know T (tN b) := rfl
            rw [k1] at a1
            rw [k2] at a2
            simp only [f_X9_boast, s.g.ob, if_true, s.n.man w, bs, X9_isTwo_s, c1, c2, bi_t, one0, if_false, c3, c4, s.g.now, s.n.a2, a1]
            cases know T (tN a)
            · simp only [bi_f, if_true, Bool.false_eq_true, if_false]
            · simp only [bi_t, one0, if_false, a2, bs, if_true]
              cases know T (tN b)
              · simp only [bi_f, if_true, Bool.false_eq_true, if_false]
              · simp only [bi_t, one0, if_false, if_true]
          by_cases q : know T (tN a) = true ∧ know T (tN b) = true
          · refine ⟨bsR t (bsU (both (trust T (tN a)) (trust T (tN b))) 4), T, I, X, F, K, p, fun h s => ?_, fun h s => ?_⟩
            · obtain ⟨h1, s1, a1⟩ := X8_boast_81_s s.x s.b w l1 l2 t
              rw [← e1, ← e2] at a1
              exact XR.q s (YX.s5 s.y s1) (by rw [xe h s, if_pos q.1, if_pos q.2]; exact a1)
            · have a1 := X9_boast_77_s s.n w l1 l2 t
              rw [← e1, ← e2] at a1
              exact MR.i s (by rw [me h s, if_pos q.1, if_pos q.2]; exact a1)
          · refine ⟨-3, T, I, X, F, kn K, p, fun h s => ?_, fun h s => ?_⟩
            · have e : f_X8_boast 0 a b t h = f_X8_boast_65 0 h := by
                rw [xe h s]
                split
                · rename_i q1
                  rw [if_neg (fun y => q ⟨q1, y⟩)]
                · rfl
              rw [e, f_X8_boast_65, if_pos s.x.ob]
              exact (X8_noR s).bd
            · have e : f_X9_boast 53 a b t h = f_X9_boast_61 53 h := by
                rw [me h s]
                split
                · rename_i q1
                  rw [if_neg (fun y => q ⟨q1, y⟩)]
                · rfl
              rw [e, f_X9_boast_61, if_pos s.g.ob]
              exact (X9_no_s s (-3)).bd
theorem op_drawn {T : Nat → Nat} {I : Nat → Bool × (Nat → Nat)} {X : (Nat → Int32) × Nat} (p : PU T I X) (F : Int64 × Int64) (K : Int32 × Int32 × Int32) (m n d : Int32) : OPB (f_X8_drawn 0 m n d) (f_X9_drawn 53 m n d) T I X F K := by
  have w := p.1.1
  have w0 := w.1
  have hp := pow6 w0
  have rg := fun (A B : Option (Int32 × mj_H)) => rg1 (x := n) (n := 30) (by decide) A B
  have rh := fun (A B : Option (Int32 × mj_H)) => rg2 (x := d) (n := 999999) (by decide) A B
  have xe : ∀ h, XS h T I X F K → ∀ h1, f_X2_seeNow 43 1 h = some h1 → f_X8_drawn 0 m n d h = if mj_ok m (2 ^ T 0) = true then (if mj_ok n 31 = true then (if mj_ok d 1000000 = true then f_X8_drawn_60 0 m n d.toInt64 (0 : Int32) (0 : Int32) h1 else f_X8_drawn_32 0 h) else f_X8_drawn_32 0 h) else f_X8_drawn_32 0 h := fun h s h1 a1 => by
    obtain ⟨tr, bm, o⟩ := s.y.2.2.1
    simp only [f_X8_drawn, s.x.band, bs, s.b.ob, if_true, X0_hasAll_s s.b, s.x.odds, o.ob, a1]
    cases mj_ok m (2 ^ T 0)
    · simp only [bi_f, if_true, Bool.false_eq_true, if_false]
    · simp only [bi_t, one0, if_false, if_true]
      refine (rg _ _).trans ?_
      split
      · exact rh _ _
      · rfl
  have me : ∀ h, MS h T I X F K → f_X9_drawn 53 m n d h = if mj_ok m (2 ^ T 0) = true then (if mj_ok n 31 = true then (if mj_ok d 1000000 = true then f_X9_drawn_49 53 m n d.toInt64 (0 : Int32) (0 : Int32) h else f_X9_drawn_32 53 h) else f_X9_drawn_32 53 h) else f_X9_drawn_32 53 h := fun h s => by
    simp only [f_X9_drawn, s.g.ob, if_true, s.n.men w, bs, (X9_inL n h).2.2.2.2.2.2.2.2.2.1, (X9_inL d h).2.2.2.2.2.2.2.2.2.2.1]
    cases mj_ok m (2 ^ T 0)
    · simp only [bi_f, if_true, Bool.false_eq_true, if_false]
    · cases mj_ok n 31
      · simp only [bi_t, bi_f, one0, if_true, Bool.false_eq_true, if_false]
      · cases mj_ok d 1000000
        · simp only [bi_t, bi_f, one0, if_true, Bool.false_eq_true, if_false]
        · simp only [bi_t, one0, if_true, if_false]
  by_cases c : mj_ok m (2 ^ T 0) = true ∧ mj_ok n 31 = true ∧ mj_ok d 1000000 = true
  · obtain ⟨c1, c2, c3⟩ := c
    obtain ⟨e1, l1, -⟩ := ok_c c1
    obtain ⟨e2, l2, -⟩ := ok_c c2
    refine ⟨(drO T (tN m) d.toInt64 (tN n)).2, T, I, X, F, K, p, fun h s => ?_, fun h s => ?_⟩
    · obtain ⟨tr, bm, o⟩ := s.y.2.2.1
      obtain ⟨h1, a1, b1, o1, f1⟩ := X2_seeNow_s s.b w o
      have z : YX h h1 T := YX.od s.y b1 o1 (fun i i1 i2 i3 i4 => f1 i i1 i3)
      have x1 := (s.y.yx z).1
      have a2 := X8_drawn_60_s x1 b1 w o1 (men := tN m) (N := tN n) (by omega) (by omega) d.toInt64
      rw [← e1, ← e2] at a2
      exact XR.q s z (by rw [xe h s h1 a1, if_pos c1, if_pos c2, if_pos c3]; exact a2)
    · have a2 := X9_drawn_49_s s.n w (men := tN m) (N := tN n) (by omega) (by omega) d.toInt64
      rw [← e1, ← e2] at a2
      exact MR.i s (by rw [me h s, if_pos c1, if_pos c2, if_pos c3]; exact a2)
  · refine ⟨-2, T, I, X, F, kb K, p, fun h s => ?_, fun h s => ?_⟩
    · obtain ⟨tr, bm, o⟩ := s.y.2.2.1
      obtain ⟨h1, a1, -⟩ := X2_seeNow_s s.b w o
      have e : f_X8_drawn 0 m n d h = f_X8_drawn_32 0 h := by
        rw [xe h s h1 a1]
        split
        · rename_i q1
          split
          · rename_i q2
            rw [if_neg (fun y => c ⟨q1, q2, y⟩)]
          · rfl
        · rfl
      rw [e, f_X8_drawn_32, if_pos s.x.ob]
      exact (X8_badR s).bd
    · have e : f_X9_drawn 53 m n d h = f_X9_drawn_32 53 h := by
        rw [me h s]
        split
        · rename_i q1
          split
          · rename_i q2
            rw [if_neg (fun y => c ⟨q1, q2, y⟩)]
          · rfl
        · rfl
      rw [e, f_X9_drawn_32, if_pos s.g.ob]
      exact (X9_bad_s s (-2)).bd
theorem XS.rd {h : mj_H} {T : Nat → Nat} {I : Nat → Bool × (Nat → Nat)} {X : (Nat → Int32) × Nat} {F : Int64 × Int64} {K : Int32 × Int32 × Int32} (s : XS h T I X F K) : mj_gI h 7 3 4 = some (nI (T 3)) ∧ mj_gR h 33 4 0 = some 34 ∧ mj_gI h 34 7 1 = some (nI X.2) ∧ mj_gJ h 0 8 9 = some F.1 ∧ mj_gJ h 0 8 10 = some F.2 := by
  obtain ⟨s1, s2, ⟨o, o1, o2, o3, -⟩, s4, s5, ⟨⟨pl, st, tk, vl, it, im, r1⟩, r2, -⟩, s7⟩ := s
  exact ⟨gI_r o3 rfl, gR_r r1 rfl, gI_r r2 rfl, gJ_r s1 rfl, gJ_r s1 rfl⟩
theorem MS.rd {h : mj_H} {T : Nat → Nat} {I : Nat → Bool × (Nat → Nat)} {X : (Nat → Int32) × Nat} {F : Int64 × Int64} {K : Int32 × Int32 × Int32} (s : MS h T I X F K) : mj_gI h 53 9 4 = some (nI X.2) ∧ mj_gJ h 53 9 5 = some F.1 ∧ mj_gJ h 53 9 6 = some F.2 := by
  obtain ⟨⟨a, b, t, v, l, im, o⟩, -⟩ := s
  exact ⟨gI_r o rfl, gJ_r o rfl, gJ_r o rfl⟩
theorem op_part {T : Nat → Nat} {I : Nat → Bool × (Nat → Nat)} {X : (Nat → Int32) × Nat} (p : PU T I X) (F : Int64 × Int64) (K : Int32 × Int32 × Int32) (t : Int32) : OPB (f_X8_part 0 t) (f_X9_part 53 t) T I X F K := by
  have rg := fun (A B : Option (Int64 × mj_H)) => rg2 (x := t) (n := 1) (by decide) A B
  have z10 : ¬ (1 : Int32) = 0 := by decide
  by_cases c1 : mj_ok t 2 = true
  · obtain ⟨e1, l1, -⟩ := ok_c c1
    have hh : tN t = 0 ∨ tN t = 1 := by omega
    rcases hh with q | q
    · rw [q] at e1
      have e0 : t = 0 := e1
      refine ⟨F.1, T, I, X, F, K, p, fun h s => XR.i s ?_, fun h s => MR.i s ?_⟩
      · unfold f_X8_part
        refine (rg _ _).trans ?_
        rw [if_pos c1, if_pos e0, s.rd.2.2.2.1]
        rfl
      · rw [f_X9_part, if_pos e0, s.rd.2.1]
        rfl
    · rw [q] at e1
      have e0 : t = 1 := e1
      have e2 : ¬ t = 0 := by rw [e0]; decide
      refine ⟨F.2, T, I, X, F, K, p, fun h s => XR.i s ?_, fun h s => MR.i s ?_⟩
      · unfold f_X8_part
        refine (rg _ _).trans ?_
        rw [if_pos c1, if_neg e2, s.rd.2.2.2.2]
        rfl
      · rw [f_X9_part, if_neg e2, if_pos e0, s.rd.2.2]
        rfl
  · rw [Bool.not_eq_true] at c1
    have e0 : ¬ t = 0 := fun y => by rw [y] at c1; exact absurd c1 (by decide)
    have e1 : ¬ t = 1 := fun y => by rw [y] at c1; exact absurd c1 (by decide)
    refine ⟨(-2 : Int32).toInt64, T, I, X, F, kb K, p, fun h s => ?_, fun h s => ?_⟩
    · have e : f_X8_part 0 t h = f_X8_part_9 0 h := by
        unfold f_X8_part
        refine (rg _ _).trans ?_
        rw [if_neg (by rw [c1]; decide)]
      rw [e, f_X8_part_9, if_pos s.x.ob]
      exact (X8_badR s).bd64
    · rw [f_X9_part, if_neg e0, if_neg e1, if_pos s.g.ob]
      exact (X9_bad_s s (-2)).bd64
theorem op_status {T : Nat → Nat} {I : Nat → Bool × (Nat → Nat)} {X : (Nat → Int32) × Nat} (p : PU T I X) (F : Int64 × Int64) (K : Int32 × Int32 × Int32) (t : Int32) : OPB (f_X8_status 0 t) (f_X9_status 53 t) T I X F K := by
  by_cases c1 : mj_ok t 3 = true
  · obtain ⟨e1, l1, -⟩ := ok_c c1
    have hh : tN t = 0 ∨ tN t = 1 ∨ tN t = 2 := by omega
    rcases hh with q | q | q
    · rw [q] at e1
      have e0 : t = 0 := e1
      refine ⟨K.1, T, I, X, F, K, p, fun h s => XR.i s ?_, fun h s => MR.i s ?_⟩
      · rw [f_X8_status, if_pos e0, gI_r s.1 (k := 11) rfl]
        rfl
      · obtain ⟨⟨h', a1, -⟩, -⟩ := M_bump s
        simp only [f_X9_status, (X9_inL t h).2.2.2.2.2.2.2.2.2.2.2, bs, c1, bi_t, one0, if_false, s.g.refs]
        rw [e0, a1]
        rfl
    · rw [q] at e1
      have e0 : t = 1 := e1
      have z0 : ¬ t = 0 := by rw [e0]; decide
      refine ⟨K.2.1, T, I, X, F, K, p, fun h s => XR.i s ?_, fun h s => MR.i s ?_⟩
      · rw [f_X8_status, if_neg z0, if_pos e0, gI_r s.1 (k := 12) rfl]
        rfl
      · obtain ⟨-, ⟨h', a1, -⟩, -⟩ := M_bump s
        simp only [f_X9_status, (X9_inL t h).2.2.2.2.2.2.2.2.2.2.2, bs, c1, bi_t, one0, if_false, s.g.refs]
        rw [e0, a1]
        rfl
    · rw [q] at e1
      have e0 : t = 2 := e1
      have z0 : ¬ t = 0 := by rw [e0]; decide
      have z1 : ¬ t = 1 := by rw [e0]; decide
      refine ⟨K.2.2, T, I, X, F, K, p, fun h s => XR.i s ?_, fun h s => MR.i s ?_⟩
      · rw [f_X8_status, if_neg z0, if_neg z1, if_pos e0, gI_r s.1 (k := 13) rfl]
        rfl
      · obtain ⟨-, -, h', a1, -⟩ := M_bump s
        simp only [f_X9_status, (X9_inL t h).2.2.2.2.2.2.2.2.2.2.2, bs, c1, bi_t, one0, if_false, s.g.refs]
        rw [e0, a1]
        rfl
  · rw [Bool.not_eq_true] at c1
    have z0 : ¬ t = 0 := fun y => by rw [y] at c1; exact absurd c1 (by decide)
    have z1 : ¬ t = 1 := fun y => by rw [y] at c1; exact absurd c1 (by decide)
    have z2 : ¬ t = 2 := fun y => by rw [y] at c1; exact absurd c1 (by decide)
    refine ⟨-1, T, I, X, F, kb K, p, fun h s => ?_, fun h s => ?_⟩
    · rw [f_X8_status, if_neg z0, if_neg z1, if_neg z2, if_pos s.x.ob]
      exact (X8_bad s (-1)).bd
    · simp only [f_X9_status, (X9_inL t h).2.2.2.2.2.2.2.2.2.2.2, bs, c1, bi_f, if_true, s.g.ob]
      exact (X9_bad_s s (-1)).bd
theorem op_count {T : Nat → Nat} {I : Nat → Bool × (Nat → Nat)} {X : (Nat → Int32) × Nat} (p : PU T I X) (F : Int64 × Int64) (K : Int32 × Int32 × Int32) (t : Int32) : OPB (f_X8_count 0 t) (f_X9_count 53 t) T I X F K := by
  have w := p.1.1
  have rg := fun (A B : Option (Int32 × mj_H)) => rg2 (x := t) (n := 5) (by decide) A B
  by_cases c1 : mj_ok t 6 = true
  · obtain ⟨e1, l1, -⟩ := ok_c c1
    refine ⟨nI (cnt T X.2 (tN t)), T, I, X, F, K, p, fun h s => XR.i s ?_, fun h s => MR.i s ?_⟩
    · obtain ⟨d1, d2, d3, -⟩ := s.rd
      have a1 := X8_howMany_s s.x s.b w d1 d2 d3 l1
      rw [← e1] at a1
      unfold f_X8_count
      refine (rg _ _).trans ?_
      rw [if_pos c1, if_pos s.x.ob, a1]
      rfl
    · have a1 := X9_counted_s s.n w s.rd.1 l1
      rw [← e1] at a1
      simp only [f_X9_count, (X9_inL t h).2.2.2.2.1, bs, c1, bi_t, one0, if_false, s.g.ob, if_true, a1]
  · rw [Bool.not_eq_true] at c1
    refine ⟨-2, T, I, X, F, kb K, p, fun h s => ?_, fun h s => ?_⟩
    · have e : f_X8_count 0 t h = f_X8_count_9 0 h := by
        unfold f_X8_count
        refine (rg _ _).trans ?_
        rw [if_neg (by rw [c1]; decide)]
      rw [e, f_X8_count_9, if_pos s.x.ob]
      exact (X8_badR s).bd
    · simp only [f_X9_count, (X9_inL t h).2.2.2.2.1, bs, c1, bi_f, if_true, s.g.ob]
      exact (X9_bad_s s (-2)).bd
theorem op_digest {T : Nat → Nat} {I : Nat → Bool × (Nat → Nat)} {X : (Nat → Int32) × Nat} (p : PU T I X) (F : Int64 × Int64) (K : Int32 × Int32 × Int32) : OPB (f_X8_digest 0) (f_X9_digest 53) T I X F K := by
  have w := p.1.1
  refine ⟨dgR T X.2 F, T, I, X, F, K, p, fun h s => XR.i s ?_, fun h s => MR.i s ?_⟩
  · obtain ⟨d1, d2, d3, d4, d5⟩ := s.rd
    exact X8_digest_s s.x s.b w p.2.2.1 d1 d2 d3 d4 d5
  · exact X9_digest_s s.n w p.2.2.1 s.rd.1 s.rd.2.1 s.rd.2.2
