/-! PURE: test, undo, image, from -/
def lay1 (S : Nat → Nat) (n : Nat) : Nat → Nat := fun j => if j = 3 then n + 1 else layS S S n j
theorem X9_rem57_s {h : mj_H} {f : Nat → Int32} {S : Nat → Nat} {n : Nat} (g : MG h) (hf : h[54]? = some (cI 356 f)) (e : NT f S) (hn : n < 8) (e3 : S 3 = n) : ∃ f', f_X9_remember_57 53 h = some (h.set 54 (cI 356 f')) ∧ NT f' (lay1 S n) := by
  have a3 := aI_r hf (show 3 < 356 by decide) (by decide)
  rw [e 3 (by decide), e3, show nI 3 = (3 : Int32) from rfl] at a3
  have a1 := aI_r hf (show 1 < 356 by decide) (by decide)
  rw [e 1 (by decide), show nI 1 = (1 : Int32) from rfl] at a1
  have i52 : (52 : Int32) + (38 : Int32) * nI n = nI (52 + 38 * n) := by
    rw [show (52 : Int32) = nI 52 from rfl, show (38 : Int32) = nI 38 from rfl, pk_mul, nI_add]
  have i53 : nI (52 + 38 * n) + (1 : Int32) = nI (53 + 38 * n) := by rw [nI_1]; congr 1; omega
  have i54 : nI (52 + 38 * n) + (2 : Int32) = nI (54 + 38 * n) := by
    rw [show (2 : Int32) = nI 2 from rfl, nI_add]; congr 1; omega
  have u1 := uI_r (nI (S 1)) hf (show 52 + 38 * n < 356 by omega) (by decide)
  obtain ⟨G1, hG1⟩ : ∃ G, G = upd f (52 + 38 * n) (nI (S 1)) := ⟨_, rfl⟩
  rw [← hG1] at u1
  have g1 := g.set (k := 54) (c := cI 356 G1) (by decide)
  have c1 := get_self (c := cI 356 G1) hf
  have a2 := aI_r c1 (show 2 < 356 by decide) (by decide)
  have G12 : G1 2 = nI (S 2) := by rw [hG1]; unfold upd; rw [if_neg (by omega)]; exact e 2 (by decide)
  rw [G12, show nI 2 = (2 : Int32) from rfl] at a2
  have u2 := uI_r (nI (S 2)) c1 (show 53 + 38 * n < 356 by omega) (by decide)
  obtain ⟨G2, hG2⟩ : ∃ G, G = upd G1 (53 + 38 * n) (nI (S 2)) := ⟨_, rfl⟩
  rw [List.set_set, ← hG2] at u2
  have g2 := g.set (k := 54) (c := cI 356 G2) (by decide)
  have c2 := get_self (c := cI 356 G2) hf
  have cp := X9_copies_self (s := 16) (d := 54 + 38 * n) (c := 36) c2 (by decide) (by omega) (by omega) (by decide) (by decide)
  obtain ⟨G3, hG3⟩ : ∃ G, G = fill2 (fun k => G2 (16 + k)) G2 (54 + 38 * n) 36 := ⟨_, rfl⟩
  rw [List.set_set, ← hG3, show nI 16 = (16 : Int32) from rfl, show nI 36 = (36 : Int32) from rfl] at cp
  have g3 := g.set (k := 54) (c := cI 356 G3) (by decide)
  have c3 := get_self (c := cI 356 G3) hf
  have lo : ∀ j, j < 52 → G3 j = nI (S j) := fun j hj => by
    rw [hG3, fill2_out (by omega), hG2]
    show upd G1 _ _ j = _
    unfold upd
    rw [if_neg (by omega), hG1]
    unfold upd
    rw [if_neg (by omega)]; exact e j (by omega)
  have a3' := aI_r c3 (show 3 < 356 by decide) (by decide)
  rw [lo 3 (by decide), e3, show nI 3 = (3 : Int32) from rfl] at a3'
  have u3 := uI_r (nI (n + 1)) c3 (show 3 < 356 by decide) (by decide)
  rw [List.set_set, show nI 3 = (3 : Int32) from rfl] at u3
  refine ⟨upd G3 3 (nI (n + 1)), ?_, fun j hj => ?_⟩
  · simp only [f_X9_remember_57, g.now, bs, a3, a1, i52, u1, g1.now, a2, i53, u2, g2.now, i54, cp, g3.now, a3', nI_1, u3]
  · unfold lay1
    by_cases j3 : j = 3
    · subst j3; simp [upd]
    · rw [if_neg j3]
      have : upd G3 3 (nI (n + 1)) j = G3 j := by unfold upd; rw [if_neg j3]
      rw [this]
      unfold layS
      by_cases q1 : j < 52 + 38 * n
      · rw [if_pos q1, hG3, fill2_out (by omega), hG2]
        show upd G1 _ _ j = _
        unfold upd
        rw [if_neg (by omega), hG1]
        unfold upd
        rw [if_neg (by omega)]; exact e j hj
      · rw [if_neg q1]
        by_cases q2 : j = 52 + 38 * n
        · rw [if_pos q2, hG3, fill2_out (by omega), hG2]
          show upd G1 _ _ j = _
          unfold upd
          rw [if_neg (by omega), hG1]
          unfold upd
          rw [if_pos q2]
        · rw [if_neg q2]
          by_cases q3 : j = 53 + 38 * n
          · rw [if_pos q3, hG3, fill2_out (by omega), hG2]
            show upd G1 _ _ j = _
            unfold upd
            rw [if_pos q3]
          · rw [if_neg q3]
            by_cases q4 : j < 54 + 38 * n + 36
            · rw [if_pos q4, hG3, fill2_in (by omega) (by omega)]
              show G2 (16 + (j - (54 + 38 * n))) = _
              rw [hG2]
              unfold upd
              rw [if_neg (by omega), hG1]
              unfold upd
              rw [if_neg (by omega)]; exact e _ (by omega)
            · rw [if_neg q4, hG3, fill2_out (by omega), hG2]
              show upd G1 _ _ j = _
              unfold upd
              rw [if_neg (by omega), hG1]
              unfold upd
              rw [if_neg (by omega)]; exact e j hj
theorem X9_remember_s {h : mj_H} {f : Nat → Int32} {T : Nat → Nat} (g : MG h) (hf : h[54]? = some (cI 356 f)) (e : NT f T) (w : WF T) : ∃ f', f_X9_remember 53 h = some (h.set 54 (cI 356 f')) ∧ NT f' (pushT T) := by
  have w3 := w.2.2.2.1
  have a3 := aI_r hf (show 3 < 356 by decide) (by decide)
  rw [e 3 (by decide), show nI 3 = (3 : Int32) from rfl] at a3
  have z8 : nI (T 3) = (8 : Int32) ↔ T 3 = 8 := nI_eq (by omega) (by decide)
  by_cases q : T 3 = 8
  · obtain ⟨G, hG⟩ : ∃ G : Nat → Nat → Int32, G = fun i j => if 52 ≤ j ∧ j < 52 + i then f (j + 38) else f j := ⟨_, rfl⟩
    have G0 : G 0 = f := by rw [hG]; funext j; show (if _ then _ else _) = _; rw [if_neg (by omega)]
    have Gi : ∀ i, upd (G i) (52 + i) (f (52 + i + 38)) = G (i + 1) := fun i => by
      rw [hG]; funext j
      show upd (fun j => if 52 ≤ j ∧ j < 52 + i then f (j + 38) else f j) (52 + i) (f (52 + i + 38)) j = if 52 ≤ j ∧ j < 52 + (i + 1) then f (j + 38) else f j
      unfold upd
      by_cases z : j = 52 + i
      · subst z; rw [if_pos rfl, if_pos (by omega)]
      · rw [if_neg z]
        show (if 52 ≤ j ∧ j < 52 + i then f (j + 38) else f j) = _
        by_cases z2 : 52 ≤ j ∧ j < 52 + i
        · rw [if_pos z2, if_pos (by omega)]
        · rw [if_neg z2, if_neg (by omega)]
    have key : ∃ f', f_X9_remember_13 53 (0 : Int32) h = some (h.set 54 (cI 356 f')) ∧ NT f' (pushT T) := by
      have G3 : G 266 3 = nI 8 := by
        rw [hG]; show (if 52 ≤ 3 ∧ 3 < 52 + 266 then f (3 + 38) else f 3) = _
        rw [if_neg (by omega), e 3 (by decide), q]
      have c1 := get_self (c := cI 356 (G 266)) hf
      have g1 := g.set (k := 54) (c := cI 356 (G 266)) (by decide)
      have r3 := aI_r c1 (show 3 < 356 by decide) (by decide)
      rw [G3, show nI 3 = (3 : Int32) from rfl] at r3
      have u3 := uI_r (nI 7) c1 (show 3 < 356 by decide) (by decide)
      rw [List.set_set, show nI 3 = (3 : Int32) from rfl] at u3
      have g2 := g.set (k := 54) (c := cI 356 (upd (G 266) 3 (nI 7))) (by decide)
      have c2 := get_self (c := cI 356 (upd (G 266) 3 (nI 7))) hf
      obtain ⟨S, hS⟩ : ∃ S : Nat → Nat, S = fun j => if j = 3 then 7 else if 52 ≤ j ∧ j < 318 then T (j + 38) else T j := ⟨_, rfl⟩
      have eS : NT (upd (G 266) 3 (nI 7)) S := fun j hj => by
        rw [hS]
        show upd (G 266) 3 (nI 7) j = nI (if j = 3 then 7 else if 52 ≤ j ∧ j < 318 then T (j + 38) else T j)
        unfold upd
        by_cases j3 : j = 3
        · rw [if_pos j3, if_pos j3]
        · rw [if_neg j3, if_neg j3, hG]
          show (if 52 ≤ j ∧ j < 52 + 266 then f (j + 38) else f j) = _
          by_cases z : 52 ≤ j ∧ j < 318
          · rw [if_pos (by omega), if_pos z]; exact e _ (by omega)
          · rw [if_neg (by omega), if_neg z]; exact e j hj
      obtain ⟨f', b1, b2⟩ := X9_rem57_s g2 c2 eS (show 7 < 8 by decide) (by rw [hS]; rfl)
      rw [List.set_set] at b1
      refine ⟨f', ?_, fun j hj => ?_⟩
      · rw [← b1]
        unfold f_X9_remember_13
        have h0 : ((53 : Nat), (0 : Int32), h) = (fun i => (53, nI i, h.set 54 (cI 356 (G i)))) 0 := by
          show _ = (53, nI 0, h.set 54 (cI 356 (G 0)))
          rw [G0, set_same hf]; rfl
        rw [h0]
        refine fix_iter (st := fun i => ((53 : Nat), nI i, h.set 54 (cI 356 (G i)))) 266 _ (fun i hi K => ?_) (fun K => ?_) 1000 (by decide)
        · have g3 := g.set (k := 54) (c := cI 356 (G i)) (by decide)
          have c3 := get_self (c := cI 356 (G i)) hf
          have ci : ¬ (266 : Int32) ≤ nI i := nI_ge (b := 266) hi (by decide)
          have r := aI_r c3 (show 52 + i + 38 < 356 by omega) (by decide)
          have Gv : G i (52 + i + 38) = f (52 + i + 38) := by
            rw [hG]; show (if _ then _ else _) = _; rw [if_neg (by omega)]
          rw [Gv] at r
          have u := uI_r (f (52 + i + 38)) c3 (show 52 + i < 356 by omega) (by decide)
          rw [Gi, List.set_set] at u
          show b_X9_remember_13 _ 53 (nI i) (h.set 54 (cI 356 (G i))) = K (53, nI (i + 1), h.set 54 (cI 356 (G (i + 1))))
          simp only [b_X9_remember_13, ci, if_false, g3.now, bs, show (52 : Int32) = nI 52 from rfl, show (38 : Int32) = nI 38 from rfl, nI_add, r, u, nI_1]
        · have ci : (266 : Int32) ≤ nI 266 := by decide
          have e7 : nI 8 - (1 : Int32) = nI 7 := by decide
          show b_X9_remember_13 _ 53 (nI 266) (h.set 54 (cI 356 (G 266))) = _
          simp only [b_X9_remember_13, ci, if_true, g1.now, bs, r3, e7, u3]
      · rw [b2 j hj]
        unfold lay1 pushT
        by_cases j3 : j = 3
        · rw [if_pos j3, if_pos j3, if_pos q]
        · rw [if_neg j3, if_neg j3]
          have Sj : ∀ i, i ≠ 3 → ¬ (52 ≤ i ∧ i < 318) → S i = T i := fun i h1 h2 => by rw [hS]; show (if _ then _ else _) = _; rw [if_neg h1, if_neg h2]
          have Sd : ∀ i, 52 ≤ i → i < 318 → S i = T (i + 38) := fun i h1 h2 => by rw [hS]; show (if _ then _ else _) = _; rw [if_neg (by omega), if_pos (by omega)]
          by_cases jl : j < 52
          · rw [if_pos jl]; unfold layS; rw [if_pos (by omega), Sj j j3 (by omega)]
          · rw [if_neg jl, if_pos q]
            unfold layS
            by_cases z1 : j < 52 + 38 * 7
            · rw [if_pos z1, if_pos z1, Sd j (by omega) (by omega)]; rfl
            · rw [if_neg z1, if_neg z1]
              by_cases z2 : j = 52 + 38 * 7
              · rw [if_pos z2, if_pos z2, Sj 1 (by decide) (by omega)]
              · rw [if_neg z2, if_neg z2]
                by_cases z3 : j = 53 + 38 * 7
                · rw [if_pos z3, if_pos z3, Sj 2 (by decide) (by omega)]
                · rw [if_neg z3, if_neg z3, if_pos (by omega), if_pos (by omega), Sj _ (by omega) (by omega)]
    obtain ⟨f', k1, k2⟩ := key
    refine ⟨f', ?_, k2⟩
    simp only [f_X9_remember, g.now, bs, a3]
    rw [if_pos (z8.mpr q)]
    exact k1
  · obtain ⟨f', b1, b2⟩ := X9_rem57_s g hf e (show T 3 < 8 by omega) rfl
    refine ⟨f', ?_, fun j hj => ?_⟩
    · simp only [f_X9_remember, g.now, bs, a3, z8, q, if_false]
      exact b1
    · rw [b2 j hj]
      unfold lay1 pushT
      by_cases j3 : j = 3
      · rw [if_pos j3, if_pos j3, if_neg q]
      · rw [if_neg j3, if_neg j3]
        by_cases jl : j < 52
        · rw [if_pos jl]; unfold layS; rw [if_pos (by omega)]
        · rw [if_neg jl, if_neg q]
theorem BN.co {h : mj_H} {p : Nat} {T S : Nat → Nat} (b : BN h p T) (e : ∀ j, j < 52 → j ≠ 3 → S j = T j) : BN h p S := by
  obtain ⟨b0, b1, ⟨w, b2, b3⟩, ⟨sg, b4, b5⟩, ⟨br, b6, b7⟩, b8, g, b9⟩ := b
  have e0 := e 0 (by decide) (by decide)
  unfold BN
  rw [e0, e 2 (by decide) (by decide), e 1 (by decide) (by decide)]
  exact ⟨b0, b1, ⟨w, b2, fun i hi => by rw [e _ (by omega) (by omega)]; exact b3 i hi⟩, ⟨sg, b4, fun m hm => by rw [e _ (by omega) (by omega)]; exact b5 m hm⟩, ⟨br, b6, fun m hm => by rw [e _ (by omega) (by omega)]; exact b7 m hm⟩, b8, g, b9⟩
def tstT (T : Nat → Nat) (m t : Nat) (b : Bool) : Nat → Nat := testT (pushT T) m t b
theorem pushT_0 (T : Nat → Nat) : pushT T 0 = T 0 := pushT_lo (by decide) (by decide)
theorem pushT_1 (T : Nat → Nat) : pushT T 1 = T 1 := pushT_lo (by decide) (by decide)
theorem op_test {T : Nat → Nat} {I : Nat → Bool × (Nat → Nat)} {X : (Nat → Int32) × Nat} (p : PU T I X) (F : Int64 × Int64) (K : Int32 × Int32 × Int32) (m t : Int32) (b : Bool) : OPB (f_X8_test 0 m t (bi b)) (f_X9_test 53 m t (bi b)) T I X F K := by
  have w := p.1.1
  have w0 := w.1
  have w1 := w.2.1
  by_cases c1 : mj_ok m (T 0) = true
  · by_cases c2 : mj_ok t 3 = true
    · obtain ⟨e1, l1, -⟩ := ok_c c1
      obtain ⟨e2, l2, -⟩ := ok_c c2
      have hc := cost_le (tN t)
      have d1 : nI (cost (tN t)) ≤ nI (T 1) ↔ cost (tN t) ≤ T 1 := nle_iff (by omega) (by omega)
      by_cases q1 : cost (tN t) ≤ T 1
      · have wp := p.1.push
        have l1' : tN m < pushT T 0 := by rw [pushT_0]; exact l1
        have wt := wp.tests l1' l2 b
        have l1'' : tN m < tstT T (tN m) (tN t) b 0 := by unfold tstT; rw [testT_0]; exact l1'
        refine ⟨nI (trust (tstT T (tN m) (tN t) b) (tN m)), tstT T (tN m) (tN t) b, I, X, F, K, p.t wt, fun h s => ?_, fun h s => ?_⟩
        · have ac := X8_costOf_s l2 h
          rw [← e2] at ac
          obtain ⟨h1, a1, a2, -, a3⟩ := X3_push_s s.b s.2.2.1
          have b1 : BN h1 1 (pushT T) := (s.b.fr (fun j h1 h2 => a3 j (by omega))).co (fun j h1 h2 => pushT_lo h1 h2)
          obtain ⟨h2, g1, g2, -, g3⟩ := X0_pass_s b1 wp.1 l1' l2 b (by rw [pushT_1]; exact q1)
          rw [← e1, ← e2] at g1
          have ps2 : PS h2 7 (tstT T (tN m) (tN t) b) := by
            have z := (a2.fr (h' := h2) (fun j h1 h2 => g3 j (by omega)))
            unfold PS at z ⊢
            unfold tstT
            rw [testT_0, testT_lo (j := 3) (by decide) (by decide) (by decide)]
            have p0 := pushT_0 T
            have p3 : pushT T 3 ≤ 8 := wp.1.2.2.2.1
            exact z.co (fun u hu => ⟨testT_hi wp.1.1 (by omega), testT_hi wp.1.1 (by omega), fun i hi => testT_hi wp.1.1 (by omega)⟩)
          have s2 := s.bn g2 ps2 (fun k hk => (g3 k (by omega)).trans (a3 k (by omega)))
          obtain ⟨h3, t1, t2⟩ := X0_trustOf_s s2.b wt.1 l1''
          rw [← e1] at t1
          have x1 : XG h1 := s.x.fr (a3 0 (by omega))
          have z := YX.s5 s2.y t2
          refine ⟨h3, ?_, s2.yx z, fun k hk => (z.2.2 k (by omega) (by omega)).trans ((g3 k (by omega)).trans (a3 k (by omega)))⟩
          have o7 : mj_ob h 7 3 = true := PSn.ob s.2.2.1
          simp only [f_X8_test, s.x.band, bs, s.b.ob, if_true, X0_has_s s.b, c1, bi_t, one0, if_false, X8_isTest_s, c2, s.b.dl, ac, d1, q1, s.x.past, o7, a1, x1.band, b1.ob, g1, s2.x.band, s2.b.ob, t1]
          rfl
        · have ac := X9_costOf_s l2 h
          rw [← e2] at ac
          obtain ⟨f, hf, e⟩ := s.2.1
          obtain ⟨f1, a1, a2⟩ := X9_remember_s s.g hf e w
          have s1 := s.nowT a2
          have c54 := get_self (c := cI 356 f1) hf
          obtain ⟨f2, g1, g2, g3⟩ := X9_tests_s c54 (by decide) (by decide) wp.1 (AT.of a2) l1' l2 b
          rw [List.set_set, ← e1, ← e2] at g1
          have nt : NT f2 (tstT T (tN m) (tN t) b) := fun j hj => by
            by_cases j1 : j = 1
            · subst j1
              rw [g3, a2 1 (by decide)]
              unfold tstT
              rw [testT_1, pushT_1, pk_sub q1]
            · exact g2 j hj j1
          have s2 := s.nowT nt
          have tr := s2.n.trust wt.1 l1''
          rw [← e1] at tr
          refine ⟨_, ?_, s2, fun k hk => List.getElem?_set_ne (by omega)⟩
          simp only [f_X9_test, s.g.ob, if_true, s.n.man w, bs, c1, bi_t, one0, if_false, X9_isTest_s, c2, s.g.now, s.n.a1, ac, d1, q1, a1, s1.g.now, g1, s2.g.now, tr]
      · refine ⟨-3, T, I, X, F, kn K, p, fun h s => ?_, fun h s => ?_⟩
        · have ac := X8_costOf_s l2 h
          rw [← e2] at ac
          simp only [f_X8_test, s.x.band, bs, s.b.ob, if_true, X0_has_s s.b, c1, bi_t, one0, if_false, X8_isTest_s, c2, s.b.dl, ac, d1, q1, s.x.ob]
          exact (X8_noR s).bd
        · have ac := X9_costOf_s l2 h
          rw [← e2] at ac
          simp only [f_X9_test, s.g.ob, if_true, s.n.man w, bs, c1, bi_t, one0, if_false, X9_isTest_s, c2, s.g.now, s.n.a1, ac, d1, q1]
          exact (X9_no_s s (-3)).bd
    · rw [Bool.not_eq_true] at c2
      refine ⟨-2, T, I, X, F, kb K, p, fun h s => ?_, fun h s => ?_⟩
      · simp only [f_X8_test, s.x.band, bs, s.b.ob, if_true, X0_has_s s.b, c1, bi_t, one0, if_false, X8_isTest_s, c2, bi_f, f_X8_test_18, s.x.ob]
        exact (X8_badR s).bd
      · simp only [f_X9_test, s.g.ob, if_true, s.n.man w, bs, c1, bi_t, one0, if_false, X9_isTest_s, c2, bi_f, f_X9_test_15]
        exact (X9_bad_s s (-2)).bd
  · rw [Bool.not_eq_true] at c1
    refine ⟨-2, T, I, X, F, kb K, p, fun h s => ?_, fun h s => ?_⟩
    · simp only [f_X8_test, s.x.band, bs, s.b.ob, if_true, X0_has_s s.b, c1, bi_f, f_X8_test_18, s.x.ob]
      exact (X8_badR s).bd
    · simp only [f_X9_test, s.g.ob, if_true, s.n.man w, bs, c1, bi_f, f_X9_test_15]
      exact (X9_bad_s s (-2)).bd
theorem op_undo {T : Nat → Nat} {I : Nat → Bool × (Nat → Nat)} {X : (Nat → Int32) × Nat} (p : PU T I X) (F : Int64 × Int64) (K : Int32 × Int32 × Int32) : OPB (f_X8_undo 0) (f_X9_undo 53) T I X F K := by
  have w := p.1.1
  have w3 := w.2.2.2.1
  rcases Nat.eq_zero_or_pos (T 3) with q | q
  · refine ⟨-3, T, I, X, F, kn K, p, fun h s => ?_, fun h s => ?_⟩
    · have a1 := (X3_pop_s s.b s.2.2.1).1 q
      have o7 : mj_ob h 7 3 = true := PSn.ob s.2.2.1
      simp only [f_X8_undo, s.x.past, s.x.band, bs, o7, if_true, a1, s.x.ob]
      exact (X8_noR s).bd
    · have a3 := s.n.a3
      rw [q, nI_0] at a3
      simp only [f_X9_undo, s.g.now, bs, a3, if_true, s.g.ob]
      exact (X9_no_s s (-3)).bd
  · refine ⟨1, popT T, I, X, F, K, p.t (p.1.pop q), fun h s => ?_, fun h s => ?_⟩
    · obtain ⟨h1, a1, a2, a4, -, a5⟩ := (X3_pop_s s.b s.2.2.1).2 q
      have o7 : mj_ob h 7 3 = true := PSn.ob s.2.2.1
      refine ⟨h1, ?_, s.bn a2 a4 a5, fun k hk => a5 k (by omega)⟩
      simp only [f_X8_undo, s.x.past, s.x.band, bs, o7, if_true, a1, one0, if_false]
    · obtain ⟨f, hf, e⟩ := s.2.1
      obtain ⟨n, hn⟩ : ∃ n, n = T 3 - 1 := ⟨_, rfl⟩
      have hn8 : n < 8 := by omega
      have a3 := s.n.a3
      have z0 : ¬ nI (T 3) = (0 : Int32) := nI_ne0 q (by omega)
      have dn : nI (T 3) - (1 : Int32) = nI n := by rw [n1, pk_sub (by omega), hn]
      have i52 : (52 : Int32) + (38 : Int32) * nI n = nI (52 + 38 * n) := by
        rw [show (52 : Int32) = nI 52 from rfl, show (38 : Int32) = nI 38 from rfl, pk_mul, nI_add]
      have i53 : nI (52 + 38 * n) + (1 : Int32) = nI (53 + 38 * n) := by rw [nI_1]; congr 1; omega
      have i54 : nI (52 + 38 * n) + (2 : Int32) = nI (54 + 38 * n) := by
        rw [show (2 : Int32) = nI 2 from rfl, nI_add]; congr 1; omega
      have u1 := uI_r (nI n) hf (show 3 < 356 by decide) (by decide)
      obtain ⟨G1, hG1⟩ : ∃ G, G = upd f 3 (nI n) := ⟨_, rfl⟩
      rw [← hG1, show nI 3 = (3 : Int32) from rfl] at u1
      have g1 := s.g.set (k := 54) (c := cI 356 G1) (by decide)
      have c1 := get_self (c := cI 356 G1) hf
      have G1v : ∀ j, j ≠ 3 → G1 j = f j := fun j hj => by rw [hG1]; unfold upd; rw [if_neg hj]
      have r3 := aI_r c1 (show 3 < 356 by decide) (by decide)
      rw [show G1 3 = nI n by rw [hG1]; simp [upd], show nI 3 = (3 : Int32) from rfl] at r3
      have r52 := aI_r c1 (show 52 + 38 * n < 356 by omega) (by decide)
      rw [G1v _ (by omega), e _ (by omega)] at r52
      have u2 := uI_r (nI (T (52 + 38 * n))) c1 (show 1 < 356 by decide) (by decide)
      obtain ⟨G2, hG2⟩ : ∃ G, G = upd G1 1 (nI (T (52 + 38 * n))) := ⟨_, rfl⟩
      rw [List.set_set, ← hG2, show nI 1 = (1 : Int32) from rfl] at u2
      have g2 := s.g.set (k := 54) (c := cI 356 G2) (by decide)
      have c2 := get_self (c := cI 356 G2) hf
      have G2v : ∀ j, j ≠ 1 → G2 j = G1 j := fun j hj => by rw [hG2]; unfold upd; rw [if_neg hj]
      have r53 := aI_r c2 (show 53 + 38 * n < 356 by omega) (by decide)
      rw [G2v _ (by omega), G1v _ (by omega), e _ (by omega)] at r53
      have u3 := uI_r (nI (T (53 + 38 * n))) c2 (show 2 < 356 by decide) (by decide)
      obtain ⟨G3, hG3⟩ : ∃ G, G = upd G2 2 (nI (T (53 + 38 * n))) := ⟨_, rfl⟩
      rw [List.set_set, ← hG3, show nI 2 = (2 : Int32) from rfl] at u3
      have g3 := s.g.set (k := 54) (c := cI 356 G3) (by decide)
      have c3 := get_self (c := cI 356 G3) hf
      have G3v : ∀ j, j ≠ 2 → G3 j = G2 j := fun j hj => by rw [hG3]; unfold upd; rw [if_neg hj]
      have cp := X9_copies_self (s := 54 + 38 * n) (d := 16) (c := 36) c3 (by omega) (by decide) (by omega) (by decide) (by decide)
      rw [List.set_set, show nI 16 = (16 : Int32) from rfl, show nI 36 = (36 : Int32) from rfl] at cp
      have nt : NT (fill2 (fun k => G3 (54 + 38 * n + k)) G3 16 36) (popT T) := fun j hj => by
        unfold popT
        rw [← hn]
        by_cases jw : 16 ≤ j ∧ j < 52
        · rw [fill2_in (by omega) (by omega), if_neg (by omega), if_neg (by omega), if_neg (by omega), if_pos jw]
          show G3 (54 + 38 * n + (j - 16)) = _
          rw [G3v _ (by omega), G2v _ (by omega), G1v _ (by omega)]
          exact e _ (by omega)
        · rw [fill2_out (by omega)]
          by_cases j3 : j = 3
          · subst j3
            rw [if_pos rfl, G3v _ (by decide), G2v _ (by decide), hG1]; simp [upd]
          · rw [if_neg j3]
            by_cases j1 : j = 1
            · subst j1
              rw [if_pos rfl, G3v _ (by decide), hG2]; simp [upd]
            · rw [if_neg j1]
              by_cases j2 : j = 2
              · subst j2
                rw [if_pos rfl, hG3]; simp [upd]
              · rw [if_neg j2, if_neg jw, G3v _ j2, G2v _ j1, G1v _ j3]
                exact e j hj
      refine ⟨_, ?_, s.nowT nt, fun k hk => List.getElem?_set_ne (by omega)⟩
      simp only [f_X9_undo, s.g.now, bs, a3, z0, if_false, dn, u1, g1.now, r3, i52, r52, u2, g2.now, i53, r53, u3, g3.now, i54, cp]
def putI (I : Nat → Bool × (Nat → Nat)) (i : Nat) (T : Nat → Nat) : Nat → Bool × (Nat → Nat) := fun k => if k = i then (true, T) else I k
theorem pos01 {x : Int32} (h : mj_ok x 2 = true) : x = 0 ∨ x = 1 := by
  obtain ⟨e, l, -⟩ := ok_c h
  have : tN x = 0 ∨ tN x = 1 := by omega
  rcases this with q | q
  · rw [q] at e; exact Or.inl e
  · rw [q] at e; exact Or.inr e
theorem X8_image_in {h : mj_H} {T : Nat → Nat} {I : Nat → Bool × (Nat → Nat)} {X : (Nat → Int32) × Nat} {F : Int64 × Int64} {K : Int32 × Int32 × Int32} (s : XS h T I X F K) (w0 : T 0 ≤ 6) {q : Nat} {k : Bool} {U : Nat → Nat} (hq : q = 11 ∨ q = 22) (m : IMG h q k U) : ∃ h1 h2 h3, mj_ob h (q + 1) 0 = true ∧ f_X0_become (q + 1) 1 h = some h1 ∧ XG h1 ∧ mj_gR h1 q 1 1 = some (q + 7) ∧ mj_ob h1 (q + 7) 3 = true ∧ f_X3_become (q + 7) 7 h1 = some h2 ∧ mj_sV h2 q 1 2 (.int 1) = some h3 ∧ IMG h3 q true T ∧ (∀ j, (j < q ∨ q + 11 ≤ j) → h3[j]? = h[j]?) := by
  obtain ⟨m1, m2, m3⟩ := m
  obtain ⟨h1, a1, a2, -, a3⟩ := X0_become_s m2 s.b (by omega)
  have x1 : XG h1 := s.x.fr (a3 0 (by omega))
  have i1 : h1[q]? = some (cO 1 [.ref (q + 1), .ref (q + 7), .int (bi k)]) := by rw [a3 q (by omega)]; exact m1
  have p1 : PS h1 (q + 7) U := m3.fr (fun j h1 h2 => a3 j (by omega))
  have p0 : PS h1 7 T := s.2.2.1.fr (fun j h1 h2 => a3 j (by omega))
  obtain ⟨h2, b1, b2, -, b3⟩ := X3_become_s p1 p0 w0 (by omega)
  have i2 : h2[q]? = some (cO 1 [.ref (q + 1), .ref (q + 7), .int (bi k)]) := by rw [b3 q (by omega)]; exact i1
  have u := sV_r (k := 2) (.int (1 : Int32)) i2 (by simp)
  have z : ∀ j, j ≠ q → (h2.set q (cO 1 ([Value.ref (q + 1), .ref (q + 7), .int (bi k)].set 2 (.int 1))))[j]? = h2[j]? := fun j hj => List.getElem?_set_ne (by omega)
  refine ⟨h1, h2, _, m2.ob, a1, x1, gR_r i1 rfl, PSn.ob p1, b1, u, ⟨get_self i2, ?_, ?_⟩, fun j hj => ?_⟩
  · exact (a2.fr (fun j h1 h2 => b3 j (by omega))).fr (fun j h1 h2 => z j (by omega))
  · exact b2.fr (fun j h1 h2 => z j (by omega))
  · rw [z j (by omega), b3 j (by omega), a3 j (by omega)]
theorem XS.im {h h' : mj_H} {T : Nat → Nat} {I I' : Nat → Bool × (Nat → Nat)} {X : (Nat → Int32) × Nat} {F : Int64 × Int64} {K : Int32 × Int32 × Int32} (s : XS h T I X F K) {q : Nat} (hq : q = 11 ∨ q = 22) (e : ∀ j, (j < q ∨ q + 11 ≤ j) → h'[j]? = h[j]?) (i1 : IMG h' 11 (I' 0).1 (I' 0).2) (i2 : IMG h' 22 (I' 1).1 (I' 1).2) : XS h' T I' X F K := by
  obtain ⟨s1, s2, s3, s4, s5, s6, s7, t, s8⟩ := s
  exact ⟨by rw [e 0 (by omega)]; exact s1, s2.fr (fun j h1 h2 => e j (by omega)), s3.fr (fun j h1 h2 => e j (by omega)), i1, i2, s6.fr (fun j h1 h2 => e j (by omega)), s7.fr (fun j h1 h2 => e j (by omega)), t, by rw [e 52 (by omega)]; exact s8⟩
theorem aZ_r {h : mj_H} {b n a : Nat} {f : Nat → Int32} (hb : h[b]? = some (cZ n f)) (ha : a < n) (hn : n < 2 ^ 31) : mj_aZ h b (nI a) = some (f a) := by
  simp [mj_aZ, hb, ok_nI (show a < 2 ^ 31 by omega), ha, nI_clamp (show a < 2 ^ 31 by omega)]
theorem uZ_r {h : mj_H} {b n a : Nat} {f : Nat → Int32} (hb : h[b]? = some (cZ n f)) (ha : a < n) (hn : n < 2 ^ 31) : mj_uZ h b (nI a) 1 = some (h.set b (cZ n (upd f a 1))) := by
  have : vp_nar .boolean (1 : Int32) = 1 := by decide
  simp [mj_uZ, hb, ok_nI (show a < 2 ^ 31 by omega), ha, nI_clamp (show a < 2 ^ 31 by omega), this]
theorem MG.ims {h : mj_H} (g : MG h) : mj_gR h 53 9 1 = some 55 := g.2.2.1
theorem MG.kep {h : mj_H} (g : MG h) : mj_gR h 53 9 2 = some 56 := g.2.2.2.1
theorem op_image {T : Nat → Nat} {I : Nat → Bool × (Nat → Nat)} {X : (Nat → Int32) × Nat} (p : PU T I X) (F : Int64 × Int64) (K : Int32 × Int32 × Int32) (x : Int32) : OPB (f_X8_image 0 x) (f_X9_image 53 x) T I X F K := by
  have w := p.1.1
  have w0 := w.1
  have rg := fun (A B : Option (Int32 × mj_H)) => rg2 (x := x) (n := 1) (by decide) A B
  by_cases c1 : mj_ok x 2 = true
  · obtain ⟨e1, l1, -⟩ := ok_c c1
    refine ⟨1, T, putI I (tN x) T, X, F, K, ⟨p.1, fun i hi => ?_, p.2.2⟩, fun h s => ?_, fun h s => ?_⟩
    · unfold putI; split
      · exact p.1
      · exact p.2.1 i hi
    · have i1 := s.2.2.2.1
      have i2 := s.2.2.2.2.1
      rcases pos01 c1 with e | e
      · have t0 : tN x = 0 := by rw [e]; decide
        obtain ⟨h1, h2, h3, a0, a1, x1, a2, a3, a4, a5, a6, a7⟩ := X8_image_in s w0 (Or.inl rfl) i1
        have r1 := gR_r (k := 0) i1.1 rfl
        refine ⟨h3, ?_, s.im (Or.inl rfl) a7 ?_ ?_, fun k hk => a7 k (by omega)⟩
        · unfold f_X8_image
          refine (rg _ _).trans ?_
          rw [if_pos c1, if_pos s.x.ob, f_X8_imageAt, if_pos e]
          simp only [s.x.im1, bs, f_X8_imageAt_15, r1, s.x.band, a0, if_true, a1, a2, x1.past, a3, a4, a5]
        · rw [t0]; exact a6
        · have : putI I (tN x) T 1 = I 1 := by unfold putI; rw [if_neg (by omega)]
          rw [this]; exact i2.fr (fun j h1 h2 => a7 j (by omega))
      · have t0 : tN x = 1 := by rw [e]; decide
        have z0 : ¬ x = 0 := by rw [e]; decide
        obtain ⟨h1, h2, h3, a0, a1, x1, a2, a3, a4, a5, a6, a7⟩ := X8_image_in s w0 (Or.inr rfl) i2
        have r1 := gR_r (k := 0) i2.1 rfl
        refine ⟨h3, ?_, s.im (Or.inr rfl) a7 ?_ ?_, fun k hk => a7 k (by omega)⟩
        · unfold f_X8_image
          refine (rg _ _).trans ?_
          rw [if_pos c1, if_pos s.x.ob, f_X8_imageAt, if_neg z0]
          simp only [s.x.im2, bs, f_X8_imageAt_15, r1, s.x.band, a0, if_true, a1, a2, x1.past, a3, a4, a5]
        · have : putI I (tN x) T 0 = I 0 := by unfold putI; rw [if_neg (by omega)]
          rw [this]; exact i1.fr (fun j h1 h2 => a7 j (by omega))
        · rw [t0]; exact a6
    · have sg := s.g
      obtain ⟨f, hf, e⟩ := s.2.1
      obtain ⟨s1, s2, s3, ⟨G, s4, s4'⟩, ⟨kf, s5, s5'⟩, s6⟩ := s
      have cp := X9_copies_s (s := 0) (d := 356 * tN x) (c := 356) hf s4 (by decide) (by decide) (by omega) (by decide) (by decide) (by decide)
      rw [show nI 0 = (0 : Int32) from rfl, ← pk_mul, show nI 356 = (356 : Int32) from rfl, ← e1] at cp
      obtain ⟨G', hG'⟩ : ∃ G', G' = fill2 (fun k => f (0 + k)) G (356 * tN x) 356 := ⟨_, rfl⟩
      rw [← hG'] at cp
      have g1 := sg.set (k := 55) (c := cI 712 G') (by decide)
      have u := uZ_r (get_set (c := cI 712 G') s5 (show 55 ≠ 56 by decide)) l1 (by decide)
      rw [← e1] at u
      have z : ∀ j, j ≠ 55 → j ≠ 56 → ((h.set 55 (cI 712 G')).set 56 (cZ 2 (upd kf (tN x) 1)))[j]? = h[j]? := fun j h1 h2 => by rw [List.getElem?_set_ne (by omega), List.getElem?_set_ne (by omega)]
      refine ⟨_, ?_, ?_, fun k hk => z k (by omega) (by omega)⟩
      · simp only [f_X9_image, X9_isTwo_s, bs, c1, bi_t, one0, if_false, sg.now, sg.ims, cp, g1.kep, u]
      · unfold MS SC at *
        rw [z 53 (by decide) (by decide), z 54 (by decide) (by decide), z 57 (by decide) (by decide), z 58 (by decide) (by decide), z 59 (by decide) (by decide), z 60 (by decide) (by decide), z 61 (by decide) (by decide), z 62 (by decide) (by decide), z 63 (by decide) (by decide), z 64 (by decide) (by decide)]
        refine ⟨s1, s2, s3, ⟨G', get_set (get_self s4) (by decide), fun i hi hk j hj => ?_⟩, ⟨upd kf (tN x) 1, get_self (get_set s5 (by decide)), fun i hi => ?_⟩, s6⟩
        · by_cases q : i = tN x
          · have pe : putI I (tN x) T i = (true, T) := by unfold putI; rw [if_pos q]
            rw [pe, hG', q, fill2_in (by omega) (by omega)]
            show f (0 + (356 * tN x + j - 356 * tN x)) = nI (T j)
            rw [show 0 + (356 * tN x + j - 356 * tN x) = j by omega]; exact e j hj
          · have pe : putI I (tN x) T i = I i := by unfold putI; rw [if_neg q]
            rw [pe] at hk ⊢
            rw [hG', fill2_out (by omega)]
            exact s4' i hi hk j hj
        · unfold putI upd
          by_cases q : i = tN x
          · rw [if_pos q, if_pos q]; rfl
          · rw [if_neg q, if_neg q]; exact s5' i hi
  · rw [Bool.not_eq_true] at c1
    refine ⟨-2, T, I, X, F, kb K, p, fun h s => ?_, fun h s => ?_⟩
    · have e : f_X8_image 0 x h = f_X8_image_9 0 h := by
        unfold f_X8_image
        refine (rg _ _).trans ?_
        rw [if_neg (by rw [c1]; decide)]
      rw [e, f_X8_image_9, if_pos s.x.ob]
      exact (X8_badR s).bd
    · simp only [f_X9_image, X9_isTwo_s, bs, c1, bi_f, if_true, s.g.ob]
      exact (X9_bad_s s (-2)).bd
theorem X8_from_in {h : mj_H} {T : Nat → Nat} {I : Nat → Bool × (Nat → Nat)} {X : (Nat → Int32) × Nat} {F : Int64 × Int64} {K : Int32 × Int32 × Int32} (s : XS h T I X F K) {q : Nat} {k : Bool} {U : Nat → Nat} (w0 : U 0 ≤ 6) (hq : q = 11 ∨ q = 22) (m : IMG h q k U) : ∃ h1 h2, f_X0_become 1 (q + 1) h = some h1 ∧ XG h1 ∧ mj_gR h1 q 1 1 = some (q + 7) ∧ mj_ob h1 7 3 = true ∧ f_X3_become 7 (q + 7) h1 = some h2 ∧ BN h2 1 U ∧ PS h2 7 U ∧ (∀ j, (j < 1 ∨ 11 ≤ j) → h2[j]? = h[j]?) := by
  obtain ⟨m1, m2, m3⟩ := m
  obtain ⟨h1, a1, a2, -, a3⟩ := X0_become_s s.b m2 (by omega)
  have x1 : XG h1 := s.x.fr (a3 0 (by omega))
  have i1 : h1[q]? = some (cO 1 [.ref (q + 1), .ref (q + 7), .int (bi k)]) := by rw [a3 q (by omega)]; exact m1
  have p1 : PS h1 (q + 7) U := m3.fr (fun j h1 h2 => a3 j (by omega))
  have p0 : PS h1 7 T := s.2.2.1.fr (fun j h1 h2 => a3 j (by omega))
  obtain ⟨h2, b1, b2, -, b3⟩ := X3_become_s p0 p1 w0 (by omega)
  refine ⟨h1, h2, a1, x1, gR_r i1 rfl, PSn.ob p0, b1, a2.fr (fun j h1 h2 => b3 j (by omega)), b2, fun j hj => ?_⟩
  rw [b3 j (by omega), a3 j (by omega)]
theorem op_from {T : Nat → Nat} {I : Nat → Bool × (Nat → Nat)} {X : (Nat → Int32) × Nat} (p : PU T I X) (F : Int64 × Int64) (K : Int32 × Int32 × Int32) (x : Int32) : OPB (f_X8_from 0 x) (f_X9_from 53 x) T I X F K := by
  have w := p.1.1
  have w0 := w.1
  have rg := fun (A B : Option (Int32 × mj_H)) => rg2 (x := x) (n := 1) (by decide) A B
  by_cases c1 : mj_ok x 2 = true
  · obtain ⟨e1, l1, -⟩ := ok_c c1
    have mk : ∀ h, MS h T I X F K → ∃ G kf, h[55]? = some (cI 712 G) ∧ h[56]? = some (cZ 2 kf) ∧ mj_aZ h 56 x = some (bi (I (tN x)).1) ∧ ((I (tN x)).1 = true → ∀ j, j < 356 → G (356 * tN x + j) = nI ((I (tN x)).2 j)) := fun h s => by
      obtain ⟨s1, s2, s3, ⟨G, s4, s4'⟩, ⟨kf, s5, s5'⟩, s6⟩ := s
      have a := aZ_r s5 l1 (by decide)
      rw [s5' _ l1, ← e1] at a
      exact ⟨G, kf, s4, s5, a, s4' _ l1⟩
    cases q : (I (tN x)).1
    · refine ⟨-3, T, I, X, F, kn K, p, fun h s => ?_, fun h s => ?_⟩
      · have i1 := s.2.2.2.1
        have i2 := s.2.2.2.2.1
        have e : f_X8_from 0 x h = (f_X8_refused 0 (-3 : Int32) h).bind fun p10 => some (p10.1, p10.2) := by
          unfold f_X8_from
          refine (rg _ _).trans ?_
          rw [if_pos c1, if_pos s.x.ob, f_X8_imageAt]
          rcases pos01 c1 with e | e
          · have t0 : tN x = 0 := by rw [e]; decide
            rw [t0] at q
            have r1 := gI_r (k := 2) i1.1 rfl
            rw [q, bi_f] at r1
            rw [if_pos e]
            simp only [s.x.im1, bs, f_X8_imageAt_15, r1, if_true, s.x.ob]
          · have t0 : tN x = 1 := by rw [e]; decide
            have z0 : ¬ x = 0 := by rw [e]; decide
            rw [t0] at q
            have r1 := gI_r (k := 2) i2.1 rfl
            rw [q, bi_f] at r1
            rw [if_neg z0]
            simp only [s.x.im2, bs, f_X8_imageAt_15, r1, if_true, s.x.ob]
        rw [e]
        exact (X8_noR s).bd
      · obtain ⟨G, kf, y1, y2, y3, -⟩ := mk h s
        rw [q, bi_f] at y3
        simp only [f_X9_from, X9_isTwo_s, bs, c1, bi_t, one0, if_false, s.g.kep, y3, if_true, s.g.ob]
        exact (X9_no_s s (-3)).bd
    · have wI := p.2.1 (tN x) l1
      refine ⟨1, (I (tN x)).2, I, X, F, K, p.t wI, fun h s => ?_, fun h s => ?_⟩
      · have i1 := s.2.2.2.1
        have i2 := s.2.2.2.2.1
        rcases pos01 c1 with e | e
        · have t0 : tN x = 0 := by rw [e]; decide
          rw [t0] at q wI ⊢
          have r1 := gI_r (k := 2) i1.1 rfl
          rw [q, bi_t] at r1
          have r2 := gR_r (k := 0) i1.1 rfl
          obtain ⟨h1, h2, a1, x1, a2, a3, a4, a5, a6, a7⟩ := X8_from_in s wI.1.1 (Or.inl rfl) i1
          refine ⟨h2, ?_, s.bn a5 a6 a7, fun k hk => a7 k (by omega)⟩
          unfold f_X8_from
          refine (rg _ _).trans ?_
          rw [if_pos c1, if_pos s.x.ob, f_X8_imageAt, if_pos e]
          simp only [s.x.im1, bs, f_X8_imageAt_15, r1, one0, if_false, s.x.band, r2, s.b.ob, if_true, a1, x1.past, a2, a3, a4]
        · have t0 : tN x = 1 := by rw [e]; decide
          have z0 : ¬ x = 0 := by rw [e]; decide
          rw [t0] at q wI ⊢
          have r1 := gI_r (k := 2) i2.1 rfl
          rw [q, bi_t] at r1
          have r2 := gR_r (k := 0) i2.1 rfl
          obtain ⟨h1, h2, a1, x1, a2, a3, a4, a5, a6, a7⟩ := X8_from_in s wI.1.1 (Or.inr rfl) i2
          refine ⟨h2, ?_, s.bn a5 a6 a7, fun k hk => a7 k (by omega)⟩
          unfold f_X8_from
          refine (rg _ _).trans ?_
          rw [if_pos c1, if_pos s.x.ob, f_X8_imageAt, if_neg z0]
          simp only [s.x.im2, bs, f_X8_imageAt_15, r1, one0, if_false, s.x.band, r2, s.b.ob, if_true, a1, x1.past, a2, a3, a4]
      · obtain ⟨G, kf, y1, y2, y3, y4⟩ := mk h s
        rw [q, bi_t] at y3
        obtain ⟨f, hf, e⟩ := s.2.1
        have cp := X9_copies_s (s := 356 * tN x) (d := 0) (c := 356) y1 hf (by decide) (by omega) (by decide) (by decide) (by decide) (by decide)
        rw [show nI 0 = (0 : Int32) from rfl, ← pk_mul, show nI 356 = (356 : Int32) from rfl, ← e1] at cp
        have nt : NT (fill2 (fun k => G (356 * tN x + k)) f 0 356) (I (tN x)).2 := fun j hj => by
          rw [fill2_in (by omega) (by omega)]
          show G (356 * tN x + (j - 0)) = _
          rw [Nat.sub_zero]; exact y4 q j hj
        refine ⟨_, ?_, s.nowT nt, fun k hk => List.getElem?_set_ne (by omega)⟩
        simp only [f_X9_from, X9_isTwo_s, bs, c1, bi_t, one0, if_false, s.g.kep, y3, s.g.ims, s.g.now, cp]
  · rw [Bool.not_eq_true] at c1
    refine ⟨-2, T, I, X, F, kb K, p, fun h s => ?_, fun h s => ?_⟩
    · have e : f_X8_from 0 x h = f_X8_from_9 0 h := by
        unfold f_X8_from
        refine (rg _ _).trans ?_
        rw [if_neg (by rw [c1]; decide)]
      rw [e, f_X8_from_9, if_pos s.x.ob]
      exact (X8_badR s).bd
    · simp only [f_X9_from, X9_isTwo_s, bs, c1, bi_f, if_true, s.g.ob]
      exact (X9_bad_s s (-2)).bd
