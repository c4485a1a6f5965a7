/-! PURE: what the model is told -/
def NT (f : Nat → Int32) (T : Nat → Nat) : Prop := ∀ j, j < 356 → f j = nI (T j)
theorem X9_clean_s {h : mj_H} {f : Nat → Int32} (g : MG h) (hf : h[54]? = some (cI 356 f)) (d : Nat) : ∃ f', f_X9_clean 53 (nI d) h = some (h.set 54 (cI 356 f')) ∧ NT f' (musterT d) := by
  refine ⟨upd (fill (fun _ => (0 : Int32)) f 356) 1 (nI d), ?_, fun j hj => ?_⟩
  · unfold f_X9_clean f_X9_clean_2
    have h0 : ((53 : Nat), nI d, (0 : Int32), h) = (fun i => (53, nI d, nI i, h.set 54 (cI 356 (fill (fun _ => (0 : Int32)) f i)))) 0 := by
      simp only [fill_0, set_same hf]; rfl
    rw [h0]
    refine fix_iter (st := fun i => ((53 : Nat), nI d, nI i, h.set 54 (cI 356 (fill (fun _ => (0 : Int32)) f i)))) 356 _ (fun i hi K => ?_) (fun K => ?_) 1000 (by decide)
    · have g1 := g.set (k := 54) (c := cI 356 (fill (fun _ => (0 : Int32)) f i)) (by decide)
      have g2 := get_self (c := cI 356 (fill (fun _ => (0 : Int32)) f i)) hf
      have c1 : ¬ (356 : Int32) ≤ nI i := nI_ge (b := 356) hi (by decide)
      have u := uI_r (0 : Int32) g2 hi (by decide)
      have u2 := fill_I (fun _ => (0 : Int32)) f i
      rw [u2, List.set_set] at u
      show b_X9_clean_2 _ 53 (nI d) (nI i) _ = K (53, nI d, nI (i + 1), h.set 54 (cI 356 (fill (fun _ => (0 : Int32)) f (i + 1))))
      simp only [b_X9_clean_2, c1, if_false, g1.now, bs, u, nI_1]
    · have g1 := g.set (k := 54) (c := cI 356 (fill (fun _ => (0 : Int32)) f 356)) (by decide)
      have g2 := get_self (c := cI 356 (fill (fun _ => (0 : Int32)) f 356)) hf
      have c1 : (356 : Int32) ≤ nI 356 := by decide
      have u := uI_r (nI d) g2 (show 1 < 356 by decide) (by decide)
      rw [List.set_set, show nI 1 = (1 : Int32) from rfl] at u
      show b_X9_clean_2 _ 53 (nI d) (nI 356) _ = _
      simp only [b_X9_clean_2, c1, if_true, g1.now, bs, u]
  · unfold musterT
    by_cases q : j = 1
    · subst q; simp [upd]
    · rw [if_neg q]
      show upd (fill (fun _ => (0 : Int32)) f 356) 1 (nI d) j = _
      unfold upd
      rw [if_neg q, fill_in hj]; rfl
theorem bs1 {α β : Type} {a : α} {r : Option α} (e : r = some a) (f : α → Option β) : r.bind f = f a := by rw [e]; exact bs a f
theorem aOk_lt {f : Nat → Int32} {n k : Nat} (h : aOk f n = true) (hk : k < n) : f k = nI (gN f k) ∧ gN f k ≤ 9 := by
  obtain ⟨e1, e2, -⟩ := ok_c (aOk_ix.mp h k hk)
  exact ⟨e1, by unfold gN; omega⟩
theorem X9_doMan_s {h : mj_H} {f t : Nat → Int32} {T : Nat → Nat} (g : MG h) (hf : h[54]? = some (cI 356 f)) (e : NT f T) (w : WF T) (ht : h[59]? = some (cI 6 t)) : ∃ f', f_X9_doMan 53 h = some ((manR T t).1, h.set 54 (cI 356 f')) ∧ NT f' (manR T t).2 := by
  have w0 := w.1
  have gt8 : mj_gR h 53 9 8 = some 59 := g.2.2.2.2.2.2.1
  have a0 := aI_r hf (show 0 < 356 by decide) (by decide)
  rw [e 0 (by decide), show nI 0 = (0 : Int32) from rfl] at a0
  unfold f_X9_doMan f_X9_doMan_4
  refine fix_w (F := fun (K4 : (Nat × Int32 × Int32 × mj_H) → Option (Int32 × mj_H)) (s : Nat × Int32 × Int32 × mj_H) => b_X9_doMan_4 (fun v0 v1 v2 h => K4 (v0, v1, v2, h)) s.1 s.2.1 s.2.2.1 s.2.2.2)
    (fun i s => s = (53, nI (sm (gN t) i), nI i, h) ∧ aOk t i = true)
    (fun r => ∃ f', r = some ((manR T t).1, h.set 54 (cI 356 f')) ∧ NT f' (manR T t).2) 6 (fun i hi s hs => ?_) (fun s hs => ?_) 1000 (by decide) (53, 0, 0, h) ⟨rfl, rfl⟩
  · obtain ⟨rfl, ho⟩ := hs
    have r := aI_r ht hi (by decide)
    have inn := (X9_inL (t i) h).2.2.2.1
    by_cases q : mj_ok (t i) 10 = true
    · left
      obtain ⟨e1, e2, -⟩ := ok_c q
      rw [q] at inn
      refine ⟨(53, nI (sm (gN t) (i + 1)), nI (i + 1), h), ⟨rfl, by rw [aOk, ho, q]; rfl⟩, fun K => ?_⟩
      have e3 : nI (sm (gN t) i) + t i = nI (sm (gN t) (i + 1)) := by
        show _ = nI (sm (gN t) i + gN t i)
        rw [← nI_add]
        show nI (sm (gN t) i) + t i = nI (sm (gN t) i) + nI (tN (t i))
        rw [← e1]
      simp only [b_X9_doMan_4, le6 hi, if_false, gt8, bs, r, inn, bi_t, one0, e3, nI_1]
    · right
      intro K
      rw [Bool.not_eq_true] at q
      rw [q] at inn
      have no : ¬ (aOk t 6 = true ∧ 0 < sm (gN t) 6) := fun y => by
        have := aOk_ix.mp y.1 i hi
        rw [q] at this; exact absurd this (by decide)
      refine ⟨f, ?_, ?_⟩
      · rw [manR, if_neg no, set_same hf]
        simp only [b_X9_doMan_4, le6 hi, if_false, gt8, bs, r, inn, bi_f, if_true]
      · rw [manR, if_neg no]; exact e
  · obtain ⟨rfl, ho⟩ := hs
    intro K
    have hsm : sm (gN t) 6 ≤ 6 * 9 := sm_le (fun k hk => (aOk_lt ho hk).2)
    have z : nI (sm (gN t) 6) = (0 : Int32) ↔ sm (gN t) 6 = 0 := nI_eq (by omega) (by decide)
    have z6 : nI (T 0) = (6 : Int32) ↔ T 0 = 6 := nI_eq (by omega) (by decide)
    by_cases q : sm (gN t) 6 = 0
    · have no : ¬ (aOk t 6 = true ∧ 0 < sm (gN t) 6) := fun y => by omega
      refine ⟨f, ?_, ?_⟩
      · rw [manR, if_neg no, set_same hf]
        simp only [b_X9_doMan_4, ge6, if_true]
        rw [if_pos (z.mpr q)]
      · rw [manR, if_neg no]; exact e
    · have yes : aOk t 6 = true ∧ 0 < sm (gN t) 6 := ⟨ho, by omega⟩
      by_cases q6 : T 0 < 6
      · have q6' : ¬ T 0 = 6 := by omega
        have cp := X9_copies_s (s := 0) (d := 16 + 6 * T 0) (c := 6) ht hf (by decide) (by decide) (by omega) (by decide) (by decide) (by decide)
        rw [← ix2, show nI 0 = (0 : Int32) from rfl, show nI 6 = (6 : Int32) from rfl] at cp
        obtain ⟨G, hG⟩ : ∃ G, G = fill2 (fun k => t (0 + k)) f (16 + 6 * T 0) 6 := ⟨_, rfl⟩
        rw [← hG] at cp
        have g1 := g.set (k := 54) (c := cI 356 G) (by decide)
        have c1 := get_self (c := cI 356 G) hf
        have r1 := aI_r c1 (show 0 < 356 by decide) (by decide)
        have G0 : G 0 = nI (T 0) := by rw [hG, fill2_out (Or.inl (by omega))]; exact e 0 (by decide)
        rw [G0, show nI 0 = (0 : Int32) from rfl] at r1
        have u1 := uI_r (nI (T 0 + 1)) c1 (show 0 < 356 by decide) (by decide)
        rw [List.set_set, show nI 0 = (0 : Int32) from rfl] at u1
        have g2 := g.set (k := 54) (c := cI 356 (upd G 0 (nI (T 0 + 1)))) (by decide)
        have c2 := get_self (c := cI 356 (upd G 0 (nI (T 0 + 1)))) hf
        have u2 := uI_r (0 : Int32) c2 (show 3 < 356 by decide) (by decide)
        rw [List.set_set, show nI 3 = (3 : Int32) from rfl] at u2
        refine ⟨upd (upd G 0 (nI (T 0 + 1))) 3 0, ?_, fun j hj => ?_⟩
        · rw [manR, if_pos yes, if_pos q6]
          simp only [b_X9_doMan_4, ge6, if_true, z, q, if_false, g.now, bs, a0, z6, q6', gt8, cp, g1.now, r1, nI_1, u1, g2.now, u2]
        · rw [manR, if_pos yes, if_pos q6]
          show upd (upd G 0 (nI (T 0 + 1))) 3 0 j = nI (manT T (gN t) j)
          unfold manT upd
          by_cases j3 : j = 3
          · subst j3; rfl
          · rw [if_neg j3]
            by_cases j0 : j = 0
            · subst j0; rfl
            · rw [if_neg j0, if_neg j0, if_neg j3, hG]
              by_cases jw : 16 + 6 * T 0 ≤ j ∧ j < 16 + 6 * T 0 + 6
              · rw [if_pos jw, fill2_in jw.1 jw.2]
                show t (0 + (j - (16 + 6 * T 0))) = _
                rw [Nat.zero_add]
                exact (aOk_lt ho (by omega)).1
              · rw [if_neg jw, fill2_out (by omega)]
                exact e j hj
      · have q6' : T 0 = 6 := by omega
        refine ⟨f, ?_, ?_⟩
        · rw [manR, if_pos yes, if_neg q6, set_same hf]
          simp only [b_X9_doMan_4, ge6, if_true, z, q, if_false, g.now, bs, a0]
          rw [if_pos (z6.mpr q6')]
        · rw [manR, if_pos yes, if_neg q6]; exact e
theorem X9_doWorn_s {h : mj_H} {T : Nat → Nat} (n : MN h T) (w : WF T) (m s : Int32) : ∃ f', f_X9_doWorn 53 m s h = some ((wornR T m s).1, h.set 54 (cI 356 f')) ∧ NT f' (wornR T m s).2 := by
  have w0 := w.1
  obtain ⟨f, hf, e⟩ := n.2.1
  have inn := (X9_inL s h).2.1
  by_cases q : mj_ok m (T 0) = true ∧ mj_ok s 32 = true
  · obtain ⟨q1, q2⟩ := q
    obtain ⟨e1, l1, -⟩ := ok_c q1
    obtain ⟨e2, l2, -⟩ := ok_c q2
    rw [q2] at inn
    have r := n.a (j := 4 + tN m) (by omega)
    have u1 := uI_r s hf (show 4 + tN m < 356 by omega) (by decide)
    rw [← nI_add, ← e1] at r u1
    have g1 := n.1.set (k := 54) (c := cI 356 (upd f (4 + tN m) s)) (by decide)
    have c1 := get_self (c := cI 356 (upd f (4 + tN m) s)) hf
    have u2 := uI_r (0 : Int32) c1 (show 3 < 356 by decide) (by decide)
    rw [List.set_set, show nI 3 = (3 : Int32) from rfl] at u2
    refine ⟨upd (upd f (4 + tN m) s) 3 0, ?_, fun j hj => ?_⟩
    · rw [wornR, if_pos ⟨q1, q2⟩]
      simp only [f_X9_doWorn, n.1.ob, if_true, n.man w, bs, q1, bi_t, one0, if_false, inn, n.1.now, show (4 : Int32) = nI 4 from rfl, r, u1, g1.now, u2]
    · rw [wornR, if_pos ⟨q1, q2⟩]
      show upd (upd f (4 + tN m) s) 3 0 j = nI (wornT T (tN m) (tN s) j)
      unfold wornT upd
      by_cases j3 : j = 3
      · subst j3; rfl
      · rw [if_neg j3, if_neg j3]
        by_cases jm : j = 4 + tN m
        · rw [if_pos jm, if_pos jm]; exact e2
        · rw [if_neg jm, if_neg jm]; exact e j hj
  · refine ⟨f, ?_, ?_⟩
    · rw [wornR, if_neg q, set_same hf]
      simp only [f_X9_doWorn, n.1.ob, if_true, n.man w, bs, inn]
      cases q1 : mj_ok m (T 0)
      · simp only [bi_f, if_true]
      · cases q2 : mj_ok s 32
        · simp only [bi_t, bi_f, one0, if_false, if_true]
        · exact absurd ⟨q1, q2⟩ q
    · rw [wornR, if_neg q]; exact e
theorem X9_doPair_s {h : mj_H} {T : Nat → Nat} (n : MN h T) (w : WF T) (x y : Int32) : ∃ f', f_X9_doPair 53 x y h = some ((pairR T x y).1, h.set 54 (cI 356 f')) ∧ NT f' (pairR T x y).2 := by
  have w0 := w.1
  obtain ⟨f, hf, e⟩ := n.2.1
  by_cases q : mj_ok x (T 0) = true ∧ mj_ok y (T 0) = true ∧ x ≠ y
  · obtain ⟨q1, q2, q3⟩ := q
    obtain ⟨e1, l1, -⟩ := ok_c q1
    obtain ⟨e2, l2, -⟩ := ok_c q2
    have hne : tN x ≠ tN y := fun z => q3 (by rw [e1, e2, z])
    have b1 := w.br l1
    have r := n.a (j := 10 + tN x) (by omega)
    have hh := X9_has_s (s := T (10 + tN x)) (m := tN y) (by omega) (by omega) h
    have hb : (T (10 + tN x)).testBit (tN y) = brob T (tN x) (tN y) := rfl
    rw [hb, ← e2] at hh
    rw [← nI_add, ← e1] at r
    cases q4 : brob T (tN x) (tN y)
    · have s1 := shl1 (show tN y < 31 by omega)
      have s2 := shl1 (show tN x < 31 by omega)
      rw [← e2] at s1
      rw [← e1] at s2
      have u1 := uI_r (nI (T (10 + tN x) ||| 2 ^ tN y)) hf (show 10 + tN x < 356 by omega) (by decide)
      rw [← nI_add, ← e1] at u1
      obtain ⟨G, hG⟩ : ∃ G, G = upd f (10 + tN x) (nI (T (10 + tN x) ||| 2 ^ tN y)) := ⟨_, rfl⟩
      rw [← hG] at u1
      have g1 := n.1.set (k := 54) (c := cI 356 G) (by decide)
      have c1 := get_self (c := cI 356 G) hf
      have r2 := aI_r c1 (show 10 + tN y < 356 by omega) (by decide)
      have G2 : G (10 + tN y) = nI (T (10 + tN y)) := by
        rw [hG]; unfold upd; rw [if_neg (by omega)]; exact e _ (by omega)
      have u2 := uI_r (nI (T (10 + tN y) ||| 2 ^ tN x)) c1 (show 10 + tN y < 356 by omega) (by decide)
      rw [← nI_add, ← e2, List.set_set] at u2
      rw [G2, ← nI_add, ← e2] at r2
      obtain ⟨G', hG'⟩ : ∃ G', G' = upd G (10 + tN y) (nI (T (10 + tN y) ||| 2 ^ tN x)) := ⟨_, rfl⟩
      rw [← hG'] at u2
      have g2 := n.1.set (k := 54) (c := cI 356 G') (by decide)
      have c2 := get_self (c := cI 356 G') hf
      have u3 := uI_r (0 : Int32) c2 (show 3 < 356 by decide) (by decide)
      rw [List.set_set, show nI 3 = (3 : Int32) from rfl] at u3
      have no : ¬ brob T (tN x) (tN y) = true := by rw [q4]; decide
      rw [q4] at hh
      refine ⟨upd G' 3 0, ?_, fun j hj => ?_⟩
      · rw [pairR, if_pos ⟨q1, q2, q3⟩, if_neg no]
        simp only [f_X9_doPair, n.1.ob, if_true, n.man w, bs, q1, q2, bi_t, one0, if_false, q3, n.1.now, show (10 : Int32) = nI 10 from rfl, r, hh, bi_f, s1, s2, orI, u1, g1.now, r2, u2, g2.now, u3]
      · rw [pairR, if_pos ⟨q1, q2, q3⟩, if_neg no]
        show upd G' 3 0 j = nI (pairT T (tN x) (tN y) j)
        unfold pairT
        by_cases j3 : j = 3
        · subst j3; simp [upd, nI_0]
        · rw [if_neg j3]
          have : upd G' 3 0 j = G' j := by unfold upd; rw [if_neg j3]
          rw [this, hG']
          by_cases jy : j = 10 + tN y
          · have jx : ¬ j = 10 + tN x := by omega
            rw [if_neg jx, if_pos jy]
            unfold upd; rw [if_pos jy, jy]
          · have : upd G (10 + tN y) (nI (T (10 + tN y) ||| 2 ^ tN x)) j = G j := by unfold upd; rw [if_neg jy]
            rw [this, hG, if_neg jy]
            by_cases jx : j = 10 + tN x
            · rw [if_pos jx]; unfold upd; rw [if_pos jx, jx]
            · rw [if_neg jx]; unfold upd; rw [if_neg jx]; exact e j hj
    · rw [q4] at hh
      refine ⟨f, ?_, ?_⟩
      · rw [pairR, if_pos ⟨q1, q2, q3⟩, if_pos q4, set_same hf]
        simp only [f_X9_doPair, n.1.ob, if_true, n.man w, bs, q1, q2, bi_t, one0, if_false, q3, n.1.now, show (10 : Int32) = nI 10 from rfl, r, hh]
      · rw [pairR, if_pos ⟨q1, q2, q3⟩, if_pos q4]; exact e
  · refine ⟨f, ?_, ?_⟩
    · rw [pairR, if_neg q, set_same hf]
      simp only [f_X9_doPair, n.1.ob, if_true, n.man w, bs]
      cases q1 : mj_ok x (T 0)
      · simp only [bi_f, if_true]
      · cases q2 : mj_ok y (T 0)
        · simp only [bi_t, bi_f, one0, if_false, if_true]
        · by_cases q3 : x = y
          · simp only [bi_t, one0, if_false, q3, if_true]
          · exact absurd ⟨q1, q2, q3⟩ q
    · rw [pairR, if_neg q]; exact e
theorem X9_doWord_s {h : mj_H} {T : Nat → Nat} (n : MN h T) (w : WF T) (x : Int32) : ∃ f', f_X9_doWord 53 x h = some ((wordR T x).1, h.set 54 (cI 356 f')) ∧ NT f' (wordR T x).2 := by
  have w0 := w.1
  have t2 := w.t2
  obtain ⟨f, hf, e⟩ := n.2.1
  by_cases q : mj_ok x (T 0) = true
  · obtain ⟨e1, l1, -⟩ := ok_c q
    have hh := X9_has_s (s := T 2) (m := tN x) (by omega) (by omega) h
    have hb : (T 2).testBit (tN x) = know T (tN x) := rfl
    rw [hb, ← e1] at hh
    cases q4 : know T (tN x)
    · have s1 := shl1 (show tN x < 31 by omega)
      rw [← e1] at s1
      have u1 := uI_r (nI (T 2 ||| 2 ^ tN x)) hf (show 2 < 356 by decide) (by decide)
      rw [show nI 2 = (2 : Int32) from rfl] at u1
      obtain ⟨G, hG⟩ : ∃ G, G = upd f 2 (nI (T 2 ||| 2 ^ tN x)) := ⟨_, rfl⟩
      rw [← hG] at u1
      have g1 := n.1.set (k := 54) (c := cI 356 G) (by decide)
      have c1 := get_self (c := cI 356 G) hf
      have u3 := uI_r (0 : Int32) c1 (show 3 < 356 by decide) (by decide)
      rw [List.set_set, show nI 3 = (3 : Int32) from rfl] at u3
      have no : ¬ know T (tN x) = true := by rw [q4]; decide
      rw [q4] at hh
      refine ⟨upd G 3 0, ?_, fun j hj => ?_⟩
      · rw [wordR, if_pos q, if_neg no]
        simp only [f_X9_doWord, n.1.ob, if_true, n.man w, bs, q, bi_t, one0, if_false, n.1.now, n.a2, hh, bi_f, s1, orI, u1, g1.now, u3]
      · rw [wordR, if_pos q, if_neg no]
        show upd G 3 0 j = nI (wordT T (tN x) j)
        unfold wordT upd
        by_cases j3 : j = 3
        · subst j3; rfl
        · rw [if_neg j3, if_neg j3, hG]
          by_cases j2 : j = 2
          · subst j2; rfl
          · rw [if_neg j2]; unfold upd; rw [if_neg j2]; exact e j hj
    · rw [q4] at hh
      refine ⟨f, ?_, ?_⟩
      · rw [wordR, if_pos q, if_pos q4, set_same hf]
        simp only [f_X9_doWord, n.1.ob, if_true, n.man w, bs, q, bi_t, one0, if_false, n.1.now, n.a2, hh]
      · rw [wordR, if_pos q, if_pos q4]; exact e
  · refine ⟨f, ?_, ?_⟩
    · rw [wordR, if_neg q, set_same hf]
      rw [Bool.not_eq_true] at q
      simp only [f_X9_doWord, n.1.ob, if_true, n.man w, bs, q, bi_f]
    · rw [wordR, if_neg q]; exact e
