/-! PURE: the calls that ask, on -/
theorem YX.sf {h h' : mj_H} {T : Nat → Nat} {sz : Int32} {f : Nat → Int32} (y : YN h T) (o : SF h' sz f) (e : ∀ k, (k < 48 ∨ 52 ≤ k) → h'[k]? = h[k]?) : YX h h' T := by
  obtain ⟨x, b, ⟨⟨tr, bm, q⟩, ⟨t1, g, t2⟩, -⟩⟩ := y
  refine ⟨b.fr (fun k h1 h2 => e k (by omega)), ⟨⟨tr, bm, q.fr (fun k h1 h2 => e k (by omega))⟩, ⟨by rw [e _ (by decide)]; exact t1, g, by rw [e _ (by decide)]; exact t2⟩, sz, f, o⟩, fun k k1 k2 => e k (by omega)⟩
/-- no rfl lemma: the steps are taken by congruence, not by unfolding -/
theorem bs {α β : Type} (a : α) (f : α → Option β) : (some a).bind f = f a := congrArg (fun z => z) (Option.bind_some a f)
theorem okle {k : Int32} {a : Nat} (e : k = nI (tN k)) (h : tN k < 2 ^ 31) (ha : a < 2 ^ 31) : k ≤ nI a ↔ tN k ≤ a := by
  have := nle_iff (a := tN k) (b := a) h ha
  rw [← e] at this
  exact this
theorem op_hold {T : Nat → Nat} {I : Nat → Bool × (Nat → Nat)} {X : (Nat → Int32) × Nat} (p : PU T I X) (F : Int64 × Int64) (K : Int32 × Int32 × Int32) (m t : Int32) : OPB (f_X8_hold 0 m t) (f_X9_hold 53 m t) T I X F K := by
  have w := p.1.1
  have w0 := w.1
  have hp := pow6 w0
  by_cases c1 : mj_ok m (2 ^ T 0) = true
  · by_cases c2 : mj_ok t 7 = true
    · obtain ⟨e1, l1, -⟩ := ok_c c1
      obtain ⟨e2, l2, -⟩ := ok_c c2
      refine ⟨1, T, I, X, (hdA T (tN m) (tN t), hdB T (tN m) (tN t)), K, p, fun h s => ?_, fun h s => ?_⟩
      · obtain ⟨tr, bm, o⟩ := s.y.2.2.1
        obtain ⟨h1, a1, b1, o1, f1⟩ := X2_seeNow_s s.b w o
        obtain ⟨w', a2⟩ := X2_waysToHold_s o1 (trs_le T) (men := tN m) (j := tN t) (by omega) (by omega)
        have o2 := o1.w' w'
        have b2 : BN (h1.set 45 (cJ 7 w')) 1 T := b1.set (by omega)
        have z : YX h (h1.set 45 (cJ 7 w')) T := YX.od s.y b2 o2 (fun i i1 i2 i3 i4 => by rw [List.getElem?_set_ne (by omega)]; exact f1 i i1 i3)
        have s2 := s.yx z
        have x1 : XG h1 := s.x.fr (f1 0 (by decide) (by decide))
        have hB := holdN_le (trs_le T) (men := tN m) (j := tN t) (c := 6) (by decide)
        have a3 := X8_hold_52_s s2.1 rfl (men := tN m) (a := holdN (trs T) (tN m) (tN t) 6) (by omega) (by omega)
        rw [← e1] at a2 a3
        rw [← e2] at a2
        refine ⟨_, ?_, s2.obj (F' := (hdA T (tN m) (tN t), hdB T (tN m) (tN t))) (K' := K), fun k hk => ?_⟩
        · simp only [f_X8_hold, s.x.band, bs, s.b.ob, if_true, X0_hasAll_s s.b, c1, bi_t, one0, if_false, X8_isNeed_s, c2, s.x.odds, o.ob, a1, x1.odds, o1.ob]
          have hb : ∀ G : Int64 × mj_H → Option (Int32 × mj_H), (f_X2_waysToHold 43 m t h1).bind G = G (lN (holdN (trs T) (tN m) (tN t) 6), h1.set 45 (cJ 7 w')) := fun G => by rw [a2]; rfl
          rw [hb]
          exact a3
        · rw [List.getElem?_set_ne (by omega)]; exact z.2.2 k (by omega) (by omega)
      · obtain ⟨a, b, tk, v, l, im, o⟩ := s.1
        obtain ⟨w', a1⟩ := X9_hold_32_s s.n w o rfl (men := tN m) (j := tN t) l1 (by omega)
        rw [← e1, ← e2] at a1
        have sx := SX.w s.n.2.2 w'
        have s2 := s.sx sx
        obtain ⟨H, hH⟩ : ∃ H, H = (h.set 62 (cJ 7 w')).set 53 (cO 9 (((mfs X.2 F a b tk v l im).set 5 (.long (hdA T (tN m) (tN t)))).set 6 (.long (hdB T (tN m) (tN t))))) := ⟨_, rfl⟩
        rw [← hH] at a1
        have z : ∀ j, j ≠ 53 → H[j]? = (h.set 62 (cJ 7 w'))[j]? := fun j hj => by rw [hH]; exact List.getElem?_set_ne (by omega)
        have z53 : H[53]? = some (cO 9 (mfs X.2 (hdA T (tN m) (tN t), hdB T (tN m) (tN t)) a b tk v l im)) := by
          rw [hH]; exact get_self (get_set o (by decide))
        refine ⟨H, ?_, ?_, fun k hk => ?_⟩
        · simp only [f_X9_hold, s.g.ob, if_true, s.n.men w, bs, c1, bi_t, one0, if_false, (X9_inL t h).2.2.2.2.2.2.1, c2]
          exact a1
        · unfold MS SC at s2 ⊢
          rw [z 54 (by decide), z 55 (by decide), z 56 (by decide), z 57 (by decide), z 58 (by decide), z 59 (by decide), z 60 (by decide), z 61 (by decide), z 62 (by decide), z 63 (by decide), z 64 (by decide)]
          exact ⟨⟨a, b, tk, v, l, im, z53⟩, s2.2⟩
        · rw [z k (by omega)]; exact List.getElem?_set_ne (by omega)
    · rw [Bool.not_eq_true] at c2
      refine ⟨-2, T, I, X, F, kb K, p, fun h s => ?_, fun h s => ?_⟩
      · simp only [f_X8_hold, s.x.band, bs, s.b.ob, if_true, X0_hasAll_s s.b, c1, bi_t, one0, if_false, X8_isNeed_s, c2, bi_f, f_X8_hold_18, s.x.ob]
        exact (X8_badR s).bd
      · simp only [f_X9_hold, s.g.ob, if_true, s.n.men w, bs, c1, bi_t, one0, if_false, (X9_inL t h).2.2.2.2.2.2.1, c2, bi_f, f_X9_hold_20]
        exact (X9_bad_s s (-2)).bd
  · rw [Bool.not_eq_true] at c1
    refine ⟨-2, T, I, X, F, kb K, p, fun h s => ?_, fun h s => ?_⟩
    · simp only [f_X8_hold, s.x.band, bs, s.b.ob, if_true, X0_hasAll_s s.b, c1, bi_f, f_X8_hold_18, s.x.ob]
      exact (X8_badR s).bd
    · simp only [f_X9_hold, s.g.ob, if_true, s.n.men w, bs, c1, bi_f, f_X9_hold_20]
      exact (X9_bad_s s (-2)).bd
theorem cbB_some {bm bm' : Int32} {o : Option (Nat × Nat)} (h : ∃ p, o = some p) : cbB bm o = cbB bm' o := by
  obtain ⟨⟨b, m⟩, rfl⟩ := h
  rfl
theorem cb_none {f : Nat → Nat} {k : Nat} : ∀ {n : Nat}, (∀ x, x < n → ¬ popc x = k) → cb f k n = none
  | 0, _ => rfl
  | n + 1, h => by rw [cb, if_neg (h n (by omega))]; exact cb_none (fun x hx => h x (by omega))
theorem popc_c : ∀ c, c ≤ 6 → ∀ n, n < 2 ^ c → popc n ≤ c := by decide
theorem op_keep {T : Nat → Nat} {I : Nat → Bool × (Nat → Nat)} {X : (Nat → Int32) × Nat} (p : PU T I X) (F : Int64 × Int64) (K : Int32 × Int32 × Int32) (k t : Int32) : OPB (f_X8_keep 0 k t) (f_X9_keep 53 k t) T I X F K := by
  have w := p.1.1
  have w0 := w.1
  have hp := pow6 w0
  have rg := fun (A B : Option (Int32 × mj_H)) => rg1 (x := k) (n := 6) (by decide) A B
  by_cases c1 : mj_ok k 7 = true
  · by_cases c2 : mj_ok t 7 = true
    · obtain ⟨e1, l1, -⟩ := ok_c c1
      obtain ⟨e2, l2, -⟩ := ok_c c2
      refine ⟨kN T (tN k) (tN t), T, I, X, F, K, p, fun h s => ?_, fun h s => ?_⟩
      · have c3 : k ≤ nI (T 0) ↔ tN k ≤ T 0 := okle e1 (by omega) (by omega)
        by_cases q : tN k ≤ T 0
        · obtain ⟨tr, bm, o⟩ := s.y.2.2.1
          obtain ⟨h1, a1, b1, o1, f1⟩ := X2_seeNow_s s.b w o
          obtain ⟨h2, a2, o2, f2⟩ := X2_chooseBest_s o1 (trs_le T) (c := T 0) (k := tN k) (j := tN t) w0 (by omega) (by omega)
          have b2 : BN h2 1 T := b1.fr (fun i i1 i2 => f2 i (by omega) (by omega))
          have z : YX h h2 T := YX.od s.y b2 o2 (fun i i1 i2 i3 i4 => (f2 i i2 i4).trans (f1 i i1 i3))
          have x1 : XG h1 := s.x.fr (f1 0 (by decide) (by decide))
          have x2 : XG h2 := (s.y.yx z).1
          have a3 : mj_gI h2 43 2 2 = some (kN T (tN k) (tN t)) := by
            obtain ⟨b, mm, y1, -, -⟩ := cb_ex (f := fun men => holdN (trs T) men (tN t) 6) q w0
            refine (gI_r o2.1 rfl).trans ?_
            rw [kN, cbB_some ⟨_, y1⟩]
          rw [← e1, ← e2] at a2
          refine XR.q s z ?_
          unfold f_X8_keep
          refine (rg _ _).trans ?_
          rw [if_pos c1]
          simp only [X8_isNeed_s, Option.bind_some, c2, bi_t, one0, if_false, s.x.band, s.b.sz, c3, q, if_true, s.x.odds, o.ob, a1, x1.odds, x1.band, b1.sz, o1.ob, a2, x2.odds, a3]
        · refine XR.i s ?_
          have en : kN T (tN k) (tN t) = -1 := by
            rw [kN, cb_none (fun x hx => by have := popc_c (T 0) w0 x hx; omega)]; rfl
          unfold f_X8_keep
          refine (rg _ _).trans ?_
          rw [if_pos c1, en]
          simp only [X8_isNeed_s, Option.bind_some, c2, bi_t, one0, if_false, s.x.band, s.b.sz, c3, q]
      · obtain ⟨f, n2, n3⟩ := s.n.2.1
        obtain ⟨w3, j1⟩ := X9_keepOn_s (k := tN k) (j := tN t) s.g s.n.2.2.1 n2 (by decide) (by decide) (by decide) w (AT.of n3) (by omega) (by omega)
        have cc : cb (fun men => holdN (trust T) men (tN t) (T 0)) (tN k) (2 ^ T 0) = cb (fun men => holdN (trs T) men (tN t) 6) (tN k) (2 ^ T 0) := cb_congr (fun x hx => hold_now hx w0)
        rw [cc, ← e1, ← e2] at j1
        refine MR.q s (SX.w s.n.2.2 w3) ?_
        simp only [f_X9_keep, (X9_inL k h).2.2.2.2.2.2.1, (X9_inL t h).2.2.2.2.2.2.1, Option.bind_some, c1, c2, bi_t, one0, if_false, s.g.now, s.g.ob, if_true, j1]
        rfl
    · rw [Bool.not_eq_true] at c2
      refine ⟨-10, T, I, X, F, kb K, p, fun h s => ?_, fun h s => ?_⟩
      · have e : f_X8_keep 0 k t h = f_X8_keep_17 0 h := by
          unfold f_X8_keep
          refine (rg _ _).trans ?_
          rw [if_pos c1]
          simp only [X8_isNeed_s, Option.bind_some, c2, bi_f, if_true]
        rw [e, f_X8_keep_17, if_pos s.x.ob]
        exact (X8_bad s (-10)).bd
      · simp only [f_X9_keep, (X9_inL k h).2.2.2.2.2.2.1, (X9_inL t h).2.2.2.2.2.2.1, Option.bind_some, c1, c2, bi_t, bi_f, one0, if_false, if_true, f_X9_keep_37, s.g.ob]
        exact (X9_bad_s s (-10)).bd
  · rw [Bool.not_eq_true] at c1
    refine ⟨-10, T, I, X, F, kb K, p, fun h s => ?_, fun h s => ?_⟩
    · have e : f_X8_keep 0 k t h = f_X8_keep_17 0 h := by
        unfold f_X8_keep
        refine (rg _ _).trans ?_
        rw [if_neg (by rw [c1]; decide)]
      rw [e, f_X8_keep_17, if_pos s.x.ob]
      exact (X8_bad s (-10)).bd
    · simp only [f_X9_keep, (X9_inL k h).2.2.2.2.2.2.1, Option.bind_some, c1, bi_f, if_true, f_X9_keep_37, s.g.ob]
      exact (X9_bad_s s (-10)).bd
theorem op_worth {T : Nat → Nat} {I : Nat → Bool × (Nat → Nat)} {X : (Nat → Int32) × Nat} (p : PU T I X) (F : Int64 × Int64) (K : Int32 × Int32 × Int32) (m t k j : Int32) : OPB (f_X8_worth 0 m t k j) (f_X9_worth 53 m t k j) T I X F K := by
  have w := p.1.1
  have w0 := w.1
  have w1 := w.2.1
  have bad : (mj_ok m (T 0) = false ∨ mj_ok t 3 = false ∨ mj_ok k 4 = false ∨ mj_ok j 7 = false) → OPB (f_X8_worth 0 m t k j) (f_X9_worth 53 m t k j) T I X F K := by
    intro hb
    have xe : ∀ h, XS h T I X F K → f_X8_worth 0 m t k j h = f_X8_worth_33 0 h := fun h s => by
      unfold f_X8_worth
      simp only [s.x.band, Option.bind_some, s.b.ob, if_true, X0_has_s s.b, X8_isTest_s, X8_isWeighed_s, X8_isNeed_s]
      cases q1 : mj_ok m (T 0)
      · simp only [bi_f, if_true]
      · cases q2 : mj_ok t 3
        · simp only [bi_t, bi_f, one0, if_false, if_true]
        · cases q3 : mj_ok k 4
          · simp only [bi_t, bi_f, one0, if_false, if_true]
          · cases q4 : mj_ok j 7
            · simp only [bi_t, bi_f, one0, if_false, if_true]
            · rw [q1, q2, q3, q4] at hb
              simp at hb
    have me : ∀ h, MS h T I X F K → f_X9_worth 53 m t k j h = f_X9_worth_40 53 h := fun h s => by
      unfold f_X9_worth
      simp only [s.g.ob, if_true, s.n.man w, Option.bind_some, X9_isTest_s, (X9_inL k h).2.2.2.2.2.1, (X9_inL j h).2.2.2.2.2.2.1]
      cases q1 : mj_ok m (T 0)
      · simp only [bi_f, if_true]
      · cases q2 : mj_ok t 3
        · simp only [bi_t, bi_f, one0, if_false, if_true]
        · cases q3 : mj_ok k 4
          · simp only [bi_t, bi_f, one0, if_false, if_true]
          · cases q4 : mj_ok j 7
            · simp only [bi_t, bi_f, one0, if_false, if_true]
            · rw [q1, q2, q3, q4] at hb
              simp at hb
    refine ⟨-100000000, T, I, X, F, kb K, p, fun h s => ?_, fun h s => ?_⟩
    · rw [xe h s, f_X8_worth_33, if_pos s.x.ob]
      exact (X8_bad s (-100000000)).bd
    · rw [me h s, f_X9_worth_40, if_pos s.g.ob]
      exact (X9_bad_s s (-100000000)).bd
  cases c1 : mj_ok m (T 0)
  · exact bad (Or.inl c1)
  · cases c2 : mj_ok t 3
    · exact bad (Or.inr (Or.inl c2))
    · cases c3 : mj_ok k 4
      · exact bad (Or.inr (Or.inr (Or.inl c3)))
      · cases c4 : mj_ok j 7
        · exact bad (Or.inr (Or.inr (Or.inr c4)))
        · obtain ⟨e1, l1, -⟩ := ok_c c1
          obtain ⟨e2, l2, -⟩ := ok_c c2
          obtain ⟨e3, l3, -⟩ := ok_c c3
          obtain ⟨e4, l4, -⟩ := ok_c c4
          have hc := cost_le (tN t)
          have d1 : nI (T 1) < nI (cost (tN t)) ↔ T 1 < cost (tN t) := nlt_iff (by omega) (by omega)
          have d2 : k ≤ nI (T 0) ↔ tN k ≤ T 0 := okle e3 (by omega) (by omega)
          by_cases q1 : T 1 < cost (tN t)
          · refine ⟨-200000000, T, I, X, F, kn K, p, fun h s => ?_, fun h s => ?_⟩
            · have a1 := X8_costOf_s l2 h
              rw [← e2] at a1
              simp only [f_X8_worth, s.x.band, Option.bind_some, s.b.ob, if_true, X0_has_s s.b, X8_isTest_s, X8_isWeighed_s, X8_isNeed_s, c1, c2, c3, c4, bi_t, one0, if_false, s.b.dl, a1, d1, q1, f_X8_worth_67, s.x.ob]
              exact (X8_no s (-200000000)).bd
            · have a1 := X9_costOf_s l2 h
              rw [← e2] at a1
              simp only [f_X9_worth, s.g.ob, if_true, s.n.man w, Option.bind_some, X9_isTest_s, (X9_inL k h).2.2.2.2.2.1, (X9_inL j h).2.2.2.2.2.2.1, c1, c2, c3, c4, bi_t, one0, if_false, s.g.now, s.n.a1, a1, d1, q1, f_X9_worth_70]
              exact (X9_no_s s (-200000000)).bd
          · by_cases q2 : tN k ≤ T 0
            · refine ⟨wN T (tN m) (tN t) (tN k) (tN j), T, I, X, F, K, p, fun h s => ?_, fun h s => ?_⟩
              · have a1 := X8_costOf_s l2 h
                obtain ⟨h1, a2, z1⟩ := X8_waysNow_s s.y w (k := tN k) (j := tN j) (by omega) (by omega)
                have y1 := s.y.yx z1
                obtain ⟨h2, a3, z2⟩ := X8_gainOf_s y1 w l1 l2 (k := tN k) (j := tN j) (by omega) (by omega)
                rw [← e2] at a1
                rw [← e3, ← e4] at a2
                rw [← e1, ← e2, ← e3, ← e4] at a3
                refine XR.q s (z1.tr z2) ?_
                simp only [f_X8_worth, s.x.band, Option.bind_some, s.b.ob, if_true, X0_has_s s.b, X8_isTest_s, X8_isWeighed_s, X8_isNeed_s, c1, c2, c3, c4, bi_t, one0, if_false, s.b.dl, a1, d1, q1, s.b.sz, d2, q2, s.x.ob, a2, y1.1.ob, a3]
              · have a1 := X9_costOf_s l2 h
                obtain ⟨h2, a3, z2⟩ := X9_worthOf_s s.n w l1 l2 q2 (show tN j ≤ 6 by omega)
                rw [← e2] at a1
                rw [← e1, ← e2, ← e3, ← e4] at a3
                refine MR.q s z2 ?_
                simp only [f_X9_worth, s.g.ob, if_true, s.n.man w, Option.bind_some, X9_isTest_s, (X9_inL k h).2.2.2.2.2.1, (X9_inL j h).2.2.2.2.2.2.1, c1, c2, c3, c4, bi_t, one0, if_false, s.g.now, s.n.a1, a1, d1, q1, s.n.a0, d2, q2, a3]
            · refine ⟨-200000000, T, I, X, F, kn K, p, fun h s => ?_, fun h s => ?_⟩
              · have a1 := X8_costOf_s l2 h
                rw [← e2] at a1
                simp only [f_X8_worth, s.x.band, Option.bind_some, s.b.ob, if_true, X0_has_s s.b, X8_isTest_s, X8_isWeighed_s, X8_isNeed_s, c1, c2, c3, c4, bi_t, one0, if_false, s.b.dl, a1, d1, q1, s.b.sz, d2, q2, f_X8_worth_67, s.x.ob]
                exact (X8_no s (-200000000)).bd
              · have a1 := X9_costOf_s l2 h
                rw [← e2] at a1
                simp only [f_X9_worth, s.g.ob, if_true, s.n.man w, Option.bind_some, X9_isTest_s, (X9_inL k h).2.2.2.2.2.1, (X9_inL j h).2.2.2.2.2.2.1, c1, c2, c3, c4, bi_t, one0, if_false, s.g.now, s.n.a1, a1, d1, q1, s.n.a0, d2, q2, f_X9_worth_70]
                exact (X9_no_s s (-200000000)).bd
theorem op_best {T : Nat → Nat} {I : Nat → Bool × (Nat → Nat)} {X : (Nat → Int32) × Nat} (p : PU T I X) (F : Int64 × Int64) (K : Int32 × Int32 × Int32) (k j : Int32) : OPB (f_X8_best 0 k j) (f_X9_best 53 k j) T I X F K := by
  have w := p.1.1
  have w0 := w.1
  by_cases c1 : mj_ok k 4 = true
  · by_cases c2 : mj_ok j 7 = true
    · obtain ⟨e1, l1, -⟩ := ok_c c1
      obtain ⟨e2, l2, -⟩ := ok_c c2
      have d2 : k ≤ nI (T 0) ↔ tN k ≤ T 0 := okle e1 (by omega) (by omega)
      refine ⟨if tN k ≤ T 0 then (bsO T (tN k) (tN j) (T 0)).1 else -1, T, I, X, F, K, p, fun h s => ?_, fun h s => ?_⟩
      · by_cases q : tN k ≤ T 0
        · obtain ⟨h1, a2, z1⟩ := X8_waysNow_s s.y w (k := tN k) (j := tN j) (by omega) (by omega)
          have y1 := s.y.yx z1
          obtain ⟨h2, a3, z2⟩ := X8_best_52_s y1 w (k := tN k) (j := tN j) (by omega) (by omega)
          rw [← e1, ← e2] at a2 a3
          refine XR.q s (z1.tr z2) ?_
          rw [if_pos q]
          simp only [f_X8_best, X8_isWeighed_s, X8_isNeed_s, Option.bind_some, c1, c2, bi_t, one0, if_false, s.x.band, s.b.sz, d2, q, if_true, s.x.ob, a2]
          exact a3
        · refine XR.i s ?_
          rw [if_neg q]
          simp only [f_X8_best, X8_isWeighed_s, X8_isNeed_s, Option.bind_some, c1, c2, bi_t, one0, if_false, s.x.band, s.b.sz, d2, q]
      · obtain ⟨h2, a3, z2⟩ := X9_best_39_s s.n w (k := tN k) (j := tN j) (by omega) (by omega)
        rw [← e1, ← e2] at a3
        refine MR.q s z2 ?_
        simp only [f_X9_best, (X9_inL k h).2.2.2.2.2.1, (X9_inL j h).2.2.2.2.2.2.1, Option.bind_some, c1, c2, bi_t, one0, if_false]
        exact a3
    · rw [Bool.not_eq_true] at c2
      refine ⟨-10, T, I, X, F, kb K, p, fun h s => ?_, fun h s => ?_⟩
      · simp only [f_X8_best, X8_isWeighed_s, X8_isNeed_s, Option.bind_some, c1, c2, bi_t, bi_f, one0, if_false, if_true, f_X8_best_14, s.x.ob]
        exact (X8_bad s (-10)).bd
      · simp only [f_X9_best, (X9_inL k h).2.2.2.2.2.1, (X9_inL j h).2.2.2.2.2.2.1, Option.bind_some, c1, c2, bi_t, bi_f, one0, if_false, if_true, f_X9_best_24, s.g.ob]
        exact (X9_bad_s s (-10)).bd
  · rw [Bool.not_eq_true] at c1
    refine ⟨-10, T, I, X, F, kb K, p, fun h s => ?_, fun h s => ?_⟩
    · simp only [f_X8_best, X8_isWeighed_s, Option.bind_some, c1, bi_f, if_true, f_X8_best_14, s.x.ob]
      exact (X8_bad s (-10)).bd
    · simp only [f_X9_best, (X9_inL k h).2.2.2.2.2.1, Option.bind_some, c1, bi_f, if_true, f_X9_best_24, s.g.ob]
      exact (X9_bad_s s (-10)).bd
theorem op_sift {T : Nat → Nat} {I : Nat → Bool × (Nat → Nat)} {X : (Nat → Int32) × Nat} (p : PU T I X) (F : Int64 × Int64) (K : Int32 × Int32 × Int32) (m t i : Int32) : OPB (f_X8_sift 0 m t i) (f_X9_sift 53 m t i) T I X F K := by
  have w := p.1.1
  have rg := fun (A B : Option (Int32 × mj_H)) => rg1 (x := t) (n := 60) (by decide) A B
  have xe : ∀ h, XS h T I X F K → f_X8_sift 0 m t i h = if mj_ok m (T 0) = true then (if mj_ok t 61 = true then (if (-1 : Int32) ≤ i then (f_X6_find 48 1 m t h).bind fun p6 => (if p6.1 = 0 then some ((-1 : Int32), p6.2) else (if i = (-1 : Int32) then (mj_gR p6.2 0 8 7).bind fun x11 => (mj_gI p6.2 x11 6 2).bind fun x12 => some (x12, p6.2) else (mj_gR p6.2 0 8 7).bind fun x7 => (mj_gI p6.2 x7 6 2).bind fun x8 => (if x8 ≤ i then some ((-5 : Int32), p6.2) else (mj_gR p6.2 0 8 7).bind fun x9 => (if mj_ob p6.2 x9 6 = true then (f_X6_testAt x9 i p6.2).bind fun p10 => some (p10.1, p10.2) else none)))) else f_X8_sift_26 0 h) else f_X8_sift_26 0 h) else f_X8_sift_26 0 h := fun h s => by
    obtain ⟨sz, f, o⟩ := s.y.2.2.2.2
    unfold f_X8_sift
    simp only [s.x.band, Option.bind_some, s.b.ob, if_true, X0_has_s s.b, s.x.sifted, ob_r o.1]
    cases q1 : mj_ok m (T 0)
    · simp only [bi_f, if_true, Bool.false_eq_true, if_false]
    · simp only [bi_t, one0, if_false, if_true]
      refine (rg _ _).trans ?_
      rfl
  by_cases c1 : mj_ok m (T 0) = true
  · by_cases c2 : mj_ok t 61 = true
    · by_cases c3 : (-1 : Int32) ≤ i
      · obtain ⟨e1, l1, -⟩ := ok_c c1
        obtain ⟨e2, l2, -⟩ := ok_c c2
        refine ⟨siR (fnd (fitB T (tN m) (tN t)) 4) i, T, I, X, F, K, p, fun h s => ?_, fun h s => ?_⟩
        · obtain ⟨sz, f, o⟩ := s.y.2.2.2.2
          obtain ⟨h1, sz1, f1, a1, o1, a2, fr⟩ := X6_find_s s.b w o l1 (show tN t ≤ 60 by omega)
          rw [← e1, ← e2] at a1
          have z := YX.sf s.y o1 fr
          have x1 := (s.y.yx z).1
          refine XR.q s z ?_
          rw [xe h s, if_pos c1, if_pos c2, if_pos c3, a1]
          simp only [Option.bind_some]
          cases hf : fnd (fitB T (tN m) (tN t)) 4 with
          | none =>
            simp only [Option.isSome_none, bi_f, if_true]
            rfl
          | some q =>
            obtain ⟨n, code⟩ := q
            obtain ⟨n4, rfl, hk⟩ := a2 n code hf
            simp only [Option.isSome_some, bi_t, one0, if_false, siR]
            by_cases p1 : i = -1
            · rw [if_pos p1, if_pos p1]
              simp only [x1.sifted, Option.bind_some, gI_r (k := 2) o1.1 rfl]
            · rw [if_neg p1, if_neg p1]
              by_cases p2 : nI n ≤ i
              · rw [if_pos p2]
                simp only [x1.sifted, Option.bind_some, gI_r (k := 2) o1.1 rfl, p2, if_true]
              · rw [if_neg p2]
                obtain ⟨u1, u2, u3⟩ := ok_c (i_ok p1 c3 (show n < 2 ^ 31 by omega) p2)
                have u4 : ¬ nI (tN i) < 0 := nI_pos u3
                have u5 : ¬ nI 3 ≤ nI (tN i) := nI_ge (by omega) (by decide)
                rw [← u1] at u4 u5
                have u6 := aI_r o1.2.1 (show tN i < 3 by omega) (by decide)
                rw [hk _ u2, ← u1] at u6
                simp only [x1.sifted, Option.bind_some, gI_r (k := 2) o1.1 rfl, p2, if_false, ob_r o1.1, if_true, f_X6_testAt, u4, gR_r (k := 0) o1.1 rfl, aL_I o1.2.1, u5, u6]
        · obtain ⟨h1, a1, z⟩ := X9_sift_38_s s.n w l1 (show tN t ≤ 60 by omega) c3
          rw [← e1, ← e2] at a1
          refine MR.q s z ?_
          simp only [f_X9_sift, s.g.ob, if_true, s.n.man w, Option.bind_some, c1, bi_t, one0, if_false, (X9_inL t h).2.2.2.2.2.2.2.1, c2, c3]
          exact a1
      · refine ⟨-10, T, I, X, F, kb K, p, fun h s => ?_, fun h s => ?_⟩
        · rw [xe h s, if_pos c1, if_pos c2, if_neg c3, f_X8_sift_26, if_pos s.x.ob]
          exact (X8_bad s (-10)).bd
        · simp only [f_X9_sift, s.g.ob, if_true, s.n.man w, Option.bind_some, c1, bi_t, one0, if_false, (X9_inL t h).2.2.2.2.2.2.2.1, c2, c3, f_X9_sift_25]
          exact (X9_bad_s s (-10)).bd
    · rw [Bool.not_eq_true] at c2
      refine ⟨-10, T, I, X, F, kb K, p, fun h s => ?_, fun h s => ?_⟩
      · rw [xe h s, if_pos c1, if_neg (by rw [c2]; decide), f_X8_sift_26, if_pos s.x.ob]
        exact (X8_bad s (-10)).bd
      · simp only [f_X9_sift, s.g.ob, if_true, s.n.man w, Option.bind_some, c1, bi_t, one0, if_false, (X9_inL t h).2.2.2.2.2.2.2.1, c2, bi_f, f_X9_sift_25]
        exact (X9_bad_s s (-10)).bd
  · rw [Bool.not_eq_true] at c1
    refine ⟨-10, T, I, X, F, kb K, p, fun h s => ?_, fun h s => ?_⟩
    · rw [xe h s, if_neg (by rw [c1]; decide), f_X8_sift_26, if_pos s.x.ob]
      exact (X8_bad s (-10)).bd
    · simp only [f_X9_sift, s.g.ob, if_true, s.n.man w, Option.bind_some, c1, bi_f, f_X9_sift_25]
      exact (X9_bad_s s (-10)).bd
