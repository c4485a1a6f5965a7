/-! PURE: the class's band: pass, besides, wearers, pairs, likeliest -/
theorem or_lt {a b n : Nat} (ha : a < 2 ^ n) (hb : b < 2 ^ n) : a ||| b < 2 ^ n := Nat.or_lt_two_pow ha hb
theorem orI (a b : Nat) : nI a ||| nI b = nI (a ||| b) := by
  apply Int32.toBitVec_inj.mp
  show BitVec.ofNat 32 a ||| BitVec.ofNat 32 b = BitVec.ofNat 32 (a ||| b)
  apply BitVec.eq_of_toNat_eq
  rw [BitVec.toNat_or, BitVec.toNat_ofNat, BitVec.toNat_ofNat, BitVec.toNat_ofNat, Nat.or_mod_two_pow]
theorem andI (a b : Nat) : nI a &&& nI b = nI (a &&& b) := by
  apply Int32.toBitVec_inj.mp
  show BitVec.ofNat 32 a &&& BitVec.ofNat 32 b = BitVec.ofNat 32 (a &&& b)
  apply BitVec.eq_of_toNat_eq
  rw [BitVec.toNat_and, BitVec.toNat_ofNat, BitVec.toNat_ofNat, BitVec.toNat_ofNat, Nat.and_mod_two_pow]
theorem X0_besides_s {h : mj_H} {p : Nat} {T : Nat → Nat} (b : BN h p T) {m : Nat} (hm : m < T 0) : f_X0_besides p (nI m) h = some (nI (beside (T 0) m), h) := by
  have b0 := b.1
  have hr : ∀ s : Nat, f_X0_besides_19 p (nI m) (nI s) h = some (nI (s ||| if m + 1 < T 0 then 2 ^ (m + 1) else 0), h) := by
    intro s
    have e1 : nI m + (1 : Int32) = nI (m + 1) := nI_1 m
    have e2 := X0_has_s b (nI (m + 1))
    rw [ok_nI (by omega)] at e2
    by_cases q : m + 1 < T 0
    · simp [f_X0_besides_19, b.ob, e1, e2, q, bi_t, f_X0_besides_39, shl1 (show m + 1 < 31 by omega), orI]
    · simp [f_X0_besides_19, b.ob, e1, e2, q, bi_f, f_X0_besides_39]
  unfold beside
  rcases Nat.eq_zero_or_pos m with q | q
  · subst q
    have e2 := X0_has_s b (nI 0 - (1 : Int32))
    have e3 : mj_ok (nI 0 - (1 : Int32)) (T 0) = false := by
      cases z : mj_ok (nI 0 - (1 : Int32)) (T 0)
      · rfl
      · exact absurd (show (nI 0 - (1 : Int32)) < 0 by decide) (ok_lt0 z)
    rw [e3] at e2
    have := hr 0
    simp [f_X0_besides, b.ob, e2, bi_f]
    rw [n0, this]
    simp
  · have e1 : nI m - (1 : Int32) = nI (m - 1) := by rw [n1, pk_sub (by omega)]
    have e2 := X0_has_s b (nI (m - 1))
    rw [ok_nI (by omega), decide_eq_true (by omega)] at e2
    have := hr (2 ^ (m - 1))
    simp [f_X0_besides, b.ob, e1, e2, bi_t, shl1 (show m - 1 < 31 by omega), this, q]
theorem beside_lt {c m : Nat} (hm : m < c) : beside c m < 2 ^ c := by
  unfold beside
  apply or_lt
  · split
    · exact Nat.pow_lt_pow_right (by decide) (by omega)
    · exact Nat.pow_pos (by decide)
  · split
    · exact Nat.pow_lt_pow_right (by decide) (by omega)
    · exact Nat.pow_pos (by decide)
theorem X8_costOf_s {t : Nat} (ht : t < 3) (h : mj_H) : f_X8_costOf (nI t) h = some (nI (cost t), h) := by
  have : t = 0 ∨ t = 1 ∨ t = 2 := by omega
  rcases this with rfl | rfl | rfl <;> rfl
theorem tw_testT {T : Nat → Nat} {tested test : Nat} {shown : Bool} {m k : Nat} (hm : m < T 0) (hk : k < 6) : testT T tested test shown (16 + (6 * m + k)) = beh T tested test shown m k := by
  unfold testT
  rw [if_neg (by omega), if_neg (by omega), if_pos (by omega)]
  have h1 : (16 + (6 * m + k) - 16) / 6 = m := by omega
  have h2 : (16 + (6 * m + k) - 16) % 6 = k := by omega
  rw [h1, h2]
/-- the band after the rows of the first i men were weighed -/
def passW (T : Nat → Nat) (tested test : Nat) (shown : Bool) (i : Nat) : Nat → Nat := fun j => if j < 6 * i then beh T tested test shown (j / 6) (j % 6) else T (16 + j)
def PI (h h1 : mj_H) (p : Nat) (T : Nat → Nat) (W : Nat → Nat) : Prop := ∃ w g, h1 = (h.set (p + 1) (cJ 36 w)).set (p + 5) (cJ 6 g) ∧ ∀ j, j < 6 * T 0 → w j = lN (W j)
def Tw (T W : Nat → Nat) : Nat → Nat := fun j => if 16 ≤ j ∧ j < 16 + 6 * T 0 then W (j - 16) else T j
theorem PI.bn {h h1 : mj_H} {p : Nat} {T W : Nat → Nat} (b : BN h p T) (z : PI h h1 p T W) : BN h1 p (Tw T W) := by
  obtain ⟨w, g, rfl, e⟩ := z
  obtain ⟨b0, b1, ⟨w0, b2, b3⟩, ⟨sg, b4, b5⟩, ⟨br, b6, b7⟩, b8, g0, b9⟩ := b
  have t0 : Tw T W 0 = T 0 := by simp [Tw]
  have t1 : Tw T W 1 = T 1 := by simp [Tw]
  have t2 : Tw T W 2 = T 2 := by simp [Tw]
  refine ⟨by rw [t0]; exact b0, by rw [t0, t1, t2]; exact get_set (get_set b1 (by omega)) (by omega), ⟨w, get_set (get_self b2) (by omega), fun i hi => ?_⟩, ⟨sg, get_set (get_set b4 (by omega)) (by omega), fun m hm => ?_⟩, ⟨br, get_set (get_set b6 (by omega)) (by omega), fun m hm => ?_⟩, get_set (get_set b8 (by omega)) (by omega), g, get_self (get_set b9 (by omega))⟩
  · rw [t0] at hi
    rw [e i hi]; simp [Tw, hi]
  · rw [t0] at hm
    rw [b5 m hm]; simp only [Tw]; rw [if_neg (by omega)]
  · rw [t0] at hm
    rw [b7 m hm]; simp only [Tw]; rw [if_neg (by omega)]
theorem X0_pass_s {h : mj_H} {p : Nat} {T : Nat → Nat} (b : BN h p T) (w : WF T) {tested test : Nat} (htd : tested < T 0) (ht : test < 3) (shown : Bool) (hd : cost test ≤ T 1) : ∃ h', f_X0_pass p (nI tested) (nI test) (bi shown) h = some h' ∧ BN h' p (testT T tested test shown) ∧ h'.length = h.length ∧ ∀ k, (k < p ∨ p + 6 ≤ k) → h'[k]? = h[k]? := by
  have w0 := w.1
  have main := fix_in (F := (fun (K3 : (Nat × Int32 × Int32 × Int32 × Int32 × mj_H) → Option (mj_H)) (s : Nat × Int32 × Int32 × Int32 × Int32 × mj_H) => b_X0_pass_3 (fun v0 v1 v2 v3 v4 h => K3 (v0, v1, v2, v3, v4, h)) s.1 s.2.1 s.2.2.1 s.2.2.2.1 s.2.2.2.2.1 s.2.2.2.2.2)) (fun i s => ∃ h1, s = (p, nI tested, nI test, bi shown, nI i, h1) ∧ PI h h1 p T (passW T tested test shown i)) (T 0) (fun i hi s hs => ?_) 1000 (by omega) (p, nI tested, nI test, bi shown, (0 : Int32), h) ?_
  · obtain ⟨s', k, ⟨h1, rfl, hp⟩, hk, e⟩ := main
    obtain ⟨K, hK⟩ := fix_pos hk (F := (fun (K3 : (Nat × Int32 × Int32 × Int32 × Int32 × mj_H) → Option (mj_H)) (s : Nat × Int32 × Int32 × Int32 × Int32 × mj_H) => b_X0_pass_3 (fun v0 v1 v2 v3 v4 h => K3 (v0, v1, v2, v3, v4, h)) s.1 s.2.1 s.2.2.1 s.2.2.2.1 s.2.2.2.2.1 s.2.2.2.2.2)) (p, nI tested, nI test, bi shown, nI (T 0), h1)
    have b1 := PI.bn b hp
    have t0 : Tw T (passW T tested test shown (T 0)) 0 = T 0 := by simp [Tw]
    have t1 : Tw T (passW T tested test shown (T 0)) 1 = T 1 := by simp [Tw]
    have t2 : Tw T (passW T tested test shown (T 0)) 2 = T 2 := by simp [Tw]
    have hbe := X0_besides_s b1 (m := tested) (by rw [t0]; exact htd)
    have hob := b1.ob
    obtain ⟨c0, c1, ⟨w1, c2, c3⟩, ⟨sg, c4, c5⟩, ⟨br, c6, c7⟩, c8, g, c9⟩ := b1
    rw [t0, t1, t2] at c1
    have hle : nI (T 0) ≤ nI (T 0) := nI_le (Nat.le_refl _) (by omega)
    obtain ⟨ww, gg, hh1, -⟩ := hp
    have hlen : h1.length = h.length := by rw [hh1]; simp
    have hfr : ∀ k, (k < p ∨ p + 6 ≤ k) → h1[k]? = h[k]? := fun k hk => by
      rw [hh1, List.getElem?_set_ne (by omega), List.getElem?_set_ne (by omega)]
    have h87 : ∀ (h2 : mj_H) (inf : Nat), h2[p]? = some (cO 0 [.ref (p + 1), .ref (p + 2), .ref (p + 3), .ref (p + 4), .int (nI (T 0)), .int (nI inf), .int (nI (T 1))]) → f_X0_pass_87 p (nI test) h2 = some (h2.set p (cO 0 [.ref (p + 1), .ref (p + 2), .ref (p + 3), .ref (p + 4), .int (nI (T 0)), .int (nI inf), .int (nI (T 1 - cost test))])) := by
      intro h2 inf hh
      simp [f_X0_pass_87, mj_gI, mj_gV, hh, X8_costOf_s ht, mj_sV, pk_sub hd]
    have goal : ∀ (inf : Nat) (h3 : mj_H), inf = (if test = 0 then T 2 ||| beside (T 0) tested else T 2) → (∀ k, k ≠ p → h3[k]? = h1[k]?) → h3.length = h1.length → h3[p]? = some (cO 0 [.ref (p + 1), .ref (p + 2), .ref (p + 3), .ref (p + 4), .int (nI (T 0)), .int (nI inf), .int (nI (T 1 - cost test))]) → BN h3 p (testT T tested test shown) ∧ h3.length = h.length ∧ ∀ k, (k < p ∨ p + 6 ≤ k) → h3[k]? = h[k]? := by
      intro inf h3 hinf hk3 hl3 hp3
      have u0 : testT T tested test shown 0 = T 0 := by simp [testT]
      have u1 : testT T tested test shown 1 = T 1 - cost test := by simp [testT]
      have u2 : testT T tested test shown 2 = inf := by rw [hinf]; simp [testT]
      refine ⟨⟨by rw [u0]; exact w0, by rw [u0, u1, u2]; exact hp3, ⟨w1, by rw [hk3 _ (by omega)]; exact c2, fun i hi => ?_⟩, ⟨sg, by rw [hk3 _ (by omega)]; exact c4, fun m hm => ?_⟩, ⟨br, by rw [hk3 _ (by omega)]; exact c6, fun m hm => ?_⟩, by rw [hk3 _ (by omega)]; exact c8, g, by rw [hk3 _ (by omega)]; exact c9⟩, hl3.trans hlen, fun k hk => (hk3 k (by omega)).trans (hfr k hk)⟩
      · rw [u0] at hi
        rw [c3 i (by rw [t0]; exact hi)]
        have : i = 6 * (i / 6) + i % 6 := by omega
        conv => rhs; rw [this]
        rw [tw_testT (by omega) (by omega)]
        simp [Tw, passW, hi]
      · rw [u0] at hm
        rw [c5 m (by rw [t0]; exact hm)]
        simp only [Tw, testT]
        rw [if_neg (by omega), if_neg (by omega), if_neg (by omega), if_neg (by omega)]
      · rw [u0] at hm
        rw [c7 m (by rw [t0]; exact hm)]
        simp only [Tw, testT]
        rw [if_neg (by omega), if_neg (by omega), if_neg (by omega), if_neg (by omega)]
    unfold f_X0_pass f_X0_pass_3
    rw [e, hK]
    by_cases q : test = 0
    · subst q
      rw [t0] at hbe
      have hs : h1.set p (cO 0 [.ref (p + 1), .ref (p + 2), .ref (p + 3), .ref (p + 4), .int (nI (T 0)), .int (nI (T 2 ||| beside (T 0) tested)), .int (nI (T 1))]) = h1.set p (cO 0 [.ref (p + 1), .ref (p + 2), .ref (p + 3), .ref (p + 4), .int (nI (T 0)), .int (nI (T 2 ||| beside (T 0) tested)), .int (nI (T 1))]) := rfl
      have h87' := h87 _ _ (get_self (c := cO 0 [.ref (p + 1), .ref (p + 2), .ref (p + 3), .ref (p + 4), .int (nI (T 0)), .int (nI (T 2 ||| beside (T 0) tested)), .int (nI (T 1))]) c1)
      refine ⟨_, ?_, goal (T 2 ||| beside (T 0) tested) ((h1.set p (cO 0 [.ref (p + 1), .ref (p + 2), .ref (p + 3), .ref (p + 4), .int (nI (T 0)), .int (nI (T 2 ||| beside (T 0) tested)), .int (nI (T 1))])).set p (cO 0 [.ref (p + 1), .ref (p + 2), .ref (p + 3), .ref (p + 4), .int (nI (T 0)), .int (nI (T 2 ||| beside (T 0) tested)), .int (nI (T 1 - cost 0))])) (by simp) (fun k hk => by rw [List.getElem?_set_ne (by omega), List.getElem?_set_ne (by omega)]) (by simp) (get_self (get_self c1))⟩
      rw [← h87']
      simp [b_X0_pass_3, mj_gI, mj_gV, c1, hle, n0, hob, hbe, mj_sV, orI]
    · have q' : ¬ nI test = (0 : Int32) := fun z => q ((nI_eq (by omega) (by decide)).mp (z.trans n0))
      have h87' := h87 _ _ c1
      refine ⟨_, ?_, goal (T 2) (h1.set p (cO 0 [.ref (p + 1), .ref (p + 2), .ref (p + 3), .ref (p + 4), .int (nI (T 0)), .int (nI (T 2)), .int (nI (T 1 - cost test))])) (by simp [q]) (fun k hk => by rw [List.getElem?_set_ne (by omega)]) (by simp) (get_self c1)⟩
      rw [← h87']
      simp [b_X0_pass_3, mj_gI, mj_gV, c1, hle, q']
  · obtain ⟨h1, rfl, hp⟩ := hs
    have b1 := PI.bn b hp
    obtain ⟨ww, gg, hh1, hww⟩ := hp
    have t0 : Tw T (passW T tested test shown i) 0 = T 0 := by simp [Tw]
    have c1 : h1[p]? = some (cO 0 [.ref (p + 1), .ref (p + 2), .ref (p + 3), .ref (p + 4), .int (nI (T 0)), .int (nI (T 2)), .int (nI (T 1))]) := b1.2.1
    have hlt : ¬ nI (T 0) ≤ nI i := nI_ge hi (by omega)
    have e1 : nI i + (1 : Int32) = nI (i + 1) := nI_1 i
    -- this man's own row, as it is in the heap
    have htwi : ∀ k, k < 6 → tw (Tw T (passW T tested test shown i)) i k = tw T i k := fun k hk => by
      simp only [tw, Tw, passW]
      rw [if_pos (by omega), if_neg (by omega)]
      congr 1; omega
    have hbro : f_X0_areBrothers p (nI i) (nI tested) h1 = some (bi (brob T i tested), h1) := by
      have h3 := w.br hi
      have h4 : T (10 + i) = Tw T (passW T tested test shown i) (10 + i) := by simp only [Tw]; rw [if_neg (by omega)]
      have h5 := X0_brothersOf_s b1 (m := i) (by rw [t0]; exact hi)
      rw [← h4] at h5
      simp [f_X0_areBrothers, b1.ob, h5, X8_isIn_s (show T (10 + i) < 2 ^ 31 by omega) (show tested < 31 by omega), bi_01]
      rfl
    have h28 : (i = tested ∨ brob T i tested = true) → ∃ s', (∃ h2, s' = (p, nI tested, nI test, bi shown, nI (i + 1), h2) ∧ PI h h2 p T (passW T tested test shown (i + 1))) ∧ ∀ K : (Nat × Int32 × Int32 × Int32 × Int32 × mj_H) → Option mj_H, f_X0_pass_28 (fun v0 v1 v2 v3 v4 h => K (v0, v1, v2, v3, v4, h)) p (nI tested) (nI test) (bi shown) (nI i) h1 = K s' := by
      intro hcond
      obtain ⟨g, l1, l2⟩ := X0_load_s b1 (m := i) (by rw [t0]; exact hi)
      have b2 := b1.s5 ⟨g, rfl⟩
      have hg := get_self (c := cJ 6 g) b1.2.2.2.2.2.2.choose_spec
      have hkn : f_X0_knows p (nI i) (h1.set (p + 5) (cJ 6 g)) = some (bi (know T i), h1.set (p + 5) (cJ 6 g)) := by
        have c1' := get_set (c := cJ 6 g) c1 (show p + 5 ≠ p by omega)
        have := w.t2
        simp [f_X0_knows, mj_gI, mj_gV, c1', X8_isIn_s (show T 2 < 2 ^ 31 by omega) (show i < 31 by omega), bi_01]
        rfl
      obtain ⟨h5, z1, g5, z2, z3⟩ := X5_weigh_s (W := tw T i) b2.2.2.2.2.2.1 hg (by omega) (fun k hk => by rw [l2 k hk, htwi k hk]) (w.w hi) ht shown (know T i)
      have b5 : BN h5 p (Tw T (passW T tested test shown i)) := b2.s5 ⟨g5, z2⟩
      have hg5 : h5[p + 5]? = some (cJ 6 g5) := by rw [z2]; exact get_self hg
      have hst := X5_store_s b5.2.2.2.2.2.1 hg5 b5.2.1 b5.2.2.1.choose_spec.1 (by omega) (by omega) (by omega) (show i < 6 by omega)
      obtain ⟨wA, hwA⟩ : ∃ wA, wA = b5.2.2.1.choose := ⟨_, rfl⟩
      have hwA1 := b5.2.2.1.choose_spec.1
      rw [← hwA] at hst hwA1
      have hwA2 : wA = ww := by
        have q1 : h5[p + 1]? = some (cJ 36 ww) := by
          have hb := b.2.2.1.choose_spec.1
          rw [z2, hh1]
          rw [List.getElem?_set_ne (by omega), List.getElem?_set_ne (by omega), List.getElem?_set_ne (by omega)]
          exact get_self hb
        rw [q1] at hwA1
        cases hwA1; rfl
      subst hwA2
      refine ⟨(p, nI tested, nI test, bi shown, nI (i + 1), h5.set (p + 1) (cJ 36 (fill2 g5 wA (6 * i) 6))), ⟨_, rfl, fill2 g5 wA (6 * i) 6, g5, ?_, ?_⟩, fun K => ?_⟩
      · rw [z2, hh1]
        apply List.ext_getElem?
        intro j
        by_cases j1 : p + 1 = j
        · subst j1
          simp [List.getElem?_set]
        · by_cases j5 : p + 5 = j
          · subst j5
            simp [List.getElem?_set]
          · simp [List.getElem?_set, j1, j5]
      · intro j hj
        by_cases j1 : j < 6 * i
        · rw [fill2_out (Or.inl j1), hww j hj]
          simp only [passW]; rw [if_pos j1, if_pos (by omega)]
        · by_cases j2 : j < 6 * i + 6
          · rw [fill2_in (by omega) j2, z3 _ (by omega)]
            simp only [passW]; rw [if_pos (by omega)]
            have d1 : j / 6 = i := by omega
            have d2 : j % 6 = j - 6 * i := by omega
            rw [d1, d2, beh, if_pos hcond]
          · rw [fill2_out (Or.inr (by omega)), hww j hj]
            simp only [passW]; rw [if_neg j1, if_neg (by omega)]
      · simp [f_X0_pass_28, f_X0_pass_63, b1.row, b1.ob5, l1, b2.row, b2.ob, hkn, b2.ob5, z1, b5.row, b5.ob5, hst, e1]
    by_cases q : i = tested
    · obtain ⟨s', z1, z2⟩ := h28 (Or.inl q)
      refine ⟨s', z1, fun K => ?_⟩
      rw [← z2 K]
      subst q
      simp [b_X0_pass_3, mj_gI, mj_gV, c1, hlt]
    · have q' : ¬ nI i = nI tested := fun z => q ((nI_eq (by omega) (by omega)).mp z)
      cases q2 : brob T i tested
      · refine ⟨(p, nI tested, nI test, bi shown, nI (i + 1), h1), ⟨h1, rfl, ww, gg, hh1, fun j hj => ?_⟩, fun K => ?_⟩
        · rw [hww j hj]
          simp only [passW]
          by_cases j1 : j < 6 * i
          · rw [if_pos j1, if_pos (by omega)]
          · by_cases j2 : j < 6 * i + 6
            · rw [if_neg j1, if_pos (by omega)]
              have d1 : j / 6 = i := by omega
              have d2 : j % 6 = j - 6 * i := by omega
              rw [d1, d2, beh, if_neg (by simp [q, q2])]
              simp only [tw]; congr 2; omega
            · rw [if_neg j1, if_neg (by omega)]
        · simp [b_X0_pass_3, f_X0_pass_63, mj_gI, mj_gV, c1, hlt, q', b1.ob, hbro, q2, bi_f, e1]
      · obtain ⟨s', z1, z2⟩ := h28 (Or.inr q2)
        refine ⟨s', z1, fun K => ?_⟩
        rw [← z2 K]
        simp [b_X0_pass_3, mj_gI, mj_gV, c1, hlt, q', b1.ob, hbro, q2, bi_t]
  · obtain ⟨b0, b1, ⟨w0, b2, b3⟩, ⟨sg, b4, b5⟩, ⟨br, b6, b7⟩, b8, g0, b9⟩ := b
    refine ⟨h, rfl, w0, g0, ?_, fun j hj => ?_⟩
    · rw [set_same b2, set_same b9]
    · rw [b3 j hj]; simp [passW]
