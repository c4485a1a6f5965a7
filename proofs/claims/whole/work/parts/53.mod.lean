/-! PURE: the model's share, common, weighs -/
theorem X9_casesOf_s (k : Nat) (hk : k < 6) (w : Nat) (hw : w < 4) (r : Bool) (h : mj_H) : f_X9_casesOf (nI k) (nI w) (bi r) h = some (nI (cas k w r), h) := by
  have h1 : k = 0 ∨ k = 1 ∨ k = 2 ∨ k = 3 ∨ k = 4 ∨ k = 5 := by omega
  have h2 : w = 0 ∨ w = 1 ∨ w = 2 ∨ w = 3 := by omega
  rcases h1 with rfl | rfl | rfl | rfl | rfl | rfl <;> rcases h2 with rfl | rfl | rfl | rfl <;> cases r <;> rfl
theorem ix3 (m k : Nat) : (16 : Int32) + (6 : Int32) * nI m + nI k = nI (16 + (6 * m + k)) := by
  rw [show (16 : Int32) = nI 16 from rfl, n6, pk_mul, nI_add, nI_add, Nat.add_assoc]
theorem ix2 (m : Nat) : (16 : Int32) + (6 : Int32) * nI m = nI (16 + 6 * m) := by
  rw [show (16 : Int32) = nI 16 from rfl, n6, pk_mul, nI_add]
theorem X9_sumOf_s {h : mj_H} {a n m : Nat} {f : Nat → Int32} {W : Nat → Nat} (ha : h[a]? = some (cI n f)) (hn : 52 ≤ n) (hn2 : n < 2 ^ 31) (hm : m < 6) (e : ∀ k, k < 6 → f (16 + (6 * m + k)) = nI (W k)) (hB : ∀ k, k < 6 → W k ≤ 999999) {what : Nat} (hwh : what < 4) (rr : Bool) : f_X9_sumOf a (nI m) (nI what) (bi rr) h = some (lN (sm (fun k => W k * cas k what rr) 6), h) := by
  unfold f_X9_sumOf f_X9_sumOf_6
  refine fix_iter (st := fun i => (a, nI m, nI what, bi rr, lN (sm (fun k => W k * cas k what rr) i), nI i, h)) 6 _ (fun i hi K => ?_) (fun K => ?_) 1000 (by decide)
  · have e1 := X9_casesOf_s i hi what hwh rr h
    have e2 : cas i what rr < 2 ^ 31 := by have := cas_le i hi what hwh rr; omega
    have e3 := hB i hi
    simp [b_X9_sumOf_6, le6 hi, ix3, aI_r ha (show 16 + (6 * m + i) < n by omega) hn2, e1, e i hi, lN_toInt64 e2, lN_toInt64 (show W i < 2 ^ 31 by omega), lN_mul, lN_add, sm, nI_1]
  · simp [b_X9_sumOf_6, ge6]
theorem X9_allOf_s {h : mj_H} {a n m : Nat} {f : Nat → Int32} {W : Nat → Nat} (ha : h[a]? = some (cI n f)) (hn : 52 ≤ n) (hn2 : n < 2 ^ 31) (hm : m < 6) (e : ∀ k, k < 6 → f (16 + (6 * m + k)) = nI (W k)) (hB : ∀ k, k < 6 → W k ≤ 999999) : f_X9_allOf a (nI m) h = some (lN (sm W 6), h) := by
  unfold f_X9_allOf f_X9_allOf_5
  refine fix_iter (st := fun i => (a, nI m, lN (sm W i), nI i, h)) 6 _ (fun i hi K => ?_) (fun K => ?_) 1000 (by decide)
  · have e3 := hB i hi
    simp [b_X9_allOf_5, le6 hi, ix3, aI_r ha (show 16 + (6 * m + i) < n by omega) hn2, e i hi, lN_toInt64 (show W i < 2 ^ 31 by omega), lN_add, sm, nI_1]
  · simp [b_X9_allOf_5, ge6]
theorem X9_shareOf_s {h : mj_H} {a n m : Nat} {f : Nat → Int32} {W : Nat → Nat} (ha : h[a]? = some (cI n f)) (hn : 52 ≤ n) (hn2 : n < 2 ^ 31) (hm : m < 6) (e : ∀ k, k < 6 → f (16 + (6 * m + k)) = nI (W k)) (hB : ∀ k, k < 6 → W k ≤ 999999) (hp : 0 < sm W 6) {what : Nat} (hwh : what < 4) (rr : Bool) : f_X9_shareOf a (nI m) (nI what) (bi rr) h = some (nI (share W what rr), h) := by
  have b1 := sm_le (f := W) (n := 6) hB
  have b2 := smc_le (r := rr) hwh hB
  have c2 : ¬ lN (12 * sm W 6) = lN 0 := by rw [leq (by omega) (by omega)]; omega
  simp [f_X9_shareOf, X9_sumOf_s ha hn hn2 hm e hB hwh rr, X9_allOf_s ha hn hn2 hm e hB, l12, l60, l0, lN_mul, c2, pk_lDiv (show 60 * sm (fun k => W k * cas k what rr) 6 < 2 ^ 63 by omega) (show 0 < 12 * sm W 6 by omega) (show 12 * sm W 6 < 2 ^ 63 by omega), lN_i, share]
theorem X9_trustOn_s {h : mj_H} {a n m : Nat} {f : Nat → Int32} {W : Nat → Nat} (ha : h[a]? = some (cI n f)) (hn : 52 ≤ n) (hn2 : n < 2 ^ 31) (hm : m < 6) (e : ∀ k, k < 6 → f (16 + (6 * m + k)) = nI (W k)) (hB : ∀ k, k < 6 → W k ≤ 999999) (hp : 0 < sm W 6) : f_X9_trustOn a (nI m) h = some (nI (share W 3 false), h) := by
  have := X9_shareOf_s ha hn hn2 hm e hB hp (show 3 < 4 by decide) false
  rw [show nI 3 = (3 : Int32) from rfl, bi_f] at this
  simp [f_X9_trustOn, this]
theorem X9_common_loop (h : mj_H) : ∀ (n a b fu : Nat), a < 2 ^ 31 → b < 2 ^ 31 → b < 2 ^ n → 2 * n + 1 < fu → mj_fix (fun (K4 : (Int32 × Int32 × mj_H) → Option (Int32 × mj_H)) (s : Int32 × Int32 × mj_H) => b_X9_common_4 (fun v2 v3 h => K4 (v2, v3, h)) s.1 s.2.1 s.2.2) fu (nI a, nI b, h) = some (nI (Nat.gcd a b), h) := by
  have z : ∀ (a fu : Nat), 0 < fu → mj_fix (fun (K4 : (Int32 × Int32 × mj_H) → Option (Int32 × mj_H)) (s : Int32 × Int32 × mj_H) => b_X9_common_4 (fun v2 v3 h => K4 (v2, v3, h)) s.1 s.2.1 s.2.2) fu (nI a, nI 0, h) = some (nI a, h) := by
    intro a fu hf
    match fu, hf with
    | fu + 1, _ => simp [mj_fix, b_X9_common_4, nI_0]
  have st : ∀ (a b fu : Nat), a < 2 ^ 31 → b < 2 ^ 31 → 0 < b → mj_fix (fun (K4 : (Int32 × Int32 × mj_H) → Option (Int32 × mj_H)) (s : Int32 × Int32 × mj_H) => b_X9_common_4 (fun v2 v3 h => K4 (v2, v3, h)) s.1 s.2.1 s.2.2) (fu + 1) (nI a, nI b, h) = mj_fix (fun (K4 : (Int32 × Int32 × mj_H) → Option (Int32 × mj_H)) (s : Int32 × Int32 × mj_H) => b_X9_common_4 (fun v2 v3 h => K4 (v2, v3, h)) s.1 s.2.1 s.2.2) fu (nI b, nI (a % b), h) := by
    intro a b fu ha hb h0
    have c2 := nI_ne0 h0 hb
    simp [mj_fix, b_X9_common_4, c2, pk_rem ha h0 hb]
  intro n
  induction n with
  | zero =>
    intro a b fu ha hb h1 h3
    have : b = 0 := by omega
    subst this
    rw [Nat.gcd_zero_right]
    exact z a fu (by omega)
  | succ n ih =>
    intro a b fu ha hb h1 h3
    rcases Nat.eq_zero_or_pos b with q | q
    · subst q
      rw [Nat.gcd_zero_right]
      exact z a fu (by omega)
    · match fu, h3 with
      | fu + 2, h3 =>
        rw [st a b (fu + 1) ha hb q, eu a b]
        have hr := Nat.mod_lt a q
        rcases Nat.eq_zero_or_pos (a % b) with q2 | q2
        · rw [q2, Nat.gcd_zero_right]
          exact z b (fu + 1) (by omega)
        · rw [st b (a % b) fu hb (by omega) q2, eu b (a % b)]
          have h5 := Nat.mod_lt b q2
          have h6 : b % (a % b) < 2 ^ n := by
            have h7 : a % b + b % (a % b) ≤ b := by
              have h8 := Nat.div_add_mod b (a % b)
              have h9 : 1 ≤ b / (a % b) := (Nat.one_le_div_iff q2).mpr (Nat.le_of_lt hr)
              have h10 : (a % b) * 1 ≤ (a % b) * (b / (a % b)) := Nat.mul_le_mul_left _ h9
              omega
            have : 2 ^ (n + 1) = 2 * 2 ^ n := by rw [Nat.pow_succ]; omega
            omega
          exact ih (a % b) (b % (a % b)) fu (by omega) (by omega) h6 (by omega)
theorem X9_common_s (h : mj_H) {a b : Nat} (ha : a < 2 ^ 31) (hb : b < 2 ^ 31) : f_X9_common (nI a) (nI b) h = some (nI (Nat.gcd a b), h) :=
  X9_common_loop h 31 a b 1000 ha hb hb (by omega)
/-- six ints from b on were written -/
def WC (f f' : Nat → Int32) (b : Nat) (W : Nat → Nat) : Prop := (∀ j, (j < b ∨ b + 6 ≤ j) → f' j = f j) ∧ ∀ k, k < 6 → f' (b + k) = nI (W k)
theorem X9_weighs_156_s {a n b : Nat} (hb : b + 6 ≤ n) (hn2 : n < 2 ^ 31) : ∀ (s fu : Nat) (h : mj_H) (f : Nat → Int32) (W : Nat → Nat), mxw W 6 ≤ 999999 * 2 ^ s → s < fu → h[a]? = some (cI n f) → (∀ k, k < 6 → f (b + k) = nI (W k)) → (∀ k, k < 6 → W k ≤ 12000000) → ∃ f', mj_fix (fun (K156 : (Nat × Int32 × Int32 × mj_H) → Option (mj_H)) (s : Nat × Int32 × Int32 × mj_H) => b_X9_weighs_156 (fun v0 v5 v7 h => K156 (v0, v5, v7, h)) s.1 s.2.1 s.2.2.1 s.2.2.2) fu (a, nI b, nI (mxw W 6), h) = some (h.set a (cI n f')) ∧ WC f f' b (wh s W)
  | 0, fu + 1, h, f, W, hs, hf, ha, e, hB => by
    have c1 : nI (mxw W 6) ≤ (999999 : Int32) := nI_le (b := 999999) (by omega) (by decide)
    exact ⟨f, by rw [set_same ha]; simp [mj_fix, b_X9_weighs_156, c1], fun _ _ => rfl, e⟩
  | s + 1, fu + 1, h, f, W, hs, hf, ha, e, hB => by
    have b1 := mxw_le (W := W) (n := 6) hB
    by_cases q : mxw W 6 ≤ 999999
    · have c1 : nI (mxw W 6) ≤ (999999 : Int32) := nI_le (b := 999999) q (by decide)
      refine ⟨f, by rw [set_same ha]; simp [mj_fix, b_X9_weighs_156, c1], fun _ _ => rfl, ?_⟩
      rw [wh, if_pos q]; exact e
    · have c1 : ¬ nI (mxw W 6) ≤ (999999 : Int32) := nI_ge (a := 999999) (by omega) (by omega)
      have e2 : nI (mxw W 6) / (2 : Int32) = nI (mxw (fun k => W k / 2) 6) := by
        rw [mxw_half]; exact pk_div (d := 2) (by omega) (by decide) (by decide)
      have l172 : ∀ K : (Nat × Int32 × Int32 × mj_H) → Option mj_H, f_X9_weighs_172 (fun v0 v5 v7 h => K (v0, v5, v7, h)) a (nI b) (nI (mxw (fun k => W k / 2) 6)) (0 : Int32) h = K (a, nI b, nI (mxw (fun k => W k / 2) 6), h.set a (cI n (fill2 (fun k => nI (W k / 2)) f b 6))) := by
        intro K
        unfold f_X9_weighs_172
        have h0 : (a, nI b, nI (mxw (fun k => W k / 2) 6), (0 : Int32), h) = (fun i => (a, nI b, nI (mxw (fun k => W k / 2) 6), nI i, h.set a (cI n (fill2 (fun k => nI (W k / 2)) f b i)))) 0 := by
          simp only [fill2_0, set_same ha]; rfl
        rw [h0]
        refine fix_iter (st := fun i => (a, nI b, nI (mxw (fun k => W k / 2) 6), nI i, h.set a (cI n (fill2 (fun k => nI (W k / 2)) f b i)))) 6 _ (fun i hi K => ?_) (fun K => ?_) 1000 (by decide)
        · have g4 := get_self (c := cI n (fill2 (fun k => nI (W k / 2)) f b i)) ha
          have r1 := aI_r g4 (show b + i < n by omega) hn2
          rw [fill2_out (Or.inr (Nat.le_refl _)), e i hi] at r1
          have r2 : nI (W i) / (2 : Int32) = nI (W i / 2) := pk_div (d := 2) (by have := hB i hi; omega) (by decide) (by decide)
          have r3 := fill2_I (fun k => nI (W k / 2)) f b i
          simp [b_X9_weighs_172, le6 hi, nI_add, r1, r2, uI_r _ g4 (show b + i < n by omega) hn2, r3, nI_1]
        · simp [b_X9_weighs_172, ge6]
      obtain ⟨f', i1, i2, i3⟩ := X9_weighs_156_s hb hn2 s fu (h.set a (cI n (fill2 (fun k => nI (W k / 2)) f b 6))) (fill2 (fun k => nI (W k / 2)) f b 6) (fun k => W k / 2) (by rw [mxw_half]; have : 2 ^ (s + 1) = 2 * 2 ^ s := by rw [Nat.pow_succ]; omega
                                                                                                                                                                                 omega) (by omega) (get_self ha) (fun k hk => by rw [fill2_in (by omega) (by omega), Nat.add_sub_cancel_left]) (fun k hk => by have := hB k hk; omega)
      refine ⟨f', ?_, fun j hj => ?_, ?_⟩
      · rw [List.set_set] at i1
        rw [← i1]
        show b_X9_weighs_156 _ a (nI b) (nI (mxw W 6)) h = _
        rw [b_X9_weighs_156, if_neg c1, e2]
        exact l172 _
      · rw [i2 j hj, fill2_out hj]
      · rw [wh, if_neg q]; exact i3
theorem X9_weighs_s {h : mj_H} {a n m s : Nat} {f : Nat → Int32} {W : Nat → Nat} (ha : h[a]? = some (cI n f)) (hn : 52 ≤ n) (hn2 : n < 2 ^ 31) (hm : m < 6) (h2 : f 2 = nI s) (hs : s < 64) (e : ∀ k, k < 6 → f (16 + 6 * m + k) = nI (W k)) (hB : ∀ k, k < 6 → W k ≤ 999999) {test : Nat} (ht : test < 3) (shown : Bool) : ∃ f', f_X9_weighs a (nI m) (nI test) (bi shown) h = some (h.set a (cI n f')) ∧ WC f f' (16 + 6 * m) (weighN W test shown (s.testBit m)) := by
  obtain ⟨b, hbe⟩ : ∃ b, b = 16 + 6 * m := ⟨_, rfl⟩
  obtain ⟨word, hwe⟩ : ∃ word, word = s.testBit m := ⟨_, rfl⟩
  obtain ⟨P, hP⟩ : ∃ P, P = wprod W test shown word := ⟨_, rfl⟩
  rw [← hbe] at e
  rw [← hbe, ← hwe]
  have hPB := wprod_le (shown := shown) (word := word) (show test < 4 by omega) hB
  rw [← hP] at hPB
  have has : ∀ h', f_X9_has (nI s) (nI m) h' = some (bi word, h') := by
    intro h'
    have := bit_nI (s := s) (m := m) (by omega) (by omega)
    rw [hwe]
    cases q : s.testBit m <;> simp [f_X9_has, this, q, bi]
  have gce : gc (wone P) 6 = if sm P 6 = 0 then 1 else gc P 6 := by
    unfold wone; split
    · decide
    · rfl
  have gcz : gc P 6 = 0 ↔ sm P 6 = 0 := by
    constructor
    · intro z
      apply sm_zero.mpr
      intro k hk
      rcases Nat.eq_zero_or_pos (P k) with y | y
      · exact y
      · have := gc_pos hk y; omega
    · intro z; exact gc_zero (sm_zero.mp z)
  -- the second loop
  have wd : ∀ k, k < 6 → (if gc P 6 = 0 then 1 else P k / gc P 6) = wdiv (wone P) k := by
    intro k hk
    unfold wdiv
    rw [gce]
    by_cases z : sm P 6 = 0
    · rw [if_pos (gcz.mpr z), if_pos z]; simp [wone, z]
    · rw [if_neg (fun y => z (gcz.mp y)), if_neg z]; simp [wone, z]
  have wdB : ∀ k, k < 6 → wdiv (wone P) k ≤ 12000000 := wdiv_le (wone_le hPB (by decide))
  have l91 : ∀ (h1 : mj_H) (f1 : Nat → Int32), h1[a]? = some (cI n f1) → (∀ k, k < 6 → f1 (b + k) = nI (P k)) → ∃ f', f_X9_weighs_91 a (nI b) (nI (gc P 6)) (0 : Int32) (0 : Int32) h1 = some (h1.set a (cI n f')) ∧ WC f1 f' b (wh 64 (wdiv (wone P))) := by
    intro h1 f1 ha1 e1
    have gB := gc_le hPB (Nat.le_refl 6)
    obtain ⟨f', i1, i2, i3⟩ := X9_weighs_156_s (a := a) (b := b) (n := n) (by omega) hn2 64 1000 (h1.set a (cI n (fill2 (fun k => nI (wdiv (wone P) k)) f1 b 6))) (fill2 (fun k => nI (wdiv (wone P) k)) f1 b 6) (wdiv (wone P)) (by have := mxw_le (n := 6) wdB; omega) (by decide) (get_self ha1) (fun k hk => by rw [fill2_in (by omega) (by omega), Nat.add_sub_cancel_left]) wdB
    refine ⟨f', ?_, fun j hj => by rw [i2 j hj, fill2_out hj], i3⟩
    rw [List.set_set] at i1
    rw [← i1]
    unfold f_X9_weighs_91
    have h0 : (a, nI b, nI (gc P 6), (0 : Int32), (0 : Int32), h1) = (fun i => (a, nI b, nI (gc P 6), nI (mxw (wdiv (wone P)) i), nI i, h1.set a (cI n (fill2 (fun k => nI (wdiv (wone P) k)) f1 b i)))) 0 := by
      simp only [fill2_0, set_same ha1]; rfl
    rw [h0]
    refine fix_iter (st := fun i => (a, nI b, nI (gc P 6), nI (mxw (wdiv (wone P)) i), nI i, h1.set a (cI n (fill2 (fun k => nI (wdiv (wone P) k)) f1 b i)))) 6 _ (fun i hi K => ?_) (fun K => ?_) 1000 (by decide)
    · have g4 := get_self (c := cI n (fill2 (fun k => nI (wdiv (wone P) k)) f1 b i)) ha1
      have g5 := get_self (c := cI n (fill2 (fun k => nI (wdiv (wone P) k)) f1 b (i + 1))) ha1
      have r1 := aI_r g4 (show b + i < n by omega) hn2
      rw [fill2_out (Or.inr (Nat.le_refl _)), e1 i hi] at r1
      have r5 := aI_r g5 (show b + i < n by omega) hn2
      rw [fill2_in (by omega) (by omega), Nat.add_sub_cancel_left] at r5
      have r3 := fill2_I (fun k => nI (wdiv (wone P) k)) f1 b i
      have r4 := uI_r (nI (wdiv (wone P) i)) g4 (show b + i < n by omega) hn2
      rw [r3, List.set_set] at r4
      have m1 := mxw_le (W := wdiv (wone P)) (n := i) (B := 12000000) (fun k hk => wdB k (by omega))
      have m2 := wdB i hi
      have c3 : (nI (wdiv (wone P) i) ≤ nI (mxw (wdiv (wone P)) i)) ↔ wdiv (wone P) i ≤ mxw (wdiv (wone P)) i := nI_leI (by omega) (by omega)
      have tail : ∀ K : (Nat × Int32 × Int32 × Int32 × Int32 × mj_H) → Option mj_H, f_X9_weighs_123 (fun v0 v5 v6 v7 v8 h => K (v0, v5, v6, v7, v8, h)) a (nI b) (nI (gc P 6)) (nI (mxw (wdiv (wone P)) i)) (nI i) a (nI (b + i)) (nI (wdiv (wone P) i)) (h1.set a (cI n (fill2 (fun k => nI (wdiv (wone P) k)) f1 b i))) = K (a, nI b, nI (gc P 6), nI (mxw (wdiv (wone P)) (i + 1)), nI (i + 1), h1.set a (cI n (fill2 (fun k => nI (wdiv (wone P) k)) f1 b (i + 1)))) := by
        intro K
        by_cases y : wdiv (wone P) i ≤ mxw (wdiv (wone P)) i
        · simp [f_X9_weighs_123, f_X9_weighs_148, r4, nI_add, r5, c3, y, mxw, Nat.max_eq_left y, nI_1]
        · simp [f_X9_weighs_123, f_X9_weighs_148, r4, nI_add, r5, c3, y, mxw, Nat.max_eq_right (Nat.le_of_lt (Nat.lt_of_not_le y)), nI_1]
      by_cases z : gc P 6 = 0
      · have z1 : nI (gc P 6) = 0 := by rw [z]; rfl
        have w1 : wdiv (wone P) i = 1 := by rw [← wd i hi, if_pos z]
        have tl := tail K
        rw [w1] at tl
        simp only [b_X9_weighs_91, if_neg (le6 hi), if_pos z1, nI_add]
        exact tl
      · have z1 := nI_ne0 (Nat.pos_of_ne_zero z) (by omega)
        have w1 : nI (P i) / nI (gc P 6) = nI (wdiv (wone P) i) := by
          rw [pk_div (by have := hPB i hi; omega) (Nat.pos_of_ne_zero z) (by omega), ← wd i hi, if_neg z]
        simp only [b_X9_weighs_91, if_neg (le6 hi), if_neg z1, nI_add, r1, Option.bind_some, w1]
        exact tail K
    · simp only [b_X9_weighs_91, if_pos ge6]
      rfl
  -- the first loop
  obtain ⟨f', j1, j2, j3⟩ := l91 (h.set a (cI n (fill2 (fun k => nI (P k)) f b 6))) (fill2 (fun k => nI (P k)) f b 6) (get_self ha) (fun k hk => by rw [fill2_in (by omega) (by omega), Nat.add_sub_cancel_left])
  refine ⟨f', ?_, fun j hj => by rw [j2 j hj, fill2_out hj], by unfold weighN; rw [← hP]; exact j3⟩
  rw [List.set_set] at j1
  rw [← j1]
  have a2 := aI_r ha (show 2 < n by omega) hn2
  rw [h2] at a2
  have n2 : (2 : Int32) = nI 2 := rfl
  simp only [f_X9_weighs, n2, a2, Option.bind_some, has, ix2, ← hbe]
  unfold f_X9_weighs_27
  have h0 : (a, nI test, bi shown, bi word, nI b, (0 : Int32), (0 : Int32), (0 : Int32), h) = (fun i => (a, nI test, bi shown, bi word, nI b, nI (gc P i), nI 0, nI i, h.set a (cI n (fill2 (fun k => nI (P k)) f b i)))) 0 := by
    simp only [fill2_0, set_same ha]; rfl
  rw [h0]
  refine fix_iter (st := fun i => (a, nI test, bi shown, bi word, nI b, nI (gc P i), nI 0, nI i, h.set a (cI n (fill2 (fun k => nI (P k)) f b i)))) 6 _ (fun i hi K => ?_) (fun K => ?_) 1000 (by decide)
  · have g4 := get_self (c := cI n (fill2 (fun k => nI (P k)) f b i)) ha
    have g5 := get_self (c := cI n (fill2 (fun k => nI (P k)) f b (i + 1))) ha
    have r1 := aI_r g4 (show b + i < n by omega) hn2
    rw [fill2_out (Or.inr (Nat.le_refl _)), e i hi] at r1
    have r5 := aI_r g5 (show b + i < n by omega) hn2
    rw [fill2_in (by omega) (by omega), Nat.add_sub_cancel_left] at r5
    have r3 := fill2_I (fun k => nI (P k)) f b i
    have r4 := uI_r (nI (P i)) g4 (show b + i < n by omega) hn2
    rw [r3, List.set_set] at r4
    have e1 := X9_casesOf_s i hi test (by omega) word (h.set a (cI n (fill2 (fun k => nI (P k)) f b i)))
    have e2 := cas_le i hi test (by omega) word
    have m1 := gc_le hPB (n := i) (by omega)
    have m2 := hPB i hi
    have cm := X9_common_s (h.set a (cI n (fill2 (fun k => nI (P k)) f b (i + 1)))) (show gc P i < 2 ^ 31 by omega) (show P i < 2 ^ 31 by omega)
    have e4 : (12 : Int32) - nI (cas i test word) = nI (12 - cas i test word) := by
      rw [show (12 : Int32) = nI 12 from rfl, pk_sub e2]
    have fin : ∀ x : Int32, nI (W i) * x = nI (P i) → f_X9_weighs_66 (fun v0 v2 v3 v4 v5 v6 v7 v8 h => K (v0, v2, v3, v4, v5, v6, v7, v8, h)) a (nI test) (bi shown) (bi word) (nI b) (nI (gc P i)) (nI 0) (nI i) a (nI (b + i)) (nI (W i)) x (h.set a (cI n (fill2 (fun k => nI (P k)) f b i))) = K (a, nI test, bi shown, bi word, nI b, nI (gc P (i + 1)), nI 0, nI (i + 1), h.set a (cI n (fill2 (fun k => nI (P k)) f b (i + 1)))) := by
      intro x hx
      simp only [f_X9_weighs_66, hx, r4, Option.bind_some, nI_add, r5, cm, nI_1]
      rfl
    cases shown
    · have hx : nI (W i) * nI (12 - cas i test word) = nI (P i) := by rw [pk_mul, hP]; simp [wprod]
      have fi := fin _ hx
      simp only [b_X9_weighs_27, if_neg (le6 hi), e1, Option.bind_some, nI_add, r1, bi_f, if_true, e4]
      exact fi
    · have hx : nI (W i) * nI (cas i test word) = nI (P i) := by rw [pk_mul, hP]; simp [wprod]
      have fi := fin _ hx
      simp only [b_X9_weighs_27, if_neg (le6 hi), e1, Option.bind_some, nI_add, r1, bi_t]
      rw [if_neg (by decide)]
      exact fi
  · simp only [b_X9_weighs_27, if_pos ge6]
    rfl
