/-! PURE: ways to hold, the best choice (class) -/
theorem X2_addMan_s {h : mj_H} {p q x : Nat} {bm : Int32} {w : Nat → Int64} {d : Nat → Nat} {t : Nat} (o1 : h[43]? = some (cO 2 [.ref 44, .ref 45, .int bm])) (o2 : h[45]? = some (cJ 7 w)) (e : ∀ k, k < 7 → w k = lN (d k)) (ht : t ≤ 60) : ∃ w', f_X2_addMan 43 (nI t) h = some (h.set 45 (cJ 7 w')) ∧ ∀ k, k < 7 → w' k = lN (dpS d t k) := by
  have e1 : ((60 : Int32) - nI t).toInt64 = lN (60 - t) := by
    rw [show (60 : Int32) = nI 60 from rfl, pk_sub ht]; exact lN_toInt64 (by omega)
  have e2 : (nI t).toInt64 = lN t := lN_toInt64 (by omega)
  unfold f_X2_addMan f_X2_addMan_3
  have key := fix_inv (F := (fun (K3 : (Nat × Int32 × Int32 × mj_H) → Option (mj_H)) (s : Nat × Int32 × Int32 × mj_H) => b_X2_addMan_3 (fun v0 v1 v2 h => K3 (v0, v1, v2, h)) s.1 s.2.1 s.2.2.1 s.2.2.2)) (fun i s => ∃ w1, s = (43, nI t, nI (6 - i), h.set 45 (cJ 7 w1)) ∧ ∀ k, k < 7 → w1 k = lN (if k ≤ 6 - i then d k else dpS d t k)) (fun r => ∃ w', r = h.set 45 (cJ 7 w') ∧ ∀ k, k < 7 → w' k = lN (dpS d t k)) 6 (fun i hi s hs => ?_) (fun s hs => ?_) 1000 (by decide) (43, nI t, (6 : Int32), h) ⟨w, by rw [set_same o2]; rfl, fun k hk => by rw [if_pos (by omega)]; exact e k hk⟩
  · obtain ⟨r, k1, w', k2, k3⟩ := key
    exact ⟨w', k1.trans (by rw [k2]), k3⟩
  · left
    obtain ⟨w1, rfl, hw⟩ := hs
    obtain ⟨j, hj⟩ : ∃ j, 6 - i = j + 1 := ⟨5 - i, by omega⟩
    rw [hj] at hw ⊢
    have hj2 : 6 - (i + 1) = j := by omega
    rw [hj2]
    have g1 := get_set (c := cJ 7 w1) o1 (show 45 ≠ 43 by decide)
    have g2 := get_self (c := cJ 7 w1) o2
    have c1 : ¬ nI (j + 1) ≤ 0 := nI_nle (by omega) (by omega)
    refine ⟨_, ⟨vp_updL w1 (j + 1) (lN (dpS d t (j + 1))), rfl, fun k hk => ?_⟩, fun K => ?_⟩
    · by_cases z : k = j + 1
      · subst z; rw [pk_uLs, if_neg (by omega)]
      · rw [pk_uLn z, hw k hk]
        by_cases z2 : k ≤ j
        · rw [if_pos (by omega), if_pos z2]
        · rw [if_neg (by omega), if_neg z2]
    · have a1 : w1 (j + 1) = lN (d (j + 1)) := by rw [hw _ (by omega), if_pos (Nat.le_refl _)]
      have a2 : w1 j = lN (d j) := by rw [hw _ (by omega), if_pos (by omega)]
      simp [b_X2_addMan_3, c1, mj_gR, mj_gV, g1, aJ_r g2 (show j + 1 < 7 by omega) (by decide), nI_pred, aJ_r g2 (show j < 7 by omega) (by decide), e1, e2, a1, a2, lN_mul, lN_add, uJ_r _ g2 (show j + 1 < 7 by omega) (by decide), pk_m1, dpS]
  · obtain ⟨w1, rfl, hw⟩ := hs
    have g1 := get_set (c := cJ 7 w1) o1 (show 45 ≠ 43 by decide)
    have g2 := get_self (c := cJ 7 w1) o2
    refine ⟨_, ⟨vp_updL w1 0 (lN (dpS d t 0)), rfl, fun k hk => ?_⟩, fun K => ?_⟩
    · by_cases z : k = 0
      · subst z; rw [pk_uLs]
      · rw [pk_uLn z, hw k hk, if_neg (by omega)]
    · have a1 : w1 0 = lN (d 0) := by rw [hw _ (by omega), if_pos (by omega)]
      have c1 : nI 0 ≤ (0 : Int32) := by decide
      have a2 := aJ_r g2 (show 0 < 7 by omega) (by decide)
      have a3 : ∀ x, mj_uJ (h.set 45 (cJ 7 w1)) 45 (nI 0) x = _ := fun x => uJ_r x g2 (show 0 < 7 by omega) (by decide)
      rw [nI_0] at a2 a3
      simp [b_X2_addMan_3, nI_0, mj_gR, mj_gV, g1, a2, e1, a1, lN_mul, a3, dpS]
theorem X2_waysToHold_s {h : mj_H} {tr : Nat → Nat} {bm : Int32} (o : OD h tr bm) (ht : ∀ m, tr m ≤ 60) {men j : Nat} (hm : men < 64) (hj : j ≤ 6) : ∃ w', f_X2_waysToHold 43 (nI men) (nI j) h = some (lN (holdN tr men j 6), h.set 45 (cJ 7 w')) := by
  obtain ⟨o1, ⟨f, o2, o3⟩, w, o4⟩ := o
  have fin : ∀ (w1 : Nat → Int64) (d : Nat → Nat), (∀ k, k < 7 → w1 k = lN (d k)) → f_X2_waysToHold_65 43 (nI j) (0 : Int64) (0 : Int32) (h.set 45 (cJ 7 w1)) = some (lN (hsum d j 7), h.set 45 (cJ 7 w1)) := by
    intro w1 d e
    have g1 := get_set (c := cJ 7 w1) o1 (show 45 ≠ 43 by decide)
    have g2 := get_self (c := cJ 7 w1) o4
    unfold f_X2_waysToHold_65
    refine fix_iter (st := fun i => (43, nI j, lN (hsum d j i), nI i, h.set 45 (cJ 7 w1))) 7 _ (fun i hi K => ?_) (fun K => ?_) 1000 (by decide)
    · have c1 : ¬ (6 : Int32) < nI i := nI_nlt (a := 6) (by omega) (by decide)
      by_cases q : i < j
      · have c2 : nI i < nI j := nI_lt q (by omega)
        have q' : ¬ j ≤ i := by omega
        simp [b_X2_waysToHold_65, f_X2_waysToHold_90, c1, c2, hsum, q', nI_1]
      · have c2 : ¬ nI i < nI j := nI_nlt (by omega) (by omega)
        have q' : j ≤ i := by omega
        simp [b_X2_waysToHold_65, f_X2_waysToHold_90, c1, c2, hsum, q', mj_gR, mj_gV, g1, aJ_r g2 hi (by decide), e i hi, lN_add, nI_1]
    · have c1 : (6 : Int32) < nI 7 := by decide
      simp [b_X2_waysToHold_65, c1]
  have mid : ∀ w0 : Nat → Int64, (∀ k, k < 7 → w0 k = lN (dp0 k)) → ∃ w', f_X2_waysToHold_30 43 (nI men) (nI j) (0 : Int32) (h.set 45 (cJ 7 w0)) = some (lN (holdN tr men j 6), h.set 45 (cJ 7 w')) := by
    intro w0 e0
    unfold f_X2_waysToHold_30
    have key := fix_inv (F := (fun (K30 : (Nat × Int32 × Int32 × Int32 × mj_H) → Option (Int64 × mj_H)) (s : Nat × Int32 × Int32 × Int32 × mj_H) => b_X2_waysToHold_30 (fun v0 v1 v2 v3 h => K30 (v0, v1, v2, v3, h)) s.1 s.2.1 s.2.2.1 s.2.2.2.1 s.2.2.2.2)) (fun i s => ∃ w1, s = (43, nI men, nI j, nI i, h.set 45 (cJ 7 w1)) ∧ ∀ k, k < 7 → w1 k = lN (dp tr men i k)) (fun r => ∃ w', r = (lN (holdN tr men j 6), h.set 45 (cJ 7 w'))) 6 (fun i hi s hs => ?_) (fun s hs => ?_) 1000 (by decide) (43, nI men, nI j, (0 : Int32), h.set 45 (cJ 7 w0)) ⟨w0, rfl, e0⟩
    · obtain ⟨r, k1, w', k2⟩ := key
      exact ⟨w', k1.trans (by rw [k2])⟩
    · left
      obtain ⟨w1, rfl, e1⟩ := hs
      have g1 := get_set (c := cJ 7 w1) o1 (show 45 ≠ 43 by decide)
      have g2 := get_self (c := cJ 7 w1) o4
      have g3 := get_set (c := cJ 7 w1) o2 (show 45 ≠ 44 by decide)
      have ii := X8_isIn_s (s := men) (m := i) (by omega) (by omega) (h.set 45 (cJ 7 w1))
      cases q : men.testBit i
      · rw [q] at ii
        refine ⟨_, ⟨w1, rfl, fun k hk => ?_⟩, fun K => ?_⟩
        · simp only [dp, q, Bool.false_eq_true, if_false]; exact e1 k hk
        · simp [b_X2_waysToHold_30, f_X2_waysToHold_54, le6 hi, ii, bi_f, nI_1]
      · rw [q] at ii
        obtain ⟨w2, a1, a2⟩ := X2_addMan_s (p := 0) (q := 0) (x := 0) g1 g2 e1 (ht i)
        rw [List.set_set] at a1
        refine ⟨_, ⟨w2, rfl, fun k hk => ?_⟩, fun K => ?_⟩
        · simp only [dp, q, if_true]; exact a2 k hk
        · simp [b_X2_waysToHold_30, f_X2_waysToHold_54, le6 hi, ii, bi_t, nI_1, mj_gR, mj_gV, g1, aI_r g3 hi (by decide), o3 i hi, mj_ob, a1]
    · obtain ⟨w1, rfl, e1⟩ := hs
      exact ⟨_, ⟨w1, rfl⟩, fun K => by simp [b_X2_waysToHold_30, ge6, fin w1 _ e1, holdN]⟩
  unfold f_X2_waysToHold f_X2_waysToHold_2
  have h0 : (43, nI men, nI j, (1 : Int32), h) = (fun i => (43, nI men, nI j, nI (1 + i), h.set 45 (cJ 7 (fill2 (fun _ => 0) w 1 i)))) 0 := by
    simp only [fill2_0, set_same o4]; rfl
  obtain ⟨w', hw'⟩ := mid (vp_updL (fill2 (fun _ => 0) w 1 6) 0 1) (fun k hk => by
    by_cases z : k = 0
    · subst z; rw [pk_uLs]; rfl
    · rw [pk_uLn z, fill2_in (by omega) (by omega)]; simp [dp0, z]; rfl)
  refine ⟨w', ?_⟩
  rw [h0]
  refine fix_iter (st := fun i => (43, nI men, nI j, nI (1 + i), h.set 45 (cJ 7 (fill2 (fun _ => 0) w 1 i)))) 6 _ (fun i hi K => ?_) (fun K => ?_) 1000 (by decide)
  · have g1 := get_set (c := cJ 7 (fill2 (fun _ => 0) w 1 i)) o1 (show 45 ≠ 43 by decide)
    have g2 := get_self (c := cJ 7 (fill2 (fun _ => 0) w 1 i)) o4
    have c1 : ¬ (6 : Int32) < nI (1 + i) := nI_nlt (a := 6) (by omega) (by decide)
    have a1 := uJ_r (0 : Int64) g2 (show 1 + i < 7 by omega) (by decide)
    have a2 := fill2_J (fun _ => 0) w 1 i
    have a3 : nI (1 + i) + (1 : Int32) = nI (1 + (i + 1)) := nI_1 _
    simp [b_X2_waysToHold_2, c1, mj_gR, mj_gV, g1, a1, a2, a3]
  · have g1 := get_set (c := cJ 7 (fill2 (fun _ => 0) w 1 6)) o1 (show 45 ≠ 43 by decide)
    have g2 := get_self (c := cJ 7 (fill2 (fun _ => 0) w 1 6)) o4
    have c1 : (6 : Int32) < nI (1 + 6) := by decide
    have a1 := uJ_r (1 : Int64) g2 (show 0 < 7 by omega) (by decide)
    rw [nI_0] at a1
    simp [b_X2_waysToHold_2, c1, mj_gR, mj_gV, g1, a1, hw']
/-- the best among the first n sets: the set and its ways -/
def cb (f : Nat → Nat) (k : Nat) : Nat → Option (Nat × Nat)
  | 0 => none
  | n + 1 => if popc n = k then (match cb f k n with
    | none => some (n, f n)
    | some (b, m) => if m < f n then some (n, f n) else some (b, m)) else cb f k n
theorem cb_at {f : Nat → Nat} {k : Nat} : ∀ {n b m : Nat}, cb f k n = some (b, m) → b < n ∧ m = f b
  | n + 1, b, m, h => by
    simp only [cb] at h
    split at h
    · split at h
      · cases h; exact ⟨by omega, rfl⟩
      · next b' m' hb =>
        have ih := cb_at hb
        split at h
        · cases h; exact ⟨by omega, rfl⟩
        · cases h; exact ⟨by omega, ih.2⟩
    · have ih := cb_at h; exact ⟨by omega, ih.2⟩
theorem cb_some {f : Nat → Nat} {k x : Nat} (hx : popc x = k) : ∀ {n : Nat}, x < n → ∃ p, cb f k n = some p
  | n + 1, hn => by
    simp only [cb]
    by_cases q : popc n = k
    · rw [if_pos q]
      split
      · exact ⟨_, rfl⟩
      · split <;> exact ⟨_, rfl⟩
    · rw [if_neg q]
      have : x ≠ n := fun z => q (z ▸ hx)
      exact cb_some hx (by omega)
theorem cb_congr {f g : Nat → Nat} {k : Nat} : ∀ {n : Nat}, (∀ x, x < n → f x = g x) → cb f k n = cb g k n
  | 0, _ => rfl
  | n + 1, h => by simp only [cb]; rw [cb_congr (fun x hx => h x (by omega)), h n (by omega)]
theorem popc_ones : ∀ k, k ≤ 6 → popc (2 ^ k - 1) = k := by decide
theorem cb_ex {f : Nat → Nat} {k c : Nat} (hk : k ≤ c) (hc : c ≤ 6) : ∃ b m, cb f k (2 ^ c) = some (b, m) ∧ b < 2 ^ c ∧ m = f b := by
  have h1 : 2 ^ k ≤ 2 ^ c := Nat.pow_le_pow_right (by decide) hk
  have h2 : 0 < 2 ^ k := Nat.pow_pos (by decide)
  obtain ⟨⟨b, m⟩, h⟩ := cb_some (f := f) (popc_ones k (by omega)) (show 2 ^ k - 1 < 2 ^ c by omega)
  exact ⟨b, m, h, cb_at h⟩
def cbM : Option (Nat × Nat) → Int64
  | none => -1
  | some (_, m) => lN m
def cbB (bm : Int32) : Option (Nat × Nat) → Int32
  | none => bm
  | some (b, _) => nI b
theorem lN_m1 {a : Nat} (h : a < 2 ^ 63) : ¬ lN a ≤ (-1 : Int64) := by
  rw [Int64.le_iff_toInt_le, pk_lT h, show (-1 : Int64).toInt = -1 from rfl]
  omega
theorem OD.w {h : mj_H} {tr : Nat → Nat} {bm : Int32} (o : OD h tr bm) (w : Nat → Int64) (x : Int32) : OD ((h.set 45 (cJ 7 w)).set 43 (cO 2 [.ref 44, .ref 45, .int x])) tr x := by
  obtain ⟨o1, ⟨f, o2, o3⟩, w0, o4⟩ := o
  exact ⟨get_self (get_set o1 (by decide)), ⟨f, get_set (get_set o2 (by decide)) (by decide), o3⟩, w, get_set (get_self o4) (by decide)⟩
theorem OD.w' {h : mj_H} {tr : Nat → Nat} {bm : Int32} (o : OD h tr bm) (w : Nat → Int64) : OD (h.set 45 (cJ 7 w)) tr bm := by
  obtain ⟨o1, ⟨f, o2, o3⟩, w0, o4⟩ := o
  exact ⟨get_set o1 (by decide), ⟨f, get_set o2 (by decide), o3⟩, w, get_self o4⟩
theorem X2_chooseBest_s {h : mj_H} {tr : Nat → Nat} {bm : Int32} (o : OD h tr bm) (ht : ∀ m, tr m ≤ 60) {c k j : Nat} (hc : c ≤ 6) (hk : k ≤ 6) (hj : j ≤ 6) : ∃ h', f_X2_chooseBest 43 (nI c) (nI k) (nI j) h = some (cbM (cb (fun men => holdN tr men j 6) k (2 ^ c)), h') ∧ OD h' tr (cbB bm (cb (fun men => holdN tr men j 6) k (2 ^ c))) ∧ ∀ i, i ≠ 43 → i ≠ 45 → h'[i]? = h[i]? := by
  have hp := pow6 hc
  unfold f_X2_chooseBest f_X2_chooseBest_8
  have key := fix_inv (F := (fun (K8 : (Nat × Int32 × Int32 × Int32 × Int64 × Int32 × mj_H) → Option (Int64 × mj_H)) (s : Nat × Int32 × Int32 × Int32 × Int64 × Int32 × mj_H) => b_X2_chooseBest_8 (fun v0 v1 v2 v3 v4 v6 h => K8 (v0, v1, v2, v3, v4, v6, h)) s.1 s.2.1 s.2.2.1 s.2.2.2.1 s.2.2.2.2.1 s.2.2.2.2.2.1 s.2.2.2.2.2.2)) (fun i s => ∃ h1, s = (43, nI c, nI k, nI j, cbM (cb (fun men => holdN tr men j 6) k i), nI i, h1) ∧ OD h1 tr (cbB bm (cb (fun men => holdN tr men j 6) k i)) ∧ ∀ i, i ≠ 43 → i ≠ 45 → h1[i]? = h[i]?) (fun r => ∃ h', r = (cbM (cb (fun men => holdN tr men j 6) k (2 ^ c)), h') ∧ OD h' tr (cbB bm (cb (fun men => holdN tr men j 6) k (2 ^ c))) ∧ ∀ i, i ≠ 43 → i ≠ 45 → h'[i]? = h[i]?) (2 ^ c) (fun i hi s hs => ?_) (fun s hs => ?_) 1000 (by omega) (43, nI c, nI k, nI j, (-1 : Int64), (0 : Int32), h) ⟨h, rfl, o, fun _ _ _ => rfl⟩
  · obtain ⟨r, k1, h', rfl, k2⟩ := key
    exact ⟨h', k1, k2⟩
  · left
    obtain ⟨h1, rfl, o1, fr⟩ := hs
    have c1 : ¬ nI (2 ^ c) ≤ nI i := nI_ge hi (by omega)
    have hob : mj_ob h1 43 2 = true := ob_r o1.1
    have hpk := popc_le i
    have ceq : (nI (popc i) = nI k) ↔ popc i = k := nI_eq (by omega) (by omega)
    by_cases q : popc i = k
    · obtain ⟨w', hw⟩ := X2_waysToHold_s o1 ht (men := i) (j := j) (by omega) hj
      have hb := holdN_le ht (men := i) (j := j) (c := 6) (by decide)
      have o2 := o1.w w' (nI i)
      have o3 := o1.w' w'
      have o3c := o3.1
      have upd1 : ∀ z : Int64, ¬ lN (holdN tr i j 6) ≤ z → cbM (cb (fun men => holdN tr men j 6) k i) = z → cb (fun men => holdN tr men j 6) k (i + 1) = some (i, holdN tr i j 6) → ∃ s', (∃ h2, s' = (43, nI c, nI k, nI j, cbM (cb (fun men => holdN tr men j 6) k (i + 1)), nI (i + 1), h2) ∧ OD h2 tr (cbB bm (cb (fun men => holdN tr men j 6) k (i + 1))) ∧ ∀ i, i ≠ 43 → i ≠ 45 → h2[i]? = h[i]?) ∧ ∀ K : (Nat × Int32 × Int32 × Int32 × Int64 × Int32 × mj_H) → Option (Int64 × mj_H), b_X2_chooseBest_8 (fun v0 v1 v2 v3 v4 v6 h => K (v0, v1, v2, v3, v4, v6, h)) 43 (nI c) (nI k) (nI j) (cbM (cb (fun men => holdN tr men j 6) k i)) (nI i) h1 = K s' := by
        intro z hz ez e
        refine ⟨_, ⟨(h1.set 45 (cJ 7 w')).set 43 (cO 2 [.ref 44, .ref 45, .int (nI i)]), rfl, ?_, fun x x1 x2 => ?_⟩, fun K => ?_⟩
        · rw [e]; exact o2
        · rw [List.getElem?_set_ne (by omega), List.getElem?_set_ne (by omega)]; exact fr x x1 x2
        · rw [ez, e]
          simp [b_X2_chooseBest_8, f_X2_chooseBest_52, shl1 (show c < 31 by omega), c1, bitCount_s (show i < 64 by omega), ceq, q, hob, hw, hz, mj_sV, o3c, nI_1, cbM]
      cases hcb : cb (fun men => holdN tr men j 6) k i with
      | none =>
        have := upd1 (-1) (lN_m1 (by omega)) (by rw [hcb]; rfl) (by simp [cb, q, hcb])
        rw [hcb] at this
        exact this
      | some p =>
        obtain ⟨b, m⟩ := p
        obtain ⟨hb1, hb2⟩ := cb_at hcb
        have hb3 := holdN_le ht (men := b) (j := j) (c := 6) (by decide)
        by_cases q2 : m < holdN tr i j 6
        · have := upd1 (lN m) (by rw [lle (by omega) (by omega)]; omega) (by rw [hcb]; rfl) (by simp [cb, q, hcb, q2])
          rw [hcb] at this
          exact this
        · have e : cb (fun men => holdN tr men j 6) k (i + 1) = some (b, m) := by simp [cb, q, hcb, q2]
          have hle : lN (holdN tr i j 6) ≤ lN m := by rw [lle (by omega) (by omega)]; omega
          refine ⟨_, ⟨h1.set 45 (cJ 7 w'), rfl, ?_, fun x x1 x2 => ?_⟩, fun K => ?_⟩
          · rw [e, ← hcb]; exact o3
          · rw [List.getElem?_set_ne (by omega)]; exact fr x x1 x2
          · rw [e]
            simp [b_X2_chooseBest_8, f_X2_chooseBest_52, shl1 (show c < 31 by omega), c1, bitCount_s (show i < 64 by omega), ceq, q, hob, hw, hle, nI_1, cbM]
    · have e : cb (fun men => holdN tr men j 6) k (i + 1) = cb (fun men => holdN tr men j 6) k i := by simp [cb, q]
      refine ⟨_, ⟨h1, rfl, by rw [e]; exact o1, fr⟩, fun K => ?_⟩
      rw [e]
      simp [b_X2_chooseBest_8, f_X2_chooseBest_52, shl1 (show c < 31 by omega), c1, bitCount_s (show i < 64 by omega), ceq, q, nI_1]
  · obtain ⟨h1, rfl, o1, fr⟩ := hs
    have c1 : nI (2 ^ c) ≤ nI (2 ^ c) := nI_le (Nat.le_refl _) (by omega)
    exact ⟨_, ⟨h1, rfl, o1, fr⟩, fun K => by simp [b_X2_chooseBest_8, shl1 (show c < 31 by omega), c1]⟩
