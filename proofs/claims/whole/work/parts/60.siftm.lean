/-! PURE: the model's sift; runs, spy, again -/
theorem gc_congr {f g : Nat → Nat} : ∀ {n : Nat}, (∀ k, k < n → f k = g k) → gc f n = gc g n
  | 0, _ => rfl
  | n + 1, h => by rw [gc, gc, gc_congr (fun k hk => h k (by omega)), h n (by omega)]
theorem wh_congr : ∀ (n : Nat) {f g : Nat → Nat}, (∀ k, k < 6 → f k = g k) → ∀ k, k < 6 → wh n f k = wh n g k
  | 0, _, _, h, k, hk => h k hk
  | n + 1, f, g, h, k, hk => by
    rw [wh, wh, mxw_congr (n := 6) h]
    split
    · exact h k hk
    · exact wh_congr n (fun j hj => by show f j / 2 = g j / 2; rw [h j hj]) k hk
theorem weighN_congr {V W : Nat → Nat} (h : ∀ k, k < 6 → V k = W k) (test : Nat) (shown word : Bool) : ∀ k, k < 6 → weighN V test shown word k = weighN W test shown word k := by
  have h1 : ∀ k, k < 6 → wprod V test shown word k = wprod W test shown word k := fun k hk => by unfold wprod; rw [h k hk]
  have h2 : ∀ k, k < 6 → wone (wprod V test shown word) k = wone (wprod W test shown word) k := fun k hk => by
    unfold wone
    rw [sm_congr (n := 6) h1]
    split
    · rfl
    · exact h1 k hk
  have h3 : ∀ k, k < 6 → wdiv (wone (wprod V test shown word)) k = wdiv (wone (wprod W test shown word)) k := fun k hk => by
    unfold wdiv
    rw [h2 k hk, gc_congr (n := 6) h2]
  exact wh_congr 64 h3
theorem beside_m (c m : Nat) : (beside c m).testBit m = false := by
  unfold beside
  rw [Nat.testBit_or]
  have h1 : (if 0 < m then 2 ^ (m - 1) else 0).testBit m = false := by
    split
    · rw [Nat.testBit_two_pow]; exact decide_eq_false (by omega)
    · exact Nat.zero_testBit m
  have h2 : (if m + 1 < c then 2 ^ (m + 1) else 0).testBit m = false := by
    split
    · rw [Nat.testBit_two_pow]; exact decide_eq_false (by omega)
    · exact Nat.zero_testBit m
  rw [h1, h2]; rfl
theorem know_testT {T : Nat → Nat} {m test : Nat} {shown : Bool} : know (testT T m test shown) m = know T m := by
  unfold know
  rw [testT_2]
  split
  · rw [Nat.testBit_or, beside_m, Bool.or_false]
  · rfl
/-- tests of one man, one after the other -/
def tT (T : Nat → Nat) (m : Nat) (d : Nat → Nat) : Nat → (Nat → Nat)
  | 0 => T
  | i + 1 => testT (tT T m d i) m (d i) true
theorem tT_0 {T : Nat → Nat} {m : Nat} {d : Nat → Nat} : ∀ i, tT T m d i 0 = T 0
  | 0 => rfl
  | i + 1 => by rw [tT, testT_0, tT_0 i]
theorem tT_wf {T : Nat → Nat} {m : Nat} {d : Nat → Nat} (w : WF T) (hm : m < T 0) (hd : ∀ k, d k < 3) : ∀ i, WF (tT T m d i)
  | 0 => w
  | i + 1 => (tT_wf w hm hd i).tests (by rw [tT_0]; exact hm) (hd i) true
theorem tT_kn {T : Nat → Nat} {m : Nat} {d : Nat → Nat} : ∀ i, know (tT T m d i) m = know T m
  | 0 => rfl
  | i + 1 => by rw [tT, know_testT, tT_kn i]
theorem tT_tw {T : Nat → Nat} {m : Nat} {d : Nat → Nat} (hm : m < T 0) : ∀ i k, k < 6 → tw (tT T m d i) m k = wrow (tw T m) (know T m) d i k
  | 0, _, _ => rfl
  | i + 1, k, hk => by
    have h1 : tw (tT T m d (i + 1)) m k = beh (tT T m d i) m (d i) true m k := tw_testT (by rw [tT_0]; exact hm) hk
    rw [h1]
    unfold beh
    rw [if_pos (Or.inl rfl), tT_kn i, wrow]
    exact weighN_congr (fun j hj => tT_tw hm i j hj) _ _ _ k hk
theorem sm_rev {f : Nat → Nat} : ∀ n, n < 4 → sm (fun q => f (n - 1 - q)) n = sm f n := by
  intro n hn
  have : n = 0 ∨ n = 1 ∨ n = 2 ∨ n = 3 := by omega
  rcases this with rfl | rfl | rfl | rfl
  · rfl
  · rfl
  · show 0 + f 1 + f 0 = 0 + f 0 + f 1
    omega
  · show 0 + f 2 + f 1 + f 0 = 0 + f 0 + f 1 + f 2
    omega
theorem sm_cost (n code : Nat) : ∀ i, sm (fun q => cost (dg n code (n - 1 - q))) i ≤ 5 * i
  | 0 => Nat.le_refl _
  | i + 1 => by
    have := sm_cost n code i
    have := cost_le (dg n code (n - 1 - i))
    show sm (fun q => cost (dg n code (n - 1 - q))) i + cost (dg n code (n - 1 - i)) ≤ 5 * (i + 1)
    omega
theorem X9_sifts_62_s {h : mj_H} {T : Nat → Nat} (n : MN h T) (w : WF T) {m t c : Nat} {d : Nat → Nat} {f1 g0 : Nat → Int32} (hm : m < T 0) (ht : t ≤ 60) (hc : c ≤ 15) {N : Nat} (hN : N < 4) (hd : ∀ k, d k < 3) (hr : h[64]? = some (cI 3 f1)) (e1 : ∀ k, k < N → f1 k = nI (d k)) (hg : h[63]? = some (cI 52 g0)) (a0 : AT 52 g0 T) : ∃ g, f_X9_sifts_62 53 (nI m) (nI t) (nI N) (nI c) (0 : Int32) h = some (bi (decide (c ≤ T 1) && decide (t ≤ share (wrow (tw T m) (know T m) d N) 3 false)), h.set 63 (cI 52 g)) := by
  have w0 := w.1
  have w1 := w.2.1
  have key := fix_inv (F := fun (K62 : (Nat × Int32 × Int32 × Int32 × Int32 × Int32 × mj_H) → Option (Int32 × mj_H)) (s : Nat × Int32 × Int32 × Int32 × Int32 × Int32 × mj_H) => b_X9_sifts_62 (fun v0 v1 v2 v3 v6 v7 h => K62 (v0, v1, v2, v3, v6, v7, h)) s.1 s.2.1 s.2.2.1 s.2.2.2.1 s.2.2.2.2.1 s.2.2.2.2.2.1 s.2.2.2.2.2.2)
    (fun i s => ∃ g, s = (53, nI m, nI t, nI N, nI c, nI i, h.set 63 (cI 52 g)) ∧ AT 52 g (tT T m d i))
    (fun r => ∃ g, r = (bi (decide (c ≤ T 1) && decide (t ≤ share (wrow (tw T m) (know T m) d N) 3 false)), h.set 63 (cI 52 g))) N (fun i hi s hs => ?_) (fun s hs => ?_) 1000 (by omega) (53, nI m, nI t, nI N, nI c, nI 0, h) ⟨g0, by rw [set_same hg], a0⟩
  · obtain ⟨r, k1, g, rfl⟩ := key
    exact ⟨g, k1⟩
  · obtain ⟨g, rfl, ag⟩ := hs
    refine Or.inl ?_
    have mg1 := n.1.set (k := 63) (c := cI 52 g) (by decide)
    have gd := get_self (c := cI 52 g) hg
    have gr := get_set (c := cI 52 g) hr (show 63 ≠ 64 by decide)
    have r1 := aI_r gr (show i < 3 by omega) (by decide)
    rw [e1 i hi] at r1
    obtain ⟨g2, i1, i2, -⟩ := X9_tests_s gd (by decide) (by decide) (tT_wf w hm hd i) ag (by rw [tT_0]; exact hm) (hd i) true
    rw [List.set_set, bi_t] at i1
    have c1 : ¬ nI N ≤ nI i := nI_ge hi (by omega)
    refine ⟨_, ⟨g2, rfl, i2⟩, fun K => ?_⟩
    simp only [b_X9_sifts_62, c1, if_false, mg1.day, mg1.row, Option.bind_some, r1, i1, nI_1]
  · obtain ⟨g, rfl, ag⟩ := hs
    have mg1 := n.1.set (k := 63) (c := cI 52 g) (by decide)
    have gd := get_self (c := cI 52 g) hg
    have n2 : MN (h.set 63 (cI 52 g)) T := n.sx (SX.d n.2.2 g)
    have tr := X9_trustA gd (by decide) (by decide) (tT_wf w hm hd N) ag (show m < tT T m d N 0 by rw [tT_0]; exact hm)
    have te : trust (tT T m d N) m = share (wrow (tw T m) (know T m) d N) 3 false := share_congr (fun k hk => tT_tw hm N k hk) 3 false
    rw [te] at tr
    have hs60 : share (wrow (tw T m) (know T m) d N) 3 false ≤ 60 := share_le (by decide)
    have c1 : nI N ≤ nI N := Int32.le_refl _
    have c2 : nI (T 1) < nI c ↔ T 1 < c := nlt_iff (by omega) (by omega)
    have c3 : nI (share (wrow (tw T m) (know T m) d N) 3 false) < nI t ↔ share (wrow (tw T m) (know T m) d N) 3 false < t := nlt_iff (by omega) (by omega)
    refine ⟨_, ⟨g, rfl⟩, fun K => ?_⟩
    simp only [b_X9_sifts_62, c1, if_true, mg1.now, Option.bind_some, n2.a1, c2, mg1.day, tr, c3]
    by_cases q1 : T 1 < c
    · have : ¬ c ≤ T 1 := by omega
      simp [q1, this, bi]
    · have z1 : c ≤ T 1 := by omega
      by_cases q2 : share (wrow (tw T m) (know T m) d N) 3 false < t
      · have : ¬ t ≤ share (wrow (tw T m) (know T m) d N) 3 false := by omega
        simp [q1, z1, q2, this, bi]
      · have : t ≤ share (wrow (tw T m) (know T m) d N) 3 false := by omega
        simp [q1, z1, q2, this, bi]
theorem X9_sifts_s {h : mj_H} {T : Nat → Nat} (n : MN h T) (w : WF T) {m t N code : Nat} (hm : m < T 0) (ht : t ≤ 60) (hN : N < 4) (hc : code < 27) : ∃ h' f', f_X9_sifts 53 (nI m) (nI t) (nI N) (nI code) h = some (bi (fitB T m t N code), h') ∧ SX h h' ∧ h'[64]? = some (cI 3 f') ∧ ∀ k, k < N → f' k = nI (dg N code k) := by
  obtain ⟨r0, hr0⟩ := n.2.2.2.2
  have start : nI N - (1 : Int32) = dwn N 0 := by
    unfold dwn
    split
    · rw [n1, pk_sub (by omega), Nat.sub_zero]
    · have : N = 0 := by omega
      subst this; decide
  have key := fix_w (F := fun (K12 : (Nat × Int32 × Int32 × Int32 × Int32 × Int32 × Int32 × mj_H) → Option (Int32 × mj_H)) (s : Nat × Int32 × Int32 × Int32 × Int32 × Int32 × Int32 × mj_H) => b_X9_sifts_12 (fun v0 v1 v2 v3 v5 v6 v7 h => K12 (v0, v1, v2, v3, v5, v6, v7, h)) s.1 s.2.1 s.2.2.1 s.2.2.2.1 s.2.2.2.2.1 s.2.2.2.2.2.1 s.2.2.2.2.2.2.1 s.2.2.2.2.2.2.2)
    (fun i s => ∃ f1, s = (53, nI m, nI t, nI N, nI (code / 3 ^ i), nI (sm (fun q => cost (dg N code (N - 1 - q))) i), dwn N i, h.set 64 (cI 3 f1)) ∧ ∀ k, N - i ≤ k → k < N → f1 k = nI (dg N code k))
    (fun r => ∃ h' f', r = some (bi (fitB T m t N code), h') ∧ SX h h' ∧ h'[64]? = some (cI 3 f') ∧ ∀ k, k < N → f' k = nI (dg N code k)) N (fun i hi s hs => ?_) (fun s hs => ?_) 1000 (by omega) (53, nI m, nI t, nI N, nI code, nI 0, dwn N 0, h) ⟨r0, by rw [set_same hr0, Nat.pow_zero, Nat.div_one]; rfl, fun k h1 h2 => by omega⟩
  · unfold f_X9_sifts
    rw [start]
    exact key
  · obtain ⟨f1, rfl, hf1⟩ := hs
    refine Or.inl ?_
    obtain ⟨k, hk⟩ : ∃ k, k = N - 1 - i := ⟨_, rfl⟩
    have hik : N - 1 - k = i := by omega
    have mg1 := n.1.set (k := 64) (c := cI 3 f1) (by decide)
    have gr := get_self (c := cI 3 f1) hr0
    have hcl : code / 3 ^ i ≤ code := Nat.div_le_self _ _
    have ed : dg N code k = code / 3 ^ i % 3 := by unfold dg; rw [hik]
    have d1 : nI (code / 3 ^ i) / (3 : Int32) = nI (code / 3 ^ i / 3) := pk_div (d := 3) (by omega) (by decide) (by decide)
    have d2 : nI (code / 3 ^ i) - nI (code / 3 ^ i / 3) * (3 : Int32) = nI (dg N code k) := by
      rw [← d1, ed]; exact pk_rem (d := 3) (by omega) (by decide) (by decide)
    have d3 : code / 3 ^ i / 3 = code / 3 ^ (i + 1) := by rw [Nat.div_div_eq_div_mul, Nat.pow_succ]
    have u := uI_r (nI (dg N code k)) gr (show k < 3 by omega) (by decide)
    have g2 := get_self (c := cI 3 (upd f1 k (nI (dg N code k)))) gr
    rw [List.set_set] at u g2
    have r1 := aI_r g2 (show k < 3 by omega) (by decide)
    rw [show upd f1 k (nI (dg N code k)) k = nI (dg N code k) by simp [upd]] at r1
    have mg2 := n.1.set (k := 64) (c := cI 3 (upd f1 k (nI (dg N code k)))) (by decide)
    have hcost := X9_costOf_s (dg_lt N code k) (h.set 64 (cI 3 (upd f1 k (nI (dg N code k)))))
    have c1 : ¬ nI k < (0 : Int32) := nI_pos (by omega)
    have ds := dwn_st hi
    rw [← hk] at ds
    refine ⟨(53, nI m, nI t, nI N, nI (code / 3 ^ (i + 1)), nI (sm (fun q => cost (dg N code (N - 1 - q))) (i + 1)), dwn N (i + 1), h.set 64 (cI 3 (upd f1 k (nI (dg N code k))))), ⟨_, rfl, fun j h1 h2 => ?_⟩, fun K => ?_⟩
    · by_cases z : j = k
      · subst z; simp [upd]
      · rw [show upd f1 k (nI (dg N code k)) j = f1 j by simp [upd, z]]
        exact hf1 j (by omega) h2
    · show b_X9_sifts_12 _ 53 (nI m) (nI t) (nI N) (nI (code / 3 ^ i)) (nI (sm (fun q => cost (dg N code (N - 1 - q))) i)) (dwn N i) (h.set 64 (cI 3 f1)) = K (53, nI m, nI t, nI N, nI (code / 3 ^ (i + 1)), nI (sm (fun q => cost (dg N code (N - 1 - q))) i + cost (dg N code (N - 1 - i))), dwn N (i + 1), h.set 64 (cI 3 (upd f1 k (nI (dg N code k)))))
      rw [dwn_in hi, ← hk, ← ds, ← d3, ← nI_add]
      simp only [b_X9_sifts_12, c1, if_false, mg1.row, Option.bind_some, d1, d2, u, mg2.row, r1, hcost]
  · obtain ⟨f1, rfl, hf1⟩ := hs
    intro K
    have n1 : MN (h.set 64 (cI 3 f1)) T := n.sx (SX.r n.2.2 f1)
    obtain ⟨g, e1, e2, e3⟩ := X9_layDay_s n1
    have s2 : SX (h.set 64 (cI 3 f1)) ((h.set 64 (cI 3 f1)).set 63 (cI 52 g)) := SX.d n1.2.2 g
    have n2 := n1.sx s2
    have gr : ((h.set 64 (cI 3 f1)).set 63 (cI 52 g))[64]? = some (cI 3 f1) := get_set (get_self hr0) (by decide)
    have gd : ((h.set 64 (cI 3 f1)).set 63 (cI 52 g))[63]? = some (cI 52 g) := get_self n1.2.2.2.1.choose_spec
    have hcs := sm_cost N code N
    obtain ⟨g2, i1⟩ := X9_sifts_62_s n2 w (c := sm (fun q => cost (dg N code (N - 1 - q))) N) hm ht (by omega) hN (dg_lt N code) gr (fun k hk => hf1 k (by omega) hk) gd e2
    rw [sm_rev (f := fun q => cost (dg N code q)) N hN] at i1
    have s3 := SX.d n2.2.2 g2
    refine ⟨_, f1, ?_, ((SX.r n.2.2 f1).tr s2).tr s3, get_set gr (by decide), fun k hk => hf1 k (by omega) hk⟩
    have c1 : (-1 : Int32) < 0 := by decide
    show b_X9_sifts_12 _ 53 (nI m) (nI t) (nI N) (nI (code / 3 ^ N)) (nI (sm (fun q => cost (dg N code (N - 1 - q))) N)) (dwn N N) (h.set 64 (cI 3 f1)) = _
    rw [sm_rev (f := fun q => cost (dg N code q)) N hN, dwn_e]
    simp only [b_X9_sifts_12, c1, if_true, n1.1.ob, e1, Option.bind_some]
    exact i1
def siR (o : Option (Nat × Nat)) (i : Int32) : Int32 := match o with
  | none => -1
  | some (n, code) => if i = -1 then nI n else if nI n ≤ i then -5 else nI (dg n code (tN i))
theorem i_ok {i : Int32} (h1 : ¬ i = -1) (h2 : (-1 : Int32) ≤ i) {n : Nat} (hn : n < 2 ^ 31) (h3 : ¬ nI n ≤ i) : mj_ok i n = true := by
  rw [ok_iff hn]
  refine ⟨fun z => h1 ?_, h3⟩
  apply Int32.toInt_inj.mp
  rw [Int32.lt_iff_toInt_lt, Int32.toInt_zero] at z
  rw [Int32.le_iff_toInt_le] at h2
  have : (-1 : Int32).toInt = -1 := by decide
  omega
theorem X9_sift_38_s {h : mj_H} {T : Nat → Nat} (n : MN h T) (w : WF T) {m t : Nat} {i : Int32} (hm : m < T 0) (ht : t ≤ 60) (hi : (-1 : Int32) ≤ i) : ∃ h', f_X9_sift_38 53 (nI m) (nI t) i (1 : Int32) (0 : Int32) h = some (siR (fnd (fitB T m t) 4) i, h') ∧ SX h h' := by
  refine fix_w (F := fun (K38 : (Nat × Int32 × Int32 × Int32 × Int32 × Int32 × mj_H) → Option (Int32 × mj_H)) (s : Nat × Int32 × Int32 × Int32 × Int32 × Int32 × mj_H) => b_X9_sift_38 (fun v0 v1 v2 v3 v4 v5 h => K38 (v0, v1, v2, v3, v4, v5, h)) s.1 s.2.1 s.2.2.1 s.2.2.2.1 s.2.2.2.2.1 s.2.2.2.2.2.1 s.2.2.2.2.2.2)
    (fun N s => ∃ h1, s = (53, nI m, nI t, i, nI (3 ^ N), nI N, h1) ∧ SX h h1 ∧ fnd (fitB T m t) N = none)
    (fun r => ∃ h', r = some (siR (fnd (fitB T m t) 4) i, h') ∧ SX h h') 4 (fun N hN s hs => ?_) (fun s hs => ?_) 1000 (by decide) (53, nI m, nI t, i, (1 : Int32), (0 : Int32), h) ⟨h, rfl, SX.rf n.2.2, rfl⟩
  · obtain ⟨h1, rfl, sx1, hf⟩ := hs
    have hp := pow3_le N hN
    have c0 : ¬ (4 : Int32) ≤ nI N := nI_ge (b := 4) hN (by decide)
    have run : ∀ M, M ≤ 3 ^ N → (∀ c, c < M → fitB T m t N c = false) → ∃ h2 j, SX h h2 ∧ 0 < j ∧ ∀ K38 : (Nat → Int32 → Int32 → Int32 → Int32 → Int32 → mj_H → Option (Int32 × mj_H)), f_X9_sift_47 K38 53 (nI m) (nI t) i (nI (3 ^ N)) (nI N) (0 : Int32) h1 = mj_fix (fun (K47 : (Nat × Int32 × Int32 × Int32 × Int32 × Int32 × Int32 × mj_H) → Option (Int32 × mj_H)) (s : Nat × Int32 × Int32 × Int32 × Int32 × Int32 × Int32 × mj_H) => b_X9_sift_47 K38 (fun v0 v1 v2 v3 v4 v5 v6 h => K47 (v0, v1, v2, v3, v4, v5, v6, h)) s.1 s.2.1 s.2.2.1 s.2.2.2.1 s.2.2.2.2.1 s.2.2.2.2.2.1 s.2.2.2.2.2.2.1 s.2.2.2.2.2.2.2) j (53, nI m, nI t, i, nI (3 ^ N), nI N, nI M, h2) := by
      intro M hM hall
      have key := fix_inP (F := fun K38 => fun (K47 : (Nat × Int32 × Int32 × Int32 × Int32 × Int32 × Int32 × mj_H) → Option (Int32 × mj_H)) (s : Nat × Int32 × Int32 × Int32 × Int32 × Int32 × Int32 × mj_H) => b_X9_sift_47 K38 (fun v0 v1 v2 v3 v4 v5 v6 h => K47 (v0, v1, v2, v3, v4, v5, v6, h)) s.1 s.2.1 s.2.2.1 s.2.2.2.1 s.2.2.2.2.1 s.2.2.2.2.2.1 s.2.2.2.2.2.2.1 s.2.2.2.2.2.2.2) (fun c s => ∃ h2, s = (53, nI m, nI t, i, nI (3 ^ N), nI N, nI c, h2) ∧ SX h h2) M (fun c hc s hs => ?_) 1000 (by omega) (53, nI m, nI t, i, nI (3 ^ N), nI N, nI 0, h1) ⟨h1, rfl, sx1⟩
      · obtain ⟨s', j, ⟨h2, rfl, sx2⟩, hj, e⟩ := key
        exact ⟨h2, j, sx2, hj, e⟩
      · obtain ⟨h2, rfl, sx2⟩ := hs
        have n2 := n.sx sx2
        obtain ⟨h3, f3, y1, y2, -, -⟩ := X9_sifts_s n2 w hm ht hN (show c < 27 by omega)
        have c1 : ¬ nI (3 ^ N) ≤ nI c := nI_ge (by omega) (by omega)
        rw [hall c hc, bi_f] at y1
        refine ⟨_, ⟨h3, rfl, sx2.tr y2⟩, fun k K => ?_⟩
        simp only [b_X9_sift_47, c1, if_false, n2.1.ob, if_true, y1, Option.bind_some, nI_1]
    cases hff : ffirst (fitB T m t N) (3 ^ N) with
    | none =>
      left
      obtain ⟨h2, j, sx2, hj, e⟩ := run (3 ^ N) (Nat.le_refl _) (ff_none hff)
      have c1 : nI (3 ^ N) ≤ nI (3 ^ N) := Int32.le_refl _
      have e3 : nI (3 ^ N) * (3 : Int32) = nI (3 ^ (N + 1)) := by rw [Nat.pow_succ]; exact pk_mul _ 3
      refine ⟨_, ⟨h2, rfl, sx2, fn_next hf hff⟩, fun K => ?_⟩
      match j, hj, e with
      | j + 1, _, e => simp only [b_X9_sift_38, c0, if_false, e, mj_fix, b_X9_sift_47, c1, if_true, e3, nI_1]
    | some c =>
      right
      intro K
      obtain ⟨q1, q2, q3⟩ := ff_some hff
      obtain ⟨h2, j, sx2, hj, e⟩ := run c (by omega) q3
      have n2 := n.sx sx2
      obtain ⟨h3, f3, y1, y2, y3, y4⟩ := X9_sifts_s n2 w hm ht hN (show c < 27 by omega)
      have n3 := n2.sx y2
      have c1 : ¬ nI (3 ^ N) ≤ nI c := nI_ge (by omega) (by omega)
      rw [q2, bi_t] at y1
      have z := fn_at (N := 4) hN hf hff
      refine ⟨h3, ?_, sx2.tr y2⟩
      rw [z]
      have z1 : ¬ (1 : Int32) = 0 := by decide
      match j, hj, e with
      | j + 1, _, e =>
        simp only [b_X9_sift_38, c0, if_false, e, mj_fix, b_X9_sift_47, c1, n2.1.ob, if_true, y1, Option.bind_some, z1, siR]
        by_cases p1 : i = -1
        · rw [if_pos p1, if_pos p1]
        · rw [if_neg p1, if_neg p1]
          by_cases p2 : nI N ≤ i
          · rw [if_pos p2, if_pos p2]
          · rw [if_neg p2, if_neg p2]
            obtain ⟨o1, o2, o3⟩ := ok_c (i_ok p1 hi (by omega) p2)
            have r := aI_r y3 (show tN i < 3 by omega) (by decide)
            rw [← o1, y4 _ o2] at r
            simp only [n3.1.row, Option.bind_some, r]
  · obtain ⟨h1, rfl, sx1, hf⟩ := hs
    intro K
    have c0 : (4 : Int32) ≤ nI 4 := by decide
    refine ⟨h1, ?_, sx1⟩
    rw [hf]
    simp only [b_X9_sift_38, c0, if_true]
    rfl
/-! runs -/
def rI (T : Nat → Nat) (a : Nat) : Nat → Nat
  | 0 => T 2
  | i + 1 => rI T a i ||| beside (T 0) (a + i)
def rS (T : Nat → Nat) (a : Nat) : Nat → Nat
  | 0 => 0
  | i + 1 => rS T a i ||| (if (rI T a i).testBit (a + i) = true then 2 ^ (a + i) else 0)
def rT (T : Nat → Nat) (a : Nat) : Nat → (Nat → Nat)
  | 0 => T
  | i + 1 => testT (rT T a i) (a + i) 0 true
theorem rT_0 {T : Nat → Nat} {a : Nat} : ∀ i, rT T a i 0 = T 0
  | 0 => rfl
  | i + 1 => by rw [rT, testT_0, rT_0 i]
theorem rT_2 {T : Nat → Nat} {a : Nat} : ∀ i, rT T a i 2 = rI T a i
  | 0 => rfl
  | i + 1 => by rw [rT, testT_2, if_pos rfl, rT_2 i, rT_0, rI]
theorem rT_wf {T : Nat → Nat} {a : Nat} (w : WF T) : ∀ i, a + i ≤ T 0 → WF (rT T a i)
  | 0, _ => w
  | i + 1, h => (rT_wf w i (by omega)).tests (by rw [rT_0]; omega) (by decide) true
theorem rI_lt {T : Nat → Nat} {a : Nat} (w : WF T) {i : Nat} (h : a + i ≤ T 0) : rI T a i < 2 ^ T 0 := by
  have := (rT_wf w i h).2.2.1
  rw [rT_2, rT_0] at this; exact this
theorem and2p (x i : Nat) : x &&& 2 ^ i = if x.testBit i = true then 2 ^ i else 0 := by
  apply Nat.eq_of_testBit_eq
  intro j
  rw [Nat.testBit_and, Nat.testBit_two_pow]
  by_cases q : i = j
  · subst q
    cases z : x.testBit i
    · simp
    · simp [Nat.testBit_two_pow]
  · have : decide (i = j) = false := decide_eq_false q
    rw [this, Bool.and_false]
    split
    · rw [Nat.testBit_two_pow, this]
    · exact (Nat.zero_testBit j).symm
theorem X8_runs_31_s {h : mj_H} {T : Nat → Nat} (x : XG h) (b : BN h 1 T) (w : WF T) {a : Nat} (ha : a < T 0) : f_X8_runs_31 0 (nI (T 2)) (0 : Int32) (nI a) h = some (nI (rS T a (T 0 - a)), h) := by
  have w0 := w.1
  unfold f_X8_runs_31
  refine fix_iter (st := fun i => ((0 : Nat), nI (rI T a i), nI (rS T a i), nI (a + i), h)) (T 0 - a) _ (fun i hi K => ?_) (fun K => ?_) 1000 (by omega)
  · have c1 : ¬ nI (T 0) ≤ nI (a + i) := nI_ge (by omega) (by omega)
    have e1 := X0_besides_s b (show a + i < T 0 by omega)
    show b_X8_runs_31 _ 0 (nI (rI T a i)) (nI (rS T a i)) (nI (a + i)) h = K (0, nI (rI T a i ||| beside (T 0) (a + i)), nI (rS T a i ||| (if (rI T a i).testBit (a + i) = true then 2 ^ (a + i) else 0)), nI (a + i + 1), h)
    rw [← and2p]
    simp only [b_X8_runs_31, x.band, Option.bind_some, b.sz, c1, if_false, b.ob, if_true, e1, shl1 (show a + i < 31 by omega), andI, orI, nI_1]
  · have ee : a + (T 0 - a) = T 0 := by omega
    have c1 : nI (T 0) ≤ nI (T 0) := Int32.le_refl _
    show b_X8_runs_31 _ 0 (nI (rI T a (T 0 - a))) (nI (rS T a (T 0 - a))) (nI (a + (T 0 - a))) h = _
    rw [ee]
    simp only [b_X8_runs_31, x.band, Option.bind_some, b.sz, c1, if_true]
theorem X9_runs_s {h : mj_H} {T : Nat → Nat} (n : MN h T) (w : WF T) {a : Nat} (ha : a < T 0) : ∃ h1, f_X9_layDay 53 h = some h1 ∧ ∃ h', f_X9_runs_23 53 (0 : Int32) (nI a) h1 = some (nI (rS T a (T 0 - a)), h') ∧ SX h h' := by
  have w0 := w.1
  obtain ⟨g0, e1, e2, -⟩ := X9_layDay_s n
  refine ⟨_, e1, ?_⟩
  obtain ⟨gx, hgx⟩ := n.2.2.2.1
  have key := fix_inv (F := fun (K23 : (Nat × Int32 × Int32 × mj_H) → Option (Int32 × mj_H)) (s : Nat × Int32 × Int32 × mj_H) => b_X9_runs_23 (fun v0 v2 v3 h => K23 (v0, v2, v3, h)) s.1 s.2.1 s.2.2.1 s.2.2.2)
    (fun i s => ∃ g, s = (53, nI (rS T a i), nI (a + i), h.set 63 (cI 52 g)) ∧ AT 52 g (rT T a i))
    (fun r => ∃ g, r = (nI (rS T a (T 0 - a)), h.set 63 (cI 52 g))) (T 0 - a) (fun i hi s hs => ?_) (fun s hs => ?_) 1000 (by omega) (53, nI 0, nI a, h.set 63 (cI 52 g0)) ⟨g0, rfl, e2⟩
  · obtain ⟨r, k1, g, rfl⟩ := key
    exact ⟨_, k1, SX.d n.2.2 g⟩
  · obtain ⟨g, rfl, ag⟩ := hs
    refine Or.inl ?_
    have mg1 := n.1.set (k := 63) (c := cI 52 g) (by decide)
    have gd := get_self (c := cI 52 g) hgx
    have r0 := aI_r gd (show 0 < 52 by decide) (by decide)
    rw [ag 0 (by decide) (by decide), rT_0, show nI 0 = (0 : Int32) from rfl] at r0
    have r2 := aI_r gd (show 2 < 52 by decide) (by decide)
    rw [ag 2 (by decide) (by decide), rT_2, show nI 2 = (2 : Int32) from rfl] at r2
    have hl := rI_lt w (a := a) (i := i) (by omega)
    have hp := pow6 w0
    have hh := X9_has_s (s := rI T a i) (m := a + i) (by omega) (by omega) (h.set 63 (cI 52 g))
    obtain ⟨g2, i1, i2, -⟩ := X9_tests_s gd (by decide) (by decide) (rT_wf w i (by omega)) ag (m := a + i) (test := 0) (by rw [rT_0]; omega) (by decide) true
    rw [List.set_set, bi_t, show nI 0 = (0 : Int32) from rfl] at i1
    have c1 : ¬ nI (T 0) ≤ nI (a + i) := nI_ge (by omega) (by omega)
    refine ⟨(53, nI (rS T a i ||| (if (rI T a i).testBit (a + i) = true then 2 ^ (a + i) else 0)), nI (a + i + 1), h.set 63 (cI 52 g2)), ⟨g2, rfl, i2⟩, fun K => ?_⟩
    rw [← orI]
    simp only [b_X9_runs_23, mg1.day, Option.bind_some, r0, c1, if_false, r2, hh]
    cases q : (rI T a i).testBit (a + i)
    · simp only [bi_f, if_true, f_X9_runs_54, mg1.day, Option.bind_some, i1, nI_1, Bool.false_eq_true, if_false, nI_0]
    · have z : ¬ (1 : Int32) = 0 := by decide
      simp only [bi_t, z, if_false, f_X9_runs_54, mg1.day, Option.bind_some, i1, nI_1, if_true, shl1 (show a + i < 31 by omega)]
  · obtain ⟨g, rfl, ag⟩ := hs
    have mg1 := n.1.set (k := 63) (c := cI 52 g) (by decide)
    have gd := get_self (c := cI 52 g) hgx
    have r0 := aI_r gd (show 0 < 52 by decide) (by decide)
    rw [ag 0 (by decide) (by decide), rT_0, show nI 0 = (0 : Int32) from rfl] at r0
    have ee : a + (T 0 - a) = T 0 := by omega
    have c1 : nI (T 0) ≤ nI (T 0) := Int32.le_refl _
    refine ⟨_, ⟨g, rfl⟩, fun K => ?_⟩
    rw [ee]
    simp only [b_X9_runs_23, mg1.day, Option.bind_some, r0, c1, if_true]
