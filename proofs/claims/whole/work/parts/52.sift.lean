/-! PURE: sifted (class) -/
theorem fix_w {S R : Type} {F : (S → Option R) → S → Option R} (Inv : Nat → S → Prop) (Post : Option R → Prop) (N : Nat) (hs : ∀ i, i < N → ∀ s, Inv i s → (∃ s', Inv (i + 1) s' ∧ ∀ K, F K s = K s') ∨ ∀ K, Post (F K s)) (he : ∀ s, Inv N s → ∀ K, Post (F K s)) (n : Nat) (hn : N < n) (s : S) (h0 : Inv 0 s) : Post (mj_fix F n s) := by
  have key : ∀ (d j n : Nat) (s : S), j + d = N → d < n → Inv j s → Post (mj_fix F n s) := by
    intro d
    induction d with
    | zero =>
      intro j n s hj hn hi
      match n, hn with
      | n + 1, _ =>
        have : j = N := by omega
        subst this
        exact he s hi _
    | succ d ih =>
      intro j n s hj hn hi
      match n, hn with
      | n + 1, hn =>
        rcases hs j (by omega) s hi with ⟨s', h1, h2⟩ | h2
        · have h3 := ih (j + 1) n s' (by omega) (by omega) h1
          show Post (F (mj_fix F n) s)
          rw [h2]
          exact h3
        · exact h2 _
  exact key N 0 n s (by omega) hn h0
/-- the same for a loop with an outer way on -/
theorem fix_inP {S R P : Type} {F : P → (S → Option R) → S → Option R} (Inv : Nat → S → Prop) (N : Nat) (hs : ∀ i, i < N → ∀ s, Inv i s → ∃ s', Inv (i + 1) s' ∧ ∀ k K, F k K s = K s') (n : Nat) (hn : N < n) (s : S) (h0 : Inv 0 s) : ∃ s' j, Inv N s' ∧ 0 < j ∧ ∀ k, mj_fix (F k) n s = mj_fix (F k) j s' := by
  have key : ∀ (d j n : Nat) (s : S), j + d = N → d < n → Inv j s → ∃ s' j, Inv N s' ∧ 0 < j ∧ ∀ k, mj_fix (F k) n s = mj_fix (F k) j s' := by
    intro d
    induction d with
    | zero =>
      intro j n s hj hn hi
      have : j = N := by omega
      subst this
      exact ⟨s, n, hi, by omega, fun _ => rfl⟩
    | succ d ih =>
      intro j n s hj hn hi
      match n, hn with
      | n + 1, hn =>
        obtain ⟨s', h1, h2⟩ := hs j (by omega) s hi
        obtain ⟨s2, k, h3, h4, h5⟩ := ih (j + 1) n s' (by omega) (by omega) h1
        exact ⟨s2, k, h3, h4, fun k => (h2 k _).trans (h5 k)⟩
  exact key N 0 n s (by omega) hn h0
def ffirst (P : Nat → Bool) : Nat → Option Nat
  | 0 => none
  | n + 1 => match ffirst P n with
    | some x => some x
    | none => if P n = true then some n else none
theorem ff_found {P : Nat → Bool} {i : Nat} (h1 : ffirst P i = none) (h2 : P i = true) : ∀ d, ffirst P (i + 1 + d) = some i
  | 0 => by show ffirst P (i + 1) = _; simp only [ffirst, h1, h2, if_true]
  | d + 1 => by
    show ffirst P ((i + 1 + d) + 1) = _
    simp only [ffirst, ff_found h1 h2 d]
theorem ff_at {P : Nat → Bool} {i N : Nat} (hi : i < N) (h1 : ffirst P i = none) (h2 : P i = true) : ffirst P N = some i := by
  have := ff_found h1 h2 (N - (i + 1))
  rwa [show i + 1 + (N - (i + 1)) = N by omega] at this
theorem ff_next {P : Nat → Bool} {i : Nat} (h1 : ffirst P i = none) (h2 : P i = false) : ffirst P (i + 1) = none := by simp [ffirst, h1, h2]
theorem ff_lt {P : Nat → Bool} : ∀ {n x : Nat}, ffirst P n = some x → x < n ∧ P x = true
  | n + 1, x, h => by
    simp only [ffirst] at h
    split at h
    · next y hy => cases h; have := ff_lt hy; exact ⟨by omega, this.2⟩
    · split at h
      · next hp => cases h; exact ⟨by omega, hp⟩
      · cases h
def fnd (P : Nat → Nat → Bool) : Nat → Option (Nat × Nat)
  | 0 => none
  | n + 1 => match fnd P n with
    | some x => some x
    | none => (ffirst (P n) (3 ^ n)).map (fun c => (n, c))
theorem fn_found {P : Nat → Nat → Bool} {i c : Nat} (h1 : fnd P i = none) (h2 : ffirst (P i) (3 ^ i) = some c) : ∀ d, fnd P (i + 1 + d) = some (i, c)
  | 0 => by show fnd P (i + 1) = _; simp only [fnd, h1, h2, Option.map_some]
  | d + 1 => by
    show fnd P ((i + 1 + d) + 1) = _
    simp only [fnd, fn_found h1 h2 d]
theorem fn_at {P : Nat → Nat → Bool} {i c N : Nat} (hi : i < N) (h1 : fnd P i = none) (h2 : ffirst (P i) (3 ^ i) = some c) : fnd P N = some (i, c) := by
  have := fn_found h1 h2 (N - (i + 1))
  rwa [show i + 1 + (N - (i + 1)) = N by omega] at this
theorem fn_next {P : Nat → Nat → Bool} {i : Nat} (h1 : fnd P i = none) (h2 : ffirst (P i) (3 ^ i) = none) : fnd P (i + 1) = none := by simp [fnd, h1, h2]
def dg (n code k : Nat) : Nat := code / 3 ^ (n - 1 - k) % 3
theorem dg_lt (n code k : Nat) : dg n code k < 3 := Nat.mod_lt _ (by decide)
theorem cost_le (t : Nat) : cost t ≤ 5 := by unfold cost; split <;> (try split) <;> omega
def wrow (W : Nat → Nat) (kn : Bool) (d : Nat → Nat) : Nat → (Nat → Nat)
  | 0 => W
  | i + 1 => weighN (wrow W kn d i) (d i) true kn
theorem wrow_ok {W : Nat → Nat} {kn : Bool} {d : Nat → Nat} (hd : ∀ k, d k < 3) (h1 : ∀ k, k < 6 → W k ≤ 999999) (h2 : ∃ k, k < 6 ∧ 0 < W k) : ∀ i, (∀ k, k < 6 → wrow W kn d i k ≤ 999999) ∧ ∃ k, k < 6 ∧ 0 < wrow W kn d i k
  | 0 => ⟨h1, h2⟩
  | i + 1 => by
    have := hd i
    exact weighN_ok (by omega) (wrow_ok hd h1 h2 i).1
def fitB (T : Nat → Nat) (m t n code : Nat) : Bool := decide (sm (fun k => cost (dg n code k)) n ≤ T 1) && decide (t ≤ share (wrow (tw T m) (know T m) (dg n code) n) 3 false)
def SF (h : mj_H) (sz : Int32) (f : Nat → Int32) : Prop := h[48]? = some (cO 6 [.ref 49, .ref 50, .int sz]) ∧ h[49]? = some (cI 3 f) ∧ h[50]? = some (cO 5 [.ref 51]) ∧ ∃ g, h[51]? = some (cJ 6 g)
theorem SF.fr {h h' : mj_H} {sz : Int32} {f : Nat → Int32} (o : SF h sz f) (e : ∀ k, 48 ≤ k → k < 52 → h'[k]? = h[k]?) : SF h' sz f := by
  obtain ⟨o1, o2, o3, g, o4⟩ := o
  exact ⟨by rw [e _ (by omega) (by omega)]; exact o1, by rw [e _ (by omega) (by omega)]; exact o2, by rw [e _ (by omega) (by omega)]; exact o3, g, by rw [e _ (by omega) (by omega)]; exact o4⟩
theorem pow3_le : ∀ n, n < 4 → 3 ^ n ≤ 27 := by decide
theorem X6_decode_s {h : mj_H} {sz : Int32} {f : Nat → Int32} (o : SF h sz f) {n code : Nat} (hn : n < 4) (hc : code < 27) : ∃ h' f', f_X6_decode 48 (nI code) (nI n) h = some h' ∧ SF h' (nI n) f' ∧ (∀ k, k < n → f' k = nI (dg n code k)) ∧ h'.length = h.length ∧ ∀ k, (k < 48 ∨ 50 ≤ k) → h'[k]? = h[k]? := by
  obtain ⟨o1, o2, o3, g, o4⟩ := o
  have s1 := sV_r (k := 2) (.int (nI n)) o1 (by simp)
  have key := fix_inv (F := (fun (K10 : (Nat × Int32 × Int32 × Int32 × mj_H) → Option (mj_H)) (s : Nat × Int32 × Int32 × Int32 × mj_H) => b_X6_decode_10 (fun v0 v2 v3 v4 h => K10 (v0, v2, v3, v4, h)) s.1 s.2.1 s.2.2.1 s.2.2.2.1 s.2.2.2.2)) (fun i s => ∃ f1, s = (48, nI n, nI (code / 3 ^ (n - (3 - i))), nI (3 - i) - 1, (h.set 48 (cO 6 [.ref 49, .ref 50, .int (nI n)])).set 49 (cI 3 f1)) ∧ ∀ k, 3 - i ≤ k → k < n → f1 k = nI (dg n code k)) (fun r => ∃ f1, r = (h.set 48 (cO 6 [.ref 49, .ref 50, .int (nI n)])).set 49 (cI 3 f1) ∧ ∀ k, k < n → f1 k = nI (dg n code k)) 3 (fun i hi s hs => ?_) (fun s hs => ?_) 1000 (by decide) (48, nI n, nI code, (2 : Int32), h.set 48 (cO 6 [.ref 49, .ref 50, .int (nI n)])) ⟨f, ?_, fun k h1 h2 => by omega⟩
  · obtain ⟨r, k1, f1, rfl, k2⟩ := key
    refine ⟨_, f1, ?_, ⟨get_set (get_self o1) (by decide), get_self (get_set o2 (by decide)), get_set (get_set o3 (by decide)) (by decide), g, get_set (get_set o4 (by decide)) (by decide)⟩, k2, by simp, fun k hk => ?_⟩
    · unfold f_X6_decode f_X6_decode_10
      rw [s1, Option.bind_some]
      exact k1
    · rw [List.getElem?_set_ne (by omega), List.getElem?_set_ne (by omega)]
  · left
    obtain ⟨f1, rfl, hf⟩ := hs
    obtain ⟨j, hj⟩ : ∃ j, 3 - i = j + 1 := ⟨2 - i, by omega⟩
    have g1 := get_set (c := cI 3 f1) (get_self (c := cO 6 [.ref 49, .ref 50, .int (nI n)]) o1) (show 49 ≠ 48 by decide)
    have g2 := get_self (c := cI 3 f1) (get_set (c := cO 6 [.ref 49, .ref 50, .int (nI n)]) o2 (show 48 ≠ 49 by decide))
    have c0 : ¬ nI j < 0 := nI_pos (by omega)
    have hj2 : 3 - (i + 1) = j := by omega
    rw [hj, hj2, nI_pred]
    have e5 : nI j + (-1 : Int32) = nI j - 1 := (Int32.sub_eq_add_neg ..).symm
    by_cases q : n ≤ j
    · have c1 : nI n ≤ nI j := nI_le q (by omega)
      have ev : n - (j + 1) = n - j := by omega
      refine ⟨_, ⟨f1, rfl, fun k h1 h2 => by omega⟩, fun K => ?_⟩
      rw [ev]
      simp [b_X6_decode_10, f_X6_decode_35, c0, c1, e5]
    · have c1 : ¬ nI n ≤ nI j := nI_ge (by omega) (by omega)
      have hb : code / 3 ^ (n - (j + 1)) < 2 ^ 31 := Nat.lt_of_le_of_lt (Nat.div_le_self _ _) (by omega)
      have r2 : nI (code / 3 ^ (n - (j + 1))) / (3 : Int32) = nI (code / 3 ^ (n - (j + 1)) / 3) := pk_div (d := 3) hb (by decide) (by decide)
      have r1 : nI (code / 3 ^ (n - (j + 1))) - nI (code / 3 ^ (n - (j + 1)) / 3) * (3 : Int32) = nI (dg n code j) := by
        rw [← r2]
        have := pk_rem (d := 3) hb (by decide) (by decide)
        unfold dg
        rw [show n - 1 - j = n - (j + 1) by omega]
        exact this
      have ev : code / 3 ^ (n - j) = code / 3 ^ (n - (j + 1)) / 3 := by
        rw [Nat.div_div_eq_div_mul, ← Nat.pow_succ]
        congr 2; omega
      refine ⟨_, ⟨upd f1 j (nI (dg n code j)), rfl, fun k h1 h2 => ?_⟩, fun K => ?_⟩
      · by_cases y : k = j
        · subst y; rw [pk_us]
        · rw [pk_un y]; exact hf k (by omega) h2
      · rw [ev]
        simp [b_X6_decode_10, f_X6_decode_35, c0, c1, mj_gR, mj_gV, g1, r2, r1, uI_r _ g2 (show j < 3 by omega) (by decide), e5]
  · obtain ⟨f1, rfl, hf⟩ := hs
    refine ⟨_, ⟨f1, rfl, fun k hk => hf k (by omega) hk⟩, fun K => ?_⟩
    have c0 : nI (3 - 3) - 1 < (0 : Int32) := by decide
    simp [b_X6_decode_10, c0]
  · have e1 : code / 3 ^ (n - (3 - 0)) = code := by
      rw [show n - (3 - 0) = 0 by omega]; simp
    rw [e1, set_same (get_set o2 (by decide))]
    rfl
theorem X6_fits_s {h : mj_H} {T : Nat → Nat} {f : Nat → Int32} {n code m t : Nat} (b : BN h 1 T) (w : WF T) (o : SF h (nI n) f) (ef : ∀ k, k < n → f k = nI (dg n code k)) (hn : n < 4) (hm : m < T 0) (ht : t ≤ 60) : ∃ g, f_X6_fits 48 1 (nI m) (nI t) h = some (bi (fitB T m t n code), h.set 51 (cJ 6 g)) := by
  obtain ⟨o1, o2, o3, g0, o4⟩ := o
  have w0 := w.1
  have wt1 := w.2.1
  have hok := fun i => wrow_ok (W := tw T m) (kn := know T m) (dg_lt n code) (w.w hm) (w.wp hm) i
  have key := fix_inv (F := (fun (K21 : (Nat × Nat × Int32 × Int32 × Int32 × Int32 × mj_H) → Option (Int32 × mj_H)) (s : Nat × Nat × Int32 × Int32 × Int32 × Int32 × mj_H) => b_X6_fits_21 (fun v0 v1 v2 v3 v4 v5 h => K21 (v0, v1, v2, v3, v4, v5, h)) s.1 s.2.1 s.2.2.1 s.2.2.2.1 s.2.2.2.2.1 s.2.2.2.2.2.1 s.2.2.2.2.2.2)) (fun i s => ∃ g, s = (48, 1, nI m, nI t, nI (sm (fun k => cost (dg n code k)) i), nI i, h.set 51 (cJ 6 g)) ∧ ∀ k, k < 6 → g k = lN (wrow (tw T m) (know T m) (dg n code) i k)) (fun r => ∃ g, r = (bi (fitB T m t n code), h.set 51 (cJ 6 g))) n (fun i hi s hs => ?_) (fun s hs => ?_) 1000 (by omega)
  · obtain ⟨b0, b1, ⟨ww, b2, b3⟩, b4⟩ := b
    have hl := X5_load_s (m := m) o3 o4 b1 b2 (by decide) (by decide) (by decide) (by omega)
    obtain ⟨r, k1, g', rfl⟩ := key (48, 1, nI m, nI t, (0 : Int32), (0 : Int32), h.set 51 (cJ 6 (fill (fun k => ww (6 * m + k)) g0 6))) ⟨_, rfl, fun k hk => by rw [fill_in hk]; exact b3 _ (by omega)⟩
    refine ⟨g', ?_⟩
    have r1 := gR_r (k := 1) (q := 50) o1 rfl
    have r2 : mj_ob h 50 5 = true := ob_r o3
    simp only [f_X6_fits, r1, Option.bind_some, r2, if_true, hl]
    exact k1
  · left
    obtain ⟨g, rfl, hg⟩ := hs
    have g1 := get_set (c := cJ 6 g) o1 (show 51 ≠ 48 by decide)
    have g2 := get_set (c := cJ 6 g) o2 (show 51 ≠ 49 by decide)
    have g3 := get_set (c := cJ 6 g) o3 (show 51 ≠ 50 by decide)
    have g4 := get_self (c := cJ 6 g) o4
    have b' : BN (h.set 51 (cJ 6 g)) 1 T := b.set (by omega)
    have c1 : ¬ nI n ≤ nI i := nI_ge hi (by omega)
    have c2 : ¬ nI 3 ≤ nI i := nI_ge (by omega) (by decide)
    have e1 := ef i hi
    have e2 := dg_lt n code i
    obtain ⟨h5, z1, g5, z2, z3⟩ := X5_weigh_s g3 g4 (by decide) hg (hok i).1 (dg_lt n code i) true (know T m)
    rw [List.set_set] at z2
    refine ⟨_, ⟨g5, rfl, z3⟩, fun K => ?_⟩
    have a1 := aI_r g2 (show i < 3 by omega) (by decide)
    rw [e1] at a1
    have ob3 : mj_ob (h.set 51 (cJ 6 g)) 50 5 = true := ob_r g3
    simp [b_X6_fits_21, mj_gI, mj_gR, mj_gV, g1, c1, aL_I g2, c2, a1, X8_costOf_s e2, b'.ob, X0_knows_s b' w hm, ob3]
    rw [show (1 : Int32) = bi true from rfl, z1, z2, nI_add]
    simp [bi_t, nI_1, sm]
  · obtain ⟨g, rfl, hg⟩ := hs
    have g1 := get_set (c := cJ 6 g) o1 (show 51 ≠ 48 by decide)
    have g3 := get_set (c := cJ 6 g) o3 (show 51 ≠ 50 by decide)
    have g4 := get_self (c := cJ 6 g) o4
    have bb := get_set (c := cJ 6 g) b.2.1 (show 51 ≠ 1 by decide)
    have c1 : nI n ≤ nI n := nI_le (Nat.le_refl _) (by omega)
    have hcost := sm_le (f := fun k => cost (dg n code k)) (b := 5) (n := n) (fun k _ => cost_le _)
    have c2 : (nI (T 1) < nI (sm (fun k => cost (dg n code k)) n)) ↔ T 1 < sm (fun k => cost (dg n code k)) n := nI_ltI (by omega) (by omega)
    have hc := X5_chance_s g3 g4 hg (hok n).1 (sm_pos (hok n).2) (show 3 < 4 by decide) false
    have hsl := share_le (W := wrow (tw T m) (know T m) (dg n code) n) (r := false) (show 3 < 4 by decide)
    have c3 : (nI (share (wrow (tw T m) (know T m) (dg n code) n) 3 false) < nI t) ↔ share (wrow (tw T m) (know T m) (dg n code) n) 3 false < t := nI_ltI (by omega) (by omega)
    rw [bi_f, show nI 3 = (3 : Int32) from rfl] at hc
    refine ⟨_, ⟨g, rfl⟩, fun K => ?_⟩
    by_cases q : T 1 < sm (fun k => cost (dg n code k)) n
    · have : fitB T m t n code = false := by unfold fitB; rw [decide_eq_false (by omega)]; rfl
      simp [b_X6_fits_21, f_X6_fits_81, mj_gI, mj_gV, g1, c1, bb, c2, q, this, bi_f]
    · by_cases q2 : share (wrow (tw T m) (know T m) (dg n code) n) 3 false < t
      · have : fitB T m t n code = false := by unfold fitB; rw [decide_eq_false (p := t ≤ _) (by omega), Bool.and_false]
        simp [b_X6_fits_21, f_X6_fits_81, mj_gI, mj_gR, mj_gV, mj_ob, g1, c1, bb, c2, q, g3, hc, c3, q2, this, bi_f]
      · have : fitB T m t n code = true := by unfold fitB; rw [decide_eq_true (by omega), decide_eq_true (by omega)]; rfl
        simp [b_X6_fits_21, f_X6_fits_81, mj_gI, mj_gR, mj_gV, mj_ob, g1, c1, bb, c2, q, g3, hc, c3, q2, this, bi_t]
theorem ff_none {P : Nat → Bool} : ∀ {n : Nat}, ffirst P n = none → ∀ i, i < n → P i = false
  | n + 1, h, i, hi => by
    simp only [ffirst] at h
    split at h
    · cases h
    · next hy =>
      split at h
      · cases h
      · next hp =>
        rcases Nat.lt_or_ge i n with q | q
        · exact ff_none hy i q
        · have : i = n := by omega
          subst this
          cases z : P i
          · rfl
          · exact absurd z hp
theorem ff_some {P : Nat → Bool} : ∀ {n c : Nat}, ffirst P n = some c → c < n ∧ P c = true ∧ ∀ i, i < c → P i = false
  | n + 1, c, h => by
    simp only [ffirst] at h
    split at h
    · next y hy => cases h; have := ff_some hy; exact ⟨by omega, this.2⟩
    · next hy =>
      split at h
      · next hp => cases h; exact ⟨by omega, hp, fun i hi => ff_none hy i hi⟩
      · cases h
theorem X6_find_s {h : mj_H} {T : Nat → Nat} {sz : Int32} {f : Nat → Int32} {m t : Nat} (b : BN h 1 T) (w : WF T) (o : SF h sz f) (hm : m < T 0) (ht : t ≤ 60) : ∃ h' sz' f', f_X6_find 48 1 (nI m) (nI t) h = some (bi (fnd (fitB T m t) 4).isSome, h') ∧ SF h' sz' f' ∧ (∀ n code, fnd (fitB T m t) 4 = some (n, code) → n < 4 ∧ sz' = nI n ∧ ∀ k, k < n → f' k = nI (dg n code k)) ∧ ∀ k, (k < 48 ∨ 52 ≤ k) → h'[k]? = h[k]? := by
  unfold f_X6_find f_X6_find_6
  refine fix_w (F := (fun (K6 : (Nat × Nat × Int32 × Int32 × Int32 × Int32 × mj_H) → Option (Int32 × mj_H)) (s : Nat × Nat × Int32 × Int32 × Int32 × Int32 × mj_H) => b_X6_find_6 (fun v0 v1 v2 v3 v4 v5 h => K6 (v0, v1, v2, v3, v4, v5, h)) s.1 s.2.1 s.2.2.1 s.2.2.2.1 s.2.2.2.2.1 s.2.2.2.2.2.1 s.2.2.2.2.2.2)) (fun n s => ∃ h1 sz1 f1, s = (48, 1, nI m, nI t, nI (3 ^ n), nI n, h1) ∧ SF h1 sz1 f1 ∧ fnd (fitB T m t) n = none ∧ ∀ k, (k < 48 ∨ 52 ≤ k) → h1[k]? = h[k]?) (fun x => ∃ h' sz' f', x = some (bi (fnd (fitB T m t) 4).isSome, h') ∧ SF h' sz' f' ∧ (∀ n code, fnd (fitB T m t) 4 = some (n, code) → n < 4 ∧ sz' = nI n ∧ ∀ k, k < n → f' k = nI (dg n code k)) ∧ ∀ k, (k < 48 ∨ 52 ≤ k) → h'[k]? = h[k]?) 4 (fun n hn s hs => ?_) (fun s hs K => ?_) 1000 (by decide) (48, 1, nI m, nI t, (1 : Int32), (0 : Int32), h) ⟨h, sz, f, rfl, o, rfl, fun _ _ => rfl⟩
  · obtain ⟨h1, sz1, f1, rfl, o1, hf, fr⟩ := hs
    have hp := pow3_le n hn
    have c0 : ¬ (3 : Int32) < nI n := nI_nlt (a := 3) (by omega) (by decide)
    have one : ∀ (c : Nat) (h2 : mj_H) (sz2 : Int32) (f2 : Nat → Int32), c < 3 ^ n → SF h2 sz2 f2 → (∀ k, (k < 48 ∨ 52 ≤ k) → h2[k]? = h[k]?) → ∃ h3 h4 f4, f_X6_decode 48 (nI c) (nI n) h2 = some h3 ∧ mj_ob h2 48 6 = true ∧ mj_ob h3 48 6 = true ∧ f_X6_fits 48 1 (nI m) (nI t) h3 = some (bi (fitB T m t n c), h4) ∧ SF h4 (nI n) f4 ∧ (∀ k, k < n → f4 k = nI (dg n c k)) ∧ ∀ k, (k < 48 ∨ 52 ≤ k) → h4[k]? = h[k]? := by
      intro c h2 sz2 f2 hc o2 fr2
      obtain ⟨h3, f4, d1, d2, d3, -, d5⟩ := X6_decode_s o2 hn (show c < 27 by omega)
      have b3 : BN h3 1 T := (b.fr (fun k k1 k2 => fr2 k (by omega))).fr (fun k k1 k2 => d5 k (by omega))
      obtain ⟨g, e1⟩ := X6_fits_s b3 w d2 d3 hn hm ht
      refine ⟨h3, _, f4, d1, ob_r o2.1, ob_r d2.1, e1, ⟨get_set d2.1 (by decide), get_set d2.2.1 (by decide), get_set d2.2.2.1 (by decide), g, get_self d2.2.2.2.choose_spec⟩, d3, fun k hk => ?_⟩
      rw [List.getElem?_set_ne (by omega), d5 k (by omega)]; exact fr2 k hk
    have run : ∀ N, N ≤ 3 ^ n → (∀ i, i < N → fitB T m t n i = false) → ∃ h2 sz2 f2 j, SF h2 sz2 f2 ∧ (∀ k, (k < 48 ∨ 52 ≤ k) → h2[k]? = h[k]?) ∧ 0 < j ∧ ∀ K6 : (Nat → Nat → Int32 → Int32 → Int32 → Int32 → mj_H → Option (Int32 × mj_H)), f_X6_find_15 K6 48 1 (nI m) (nI t) (nI (3 ^ n)) (nI n) (0 : Int32) h1 = mj_fix (fun (K15 : (Nat × Nat × Int32 × Int32 × Int32 × Int32 × Int32 × mj_H) → Option (Int32 × mj_H)) (s : Nat × Nat × Int32 × Int32 × Int32 × Int32 × Int32 × mj_H) => b_X6_find_15 K6 (fun v0 v1 v2 v3 v4 v5 v6 h => K15 (v0, v1, v2, v3, v4, v5, v6, h)) s.1 s.2.1 s.2.2.1 s.2.2.2.1 s.2.2.2.2.1 s.2.2.2.2.2.1 s.2.2.2.2.2.2.1 s.2.2.2.2.2.2.2) j (48, 1, nI m, nI t, nI (3 ^ n), nI n, nI N, h2) := by
      intro N hN hall
      have key := fix_inP (F := fun K6 => (fun (K15 : (Nat × Nat × Int32 × Int32 × Int32 × Int32 × Int32 × mj_H) → Option (Int32 × mj_H)) (s : Nat × Nat × Int32 × Int32 × Int32 × Int32 × Int32 × mj_H) => b_X6_find_15 K6 (fun v0 v1 v2 v3 v4 v5 v6 h => K15 (v0, v1, v2, v3, v4, v5, v6, h)) s.1 s.2.1 s.2.2.1 s.2.2.2.1 s.2.2.2.2.1 s.2.2.2.2.2.1 s.2.2.2.2.2.2.1 s.2.2.2.2.2.2.2)) (fun i s => ∃ h2 sz2 f2, s = (48, 1, nI m, nI t, nI (3 ^ n), nI n, nI i, h2) ∧ SF h2 sz2 f2 ∧ ∀ k, (k < 48 ∨ 52 ≤ k) → h2[k]? = h[k]?) N (fun i hi s hs => ?_) 1000 (by omega) (48, 1, nI m, nI t, nI (3 ^ n), nI n, (0 : Int32), h1) ⟨h1, sz1, f1, rfl, o1, fr⟩
      · obtain ⟨s', j, ⟨h2, sz2, f2, rfl, o2, fr2⟩, hj, e⟩ := key
        exact ⟨h2, sz2, f2, j, o2, fr2, hj, e⟩
      · obtain ⟨h2, sz2, f2, rfl, o2, fr2⟩ := hs
        obtain ⟨h3, h4, f4, y1, y2, y3, y4, y5, y6, y7⟩ := one i h2 sz2 f2 (by omega) o2 fr2
        have c1 : ¬ nI (3 ^ n) ≤ nI i := nI_ge (by omega) (by omega)
        rw [hall i hi] at y4
        exact ⟨_, ⟨h4, _, f4, rfl, y5, y7⟩, fun k K => by simp [b_X6_find_15, c1, y1, y2, y3, y4, bi_f, nI_1]⟩
    cases hff : ffirst (fitB T m t n) (3 ^ n) with
    | none =>
      left
      obtain ⟨h2, sz2, f2, j, o2, fr2, hj, e⟩ := run (3 ^ n) (Nat.le_refl _) (ff_none hff)
      have c1 : nI (3 ^ n) ≤ nI (3 ^ n) := nI_le (Nat.le_refl _) (by omega)
      have e3 : nI (3 ^ n) * (3 : Int32) = nI (3 ^ (n + 1)) := by rw [Nat.pow_succ]; exact pk_mul _ 3
      refine ⟨_, ⟨h2, sz2, f2, rfl, o2, fn_next hf hff, fr2⟩, fun K => ?_⟩
      match j, hj, e with
      | j + 1, _, e => simp [b_X6_find_6, c0, e, mj_fix, b_X6_find_15, c1, e3, nI_1]
    | some c =>
      right
      intro K
      obtain ⟨q1, q2, q3⟩ := ff_some hff
      obtain ⟨h2, sz2, f2, j, o2, fr2, hj, e⟩ := run c (by omega) q3
      obtain ⟨h3, h4, f4, y1, y2, y3, y4, y5, y6, y7⟩ := one c h2 sz2 f2 q1 o2 fr2
      have c1 : ¬ nI (3 ^ n) ≤ nI c := nI_ge (by omega) (by omega)
      rw [q2] at y4
      have z := fn_at (N := 4) hn hf hff
      refine ⟨h4, _, f4, ?_, y5, fun n' c' zz => ?_, y7⟩
      · rw [z]
        match j, hj, e with
        | j + 1, _, e => simp [b_X6_find_6, c0, e, mj_fix, b_X6_find_15, c1, y1, y2, y3, y4, bi_t]
      · rw [z] at zz
        cases zz
        exact ⟨hn, rfl, y6⟩
  · obtain ⟨h1, sz1, f1, rfl, o1, hf, fr⟩ := hs
    have c0 : (3 : Int32) < nI 4 := by decide
    have hno : ∀ n code, fnd (fitB T m t) 4 = some (n, code) → n < 4 ∧ sz1 = nI n ∧ ∀ k, k < n → f1 k = nI (dg n code k) := by
      intro n code z
      rw [hf] at z
      cases z
    refine ⟨h1, sz1, f1, ?_, o1, hno, fr⟩
    simp [b_X6_find_6, c0, hf, bi_f]
