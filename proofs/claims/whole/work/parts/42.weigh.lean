/-! PURE: chance, store, cut, greatest common, weigh (class) -/
def share (W : Nat → Nat) (what : Nat) (r : Bool) : Nat := 60 * sm (fun k => W k * cas k what r) 6 / (12 * sm W 6)
theorem lN_toInt64 {n : Nat} (h : n < 2 ^ 31) : (nI n).toInt64 = lN n := nI_l h
theorem lle {a b : Nat} (ha : a < 2 ^ 63) (hb : b < 2 ^ 63) : (lN a ≤ lN b) ↔ a ≤ b := pk_lLE ha hb
theorem llt {a b : Nat} (ha : a < 2 ^ 63) (hb : b < 2 ^ 63) : (lN a < lN b) ↔ a < b := pk_lLT ha hb
theorem leq {a b : Nat} (ha : a < 2 ^ 63) (hb : b < 2 ^ 63) : (lN a = lN b) ↔ a = b := pk_lEQ ha hb
theorem smc_le {W : Nat → Nat} {what : Nat} {r : Bool} {B : Nat} (hw : what < 4) (hB : ∀ k, k < 6 → W k ≤ B) : sm (fun k => W k * cas k what r) 6 ≤ 6 * (B * 12) :=
  sm_le (fun k hk => Nat.mul_le_mul (hB k hk) (cas_le k hk what hw r))
theorem smc_le12 {W : Nat → Nat} {what : Nat} {r : Bool} (hw : what < 4) : ∀ n, n ≤ 6 → sm (fun k => W k * cas k what r) n ≤ 12 * sm W n
  | 0, _ => by simp [sm]
  | n + 1, hn => by
    have h1 := smc_le12 (W := W) (r := r) hw n (by omega)
    have h2 : W n * cas n what r ≤ W n * 12 := Nat.mul_le_mul_left _ (cas_le n (by omega) what hw r)
    simp only [sm]
    omega
theorem share_le {W : Nat → Nat} {what : Nat} {r : Bool} (hw : what < 4) : share W what r ≤ 60 := by
  have h := smc_le12 (W := W) (r := r) hw 6 (Nat.le_refl 6)
  unfold share
  rcases Nat.eq_zero_or_pos (sm W 6) with q | q
  · rw [q]; simp
  · apply Nat.div_le_of_le_mul
    omega
theorem X5_chance_s {h : mj_H} {r rw_ : Nat} {w : Nat → Int64} {W : Nat → Nat} (hr : h[r]? = some (cO 5 [.ref rw_])) (hw : h[rw_]? = some (cJ 6 w)) (e : ∀ k, k < 6 → w k = lN (W k)) (hB : ∀ k, k < 6 → W k ≤ 999999) (hp : 0 < sm W 6) {what : Nat} (hwh : what < 4) (rr : Bool) : f_X5_chance r (nI what) (bi rr) h = some (nI (share W what rr), h) := by
  unfold f_X5_chance f_X5_chance_5
  refine fix_iter (st := fun i => (r, nI what, bi rr, lN (sm (fun k => W k * cas k what rr) i), nI i, h)) 6 _ (fun i hi K => ?_) (fun K => ?_) 1000 (by decide)
  · have e1 := X8_casesOf_s i hi what hwh rr h
    have e2 : cas i what rr < 2 ^ 31 := by have := cas_le i hi what hwh rr; omega
    simp [b_X5_chance_5, le6 hi, mj_gR, mj_gV, hr, aJ_r hw hi (by decide), e1, e i hi, lN_toInt64 e2, lN_mul, lN_add, sm, n1, nI_add]
  · have b1 := sm_le (f := W) (n := 6) hB
    have b2 := smc_le (r := rr) hwh hB
    have c1 : ¬ lN (12 * sm W 6) ≤ lN 0 := by rw [lle (by omega) (by omega)]; omega
    have c2 : ¬ lN (12 * sm W 6) = lN 0 := by rw [leq (by omega) (by omega)]; omega
    simp [b_X5_chance_5, ge6, mj_ob, hr, X5_sum_s hr hw e, l12, l60, l0, lN_mul, c1, c2, pk_lDiv (show 60 * sm (fun k => W k * cas k what rr) 6 < 2 ^ 63 by omega) (show 0 < 12 * sm W 6 by omega) (show 12 * sm W 6 < 2 ^ 63 by omega), lN_i, share]
def fill2 {α : Type} (f g : Nat → α) (o i : Nat) : Nat → α := fun j => if o ≤ j ∧ j < o + i then f (j - o) else g j
theorem fill2_0 {α : Type} (f g : Nat → α) (o : Nat) : fill2 f g o 0 = g := by
  funext j; simp only [fill2]; rw [if_neg (by omega)]
theorem fill2_in {α : Type} {f g : Nat → α} {o i j : Nat} (h : o ≤ j) (h2 : j < o + i) : fill2 f g o i j = f (j - o) := by simp [fill2, h, h2]
theorem fill2_out {α : Type} {f g : Nat → α} {o i j : Nat} (h : j < o ∨ o + i ≤ j) : fill2 f g o i j = g j := by
  simp only [fill2]; rw [if_neg (by omega)]
theorem fill2_J (f g : Nat → Int64) (o i : Nat) : vp_updL (fill2 f g o i) (o + i) (f i) = fill2 f g o (i + 1) := by
  funext j
  simp only [vp_updL, fill2]
  by_cases h : j = o + i
  · subst h; rw [if_pos rfl, if_pos (by omega), Nat.add_sub_cancel_left]
  · rw [if_neg h]
    by_cases h2 : o ≤ j ∧ j < o + i
    · rw [if_pos h2, if_pos (by omega)]
    · rw [if_neg h2, if_neg (by omega)]
theorem fill2_I (f g : Nat → Int32) (o i : Nat) : upd (fill2 f g o i) (o + i) (f i) = fill2 f g o (i + 1) := by
  funext j
  simp only [upd, fill2]
  by_cases h : j = o + i
  · subst h; rw [if_pos rfl, if_pos (by omega), Nat.add_sub_cancel_left]
  · rw [if_neg h]
    by_cases h2 : o ≤ j ∧ j < o + i
    · rw [if_pos h2, if_pos (by omega)]
    · rw [if_neg h2, if_neg (by omega)]
theorem X0_setWeight_s {h : mj_H} {b bw m k : Nat} {x1 x2 x3 x4 x5 x6 : Value} {w : Nat → Int64} (v : Int64) (hb : h[b]? = some (cO 0 [.ref bw, x1, x2, x3, x4, x5, x6])) (hw : h[bw]? = some (cJ 36 w)) (hm : m < 6) (hk : k < 6) : f_X0_setWeight b (nI m) (nI k) v h = some (h.set bw (cJ 36 (vp_updL w (6 * m + k) v))) := by
  have e : nI m * (6 : Int32) + nI k = nI (6 * m + k) := by rw [n6, pk_mul, nI_add, Nat.mul_comm]
  have h1 : ¬ nI (6 * m + k) < 0 := nI_pos (by omega)
  have h2 : ¬ nI 36 ≤ nI (6 * m + k) := nI_ge (by omega) (by decide)
  simp [f_X0_setWeight, e, h1, mj_gR, mj_gV, hb, aL_J hw, h2, uJ_r v hw (show 6 * m + k < 36 by omega) (by decide)]
theorem X5_store_s {h : mj_H} {r rw_ b bw m : Nat} {x1 x2 x3 x4 x5 x6 : Value} {w g : Nat → Int64} (hr : h[r]? = some (cO 5 [.ref rw_])) (hg : h[rw_]? = some (cJ 6 g)) (hb : h[b]? = some (cO 0 [.ref bw, x1, x2, x3, x4, x5, x6])) (hw : h[bw]? = some (cJ 36 w)) (d1 : bw ≠ r) (d2 : bw ≠ b) (d3 : bw ≠ rw_) (hm : m < 6) : f_X5_store r b (nI m) h = some (h.set bw (cJ 36 (fill2 g w (6 * m) 6))) := by
  unfold f_X5_store f_X5_store_2
  have h0 : (r, b, nI m, (0 : Int32), h) = (fun i => (r, b, nI m, nI i, h.set bw (cJ 36 (fill2 g w (6 * m) i)))) 0 := by
    simp only [fill2_0, set_same hw]; rfl
  rw [h0]
  refine fix_iter (st := fun i => (r, b, nI m, nI i, h.set bw (cJ 36 (fill2 g w (6 * m) i)))) 6 _ (fun i hi K => ?_) (fun K => ?_) 1000 (by decide)
  · have g1 := get_set (c := cJ 36 (fill2 g w (6 * m) i)) hr d1
    have g2 := get_set (c := cJ 36 (fill2 g w (6 * m) i)) hb d2
    have g3 := get_set (c := cJ 36 (fill2 g w (6 * m) i)) hg d3
    have g4 := get_self (c := cJ 36 (fill2 g w (6 * m) i)) hw
    simp [b_X5_store_2, le6 hi, mj_gR, mj_gV, g1, mj_ob, g2, aJ_r g3 hi (by decide), X0_setWeight_s (g i) g2 g4 hm hi, n1, nI_add, fill2_J g w (6 * m) i]
  · simp [b_X5_store_2, ge6]
theorem X5_cutBy_s {h : mj_H} {r rw_ : Nat} {w : Nat → Int64} {d : Nat} (hr : h[r]? = some (cO 5 [.ref rw_])) (hw : h[rw_]? = some (cJ 6 w)) (dd : rw_ ≠ r) (hd : 0 < d) (hd2 : d < 2 ^ 62) : f_X5_cutBy r (lN d) h = some (h.set rw_ (cJ 6 (fill (fun k => w k / lN d) w 6))) := by
  unfold f_X5_cutBy f_X5_cutBy_2
  have h0 : (r, lN d, (0 : Int32), h) = (fun i => (r, lN d, nI i, h.set rw_ (cJ 6 (fill (fun k => w k / lN d) w i)))) 0 := by
    simp only [fill_0, set_same hw]; rfl
  rw [h0]
  have c1 : ¬ lN d ≤ lN 0 := by rw [lle (by omega) (by omega)]; omega
  have c2 : ¬ lN d = lN 0 := by rw [leq (by omega) (by omega)]; omega
  refine fix_iter (st := fun i => (r, lN d, nI i, h.set rw_ (cJ 6 (fill (fun k => w k / lN d) w i)))) 6 _ (fun i hi K => ?_) (fun K => ?_) 1000 (by decide)
  · have g1 := get_set (c := cJ 6 (fill (fun k => w k / lN d) w i)) hr dd
    have g4 := get_self (c := cJ 6 (fill (fun k => w k / lN d) w i)) hw
    simp [b_X5_cutBy_2, f_X5_cutBy_24, le6 hi, l0, c1, c2, mj_gR, mj_gV, g1, aJ_r g4 hi (by decide), uJ_r _ g4 hi (by decide), n1, nI_add, fill_out (Nat.le_refl i), fill_J (fun k => w k / lN d) w i]
  · simp [b_X5_cutBy_2, ge6]
def mxw (W : Nat → Nat) : Nat → Nat
  | 0 => 0
  | n + 1 => max (mxw W n) (W n)
theorem mxw_le {W : Nat → Nat} {B : Nat} : ∀ {n : Nat}, (∀ k, k < n → W k ≤ B) → mxw W n ≤ B
  | 0, _ => by simp [mxw]
  | n + 1, h => by
    have := mxw_le (W := W) (n := n) (fun k hk => h k (by omega))
    have := h n (by omega)
    simp only [mxw]; omega
theorem le_mxw {W : Nat → Nat} : ∀ {n k : Nat}, k < n → W k ≤ mxw W n
  | n + 1, k, hk => by
    rcases Nat.lt_or_ge k n with q | q
    · have := le_mxw (W := W) q
      simp only [mxw]; omega
    · have : k = n := by omega
      subst this; simp only [mxw]; omega
theorem mxw_half (W : Nat → Nat) : ∀ n, mxw (fun k => W k / 2) n = mxw W n / 2
  | 0 => by simp [mxw]
  | n + 1 => by simp only [mxw, mxw_half W n]; omega
theorem mxw_congr {f g : Nat → Nat} : ∀ {n : Nat}, (∀ k, k < n → f k = g k) → mxw f n = mxw g n
  | 0, _ => rfl
  | n + 1, h => by rw [mxw, mxw, mxw_congr (fun k hk => h k (by omega)), h n (by omega)]
theorem X5_most_s {h : mj_H} {r rw_ : Nat} {w : Nat → Int64} {W : Nat → Nat} (hr : h[r]? = some (cO 5 [.ref rw_])) (hw : h[rw_]? = some (cJ 6 w)) (e : ∀ k, k < 6 → w k = lN (W k)) (hB : ∀ k, k < 6 → W k ≤ 2 ^ 40) : f_X5_most r h = some (lN (mxw W 6), h) := by
  unfold f_X5_most f_X5_most_4
  refine fix_iter (st := fun i => (r, lN (mxw W i), nI i, h)) 6 _ (fun i hi K => ?_) (fun K => ?_) 1000 (by decide)
  · have b1 := mxw_le (W := W) (n := i) (B := 2 ^ 40) (fun k hk => hB k (by omega))
    have b2 := hB i hi
    have c1 : (if lN (W i) < lN (mxw W i) then lN (mxw W i) else lN (W i)) = lN (max (mxw W i) (W i)) := by
      by_cases q : W i < mxw W i
      · rw [if_pos ((llt (by omega) (by omega)).mpr q), Nat.max_eq_left (by omega)]
      · rw [if_neg (fun z => q ((llt (by omega) (by omega)).mp z)), Nat.max_eq_right (by omega)]
    simp [b_X5_most_4, le6 hi, mj_gR, mj_gV, hr, aJ_r hw hi (by decide), e i hi, c1, mxw, n1, nI_add]
  · simp [b_X5_most_4, ge6]
theorem X5_isEmpty_s {h : mj_H} {r rw_ : Nat} {w : Nat → Int64} {W : Nat → Nat} (hr : h[r]? = some (cO 5 [.ref rw_])) (hw : h[rw_]? = some (cJ 6 w)) (e : ∀ k, k < 6 → w k = lN (W k)) (hB : ∀ k, k < 6 → W k ≤ 2 ^ 40) : f_X5_isEmpty r h = some (bi (decide (sm W 6 = 0)), h) := by
  have b1 := sm_le (f := W) (n := 6) hB
  have c1 : (lN (sm W 6) = lN 0) ↔ sm W 6 = 0 := leq (by omega) (by omega)
  by_cases q : sm W 6 = 0
  · simp [f_X5_isEmpty, mj_ob, hr, X5_sum_s hr hw e, l0, c1, q, bi]
  · simp [f_X5_isEmpty, mj_ob, hr, X5_sum_s hr hw e, l0, c1, q, bi]
/-! Euclid -/
theorem eu (a b : Nat) : Nat.gcd a b = Nat.gcd b (a % b) := by
  rw [Nat.gcd_comm b (a % b), ← Nat.gcd_rec, Nat.gcd_comm]
theorem lrem_ {a b : Nat} (ha : a < 2 ^ 62) (h0 : 0 < b) (hb : b < 2 ^ 62) : lN a - lN a / lN b * lN b = lN (a % b) := pk_lRem (by omega) h0 (by omega)
theorem X8_gc_loop (h : mj_H) : ∀ (n a b i fu : Nat), a < 2 ^ 62 → b < 2 ^ 62 → b < 2 ^ n → i + 2 * n + 1 ≤ 100 → 2 * n + 1 < fu → mj_fix (fun (K3 : (Int64 × Int64 × Int32 × mj_H) → Option (Int64 × mj_H)) (s : Int64 × Int64 × Int32 × mj_H) => b_X8_greatestCommon_3 (fun v0 v2 v4 h => K3 (v0, v2, v4, h)) s.1 s.2.1 s.2.2.1 s.2.2.2) fu (lN a, lN b, nI i, h) = some (lN (Nat.gcd a b), h) := by
  have z : ∀ (a i fu : Nat), i + 1 ≤ 100 → 0 < fu → mj_fix (fun (K3 : (Int64 × Int64 × Int32 × mj_H) → Option (Int64 × mj_H)) (s : Int64 × Int64 × Int32 × mj_H) => b_X8_greatestCommon_3 (fun v0 v2 v4 h => K3 (v0, v2, v4, h)) s.1 s.2.1 s.2.2.1 s.2.2.2) fu (lN a, lN 0, nI i, h) = some (lN a, h) := by
    intro a i fu hi hf
    match fu, hf with
    | fu + 1, _ =>
      have c1 : ¬ (100 : Int32) ≤ nI i := nI_ge (b := 100) (by omega) (by decide)
      simp [mj_fix, b_X8_greatestCommon_3, c1, l0]
  have st : ∀ (a b i fu : Nat), a < 2 ^ 62 → b < 2 ^ 62 → 0 < b → i + 1 ≤ 100 → mj_fix (fun (K3 : (Int64 × Int64 × Int32 × mj_H) → Option (Int64 × mj_H)) (s : Int64 × Int64 × Int32 × mj_H) => b_X8_greatestCommon_3 (fun v0 v2 v4 h => K3 (v0, v2, v4, h)) s.1 s.2.1 s.2.2.1 s.2.2.2) (fu + 1) (lN a, lN b, nI i, h) = mj_fix (fun (K3 : (Int64 × Int64 × Int32 × mj_H) → Option (Int64 × mj_H)) (s : Int64 × Int64 × Int32 × mj_H) => b_X8_greatestCommon_3 (fun v0 v2 v4 h => K3 (v0, v2, v4, h)) s.1 s.2.1 s.2.2.1 s.2.2.2) fu (lN b, lN (a % b), nI (i + 1), h) := by
    intro a b i fu ha hb h0 hi
    have c1 : ¬ (100 : Int32) ≤ nI i := nI_ge (b := 100) (by omega) (by decide)
    have c2 : ¬ lN b = lN 0 := by rw [leq (by omega) (by omega)]; omega
    simp [mj_fix, b_X8_greatestCommon_3, c1, l0, c2, lrem_ ha h0 hb, n1, nI_add]
  intro n
  induction n with
  | zero =>
    intro a b i fu ha hb h1 h2 h3
    have : b = 0 := by omega
    subst this
    rw [Nat.gcd_zero_right]
    exact z a i fu (by omega) (by omega)
  | succ n ih =>
    intro a b i fu ha hb h1 h2 h3
    rcases Nat.eq_zero_or_pos b with q | q
    · subst q
      rw [Nat.gcd_zero_right]
      exact z a i fu (by omega) (by omega)
    · match fu, h3 with
      | fu + 2, h3 =>
        rw [st a b i (fu + 1) ha hb q (by omega), eu a b]
        have hr := Nat.mod_lt a q
        rcases Nat.eq_zero_or_pos (a % b) with q2 | q2
        · rw [q2, Nat.gcd_zero_right]
          exact z b (i + 1) (fu + 1) (by omega) (by omega)
        · rw [st b (a % b) (i + 1) fu hb (by omega) q2 (by omega), eu b (a % b)]
          have h5 := Nat.mod_lt b q2
          have h6 : b % (a % b) < 2 ^ n := by
            have h7 : a % b + b % (a % b) ≤ b := by
              have h8 := Nat.div_add_mod b (a % b)
              have h9 : 1 ≤ b / (a % b) := (Nat.one_le_div_iff q2).mpr (Nat.le_of_lt hr)
              have h10 : (a % b) * 1 ≤ (a % b) * (b / (a % b)) := Nat.mul_le_mul_left _ h9
              omega
            have : 2 ^ (n + 1) = 2 * 2 ^ n := by rw [Nat.pow_succ]; omega
            omega
          exact ih (a % b) (b % (a % b)) (i + 2) fu (by omega) (by omega) h6 (by omega) (by omega)
theorem X8_gc_s (h : mj_H) {a b : Nat} (ha : a < 2 ^ 62) (hb : b < 2 ^ 40) : f_X8_greatestCommon (lN a) (lN b) h = some (lN (Nat.gcd a b), h) :=
  X8_gc_loop h 40 a b 0 1000 ha (by omega) hb (by omega) (by omega)
