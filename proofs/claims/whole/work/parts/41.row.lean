/-! PURE: one man's weights (class) -/
def cas (k w : Nat) (r : Bool) : Nat := if w = 0 ∧ r = true ∧ (k = 3 ∨ k = 5) then 11 else ([6, 5, 4, 6, 9, 8, 7, 10, 3, 2, 1, 2, 3, 2, 1, 1, 4, 10, 9, 11, 3, 2, 1, 0] : List Nat).getD (4 * k + w) 0
theorem cas_le : ∀ k, k < 6 → ∀ w, w < 4 → ∀ r, cas k w r ≤ 12 := by decide
set_option maxRecDepth 10000 in
theorem X8_casesOf_s (k : Nat) (hk : k < 6) (w : Nat) (hw : w < 4) (r : Bool) (h : mj_H) : f_X8_casesOf (nI k) (nI w) (bi r) h = some (nI (cas k w r), h) := by
  have h1 : k = 0 ∨ k = 1 ∨ k = 2 ∨ k = 3 ∨ k = 4 ∨ k = 5 := by omega
  have h2 : w = 0 ∨ w = 1 ∨ w = 2 ∨ w = 3 := by omega
  rcases h1 with rfl | rfl | rfl | rfl | rfl | rfl <;> rcases h2 with rfl | rfl | rfl | rfl <;> cases r <;> rfl
def sm (f : Nat → Nat) : Nat → Nat
  | 0 => 0
  | n + 1 => sm f n + f n
theorem sm_congr {f g : Nat → Nat} : ∀ {n : Nat}, (∀ k, k < n → f k = g k) → sm f n = sm g n
  | 0, _ => rfl
  | n + 1, h => by rw [sm, sm, sm_congr (fun k hk => h k (by omega)), h n (by omega)]
theorem sm_le {f : Nat → Nat} {b : Nat} : ∀ {n : Nat}, (∀ k, k < n → f k ≤ b) → sm f n ≤ n * b
  | 0, _ => by simp [sm]
  | n + 1, h => by
    have h1 := sm_le (n := n) (f := f) (b := b) (fun k hk => h k (by omega))
    have h2 := h n (by omega)
    rw [sm, Nat.succ_mul]
    omega
theorem sm_zero {f : Nat → Nat} : ∀ {n : Nat}, sm f n = 0 ↔ ∀ k, k < n → f k = 0
  | 0 => by simp [sm]
  | n + 1 => by
    rw [sm]
    constructor
    · intro h k hk
      rcases Nat.lt_or_ge k n with q | q
      · exact sm_zero.mp (by omega) k q
      · have : k = n := by omega
        subst this; omega
    · intro h
      have h1 := sm_zero (f := f) (n := n) |>.mpr (fun k hk => h k (by omega))
      have h2 := h n (by omega)
      omega
theorem le6 {i : Nat} (hi : i < 6) : ¬ (6 : Int32) ≤ nI i := nI_ge (b := 6) hi (by decide)
theorem ge6 : (6 : Int32) ≤ nI 6 := nI_le (Nat.le_refl 6) (by decide)
theorem X5_sum_s {h : mj_H} {r rw_ : Nat} {w : Nat → Int64} {W : Nat → Nat} (hr : h[r]? = some (cO 5 [.ref rw_])) (hw : h[rw_]? = some (cJ 6 w)) (e : ∀ k, k < 6 → w k = lN (W k)) : f_X5_sum r h = some (lN (sm W 6), h) := by
  unfold f_X5_sum f_X5_sum_4
  refine fix_iter (st := fun i => (r, lN (sm W i), nI i, h)) 6 _ (fun i hi K => ?_) (fun K => ?_) 1000 (by decide)
  · simp [b_X5_sum_4, le6 hi, mj_gR, mj_gV, hr, aJ_r hw hi (by decide), e i hi, lN_add, sm, n1, nI_add]
  · simp only [b_X5_sum_4, if_pos ge6]
theorem X5_weightOf_s {h : mj_H} {b bw m k : Nat} {x1 x2 x3 x4 x5 x6 : Value} {w : Nat → Int64} (hb : h[b]? = some (cO 0 [.ref bw, x1, x2, x3, x4, x5, x6])) (hw : h[bw]? = some (cJ 36 w)) (hm : m < 6) (hk : k < 6) : f_X0_weightOf b (nI m) (nI k) h = some (w (6 * m + k), h) := by
  have e : nI m * (6 : Int32) + nI k = nI (6 * m + k) := by rw [n6, pk_mul, nI_add, Nat.mul_comm]
  have h1 : ¬ nI (6 * m + k) < 0 := nI_pos (by omega)
  have h2 : ¬ nI 36 ≤ nI (6 * m + k) := nI_ge (by omega) (by decide)
  simp [f_X0_weightOf, e, h1, mj_gR, mj_gV, hb, aL_J hw, h2, aJ_r hw (show 6 * m + k < 36 by omega) (by decide)]
theorem X5_load_s {h : mj_H} {r rw_ b bw m : Nat} {x1 x2 x3 x4 x5 x6 : Value} {w g : Nat → Int64} (hr : h[r]? = some (cO 5 [.ref rw_])) (hg : h[rw_]? = some (cJ 6 g)) (hb : h[b]? = some (cO 0 [.ref bw, x1, x2, x3, x4, x5, x6])) (hw : h[bw]? = some (cJ 36 w)) (d1 : rw_ ≠ r) (d2 : rw_ ≠ b) (d3 : rw_ ≠ bw) (hm : m < 6) : f_X5_load r b (nI m) h = some (h.set rw_ (cJ 6 (fill (fun k => w (6 * m + k)) g 6))) := by
  unfold f_X5_load f_X5_load_2
  have hst : h = h.set rw_ (cJ 6 (fill (fun k => w (6 * m + k)) g 0)) := by
    rw [fill_0]; exact (set_same hg).symm
  have h0 : (r, b, nI m, (0 : Int32), h) = (fun i => (r, b, nI m, nI i, h.set rw_ (cJ 6 (fill (fun k => w (6 * m + k)) g i)))) 0 := by
    simp only [← hst]; rfl
  rw [h0]
  refine fix_iter (st := fun i => (r, b, nI m, nI i, h.set rw_ (cJ 6 (fill (fun k => w (6 * m + k)) g i)))) 6 _ (fun i hi K => ?_) (fun K => ?_) 1000 (by decide)
  · have g1 := get_set (c := cJ 6 (fill (fun k => w (6 * m + k)) g i)) hr d1
    have g2 := get_set (c := cJ 6 (fill (fun k => w (6 * m + k)) g i)) hb d2
    have g3 := get_set (c := cJ 6 (fill (fun k => w (6 * m + k)) g i)) hw d3
    have g4 := get_self (c := cJ 6 (fill (fun k => w (6 * m + k)) g i)) hg
    simp [b_X5_load_2, le6 hi, mj_gR, mj_gV, g1, mj_ob, g2, X5_weightOf_s g2 g3 hm hi, uJ_r _ g4 hi (by decide), n1, nI_add, fill_J (fun k => w (6 * m + k)) g i]
  · simp [b_X5_load_2, ge6]
