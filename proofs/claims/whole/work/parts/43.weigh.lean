/-! PURE: weigh -/
def wprod (W : Nat → Nat) (test : Nat) (shown word : Bool) : Nat → Nat := fun k => W k * (if shown then cas k test word else 12 - cas k test word)
def wone (P : Nat → Nat) : Nat → Nat := if sm P 6 = 0 then (fun _ => 1) else P
def gc (P : Nat → Nat) : Nat → Nat
  | 0 => 0
  | n + 1 => Nat.gcd (gc P n) (P n)
def wdiv (P : Nat → Nat) : Nat → Nat := fun k => P k / gc P 6
def wh : Nat → (Nat → Nat) → (Nat → Nat)
  | 0, W => W
  | n + 1, W => if mxw W 6 ≤ 999999 then W else wh n (fun k => W k / 2)
def weighN (W : Nat → Nat) (test : Nat) (shown word : Bool) : Nat → Nat := wh 64 (wdiv (wone (wprod W test shown word)))
theorem gc_pos {P : Nat → Nat} : ∀ {n k : Nat}, k < n → 0 < P k → 0 < gc P n
  | n + 1, k, hk, hp => by
    rcases Nat.lt_or_ge k n with q | q
    · exact Nat.gcd_pos_of_pos_left _ (gc_pos q hp)
    · have : k = n := by omega
      subst this
      exact Nat.gcd_pos_of_pos_right _ hp
theorem gc_dvd {P : Nat → Nat} : ∀ {n k : Nat}, k < n → gc P n ∣ P k
  | n + 1, k, hk => by
    rcases Nat.lt_or_ge k n with q | q
    · exact Nat.dvd_trans (Nat.gcd_dvd_left _ _) (gc_dvd q)
    · have : k = n := by omega
      subst this
      exact Nat.gcd_dvd_right _ _
theorem gc_le {P : Nat → Nat} {B : Nat} (hB : ∀ k, k < 6 → P k ≤ B) : ∀ {n : Nat}, n ≤ 6 → gc P n ≤ B
  | 0, _ => Nat.zero_le _
  | n + 1, hn => by
    rcases Nat.eq_zero_or_pos (P n) with q | q
    · rw [gc, q, Nat.gcd_zero_right]; exact gc_le hB (by omega)
    · exact Nat.le_trans (Nat.le_of_dvd q (Nat.gcd_dvd_right _ _)) (hB n (by omega))
theorem gc_zero {P : Nat → Nat} : ∀ {n : Nat}, (∀ k, k < n → P k = 0) → gc P n = 0
  | 0, _ => rfl
  | n + 1, h => by rw [gc, gc_zero (fun k hk => h k (by omega)), h n (by omega), Nat.gcd_self]
theorem wone_pos (P : Nat → Nat) : ∃ k, k < 6 ∧ 0 < wone P k := by
  by_cases h : sm P 6 = 0
  · exact ⟨0, by decide, by simp [wone, h]⟩
  · have : ¬ ∀ k, k < 6 → P k = 0 := fun z => h (sm_zero.mpr z)
    simp only [wone, if_neg h]
    by_cases hh : ∃ k, k < 6 ∧ 0 < P k
    · exact hh
    · exfalso; apply this
      intro k hk
      rcases Nat.eq_zero_or_pos (P k) with q | q
      · exact q
      · exact absurd ⟨k, hk, q⟩ hh
theorem wone_le {P : Nat → Nat} {B : Nat} (hB : ∀ k, k < 6 → P k ≤ B) (h1 : 1 ≤ B) : ∀ k, k < 6 → wone P k ≤ B := by
  intro k hk
  unfold wone
  split
  · exact h1
  · exact hB k hk
theorem wdiv_pos {P : Nat → Nat} (h : ∃ k, k < 6 ∧ 0 < P k) : ∃ k, k < 6 ∧ 0 < wdiv P k := by
  obtain ⟨k, hk, hp⟩ := h
  exact ⟨k, hk, Nat.div_pos (Nat.le_of_dvd hp (gc_dvd hk)) (gc_pos hk hp)⟩
theorem wdiv_le {P : Nat → Nat} {B : Nat} (hB : ∀ k, k < 6 → P k ≤ B) : ∀ k, k < 6 → wdiv P k ≤ B := fun k hk => Nat.le_trans (Nat.div_le_self _ _) (hB k hk)
theorem pos_mxw {W : Nat → Nat} (h : ∃ k, k < 6 ∧ 0 < W k) : 0 < mxw W 6 := by
  obtain ⟨k, hk, hp⟩ := h
  exact Nat.lt_of_lt_of_le hp (le_mxw hk)
theorem mxw_pos {W : Nat → Nat} : ∀ {n : Nat}, 0 < mxw W n → ∃ k, k < n ∧ 0 < W k
  | n + 1, h => by
    rcases Nat.eq_zero_or_pos (W n) with q | q
    · have h2 : 0 < mxw W n := by simp only [mxw] at h; omega
      obtain ⟨k, hk, hp⟩ := mxw_pos h2
      exact ⟨k, by omega, hp⟩
    · exact ⟨n, by omega, q⟩
theorem wh_ok : ∀ (n : Nat) (W : Nat → Nat), mxw W 6 < 999999 * 2 ^ n → 0 < mxw W 6 → mxw (wh n W) 6 ≤ 999999 ∧ 0 < mxw (wh n W) 6
  | 0, W, h, hp => by rw [Nat.pow_zero] at h; exact ⟨by rw [wh]; omega, hp⟩
  | n + 1, W, h, hp => by
    rw [wh]
    by_cases q : mxw W 6 ≤ 999999
    · rw [if_pos q]; exact ⟨q, hp⟩
    · rw [if_neg q]
      apply wh_ok n
      · rw [mxw_half]
        have : 2 ^ (n + 1) = 2 * 2 ^ n := by rw [Nat.pow_succ]; omega
        omega
      · rw [mxw_half]; omega
theorem wprod_le {W : Nat → Nat} {test : Nat} {shown word : Bool} (ht : test < 4) (hB : ∀ k, k < 6 → W k ≤ 999999) : ∀ k, k < 6 → wprod W test shown word k ≤ 12000000 := by
  intro k hk
  have h1 := cas_le k hk test ht word
  have h2 := hB k hk
  have h3 : (if shown then cas k test word else 12 - cas k test word) ≤ 12 := by split <;> omega
  have := Nat.mul_le_mul h2 h3
  unfold wprod
  omega
theorem weighN_ok {W : Nat → Nat} {test : Nat} {shown word : Bool} (ht : test < 4) (hB : ∀ k, k < 6 → W k ≤ 999999) : (∀ k, k < 6 → weighN W test shown word k ≤ 999999) ∧ ∃ k, k < 6 ∧ 0 < weighN W test shown word k := by
  have h1 := wdiv_le (wone_le (wprod_le (shown := shown) (word := word) ht hB) (by decide))
  have h2 := mxw_le (n := 6) h1
  have h3 := wh_ok 64 (wdiv (wone (wprod W test shown word))) (by omega) (pos_mxw (wdiv_pos (wone_pos _)))
  exact ⟨fun k hk => Nat.le_trans (le_mxw hk) h3.1, mxw_pos h3.2⟩
theorem sm_pos {W : Nat → Nat} (h : ∃ k, k < 6 ∧ 0 < W k) : 0 < sm W 6 := by
  obtain ⟨k, hk, hp⟩ := h
  rcases Nat.eq_zero_or_pos (sm W 6) with q | q
  · have := sm_zero.mp q k hk; omega
  · exact q
/-- the row behind: some content that agrees below 6 -/
def RX (h h' : mj_H) (rw_ : Nat) (W : Nat → Nat) : Prop := ∃ w, h' = h.set rw_ (cJ 6 w) ∧ ∀ k, k < 6 → w k = lN (W k)
theorem X5_weigh_124_s {r rw_ : Nat} : ∀ (n i fu : Nat) (h : mj_H) (w : Nat → Int64) (W : Nat → Nat), n + i = 64 → n < fu → h[r]? = some (cO 5 [.ref rw_]) → h[rw_]? = some (cJ 6 w) → rw_ ≠ r → (∀ k, k < 6 → w k = lN (W k)) → (∀ k, k < 6 → W k ≤ 2 ^ 40) → ∃ h', mj_fix (fun (K124 : (Nat × Int32 × mj_H) → Option (mj_H)) (s : Nat × Int32 × mj_H) => b_X5_weigh_124 (fun v0 v6 h => K124 (v0, v6, h)) s.1 s.2.1 s.2.2) fu (r, nI i, h) = some h' ∧ RX h h' rw_ (wh n W)
  | 0, i, fu + 1, h, w, W, hn, hf, hr, hw, dd, e, hB => by
    have : i = 64 := by omega
    subst this
    have c1 : (64 : Int32) ≤ nI 64 := nI_le (Nat.le_refl 64) (by decide)
    exact ⟨h, by simp [mj_fix, b_X5_weigh_124, c1], w, (set_same hw).symm, e⟩
  | n + 1, i, fu + 1, h, w, W, hn, hf, hr, hw, dd, e, hB => by
    have c1 : ¬ (64 : Int32) ≤ nI i := nI_ge (b := 64) (by omega) (by decide)
    have b1 := mxw_le (W := W) (n := 6) hB
    have c2 : (lN (mxw W 6) ≤ lN 999999) ↔ mxw W 6 ≤ 999999 := lle (by omega) (by omega)
    by_cases q : mxw W 6 ≤ 999999
    · refine ⟨h, by simp [mj_fix, b_X5_weigh_124, c1, mj_ob, hr, X5_most_s hr hw e hB, show (999999 : Int64) = lN 999999 from rfl, c2, q], w, (set_same hw).symm, ?_⟩
      rw [wh, if_pos q]; exact e
    · have e2 : ∀ k, k < 6 → fill (fun k => w k / lN 2) w 6 k = lN ((fun k => W k / 2) k) := fun k hk => by
        have := hB k hk
        rw [fill_in hk, e k hk, pk_lDiv (by omega) (by omega) (by omega)]
      obtain ⟨h', h1, w', h2, h3⟩ := X5_weigh_124_s n (i + 1) fu (h.set rw_ (cJ 6 (fill (fun k => w k / lN 2) w 6))) (fill (fun k => w k / lN 2) w 6) (fun k => W k / 2) (by omega) (by omega) (get_set hr dd) (get_self hw) dd e2 (fun k hk => by have := hB k hk; omega)
      have e3 : mj_fix (fun (K124 : (Nat × Int32 × mj_H) → Option (mj_H)) (s : Nat × Int32 × mj_H) => b_X5_weigh_124 (fun v0 v6 h => K124 (v0, v6, h)) s.1 s.2.1 s.2.2) (fu + 1) (r, nI i, h) = mj_fix (fun (K124 : (Nat × Int32 × mj_H) → Option (mj_H)) (s : Nat × Int32 × mj_H) => b_X5_weigh_124 (fun v0 v6 h => K124 (v0, v6, h)) s.1 s.2.1 s.2.2) fu (r, nI (i + 1), h.set rw_ (cJ 6 (fill (fun k => w k / lN 2) w 6))) := by
        simp [mj_fix, b_X5_weigh_124, c1, mj_ob, hr, X5_most_s hr hw e hB, show (999999 : Int64) = lN 999999 from rfl, c2, q, show (2 : Int64) = lN 2 from rfl, X5_cutBy_s hr hw dd (show 0 < 2 by decide) (by decide), n1, nI_add]
      refine ⟨h', e3.trans h1, w', by rw [h2, List.set_set], ?_⟩
      rw [wh, if_neg q]; exact h3
theorem X5_weigh_88_s {r rw_ : Nat} {h : mj_H} {w : Nat → Int64} {P : Nat → Nat} (hr : h[r]? = some (cO 5 [.ref rw_])) (hw : h[rw_]? = some (cJ 6 w)) (dd : rw_ ≠ r) (e : ∀ k, k < 6 → w k = lN (P k)) (hB : ∀ k, k < 6 → P k ≤ 12000000) (hp : ∃ k, k < 6 ∧ 0 < P k) : ∃ h', f_X5_weigh_82 r h = some h' ∧ RX h h' rw_ (wh 64 (wdiv P)) := by
  have hg : 0 < gc P 6 := by obtain ⟨k, hk, hp⟩ := hp; exact gc_pos hk hp
  have hg2 := gc_le hB (Nat.le_refl 6)
  have e2 : ∀ k, k < 6 → fill (fun k => w k / lN (gc P 6)) w 6 k = lN (wdiv P k) := fun k hk => by
    have := hB k hk
    rw [fill_in hk, e k hk, pk_lDiv (by omega) hg (by omega)]; rfl
  obtain ⟨h', h1, w', h2, h3⟩ := X5_weigh_124_s (r := r) (rw_ := rw_) 64 0 1000 (h.set rw_ (cJ 6 (fill (fun k => w k / lN (gc P 6)) w 6))) (fill (fun k => w k / lN (gc P 6)) w 6) (wdiv P) (by omega) (by omega) (get_set hr dd) (get_self hw) dd e2 (fun k hk => by have := wdiv_le hB k hk; omega)
  refine ⟨h', ?_, w', by rw [h2, List.set_set], h3⟩
  rw [← h1]
  unfold f_X5_weigh_82 f_X5_weigh_88
  refine fix_iter (st := fun i => (r, lN (gc P i), nI i, h)) 6 _ (fun i hi K => ?_) (fun K => ?_) 1000 (by decide)
  · have b1 := gc_le hB (n := i) (by omega)
    have b2 := hB i hi
    simp [b_X5_weigh_88, le6 hi, mj_gR, mj_gV, hr, aJ_r hw hi (by decide), e i hi, X8_gc_s h (show gc P i < 2 ^ 62 by omega) (show P i < 2 ^ 40 by omega), gc, n1, nI_add]
  · simp [b_X5_weigh_88, ge6, mj_ob, hr, X5_cutBy_s hr hw dd hg (by omega), f_X5_weigh_124, n0]
theorem X5_weigh_61_s {r rw_ : Nat} {h : mj_H} {w : Nat → Int64} (hr : h[r]? = some (cO 5 [.ref rw_])) (hw : h[rw_]? = some (cJ 6 w)) (dd : rw_ ≠ r) : f_X5_weigh_61 r (0 : Int32) h = f_X5_weigh_82 r (h.set rw_ (cJ 6 (fill (fun _ => 1) w 6))) := by
  unfold f_X5_weigh_61
  have h0 : (r, (0 : Int32), h) = (fun i => (r, nI i, h.set rw_ (cJ 6 (fill (fun _ => 1) w i)))) 0 := by
    simp only [fill_0, set_same hw]; rfl
  rw [h0]
  refine fix_iter (st := fun i => (r, nI i, h.set rw_ (cJ 6 (fill (fun _ => 1) w i)))) 6 _ (fun i hi K => ?_) (fun K => ?_) 1000 (by decide)
  · have g1 := get_set (c := cJ 6 (fill (fun _ => 1) w i)) hr dd
    have g4 := get_self (c := cJ 6 (fill (fun _ => 1) w i)) hw
    simp [b_X5_weigh_61, le6 hi, mj_gR, mj_gV, g1, uJ_r _ g4 hi (by decide), n1, nI_add, fill_J (fun _ => 1) w i]
  · simp [b_X5_weigh_61, ge6]
theorem X5_weigh_s {r rw_ : Nat} {h : mj_H} {w : Nat → Int64} {W : Nat → Nat} (hr : h[r]? = some (cO 5 [.ref rw_])) (hw : h[rw_]? = some (cJ 6 w)) (dd : rw_ ≠ r) (e : ∀ k, k < 6 → w k = lN (W k)) (hB : ∀ k, k < 6 → W k ≤ 999999) {test : Nat} (ht : test < 3) (shown word : Bool) : ∃ h', f_X5_weigh r (nI test) (bi shown) (bi word) h = some h' ∧ RX h h' rw_ (weighN W test shown word) := by
  have eP : ∀ k, k < 6 → fill (fun k => lN (wprod W test shown word k)) w 6 k = lN (wprod W test shown word k) := fun k hk => fill_in hk
  have hPB := wprod_le (shown := shown) (word := word) (show test < 4 by omega) hB
  have gr := get_set (c := cJ 6 (fill (fun k => lN (wprod W test shown word k)) w 6)) hr dd
  have gw := get_self (c := cJ 6 (fill (fun k => lN (wprod W test shown word k)) w 6)) hw
  have main : ∀ X, (f_X5_isEmpty r (h.set rw_ (cJ 6 (fill (fun k => lN (wprod W test shown word k)) w 6)))).bind (fun p10 => if p10.1 = 0 then f_X5_weigh_82 r p10.2 else f_X5_weigh_61 r (0 : Int32) p10.2) = X → f_X5_weigh r (nI test) (bi shown) (bi word) h = X := by
    intro X hX
    unfold f_X5_weigh f_X5_weigh_3
    have h0 : (r, nI test, bi shown, bi word, (0 : Int32), h) = (fun i => (r, nI test, bi shown, bi word, nI i, h.set rw_ (cJ 6 (fill (fun k => lN (wprod W test shown word k)) w i)))) 0 := by
      simp only [fill_0, set_same hw]; rfl
    rw [h0]
    refine fix_iter (st := fun i => (r, nI test, bi shown, bi word, nI i, h.set rw_ (cJ 6 (fill (fun k => lN (wprod W test shown word k)) w i)))) 6 _ (fun i hi K => ?_) (fun K => ?_) 1000 (by decide)
    · have g1 := get_set (c := cJ 6 (fill (fun k => lN (wprod W test shown word k)) w i)) hr dd
      have g4 := get_self (c := cJ 6 (fill (fun k => lN (wprod W test shown word k)) w i)) hw
      have e1 := X8_casesOf_s i hi test (by omega) word (h.set rw_ (cJ 6 (fill (fun k => lN (wprod W test shown word k)) w i)))
      have e2 := cas_le i hi test (by omega) word
      have e3 : (nI (cas i test word)).toInt64 = lN (cas i test word) := lN_toInt64 (by omega)
      have e4 : ((12 : Int32) - nI (cas i test word)).toInt64 = lN (12 - cas i test word) := by
        rw [show (12 : Int32) = nI 12 from rfl, pk_sub e2]; exact lN_toInt64 (by omega)
      have e5 := fill_J (fun k => lN (wprod W test shown word k)) w i
      cases shown
      · simp only [wprod, Bool.false_eq_true, if_false] at *
        simp [b_X5_weigh_3, f_X5_weigh_43, le6 hi, e1, mj_gR, mj_gV, g1, aJ_r g4 hi (by decide), fill_out (Nat.le_refl i), e i hi, bi_f, e4, lN_mul, uJ_r _ g4 hi (by decide), e5, n1, nI_add]
      · simp only [wprod, if_true] at *
        simp [b_X5_weigh_3, f_X5_weigh_43, le6 hi, e1, mj_gR, mj_gV, g1, aJ_r g4 hi (by decide), fill_out (Nat.le_refl i), e i hi, bi_t, show ¬ nI 1 = 0 from nI_ne0 (by decide) (by decide), e3, lN_mul, uJ_r _ g4 hi (by decide), e5, n1, nI_add]
    · rw [← hX]
      simp [b_X5_weigh_3, ge6, mj_ob, gr]
  have hE := X5_isEmpty_s gr gw eP (fun k hk => by have := hPB k hk; omega)
  by_cases q : sm (wprod W test shown word) 6 = 0
  · obtain ⟨h', h1, w', h2, h3⟩ := X5_weigh_88_s (h := (h.set rw_ (cJ 6 (fill (fun k => lN (wprod W test shown word k)) w 6))).set rw_ (cJ 6 (fill (fun _ => 1) (fill (fun k => lN (wprod W test shown word k)) w 6) 6))) (P := wone (wprod W test shown word)) (get_set gr dd) (get_self gw) dd (fun k hk => by rw [fill_in hk]; simp [wone, q]; rfl) (wone_le hPB (by decide)) (wone_pos _)
    refine ⟨h', main _ ?_, w', by rw [h2, List.set_set, List.set_set], h3⟩
    rw [hE, Option.bind_some]
    simp only [q, decide_true, bi]
    rw [if_neg (by decide), X5_weigh_61_s gr gw dd]
    exact h1
  · obtain ⟨h', h1, w', h2, h3⟩ := X5_weigh_88_s (P := wone (wprod W test shown word)) gr gw dd (fun k hk => by rw [fill_in hk]; simp [wone, q]) (wone_le hPB (by decide)) (wone_pos _)
    refine ⟨h', main _ ?_, w', by rw [h2, List.set_set], h3⟩
    rw [hE, Option.bind_some]
    simp only [q, decide_false, bi]
    exact h1
