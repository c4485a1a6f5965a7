/-! PURE: cells, loops, numbers -/
abbrev cI (n : Nat) (f : Nat → Int32) : mj_C := .inl (0, n, .inl f)
abbrev cZ (n : Nat) (f : Nat → Int32) : mj_C := .inl (2, n, .inl f)
abbrev cJ (n : Nat) (f : Nat → Int64) : mj_C := .inl (1, n, .inr (.inl f))
abbrev cO (c : Nat) (fs : List Value) : mj_C := .inr (c, fs)
def bi (b : Bool) : Int32 := if b then 1 else 0
theorem bi_t : bi true = 1 := rfl
theorem bi_f : bi false = 0 := rfl
theorem bi_0 (b : Bool) : (bi b = 0) ↔ b = false := by cases b <;> simp [bi]
theorem bi_01 (b : Bool) : bi b = 0 ∨ bi b = 1 := by cases b <;> simp [bi]
/-- a counting loop -/
theorem fix_iter {S R : Type} {F : (S → Option R) → S → Option R} (st : Nat → S) (N : Nat) (r : Option R) (hs : ∀ i, i < N → ∀ K, F K (st i) = K (st (i + 1))) (he : ∀ K, F K (st N) = r) (n : Nat) (hn : N < n) : mj_fix F n (st 0) = r := by
  have key : ∀ (d j n : Nat), j + d = N → d < n → mj_fix F n (st j) = r := by
    intro d
    induction d with
    | zero =>
      intro j n hj hn
      match n, hn with
      | n + 1, _ =>
        have : j = N := by omega
        subst this
        exact he _
    | succ d ih =>
      intro j n hj hn
      match n, hn with
      | n + 1, hn =>
        show F (mj_fix F n) (st j) = r
        rw [hs j (by omega)]
        exact ih (j + 1) n (by omega) (by omega)
  exact key N 0 n (by omega) hn
/-- a loop with an invariant -/
theorem fix_inv {S R : Type} {F : (S → Option R) → S → Option R} (Inv : Nat → S → Prop) (Post : R → Prop) (N : Nat) (hs : ∀ i, i < N → ∀ s, Inv i s → (∃ s', Inv (i + 1) s' ∧ ∀ K, F K s = K s') ∨ ∃ r, Post r ∧ ∀ K, F K s = some r) (he : ∀ s, Inv N s → ∃ r, Post r ∧ ∀ K, F K s = some r) (n : Nat) (hn : N < n) (s : S) (h0 : Inv 0 s) : ∃ r, mj_fix F n s = some r ∧ Post r := by
  have key : ∀ (d j n : Nat) (s : S), j + d = N → d < n → Inv j s → ∃ r, mj_fix F n s = some r ∧ Post r := by
    intro d
    induction d with
    | zero =>
      intro j n s hj hn hi
      match n, hn with
      | n + 1, _ =>
        have : j = N := by omega
        subst this
        obtain ⟨r, h1, h2⟩ := he s hi
        exact ⟨r, h2 _, h1⟩
    | succ d ih =>
      intro j n s hj hn hi
      match n, hn with
      | n + 1, hn =>
        rcases hs j (by omega) s hi with ⟨s', h1, h2⟩ | ⟨r, h1, h2⟩
        · obtain ⟨r, h3, h4⟩ := ih (j + 1) n s' (by omega) (by omega) h1
          exact ⟨r, (h2 _).trans h3, h4⟩
        · exact ⟨r, h2 _, h1⟩
  exact key N 0 n s (by omega) hn h0
/-- a loop with an invariant, inside another -/
theorem fix_in {S R : Type} {F : (S → Option R) → S → Option R} (Inv : Nat → S → Prop) (N : Nat) (hs : ∀ i, i < N → ∀ s, Inv i s → ∃ s', Inv (i + 1) s' ∧ ∀ K, F K s = K s') (n : Nat) (hn : N < n) (s : S) (h0 : Inv 0 s) : ∃ s' k, Inv N s' ∧ 0 < k ∧ mj_fix F n s = mj_fix F k s' := by
  have key : ∀ (d j n : Nat) (s : S), j + d = N → d < n → Inv j s → ∃ s' k, Inv N s' ∧ 0 < k ∧ mj_fix F n s = mj_fix F k s' := by
    intro d
    induction d with
    | zero =>
      intro j n s hj hn hi
      have : j = N := by omega
      subst this
      exact ⟨s, n, hi, by omega, rfl⟩
    | succ d ih =>
      intro j n s hj hn hi
      match n, hn with
      | n + 1, hn =>
        obtain ⟨s', h1, h2⟩ := hs j (by omega) s hi
        obtain ⟨s2, k, h3, h4, h5⟩ := ih (j + 1) n s' (by omega) (by omega) h1
        exact ⟨s2, k, h3, h4, (h2 _).trans h5⟩
  exact key N 0 n s (by omega) hn h0
theorem fix_pos {S R : Type} {F : (S → Option R) → S → Option R} {n : Nat} (hn : 0 < n) (s : S) : ∃ K, mj_fix F n s = F K s := by
  match n, hn with
  | n + 1, _ => exact ⟨_, rfl⟩
/-! numbers -/
theorem ok_nI {a n : Nat} (ha : a < 2 ^ 31) : mj_ok (nI a) n = decide (a < n) := by
  simp [mj_ok, nI_toInt ha]
theorem ok_ex {x : Int32} {n : Nat} (h : mj_ok x n = true) : ∃ a, a < n ∧ a < 2 ^ 31 ∧ x = nI a := by
  simp only [mj_ok, Bool.and_eq_true, decide_eq_true_eq] at h
  have h2 : x.toInt < 2 ^ 31 := x.toInt_lt
  refine ⟨x.toInt.toNat, by omega, by omega, ?_⟩
  apply Int32.toInt_inj.mp
  rw [nI_toInt (by omega)]
  omega
theorem ok_lt0 {x : Int32} {n : Nat} (h : mj_ok x n = true) : ¬ x < 0 := fun q => by
  simp only [mj_ok, Bool.and_eq_true, decide_eq_true_eq] at h
  have := Int32.lt_iff_toInt_lt.mp q
  rw [Int32.toInt_zero] at this
  omega
theorem ok_iff {x : Int32} {n : Nat} (hn : n < 2 ^ 31) : mj_ok x n = true ↔ (¬ x < 0 ∧ ¬ nI n ≤ x) := by
  simp only [mj_ok, Bool.and_eq_true, decide_eq_true_eq, Int32.lt_iff_toInt_lt, Int32.le_iff_toInt_le, nI_toInt hn, Int32.toInt_zero]
  omega
theorem n6 : (6 : Int32) = nI 6 := rfl
theorem n1 : (1 : Int32) = nI 1 := rfl
theorem n0 : (0 : Int32) = nI 0 := rfl
theorem l0 : (0 : Int64) = lN 0 := rfl
theorem l1 : (1 : Int64) = lN 1 := rfl
theorem l12 : (12 : Int64) = lN 12 := rfl
theorem l60 : (60 : Int64) = lN 60 := rfl
def fill {α : Type} (f g : Nat → α) (i : Nat) : Nat → α := fun k => if k < i then f k else g k
theorem fill_0 {α : Type} (f g : Nat → α) : fill f g 0 = g := by funext k; simp [fill]
theorem fill_in {α : Type} {f g : Nat → α} {i k : Nat} (h : k < i) : fill f g i k = f k := by simp [fill, h]
theorem fill_out {α : Type} {f g : Nat → α} {i k : Nat} (h : i ≤ k) : fill f g i k = g k := by simp [fill, Nat.not_lt.mpr h]
theorem fill_J (f g : Nat → Int64) (i : Nat) : vp_updL (fill f g i) i (f i) = fill f g (i + 1) := by
  funext k
  simp only [vp_updL, fill]
  by_cases h : k = i
  · subst h; simp
  · simp only [if_neg h]
    by_cases h2 : k < i
    · rw [if_pos h2, if_pos (by omega)]
    · rw [if_neg h2, if_neg (by omega)]
theorem fill_I (f g : Nat → Int32) (i : Nat) : upd (fill f g i) i (f i) = fill f g (i + 1) := by
  funext k
  simp only [upd, fill]
  by_cases h : k = i
  · subst h; simp
  · simp only [if_neg h]
    by_cases h2 : k < i
    · rw [if_pos h2, if_pos (by omega)]
    · rw [if_neg h2, if_neg (by omega)]
theorem aJ_r {h : mj_H} {b n a : Nat} {f : Nat → Int64} (hb : h[b]? = some (cJ n f)) (ha : a < n) (hn : n < 2 ^ 31) : mj_aJ h b (nI a) = some (f a) := by
  simp [mj_aJ, hb, ok_nI (show a < 2 ^ 31 by omega), ha, nI_clamp (show a < 2 ^ 31 by omega)]
theorem aI_r {h : mj_H} {b n a : Nat} {f : Nat → Int32} (hb : h[b]? = some (cI n f)) (ha : a < n) (hn : n < 2 ^ 31) : mj_aI h b (nI a) = some (f a) := by
  simp [mj_aI, hb, ok_nI (show a < 2 ^ 31 by omega), ha, nI_clamp (show a < 2 ^ 31 by omega)]
theorem uJ_r {h : mj_H} {b n a : Nat} {f : Nat → Int64} (x : Int64) (hb : h[b]? = some (cJ n f)) (ha : a < n) (hn : n < 2 ^ 31) : mj_uJ h b (nI a) x = some (h.set b (cJ n (vp_updL f a x))) := by
  simp [mj_uJ, hb, ok_nI (show a < 2 ^ 31 by omega), ha, nI_clamp (show a < 2 ^ 31 by omega)]
theorem uI_r {h : mj_H} {b n a : Nat} {f : Nat → Int32} (x : Int32) (hb : h[b]? = some (cI n f)) (ha : a < n) (hn : n < 2 ^ 31) : mj_uI h b (nI a) x = some (h.set b (cI n (upd f a x))) := by
  simp [mj_uI, hb, ok_nI (show a < 2 ^ 31 by omega), ha, nI_clamp (show a < 2 ^ 31 by omega)]
theorem aL_J {h : mj_H} {b n : Nat} {f : Nat → Int64} (hb : h[b]? = some (cJ n f)) : mj_aL h b = some (nI n) := by simp [mj_aL, hb, nI]
theorem aL_I {h : mj_H} {b n : Nat} {f : Nat → Int32} (hb : h[b]? = some (cI n f)) : mj_aL h b = some (nI n) := by simp [mj_aL, hb, nI]
theorem gR_r {h : mj_H} {b c k q : Nat} {fs : List Value} (hb : h[b]? = some (cO c fs)) (hk : fs[k]? = some (.ref q)) : mj_gR h b c k = some q := by simp [mj_gR, mj_gV, hb, hk]
theorem gI_r {h : mj_H} {b c k : Nat} {x : Int32} {fs : List Value} (hb : h[b]? = some (cO c fs)) (hk : fs[k]? = some (.int x)) : mj_gI h b c k = some x := by simp [mj_gI, mj_gV, hb, hk]
theorem gJ_r {h : mj_H} {b c k : Nat} {x : Int64} {fs : List Value} (hb : h[b]? = some (cO c fs)) (hk : fs[k]? = some (.long x)) : mj_gJ h b c k = some x := by simp [mj_gJ, mj_gV, hb, hk]
theorem ob_r {h : mj_H} {b c : Nat} {fs : List Value} (hb : h[b]? = some (cO c fs)) : mj_ob h b c = true := by simp [mj_ob, hb]
theorem sV_r {h : mj_H} {b c k : Nat} {fs : List Value} (v : Value) (hb : h[b]? = some (cO c fs)) (hk : k < fs.length) : mj_sV h b c k v = some (h.set b (cO c (fs.set k v))) := by simp [mj_sV, hb, hk]
theorem get_set {h : mj_H} {i j : Nat} {c d : mj_C} (hj : h[j]? = some d) (hij : i ≠ j) : (h.set i c)[j]? = some d := by rw [List.getElem?_set_ne hij]; exact hj
theorem get_self {h : mj_H} {i : Nat} {c d : mj_C} (hi : h[i]? = some d) : (h.set i c)[i]? = some c := by
  rw [List.getElem?_set_self (List.getElem?_eq_some_iff.mp hi).1]
theorem set_same {h : mj_H} {i : Nat} {c : mj_C} (hi : h[i]? = some c) : h.set i c = h := by
  apply List.ext_getElem?
  intro j
  by_cases hj : i = j
  · subst hj; rw [get_self hi, hi]
  · rw [List.getElem?_set_ne hj]
