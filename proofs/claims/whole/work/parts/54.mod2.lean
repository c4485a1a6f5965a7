/-! PURE: the model's small functions, copies, tests -/
theorem if_iff {α : Type} {p q : Prop} [Decidable p] [Decidable q] (h : p ↔ q) (a b : α) : (if p then a else b) = if q then a else b := by
  by_cases z : p
  · rw [if_pos z, if_pos (h.mp z)]
  · rw [if_neg z, if_neg (fun y => z (h.mpr y))]
theorem X9_has_s {s m : Nat} (hs : s < 2 ^ 31) (hm : m < 31) (h : mj_H) : f_X9_has (nI s) (nI m) h = some (bi (s.testBit m), h) := by
  have := bit_nI hs hm
  cases q : s.testBit m <;> simp [f_X9_has, this, q, bi]
theorem X9_costOf_s {t : Nat} (ht : t < 3) (h : mj_H) : f_X9_costOf (nI t) h = some (nI (cost t), h) := by
  have : t = 0 ∨ t = 1 ∨ t = 2 := by omega
  rcases this with rfl | rfl | rfl <;> rfl
theorem i64_lt0 (x : Int32) : x.toInt64 < 0 ↔ x < 0 := by
  rw [Int64.lt_iff_toInt_lt, Int32.lt_iff_toInt_lt, Int32.toInt_toInt64]; rfl
theorem i64_lt (x : Int32) {n : Nat} (hn : n < 2 ^ 31) : lN n < x.toInt64 ↔ ¬ x ≤ nI n := by
  rw [← lN_toInt64 hn, Int64.lt_iff_toInt_lt, Int32.le_iff_toInt_le, Int32.toInt_toInt64, Int32.toInt_toInt64]; omega
theorem X9_in_s (x : Int32) {n : Nat} (hn : n < 2 ^ 30) (h : mj_H) : f_X9_in x.toInt64 0 (lN n) h = some (bi (mj_ok x (n + 1)), h) := by
  have k := ok_le (x := x) hn
  by_cases q1 : x < 0
  · have : mj_ok x (n + 1) = false := by cases q : mj_ok x (n + 1); rfl; exact absurd q1 (k.mp q).1
    simp [f_X9_in, i64_lt0, q1, this, bi]
  · by_cases q2 : x ≤ nI n
    · have := k.mpr ⟨q1, q2⟩
      simp [f_X9_in, i64_lt0, q1, i64_lt x (show n < 2 ^ 31 by omega), q2, this, bi]
    · have : mj_ok x (n + 1) = false := by cases q : mj_ok x (n + 1); rfl; exact absurd (k.mp q).2 q2
      simp [f_X9_in, i64_lt0, q1, i64_lt x (show n < 2 ^ 31 by omega), q2, this, bi]
theorem ok_z (x : Int32) : mj_ok x 0 = false := by
  cases q : mj_ok x 0
  · rfl
  · obtain ⟨a, h1, -⟩ := ok_ex q; omega
theorem X9_inc_s (x : Int32) {c : Nat} (hc : c < 2 ^ 30) (h : mj_H) : f_X9_in x.toInt64 0 (nI c - (1 : Int32)).toInt64 h = some (bi (mj_ok x c), h) := by
  rcases Nat.eq_zero_or_pos c with q | q
  · subst q
    have e1 : (nI 0 - (1 : Int32)).toInt64 = -1 := by decide
    rw [e1, ok_z]
    by_cases q1 : x < 0
    · simp [f_X9_in, i64_lt0, q1, bi]
    · have : (-1 : Int64) < x.toInt64 := by
        rw [Int64.lt_iff_toInt_lt, Int32.toInt_toInt64]
        rw [Int32.lt_iff_toInt_lt, Int32.toInt_zero] at q1
        have : (-1 : Int64).toInt = -1 := by decide
        omega
      simp [f_X9_in, i64_lt0, q1, this, bi]
  · have e1 : (nI c - (1 : Int32)).toInt64 = lN (c - 1) := by
      rw [n1, pk_sub q]; exact lN_toInt64 (by omega)
    rw [e1, X9_in_s x (show c - 1 < 2 ^ 30 by omega), Nat.sub_add_cancel q]
theorem X9_isTest_s (x : Int32) (h : mj_H) : f_X9_isTest x h = some (bi (mj_ok x 3), h) := by
  have := X9_in_s x (n := 2) (by decide) h
  rw [show lN 2 = (2 : Int64) from rfl] at this
  simp [f_X9_isTest, this, bi_01]
theorem X9_isTwo_s (x : Int32) (h : mj_H) : f_X9_isTwo x h = some (bi (mj_ok x 2), h) := by
  have := X9_in_s x (n := 1) (by decide) h
  rw [show lN 1 = (1 : Int64) from rfl] at this
  simp [f_X9_isTwo, this, bi_01]
theorem X9_isMan_s {h : mj_H} {f : Nat → Int32} {c : Nat} (g : mj_gR h 53 9 0 = some 54) (hf : h[54]? = some (cI 356 f)) (e : f 0 = nI c) (hc : c ≤ 6) (x : Int32) : f_X9_isMan 53 x h = some (bi (mj_ok x c), h) := by
  have r := aI_r hf (show 0 < 356 by decide) (by decide)
  rw [show nI 0 = (0 : Int32) from rfl, e] at r
  simp [f_X9_isMan, g, r, X9_inc_s x (show c < 2 ^ 30 by omega), bi_01]
theorem X9_areMen_s {h : mj_H} {f : Nat → Int32} {c : Nat} (g : mj_gR h 53 9 0 = some 54) (hf : h[54]? = some (cI 356 f)) (e : f 0 = nI c) (hc : c ≤ 6) (x : Int32) : f_X9_areMen 53 x h = some (bi (mj_ok x (2 ^ c)), h) := by
  have r := aI_r hf (show 0 < 356 by decide) (by decide)
  rw [show nI 0 = (0 : Int32) from rfl, e] at r
  have := pow6 hc
  simp [f_X9_areMen, g, r, shl1 (show c < 31 by omega), X9_inc_s x (show 2 ^ c < 2 ^ 30 by omega), bi_01]
theorem bits_dn : ∀ n, n < 64 → 0 < n → (n &&& (n - 1)) < 64 ∧ popc (n &&& (n - 1)) + 1 = popc n := by decide
theorem popc_0 : ∀ n, n < 64 → (popc n = 0 ↔ n = 0) := by decide
theorem X9_bits_loop (h : mj_H) : ∀ (d n i fu : Nat), n < 64 → popc n = d → d < fu → i + d < 100 → mj_fix (fun (K4 : (Int32 × Int32 × mj_H) → Option (Int32 × mj_H)) (s : Int32 × Int32 × mj_H) => b_X9_bits_4 (fun v1 v2 h => K4 (v1, v2, h)) s.1 s.2.1 s.2.2) fu (nI i, nI n, h) = some (nI (i + d), h)
  | 0, n, i, fu + 1, hn, hp, hf, hi => by
    have := (popc_0 n hn).mp hp
    subst this
    simp [mj_fix, b_X9_bits_4, nI_0]
  | d + 1, n, i, fu + 1, hn, hp, hf, hi => by
    have n0 : 0 < n := by
      rcases Nat.eq_zero_or_pos n with q | q
      · subst q; exact absurd hp (by simp [popc])
      · exact q
    obtain ⟨b1, b2⟩ := bits_dn n hn n0
    have c := nI_ne0 n0 (show n < 2 ^ 31 by omega)
    have e1 : nI n &&& (nI n - (1 : Int32)) = nI (n &&& (n - 1)) := by rw [n1, pk_sub n0, andI]
    have ih := X9_bits_loop h d (n &&& (n - 1)) (i + 1) fu b1 (by omega) (by omega) (by omega)
    rw [show i + 1 + d = i + (d + 1) by omega] at ih
    rw [← ih]
    simp [mj_fix, b_X9_bits_4, c, e1, nI_1]
theorem X9_bits_s {n : Nat} (hn : n < 64) (h : mj_H) : f_X9_bits (nI n) h = some (nI (popc n), h) := by
  have := popc_le n
  have := X9_bits_loop h (popc n) n 0 1000 hn rfl (by omega) (by omega)
  rw [Nat.zero_add] at this
  exact this
theorem X9_copies_s {h : mj_H} {a b n0 n1 s d c : Nat} {f g : Nat → Int32} (ha : h[a]? = some (cI n0 f)) (hb : h[b]? = some (cI n1 g)) (dd : b ≠ a) (h1 : s + c ≤ n0) (h2 : d + c ≤ n1) (l0 : n0 < 2 ^ 30) (l1 : n1 < 2 ^ 30) (hc : c < 1000) : f_X9_copies a (nI s) b (nI d) (nI c) h = some (h.set b (cI n1 (fill2 (fun k => f (s + k)) g d c))) := by
  unfold f_X9_copies f_X9_copies_3
  have h0 : (a, nI s, b, nI d, nI c, (0 : Int32), h) = (fun i => (a, nI s, b, nI d, nI c, nI i, h.set b (cI n1 (fill2 (fun k => f (s + k)) g d i)))) 0 := by
    simp only [fill2_0, set_same hb]; rfl
  rw [h0]
  refine fix_iter (st := fun i => (a, nI s, b, nI d, nI c, nI i, h.set b (cI n1 (fill2 (fun k => f (s + k)) g d i)))) c _ (fun i hi K => ?_) (fun K => ?_) 1000 hc
  · have g1 := get_set (c := cI n1 (fill2 (fun k => f (s + k)) g d i)) ha dd
    have g2 := get_self (c := cI n1 (fill2 (fun k => f (s + k)) g d i)) hb
    have r3 := fill2_I (fun k => f (s + k)) g d i
    have c1 : ¬ nI c ≤ nI i := nI_ge hi (by omega)
    simp [b_X9_copies_3, c1, nI_add, aI_r g1 (show s + i < n0 by omega) (by omega), uI_r _ g2 (show d + i < n1 by omega) (by omega), r3, nI_1]
  · have c1 : nI c ≤ nI c := Int32.le_refl _
    simp [b_X9_copies_3, c1]
theorem X9_copies_self {h : mj_H} {a n s d c : Nat} {f : Nat → Int32} (ha : h[a]? = some (cI n f)) (h1 : s + c ≤ n) (h2 : d + c ≤ n) (dd : s + c ≤ d ∨ d + c ≤ s) (l0 : n < 2 ^ 30) (hc : c < 1000) : f_X9_copies a (nI s) a (nI d) (nI c) h = some (h.set a (cI n (fill2 (fun k => f (s + k)) f d c))) := by
  unfold f_X9_copies f_X9_copies_3
  have h0 : (a, nI s, a, nI d, nI c, (0 : Int32), h) = (fun i => (a, nI s, a, nI d, nI c, nI i, h.set a (cI n (fill2 (fun k => f (s + k)) f d i)))) 0 := by
    simp only [fill2_0, set_same ha]; rfl
  rw [h0]
  refine fix_iter (st := fun i => (a, nI s, a, nI d, nI c, nI i, h.set a (cI n (fill2 (fun k => f (s + k)) f d i)))) c _ (fun i hi K => ?_) (fun K => ?_) 1000 hc
  · have g2 := get_self (c := cI n (fill2 (fun k => f (s + k)) f d i)) ha
    have r1 := aI_r g2 (show s + i < n by omega) (by omega)
    rw [fill2_out (by omega)] at r1
    have r3 := fill2_I (fun k => f (s + k)) f d i
    have c1 : ¬ nI c ≤ nI i := nI_ge hi (by omega)
    simp [b_X9_copies_3, c1, nI_add, r1, uI_r _ g2 (show d + i < n by omega) (by omega), r3, nI_1]
  · have c1 : nI c ≤ nI c := Int32.le_refl _
    simp [b_X9_copies_3, c1]
/-- an array of the model's that tells a muster, the daylight apart -/
def AT (n : Nat) (f : Nat → Int32) (T : Nat → Nat) : Prop := ∀ j, j < n → j ≠ 1 → f j = nI (T j)
theorem AT.w {n : Nat} {f : Nat → Int32} {T : Nat → Nat} (a : AT n f T) (hn : 52 ≤ n) {m : Nat} (hm : m < 6) : ∀ k, k < 6 → f (16 + (6 * m + k)) = nI (tw T m k) := fun k hk => a _ (by omega) (by omega)
theorem X9_trustA {h : mj_H} {a n m : Nat} {f : Nat → Int32} {T : Nat → Nat} (ha : h[a]? = some (cI n f)) (hn : 52 ≤ n) (hn2 : n < 2 ^ 31) (w : WF T) (e : AT n f T) (hm : m < T 0) : f_X9_trustOn a (nI m) h = some (nI (trust T m), h) := by
  have := w.1
  exact X9_trustOn_s ha hn hn2 (by omega) (e.w hn (by omega)) (w.w hm) (sm_pos (w.wp hm))
theorem X9_shareA {h : mj_H} {a n m : Nat} {f : Nat → Int32} {T : Nat → Nat} (ha : h[a]? = some (cI n f)) (hn : 52 ≤ n) (hn2 : n < 2 ^ 31) (w : WF T) (e : AT n f T) (hm : m < T 0) {what : Nat} (hwh : what < 4) (rr : Bool) : f_X9_shareOf a (nI m) (nI what) (bi rr) h = some (nI (share (tw T m) what rr), h) := by
  have := w.1
  exact X9_shareOf_s ha hn hn2 (by omega) (e.w hn (by omega)) (w.w hm) (sm_pos (w.wp hm)) hwh rr
/-- the model's array amid a test -/
def AW (n : Nat) (f f1 : Nat → Int32) (T : Nat → Nat) (m test : Nat) (shown : Bool) (i : Nat) : Prop := (∀ j, (j < 16 ∨ 16 + 6 * T 0 ≤ j) → f1 j = f j) ∧ ∀ x, x < T 0 → ∀ k, k < 6 → f1 (16 + 6 * x + k) = nI ((if x = m ∨ (x < i ∧ brob T m x = true) then weighN (tw T x) test shown (know T x) else tw T x) k)
theorem AW.st {n : Nat} {f f1 f2 : Nat → Int32} {T : Nat → Nat} {m test i : Nat} {shown : Bool} (a : AW n f f1 T m test shown i) (hm : brob T m m = false) (hi : i < T 0) (hb : brob T m i = true) (c : WC f1 f2 (16 + 6 * i) (weighN (tw T i) test shown (know T i))) : AW n f f2 T m test shown (i + 1) := by
  refine ⟨fun j hj => ?_, fun x hx k hk => ?_⟩
  · rw [c.1 j (by omega)]; exact a.1 j hj
  · by_cases q : x = i
    · subst q
      rw [c.2 k hk, if_pos (Or.inr ⟨by omega, hb⟩)]
    · rw [c.1 _ (by omega), a.2 x hx k hk]
      have : (x = m ∨ (x < i + 1 ∧ brob T m x = true)) ↔ (x = m ∨ (x < i ∧ brob T m x = true)) := by
        constructor
        · rintro (z | ⟨z1, z2⟩)
          · exact Or.inl z
          · exact Or.inr ⟨by omega, z2⟩
        · rintro (z | ⟨z1, z2⟩)
          · exact Or.inl z
          · exact Or.inr ⟨by omega, z2⟩
      rw [if_iff this]
theorem AW.sk {n : Nat} {f f1 : Nat → Int32} {T : Nat → Nat} {m test i : Nat} {shown : Bool} (a : AW n f f1 T m test shown i) (hb : brob T m i = false) : AW n f f1 T m test shown (i + 1) := by
  refine ⟨a.1, fun x hx k hk => ?_⟩
  rw [a.2 x hx k hk]
  have : (x = m ∨ (x < i ∧ brob T m x = true)) ↔ (x = m ∨ (x < i + 1 ∧ brob T m x = true)) := by
    constructor
    · rintro (z | ⟨z1, z2⟩)
      · exact Or.inl z
      · exact Or.inr ⟨by omega, z2⟩
    · rintro (z | ⟨z1, z2⟩)
      · exact Or.inl z
      · by_cases q : x = i
        · subst q; rw [hb] at z2; exact absurd z2 (by decide)
        · exact Or.inr ⟨by omega, z2⟩
  rw [if_iff this]
theorem AW.fin {n : Nat} {f f1 : Nat → Int32} {T : Nat → Nat} {m test : Nat} {shown : Bool} (w : WF T) (hm : m < T 0) (a : AW n f f1 T m test shown (T 0)) {x k : Nat} (hx : x < T 0) (hk : k < 6) : f1 (16 + 6 * x + k) = nI (beh T m test shown x k) := by
  rw [a.2 x hx k hk]
  unfold beh
  have : (x = m ∨ (x < T 0 ∧ brob T m x = true)) ↔ (x = m ∨ brob T x m = true) := by
    rw [w.2.2.2.2.2.1 m hm x hx]
    constructor
    · rintro (z | ⟨z1, z2⟩)
      · exact Or.inl z
      · exact Or.inr z2
    · rintro (z | z2)
      · exact Or.inl z
      · exact Or.inr ⟨hx, z2⟩
  rw [if_iff this]
theorem X9_tests_59_s {h : mj_H} {a n : Nat} {f f1 : Nat → Int32} {T : Nat → Nat} {m test : Nat} {shown : Bool} (ha : h[a]? = some (cI n f1)) (hn : 52 ≤ n) (hn2 : n < 2 ^ 31) (w : WF T) (e : AT n f T) (hm : m < T 0) (ht : test < 3) (aw : AW n f f1 T m test shown (T 0)) : ∃ f', f_X9_tests_59 a (nI m) (nI test) (nI (if 0 < m then 2 ^ (m - 1) else 0)) h = some (h.set a (cI n f')) ∧ AT n f' (testT T m test shown) ∧ f' 1 = f 1 - nI (cost test) := by
  have w0 := w.1
  have r0 := aI_r ha (show 0 < n by omega) hn2
  rw [show nI 0 = (0 : Int32) from rfl, aw.1 0 (by omega), e 0 (by omega) (by omega)] at r0
  have r2 := aI_r ha (show 2 < n by omega) hn2
  rw [show nI 2 = (2 : Int32) from rfl, aw.1 2 (by omega), e 2 (by omega) (by omega)] at r2
  have u2 := fun x => uI_r x ha (show 2 < n by omega) hn2
  rw [show nI 2 = (2 : Int32) from rfl] at u2
  have fin : ∀ s3 : Nat, f_X9_tests_94 a (nI test) a (2 : Int32) (nI (T 2)) (nI s3) h = some (h.set a (cI n (upd (upd f1 2 (nI (T 2 ||| s3))) 1 (f 1 - nI (cost test))))) := by
    intro s3
    have g := get_self (c := cI n (upd f1 2 (nI (T 2 ||| s3)))) ha
    have r1 := aI_r g (show 1 < n by omega) hn2
    rw [show upd f1 2 (nI (T 2 ||| s3)) 1 = f1 1 by simp [upd], aw.1 1 (by omega), show nI 1 = (1 : Int32) from rfl] at r1
    have u1 := fun x => uI_r x g (show 1 < n by omega) hn2
    rw [show nI 1 = (1 : Int32) from rfl] at u1
    simp [f_X9_tests_94, orI, u2, r1, X9_costOf_s ht, u1]
  have main : f_X9_tests_59 a (nI m) (nI test) (nI (if 0 < m then 2 ^ (m - 1) else 0)) h = some (h.set a (cI n (upd (upd f1 2 (nI (T 2 ||| (if test = 0 then beside (T 0) m else 0)))) 1 (f 1 - nI (cost test))))) := by
    have s77 : ∀ y : Nat, y = (if m + 1 < T 0 then 2 ^ (m + 1) else 0) → f_X9_tests_77 a (nI test) (nI (if 0 < m then 2 ^ (m - 1) else 0)) (nI y) h = some (h.set a (cI n (upd (upd f1 2 (nI (T 2 ||| (if test = 0 then beside (T 0) m else 0)))) 1 (f 1 - nI (cost test))))) := by
      intro y hy
      by_cases q : test = 0
      · subst q
        simp only [f_X9_tests_77, r2, Option.bind_some, nI_0, if_true, orI, reduceIte]
        rw [show (0 : Int32) = nI 0 from rfl, fin, hy]
        rfl
      · have c := nI_ne0 (show 0 < test by omega) (show test < 2 ^ 31 by omega)
        have := fin 0
        rw [nI_0] at this
        simp only [f_X9_tests_77, r2, Option.bind_some, c, if_false, q]
        exact this
    by_cases q : m + 1 < T 0
    · have c : ¬ nI (T 0) ≤ nI (m + 1) := nI_ge q (by omega)
      have := s77 (2 ^ (m + 1)) (by rw [if_pos q])
      rw [← this]
      simp only [f_X9_tests_59, r0, Option.bind_some, n1, nI_add, c, if_false]
      rw [← n1, shl1 (show m + 1 < 31 by omega)]
    · have c : nI (T 0) ≤ nI (m + 1) := nI_le (by omega) (by omega)
      have := s77 0 (by rw [if_neg q])
      rw [← this]
      simp only [f_X9_tests_59, r0, Option.bind_some, n1, nI_add, c, if_true, nI_0]
  refine ⟨_, main, fun j hj j1 => ?_, by simp [upd]⟩
  by_cases j2 : j = 2
  · subst j2
    simp only [upd, testT]
    by_cases q : test = 0
    · simp [q]
    · simp [q]
  · have : upd (upd f1 2 (nI (T 2 ||| (if test = 0 then beside (T 0) m else 0)))) 1 (f 1 - nI (cost test)) j = f1 j := by simp [upd, j1, j2]
    rw [this]
    by_cases q : 16 ≤ j ∧ j < 16 + 6 * T 0
    · have := aw.fin w hm (x := (j - 16) / 6) (k := (j - 16) % 6) (by omega) (by omega)
      rw [show 16 + 6 * ((j - 16) / 6) + (j - 16) % 6 = j by omega] at this
      rw [this]
      simp only [testT, j1, j2, if_false, if_pos q]
    · rw [aw.1 j (by omega), e j hj j1]
      simp only [testT, j1, j2, if_false, if_neg q]
theorem X9_tests_s {h : mj_H} {a n : Nat} {f : Nat → Int32} {T : Nat → Nat} {m test : Nat} (ha : h[a]? = some (cI n f)) (hn : 52 ≤ n) (hn2 : n < 2 ^ 31) (w : WF T) (e : AT n f T) (hm : m < T 0) (ht : test < 3) (shown : Bool) : ∃ f', f_X9_tests a (nI m) (nI test) (bi shown) h = some (h.set a (cI n f')) ∧ AT n f' (testT T m test shown) ∧ f' 1 = f 1 - nI (cost test) := by
  have w0 := w.1
  have wm := (w.2.2.2.2.1 m hm).2.2
  have t2 := w.t2
  obtain ⟨f0, i1, i2⟩ := X9_weighs_s ha hn hn2 (show m < 6 by omega) (e 2 (by omega) (by omega)) t2 (W := tw T m) (fun k hk => by rw [Nat.add_assoc]; exact e.w hn (by omega) k hk) (w.w hm) ht shown
  have a0 : AW n f f0 T m test shown 0 := by
    refine ⟨fun j hj => i2.1 j (by omega), fun x hx k hk => ?_⟩
    by_cases q : x = m
    · subst q; rw [i2.2 k hk, if_pos (Or.inl rfl)]; rfl
    · rw [i2.1 _ (by omega), if_neg (by omega), Nat.add_assoc]; exact e.w hn (by omega) k hk
  have key := fix_inv (F := fun (K10 : (Nat × Int32 × Int32 × Int32 × Int32 × mj_H) → Option (mj_H)) (s : Nat × Int32 × Int32 × Int32 × Int32 × mj_H) => b_X9_tests_10 (fun v0 v1 v2 v3 v4 h => K10 (v0, v1, v2, v3, v4, h)) s.1 s.2.1 s.2.2.1 s.2.2.2.1 s.2.2.2.2.1 s.2.2.2.2.2)
    (fun i s => ∃ f1, s = (a, nI m, nI test, bi shown, nI i, h.set a (cI n f1)) ∧ AW n f f1 T m test shown i)
    (fun r => ∃ f', r = h.set a (cI n f') ∧ AT n f' (testT T m test shown) ∧ f' 1 = f 1 - nI (cost test)) (T 0) (fun i hi s hs => ?_) (fun s hs => ?_) 1000 (by omega) (a, nI m, nI test, bi shown, nI 0, h.set a (cI n f0)) ⟨f0, rfl, a0⟩
  · obtain ⟨r, k1, f', rfl, k2⟩ := key
    refine ⟨f', ?_, k2⟩
    rw [← k1]
    simp only [f_X9_tests, i1, Option.bind_some]
    rfl
  · obtain ⟨f1, rfl, aw⟩ := hs
    refine Or.inl ?_
    have g := get_self (c := cI n f1) ha
    have r0 := aI_r g (show 0 < n by omega) hn2
    rw [show nI 0 = (0 : Int32) from rfl, aw.1 0 (by omega), e 0 (by omega) (by omega)] at r0
    have r1 := aI_r g (show 10 + m < n by omega) hn2
    rw [aw.1 (10 + m) (by omega), e (10 + m) (by omega) (by omega)] at r1
    have c1 : ¬ nI (T 0) ≤ nI i := nI_ge hi (by omega)
    have hb := w.br hm
    have hh := X9_has_s (s := T (10 + m)) (m := i) (by omega) (by omega) (h.set a (cI n f1))
    by_cases q : brob T m i = true
    · have q' : (T (10 + m)).testBit i = true := q
      obtain ⟨f2, j1, j2⟩ := X9_weighs_s g hn hn2 (show i < 6 by omega) (by rw [aw.1 2 (by omega)]; exact e 2 (by omega) (by omega)) t2 (W := tw T i) (fun k hk => by
        rw [aw.2 i hi k hk, if_neg]
        rintro (z | z)
        · subst z; rw [wm] at q; exact absurd q (by decide)
        · omega) (w.w hi) ht shown
      rw [List.set_set] at j1
      refine ⟨_, ⟨f2, rfl, aw.st wm hi q j2⟩, fun K => ?_⟩
      rw [q'] at hh
      simp only [b_X9_tests_10, r0, Option.bind_some, c1, if_false, show (10 : Int32) = nI 10 from rfl, r1, hh, bi_t, j1, f_X9_tests_40, n1, nI_add]
      rfl
    · have q2 : brob T m i = false := by cases z : brob T m i; rfl; exact absurd z q
      have q' : (T (10 + m)).testBit i = false := q2
      refine ⟨_, ⟨f1, rfl, aw.sk q2⟩, fun K => ?_⟩
      rw [q'] at hh
      simp only [b_X9_tests_10, r0, Option.bind_some, c1, if_false, show (10 : Int32) = nI 10 from rfl, r1, hh, bi_f, f_X9_tests_40, n1, nI_add, if_true]
  · obtain ⟨f1, rfl, aw⟩ := hs
    have g := get_self (c := cI n f1) ha
    have r0 := aI_r g (show 0 < n by omega) hn2
    rw [show nI 0 = (0 : Int32) from rfl, aw.1 0 (by omega), e 0 (by omega) (by omega)] at r0
    obtain ⟨f', j1, j2⟩ := X9_tests_59_s g hn hn2 w e hm ht aw
    rw [List.set_set] at j1
    refine ⟨_, ⟨f', rfl, j2⟩, fun K => ?_⟩
    have c1 : nI (T 0) ≤ nI (T 0) := Int32.le_refl _
    rw [← j1]
    by_cases q : 0 < m
    · have c2 : ¬ nI m ≤ 0 := by
        rw [← nI_0]; exact nI_ge q (by omega)
      simp only [b_X9_tests_10, r0, Option.bind_some, c1, if_true, c2, if_false]
      rw [n1, pk_sub q, ← n1, shl1 (show m - 1 < 31 by omega), if_pos q]
    · have : m = 0 := by omega
      subst this
      have c2 : nI 0 ≤ (0 : Int32) := Int32.le_refl _
      simp only [b_X9_tests_10, r0, Option.bind_some, c1, if_true, c2]
      rfl
