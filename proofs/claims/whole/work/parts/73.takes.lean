/-! PURE: the model's tokens -/
def lv (c : Nat → Nat) : Nat → Nat
  | 0 => 0
  | i + 1 => lv c i * 256 + c i
theorem dg2 {a b a' b' : Nat} (hb : b < 256) (hb' : b' < 256) (h : a * 256 + b = a' * 256 + b') : a = a' ∧ b = b' := by omega
theorem lv_inj {c x : Nat → Nat} : ∀ n, (∀ k, k < n → c k < 256 ∧ x k < 256) → lv c n = lv x n → ∀ k, k < n → c k = x k
  | 0, _, _, k, hk => absurd hk (Nat.not_lt_zero k)
  | n + 1, hb, h, k, hk => by
    have h1 := hb n (by omega)
    have h2 := dg2 h1.1 h1.2 h
    by_cases q : k = n
    · rw [q]; exact h2.2
    · exact lv_inj n (fun j hj => hb j (by omega)) h2.1 k (by omega)
theorem lv_0 {c : Nat → Nat} {L : Nat} (hL : L ≤ 7) (hb : ∀ k, k < L → 97 ≤ c k ∧ c k ≤ 122) : lv c L = 120351215609202 ↔ (6 = L ∧ c 0 = 109 ∧ c 1 = 117 ∧ c 2 = 115 ∧ c 3 = 116 ∧ c 4 = 101 ∧ c 5 = 114) := by
  have : L = 0 ∨ L = 1 ∨ L = 2 ∨ L = 3 ∨ L = 4 ∨ L = 5 ∨ L = 6 ∨ L = 7 := by omega
  rcases this with rfl | rfl | rfl | rfl | rfl | rfl | rfl | rfl
  · simp only [lv]; omega
  · have a0 := hb 0 (by omega)
    simp only [lv]; omega
  · have a0 := hb 0 (by omega)
    have a1 := hb 1 (by omega)
    simp only [lv]; omega
  · have a0 := hb 0 (by omega)
    have a1 := hb 1 (by omega)
    have a2 := hb 2 (by omega)
    simp only [lv]; omega
  · have a0 := hb 0 (by omega)
    have a1 := hb 1 (by omega)
    have a2 := hb 2 (by omega)
    have a3 := hb 3 (by omega)
    simp only [lv]; omega
  · have a0 := hb 0 (by omega)
    have a1 := hb 1 (by omega)
    have a2 := hb 2 (by omega)
    have a3 := hb 3 (by omega)
    have a4 := hb 4 (by omega)
    simp only [lv]; omega
  · have a0 := hb 0 (by omega)
    have a1 := hb 1 (by omega)
    have a2 := hb 2 (by omega)
    have a3 := hb 3 (by omega)
    have a4 := hb 4 (by omega)
    have a5 := hb 5 (by omega)
    constructor
    · intro h
      have z := lv_inj (x := fun k => ([109, 117, 115, 116, 101, 114] : List Nat).getD k 0) 6 (fun k hk => ⟨by have := hb k hk; omega, (by decide : ∀ k, k < 6 → ([109, 117, 115, 116, 101, 114] : List Nat).getD k 0 < 256) k hk⟩) (h.trans (by decide))
      exact ⟨rfl, z 0 (by decide), z 1 (by decide), z 2 (by decide), z 3 (by decide), z 4 (by decide), z 5 (by decide)⟩
    · rintro ⟨-, h0, h1, h2, h3, h4, h5⟩
      simp only [lv]; omega
  · have a0 := hb 0 (by omega)
    have a1 := hb 1 (by omega)
    have a2 := hb 2 (by omega)
    have a3 := hb 3 (by omega)
    have a4 := hb 4 (by omega)
    have a5 := hb 5 (by omega)
    have a6 := hb 6 (by omega)
    simp only [lv]; omega
theorem lv_1 {c : Nat → Nat} {L : Nat} (hL : L ≤ 7) (hb : ∀ k, k < L → 97 ≤ c k ∧ c k ≤ 122) : lv c L = 7168366 ↔ (3 = L ∧ c 0 = 109 ∧ c 1 = 97 ∧ c 2 = 110) := by
  have : L = 0 ∨ L = 1 ∨ L = 2 ∨ L = 3 ∨ 4 ≤ L := by omega
  have big : ∀ n, n ≤ 7 → 4 ≤ n → (∀ k, k < n → 97 ≤ c k ∧ c k ≤ 122) → 97 * 16777216 ≤ lv c n := by
    intro n
    induction n with
    | zero => intro _ h; omega
    | succ n ih =>
      intro h1 h2 h3
      by_cases q : 4 ≤ n
      · have := ih (by omega) q (fun k hk => h3 k (by omega))
        rw [lv]; omega
      · have : n = 3 := by omega
        subst this
        have a0 := h3 0 (by omega)
        simp only [lv]; omega
  rcases this with rfl | rfl | rfl | rfl | h
  · simp only [lv]; omega
  · have a0 := hb 0 (by omega)
    simp only [lv]; omega
  · have a0 := hb 0 (by omega)
    have a1 := hb 1 (by omega)
    simp only [lv]; omega
  · have a0 := hb 0 (by omega)
    have a1 := hb 1 (by omega)
    have a2 := hb 2 (by omega)
    constructor
    · intro h
      have z := lv_inj (x := fun k => ([109, 97, 110] : List Nat).getD k 0) 3 (fun k hk => ⟨by have := hb k hk; omega, (by decide : ∀ k, k < 3 → ([109, 97, 110] : List Nat).getD k 0 < 256) k hk⟩) (h.trans (by decide))
      exact ⟨rfl, z 0 (by decide), z 1 (by decide), z 2 (by decide)⟩
    · rintro ⟨-, h0, h1, h2⟩
      simp only [lv]; omega
  · have := big L hL h hb
    omega
theorem lv_4 {c : Nat → Nat} {L : Nat} (hL : L ≤ 7) (hb : ∀ k, k < L → 97 ≤ c k ∧ c k ≤ 122) (V x0 x1 x2 x3 : Nat) (hV : V = ((x0 * 256 + x1) * 256 + x2) * 256 + x3) (hx : 97 ≤ x0 ∧ x0 ≤ 122 ∧ 97 ≤ x1 ∧ x1 ≤ 122 ∧ 97 ≤ x2 ∧ x2 ≤ 122 ∧ 97 ≤ x3 ∧ x3 ≤ 122) : lv c L = V ↔ (4 = L ∧ c 0 = x0 ∧ c 1 = x1 ∧ c 2 = x2 ∧ c 3 = x3) := by
  have : L = 0 ∨ L = 1 ∨ L = 2 ∨ L = 3 ∨ L = 4 ∨ 5 ≤ L := by omega
  have big : ∀ n, n ≤ 7 → 5 ≤ n → (∀ k, k < n → 97 ≤ c k ∧ c k ≤ 122) → 97 * 4294967296 ≤ lv c n := by
    intro n
    induction n with
    | zero => intro _ h; omega
    | succ n ih =>
      intro h1 h2 h3
      by_cases q : 5 ≤ n
      · have := ih (by omega) q (fun k hk => h3 k (by omega))
        rw [lv]; omega
      · have : n = 4 := by omega
        subst this
        have a0 := h3 0 (by omega)
        simp only [lv]; omega
  subst hV
  rcases this with rfl | rfl | rfl | rfl | rfl | h
  · simp only [lv]; omega
  · have a0 := hb 0 (by omega)
    simp only [lv]; omega
  · have a0 := hb 0 (by omega)
    have a1 := hb 1 (by omega)
    simp only [lv]; omega
  · have a0 := hb 0 (by omega)
    have a1 := hb 1 (by omega)
    have a2 := hb 2 (by omega)
    simp only [lv]; omega
  · have a0 := hb 0 (by omega)
    have a1 := hb 1 (by omega)
    have a2 := hb 2 (by omega)
    have a3 := hb 3 (by omega)
    constructor
    · intro h
      have h' : (((0 * 256 + c 0) * 256 + c 1) * 256 + c 2) * 256 + c 3 = ((x0 * 256 + x1) * 256 + x2) * 256 + x3 := h
      obtain ⟨y1, y2⟩ := dg2 (by omega) (by omega) h'
      obtain ⟨y3, y4⟩ := dg2 (by omega) (by omega) y1
      obtain ⟨y5, y6⟩ := dg2 (by omega) (by omega) y3
      exact ⟨rfl, by omega, y6, y4, y2⟩
    · rintro ⟨-, h0, h1, h2, h3⟩
      simp only [lv]; omega
  · have := big L hL h hb
    omega
def ltI (X : (Nat → Int32) × Nat) (s : Nat) : Nat → Int64
  | 0 => 0
  | i + 1 => if i < 7 then ltI X s i * 256 + lN (chr X (s + i)) else -1
theorem ltI_n {X : (Nat → Int32) × Nat} {s : Nat} : ∀ {i : Nat}, i ≤ 7 → ltI X s i = lN (lv (fun k => chr X (s + k)) i)
  | 0, _ => rfl
  | i + 1, h => by
    rw [ltI, if_pos (by omega), ltI_n (by omega), show (256 : Int64) = lN 256 from rfl, lN_mul, lN_add]
    rfl
theorem ltI_m {X : (Nat → Int32) × Nat} {s : Nat} {i : Nat} (h : 8 ≤ i) : ltI X s i = -1 := by
  match i, h with
  | i + 1, h => rw [ltI, if_neg (by omega)]
theorem lv_bd {c : Nat → Nat} : ∀ n, n ≤ 7 → (∀ k, k < n → c k ≤ 122) → lv c n < 256 ^ n
  | 0, _, _ => by show 0 < 256 ^ 0; decide
  | n + 1, h, hb => by
    have := lv_bd n (by omega) (fun k hk => hb k (by omega))
    have := hb n (by omega)
    rw [lv, Nat.pow_succ]; omega
theorem cL_b {X : (Nat → Int32) × Nat} {j : Nat} (h : cL X j = true) : 97 ≤ chr X j ∧ chr X j ≤ 122 := by
  unfold cL at h; simp only [Bool.and_eq_true, decide_eq_true_eq] at h; exact h.2
theorem m1_no {n : Nat} (h : n < 2 ^ 63) : ¬ (-1 : Int64) = lN n := fun z => by
  have h1 : (-1 : Int64).toInt = (lN n).toInt := by rw [z]
  rw [pk_lT h, show (-1 : Int64).toInt = -1 from rfl] at h1; omega
theorem spl_iff {X : (Nat → Int32) × Nat} {s L V : Nat} (hb : ∀ k, k < L → 97 ≤ chr X (s + k) ∧ chr X (s + k) ≤ 122) (hV : V < 2 ^ 62) (w : Nat) (hl : (kwL w).length ≤ 7) (h : L ≤ 7 → (lv (fun k => chr X (s + k)) L = V ↔ ((kwL w).length = L ∧ mt X s w (kwL w).length = true))) : ltI X s L = lN V ↔ spl X s (s + L) w = true := by
  have es : s + L - s = L := by omega
  unfold spl
  rw [es]
  by_cases q : L ≤ 7
  · have hv := lv_bd (c := fun k => chr X (s + k)) L q (fun k hk => (hb k hk).2)
    have hp : 256 ^ L ≤ 256 ^ 7 := Nat.pow_le_pow_right (by decide) q
    have h7 : 256 ^ 7 = 72057594037927936 := by decide
    rw [ltI_n q, leq (by omega) (by omega), h q]
    simp
  · rw [ltI_m (by omega)]
    have z : ¬ (kwL w).length = L := by omega
    constructor
    · intro y; exact absurd y (m1_no (by omega))
    · intro y; simp [z] at y
theorem spl_all {X : (Nat → Int32) × Nat} {s L : Nat} (hb : ∀ k, k < L → 97 ≤ chr X (s + k) ∧ chr X (s + k) ≤ 122) : (ltI X s L = 120351215609202 ↔ spl X s (s + L) 0 = true) ∧ (ltI X s L = 7168366 ↔ spl X s (s + L) 1 = true) ∧ (ltI X s L = 2003792494 ↔ spl X s (s + L) 2 = true) ∧ (ltI X s L = 1885432178 ↔ spl X s (s + L) 3 = true) ∧ (ltI X s L = 2003792484 ↔ spl X s (s + L) 4 = true) := by
  refine ⟨spl_iff hb (V := 120351215609202) (by decide) 0 (by decide) (fun q => ?_), spl_iff hb (V := 7168366) (by decide) 1 (by decide) (fun q => ?_), spl_iff hb (V := 2003792494) (by decide) 2 (by decide) (fun q => ?_), spl_iff hb (V := 1885432178) (by decide) 3 (by decide) (fun q => ?_), spl_iff hb (V := 2003792484) (by decide) 4 (by decide) (fun q => ?_)⟩
  · rw [lv_0 q hb]
    simp [kwL, mt, and_assoc]
  · rw [lv_1 q hb]
    simp [kwL, mt, and_assoc]
  · rw [lv_4 q hb 2003792494 119 111 114 110 (by decide) (by decide)]
    simp [kwL, mt, and_assoc]
  · rw [lv_4 q hb 1885432178 112 97 105 114 (by decide) (by decide)]
    simp [kwL, mt, and_assoc]
  · rw [lv_4 q hb 2003792484 119 111 114 100 (by decide) (by decide)]
    simp [kwL, mt, and_assoc]
def codeOf (w : Nat) : Int32 := if w = 0 then 1 else if w = 1 then 16 else if w = 2 then 22 else if w = 3 then 32 else if w = 4 then 41 else -1
theorem X9_itemOf_s {X : (Nat → Int32) × Nat} (s : Nat) (h : mj_H) : f_X9_itemOf (ltI X s (en X (cL X) s - s)) h = some (codeOf (kwd X s), h) := by
  have hb : ∀ k, k < en X (cL X) s - s → 97 ≤ chr X (s + k) ∧ chr X (s + k) ≤ 122 := fun k hk => cL_b (en_in (X := X) (j := s) (by omega) (by omega))
  have ee : s + (en X (cL X) s - s) = en X (cL X) s := by have := en_ge X (cL X) s; omega
  obtain ⟨a0, a1, a2, a3, a4⟩ := spl_all hb
  rw [ee] at a0 a1 a2 a3 a4
  unfold f_X9_itemOf kwd
  simp only [a0, a1, a2, a3, a4]
  by_cases q0 : spl X s (en X (cL X) s) 0 = true
  · rw [if_pos q0, if_pos q0]; rfl
  · rw [if_neg q0, if_neg q0]
    by_cases q1 : spl X s (en X (cL X) s) 1 = true
    · rw [if_pos q1, if_pos q1]; rfl
    · rw [if_neg q1, if_neg q1]
      by_cases q2 : spl X s (en X (cL X) s) 2 = true
      · rw [if_pos q2, if_pos q2]; rfl
      · rw [if_neg q2, if_neg q2]
        by_cases q3 : spl X s (en X (cL X) s) 3 = true
        · rw [if_pos q3, if_pos q3]; rfl
        · rw [if_neg q3, if_neg q3]
          by_cases q4 : spl X s (en X (cL X) s) 4 = true
          · rw [if_pos q4, if_pos q4]; rfl
          · rw [if_neg q4, if_neg q4]; rfl
/-! takes -/
def MTX (h : mj_H) (X : (Nat → Int32) × Nat) : Prop := ∃ b, h[57]? = some (cI 150 b) ∧ ∀ j, j < X.2 → b j = X.1 j
theorem MTX.set {h : mj_H} {X : (Nat → Int32) × Nat} {c : mj_C} {k : Nat} (t : MTX h X) (hk : k ≠ 57) : MTX (h.set k c) X := by
  obtain ⟨b, t1, t2⟩ := t
  exact ⟨b, get_set t1 hk, t2⟩
theorem MTX.at {h : mj_H} {X : (Nat → Int32) × Nat} (t : MTX h X) (k : TOK X) {j : Nat} (hj : j < X.2) : mj_aI h 57 (nI j) = some (nI (chr X j)) := by
  obtain ⟨b, t1, t2⟩ := t
  have := k.1
  rw [aI_r t1 (show j < 150 by omega) (by decide), t2 j hj]
  have := (bt_in k hj).1
  unfold bt at this
  rw [if_pos hj] at this
  rw [this]
def mkK (X : (Nat → Int32) × Nat) (s : Nat) : Nat := if s < X.2 then (if cL X s = true then 1 else if cF X s = true then (if nok X s = true then 2 else 4) else if cS X s = true then 3 else 4) else 0
def mkE (X : (Nat → Int32) × Nat) (s : Nat) : Nat := if s < X.2 then (if cL X s = true then en X (cL X) s else if cF X s = true then en X (cF X) s else s + 1) else s
def mkV (X : (Nat → Int32) × Nat) (s : Nat) : Nat := if cF X s = true then nval X s else 0
def mkL (X : (Nat → Int32) × Nat) (s : Nat) : Int64 := if cL X s = true then ltI X s (en X (cL X) s - s) else 0
theorem X9_inR (c lo hi : Nat) (h1 : c < 2 ^ 31) (h2 : lo < 2 ^ 31) (h3 : hi < 2 ^ 31) (h : mj_H) : f_X9_in (nI c).toInt64 (lN lo) (lN hi) h = some (bi (decide (lo ≤ c) && decide (c ≤ hi)), h) := by
  have a1 : lN c < lN lo ↔ c < lo := llt (by omega) (by omega)
  have a2 : lN hi < lN c ↔ hi < c := llt (by omega) (by omega)
  rw [lN_toInt64 h1, f_X9_in]
  simp only [a1, a2]
  by_cases q1 : c < lo
  · have : ¬ lo ≤ c := by omega
    simp [q1, this, bi]
  · by_cases q2 : hi < c
    · have : ¬ c ≤ hi := by omega
      simp [q1, q2, this, bi]
    · have h4 : lo ≤ c := by omega
      have h5 : c ≤ hi := by omega
      simp [q1, q2, h4, h5, bi]
theorem X9_357_s {h : mj_H} {n : Nat} {F : Int64 × Int64} {a b v im : Int32} {t : Nat} {l : Int64} {e s : Nat} (o : h[53]? = some (cO 9 (mfs n F (nI e) (nI s) (nI t) v l im))) (ht : t < 10) (hse : s ≤ e) (he : e < 1000) : f_X9_takes_357 53 h = some (h.set 53 (cO 9 (mfs n F (nI e) (nI s) (nI (if t = 2 ∧ 2 < e - s then 4 else t)) v l im))) := by
  have c2 : nI t = (2 : Int32) ↔ t = 2 := nI_eq (by omega) (by decide)
  have c3 : nI e - nI s ≤ (2 : Int32) ↔ e - s ≤ 2 := by rw [pk_sub hse]; exact nle_iff (b := 2) (by omega) (by decide)
  have u := fun x => sV_r (k := 11) (.int x) o (by simp [mfs])
  have g11 := gI_r (k := 11) (x := nI t) o rfl
  have g9 := gI_r (k := 9) (x := nI e) o rfl
  have g10 := gI_r (k := 10) (x := nI s) o rfl
  by_cases q : t = 2
  · by_cases q2 : e - s ≤ 2
    · have z : ¬ (t = 2 ∧ 2 < e - s) := by omega
      rw [if_neg z]
      rw [f_X9_takes_357, bs1 g11, if_pos (c2.mpr q), bs1 g9, bs1 g10, if_pos (c3.mpr q2), f_X9_takes_383, bs1 g11, f_X9_takes_387, bs1 (u _)]
      rfl
    · have z : (t = 2 ∧ 2 < e - s) := by omega
      rw [if_pos z]
      simp only [f_X9_takes_357, g11, bs, c2, q, if_true, g9, g10, c3, q2, if_false, f_X9_takes_387, u]
      rfl
  · have z : ¬ (t = 2 ∧ 2 < e - s) := by omega
    rw [if_neg z]
    simp only [f_X9_takes_357, g11, bs, c2, q, if_false, f_X9_takes_383, f_X9_takes_387, u]
    rfl
