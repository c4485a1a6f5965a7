/-! PURE: tokens of the text; X4's way of reading them -/
def chr (X : (Nat → Int32) × Nat) (j : Nat) : Nat := tN (X.1 j)
def cB (X : (Nat → Int32) × Nat) (j : Nat) : Bool := decide (j < X.2) && decide (chr X j = 32)
def cL (X : (Nat → Int32) × Nat) (j : Nat) : Bool := decide (j < X.2) && (decide (97 ≤ chr X j) && decide (chr X j ≤ 122))
def cF (X : (Nat → Int32) × Nat) (j : Nat) : Bool := decide (j < X.2) && (decide (48 ≤ chr X j) && decide (chr X j ≤ 57))
def cS (X : (Nat → Int32) × Nat) (j : Nat) : Bool := decide (j < X.2) && decide (chr X j = 59)
/-- how far a run goes from j on -/
def rn (P : Nat → Bool) : Nat → Nat → Nat
  | 0, _ => 0
  | n + 1, j => if P j = true then rn P n (j + 1) + 1 else 0
theorem rn_le (P : Nat → Bool) : ∀ n j, rn P n j ≤ n
  | 0, _ => Nat.le_refl _
  | n + 1, j => by
    have := rn_le P n (j + 1)
    rw [rn]; split <;> omega
theorem rn_in (P : Nat → Bool) : ∀ n j i, i < rn P n j → P (j + i) = true
  | 0, _, i, h => absurd h (Nat.not_lt_zero i)
  | n + 1, j, i, h => by
    rw [rn] at h
    split at h
    · rename_i q
      match i, h with
      | 0, _ => exact q
      | i + 1, h =>
        have := rn_in P n (j + 1) i (by omega)
        rw [show j + 1 + i = j + (i + 1) by omega] at this
        exact this
    · exact absurd h (Nat.not_lt_zero i)
theorem rn_end (P : Nat → Bool) : ∀ n j, rn P n j < n → P (j + rn P n j) = false
  | 0, _, h => absurd h (Nat.not_lt_zero _)
  | n + 1, j, h => by
    by_cases q : P j = true
    · have e : rn P (n + 1) j = rn P n (j + 1) + 1 := by rw [rn, if_pos q]
      rw [e] at h ⊢
      have := rn_end P n (j + 1) (by omega)
      rw [show j + 1 + rn P n (j + 1) = j + (rn P n (j + 1) + 1) by omega] at this
      exact this
    · have e : rn P (n + 1) j = 0 := by rw [rn, if_neg q]
      rw [e, Nat.add_zero]; simpa using q
/-- the end of a run -/
def en (X : (Nat → Int32) × Nat) (P : Nat → Bool) (j : Nat) : Nat := j + rn P (X.2 - j) j
theorem en_ge (X : (Nat → Int32) × Nat) (P : Nat → Bool) (j : Nat) : j ≤ en X P j := Nat.le_add_right _ _
theorem en_le {X : (Nat → Int32) × Nat} {P : Nat → Bool} {j : Nat} (h : j ≤ X.2) : en X P j ≤ X.2 := by
  have := rn_le P (X.2 - j) j
  unfold en; omega
theorem en_in {X : (Nat → Int32) × Nat} {P : Nat → Bool} {j k : Nat} (h1 : j ≤ k) (h2 : k < en X P j) : P k = true := by
  have := rn_in P (X.2 - j) j (k - j) (by unfold en at h2; omega)
  rw [show j + (k - j) = k by omega] at this
  exact this
theorem en_out {X : (Nat → Int32) × Nat} {P : Nat → Bool} (hP : ∀ k, P k = true → k < X.2) {j : Nat} (h : j ≤ X.2) : P (en X P j) = false := by
  by_cases q : rn P (X.2 - j) j < X.2 - j
  · exact rn_end P (X.2 - j) j q
  · have := rn_le P (X.2 - j) j
    have e : en X P j = X.2 := by unfold en; omega
    cases z : P (en X P j)
    · rfl
    · have := hP _ z; omega
theorem en_no {X : (Nat → Int32) × Nat} {P : Nat → Bool} {j : Nat} (h : P j = false) : en X P j = j := by
  unfold en
  match X.2 - j with
  | 0 => rfl
  | n + 1 => rw [rn, if_neg (by rw [h]; decide)]; rfl
theorem en_yes {X : (Nat → Int32) × Nat} {P : Nat → Bool} {j : Nat} (hj : j < X.2) (h : P j = true) : j < en X P j := by
  unfold en
  obtain ⟨n, hn⟩ : ∃ n, X.2 - j = n + 1 := ⟨X.2 - j - 1, by omega⟩
  rw [hn, rn, if_pos h]; omega
theorem cB_lt {X : (Nat → Int32) × Nat} (k : Nat) (h : cB X k = true) : k < X.2 := by
  unfold cB at h; simp only [Bool.and_eq_true, decide_eq_true_eq] at h; exact h.1
theorem cL_lt {X : (Nat → Int32) × Nat} (k : Nat) (h : cL X k = true) : k < X.2 := by
  unfold cL at h; simp only [Bool.and_eq_true, decide_eq_true_eq] at h; exact h.1
theorem cF_lt {X : (Nat → Int32) × Nat} (k : Nat) (h : cF X k = true) : k < X.2 := by
  unfold cF at h; simp only [Bool.and_eq_true, decide_eq_true_eq] at h; exact h.1
def sk (X : (Nat → Int32) × Nat) (p : Nat) : Nat := en X (cB X) p
theorem sk_sk {X : (Nat → Int32) × Nat} {p : Nat} (hp : p ≤ X.2) : sk X (sk X p) = sk X p := en_no (en_out cB_lt hp)
/-- the byte there -/
def bt (X : (Nat → Int32) × Nat) (j : Nat) : Int32 := if j < X.2 then X.1 j else -1
def TOK (X : (Nat → Int32) × Nat) : Prop := X.2 ≤ 150 ∧ ∀ j, j < X.2 → mj_ok (X.1 j) 128 = true
theorem bt_in {X : (Nat → Int32) × Nat} (t : TOK X) {j : Nat} (h : j < X.2) : bt X j = nI (chr X j) ∧ chr X j < 128 := by
  obtain ⟨e, l, -⟩ := ok_c (t.2 j h)
  unfold bt; rw [if_pos h]; exact ⟨e, l⟩
theorem bt_B {X : (Nat → Int32) × Nat} (t : TOK X) (j : Nat) : bt X j = 32 ↔ cB X j = true := by
  unfold cB
  by_cases h : j < X.2
  · obtain ⟨e, l⟩ := bt_in t h
    rw [e, show (32 : Int32) = nI 32 from rfl, nI_eq (by omega) (by decide)]
    simp [h]
  · have : bt X j = -1 := by unfold bt; rw [if_neg h]
    rw [this]; simp [h]
theorem bt_S {X : (Nat → Int32) × Nat} (t : TOK X) (j : Nat) : bt X j = 59 ↔ cS X j = true := by
  unfold cS
  by_cases h : j < X.2
  · obtain ⟨e, l⟩ := bt_in t h
    rw [e, show (59 : Int32) = nI 59 from rfl, nI_eq (by omega) (by decide)]
    simp [h]
  · have : bt X j = -1 := by unfold bt; rw [if_neg h]
    rw [this]; simp [h]
theorem bt_e {X : (Nat → Int32) × Nat} (t : TOK X) (j : Nat) : bt X j = -1 ↔ ¬ j < X.2 := by
  by_cases h : j < X.2
  · obtain ⟨e, l⟩ := bt_in t h
    rw [e]
    have : ¬ nI (chr X j) = -1 := fun z => by
      have h1 : (nI (chr X j)).toInt = (-1 : Int32).toInt := by rw [z]
      rw [nI_toInt (by omega)] at h1
      have : (-1 : Int32).toInt = -1 := by decide
      omega
    simp [h, this]
  · have : bt X j = -1 := by unfold bt; rw [if_neg h]
    simp [h, this]
theorem X4_letter_s {X : (Nat → Int32) × Nat} (t : TOK X) (j : Nat) (h : mj_H) : f_X4_isLetter (bt X j) h = some (bi (cL X j), h) := by
  unfold cL
  by_cases hj : j < X.2
  · obtain ⟨e, l⟩ := bt_in t hj
    have c1 : nI (chr X j) < (97 : Int32) ↔ chr X j < 97 := nlt_iff (b := 97) (by omega) (by decide)
    have c2 : (122 : Int32) < nI (chr X j) ↔ 122 < chr X j := nlt_iff (a := 122) (by decide) (by omega)
    rw [e, f_X4_isLetter]
    simp only [c1, c2, hj, decide_true, Bool.true_and]
    by_cases q1 : chr X j < 97
    · have : ¬ 97 ≤ chr X j := by omega
      simp [q1, this, bi]
    · by_cases q2 : 122 < chr X j
      · have : ¬ chr X j ≤ 122 := by omega
        simp [q1, q2, this, bi]
      · have h1 : 97 ≤ chr X j := by omega
        have h2 : chr X j ≤ 122 := by omega
        simp [q1, q2, h1, h2, bi]
  · have : bt X j = -1 := by unfold bt; rw [if_neg hj]
    rw [this, f_X4_isLetter, if_pos (by decide)]
    simp [hj, bi]
theorem X4_figure_s {X : (Nat → Int32) × Nat} (t : TOK X) (j : Nat) (h : mj_H) : f_X4_isFigure (bt X j) h = some (bi (cF X j), h) := by
  unfold cF
  by_cases hj : j < X.2
  · obtain ⟨e, l⟩ := bt_in t hj
    have c1 : nI (chr X j) < (48 : Int32) ↔ chr X j < 48 := nlt_iff (b := 48) (by omega) (by decide)
    have c2 : (57 : Int32) < nI (chr X j) ↔ 57 < chr X j := nlt_iff (a := 57) (by decide) (by omega)
    rw [e, f_X4_isFigure]
    simp only [c1, c2, hj, decide_true, Bool.true_and]
    by_cases q1 : chr X j < 48
    · have : ¬ 48 ≤ chr X j := by omega
      simp [q1, this, bi]
    · by_cases q2 : 57 < chr X j
      · have : ¬ chr X j ≤ 57 := by omega
        simp [q1, q2, this, bi]
      · have h1 : 48 ≤ chr X j := by omega
        have h2 : chr X j ≤ 57 := by omega
        simp [q1, q2, h1, h2, bi]
  · have : bt X j = -1 := by unfold bt; rw [if_neg hj]
    rw [this, f_X4_isFigure, if_pos (by decide)]
    simp [hj, bi]
/-- the text of X8's -/
def TXR (h : mj_H) (X : (Nat → Int32) × Nat) : Prop := h[34]? = some (cO 7 [.ref 35, .int (nI X.2)]) ∧ ∃ b, h[35]? = some (cI 150 b) ∧ ∀ j, j < X.2 → b j = X.1 j
theorem TXR.fr {h h' : mj_H} {X : (Nat → Int32) × Nat} (t : TXR h X) (e : ∀ j, 34 ≤ j → j < 36 → h'[j]? = h[j]?) : TXR h' X := by
  obtain ⟨t1, b, t2, t3⟩ := t
  exact ⟨by rw [e 34 (by decide) (by decide)]; exact t1, b, by rw [e 35 (by decide) (by decide)]; exact t2, t3⟩
theorem TXR.set {h : mj_H} {X : (Nat → Int32) × Nat} {c : mj_C} {k : Nat} (t : TXR h X) (hk : k < 34 ∨ 36 ≤ k) : TXR (h.set k c) X := t.fr (fun j h1 h2 => List.getElem?_set_ne (by omega))
theorem TXR.ob {h : mj_H} {X : (Nat → Int32) × Nat} (t : TXR h X) : mj_ob h 34 7 = true := ob_r t.1
theorem X7_byteAt_s {h : mj_H} {X : (Nat → Int32) × Nat} (t : TXR h X) (k : TOK X) {j : Nat} (hj : j < 2 ^ 31) : f_X7_byteAt 34 (nI j) h = some (bt X j, h) := by
  obtain ⟨t1, b, t2, t3⟩ := t
  have c1 : ¬ nI j < (0 : Int32) := nI_pos hj
  have hX := k.1
  have c2 : nI X.2 ≤ nI j ↔ X.2 ≤ j := nle_iff (by omega) hj
  have e1 : mj_gI h 34 7 1 = some (nI X.2) := gI_r t1 rfl
  have e2 : mj_gR h 34 7 0 = some 35 := gR_r t1 rfl
  unfold bt
  by_cases q : j < X.2
  · have q' : ¬ X.2 ≤ j := by omega
    have c3 : ¬ (150 : Int32) ≤ nI j := nI_ge (b := 150) (by omega) (by decide)
    have r := aI_r t2 (show j < 150 by omega) (by decide)
    rw [t3 j q] at r
    rw [if_pos q]
    simp only [f_X7_byteAt, c1, if_false, e1, bs, c2, q', c3, e2, r]
  · have q' : X.2 ≤ j := by omega
    rw [if_neg q]
    simp only [f_X7_byteAt, c1, if_false, e1, bs, c2, q', if_true]
/-- X4's object -/
def rfs (pl st tk vl it im : Int32) : List Value := [.ref 34, .ref 36, .ref 42, .int pl, .int st, .int tk, .int vl, .int it, .int im]
theorem X4_skip_s {h : mj_H} {X : (Nat → Int32) × Nat} {st tk vl it im : Int32} {p : Nat} (t : TXR h X) (k : TOK X) (o : h[33]? = some (cO 4 (rfs (nI p) st tk vl it im))) (hp : p ≤ X.2) : f_X4_skipBlanks 33 h = some (h.set 33 (cO 4 (rfs (nI (sk X p)) st tk vl it im))) := by
  have hX := k.1
  have hn := rn_le (cB X) (X.2 - p) p
  unfold f_X4_skipBlanks f_X4_skipBlanks_2
  have h0 : ((33 : Nat), (0 : Int32), h) = (fun i => (33, nI i, h.set 33 (cO 4 (rfs (nI (p + i)) st tk vl it im)))) 0 := by
    show _ = (33, nI 0, h.set 33 (cO 4 (rfs (nI (p + 0)) st tk vl it im)))
    rw [Nat.add_zero, set_same o]; rfl
  rw [h0]
  refine fix_iter (st := fun i => ((33 : Nat), nI i, h.set 33 (cO 4 (rfs (nI (p + i)) st tk vl it im)))) (rn (cB X) (X.2 - p) p) _ (fun i hi K => ?_) (fun K => ?_) 1000 (by omega)
  · have g1 := get_self (c := cO 4 (rfs (nI (p + i)) st tk vl it im)) o
    have t1 := t.set (k := 33) (c := cO 4 (rfs (nI (p + i)) st tk vl it im)) (by decide)
    have c1 : ¬ (150 : Int32) ≤ nI i := nI_ge (b := 150) (by omega) (by decide)
    have b := X7_byteAt_s t1 k (j := p + i) (by omega)
    have c2 := (bt_B k (p + i)).mpr (rn_in _ _ _ _ hi)
    have u := sV_r (k := 3) (.int (nI (p + i + 1))) g1 (by simp [rfs])
    rw [List.set_set] at u
    show b_X4_skipBlanks_2 _ 33 (nI i) _ = K (33, nI (i + 1), h.set 33 (cO 4 (rfs (nI (p + i + 1)) st tk vl it im)))
    simp only [b_X4_skipBlanks_2, c1, if_false, gR_r (k := 0) (q := 34) g1 rfl, gI_r (k := 3) (x := nI (p + i)) g1 rfl, bs, t1.ob, if_true, b, c2, nI_1, u]
    rfl
  · have e : p + rn (cB X) (X.2 - p) p = sk X p := rfl
    have g1 := get_self (c := cO 4 (rfs (nI (sk X p)) st tk vl it im)) o
    have t1 := t.set (k := 33) (c := cO 4 (rfs (nI (sk X p)) st tk vl it im)) (by decide)
    show b_X4_skipBlanks_2 _ 33 (nI (rn (cB X) (X.2 - p) p)) (h.set 33 (cO 4 (rfs (nI (p + rn (cB X) (X.2 - p) p)) st tk vl it im))) = _
    rw [e]
    have b := X7_byteAt_s t1 k (j := sk X p) (by omega)
    have c2 : ¬ bt X (sk X p) = 32 := fun z => by
      have h8 := (bt_B k _).mp z
      have h9 : cB X (sk X p) = false := en_out cB_lt hp
      rw [h9] at h8; exact absurd h8 (by decide)
    by_cases c1 : (150 : Int32) ≤ nI (rn (cB X) (X.2 - p) p)
    · simp only [b_X4_skipBlanks_2, c1, if_true]
    · simp only [b_X4_skipBlanks_2, c1, if_false, gR_r (k := 0) (q := 34) g1 rfl, gI_r (k := 3) (x := nI (sk X p)) g1 rfl, bs, t1.ob, if_true, b, c2]
/-! words -/
def kwL (w : Nat) : List Nat := ([[109, 117, 115, 116, 101, 114], [109, 97, 110], [119, 111, 114, 110], [112, 97, 105, 114], [119, 111, 114, 100]] : List (List Nat)).getD w []
def mt (X : (Nat → Int32) × Nat) (s w : Nat) : Nat → Bool
  | 0 => true
  | k + 1 => mt X s w k && decide (chr X (s + k) = (kwL w).getD k 0)
def spl (X : (Nat → Int32) × Nat) (s e w : Nat) : Bool := decide ((kwL w).length = e - s) && mt X s w (kwL w).length
theorem sc_w : ∀ w, w < 5 → ∀ j, j < (kwL w).length → mj_sc (1010 + w) (nI j) = some (nI ((kwL w).getD j 0)) ∧ (kwL w).getD j 0 < 128 := by decide
theorem sl_w : ∀ w, w < 5 → mj_sl (1010 + w) = some (nI (kwL w).length) ∧ (kwL w).length ≤ 6 := by decide
theorem mt_no {X : (Nat → Int32) × Nat} {s w : Nat} : ∀ {n i : Nat}, i < n → mt X s w (i + 1) = false → mt X s w n = false
  | 0, _, h, _ => absurd h (Nat.not_lt_zero _)
  | n + 1, i, h, e => by
    by_cases q : i = n
    · subst q; exact e
    · rw [mt, mt_no (by omega) e]; rfl
theorem X7_spells_s {h : mj_H} {X : (Nat → Int32) × Nat} (t : TXR h X) (k : TOK X) {s e w : Nat} (hw : w < 5) (hse : s ≤ e) (he : e ≤ X.2) : f_X7_spells 34 (1010 + w) (nI s) (nI e) h = some (bi (spl X s e w), h) := by
  obtain ⟨l1, l2⟩ := sl_w w hw
  have hX := k.1
  have es : nI e - nI s = nI (e - s) := pk_sub hse
  have c1 : nI (kwL w).length = nI (e - s) ↔ (kwL w).length = e - s := nI_eq (by omega) (by omega)
  unfold spl
  by_cases q : (kwL w).length = e - s
  · rw [decide_eq_true q, Bool.true_and]
    have e1 : f_X7_spells 34 (1010 + w) (nI s) (nI e) h = f_X7_spells_19 34 (1010 + w) (nI s) (0 : Int32) h := by
      simp only [f_X7_spells, l1, bs, es, c1, q, if_true]
    rw [e1]
    unfold f_X7_spells_19
    refine fix_w (F := fun (K19 : (Nat × Nat × Int32 × Int32 × mj_H) → Option (Int32 × mj_H)) (s : Nat × Nat × Int32 × Int32 × mj_H) => b_X7_spells_19 (fun v0 v1 v2 v4 h => K19 (v0, v1, v2, v4, h)) s.1 s.2.1 s.2.2.1 s.2.2.2.1 s.2.2.2.2)
      (fun i st => st = (34, 1010 + w, nI s, nI i, h) ∧ mt X s w i = true)
      (fun r => r = some (bi (mt X s w (kwL w).length), h)) (kwL w).length (fun i hi st hs => ?_) (fun st hs => ?_) 1000 (by omega) (34, 1010 + w, nI s, nI 0, h) ⟨rfl, rfl⟩
    · obtain ⟨rfl, hm⟩ := hs
      obtain ⟨d1, d2⟩ := sc_w w hw i hi
      have c2 : ¬ nI (kwL w).length ≤ nI i := nI_ge hi (by omega)
      have b := X7_byteAt_s t k (j := s + i) (by omega)
      obtain ⟨f1, f2⟩ := bt_in k (show s + i < X.2 by omega)
      have c3 : bt X (s + i) = nI ((kwL w).getD i 0) ↔ chr X (s + i) = (kwL w).getD i 0 := by rw [f1]; exact nI_eq (by omega) (by omega)
      by_cases q2 : chr X (s + i) = (kwL w).getD i 0
      · left
        refine ⟨_, ⟨rfl, by rw [mt, hm, decide_eq_true q2]; rfl⟩, fun K => ?_⟩
        simp only [b_X7_spells_19, l1, bs, c2, if_false, t.ob, if_true, nI_add, b, d1, c3, q2, nI_1]
      · right
        intro K
        have z : mt X s w (i + 1) = false := by rw [mt, hm, decide_eq_false q2]; rfl
        rw [mt_no hi z]
        simp only [b_X7_spells_19, l1, bs, c2, if_false, t.ob, if_true, nI_add, b, d1, c3, q2]
        rfl
    · obtain ⟨rfl, hm⟩ := hs
      intro K
      have c2 : nI (kwL w).length ≤ nI (kwL w).length := Int32.le_refl _
      rw [hm]
      simp only [b_X7_spells_19, l1, bs, c2, if_true]
      rfl
  · rw [decide_eq_false q, Bool.false_and]
    simp only [f_X7_spells, l1, bs, es, c1, q, if_false]
    rfl
/-- the item that a word names; 5 for none -/
def kwd (X : (Nat → Int32) × Nat) (s : Nat) : Nat := if spl X s (en X (cL X) s) 0 = true then 0 else if spl X s (en X (cL X) s) 1 = true then 1 else if spl X s (en X (cL X) s) 2 = true then 2 else if spl X s (en X (cL X) s) 3 = true then 3 else if spl X s (en X (cL X) s) 4 = true then 4 else 5
theorem kwd_le (X : (Nat → Int32) × Nat) (s : Nat) : kwd X s ≤ 5 := by
  unfold kwd
  split
  · omega
  · split
    · omega
    · split
      · omega
      · split
        · omega
        · split <;> omega
theorem X4_word42_s {h : mj_H} {X : (Nat → Int32) × Nat} {tk vl it im : Int32} {s : Nat} (t : TXR h X) (k : TOK X) (o : h[33]? = some (cO 4 (rfs (nI (en X (cL X) s)) (nI s) tk vl it im))) (hs : s ≤ X.2) : f_X4_readWord_42 33 h = some (h.set 33 (cO 4 (rfs (nI (en X (cL X) s)) (nI s) (if kwd X s < 5 then 1 else 0) (if kwd X s < 5 then nI (kwd X s) else vl) it im))) := by
  have hse := en_ge X (cL X) s
  have he : en X (cL X) s ≤ X.2 := en_le hs
  obtain ⟨e, hee⟩ : ∃ e, e = en X (cL X) s := ⟨_, rfl⟩
  have u1 := sV_r (k := 5) (.int (1 : Int32)) o (by simp [rfs])
  rw [← hee] at u1 o hse he ⊢
  have o1 : (h.set 33 (cO 4 ((rfs (nI e) (nI s) tk vl it im).set 5 (.int 1))))[33]? = some (cO 4 (rfs (nI e) (nI s) 1 vl it im)) := get_self o
  obtain ⟨H, hH⟩ : ∃ H, H = h.set 33 (cO 4 ((rfs (nI e) (nI s) tk vl it im).set 5 (.int 1))) := ⟨_, rfl⟩
  rw [← hH] at u1 o1
  have t1 : TXR H X := by rw [hH]; exact t.set (by decide)
  have w := fun i (hi : i < 5) => X7_spells_s t1 k (s := s) (e := e) (w := i) hi hse he
  have r1 : mj_gR H 33 4 0 = some 34 := gR_r o1 rfl
  have r2 : mj_gI H 33 4 4 = some (nI s) := gI_r o1 rfl
  have r3 : mj_gI H 33 4 3 = some (nI e) := gI_r o1 rfl
  have uv := fun x => sV_r (k := 6) (.int x) o1 (by simp [rfs])
  have ut := sV_r (k := 5) (.int (0 : Int32)) o1 (by simp [rfs])
  have fin : ∀ L, H.set 33 (cO 4 L) = h.set 33 (cO 4 L) := fun L => by rw [hH, List.set_set]
  unfold kwd
  rw [← hee]
  simp only [f_X4_readWord_42, u1, bs, r1, r2, r3, t1.ob, if_true, w 0 (by decide)]
  cases q0 : spl X s e 0
  · simp only [bi_f, if_true, r1, r2, r3, bs, t1.ob, w 1 (by decide)]
    cases q1 : spl X s e 1
    · simp only [bi_f, if_true, r1, r2, r3, bs, t1.ob, w 2 (by decide)]
      cases q2 : spl X s e 2
      · simp only [bi_f, if_true, r1, r2, r3, bs, t1.ob, w 3 (by decide)]
        cases q3 : spl X s e 3
        · simp only [bi_f, if_true, r1, r2, r3, bs, t1.ob, w 4 (by decide)]
          cases q4 : spl X s e 4
          · simp only [bi_f, if_true, ut, bs, fin]; rfl
          · simp only [bi_t, one0, if_false, uv, bs, fin]; rfl
        · simp only [bi_t, one0, if_false, uv, bs, fin]; rfl
      · simp only [bi_t, one0, if_false, uv, bs, fin]; rfl
    · simp only [bi_t, one0, if_false, uv, bs, fin]; rfl
  · simp only [bi_t, one0, if_false, uv, bs, fin]; rfl
theorem X4_word_s {h : mj_H} {X : (Nat → Int32) × Nat} {tk vl it im : Int32} {s : Nat} (t : TXR h X) (k : TOK X) (o : h[33]? = some (cO 4 (rfs (nI s) (nI s) tk vl it im))) (hs : s ≤ X.2) : f_X4_readWord 33 h = some (h.set 33 (cO 4 (rfs (nI (en X (cL X) s)) (nI s) (if kwd X s < 5 then 1 else 0) (if kwd X s < 5 then nI (kwd X s) else vl) it im))) := by
  have hX := k.1
  have hn := rn_le (cL X) (X.2 - s) s
  unfold f_X4_readWord f_X4_readWord_2
  have h0 : ((33 : Nat), (0 : Int32), h) = (fun i => (33, nI i, h.set 33 (cO 4 (rfs (nI (s + i)) (nI s) tk vl it im)))) 0 := by
    show _ = (33, nI 0, h.set 33 (cO 4 (rfs (nI (s + 0)) (nI s) tk vl it im)))
    rw [Nat.add_zero, set_same o]; rfl
  rw [h0]
  refine fix_iter (st := fun i => ((33 : Nat), nI i, h.set 33 (cO 4 (rfs (nI (s + i)) (nI s) tk vl it im)))) (rn (cL X) (X.2 - s) s) _ (fun i hi K => ?_) (fun K => ?_) 1000 (by omega)
  · have g1 := get_self (c := cO 4 (rfs (nI (s + i)) (nI s) tk vl it im)) o
    have t1 := t.set (k := 33) (c := cO 4 (rfs (nI (s + i)) (nI s) tk vl it im)) (by decide)
    have c1 : ¬ (150 : Int32) ≤ nI i := nI_ge (b := 150) (by omega) (by decide)
    have b := X7_byteAt_s t1 k (j := s + i) (by omega)
    have c2 := X4_letter_s k (s + i) (h.set 33 (cO 4 (rfs (nI (s + i)) (nI s) tk vl it im)))
    rw [rn_in _ _ _ _ hi] at c2
    have u := sV_r (k := 3) (.int (nI (s + i + 1))) g1 (by simp [rfs])
    rw [List.set_set] at u
    show b_X4_readWord_2 _ 33 (nI i) _ = K (33, nI (i + 1), h.set 33 (cO 4 (rfs (nI (s + i + 1)) (nI s) tk vl it im)))
    simp only [b_X4_readWord_2, c1, if_false, gR_r (k := 0) (q := 34) g1 rfl, gI_r (k := 3) (x := nI (s + i)) g1 rfl, bs, t1.ob, if_true, b, c2, bi_t, one0, nI_1, u]
    rfl
  · have e : s + rn (cL X) (X.2 - s) s = en X (cL X) s := rfl
    have g1 := get_self (c := cO 4 (rfs (nI (en X (cL X) s)) (nI s) tk vl it im)) o
    have t1 := t.set (k := 33) (c := cO 4 (rfs (nI (en X (cL X) s)) (nI s) tk vl it im)) (by decide)
    show b_X4_readWord_2 _ 33 (nI (rn (cL X) (X.2 - s) s)) (h.set 33 (cO 4 (rfs (nI (s + rn (cL X) (X.2 - s) s)) (nI s) tk vl it im))) = _
    rw [e]
    have b := X7_byteAt_s t1 k (j := en X (cL X) s) (by omega)
    have c2 := X4_letter_s k (en X (cL X) s) (h.set 33 (cO 4 (rfs (nI (en X (cL X) s)) (nI s) tk vl it im)))
    rw [en_out cL_lt hs] at c2
    have fin := X4_word42_s t1 k g1 hs
    rw [List.set_set] at fin
    by_cases c1 : (150 : Int32) ≤ nI (rn (cL X) (X.2 - s) s)
    · simp only [b_X4_readWord_2, c1, if_true]
      exact fin
    · simp only [b_X4_readWord_2, c1, if_false, gR_r (k := 0) (q := 34) g1 rfl, gI_r (k := 3) (x := nI (en X (cL X) s)) g1 rfl, bs, t1.ob, if_true, b, c2, bi_f]
      exact fin
/-! numbers -/
def nvl (X : (Nat → Int32) × Nat) (s : Nat) : Nat → Nat
  | 0 => 0
  | i + 1 => if i < 2 then 10 * nvl X s i + chr X (s + i) - 48 else nvl X s i
def nval (X : (Nat → Int32) × Nat) (s : Nat) : Nat := nvl X s (en X (cF X) s - s)
def nok (X : (Nat → Int32) × Nat) (s : Nat) : Bool := decide (en X (cF X) s - s ≤ 2)
theorem cF_b {X : (Nat → Int32) × Nat} {j : Nat} (h : cF X j = true) : 48 ≤ chr X j ∧ chr X j ≤ 57 := by
  unfold cF at h; simp only [Bool.and_eq_true, decide_eq_true_eq] at h; exact h.2
theorem nvl_le {X : (Nat → Int32) × Nat} {s : Nat} (h : ∀ i, i < en X (cF X) s - s → cF X (s + i) = true) : ∀ i, i ≤ en X (cF X) s - s → nvl X s i < 100 ∧ (i ≤ 1 → nvl X s i < 10) ∧ (i = 0 → nvl X s i = 0)
  | 0, _ => ⟨(by decide : 0 < 100), fun _ => (by decide : 0 < 10), fun _ => rfl⟩
  | i + 1, hi => by
    obtain ⟨a, b, c⟩ := nvl_le h i (by omega)
    obtain ⟨d1, d2⟩ := cF_b (h i (by omega))
    rw [nvl]
    by_cases q : i < 2
    · rw [if_pos q]
      by_cases q0 : i = 0
      · have := c q0
        exact ⟨by omega, fun _ => by omega, fun z => by omega⟩
      · have := b (by omega)
        exact ⟨by omega, fun z => by omega, fun z => by omega⟩
    · rw [if_neg q]
      exact ⟨a, fun z => by omega, fun z => by omega⟩
theorem nval_lt {X : (Nat → Int32) × Nat} {s : Nat} : nval X s < 100 :=
  (nvl_le (fun i hi => en_in (X := X) (P := cF X) (j := s) (by omega) (by omega)) _ (Nat.le_refl _)).1
theorem num_st {X : (Nat → Int32) × Nat} (k : TOK X) {s i : Nat} (hc : cF X (s + i) = true) (hv : nvl X s i < 100) (hi : i < 2) : ((10 : Int32) * nI (nvl X s i) + bt X (s + i)) - (48 : Int32) = nI (nvl X s (i + 1)) := by
  obtain ⟨d1, d2⟩ := cF_b hc
  have hl := cF_lt _ hc
  rw [(bt_in k hl).1, show (10 : Int32) = nI 10 from rfl, pk_mul, nI_add, show (48 : Int32) = nI 48 from rfl, pk_sub (by omega), nvl, if_pos hi]
theorem X4_num78_s {h : mj_H} {X : (Nat → Int32) × Nat} {tk vl it im : Int32} {s : Nat} (k : TOK X) (o : h[33]? = some (cO 4 (rfs (nI (en X (cF X) s)) (nI s) tk vl it im))) (hs : s ≤ X.2) : f_X4_readNumber_78 33 h = some (h.set 33 (cO 4 (rfs (nI (en X (cF X) s)) (nI s) (if nok X s = true then 2 else 0) vl it im))) := by
  have hX := k.1
  have hse := en_ge X (cF X) s
  have he : en X (cF X) s ≤ X.2 := en_le hs
  have c1 : (2 : Int32) < nI (en X (cF X) s) - nI s ↔ 2 < en X (cF X) s - s := by
    rw [pk_sub hse]; exact nlt_iff (a := 2) (by decide) (by omega)
  have u := fun x => sV_r (k := 5) (.int x) o (by simp [rfs])
  unfold nok
  by_cases q : 2 < en X (cF X) s - s
  · have q' : ¬ en X (cF X) s - s ≤ 2 := by omega
    simp only [f_X4_readNumber_78, gI_r (k := 3) (x := nI (en X (cF X) s)) o rfl, gI_r (k := 4) (x := nI s) o rfl, bs, c1, q, if_true, f_X4_readNumber_97, u, q', decide_false, Bool.false_eq_true, if_false]
    rfl
  · have q' : en X (cF X) s - s ≤ 2 := by omega
    simp only [f_X4_readNumber_78, gI_r (k := 3) (x := nI (en X (cF X) s)) o rfl, gI_r (k := 4) (x := nI s) o rfl, bs, c1, q, if_false, f_X4_readNumber_97, u, q', decide_true, if_true]
    rfl
theorem X4_num_s {h : mj_H} {X : (Nat → Int32) × Nat} {tk vl it im : Int32} {s : Nat} (t : TXR h X) (k : TOK X) (o : h[33]? = some (cO 4 (rfs (nI s) (nI s) tk vl it im))) (hs : s ≤ X.2) : f_X4_readNumber 33 h = some (h.set 33 (cO 4 (rfs (nI (en X (cF X) s)) (nI s) (if nok X s = true then 2 else 0) (nI (nval X s)) it im))) := by
  have hX := k.1
  have hn := rn_le (cF X) (X.2 - s) s
  have en_i : en X (cF X) s - s = rn (cF X) (X.2 - s) s := by unfold en; omega
  have hv := fun i (hi : i ≤ rn (cF X) (X.2 - s) s) => nvl_le (X := X) (s := s) (fun i hi => en_in (X := X) (P := cF X) (j := s) (by omega) (by omega)) i (by omega)
  have u0 := sV_r (k := 6) (.int (0 : Int32)) o (by simp [rfs])
  have e0 : f_X4_readNumber 33 h = f_X4_readNumber_7 33 (0 : Int32) (h.set 33 (cO 4 (rfs (nI s) (nI s) tk 0 it im))) := by
    simp only [f_X4_readNumber, u0, bs]; rfl
  rw [e0]
  unfold f_X4_readNumber_7
  refine fix_iter (st := fun i => ((33 : Nat), nI i, h.set 33 (cO 4 (rfs (nI (s + i)) (nI s) tk (nI (nvl X s i)) it im)))) (rn (cF X) (X.2 - s) s) _ (fun i hi K => ?_) (fun K => ?_) 1000 (by omega)
  · have g1 := get_self (c := cO 4 (rfs (nI (s + i)) (nI s) tk (nI (nvl X s i)) it im)) o
    have t1 := t.set (k := 33) (c := cO 4 (rfs (nI (s + i)) (nI s) tk (nI (nvl X s i)) it im)) (by decide)
    have c1 : ¬ (150 : Int32) ≤ nI i := nI_ge (b := 150) (by omega) (by decide)
    have b := X7_byteAt_s t1 k (j := s + i) (by omega)
    have hc := rn_in _ _ _ _ hi
    have c2 := X4_figure_s k (s + i) (h.set 33 (cO 4 (rfs (nI (s + i)) (nI s) tk (nI (nvl X s i)) it im)))
    rw [hc] at c2
    show b_X4_readNumber_7 _ 33 (nI i) _ = K (33, nI (i + 1), h.set 33 (cO 4 (rfs (nI (s + i + 1)) (nI s) tk (nI (nvl X s (i + 1))) it im)))
    have c3 : (2 : Int32) ≤ nI i ↔ 2 ≤ i := nle_iff (a := 2) (by decide) (by omega)
    by_cases q : i < 2
    · have q' : ¬ 2 ≤ i := by omega
      have ns := num_st k hc (hv i (by omega)).1 q
      have u1 := sV_r (k := 6) (.int (nI (nvl X s (i + 1)))) g1 (by simp [rfs])
      rw [List.set_set] at u1
      have g2 : (h.set 33 (cO 4 ((rfs (nI (s + i)) (nI s) tk (nI (nvl X s i)) it im).set 6 (.int (nI (nvl X s (i + 1)))))))[33]? = some (cO 4 (rfs (nI (s + i)) (nI s) tk (nI (nvl X s (i + 1))) it im)) := get_self o
      have u2 := sV_r (k := 3) (.int (nI (s + i + 1))) g2 (by simp [rfs])
      rw [List.set_set] at u2
      simp only [b_X4_readNumber_7, c1, if_false, gR_r (k := 0) (q := 34) g1 rfl, gI_r (k := 3) (x := nI (s + i)) g1 rfl, gI_r (k := 6) (x := nI (nvl X s i)) g1 rfl, bs, t1.ob, if_true, b, c2, bi_t, one0, c3, q', ns, u1, f_X4_readNumber_62, gI_r (k := 3) (x := nI (s + i)) g2 rfl, nI_1, u2]
      rfl
    · have q' : 2 ≤ i := by omega
      have ns : nvl X s (i + 1) = nvl X s i := by rw [nvl, if_neg q]
      have u2 := sV_r (k := 3) (.int (nI (s + i + 1))) g1 (by simp [rfs])
      rw [List.set_set] at u2
      rw [ns]
      simp only [b_X4_readNumber_7, c1, if_false, gR_r (k := 0) (q := 34) g1 rfl, gI_r (k := 3) (x := nI (s + i)) g1 rfl, bs, t1.ob, if_true, b, c2, bi_t, one0, c3, q', f_X4_readNumber_62, nI_1, u2]
      rfl
  · have e : s + rn (cF X) (X.2 - s) s = en X (cF X) s := rfl
    have ev : nvl X s (rn (cF X) (X.2 - s) s) = nval X s := by unfold nval; rw [en_i]
    have g1 := get_self (c := cO 4 (rfs (nI (en X (cF X) s)) (nI s) tk (nI (nval X s)) it im)) o
    have t1 := t.set (k := 33) (c := cO 4 (rfs (nI (en X (cF X) s)) (nI s) tk (nI (nval X s)) it im)) (by decide)
    show b_X4_readNumber_7 _ 33 (nI (rn (cF X) (X.2 - s) s)) (h.set 33 (cO 4 (rfs (nI (s + rn (cF X) (X.2 - s) s)) (nI s) tk (nI (nvl X s (rn (cF X) (X.2 - s) s))) it im))) = _
    rw [e, ev]
    have b := X7_byteAt_s t1 k (j := en X (cF X) s) (by have := en_le (P := cF X) hs; omega)
    have c2 := X4_figure_s k (en X (cF X) s) (h.set 33 (cO 4 (rfs (nI (en X (cF X) s)) (nI s) tk (nI (nval X s)) it im)))
    rw [en_out cF_lt hs] at c2
    have fin := X4_num78_s k g1 hs
    rw [List.set_set] at fin
    by_cases c1 : (150 : Int32) ≤ nI (rn (cF X) (X.2 - s) s)
    · simp only [b_X4_readNumber_7, c1, if_true]
      exact fin
    · simp only [b_X4_readNumber_7, c1, if_false, gR_r (k := 0) (q := 34) g1 rfl, gI_r (k := 3) (x := nI (en X (cF X) s)) g1 rfl, bs, t1.ob, if_true, b, c2, bi_f]
      exact fin
