/-! PURE: looks, next, boast -/
theorem X9_wearing_s {h : mj_H} {T : Nat → Nat} (n : MN h T) (w : WF T) {set : Nat} (hs : set < 32) (all : Bool) : f_X9_wearing 53 (nI set) (bi all) h = some (nI (wear T set all (T 0)), h) := by
  have w0 := w.1
  unfold f_X9_wearing f_X9_wearing_5
  refine fix_iter (st := fun i => ((53 : Nat), nI set, bi all, nI (wear T set all i), nI i, h)) (T 0) _ (fun i hi K => ?_) (fun K => ?_) 1000 (by omega)
  · have hlt : ¬ nI (T 0) ≤ nI i := nI_ge hi (by omega)
    have h1 := (w.2.2.2.2.1 i hi).1
    have h2 : T (4 + i) &&& set ≤ set := Nat.and_le_right
    have c1 : (nI (T (4 + i) &&& set) = nI set) ↔ T (4 + i) &&& set = set := nI_eq (by omega) (by omega)
    have c2 : (nI (T (4 + i) &&& set) = 0) ↔ T (4 + i) &&& set = 0 := nI_eq (by omega) (by decide)
    have r := n.a (j := 4 + i) (by omega)
    rw [← nI_add] at r
    show b_X9_wearing_5 _ 53 (nI set) (bi all) (nI (wear T set all i)) (nI i) h = K (53, nI set, bi all, nI (if wears T set all i = true then wear T set all i ||| 2 ^ i else wear T set all i), nI (i + 1), h)
    have o0 : ∀ x, nI x ||| (0 : Int32) = nI x := fun x => by rw [show (0 : Int32) = nI 0 from rfl, orI, Nat.or_zero]
    simp only [b_X9_wearing_5, n.1.now, Option.bind_some, n.a0, hlt, if_false, show (4 : Int32) = nI 4 from rfl, r, andI, c1, c2, wears]
    cases all
    · by_cases q : T (4 + i) &&& set = 0
      · simp [bi, q, f_X9_wearing_55, f_X9_wearing_56, o0, nI_1]
      · simp [bi, q, f_X9_wearing_48, f_X9_wearing_56, shl1 (show i < 31 by omega), orI, nI_1]
    · by_cases q : T (4 + i) &&& set = set
      · simp [bi, q, f_X9_wearing_48, f_X9_wearing_56, shl1 (show i < 31 by omega), orI, nI_1]
      · simp [bi, q, f_X9_wearing_55, f_X9_wearing_56, o0, nI_1]
  · have hle : nI (T 0) ≤ nI (T 0) := Int32.le_refl _
    show b_X9_wearing_5 _ 53 (nI set) (bi all) (nI (wear T set all (T 0))) (nI (T 0)) h = _
    simp only [b_X9_wearing_5, n.1.now, Option.bind_some, n.a0, hle, if_true]
def lkM (f : Nat → Nat) (men : Nat) : Nat → Nat
  | 0 => 0
  | i + 1 => if f i = men then lkM f men i + 1 else lkM f men i
def lkC (f : Nat → Nat) (men : Nat) : Nat → Nat
  | 0 => 31
  | i + 1 => if f i = men then lkC f men i &&& i else lkC f men i
theorem lkM_le {f : Nat → Nat} {men : Nat} : ∀ i, lkM f men i ≤ i
  | 0 => Nat.le_refl _
  | i + 1 => by have := lkM_le (f := f) (men := men) i; rw [lkM]; split <;> omega
theorem lkC_le {f : Nat → Nat} {men : Nat} : ∀ i, lkC f men i ≤ 31
  | 0 => Nat.le_refl _
  | i + 1 => by
    have := lkC_le (f := f) (men := men) i
    rw [lkC]; split
    · exact Nat.le_trans Nat.and_le_left this
    · exact this
def lkR (T : Nat → Nat) (men : Nat) (all : Bool) (what : Int32) : Int32 := if what = 0 then nI (lkM (fun s => wear T s all (T 0)) men 32) else if lkM (fun s => wear T s all (T 0)) men 32 = 0 then -1 else nI (lkC (fun s => wear T s all (T 0)) men 32)
theorem and31 : ∀ x, x < 32 → x &&& 31 = x := by decide
theorem X9_looks_32_s {h : mj_H} {T : Nat → Nat} (n : MN h T) (w : WF T) {men : Nat} (hm : men < 64) (all : Bool) (what : Int32) : f_X9_looks_32 53 (nI men) (bi all) what (0 : Int32) (31 : Int32) (0 : Int32) h = some (lkR T men all what, h) := by
  have w0 := w.1
  have hp := pow6 w0
  obtain ⟨F, hF⟩ : ∃ F, F = fun s => wear T s all (T 0) := ⟨_, rfl⟩
  unfold lkR
  rw [← hF]
  unfold f_X9_looks_32
  refine fix_iter (st := fun i => ((53 : Nat), nI men, bi all, what, nI (lkM F men i), nI (lkC F men i), nI i, h)) 32 _ (fun i hi K => ?_) (fun K => ?_) 1000 (by decide)
  · have c1 : ¬ (32 : Int32) ≤ nI i := nI_ge (b := 32) hi (by decide)
    have e1 := X9_wearing_s n w hi all
    have e2 : wear T i all (T 0) = F i := by rw [hF]
    rw [e2] at e1
    have hl : F i < 2 ^ T 0 := by rw [← e2]; exact wear_lt T i all (T 0)
    have c2 : (nI (F i) = nI men) ↔ F i = men := nI_eq (by omega) (by omega)
    have l1 := lkC_le (f := F) (men := men) i
    have o31 : nI (lkC F men i) &&& (31 : Int32) = nI (lkC F men i) := by
      rw [show (31 : Int32) = nI 31 from rfl, andI, and31 _ (by omega)]
    show b_X9_looks_32 _ 53 (nI men) (bi all) what (nI (lkM F men i)) (nI (lkC F men i)) (nI i) h = K (53, nI men, bi all, what, nI (if F i = men then lkM F men i + 1 else lkM F men i), nI (if F i = men then lkC F men i &&& i else lkC F men i), nI (i + 1), h)
    simp only [b_X9_looks_32, c1, if_false, n.1.ob, if_true, e1, Option.bind_some, c2]
    by_cases q : F i = men
    · simp [q, f_X9_looks_55, f_X9_looks_69, f_X9_looks_86, andI, nI_1]
    · simp [q, f_X9_looks_55, f_X9_looks_69, f_X9_looks_86, o31, nI_1]
  · have c1 : (32 : Int32) ≤ nI 32 := by decide
    have l1 := lkM_le (f := F) (men := men) 32
    have c2 : (nI (lkM F men 32) = 0) ↔ lkM F men 32 = 0 := nI_eq (by omega) (by decide)
    show b_X9_looks_32 _ 53 (nI men) (bi all) what (nI (lkM F men 32)) (nI (lkC F men 32)) (nI 32) h = _
    simp only [b_X9_looks_32, c1, if_true, c2]
    split
    · rfl
    · split <;> rfl
theorem X8_looks_39_s {h : mj_H} {T : Nat → Nat} (x : XG h) (b : BN h 1 T) (w : WF T) {men : Nat} (hm : men < 64) (all : Bool) (what : Int32) : f_X8_looks_39 0 (nI men) (bi all) what (0 : Int32) (31 : Int32) (0 : Int32) h = some (lkR T men all what, h) := by
  have w0 := w.1
  have hp := pow6 w0
  obtain ⟨F, hF⟩ : ∃ F, F = fun s => wear T s all (T 0) := ⟨_, rfl⟩
  unfold lkR
  rw [← hF]
  unfold f_X8_looks_39
  refine fix_iter (st := fun i => ((0 : Nat), nI men, bi all, what, nI (lkM F men i), nI (lkC F men i), nI i, h)) 32 _ (fun i hi K => ?_) (fun K => ?_) 1000 (by decide)
  · have c1 : ¬ (31 : Int32) < nI i := nI_nlt (a := 31) (by omega) (by decide)
    have e1 := X0_wearers_s b w hi all
    have e2 : wear T i all (T 0) = F i := by rw [hF]
    rw [e2] at e1
    have hl : F i < 2 ^ T 0 := by rw [← e2]; exact wear_lt T i all (T 0)
    have c2 : (nI (F i) = nI men) ↔ F i = men := nI_eq (by omega) (by omega)
    show b_X8_looks_39 _ 0 (nI men) (bi all) what (nI (lkM F men i)) (nI (lkC F men i)) (nI i) h = K (0, nI men, bi all, what, nI (if F i = men then lkM F men i + 1 else lkM F men i), nI (if F i = men then lkC F men i &&& i else lkC F men i), nI (i + 1), h)
    simp only [b_X8_looks_39, c1, if_false, x.band, b.ob, if_true, e1, Option.bind_some, c2]
    by_cases q : F i = men
    · simp [q, f_X8_looks_70, andI, nI_1]
    · simp [q, f_X8_looks_70, nI_1]
  · have c1 : (31 : Int32) < nI 32 := by decide
    have l1 := lkM_le (f := F) (men := men) 32
    have c2 : (nI (lkM F men 32) = 0) ↔ lkM F men 32 = 0 := nI_eq (by omega) (by decide)
    show b_X8_looks_39 _ 0 (nI men) (bi all) what (nI (lkM F men 32)) (nI (lkC F men 32)) (nI 32) h = _
    simp only [b_X8_looks_39, c1, if_true, c2]
    split
    · rfl
    · split <;> rfl
/-! next -/
def fitM (T : Nat → Nat) (men m s : Nat) : Bool := decide (wear T s true (T 0) ||| 2 ^ m = men ||| 2 ^ m)
def opI (T : Nat → Nat) (men m : Nat) : Nat → Bool
  | 0 => false
  | i + 1 => opI T men m i || (fitM T men m i && (wear T i true (T 0)).testBit m)
def opO (T : Nat → Nat) (men m : Nat) : Nat → Bool
  | 0 => false
  | i + 1 => opO T men m i || (fitM T men m i && !(wear T i true (T 0)).testBit m)
def opn (T : Nat → Nat) (men m : Nat) : Bool := opI T men m 32 && opO T men m 32
def nxR : Option Nat → Int32
  | none => -1
  | some m => nI m
theorem X9_next_35_s {h : mj_H} {T : Nat → Nat} (n : MN h T) (w : WF T) {men m : Nat} (hm : men < 64) (hm6 : m < 6) (K17 : Nat → Int32 → Int32 → mj_H → Option (Int32 × mj_H)) : f_X9_next_35 K17 53 (nI men) (nI m) (0 : Int32) (0 : Int32) (0 : Int32) h = if opn T men m = true then some (nI m, h) else K17 53 (nI men) (nI (m + 1)) h := by
  have w0 := w.1
  have hp := pow6 w0
  unfold f_X9_next_35
  refine fix_iter (st := fun i => ((53 : Nat), nI men, nI m, bi (opI T men m i), bi (opO T men m i), nI i, h)) 32 _ (fun i hi K => ?_) (fun K => ?_) 1000 (by decide)
  · have c1 : ¬ (32 : Int32) ≤ nI i := nI_ge (b := 32) hi (by decide)
    have e1 := X9_wearing_s n w hi true
    rw [bi_t] at e1
    obtain ⟨W, hW⟩ : ∃ W, W = wear T i true (T 0) := ⟨_, rfl⟩
    have hl : W < 2 ^ T 0 := by rw [hW]; exact wear_lt T i true (T 0)
    have hh := X9_has_s (s := W) (m := m) (by omega) (by omega) h
    have hm2 : 2 ^ m < 2 ^ 6 := Nat.pow_lt_pow_right (by decide) hm6
    have k1 : W ||| 2 ^ m < 2 ^ 6 := or_lt (by omega) hm2
    have k2 : men ||| 2 ^ m < 2 ^ 6 := or_lt (by omega) hm2
    have c2 : (nI (W ||| 2 ^ m) = nI (men ||| 2 ^ m)) ↔ W ||| 2 ^ m = men ||| 2 ^ m := nI_eq (by omega) (by omega)
    rw [← hW] at e1
    show b_X9_next_35 K17 _ 53 (nI men) (nI m) (bi (opI T men m i)) (bi (opO T men m i)) (nI i) h = K (53, nI men, nI m, bi (opI T men m i || (decide (wear T i true (T 0) ||| 2 ^ m = men ||| 2 ^ m) && (wear T i true (T 0)).testBit m)), bi (opO T men m i || (decide (wear T i true (T 0) ||| 2 ^ m = men ||| 2 ^ m) && !(wear T i true (T 0)).testBit m)), nI (i + 1), h)
    rw [← hW]
    simp only [b_X9_next_35, c1, if_false, n.1.ob, if_true, e1, Option.bind_some, shl1 (show m < 31 by omega), orI, c2]
    by_cases q : W ||| 2 ^ m = men ||| 2 ^ m
    · rw [if_pos q]
      cases q2 : W.testBit m <;> cases opI T men m i <;> cases opO T men m i <;> simp [bi, q, hh, q2, f_X9_next_70, f_X9_next_90, f_X9_next_94, f_X9_next_95, f_X9_next_115, f_X9_next_119, f_X9_next_120, nI_1]
    · rw [if_neg q]
      cases opI T men m i <;> cases opO T men m i <;> simp [bi, q, f_X9_next_70, f_X9_next_90, f_X9_next_94, f_X9_next_95, f_X9_next_115, f_X9_next_119, f_X9_next_120, nI_1]
  · have c1 : (32 : Int32) ≤ nI 32 := by decide
    show b_X9_next_35 K17 _ 53 (nI men) (nI m) (bi (opI T men m 32)) (bi (opO T men m 32)) (nI 32) h = _
    unfold opn
    simp only [b_X9_next_35, c1, if_true]
    cases opI T men m 32 <;> cases opO T men m 32 <;> simp [bi, f_X9_next_139, nI_1]
theorem X9_next_17_s {h : mj_H} {T : Nat → Nat} (n : MN h T) (w : WF T) {men : Nat} (hm : men < 64) : f_X9_next_17 53 (nI men) (0 : Int32) h = some (nxR (ffirst (opn T men) (T 0)), h) := by
  have w0 := w.1
  have key := fix_w (F := fun (K17 : (Nat × Int32 × Int32 × mj_H) → Option (Int32 × mj_H)) (s : Nat × Int32 × Int32 × mj_H) => b_X9_next_17 (fun v0 v1 v2 h => K17 (v0, v1, v2, h)) s.1 s.2.1 s.2.2.1 s.2.2.2)
    (fun i s => s = (53, nI men, nI i, h) ∧ ffirst (opn T men) i = none)
    (fun r => r = some (nxR (ffirst (opn T men) (T 0)), h)) (T 0) (fun i hi s hs => ?_) (fun s hs => ?_) 1000 (by omega) (53, nI men, nI 0, h) ⟨rfl, rfl⟩
  · exact key
  · obtain ⟨rfl, hno⟩ := hs
    have c1 : ¬ nI (T 0) ≤ nI i := nI_ge hi (by omega)
    have k := fun K => X9_next_35_s n w hm (show i < 6 by omega) K
    by_cases q : opn T men i = true
    · right
      intro K
      rw [ff_at hi hno q]
      simp only [b_X9_next_17, n.1.now, Option.bind_some, n.a0, c1, if_false, k, q, if_true]
      rfl
    · left
      refine ⟨_, ⟨rfl, ff_next hno (by simpa using q)⟩, fun K => ?_⟩
      simp only [b_X9_next_17, n.1.now, Option.bind_some, n.a0, c1, if_false, k, q]
      rfl
  · obtain ⟨rfl, hno⟩ := hs
    intro K
    have c1 : nI (T 0) ≤ nI (T 0) := Int32.le_refl _
    rw [hno]
    simp only [b_X9_next_17, n.1.now, Option.bind_some, n.a0, c1, if_true]
    rfl
set_option maxRecDepth 20000 in
theorem noto : ∀ m, m < 6 → ∀ w, w < 64 → nI w &&& (nI (2 ^ m) ^^^ (-1 : Int32)) = nI ((w ||| 2 ^ m) - 2 ^ m) := by decide
theorem X8_isOpen_s {h : mj_H} {T : Nat → Nat} (x : XG h) (b : BN h 1 T) (w : WF T) {men m : Nat} (hm : men < 64) (hm6 : m < 6) : f_X8_isOpen 0 (nI m) (nI men) h = some (bi (opn T men m), h) := by
  have w0 := w.1
  have hp := pow6 w0
  unfold f_X8_isOpen
  rw [shl1 (show m < 31 by omega)]
  unfold f_X8_isOpen_15
  refine fix_iter (st := fun i => ((0 : Nat), nI m, nI men, nI (2 ^ m) ^^^ (-1 : Int32), bi (opI T men m i), bi (opO T men m i), nI i, h)) 32 _ (fun i hi K => ?_) (fun K => ?_) 1000 (by decide)
  · have c1 : ¬ (31 : Int32) < nI i := nI_nlt (a := 31) (by omega) (by decide)
    have e1 := X0_wearers_s b w hi true
    rw [bi_t] at e1
    obtain ⟨W, hW⟩ : ∃ W, W = wear T i true (T 0) := ⟨_, rfl⟩
    have hl : W < 2 ^ T 0 := by rw [hW]; exact wear_lt T i true (T 0)
    have hh := X8_isIn_s (s := W) (m := m) (by omega) (by omega) h
    have hm2 : 2 ^ m < 2 ^ 6 := Nat.pow_lt_pow_right (by decide) hm6
    have k1 : W ||| 2 ^ m < 2 ^ 6 := or_lt (by omega) hm2
    have k2 : men ||| 2 ^ m < 2 ^ 6 := or_lt (by omega) hm2
    have k3 : 2 ^ m ≤ W ||| 2 ^ m := Nat.right_le_or
    have k4 : 2 ^ m ≤ men ||| 2 ^ m := Nat.right_le_or
    have c2 : (nI ((W ||| 2 ^ m) - 2 ^ m) = nI ((men ||| 2 ^ m) - 2 ^ m)) ↔ W ||| 2 ^ m = men ||| 2 ^ m := by
      have gen : ∀ X Y P : Nat, X < 2 ^ 6 → Y < 2 ^ 6 → P ≤ X → P ≤ Y → ((nI (X - P) = nI (Y - P)) ↔ X = Y) := by
        intro X Y P h1 h2 h3 h4
        rw [nI_eq (by omega) (by omega)]; omega
      exact gen _ _ _ k1 k2 k3 k4
    rw [← hW] at e1
    show b_X8_isOpen_15 _ 0 (nI m) (nI men) (nI (2 ^ m) ^^^ (-1 : Int32)) (bi (opI T men m i)) (bi (opO T men m i)) (nI i) h = K (0, nI m, nI men, nI (2 ^ m) ^^^ (-1 : Int32), bi (opI T men m i || (decide (wear T i true (T 0) ||| 2 ^ m = men ||| 2 ^ m) && (wear T i true (T 0)).testBit m)), bi (opO T men m i || (decide (wear T i true (T 0) ||| 2 ^ m = men ||| 2 ^ m) && !(wear T i true (T 0)).testBit m)), nI (i + 1), h)
    rw [← hW]
    simp only [b_X8_isOpen_15, c1, if_false, x.band, b.ob, if_true, e1, Option.bind_some, noto m hm6 W (by omega), noto m hm6 men hm, c2, hh]
    by_cases q : W ||| 2 ^ m = men ||| 2 ^ m
    · rw [if_pos q]
      cases q2 : W.testBit m <;> cases opI T men m i <;> cases opO T men m i <;> simp [bi, q, f_X8_isOpen_71, f_X8_isOpen_74, nI_1]
    · rw [if_neg q]
      cases opI T men m i <;> cases opO T men m i <;> simp [bi, q, f_X8_isOpen_74, nI_1]
  · have c1 : (31 : Int32) < nI 32 := by decide
    show b_X8_isOpen_15 _ 0 (nI m) (nI men) (nI (2 ^ m) ^^^ (-1 : Int32)) (bi (opI T men m 32)) (bi (opO T men m 32)) (nI 32) h = _
    unfold opn
    simp only [b_X8_isOpen_15, c1, if_true]
    cases opI T men m 32 <;> cases opO T men m 32 <;> simp [bi]
theorem X8_next_22_s {h : mj_H} {T : Nat → Nat} (x : XG h) (b : BN h 1 T) (w : WF T) {men : Nat} (hm : men < 64) : f_X8_next_22 0 (nI men) (0 : Int32) h = some (nxR (ffirst (opn T men) (T 0)), h) := by
  have w0 := w.1
  have key := fix_w (F := fun (K22 : (Nat × Int32 × Int32 × mj_H) → Option (Int32 × mj_H)) (s : Nat × Int32 × Int32 × mj_H) => b_X8_next_22 (fun v0 v1 v2 h => K22 (v0, v1, v2, h)) s.1 s.2.1 s.2.2.1 s.2.2.2)
    (fun i s => s = (0, nI men, nI i, h) ∧ ffirst (opn T men) i = none)
    (fun r => r = some (nxR (ffirst (opn T men) (T 0)), h)) (T 0) (fun i hi s hs => ?_) (fun s hs => ?_) 1000 (by omega) (0, nI men, nI 0, h) ⟨rfl, rfl⟩
  · exact key
  · obtain ⟨rfl, hno⟩ := hs
    have c1 : ¬ nI (T 0) ≤ nI i := nI_ge hi (by omega)
    have k := X8_isOpen_s x b w hm (show i < 6 by omega)
    by_cases q : opn T men i = true
    · right
      intro K
      rw [ff_at hi hno q]
      rw [q, bi_t] at k
      simp only [b_X8_next_22, x.band, Option.bind_some, b.sz, c1, if_false, x.ob, if_true, k]
      rfl
    · left
      have q' : opn T men i = false := by simpa using q
      refine ⟨_, ⟨rfl, ff_next hno q'⟩, fun K => ?_⟩
      rw [q', bi_f] at k
      simp only [b_X8_next_22, x.band, Option.bind_some, b.sz, c1, if_false, x.ob, if_true, k, nI_1]
  · obtain ⟨rfl, hno⟩ := hs
    intro K
    have c1 : nI (T 0) ≤ nI (T 0) := Int32.le_refl _
    rw [hno]
    simp only [b_X8_next_22, x.band, Option.bind_some, b.sz, c1, if_true]
    rfl
/-! boast -/
def gt (tr own other : Nat) : Nat := if own = 0 then (if 20 ≤ tr then 1 else 3) else if other = 0 then 4 else 2 - tr / 30
def rst (tr x y : Nat) : Bool := decide (gt tr (1 - x) y ≤ gt tr x y)
def both (ta tb c : Nat) : Bool := rst ta (c / 2) (c % 2) && rst tb (c % 2) (c / 2)
def bsU (B : Nat → Bool) : Nat → Nat × Int32
  | 0 => (0, -1)
  | c + 1 => if B c = true then ((bsU B c).1 + 1, if (bsU B c).1 = 0 then nI (10 * (c / 2) + c % 2) else (bsU B c).2) else bsU B c
def bsD (B : Nat → Bool) : Nat → Nat × Int32
  | 0 => (0, -1)
  | i + 1 => if B (3 - i) = true then ((bsD B i).1 + 1, nI (10 * ((3 - i) / 2) + (3 - i) % 2)) else bsD B i
theorem bs_eq (B : Nat → Bool) : bsD B 4 = bsU B 4 := by
  unfold bsD bsD bsD bsD bsD bsU bsU bsU bsU bsU
  cases h0 : B 0 <;> cases h1 : B 1 <;> cases h2 : B 2 <;> cases h3 : B 3 <;> simp [h0, h1, h2, h3]
def bsR (what : Int32) (p : Nat × Int32) : Int32 := if what = 0 then nI p.1 else p.2
theorem gt_le {tr : Nat} (a b : Nat) : gt tr a b ≤ 4 := by unfold gt; split <;> (try split) <;> omega
theorem X8_gets_s {tr a b : Nat} (ht : tr ≤ 60) (ha : a < 2) (hb : b < 2) (h : mj_H) : f_X8_gets (nI tr) (nI a) (nI b) h = some (nI (gt tr a b), h) := by
  have c1 : (20 : Int32) ≤ nI tr ↔ 20 ≤ tr := nle_iff (a := 20) (by decide) (by omega)
  have e1 : nI tr / (30 : Int32) = nI (tr / 30) := pk_div (d := 30) (by omega) (by decide) (by decide)
  have e2 : (2 : Int32) - nI (tr / 30) = nI (2 - tr / 30) := pk_sub (a := 2) (by omega)
  have ha' : a = 0 ∨ a = 1 := by omega
  have hb' : b = 0 ∨ b = 1 := by omega
  rcases ha' with rfl | rfl
  · by_cases q : 20 ≤ tr
    · simp [f_X8_gets, gt, nI_0, c1, q]; rfl
    · simp [f_X8_gets, gt, nI_0, c1, q]; rfl
  · have z : ¬ nI 1 = (0 : Int32) := by decide
    rcases hb' with rfl | rfl
    · simp [f_X8_gets, gt, z, nI_0]; rfl
    · simp [f_X8_gets, gt, z, e1, e2]
theorem X8_rests_s {tr a b : Nat} (ht : tr ≤ 60) (ha : a < 2) (hb : b < 2) (h : mj_H) : f_X8_rests (nI tr) (nI a) (nI b) h = some (bi (rst tr a b), h) := by
  have e1 := X8_gets_s ht ha hb h
  have e2 := X8_gets_s ht (show 1 - a < 2 by omega) hb h
  have e3 : (1 : Int32) - nI a = nI (1 - a) := pk_sub (a := 1) (by omega)
  have l1 := gt_le (tr := tr) a b
  have l2 := gt_le (tr := tr) (1 - a) b
  have c : nI (gt tr a b) < nI (gt tr (1 - a) b) ↔ gt tr a b < gt tr (1 - a) b := nlt_iff (by omega) (by omega)
  by_cases q : gt tr a b < gt tr (1 - a) b
  · have : rst tr a b = false := by simp [rst]; omega
    simp [f_X8_rests, e1, e3, e2, c, q, this, bi]
  · have : rst tr a b = true := by simp [rst]; omega
    simp [f_X8_rests, e1, e3, e2, c, q, this, bi]
theorem X9_gets_s {h : mj_H} {T : Nat → Nat} (n : MN h T) (w : WF T) {m a b : Nat} (hm : m < T 0) (ha : a < 2) (hb : b < 2) : f_X9_gets 53 (nI m) (nI a) (nI b) h = some (nI (gt (trust T m) a b), h) := by
  have ht := trust_le T m
  have e0 := n.trust w hm
  have c1 : (20 : Int32) ≤ nI (trust T m) ↔ 20 ≤ trust T m := nle_iff (a := 20) (by decide) (by omega)
  have e1 : nI (trust T m) / (30 : Int32) = nI (trust T m / 30) := pk_div (d := 30) (by omega) (by decide) (by decide)
  have e2 : (2 : Int32) - nI (trust T m / 30) = nI (2 - trust T m / 30) := pk_sub (a := 2) (by omega)
  have ha' : a = 0 ∨ a = 1 := by omega
  have hb' : b = 0 ∨ b = 1 := by omega
  rcases ha' with rfl | rfl
  · have z : ¬ nI 0 = (1 : Int32) := by decide
    by_cases q : 20 ≤ trust T m
    · simp [f_X9_gets, n.1.now, e0, gt, z, c1, q]; rfl
    · simp [f_X9_gets, n.1.now, e0, gt, z, c1, q]; rfl
  · have z : nI 1 = (1 : Int32) := rfl
    rcases hb' with rfl | rfl
    · have z2 : ¬ nI 0 = (1 : Int32) := by decide
      simp only [f_X9_gets, n.1.now, e0, Option.bind_some, gt, z, z2, if_true, if_false]; rfl
    · simp only [f_X9_gets, n.1.now, e0, Option.bind_some, gt, z, if_true, e1, e2]
      rfl
theorem X9_boast_77_s {h : mj_H} {T : Nat → Nat} (n : MN h T) (w : WF T) {a b : Nat} (ha : a < T 0) (hb : b < T 0) (what : Int32) : f_X9_boast_77 53 (nI a) (nI b) what (0 : Int32) (-1 : Int32) (3 : Int32) h = some (bsR what (bsU (both (trust T a) (trust T b)) 4), h) := by
  rw [← bs_eq]
  obtain ⟨B, hB⟩ : ∃ B, B = both (trust T a) (trust T b) := ⟨_, rfl⟩
  rw [← hB]
  unfold f_X9_boast_77
  refine fix_iter (st := fun i => ((53 : Nat), nI a, nI b, what, nI (bsD B i).1, (bsD B i).2, (if i < 4 then nI (3 - i) else (-1 : Int32)), h)) 4 _ (fun i hi K => ?_) (fun K => ?_) 1000 (by decide)
  · obtain ⟨c, hc⟩ : ∃ c, c = 3 - i := ⟨_, rfl⟩
    have c1 : ¬ nI c < (0 : Int32) := nI_pos (by omega)
    have d1 : nI c / (2 : Int32) = nI (c / 2) := pk_div (d := 2) (by omega) (by decide) (by decide)
    have d2 : nI c - nI (c / 2) * (2 : Int32) = nI (c % 2) := by
      rw [← d1]; exact pk_rem (d := 2) (by omega) (by decide) (by decide)
    have s1 : ∀ x, x < 2 → (1 : Int32) - nI x = nI (1 - x) := fun x hx => pk_sub (a := 1) (by omega)
    have g1 := X9_gets_s n w ha (show c / 2 < 2 by omega) (show c % 2 < 2 by omega)
    have g2 := X9_gets_s n w ha (show 1 - c / 2 < 2 by omega) (show c % 2 < 2 by omega)
    have g3 := X9_gets_s n w hb (show c % 2 < 2 by omega) (show c / 2 < 2 by omega)
    have g4 := X9_gets_s n w hb (show 1 - c % 2 < 2 by omega) (show c / 2 < 2 by omega)
    have l1 := gt_le (tr := trust T a) (c / 2) (c % 2)
    have l2 := gt_le (tr := trust T a) (1 - c / 2) (c % 2)
    have l3 := gt_le (tr := trust T b) (c % 2) (c / 2)
    have l4 := gt_le (tr := trust T b) (1 - c % 2) (c / 2)
    have m1 : nI (gt (trust T a) (c / 2) (c % 2)) < nI (gt (trust T a) (1 - c / 2) (c % 2)) ↔ gt (trust T a) (c / 2) (c % 2) < gt (trust T a) (1 - c / 2) (c % 2) := nlt_iff (by omega) (by omega)
    have m2 : nI (gt (trust T b) (c % 2) (c / 2)) < nI (gt (trust T b) (1 - c % 2) (c / 2)) ↔ gt (trust T b) (c % 2) (c / 2) < gt (trust T b) (1 - c % 2) (c / 2) := nlt_iff (by omega) (by omega)
    have en1 : nI c + (-1 : Int32) = if i + 1 < 4 then nI (3 - (i + 1)) else -1 := by
      split
      · obtain ⟨z, hz⟩ : ∃ z, c = z + 1 := ⟨c - 1, by omega⟩
        rw [hz, pk_m1, show 3 - (i + 1) = z by omega]
      · have : c = 0 := by omega
        rw [this]; rfl
    have e10 : (10 : Int32) * nI (c / 2) + nI (c % 2) = nI (10 * (c / 2) + c % 2) := by
      rw [show (10 : Int32) = nI 10 from rfl, pk_mul, nI_add]
    show b_X9_boast_77 _ 53 (nI a) (nI b) what (nI (bsD B i).1) (bsD B i).2 (if i < 4 then nI (3 - i) else (-1 : Int32)) h = K (53, nI a, nI b, what, nI (if B (3 - i) = true then ((bsD B i).1 + 1, nI (10 * ((3 - i) / 2) + (3 - i) % 2)) else bsD B i).1, (if B (3 - i) = true then ((bsD B i).1 + 1, nI (10 * ((3 - i) / 2) + (3 - i) % 2)) else bsD B i).2, (if i + 1 < 4 then nI (3 - (i + 1)) else -1), h)
    rw [if_pos hi, ← hc, ← en1]
    have hBc : B c = (rst (trust T a) (c / 2) (c % 2) && rst (trust T b) (c % 2) (c / 2)) := by rw [hB]; rfl
    have r1 : rst (trust T a) (c / 2) (c % 2) = !decide (gt (trust T a) (c / 2) (c % 2) < gt (trust T a) (1 - c / 2) (c % 2)) := by
      unfold rst; rw [← decide_not]; exact decide_eq_decide.mpr (by omega)
    have r2 : rst (trust T b) (c % 2) (c / 2) = !decide (gt (trust T b) (c % 2) (c / 2) < gt (trust T b) (1 - c % 2) (c / 2)) := by
      unfold rst; rw [← decide_not]; exact decide_eq_decide.mpr (by omega)
    rw [r1, r2] at hBc
    have o0 : ∀ x, nI x + (0 : Int32) = nI x := fun x => by rw [show (0 : Int32) = nI 0 from rfl, nI_add, Nat.add_zero]
    simp only [b_X9_boast_77, c1, if_false, n.1.ob, if_true, d1, d2, g1, Option.bind_some, s1 _ (show c / 2 < 2 by omega), g2, m1]
    by_cases q1 : gt (trust T a) (c / 2) (c % 2) < gt (trust T a) (1 - c / 2) (c % 2)
    · have hBf : B c = false := by rw [hBc]; simp [q1]
      rw [if_pos q1]
      simp [hBf, n.1.ob, f_X9_boast_144, f_X9_boast_145, f_X9_boast_159, f_X9_boast_180, o0]
    · rw [if_neg q1]
      simp only [g3, Option.bind_some, s1 _ (show c % 2 < 2 by omega), g4, m2]
      by_cases q2 : gt (trust T b) (c % 2) (c / 2) < gt (trust T b) (1 - c % 2) (c / 2)
      · have hBf : B c = false := by rw [hBc]; simp [q2]
        rw [if_pos q2]
        simp [hBf, n.1.ob, f_X9_boast_144, f_X9_boast_145, f_X9_boast_159, f_X9_boast_180, o0]
      · have hBt : B c = true := by rw [hBc]; simp [q1, q2]
        rw [if_neg q2]
        simp [hBt, n.1.ob, f_X9_boast_145, f_X9_boast_159, f_X9_boast_180, nI_1, e10]
  · have c1 : (-1 : Int32) < 0 := by decide
    show b_X9_boast_77 _ 53 (nI a) (nI b) what (nI (bsD B 4).1) (bsD B 4).2 (if 4 < 4 then nI (3 - 4) else (-1 : Int32)) h = _
    rw [if_neg (by omega)]
    simp only [b_X9_boast_77, c1, if_true]
    unfold bsR
    split <;> rfl
theorem bsU_le {B : Nat → Bool} : ∀ n, (bsU B n).1 ≤ n
  | 0 => Nat.le_refl _
  | n + 1 => by
    have := bsU_le (B := B) n
    rw [bsU]; split
    · show (bsU B n).1 + 1 ≤ n + 1; omega
    · omega
theorem X8_boast_90_st {h : mj_H} {T : Nat → Nat} (x : XG h) (bn : BN h 1 T) (w : WF T) {a b : Nat} (ha : a < T 0) (hb : b < T 0) (what : Int32) {u v p : Nat} {f : Int32} (hu : u < 2) (hv : v < 2) (hp : p < 10) : ∃ h', S5 h h' 1 ∧ ∀ K81 K90, b_X8_boast_90 K81 K90 0 (nI a) (nI b) what (nI p) f (nI u) (nI v) h = K90 0 (nI a) (nI b) what (nI (if both (trust T a) (trust T b) (2 * u + v) = true then p + 1 else p)) (if both (trust T a) (trust T b) (2 * u + v) = true then (if p = 0 then nI (10 * u + v) else f) else f) (nI u) (nI (v + 1)) h' := by
  have hd : (2 * u + v) / 2 = u := by omega
  have hr : (2 * u + v) % 2 = v := by omega
  unfold both
  rw [hd, hr]
  obtain ⟨h1, e1, s1⟩ := X0_trustOf_s bn w ha
  have x1 : XG h1 := x.fr (s1.oth (by decide))
  have b1 := bn.s5 s1
  have l1 := trust_le T a
  have l2 := trust_le T b
  have r1 := X8_rests_s l1 hu hv h1
  have c1 : ¬ (1 : Int32) < nI v := nI_nlt (a := 1) (by omega) (by decide)
  cases q1 : rst (trust T a) u v
  · refine ⟨h1, s1, fun K81 K90 => ?_⟩
    simp [b_X8_boast_90, c1, x.band, bn.ob, e1, r1, q1, bi, f_X8_boast_155, nI_1]
  · obtain ⟨h2, e2, s2⟩ := X0_trustOf_s b1 w hb
    have r2 := X8_rests_s l2 hv hu h2
    refine ⟨h2, s1.tr s2, fun K81 K90 => ?_⟩
    cases q2 : rst (trust T b) v u
    · simp [b_X8_boast_90, c1, x.band, bn.ob, e1, r1, q1, bi, x1.band, b1.ob, e2, r2, q2, f_X8_boast_155, nI_1]
    · have e10 : (10 : Int32) * nI u + nI v = nI (10 * u + v) := by
        rw [show (10 : Int32) = nI 10 from rfl, pk_mul, nI_add]
      have c2 : (nI p = 0) ↔ p = 0 := nI_eq (by omega) (by decide)
      by_cases q3 : p = 0
      · have q3' := c2.mpr q3
        simp [b_X8_boast_90, c1, x.band, bn.ob, e1, r1, q1, bi, x1.band, b1.ob, e2, r2, q2, f_X8_boast_150, f_X8_boast_155, nI_1, c2, q3, e10, q3', nI_0]
        rfl
      · simp [b_X8_boast_90, c1, x.band, bn.ob, e1, r1, q1, bi, x1.band, b1.ob, e2, r2, q2, f_X8_boast_150, f_X8_boast_155, nI_1, c2, q3]
theorem X8_boast_90_s {h : mj_H} {T : Nat → Nat} (x : XG h) (bn : BN h 1 T) (w : WF T) {a b : Nat} (ha : a < T 0) (hb : b < T 0) (what : Int32) {u : Nat} (hu : u < 2) {B : Nat → Bool} (hB : B = both (trust T a) (trust T b)) : ∃ h', S5 h h' 1 ∧ ∀ K81, f_X8_boast_90 K81 0 (nI a) (nI b) what (nI (bsU B (2 * u)).1) (bsU B (2 * u)).2 (nI u) (0 : Int32) h = K81 0 (nI a) (nI b) what (nI (bsU B (2 * u + 2)).1) (bsU B (2 * u + 2)).2 (nI (u + 1)) h' := by
  have p1 := bsU_le (B := B) (2 * u)
  have p2 := bsU_le (B := B) (2 * u + 1)
  obtain ⟨h1, s1, k1⟩ := X8_boast_90_st x bn w ha hb what (u := u) (v := 0) (p := (bsU B (2 * u)).1) (f := (bsU B (2 * u)).2) hu (by decide) (by omega)
  have x1 : XG h1 := x.fr (s1.oth (by decide))
  have b1 := bn.s5 s1
  obtain ⟨h2, s2, k2⟩ := X8_boast_90_st x1 b1 w ha hb what (u := u) (v := 1) (p := (bsU B (2 * u + 1)).1) (f := (bsU B (2 * u + 1)).2) hu (by decide) (by omega)
  refine ⟨h2, s1.tr s2, fun K81 => ?_⟩
  rw [← hB] at k1 k2
  have u1 : bsU B (2 * u + 1) = if B (2 * u) = true then ((bsU B (2 * u)).1 + 1, if (bsU B (2 * u)).1 = 0 then nI (10 * (2 * u / 2) + 2 * u % 2) else (bsU B (2 * u)).2) else bsU B (2 * u) := rfl
  have u2 : bsU B (2 * u + 2) = if B (2 * u + 1) = true then ((bsU B (2 * u + 1)).1 + 1, if (bsU B (2 * u + 1)).1 = 0 then nI (10 * ((2 * u + 1) / 2) + (2 * u + 1) % 2) else (bsU B (2 * u + 1)).2) else bsU B (2 * u + 1) := rfl
  rw [show 2 * u / 2 = u by omega, show 2 * u % 2 = 0 by omega] at u1
  rw [show (2 * u + 1) / 2 = u by omega, show (2 * u + 1) % 2 = 1 by omega] at u2
  have v1 : nI (bsU B (2 * u + 1)).1 = nI (if B (2 * u + 0) = true then (bsU B (2 * u)).1 + 1 else (bsU B (2 * u)).1) := by
    rw [u1]; show _ = nI (if B (2 * u) = true then _ else _); split <;> rfl
  have v2 : (bsU B (2 * u + 1)).2 = (if B (2 * u + 0) = true then (if (bsU B (2 * u)).1 = 0 then nI (10 * u + 0) else (bsU B (2 * u)).2) else (bsU B (2 * u)).2) := by
    rw [u1]; show _ = (if B (2 * u) = true then _ else _); split <;> rfl
  have v3 : nI (bsU B (2 * u + 2)).1 = nI (if B (2 * u + 1) = true then (bsU B (2 * u + 1)).1 + 1 else (bsU B (2 * u + 1)).1) := by
    rw [u2]; split <;> rfl
  have v4 : (bsU B (2 * u + 2)).2 = (if B (2 * u + 1) = true then (if (bsU B (2 * u + 1)).1 = 0 then nI (10 * u + 1) else (bsU B (2 * u + 1)).2) else (bsU B (2 * u + 1)).2) := by
    rw [u2]; split <;> rfl
  have c1 : (1 : Int32) < nI 2 := by decide
  unfold f_X8_boast_90
  show b_X8_boast_90 K81 _ 0 (nI a) (nI b) what (nI (bsU B (2 * u)).1) (bsU B (2 * u)).2 (nI u) (nI 0) h = _
  rw [k1, ← v1, ← v2]
  show b_X8_boast_90 K81 _ 0 (nI a) (nI b) what (nI (bsU B (2 * u + 1)).1) (bsU B (2 * u + 1)).2 (nI u) (nI 1) h1 = _
  rw [k2, ← v3, ← v4]
  show b_X8_boast_90 K81 _ 0 (nI a) (nI b) what (nI (bsU B (2 * u + 2)).1) (bsU B (2 * u + 2)).2 (nI u) (nI 2) h2 = _
  simp only [b_X8_boast_90, c1, if_true, nI_1]
theorem X8_boast_81_s {h : mj_H} {T : Nat → Nat} (x : XG h) (bn : BN h 1 T) (w : WF T) {a b : Nat} (ha : a < T 0) (hb : b < T 0) (what : Int32) : ∃ h', S5 h h' 1 ∧ f_X8_boast_81 0 (nI a) (nI b) what (0 : Int32) (-1 : Int32) (0 : Int32) h = some (bsR what (bsU (both (trust T a) (trust T b)) 4), h') := by
  obtain ⟨B, hB⟩ : ∃ B, B = both (trust T a) (trust T b) := ⟨_, rfl⟩
  rw [← hB]
  obtain ⟨h1, s1, k1⟩ := X8_boast_90_s x bn w ha hb what (u := 0) (by decide) hB
  have x1 : XG h1 := x.fr (s1.oth (by decide))
  have b1 := bn.s5 s1
  obtain ⟨h2, s2, k2⟩ := X8_boast_90_s x1 b1 w ha hb what (u := 1) (by decide) hB
  refine ⟨h2, s1.tr s2, ?_⟩
  have c0 : ¬ (1 : Int32) < nI 0 := by decide
  have c1 : ¬ (1 : Int32) < nI 1 := by decide
  have c2 : (1 : Int32) < nI 2 := by decide
  unfold f_X8_boast_81
  show b_X8_boast_81 _ 0 (nI a) (nI b) what (nI (bsU B (2 * 0)).1) (bsU B (2 * 0)).2 (nI 0) h = _
  rw [b_X8_boast_81, if_neg c0, k1]
  show b_X8_boast_81 _ 0 (nI a) (nI b) what (nI (bsU B (2 * 1)).1) (bsU B (2 * 1)).2 (nI 1) h1 = _
  rw [b_X8_boast_81, if_neg c1, k2]
  show b_X8_boast_81 _ 0 (nI a) (nI b) what (nI (bsU B 4).1) (bsU B 4).2 (nI 2) h2 = _
  rw [b_X8_boast_81, if_pos c2]
  unfold bsR
  split <;> rfl
