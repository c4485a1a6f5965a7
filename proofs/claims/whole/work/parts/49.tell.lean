/-! PURE: what is told to a band (class) -/
def musterT (d : Nat) : Nat → Nat := fun j => if j = 1 then d else 0
def manT (T g : Nat → Nat) : Nat → Nat := fun j => if j = 0 then T 0 + 1 else if j = 3 then 0 else if 16 + 6 * T 0 ≤ j ∧ j < 16 + 6 * T 0 + 6 then g (j - (16 + 6 * T 0)) else T j
def wornT (T : Nat → Nat) (m s : Nat) : Nat → Nat := fun j => if j = 3 then 0 else if j = 4 + m then s else T j
def pairT (T : Nat → Nat) (a b : Nat) : Nat → Nat := fun j => if j = 3 then 0 else if j = 10 + a then T j ||| 2 ^ b else if j = 10 + b then T j ||| 2 ^ a else T j
def wordT (T : Nat → Nat) (m : Nat) : Nat → Nat := fun j => if j = 3 then 0 else if j = 2 then T 2 ||| 2 ^ m else T j
abbrev tN (x : Int32) : Nat := x.toNatClampNeg
def WZ (T : Nat → Nat) : Prop := ∀ m, T 0 ≤ m → m < 6 → T (4 + m) = 0 ∧ T (10 + m) = 0
def gN (f : Nat → Int32) : Nat → Nat := fun k => tN (f k)
def aOk (f : Nat → Int32) : Nat → Bool
  | 0 => true
  | n + 1 => aOk f n && mj_ok (f n) 10
theorem aOk_ix {f : Nat → Int32} : ∀ {n : Nat}, aOk f n = true ↔ ∀ k, k < n → mj_ok (f k) 10 = true
  | 0 => by simp [aOk]
  | n + 1 => by
    simp only [aOk, Bool.and_eq_true]
    rw [aOk_ix]
    constructor
    · intro h k hk
      rcases Nat.lt_or_ge k n with q | q
      · exact h.1 k q
      · have : k = n := by omega
        subst this; exact h.2
    · intro h
      exact ⟨fun k hk => h k (by omega), h n (by omega)⟩
theorem ok_c {x : Int32} {n : Nat} (h : mj_ok x n = true) : x = nI (tN x) ∧ tN x < n ∧ tN x < 2 ^ 31 := by
  obtain ⟨a, h1, h2, rfl⟩ := ok_ex h
  have e : tN (nI a) = a := nI_clamp h2
  exact ⟨by rw [e], by rw [e]; exact h1, by rw [e]; exact h2⟩
theorem ok_no {x : Int32} {n : Nat} (hn : n < 2 ^ 31) (h : mj_ok x n = false) : x < 0 ∨ nI n ≤ x := by
  by_cases q1 : x < 0
  · exact Or.inl q1
  · by_cases q2 : nI n ≤ x
    · exact Or.inr q2
    · rw [(ok_iff hn).mpr ⟨q1, q2⟩] at h; cases h
def musterR (T : Nat → Nat) (x : Int32) : Int32 × (Nat → Nat) := if mj_ok x 100 = true then (nI (T 0), musterT (tN x)) else (-2, T)
def manR (T : Nat → Nat) (f : Nat → Int32) : Int32 × (Nat → Nat) := if aOk f 6 = true ∧ 0 < sm (gN f) 6 then (if T 0 < 6 then (nI (T 0), manT T (gN f)) else (-4, T)) else (-2, T)
def wornR (T : Nat → Nat) (m s : Int32) : Int32 × (Nat → Nat) := if mj_ok m (T 0) = true ∧ mj_ok s 32 = true then (nI (T (4 + tN m)), wornT T (tN m) (tN s)) else (-2, T)
def pairR (T : Nat → Nat) (a b : Int32) : Int32 × (Nat → Nat) := if mj_ok a (T 0) = true ∧ mj_ok b (T 0) = true ∧ a ≠ b then (if brob T (tN a) (tN b) = true then (-3, T) else (1, pairT T (tN a) (tN b))) else (-2, T)
def wordR (T : Nat → Nat) (m : Int32) : Int32 × (Nat → Nat) := if mj_ok m (T 0) = true then (if know T (tN m) = true then (-3, T) else (1, wordT T (tN m))) else (-2, T)
/-- 0 ≤ x ≤ n, the compiler's way -/
theorem ok_le {x : Int32} {n : Nat} (hn : n < 2 ^ 30) : mj_ok x (n + 1) = true ↔ (¬ x < 0 ∧ x ≤ nI n) := by
  simp only [mj_ok, Bool.and_eq_true, decide_eq_true_eq, Int32.lt_iff_toInt_lt, Int32.le_iff_toInt_le, nI_toInt (show n < 2 ^ 31 by omega), Int32.toInt_zero]
  omega
theorem ltlen {h : mj_H} {i : Nat} {c : mj_C} (hi : h[i]? = some c) : i < h.length := (List.getElem?_eq_some_iff.mp hi).1
theorem sV_s {h : mj_H} {p c k : Nat} {d : mj_C} {fs : List Value} (v : Value) (hp : h[p]? = some d) (hk : k < fs.length) : mj_sV (h.set p (cO c fs)) p c k v = some (h.set p (cO c (fs.set k v))) := by
  rw [sV_r v (get_self hp) hk, List.set_set]
theorem X0_begin_s {h : mj_H} {p : Nat} {T : Nat → Nat} (b : BN h p T) (x : Int32) : ∃ h', f_X0_begin p x h = some ((musterR T x).1, h') ∧ BN h' p (musterR T x).2 ∧ h'.length = h.length ∧ ∀ k, (k < p ∨ p + 6 ≤ k) → h'[k]? = h[k]? := by
  have k := ok_le (x := x) (n := 99) (by decide)
  by_cases q : mj_ok x 100 = true
  · obtain ⟨q1, q2⟩ := k.mp q
    obtain ⟨e1, e2, e3⟩ := ok_c q
    obtain ⟨b0, b1, ⟨w, b2, b3⟩, ⟨sg, b4, b5⟩, ⟨br, b6, b7⟩, b8, g, b9⟩ := b
    have q3 : x ≤ (99 : Int32) := q2
    refine ⟨h.set p (cO 0 [.ref (p + 1), .ref (p + 2), .ref (p + 3), .ref (p + 4), .int 0, .int 0, .int (nI (tN x))]), ?_, ?_, by simp, fun k hk => List.getElem?_set_ne (by omega)⟩
    · simp [f_X0_begin, q1, q3, mj_gI, mj_gV, b1, sV_r _ b1, sV_s _ b1, musterR, q, ← e1]
    · simp only [musterR, if_pos q]
      exact ⟨by simp [musterT], by simpa [musterT, nI_0] using get_self b1, ⟨w, get_set b2 (by omega), fun i hi => by simp [musterT] at hi⟩, ⟨sg, get_set b4 (by omega), fun i hi => by simp [musterT] at hi⟩, ⟨br, get_set b6 (by omega), fun i hi => by simp [musterT] at hi⟩, get_set b8 (by omega), g, get_set b9 (by omega)⟩
  · refine ⟨h, ?_, ?_, rfl, fun _ _ => rfl⟩
    · by_cases q1 : x < 0
      · simp [f_X0_begin, q1, musterR, q]
      · have q2 : ¬ x ≤ (99 : Int32) := fun z => q (k.mpr ⟨q1, z⟩)
        simp [f_X0_begin, q1, q2, musterR, q]
    · simp only [musterR, if_neg q]; exact b
theorem X0_areWeights_s {h : mj_H} {q : Nat} {f : Nat → Int32} (hf : h[q]? = some (cI 6 f)) : f_X0_areWeights q h = some (bi (aOk f 6 && decide (0 < sm (gN f) 6)), h) := by
  unfold f_X0_areWeights f_X0_areWeights_4
  have key := fix_inv (F := (fun (K4 : (Nat × Int32 × Int32 × mj_H) → Option (Int32 × mj_H)) (s : Nat × Int32 × Int32 × mj_H) => b_X0_areWeights_4 (fun v0 v1 v2 h => K4 (v0, v1, v2, h)) s.1 s.2.1 s.2.2.1 s.2.2.2)) (fun i s => s = (q, bi (decide (0 < sm (gN f) i)), nI i, h) ∧ aOk f i = true) (fun r => r = (bi (aOk f 6 && decide (0 < sm (gN f) 6)), h)) 6 (fun i hi s hs => ?_) (fun s hs => ?_) 1000 (by decide) (q, (0 : Int32), (0 : Int32), h) ⟨rfl, rfl⟩
  · obtain ⟨r, k1, k2⟩ := key
    rw [k1, k2]
  · obtain ⟨rfl, ha⟩ := hs
    have k := ok_le (x := f i) (n := 9) (by decide)
    have hlt : ¬ nI 6 ≤ nI i := nI_ge hi (by omega)
    by_cases z : mj_ok (f i) 10 = true
    · left
      obtain ⟨z1, z2⟩ := k.mp z
      obtain ⟨e1, e2, e3⟩ := ok_c z
      have z3 : f i ≤ (9 : Int32) := z2
      refine ⟨_, ⟨rfl, by simp [aOk, ha, z]⟩, fun K => ?_⟩
      have eb : ∀ z : Int32, nI i + z = nI i + z := fun _ => rfl
      by_cases y : gN f i = 0
      · have y2 : f i ≤ 0 := by rw [e1]; rw [show tN (f i) = 0 from y]; decide
        have y3 : sm (gN f) (i + 1) = sm (gN f) i := by simp only [sm]; omega
        rw [y3]
        have y4 : bi (decide (0 < sm (gN f) i)) ||| (0 : Int32) = bi (decide (0 < sm (gN f) i)) := by
          cases decide (0 < sm (gN f) i) <;> rfl
        simp [b_X0_areWeights_4, f_X0_areWeights_38, aL_I hf, hlt, aI_r hf hi (by decide), z1, z3, y2, y4, nI_1]
      · have y2 : ¬ f i ≤ 0 := by rw [e1]; exact nI_nle (by unfold gN at y; omega) e3
        have y3 : decide (0 < sm (gN f) (i + 1)) = true := decide_eq_true (by show 0 < sm (gN f) i + gN f i; omega)
        rw [y3]
        have y4 : bi (decide (0 < sm (gN f) i)) ||| (1 : Int32) = bi true := by
          cases decide (0 < sm (gN f) i) <;> rfl
        simp [b_X0_areWeights_4, f_X0_areWeights_38, aL_I hf, hlt, aI_r hf hi (by decide), z1, z3, y2, y4, nI_1]
    · right
      have za : aOk f 6 = false := by
        cases zz : aOk f 6
        · rfl
        · exact absurd (aOk_ix.mp zz i hi) z
      refine ⟨_, rfl, fun K => ?_⟩
      by_cases z1 : f i < 0
      · simp [b_X0_areWeights_4, aL_I hf, hlt, aI_r hf hi (by decide), z1, za, bi_f]
      · have z3 : ¬ f i ≤ (9 : Int32) := fun y => z (k.mpr ⟨z1, y⟩)
        simp [b_X0_areWeights_4, aL_I hf, hlt, aI_r hf hi (by decide), z1, z3, za, bi_f]
  · obtain ⟨rfl, ha⟩ := hs
    refine ⟨_, rfl, fun K => ?_⟩
    have hle : nI 6 ≤ nI 6 := by decide
    simp [b_X0_areWeights_4, aL_I hf, hle, ha, bi_01]
theorem X0_enrol_s {h : mj_H} {p q : Nat} {T : Nat → Nat} {f : Nat → Int32} (b : BN h p T) (wz : WZ T) (hf : h[q]? = some (cI 6 f)) (dq : q < p ∨ p + 6 ≤ q) : ∃ h', f_X0_enrol p q h = some ((manR T f).1, h') ∧ BN h' p (manR T f).2 ∧ h'.length = h.length ∧ ∀ k, (k < p ∨ p + 6 ≤ k) → h'[k]? = h[k]? := by
  have c6 : nI 6 = (6 : Int32) := rfl
  have hA := X0_areWeights_s hf
  have b' := b
  obtain ⟨b0, b1, ⟨w, b2, b3⟩, ⟨sg, b4, b5⟩, ⟨br, b6, b7⟩, b8, g, b9⟩ := b'
  have nneg : ¬ nI (T 0) < 0 := nI_pos (by omega)
  by_cases z : aOk f 6 = true ∧ 0 < sm (gN f) 6
  · have hA' : f_X0_areWeights q h = some (1, h) := by rw [hA]; simp [z.1, z.2, bi_t]
    by_cases y : T 0 < 6
    · have ylt : nI (T 0) < (6 : Int32) := nI_lt (b := 6) y (by decide)
      have er : manR T f = (nI (T 0), manT T (gN f)) := by simp [manR, z, y]
      rw [er]
      have main : f_X0_enrol_41 p q (nI (T 0)) (0 : Int32) h = some (nI (T 0), (((h.set (p + 1) (cJ 36 (fill2 (fun k => (f k).toInt64) w (6 * T 0) 6))).set (p + 2) (cI 6 (upd sg (T 0) 0))).set (p + 3) (cI 6 (upd br (T 0) 0))).set p (cO 0 [.ref (p + 1), .ref (p + 2), .ref (p + 3), .ref (p + 4), .int (nI (T 0 + 1)), .int (nI (T 2)), .int (nI (T 1))])) := by
        unfold f_X0_enrol_41
        have h0 : (p, q, nI (T 0), (0 : Int32), h) = (fun i => (p, q, nI (T 0), nI i, h.set (p + 1) (cJ 36 (fill2 (fun k => (f k).toInt64) w (6 * T 0) i)))) 0 := by
          simp only [fill2_0, set_same b2]; rfl
        rw [h0]
        refine fix_iter (st := fun i => (p, q, nI (T 0), nI i, h.set (p + 1) (cJ 36 (fill2 (fun k => (f k).toInt64) w (6 * T 0) i)))) 6 _ (fun i hi K => ?_) (fun K => ?_) 1000 (by decide)
        · have g1 := get_set (c := cJ 36 (fill2 (fun k => (f k).toInt64) w (6 * T 0) i)) b1 (show p + 1 ≠ p by omega)
          have g2 := get_self (c := cJ 36 (fill2 (fun k => (f k).toInt64) w (6 * T 0) i)) b2
          have g3 := get_set (c := cJ 36 (fill2 (fun k => (f k).toInt64) w (6 * T 0) i)) hf (show p + 1 ≠ q by omega)
          have e1 := X0_setWeight_s ((f i).toInt64) g1 g2 y hi
          have e2 := fill2_J (fun k => (f k).toInt64) w (6 * T 0) i
          simp [b_X0_enrol_41, le6 hi, aI_r g3 hi (by decide), mj_ob, g1, e1, e2, nI_1]
        · have g1 := get_set (c := cJ 36 (fill2 (fun k => (f k).toInt64) w (6 * T 0) 6)) b1 (show p + 1 ≠ p by omega)
          have g2 := get_set (c := cJ 36 (fill2 (fun k => (f k).toInt64) w (6 * T 0) 6)) b4 (show p + 1 ≠ p + 2 by omega)
          have g3 := get_set (c := cJ 36 (fill2 (fun k => (f k).toInt64) w (6 * T 0) 6)) b6 (show p + 1 ≠ p + 3 by omega)
          have g4 := get_set (c := cI 6 (upd sg (T 0) 0)) g1 (show p + 2 ≠ p by omega)
          have g5 := get_set (c := cI 6 (upd sg (T 0) 0)) g3 (show p + 2 ≠ p + 3 by omega)
          have g6 := get_set (c := cI 6 (upd br (T 0) 0)) g4 (show p + 3 ≠ p by omega)
          have u1 := uI_r (0 : Int32) g2 y (by decide)
          have u2 := uI_r (0 : Int32) g5 y (by decide)
          have r1 := gR_r (k := 1) (q := p + 2) g1 rfl
          have r2 := gR_r (k := 2) (q := p + 3) g4 rfl
          have r3 := gI_r (k := 4) (x := nI (T 0)) g6 rfl
          have r4 := sV_r (k := 4) (.int (nI (T 0 + 1))) g6 (by simp)
          simp only [b_X0_enrol_41, if_pos ge6, r1, u1, r2, u2, r3, nI_1, r4, Option.bind_some]
          rfl
      have fin := (show f_X0_enrol p q h = f_X0_enrol_41 p q (nI (T 0)) (0 : Int32) h by simp [f_X0_enrol, aL_I hf, c6, hA', mj_gI, mj_gV, b1, nneg, ylt]).trans main
      refine ⟨_, fin, ?_, ?_, ?_⟩
      · show BN _ p (manT T (gN f))
        have t0 : manT T (gN f) 0 = T 0 + 1 := by simp [manT]
        have t1 : manT T (gN f) 1 = T 1 := by unfold manT; rw [if_neg (by decide), if_neg (by decide), if_neg (by omega)]
        have t2 : manT T (gN f) 2 = T 2 := by unfold manT; rw [if_neg (by decide), if_neg (by decide), if_neg (by omega)]
        refine ⟨by rw [t0]; omega, by rw [t0, t1, t2]; exact get_self (get_set (get_set (get_set b1 (by omega)) (by omega)) (by omega)), ⟨_, get_set (get_set (get_set (get_self b2) (by omega)) (by omega)) (by omega), fun i hi => ?_⟩, ⟨_, get_set (get_set (get_self (get_set b4 (by omega))) (by omega)) (by omega), fun m hm => ?_⟩, ⟨_, get_set (get_self (get_set (get_set b6 (by omega)) (by omega))) (by omega), fun m hm => ?_⟩, get_set (get_set (get_set (get_set b8 (by omega)) (by omega)) (by omega)) (by omega), g, get_set (get_set (get_set (get_set b9 (by omega)) (by omega)) (by omega)) (by omega)⟩
        · rw [t0] at hi
          by_cases x : 6 * T 0 ≤ i
          · have hk := aOk_ix.mp z.1 (i - 6 * T 0) (by omega)
            obtain ⟨e1, e2, e3⟩ := ok_c hk
            rw [fill2_in x (by omega)]
            unfold manT
            rw [if_neg (by omega), if_neg (by omega), if_pos (by omega), show 16 + i - (16 + 6 * T 0) = i - 6 * T 0 by omega]
            show (f (i - 6 * T 0)).toInt64 = lN (tN (f (i - 6 * T 0)))
            conv => lhs; rw [e1]
            exact lN_toInt64 e3
          · rw [fill2_out (by omega), b3 i (by omega)]
            unfold manT
            rw [if_neg (by omega), if_neg (by omega), if_neg (by omega)]
        · rw [t0] at hm
          have e : manT T (gN f) (4 + m) = T (4 + m) := by unfold manT; rw [if_neg (by omega), if_neg (by omega), if_neg (by omega)]
          rw [e]
          by_cases x : m = T 0
          · subst x; rw [pk_us, (wz _ (Nat.le_refl _) (by omega)).1]; rfl
          · rw [pk_un x]; exact b5 m (by omega)
        · rw [t0] at hm
          have e : manT T (gN f) (10 + m) = T (10 + m) := by unfold manT; rw [if_neg (by omega), if_neg (by omega), if_neg (by omega)]
          rw [e]
          by_cases x : m = T 0
          · subst x; rw [pk_us, (wz _ (Nat.le_refl _) (by omega)).2]; rfl
          · rw [pk_un x]; exact b7 m (by omega)
      · simp
      · intro k hk
        rw [List.getElem?_set_ne (by omega), List.getElem?_set_ne (by omega), List.getElem?_set_ne (by omega), List.getElem?_set_ne (by omega)]
    · have er : manR T f = (-4, T) := by simp [manR, z, y]
      have ylt : ¬ nI (T 0) < (6 : Int32) := nI_nlt (b := 6) (by omega) (by omega)
      exact ⟨h, by rw [er]; simp [f_X0_enrol, aL_I hf, c6, hA', mj_gI, mj_gV, b1, nneg, ylt], by rw [er]; exact b, rfl, fun _ _ => rfl⟩
  · have er : manR T f = (-2, T) := by simp only [manR, if_neg z]
    have hA' : f_X0_areWeights q h = some (0, h) := by
      rw [hA]
      cases zz : aOk f 6
      · simp [bi_f]
      · have : ¬ 0 < sm (gN f) 6 := fun y => z ⟨zz, y⟩
        simp [this, bi_f]
    exact ⟨h, by rw [er]; simp [f_X0_enrol, aL_I hf, c6, hA'], by rw [er]; exact b, rfl, fun _ _ => rfl⟩
