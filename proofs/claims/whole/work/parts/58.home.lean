/-! PURE: whom to send home -/
def bp (T : Nat → Nat) (st t a b : Nat) : Bool := st.testBit a && st.testBit b && brob T a b && decide (trust T a + trust T b < t)
def wlI (T : Nat → Nat) (st t a : Nat) : Nat → Bool
  | 0 => true
  | b + 1 => wlI T st t a b && !bp T st t a b
def wl (T : Nat → Nat) (st t : Nat) : Nat → Bool
  | 0 => true
  | a + 1 => wl T st t a && wlI T st t a a
theorem wlI_iff {T : Nat → Nat} {st t a : Nat} : ∀ {n : Nat}, wlI T st t a n = true ↔ ∀ b, b < n → bp T st t a b = false
  | 0 => by simp [wlI]
  | n + 1 => by
    simp only [wlI, Bool.and_eq_true, wlI_iff (n := n), Bool.not_eq_true']
    constructor
    · rintro ⟨h1, h2⟩ b hb
      by_cases q : b = n
      · subst q; exact h2
      · exact h1 b (by omega)
    · intro h
      exact ⟨fun b hb => h b (by omega), h n (by omega)⟩
theorem wl_iff {T : Nat → Nat} {st t : Nat} : ∀ {n : Nat}, wl T st t n = true ↔ ∀ a, a < n → ∀ b, b < a → bp T st t a b = false
  | 0 => by simp [wl]
  | n + 1 => by
    simp only [wl, Bool.and_eq_true, wl_iff (n := n), wlI_iff]
    constructor
    · rintro ⟨h1, h2⟩ a ha b hb
      by_cases q : a = n
      · subst q; exact h2 b hb
      · exact h1 a (by omega) b hb
    · intro h
      exact ⟨fun a ha b hb => h a (by omega) b hb, fun b hb => h n (by omega) b hb⟩
theorem bp_sym {T : Nat → Nat} (w : WF T) {st t a b : Nat} (ha : a < T 0) (hb : b < T 0) : bp T st t a b = bp T st t b a := by
  unfold bp
  rw [w.2.2.2.2.2.1 a ha b hb, Nat.add_comm (trust T a)]
  cases st.testBit a <;> cases st.testBit b <;> rfl
theorem wl_0 {T : Nat → Nat} {t n : Nat} : wl T 0 t n = true := wl_iff.mpr (fun a _ b _ => by simp [bp])
theorem nlt_iff {a b : Nat} (ha : a < 2 ^ 31) (hb : b < 2 ^ 31) : nI a < nI b ↔ a < b := by
  rw [Int32.lt_iff_toInt_lt, nI_toInt ha, nI_toInt hb]; omega
theorem nle_iff {a b : Nat} (ha : a < 2 ^ 31) (hb : b < 2 ^ 31) : nI a ≤ nI b ↔ a ≤ b := by
  rw [Int32.le_iff_toInt_le, nI_toInt ha, nI_toInt hb]; omega
theorem X9_areWell_19_s {h : mj_H} {T : Nat → Nat} (n : MN h T) (w : WF T) {st t a : Nat} (hs : st < 64) (ht : t ≤ 120) (ha : a < T 0) (b : Bool) (K5 : Nat → Int32 → Int32 → Int32 → Int32 → mj_H → Option (Int32 × mj_H)) : f_X9_areWell_19 K5 53 (nI st) (nI t) (bi b) (nI a) (0 : Int32) h = K5 53 (nI st) (nI t) (bi (b && wlI T st t a a)) (nI (a + 1)) h := by
  have w0 := w.1
  have hb6 := w.br ha
  unfold f_X9_areWell_19
  have h0 : ((53 : Nat), nI st, nI t, bi b, nI a, (0 : Int32), h) = (fun i => (53, nI st, nI t, bi (b && wlI T st t a i), nI a, nI i, h)) 0 := by
    simp [wlI, nI_0]
  rw [h0]
  refine fix_iter (st := fun i => ((53 : Nat), nI st, nI t, bi (b && wlI T st t a i), nI a, nI i, h)) a _ (fun i hi K => ?_) (fun K => ?_) 1000 (by omega)
  · have c1 : ¬ nI a ≤ nI i := nI_ge hi (by omega)
    have e1 := X9_has_s (s := st) (m := a) (by omega) (by omega) h
    have e2 := X9_has_s (s := st) (m := i) (by omega) (by omega) h
    have e3 := X9_has_s (s := T (10 + a)) (m := i) (by omega) (by omega) h
    have r0 := n.a (j := 10 + a) (by omega)
    have r := r0
    rw [← nI_add] at r
    have t1 := n.trust w ha
    have t2 := n.trust w (show i < T 0 by omega)
    have l1 := trust_le T a
    have l2 := trust_le T i
    have c2 : nI (trust T a + trust T i) < nI t ↔ trust T a + trust T i < t := nlt_iff (by omega) (by omega)
    show b_X9_areWell_19 K5 _ 53 (nI st) (nI t) (bi (b && wlI T st t a i)) (nI a) (nI i) h = K (53, nI st, nI t, bi (b && (wlI T st t a i && !bp T st t a i)), nI a, nI (i + 1), h)
    rw [← Bool.and_assoc]
    obtain ⟨v, hv⟩ : ∃ v, v = (b && wlI T st t a i) := ⟨_, rfl⟩
    rw [← hv]
    simp only [b_X9_areWell_19, c1, if_false, e1, Option.bind_some]
    unfold bp
    cases q1 : st.testBit a
    · cases v <;> simp [bi, f_X9_areWell_66, f_X9_areWell_67, f_X9_areWell_101, f_X9_areWell_105, f_X9_areWell_106, nI_1]
    · cases q2 : st.testBit i
      · cases v <;> simp [bi, e2, q2, f_X9_areWell_66, f_X9_areWell_67, f_X9_areWell_101, f_X9_areWell_105, f_X9_areWell_106, nI_1]
      · cases q3 : (T (10 + a)).testBit i
        · have q3' : brob T a i = false := q3
          cases v <;> simp [bi, e2, q2, n.1.now, show (10 : Int32) = nI 10 from rfl, r, e3, q3, q3', f_X9_areWell_66, f_X9_areWell_67, f_X9_areWell_101, f_X9_areWell_105, f_X9_areWell_106, nI_1]
        · have q3' : brob T a i = true := q3
          by_cases q4 : trust T a + trust T i < t
          · cases v <;> simp [bi, e2, q2, n.1.now, show (10 : Int32) = nI 10 from rfl, r0, e3, q3, q3', f_X9_areWell_67, f_X9_areWell_101, f_X9_areWell_105, f_X9_areWell_106, nI_1, t1, t2, nI_add, c2, q4]
          · cases v <;> simp [bi, e2, q2, n.1.now, show (10 : Int32) = nI 10 from rfl, r0, e3, q3, q3', f_X9_areWell_67, f_X9_areWell_101, f_X9_areWell_105, f_X9_areWell_106, nI_1, t1, t2, nI_add, c2, q4]
  · have c1 : nI a ≤ nI a := Int32.le_refl _
    show b_X9_areWell_19 K5 _ 53 (nI st) (nI t) (bi (b && wlI T st t a a)) (nI a) (nI a) h = _
    simp only [b_X9_areWell_19, c1, if_true, nI_1]
theorem X9_areWell_s {h : mj_H} {T : Nat → Nat} (n : MN h T) (w : WF T) {st t : Nat} (hs : st < 64) (ht : t ≤ 120) : f_X9_areWell 53 (nI st) (nI t) h = some (bi (wl T st t (T 0)), h) := by
  have w0 := w.1
  unfold f_X9_areWell f_X9_areWell_5
  refine fix_iter (st := fun i => ((53 : Nat), nI st, nI t, bi (wl T st t i), nI i, h)) (T 0) _ (fun i hi K => ?_) (fun K => ?_) 1000 (by omega)
  · have c1 : ¬ nI (T 0) ≤ nI i := nI_ge hi (by omega)
    have key := X9_areWell_19_s n w hs ht hi (wl T st t i) (fun v0 v1 v2 v3 v4 h => K (v0, v1, v2, v3, v4, h))
    show b_X9_areWell_5 _ 53 (nI st) (nI t) (bi (wl T st t i)) (nI i) h = K (53, nI st, nI t, bi (wl T st t i && wlI T st t i i), nI (i + 1), h)
    simp only [b_X9_areWell_5, n.1.now, Option.bind_some, n.a0, c1, if_false]
    exact key
  · have c1 : nI (T 0) ≤ nI (T 0) := Int32.le_refl _
    show b_X9_areWell_5 _ 53 (nI st) (nI t) (bi (wl T st t (T 0))) (nI (T 0)) h = _
    simp only [b_X9_areWell_5, n.1.now, Option.bind_some, n.a0, c1, if_true, bi_01]
/-- the best set to send home, upward and downward -/
def hmU (W : Nat → Bool) (all : Nat) : Nat → Nat
  | 0 => all
  | n + 1 => if popc n < popc (hmU W all n) ∧ W n = true then n else hmU W all n
def hmD (W : Nat → Bool) (all : Nat) : Nat → Nat
  | 0 => all
  | n + 1 => if popc (all - n) ≤ popc (hmD W all n) ∧ W (all - n) = true then all - n else hmD W all n
theorem popc_all : ∀ c, c ≤ 6 → ∀ n, n < 2 ^ c - 1 → popc n < popc (2 ^ c - 1) := by decide
theorem hmU_ok {W : Nat → Bool} {all : Nat} (ha : ∀ n, n < all → popc n < popc all) (hw : W all = true) : ∀ n, n ≤ all + 1 → W (hmU W all n) = true ∧ hmU W all n ≤ all ∧ (hmU W all n = all ∨ hmU W all n < n) ∧ ∀ s, s < n → W s = true → popc (hmU W all n) < popc s ∨ (popc (hmU W all n) = popc s ∧ hmU W all n ≤ s)
  | 0, _ => ⟨hw, Nat.le_refl _, Or.inl rfl, fun s hs => by omega⟩
  | n + 1, hn => by
    obtain ⟨i1, i2, i3, i4⟩ := hmU_ok ha hw n (by omega)
    by_cases q : popc n < popc (hmU W all n) ∧ W n = true
    · rw [hmU, if_pos q]
      refine ⟨q.2, by omega, Or.inr (by omega), fun s hs ws => ?_⟩
      by_cases z : s = n
      · subst z; exact Or.inr ⟨rfl, Nat.le_refl _⟩
      · have := i4 s (by omega) ws
        exact Or.inl (by omega)
    · rw [hmU, if_neg q]
      refine ⟨i1, i2, by omega, fun s hs ws => ?_⟩
      by_cases z : s = n
      · subst z
        have : ¬ popc s < popc (hmU W all s) := fun y => q ⟨y, ws⟩
        rcases i3 with y | y
        · by_cases y2 : s = all
          · rw [y, ← y2]; exact Or.inr ⟨rfl, Nat.le_refl _⟩
          · have h1 := ha s (by omega)
            have h2 : popc (hmU W all s) = popc all := by rw [y]
            omega
        · omega
      · exact i4 s (by omega) ws
theorem hmD_ok {W : Nat → Bool} {all : Nat} (hw : W all = true) : ∀ n, n ≤ all + 1 → W (hmD W all n) = true ∧ hmD W all n ≤ all ∧ ∀ s, s ≤ all → all < s + n → W s = true → popc (hmD W all n) < popc s ∨ (popc (hmD W all n) = popc s ∧ hmD W all n ≤ s)
  | 0, _ => ⟨hw, Nat.le_refl _, fun s hs => by omega⟩
  | n + 1, hn => by
    obtain ⟨i1, i2, i4⟩ := hmD_ok hw n (by omega)
    by_cases q : popc (all - n) ≤ popc (hmD W all n) ∧ W (all - n) = true
    · rw [hmD, if_pos q]
      refine ⟨q.2, by omega, fun s hs hs2 ws => ?_⟩
      by_cases z : s = all - n
      · rw [z]; exact Or.inr ⟨rfl, Nat.le_refl _⟩
      · have := i4 s hs (by omega) ws
        omega
    · rw [hmD, if_neg q]
      refine ⟨i1, i2, fun s hs hs2 ws => ?_⟩
      by_cases z : s = all - n
      · rw [z] at ws ⊢
        have : ¬ popc (all - n) ≤ popc (hmD W all n) := fun y => q ⟨y, ws⟩
        omega
      · exact i4 s hs (by omega) ws
theorem hm_eq {W : Nat → Bool} {c : Nat} (hc : c ≤ 6) (hw : W (2 ^ c - 1) = true) : hmD W (2 ^ c - 1) (2 ^ c) = hmU W (2 ^ c - 1) (2 ^ c) := by
  have hp : 0 < 2 ^ c := Nat.pow_pos (by decide)
  obtain ⟨a1, a2, -, a4⟩ := hmU_ok (popc_all c hc) hw (2 ^ c) (by omega)
  obtain ⟨b1, b2, b4⟩ := hmD_ok hw (2 ^ c) (by omega)
  have x1 := a4 _ (by omega) b1
  have x2 := b4 _ a2 (by omega) a1
  omega
theorem hmU_le {W : Nat → Bool} {all : Nat} : ∀ n, n ≤ all + 1 → hmU W all n ≤ all
  | 0, _ => Nat.le_refl _
  | n + 1, hn => by
    have := hmU_le (W := W) (all := all) n (by omega)
    rw [hmU]; split <;> omega
theorem hmD_le {W : Nat → Bool} {all : Nat} : ∀ n, hmD W all n ≤ all
  | 0 => Nat.le_refl _
  | n + 1 => by
    have := hmD_le (W := W) (all := all) n
    rw [hmD]; split <;> omega
def stW (T : Nat → Nat) (t : Nat) (s : Nat) : Bool := wl T (2 ^ T 0 - 1 - s) t (T 0)
def homeN (T : Nat → Nat) (t : Nat) : Nat := hmU (stW T t) (2 ^ T 0 - 1) (2 ^ T 0)
set_option maxRecDepth 10000 in
theorem nots : ∀ c, c ≤ 6 → ∀ s, s < 2 ^ c → nI (2 ^ c - 1) &&& (nI s ^^^ (-1 : Int32)) = nI (2 ^ c - 1 - s) := by decide
theorem X9_home_35_s {h : mj_H} {T : Nat → Nat} (n : MN h T) (w : WF T) {t : Nat} (ht : t ≤ 120) : f_X9_home_35 53 (nI t) (nI (2 ^ T 0 - 1)) (nI (2 ^ T 0 - 1)) (0 : Int32) h = some (nI (homeN T t), h) := by
  have w0 := w.1
  have hp := pow6 w0
  have hp0 : 0 < 2 ^ T 0 := Nat.pow_pos (by decide)
  unfold f_X9_home_35
  refine fix_iter (st := fun i => ((53 : Nat), nI t, nI (2 ^ T 0 - 1), nI (hmU (stW T t) (2 ^ T 0 - 1) i), nI i, h)) (2 ^ T 0) _ (fun i hi K => ?_) (fun K => ?_) 1000 (by omega)
  · have c1 : ¬ nI (2 ^ T 0 - 1) < nI i := by rw [nlt_iff (by omega) (by omega)]; omega
    have hl := hmU_le (W := stW T t) (all := 2 ^ T 0 - 1) i (by omega)
    have b1 := X9_bits_s (show i < 64 by omega) h
    have b2 := X9_bits_s (show hmU (stW T t) (2 ^ T 0 - 1) i < 64 by omega) h
    have p1 := popc_le i
    have p2 := popc_le (hmU (stW T t) (2 ^ T 0 - 1) i)
    have c2 : nI (popc (hmU (stW T t) (2 ^ T 0 - 1) i)) ≤ nI (popc i) ↔ popc (hmU (stW T t) (2 ^ T 0 - 1) i) ≤ popc i := nle_iff (by omega) (by omega)
    have hw := X9_areWell_s n w (st := 2 ^ T 0 - 1 - i) (t := t) (by omega) ht
    have en := nots (T 0) w0 i hi
    show b_X9_home_35 _ 53 (nI t) (nI (2 ^ T 0 - 1)) (nI (hmU (stW T t) (2 ^ T 0 - 1) i)) (nI i) h = K (53, nI t, nI (2 ^ T 0 - 1), nI (if popc i < popc (hmU (stW T t) (2 ^ T 0 - 1) i) ∧ stW T t i = true then i else hmU (stW T t) (2 ^ T 0 - 1) i), nI (i + 1), h)
    simp only [b_X9_home_35, c1, if_false, b1, b2, Option.bind_some, c2]
    by_cases q : popc (hmU (stW T t) (2 ^ T 0 - 1) i) ≤ popc i
    · rw [if_pos q, if_neg (by omega)]
      simp only [f_X9_home_72, f_X9_home_73, nI_1]
    · rw [if_neg q]
      simp only [n.1.ob, if_true, en, hw, Option.bind_some]
      have e2 : wl T (2 ^ T 0 - 1 - i) t (T 0) = stW T t i := rfl
      rw [e2]
      cases q2 : stW T t i
      · simp [bi, f_X9_home_72, f_X9_home_73, nI_1]
      · rw [if_pos (⟨by omega, rfl⟩ : popc i < popc (hmU (stW T t) (2 ^ T 0 - 1) i) ∧ true = true)]
        simp [bi, f_X9_home_73, nI_1]
  · have c1 : nI (2 ^ T 0 - 1) < nI (2 ^ T 0) := by rw [nlt_iff (by omega) (by omega)]; omega
    show b_X9_home_35 _ 53 (nI t) (nI (2 ^ T 0 - 1)) (nI (hmU (stW T t) (2 ^ T 0 - 1) (2 ^ T 0))) (nI (2 ^ T 0)) h = _
    simp only [b_X9_home_35, c1, if_true]
    rfl
/-! the class -/
def XG (h : mj_H) : Prop := mj_ob h 0 8 = true ∧ mj_gR h 0 8 0 = some 1 ∧ mj_gR h 0 8 1 = some 7 ∧ mj_gR h 0 8 2 = some 11 ∧ mj_gR h 0 8 3 = some 22 ∧ mj_gR h 0 8 4 = some 33 ∧ mj_gR h 0 8 5 = some 43 ∧ mj_gR h 0 8 6 = some 46 ∧ mj_gR h 0 8 7 = some 48 ∧ mj_gR h 0 8 8 = some 52
theorem XG.fr {h h' : mj_H} (g : XG h) (e : h'[0]? = h[0]?) : XG h' := by
  unfold XG mj_ob mj_gR mj_gV at g ⊢
  rw [e]; exact g
theorem XG.ob {h : mj_H} (g : XG h) : mj_ob h 0 8 = true := g.1
theorem XG.band {h : mj_H} (g : XG h) : mj_gR h 0 8 0 = some 1 := g.2.1
theorem XG.past {h : mj_H} (g : XG h) : mj_gR h 0 8 1 = some 7 := g.2.2.1
theorem XG.im1 {h : mj_H} (g : XG h) : mj_gR h 0 8 2 = some 11 := g.2.2.2.1
theorem XG.im2 {h : mj_H} (g : XG h) : mj_gR h 0 8 3 = some 22 := g.2.2.2.2.1
theorem XG.reader {h : mj_H} (g : XG h) : mj_gR h 0 8 4 = some 33 := g.2.2.2.2.2.1
theorem XG.odds {h : mj_H} (g : XG h) : mj_gR h 0 8 5 = some 43 := g.2.2.2.2.2.2.1
theorem XG.trial {h : mj_H} (g : XG h) : mj_gR h 0 8 6 = some 46 := g.2.2.2.2.2.2.2.1
theorem XG.sifted {h : mj_H} (g : XG h) : mj_gR h 0 8 7 = some 48 := g.2.2.2.2.2.2.2.2.1
theorem XG.told {h : mj_H} (g : XG h) : mj_gR h 0 8 8 = some 52 := g.2.2.2.2.2.2.2.2.2
theorem BN.sz {h : mj_H} {p : Nat} {T : Nat → Nat} (b : BN h p T) : mj_gI h p 0 4 = some (nI (T 0)) := gI_r b.2.1 rfl
theorem BN.inf {h : mj_H} {p : Nat} {T : Nat → Nat} (b : BN h p T) : mj_gI h p 0 5 = some (nI (T 2)) := gI_r b.2.1 rfl
theorem BN.dl {h : mj_H} {p : Nat} {T : Nat → Nat} (b : BN h p T) : mj_gI h p 0 6 = some (nI (T 1)) := gI_r b.2.1 rfl
theorem OD.ob {h : mj_H} {tr : Nat → Nat} {bm : Int32} (o : OD h tr bm) : mj_ob h 43 2 = true := ob_r o.1
theorem X8_mayStay_s {h : mj_H} {T : Nat → Nat} {bm : Int32} (x : XG h) (b : BN h 1 T) (w : WF T) (o : OD h (trs T) bm) {st t : Nat} (hs : st < 64) (ht : t ≤ 120) : f_X8_mayStay 0 (nI st) (nI t) h = some (bi (wl T st t (T 0)), h) := by
  have w0 := w.1
  have key := fix_w (F := fun (K2 : (Nat × Int32 × Int32 × Int32 × mj_H) → Option (Int32 × mj_H)) (s : Nat × Int32 × Int32 × Int32 × mj_H) => b_X8_mayStay_2 (fun v0 v1 v2 v3 h => K2 (v0, v1, v2, v3, h)) s.1 s.2.1 s.2.2.1 s.2.2.2.1 s.2.2.2.2)
    (fun i s => s = (0, nI st, nI t, nI i, h) ∧ ∀ a, a < i → ∀ c, a < c → c < T 0 → bp T st t a c = false)
    (fun r => r = some (bi (wl T st t (T 0)), h)) (T 0) (fun i hi s hs => ?_) (fun s hs => ?_) 1000 (by omega) (0, nI st, nI t, nI 0, h) ⟨rfl, fun a ha => by omega⟩
  · exact key
  · obtain ⟨rfl, hno⟩ := hs
    by_cases q : ∀ c, i < c → c < T 0 → bp T st t i c = false
    · left
      refine ⟨(0, nI st, nI t, nI (i + 1), h), ⟨rfl, fun a ha c h1 h2 => ?_⟩, fun K => ?_⟩
      · by_cases z : a = i
        · subst z; exact q c h1 h2
        · exact hno a (by omega) c h1 h2
      · have c1 : ¬ nI (T 0) ≤ nI i := nI_ge hi (by omega)
        simp only [b_X8_mayStay_2, x.band, Option.bind_some, b.sz, c1, if_false, f_X8_mayStay_18, nI_1]
        refine fix_iter (st := fun d => ((0 : Nat), nI st, nI t, nI i, nI (i + 1 + d), h)) (T 0 - (i + 1)) _ (fun d hd K' => ?_) (fun K' => ?_) 1000 (by omega)
        · have c2 : ¬ nI (T 0) ≤ nI (i + 1 + d) := nI_ge (by omega) (by omega)
          have hb := q (i + 1 + d) (by omega) (by omega)
          have e1 := X8_isIn_s (s := st) (m := i) (by omega) (by omega) h
          have e2 := X8_isIn_s (s := st) (m := i + 1 + d) (by omega) (by omega) h
          have e3 := X0_areBrothers_s b w hi (show i + 1 + d < T 0 by omega)
          have t1 := X2_trustSeen_s o (show i < 6 by omega)
          have t2 := X2_trustSeen_s o (show i + 1 + d < 6 by omega)
          have v1 : trs T i = trust T i := by unfold trs; rw [if_pos hi]
          have v2 : trs T (i + 1 + d) = trust T (i + 1 + d) := by unfold trs; rw [if_pos (by omega)]
          rw [v1] at t1
          rw [v2] at t2
          have l1 := trust_le T i
          have l2 := trust_le T (i + 1 + d)
          have c3 : nI t ≤ nI (trust T i + trust T (i + 1 + d)) ↔ t ≤ trust T i + trust T (i + 1 + d) := nle_iff (by omega) (by omega)
          show b_X8_mayStay_18 _ _ 0 (nI st) (nI t) (nI i) (nI (i + 1 + d)) h = K' (0, nI st, nI t, nI i, nI (i + 1 + d + 1), h)
          unfold bp at hb
          simp only [b_X8_mayStay_18, x.band, Option.bind_some, b.sz, c2, if_false, e1]
          cases q1 : st.testBit i
          · simp [bi, f_X8_mayStay_51, f_X8_mayStay_52, f_X8_mayStay_96, nI_1]
          · cases q2 : st.testBit (i + 1 + d)
            · simp [bi, e2, q2, f_X8_mayStay_51, f_X8_mayStay_52, f_X8_mayStay_96, nI_1]
            · cases q3 : brob T i (i + 1 + d)
              · simp [bi, e2, q2, f_X8_mayStay_52, f_X8_mayStay_96, nI_1, x.band, b.ob, e3, q3]
              · have c4 : t ≤ trust T i + trust T (i + 1 + d) := by
                  rw [q1, q2, q3] at hb
                  simpa using hb
                simp [bi, e2, q2, f_X8_mayStay_52, f_X8_mayStay_96, nI_1, x.band, b.ob, e3, q3, x.odds, o.ob, t1, t2, nI_add, c3, c4]
        · have ee : i + 1 + (T 0 - (i + 1)) = T 0 := by omega
          have c2 : nI (T 0) ≤ nI (T 0) := Int32.le_refl _
          show b_X8_mayStay_18 _ _ 0 (nI st) (nI t) (nI i) (nI (i + 1 + (T 0 - (i + 1)))) h = K (0, nI st, nI t, nI (i + 1), h)
          rw [ee]
          simp only [b_X8_mayStay_18, x.band, Option.bind_some, b.sz, c2, if_true, nI_1]
    · right
      intro K
      have ⟨c, hc⟩ : ∃ c, c < T 0 ∧ i < c ∧ bp T st t i c = true ∧ ∀ d, i < d → d < c → bp T st t i d = false := by
        have : ∀ n, n ≤ T 0 → (∀ c, i < c → c < n → bp T st t i c = false) ∨ ∃ c, c < n ∧ i < c ∧ bp T st t i c = true ∧ ∀ d, i < d → d < c → bp T st t i d = false := by
          intro n
          induction n with
          | zero => intro _; left; intro c _ h2; omega
          | succ n ih =>
            intro hn
            rcases ih (by omega) with y | ⟨c, y1, y2⟩
            · by_cases z : i < n ∧ bp T st t i n = true
              · right; exact ⟨n, by omega, z.1, z.2, fun d d1 d2 => y d d1 d2⟩
              · left
                intro c c1 c2
                by_cases z2 : c = n
                · subst z2
                  cases z3 : bp T st t i c
                  · rfl
                  · exact absurd ⟨c1, z3⟩ z
                · exact y c c1 (by omega)
            · right; exact ⟨c, by omega, y2⟩
        rcases this (T 0) (Nat.le_refl _) with y | y
        · exact absurd y q
        · exact y
      obtain ⟨hc1, hc2, hc3, hc4⟩ := hc
      have hwf : wl T st t (T 0) = false := by
        cases z : wl T st t (T 0)
        · rfl
        · have := wl_iff.mp z c hc1 i hc2
          rw [bp_sym w hc1 hi, hc3] at this
          exact absurd this (by decide)
      have c1 : ¬ nI (T 0) ≤ nI i := nI_ge hi (by omega)
      rw [hwf]
      simp only [b_X8_mayStay_2, x.band, Option.bind_some, b.sz, c1, if_false, f_X8_mayStay_18, nI_1]
      refine fix_iter (st := fun d => ((0 : Nat), nI st, nI t, nI i, nI (i + 1 + d), h)) (c - (i + 1)) _ (fun d hd K' => ?_) (fun K' => ?_) 1000 (by omega)
      · have c2 : ¬ nI (T 0) ≤ nI (i + 1 + d) := nI_ge (by omega) (by omega)
        have hb := hc4 (i + 1 + d) (by omega) (by omega)
        have e1 := X8_isIn_s (s := st) (m := i) (by omega) (by omega) h
        have e2 := X8_isIn_s (s := st) (m := i + 1 + d) (by omega) (by omega) h
        have e3 := X0_areBrothers_s b w hi (show i + 1 + d < T 0 by omega)
        have t1 := X2_trustSeen_s o (show i < 6 by omega)
        have t2 := X2_trustSeen_s o (show i + 1 + d < 6 by omega)
        have v1 : trs T i = trust T i := by unfold trs; rw [if_pos hi]
        have v2 : trs T (i + 1 + d) = trust T (i + 1 + d) := by unfold trs; rw [if_pos (by omega)]
        rw [v1] at t1
        rw [v2] at t2
        have l1 := trust_le T i
        have l2 := trust_le T (i + 1 + d)
        have c3 : nI t ≤ nI (trust T i + trust T (i + 1 + d)) ↔ t ≤ trust T i + trust T (i + 1 + d) := nle_iff (by omega) (by omega)
        show b_X8_mayStay_18 _ _ 0 (nI st) (nI t) (nI i) (nI (i + 1 + d)) h = K' (0, nI st, nI t, nI i, nI (i + 1 + d + 1), h)
        unfold bp at hb
        simp only [b_X8_mayStay_18, x.band, Option.bind_some, b.sz, c2, if_false, e1]
        cases q1 : st.testBit i
        · simp [bi, f_X8_mayStay_51, f_X8_mayStay_52, f_X8_mayStay_96, nI_1]
        · cases q2 : st.testBit (i + 1 + d)
          · simp [bi, e2, q2, f_X8_mayStay_51, f_X8_mayStay_52, f_X8_mayStay_96, nI_1]
          · cases q3 : brob T i (i + 1 + d)
            · simp [bi, e2, q2, f_X8_mayStay_52, f_X8_mayStay_96, nI_1, x.band, b.ob, e3, q3]
            · have c4 : t ≤ trust T i + trust T (i + 1 + d) := by
                rw [q1, q2, q3] at hb
                simpa using hb
              simp [bi, e2, q2, f_X8_mayStay_52, f_X8_mayStay_96, nI_1, x.band, b.ob, e3, q3, x.odds, o.ob, t1, t2, nI_add, c3, c4]
      · have ee : i + 1 + (c - (i + 1)) = c := by omega
        have c2 : ¬ nI (T 0) ≤ nI c := nI_ge (by omega) (by omega)
        have e1 := X8_isIn_s (s := st) (m := i) (by omega) (by omega) h
        have e2 := X8_isIn_s (s := st) (m := c) (by omega) (by omega) h
        have e3 := X0_areBrothers_s b w hi hc1
        have t1 := X2_trustSeen_s o (show i < 6 by omega)
        have t2 := X2_trustSeen_s o (show c < 6 by omega)
        have v1 : trs T i = trust T i := by unfold trs; rw [if_pos hi]
        have v2 : trs T c = trust T c := by unfold trs; rw [if_pos hc1]
        rw [v1] at t1
        rw [v2] at t2
        have l1 := trust_le T i
        have l2 := trust_le T c
        have c3 : nI t ≤ nI (trust T i + trust T c) ↔ t ≤ trust T i + trust T c := nle_iff (by omega) (by omega)
        unfold bp at hc3
        simp only [Bool.and_eq_true, decide_eq_true_eq] at hc3
        obtain ⟨⟨⟨q1, q2⟩, q3⟩, q4⟩ := hc3
        have q4' : ¬ t ≤ trust T i + trust T c := by omega
        show b_X8_mayStay_18 _ _ 0 (nI st) (nI t) (nI i) (nI (i + 1 + (c - (i + 1)))) h = some (bi false, h)
        rw [ee]
        simp [b_X8_mayStay_18, bi, c2, b.sz, e1, q1, e2, q2, f_X8_mayStay_52, x.band, b.ob, e3, q3, x.odds, o.ob, t1, t2, nI_add, c3, q4']
  · obtain ⟨rfl, hno⟩ := hs
    intro K
    have hwt : wl T st t (T 0) = true := wl_iff.mpr (fun a ha c hc => by rw [bp_sym w ha (by omega)]; exact hno c (by omega) a hc ha)
    have c1 : nI (T 0) ≤ nI (T 0) := Int32.le_refl _
    rw [hwt]
    simp only [b_X8_mayStay_2, x.band, Option.bind_some, b.sz, c1, if_true]
    rfl
def dwn (n i : Nat) : Int32 := if i < n then nI (n - 1 - i) else -1
theorem dwn_0 {n : Nat} (h : 0 < n) : dwn n 0 = nI (n - 1) := by unfold dwn; rw [if_pos h, Nat.sub_zero]
theorem dwn_in {n i : Nat} (h : i < n) : dwn n i = nI (n - 1 - i) := by unfold dwn; rw [if_pos h]
theorem dwn_st {n i : Nat} (h : i < n) : nI (n - 1 - i) + (-1 : Int32) = dwn n (i + 1) := by
  unfold dwn
  split
  · obtain ⟨z, hz⟩ : ∃ z, n - 1 - i = z + 1 := ⟨n - 1 - i - 1, by omega⟩
    rw [hz, pk_m1, show n - 1 - (i + 1) = z by omega]
  · have : n - 1 - i = 0 := by omega
    rw [this]; decide
theorem dwn_e (n : Nat) : dwn n n = -1 := by unfold dwn; rw [if_neg (Nat.lt_irrefl n)]
theorem X8_home_45_st {h : mj_H} {T : Nat → Nat} {bm : Int32} (x : XG h) (b : BN h 1 T) (w : WF T) (o : OD h (trs T) bm) {t y D : Nat} (ht : t ≤ 120) (hy : y < 2 ^ T 0) (hD : D < 2 ^ T 0) (K : Nat → Int32 → Int32 → Int32 → Int32 → mj_H → Option (Int32 × mj_H)) : b_X8_home_45 K 0 (nI t) (nI (2 ^ T 0 - 1)) (nI D) (nI y) h = K 0 (nI t) (nI (2 ^ T 0 - 1)) (nI (if popc y ≤ popc D ∧ stW T t y = true then y else D)) (nI y + (-1 : Int32)) h := by
  have w0 := w.1
  have hp := pow6 w0
  have c1 : ¬ nI y < (0 : Int32) := nI_pos (by omega)
  have b1 := bitCount_s (show y < 64 by omega) h
  have b2 := bitCount_s (show D < 64 by omega) h
  have p1 := popc_le y
  have p2 := popc_le D
  have c2 : nI (popc D) < nI (popc y) ↔ popc D < popc y := nlt_iff (by omega) (by omega)
  have hw := X8_mayStay_s x b w o (st := 2 ^ T 0 - 1 - y) (t := t) (by omega) ht
  have en := nots (T 0) w0 y hy
  have e2 : wl T (2 ^ T 0 - 1 - y) t (T 0) = stW T t y := rfl
  rw [e2] at hw
  rw [b_X8_home_45, if_neg c1, b1, Option.bind_some]
  show (f_J6_bitCount_0f7a4 (nI D) h).bind _ = _
  rw [b2, Option.bind_some]
  by_cases q : popc D < popc y
  · have q' := c2.mpr q
    have q3 : ¬ (popc y ≤ popc D ∧ stW T t y = true) := fun z => by omega
    rw [if_neg q3]
    exact if_pos q'
  · have q' := fun z => q (c2.mp z)
    refine (if_neg q').trans ?_
    show (if mj_ob h 0 8 = true then (f_X8_mayStay 0 (nI (2 ^ T 0 - 1) &&& (nI y ^^^ (-1 : Int32))) (nI t) h).bind _ else none) = _
    rw [if_pos x.ob, en, hw]
    simp only [Option.bind_some]
    cases q2 : stW T t y
    · simp only [bi_f, if_true, Bool.false_eq_true, and_false, if_false, f_X8_home_79]
    · have z : ¬ (1 : Int32) = 0 := by decide
      have z2 : popc y ≤ popc D := by omega
      simp only [bi_t, z, if_false, z2, and_self, if_true, f_X8_home_79]
theorem X8_home_45_s {h : mj_H} {T : Nat → Nat} {bm : Int32} (x : XG h) (b : BN h 1 T) (w : WF T) (o : OD h (trs T) bm) {t : Nat} (ht : t ≤ 120) : f_X8_home_45 0 (nI t) (nI (2 ^ T 0 - 1)) (nI (2 ^ T 0 - 1)) (nI (2 ^ T 0 - 1)) h = some (nI (homeN T t), h) := by
  have w0 := w.1
  have hp := pow6 w0
  have hp0 : 0 < 2 ^ T 0 := Nat.pow_pos (by decide)
  have hall : stW T t (2 ^ T 0 - 1) = true := by
    unfold stW; rw [Nat.sub_self]; exact wl_0
  have e := hm_eq w0 hall
  unfold homeN
  rw [← e]
  unfold f_X8_home_45
  have h0 : ((0 : Nat), nI t, nI (2 ^ T 0 - 1), nI (2 ^ T 0 - 1), nI (2 ^ T 0 - 1), h) = (fun i => (0, nI t, nI (2 ^ T 0 - 1), nI (hmD (stW T t) (2 ^ T 0 - 1) i), dwn (2 ^ T 0) i, h)) 0 := by
    show _ = (0, nI t, nI (2 ^ T 0 - 1), nI (2 ^ T 0 - 1), dwn (2 ^ T 0) 0, h)
    rw [dwn_0 hp0]
  rw [h0]
  refine fix_iter (st := fun i => ((0 : Nat), nI t, nI (2 ^ T 0 - 1), nI (hmD (stW T t) (2 ^ T 0 - 1) i), dwn (2 ^ T 0) i, h)) (2 ^ T 0) _ (fun i hi K => ?_) (fun K => ?_) 1000 (by omega)
  · have hl := hmD_le (W := stW T t) (all := 2 ^ T 0 - 1) i
    have key := X8_home_45_st x b w o (y := 2 ^ T 0 - 1 - i) (D := hmD (stW T t) (2 ^ T 0 - 1) i) ht (by omega) (by omega) (fun v0 v1 v2 v3 v4 h => K (v0, v1, v2, v3, v4, h))
    rw [dwn_st hi] at key
    show b_X8_home_45 _ 0 (nI t) (nI (2 ^ T 0 - 1)) (nI (hmD (stW T t) (2 ^ T 0 - 1) i)) (dwn (2 ^ T 0) i) h = K (0, nI t, nI (2 ^ T 0 - 1), nI (hmD (stW T t) (2 ^ T 0 - 1) (i + 1)), dwn (2 ^ T 0) (i + 1), h)
    rw [hmD, dwn_in hi]
    exact key
  · have c1 : (-1 : Int32) < 0 := by decide
    show b_X8_home_45 _ 0 (nI t) (nI (2 ^ T 0 - 1)) (nI (hmD (stW T t) (2 ^ T 0 - 1) (2 ^ T 0))) (dwn (2 ^ T 0) (2 ^ T 0)) h = _
    rw [dwn_e]
    simp only [b_X8_home_45, c1, if_true]
