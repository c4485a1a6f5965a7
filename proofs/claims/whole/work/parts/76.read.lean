/-! PURE: read -/
def RN (h h' : mj_H) : Prop := ∀ j, j ≠ 54 → j ≠ 59 → h'[j]? = h[j]?
theorem X9_doItem_s {h : mj_H} {X : (Nat → Int32) × Nat} {D : Nat → Nat} {it t : Nat → Int32} {n k : Nat} (m : MN h D) (wo : WO D) (hg : h[60]? = some (cI 210 it)) (ht : h[59]? = some (cI 6 t)) (ig : IG X it n) (hk : k < n) (hn : n ≤ 30) (hw : kD X (ps X k) < 5) : ∃ h' f' t', f_X9_doItem 53 (nI k) h = some (if kD X (ps X k) = 0 then 0 else (tR D (kD X (ps X k)) (vv X k)).1, h') ∧ RN h h' ∧ h'[54]? = some (cI 356 f') ∧ NT f' (if kD X (ps X k) = 0 then musterT (nm X (ps X k) 0) else (tR D (kD X (ps X k)) (vv X k)).2) ∧ h'[59]? = some (cI 6 t') := by
  obtain ⟨w1, w2⟩ := ig k hk
  have r14 : mj_gR h 53 9 14 = some 60 := m.1.2.2.2.2.2.2.2.1
  have r8 := m.1.tld
  have ix0 : (7 : Int32) * nI k = nI (7 * k) := by rw [show (7 : Int32) = nI 7 from rfl, pk_mul]
  have ix1 : nI (7 * k) + (1 : Int32) = nI (7 * k + 1) := nI_1 _
  have ix2 : nI (7 * k) + (2 : Int32) = nI (7 * k + 2) := by rw [show (2 : Int32) = nI 2 from rfl, nI_add]
  have a0 := aI_r hg (show 7 * k < 210 by omega) (by decide)
  have a1 := aI_r hg (show 7 * k + 1 < 210 by omega) (by decide)
  have a2 := aI_r hg (show 7 * k + 2 < 210 by omega) (by decide)
  rw [w1] at a0
  obtain ⟨f, hf, e⟩ := m.2.1
  have v0 : it (7 * k + 1) = vv X k 0 := by
    have := w2 0 (need_w _ hw).2.1
    rw [Nat.add_zero] at this; exact this
  rw [v0] at a1
  have ob := m.1.ob
  have rn54 : ∀ c, RN h (h.set 54 c) := fun c j h1 h2 => List.getElem?_set_ne (by omega)
  obtain ⟨w, hww⟩ : ∃ w, w = kD X (ps X k) := ⟨_, rfl⟩
  rw [← hww] at a0 hw w2 ⊢
  have base : f_X9_doItem 53 (nI k) h = (if nI w = (0 : Int32) then (f_X9_clean 53 (vv X k 0) h).bind fun p7 => some ((0 : Int32), p7) else (if nI w = (1 : Int32) then (f_X9_copies 60 (nI (7 * k + 1)) 59 (0 : Int32) (6 : Int32) h).bind fun p10 => (if mj_ob p10 53 9 = true then (f_X9_doMan 53 p10).bind fun p11 => some (p11.1, p11.2) else none) else (if nI w = (2 : Int32) then (f_X9_doWorn 53 (vv X k 0) (it (7 * k + 2)) h).bind fun p12 => some (p12.1, p12.2) else (if nI w = (3 : Int32) then (f_X9_doPair 53 (vv X k 0) (it (7 * k + 2)) h).bind fun p13 => some (p13.1, p13.2) else (f_X9_doWord 53 (vv X k 0) h).bind fun p14 => some (p14.1, p14.2))))) := by
    simp only [f_X9_doItem, r14, bs, ix0, ix1, ix2, a0, a1, a2, ob, if_true, r8]
  have : w = 0 ∨ w = 1 ∨ w = 2 ∨ w = 3 ∨ w = 4 := by omega
  rcases this with q | q | q | q | q
  · subst q
    obtain ⟨f', y1, y2⟩ := X9_clean_s m.1 hf (nm X (ps X k) 0)
    refine ⟨_, f', t, ?_, rn54 _, get_self hf, y2, get_set ht (by decide)⟩
    have y1' : f_X9_clean 53 (vv X k 0) h = some (h.set 54 (cI 356 f')) := y1
    rw [base, if_pos (show nI 0 = (0 : Int32) from rfl), bs1 y1']
    rfl
  · subst q
    have cp := X9_copies_s (s := 7 * k + 1) (d := 0) (c := 6) hg ht (by decide) (by omega) (by decide) (by decide) (by decide) (by decide)
    rw [show nI 0 = (0 : Int32) from rfl, show nI 6 = (6 : Int32) from rfl] at cp
    have g1 := m.1.set (k := 59) (c := cI 6 (fill2 (fun j => it (7 * k + 1 + j)) t 0 6)) (by decide)
    have f1 := get_set (c := cI 6 (fill2 (fun j => it (7 * k + 1 + j)) t 0 6)) hf (show 59 ≠ 54 by decide)
    have t1 := get_self (c := cI 6 (fill2 (fun j => it (7 * k + 1 + j)) t 0 6)) ht
    obtain ⟨f', y1, y2⟩ := X9_doMan_s g1 f1 e wo.1 t1
    have cg : manR D (fill2 (fun j => it (7 * k + 1 + j)) t 0 6) = manR D (vv X k) := manR_congr (fun j hj => by
      rw [fill2_in (by omega) (by omega)]
      exact w2 j hj)
    rw [cg] at y1 y2
    refine ⟨_, f', _, ?_, fun j j1 j2 => ?_, get_self f1, y2, get_set t1 (by decide)⟩
    · rw [base, if_neg (by decide), if_pos (show nI 1 = (1 : Int32) from rfl), bs1 cp, if_pos g1.ob, bs1 y1]
      rfl
    · rw [List.getElem?_set_ne (by omega), List.getElem?_set_ne (by omega)]
  · subst q
    have v1 : it (7 * k + 2) = vv X k 1 := w2 1 (by decide)
    rw [v1] at base
    obtain ⟨f', y1, y2⟩ := X9_doWorn_s m wo.1 (vv X k 0) (vv X k 1)
    refine ⟨_, f', t, ?_, rn54 _, get_self hf, y2, get_set ht (by decide)⟩
    rw [base, if_neg (by decide), if_neg (by decide), if_pos (show nI 2 = (2 : Int32) from rfl), bs1 y1]
    rfl
  · subst q
    have v1 : it (7 * k + 2) = vv X k 1 := w2 1 (by decide)
    rw [v1] at base
    obtain ⟨f', y1, y2⟩ := X9_doPair_s m wo.1 (vv X k 0) (vv X k 1)
    refine ⟨_, f', t, ?_, rn54 _, get_self hf, y2, get_set ht (by decide)⟩
    rw [base, if_neg (by decide), if_neg (by decide), if_neg (by decide), if_pos (show nI 3 = (3 : Int32) from rfl), bs1 y1]
    rfl
  · subst q
    obtain ⟨f', y1, y2⟩ := X9_doWord_s m wo.1 (vv X k 0)
    refine ⟨_, f', t, ?_, rn54 _, get_self hf, y2, get_set ht (by decide)⟩
    rw [base, if_neg (by decide), if_neg (by decide), if_neg (by decide), if_neg (by decide), bs1 y1]
    rfl
def rdA (X : (Nat → Int32) × Nat) (n : Nat) : Int32 := match ffirst (rj X) (n - 1) with
  | some r => (-1000 : Int32) - nI (r + 1)
  | none => nI n
def rdT (X : (Nat → Int32) × Nat) (n : Nat) (T : Nat → Nat) : Nat → Nat := match ffirst (rj X) (n - 1) with
  | some _ => T
  | none => DT X (n - 1)
theorem X9_read33_s {h : mj_H} {X : (Nat → Int32) × Nat} {T : Nat → Nat} {it t f sv : Nat → Int32} {F : Int64 × Int64} {a b t0 v : Int32} {l : Int64} {n : Nat} (wo : WO T) (o : h[53]? = some (cO 9 (mfs X.2 F a b t0 v l (nI n)))) (hf : h[54]? = some (cI 356 f)) (e : NT f T) (sc : SC h) (hg : h[60]? = some (cI 210 it)) (hs : h[61]? = some (cI 356 sv)) (es : NT sv T) (ht : h[59]? = some (cI 6 t)) (ig : IG X it n) (hn : n ≤ 30) (h0 : 0 < n) (hno : ∀ j, j < n → stp X j = false) : ∃ h' f' t', f_X9_read_33 53 (0 : Int32) h = some (rdA X n, h') ∧ RN h h' ∧ h'[54]? = some (cI 356 f') ∧ NT f' (rdT X n T) ∧ h'[59]? = some (cI 6 t') := by
  refine fix_w (F := fun (K33 : (Nat × Int32 × mj_H) → Option (Int32 × mj_H)) (s : Nat × Int32 × mj_H) => b_X9_read_33 (fun v0 v2 h => K33 (v0, v2, h)) s.1 s.2.1 s.2.2)
    (fun k s => ∃ h1 f1 t1, s = (53, nI k, h1) ∧ RN h h1 ∧ h1[54]? = some (cI 356 f1) ∧ NT f1 (if k = 0 then T else DT X (k - 1)) ∧ h1[59]? = some (cI 6 t1) ∧ ffirst (rj X) (k - 1) = none)
    (fun r => ∃ h' f' t', r = some (rdA X n, h') ∧ RN h h' ∧ h'[54]? = some (cI 356 f') ∧ NT f' (rdT X n T) ∧ h'[59]? = some (cI 6 t')) n (fun k hk s hs1 => ?_) (fun s hs2 => ?_) 1000 (by omega) (53, nI 0, h) ⟨h, f, t, rfl, fun _ _ _ => rfl, hf, e, ht, rfl⟩
  · obtain ⟨h1, f1, t1, rfl, re, y1, y2, y3, hff⟩ := hs1
    have o1 : h1[53]? = some (cO 9 (mfs X.2 F a b t0 v l (nI n))) := by rw [re 53 (by decide) (by decide)]; exact o
    have sc1 : SC h1 := by
      unfold SC
      rw [re 62 (by decide) (by decide), re 63 (by decide) (by decide), re 64 (by decide) (by decide)]; exact sc
    have g1 : h1[60]? = some (cI 210 it) := by rw [re 60 (by decide) (by decide)]; exact hg
    have m : MN h1 (if k = 0 then T else DT X (k - 1)) := ⟨MG.of o1, ⟨f1, y1, y2⟩, sc1⟩
    have wo1 : WO (if k = 0 then T else DT X (k - 1)) := by
      split
      · exact wo
      · exact DT_wo _
    obtain ⟨fl1, fl2⟩ := fl_none (hno k hk)
    have fl1' : itF X (decide (k = 0)) (ps X k) = none := fl1
    obtain ⟨-, -, k3, k4⟩ := it_ok fl1'
    have k4' : kD X (ps X k) = 0 ↔ k = 0 := by rw [← k4]; simp
    obtain ⟨h2, f2, t2, z1, z2, z3, z4, z5⟩ := X9_doItem_s m wo1 g1 y3 ig hk hn k3
    have re2 : RN h h2 := fun j j1 j2 => (z2 j j1 j2).trans (re j j1 j2)
    have c1 : ¬ nI n ≤ nI k := nI_ge hk (by omega)
    have r15 : mj_gI h1 53 9 15 = some (nI n) := gI_r o1 rfl
    have ob1 : mj_ob h1 53 9 = true := ob_r o1
    have o2 : h2[53]? = some (cO 9 (mfs X.2 F a b t0 v l (nI n))) := by rw [re2 53 (by decide) (by decide)]; exact o
    have r16 : mj_gR h2 53 9 16 = some 61 := gR_r o2 rfl
    have r0 : mj_gR h2 53 9 0 = some 54 := gR_r o2 rfl
    by_cases q : k = 0
    · left
      have q0 := k4'.mpr q
      rw [if_pos q0] at z1 z4
      refine ⟨(53, nI (k + 1), h2), ⟨h2, f2, t2, rfl, re2, z3, ?_, z5, by rw [q]; rfl⟩, fun K => ?_⟩
      · rw [if_neg (by omega), q]
        rw [q] at z4
        exact z4
      · show b_X9_read_33 _ 53 (nI k) h1 = _
        rw [b_X9_read_33, bs1 r15, if_neg c1, if_pos ob1, bs1 z1, if_pos (by show (0 : Int32) ≤ 0; decide), nI_1]
    · obtain ⟨k', hk'⟩ : ∃ k', k = k' + 1 := ⟨k - 1, by omega⟩
      subst hk'
      have q0 : ¬ kD X (ps X (k' + 1)) = 0 := fun y => q (k4'.mp y)
      have eD : (if k' + 1 = 0 then T else DT X (k' + 1 - 1)) = DT X k' := if_neg q
      rw [if_neg q0, eD] at z1 z4
      have hff' : ffirst (rj X) k' = none := hff
      by_cases c : (tR (DT X k') (kD X (ps X (k' + 1))) (vv X (k' + 1))).1 < 0
      · right
        intro K
        have cj : rj X k' = true := decide_eq_true c
        have fa := ff_at (N := n - 1) (by omega) hff' cj
        have s2 : h2[61]? = some (cI 356 sv) := by rw [re2 61 (by decide) (by decide)]; exact hs
        have cp := X9_copies_s (s := 0) (d := 0) (c := 356) s2 z3 (by decide) (by decide) (by decide) (by decide) (by decide) (by decide)
        rw [show nI 0 = (0 : Int32) from rfl, show nI 356 = (356 : Int32) from rfl] at cp
        refine ⟨_, fill2 (fun k => sv (0 + k)) f2 0 356, t2, ?_, fun j j1 j2 => ?_, get_self z3, fun j hj => ?_, get_set z5 (by decide)⟩
        · show b_X9_read_33 _ 53 (nI (k' + 1)) h1 = _
          rw [b_X9_read_33, bs1 r15, if_neg c1, if_pos ob1, bs1 z1, if_neg (Int32.not_le.mpr c), bs1 r16, bs1 r0, bs1 cp, rdA, fa]
        · rw [List.getElem?_set_ne (by omega)]; exact re2 j j1 j2
        · rw [fill2_in (by omega) (by omega), rdT, fa]
          show sv (0 + (j - 0)) = nI (T j)
          rw [show 0 + (j - 0) = j by omega]; exact es j hj
      · left
        have cj : rj X k' = false := decide_eq_false c
        refine ⟨(53, nI (k' + 1 + 1), h2), ⟨h2, f2, t2, rfl, re2, z3, ?_, z5, ff_next hff' cj⟩, fun K => ?_⟩
        · rw [if_neg (by omega)]; exact z4
        · show b_X9_read_33 _ 53 (nI (k' + 1)) h1 = _
          rw [b_X9_read_33, bs1 r15, if_neg c1, if_pos ob1, bs1 z1, if_pos (Int32.not_lt.mp c), nI_1]
  · obtain ⟨h1, f1, t1, rfl, re, y1, y2, y3, hff⟩ := hs2
    intro K
    have o1 : h1[53]? = some (cO 9 (mfs X.2 F a b t0 v l (nI n))) := by rw [re 53 (by decide) (by decide)]; exact o
    have c1 : nI n ≤ nI n := Int32.le_refl _
    have r15 : mj_gI h1 53 9 15 = some (nI n) := gI_r o1 rfl
    rw [if_neg (by omega)] at y2
    refine ⟨h1, f1, t1, ?_, re, y1, ?_, y3⟩
    · show b_X9_read_33 _ 53 (nI n) h1 = _
      rw [b_X9_read_33, bs1 r15, if_pos c1, bs1 r15, rdA, hff]
    · rw [rdT, hff]; exact y2
theorem itF_le {X : (Nat → Int32) × Nat} {f : Bool} {p b : Nat} (hp : p ≤ X.2) (h : itF X f p = some b) : b ≤ X.2 := by
  have h1 : sk X p ≤ X.2 := sk_le hp
  have h2 : ∀ i, sk X (np X (wE X p) i) ≤ X.2 := fun i => sk_le (np_le (en_le h1) i)
  unfold itF at h
  split at h
  · split at h
    · rw [← Option.some.inj h]; exact h2 _
    · split at h
      · exact absurd h (by simp)
      · rw [← Option.some.inj h]; exact h2 _
  · rw [← Option.some.inj h]; exact h1
theorem XS.rr {h h' : mj_H} {T T' : Nat → Nat} {I : Nat → Bool × (Nat → Nat)} {X : (Nat → Int32) × Nat} {F : Int64 × Int64} {K : Int32 × Int32 × Int32} (s : XS h T I X F K) (b : BN h' 1 T') (c : PS h' 7 T') (e : ∀ j, (j < 1 ∨ 11 ≤ j) → j ≠ 33 → (j < 36 ∨ 43 ≤ j) → h'[j]? = h[j]?) (r : RDR h' X) : XS h' T' I X F K := by
  obtain ⟨s1, s2, s3, s4, s5, s6, s7, t, s8⟩ := s
  exact ⟨by rw [e 0 (by decide) (by decide) (by decide)]; exact s1, b, c, s4.fr (fun j h1 h2 => e j (by omega) (by omega) (by omega)), s5.fr (fun j h1 h2 => e j (by omega) (by omega) (by omega)), r, s7.fr (fun j h1 h2 => e j (by omega) (by omega) (by omega)), t, by rw [e 52 (by decide) (by decide) (by decide)]; exact s8⟩
theorem m1_nI {b : Nat} (h : b < 2 ^ 31) : ¬ nI b = (-1 : Int32) := fun z => by
  have h1 : (nI b).toInt = (-1 : Int32).toInt := by rw [z]
  rw [nI_toInt h] at h1
  have : (-1 : Int32).toInt = -1 := by decide
  omega
theorem rdT_wo {X : (Nat → Int32) × Nat} {n : Nat} {T : Nat → Nat} (w : WO T) : WO (rdT X n T) := by
  unfold rdT
  split
  · exact w
  · exact DT_wo _
theorem op_read {T : Nat → Nat} {I : Nat → Bool × (Nat → Nat)} {X : (Nat → Int32) × Nat} (p : PU T I X) (F : Int64 × Int64) (K : Int32 × Int32 × Int32) : OPB (f_X8_read 0) (f_X9_read 53) T I X F K := by
  have k : TOK X := p.2.2
  have hX := k.1
  obtain ⟨n, hn, hs, hno⟩ := stp_ex k
  obtain ⟨p1, p2⟩ := ps_ok n hno
  cases q : fin X n
  · have hsome : ∃ y, fl X n = some y := by
      unfold stp at hs
      rw [q, Bool.false_or] at hs
      cases z : fl X n
      · rw [z] at hs; exact absurd hs (by simp)
      · exact ⟨_, rfl⟩
    obtain ⟨y, hy⟩ := hsome
    have yl : y ≤ X.2 := itF_le p2 hy
    have c1 := m1_nI (b := y) (by omega)
    refine ⟨(-10 : Int32) - nI y, T, I, X, F, K, p, fun h s => ?_, fun h s => ?_⟩
    · obtain ⟨⟨pl, st, tk, vl, it, im, r1⟩, r2, ⟨b, r3, r4⟩, ⟨D, r5⟩, g, r6⟩ := s.2.2.2.2.2.1
      obtain ⟨h', pl', st', tk', vl', it', g', a1, a2, a3, a4⟩ := X4_find_s ⟨r2, b, r3, r4⟩ k hn hs hno r1 r6
      rw [q, hy] at a1
      have a1' : f_X4_findFault 33 h = some (nI y, h') := a1
      have ob : mj_ob h 33 4 = true := ob_r r1
      refine ⟨h', ?_, s.rr (s.b.fr (fun j h1 h2 => a2 j (by omega) (by omega))) (s.2.2.1.fr (fun j h1 h2 => a2 j (by omega) (by omega))) (fun j j1 j2 j3 => a2 j j2 (by omega)) ⟨⟨_, _, _, _, _, _, a3⟩, by rw [a2 34 (by decide) (by decide)]; exact r2, ⟨b, by rw [a2 35 (by decide) (by decide)]; exact r3, r4⟩, ⟨D, r5.fr (fun j h1 h2 => a2 j (by omega) (by omega))⟩, g', a4⟩, fun j hj => a2 j (by omega) (by omega)⟩
      rw [f_X8_read, bs1 s.x.reader, if_pos ob, bs1 a1', if_neg c1]
    · have ss := s
      obtain ⟨⟨a, b, t, v, l, im, o⟩, s2, s3, s4, s5, s6, s7, s8, ⟨it, s9⟩, s10⟩ := s
      obtain ⟨h', a', b', t', v', l', im', it', y1, y2, y3, y4, -⟩ := X9_reads_s s6 k hn hs hno o s9
      rw [q, hy] at y1
      have y1' : f_X9_reads 53 h = some (nI y, h') := y1
      refine ⟨h', ?_, ?_, fun j hj => y2 j (by omega) (by omega)⟩
      · rw [f_X9_read, if_pos ss.g.ob, bs1 y1', if_neg c1]
      · unfold MS SC at *
        rw [y2 54 (by decide) (by decide), y2 55 (by decide) (by decide), y2 56 (by decide) (by decide), y2 57 (by decide) (by decide), y2 58 (by decide) (by decide), y2 59 (by decide) (by decide), y2 61 (by decide) (by decide), y2 62 (by decide) (by decide), y2 63 (by decide) (by decide), y2 64 (by decide) (by decide)]
        exact ⟨⟨a', b', t', v', l', im', y3⟩, s2, s3, s4, s5, s6, s7, s8, ⟨it', y4⟩, s10⟩
  · have h0 : 0 < n := by
      unfold fin at q
      simp only [Bool.and_eq_true, decide_eq_true_eq] at q
      exact q.1
    refine ⟨rdA X n, rdT X n T, I, X, F, K, p.t (rdT_wo p.1), fun h s => ?_, fun h s => ?_⟩
    · obtain ⟨⟨pl, st, tk, vl, it, im, r1⟩, r2, ⟨b, r3, r4⟩, ⟨D, r5⟩, g, r6⟩ := s.2.2.2.2.2.1
      obtain ⟨h', pl', st', tk', vl', it', g', a1, a2, a3, a4⟩ := X4_find_s ⟨r2, b, r3, r4⟩ k hn hs hno r1 r6
      rw [q, if_pos rfl] at a1
      have ob : mj_ob h 33 4 = true := ob_r r1
      have x' : XG h' := s.x.fr (a2 0 (by decide) (by decide))
      have ob' : mj_ob h' 33 4 = true := ob_r a3
      have t' : TXR h' X := TXR.re ⟨r2, b, r3, r4⟩ a2
      obtain ⟨h2, pl2, st2, tk2, vl2, it2, g2, b1, b2, b3, b4, b5, b6⟩ := X4_draft_s t' k hn h0 hno a3 a4 (r5.fr (fun j h1 h2 => a2 j (by omega) (by omega)))
      have re2 : RD2 h h2 := fun j j1 j2 => (b2 j j1 j2).trans (a2 j j1 (by omega))
      have rdr2 : RDR h2 X := ⟨⟨_, _, _, _, _, _, b3⟩, by rw [re2 34 (by decide) (by decide)]; exact r2, ⟨b, by rw [re2 35 (by decide) (by decide)]; exact r3, r4⟩, b5, g2, b4⟩
      have s2 : XS h2 T I X F K := s.rr (s.b.fr (fun j h1 h2 => re2 j (by omega) (by omega))) (s.2.2.1.fr (fun j h1 h2 => re2 j (by omega) (by omega))) (fun j j1 j2 j3 => re2 j j2 j3) rdr2
      cases hf : ffirst (rj X) (n - 1) with
      | some r =>
        rw [hf] at b1
        have b1' : f_X4_tellDraft 33 h' = some (nI (r + 1), h2) := b1
        have rl := (ff_some hf).1
        have c2 := m1_nI (b := r + 1) (by omega)
        have ea : rdA X n = (-1000 : Int32) - nI (r + 1) := by unfold rdA; rw [hf]
        have et : rdT X n T = T := by unfold rdT; rw [hf]
        rw [ea, et]
        refine ⟨h2, ?_, s2, fun j hj => re2 j (by omega) (by omega)⟩
        rw [f_X8_read, bs1 s.x.reader, if_pos ob, bs1 a1, if_pos rfl, bs1 x'.reader, if_pos ob', bs1 b1', if_neg c2]
      | none =>
        rw [hf] at b1
        have b1' : f_X4_tellDraft 33 h' = some (-1, h2) := b1
        have bD := b6 hf
        obtain ⟨h3, c1, c2, -, c3⟩ := X0_become_s s2.b bD (by omega)
        have ps3 : PS h3 7 T := s2.2.2.1.fr (fun j h1 h2 => c3 j (by omega))
        obtain ⟨h4, d1, d2, -, d3⟩ := X3_forget_s (p := 7) ps3
        have z3 : DT X (n - 1) 3 = 0 := DT_3 (n - 1) (ff_none hf)
        have ea : rdA X n = nI n := by unfold rdA; rw [hf]
        have et : rdT X n T = DT X (n - 1) := by unfold rdT; rw [hf]
        rw [ea, et]
        have x3 : XG h3 := s2.x.fr (c3 0 (by omega))
        have x4 : XG h4 := x3.fr (d3 0 (by omega))
        have ps4 : PS h4 7 (DT X (n - 1)) := by unfold PS; rw [z3]; exact d2 _ _
        have fr4 : ∀ j, (j < 1 ∨ 11 ≤ j) → h4[j]? = h2[j]? := fun j hj => (d3 j (by omega)).trans (c3 j (by omega))
        have o4 : h4[33]? = some (cO 4 (rfs pl2 st2 tk2 vl2 it2 (nI n))) := by rw [fr4 33 (by omega)]; exact b3
        have r36 : mj_gR h2 33 4 1 = some 36 := gR_r b3 rfl
        have o7 : mj_ob h3 7 3 = true := PSn.ob ps3
        refine ⟨h4, ?_, s2.bn (c2.fr (fun j h1 h2 => d3 j (by omega))) ps4 fr4, fun j hj => (fr4 j (by omega)).trans (re2 j (by omega) (by omega))⟩
        rw [f_X8_read, bs1 s.x.reader, if_pos ob, bs1 a1, if_pos rfl, bs1 x'.reader, if_pos ob', bs1 b1', if_pos rfl, bs1 s2.x.band, bs1 s2.x.reader, bs1 r36, if_pos s2.b.ob, bs1 c1, bs1 x3.past, if_pos o7, bs1 d1, bs1 x4.reader, bs1 (gI_r (k := 8) (x := nI n) o4 rfl)]
    · have ss := s
      obtain ⟨⟨a, b, t, v, l, im, o⟩, ⟨f, s2, s2'⟩, s3, s4, s5, s6, s7, ⟨tl, s8⟩, ⟨it, s9⟩, ⟨sv, s10⟩⟩ := s
      obtain ⟨h', a', b', t', v', l', im', it', y1, y2, y3, y4, y5⟩ := X9_reads_s s6 k hn hs hno o s9
      rw [q, if_pos rfl] at y1
      obtain ⟨y6, y7⟩ := y5 q
      rw [y6] at y3
      have f1 : h'[54]? = some (cI 356 f) := by rw [y2 54 (by decide) (by decide)]; exact s2
      have v1 : h'[61]? = some (cI 356 sv) := by rw [y2 61 (by decide) (by decide)]; exact s10
      have t1 : h'[59]? = some (cI 6 tl) := by rw [y2 59 (by decide) (by decide)]; exact s8
      have sc1 : SC h' := by
        unfold SC
        rw [y2 62 (by decide) (by decide), y2 63 (by decide) (by decide), y2 64 (by decide) (by decide)]; exact s3
      have r0 : mj_gR h' 53 9 0 = some 54 := gR_r y3 rfl
      have r16 : mj_gR h' 53 9 16 = some 61 := gR_r y3 rfl
      have cp := X9_copies_s (s := 0) (d := 0) (c := 356) f1 v1 (by decide) (by decide) (by decide) (by decide) (by decide) (by decide)
      rw [show nI 0 = (0 : Int32) from rfl, show nI 356 = (356 : Int32) from rfl] at cp
      obtain ⟨G, hG⟩ : ∃ G, G = fill2 (fun k => f (0 + k)) sv 0 356 := ⟨_, rfl⟩
      rw [← hG] at cp
      have eG : NT G T := fun j hj => by
        rw [hG, fill2_in (by omega) (by omega)]
        show f (0 + (j - 0)) = nI (T j)
        rw [show 0 + (j - 0) = j by omega]; exact s2' j hj
      have z : ∀ j, j ≠ 61 → (h'.set 61 (cI 356 G))[j]? = h'[j]? := fun j hj => List.getElem?_set_ne (by omega)
      have sc2 : SC (h'.set 61 (cI 356 G)) := by
        unfold SC
        rw [z 62 (by decide), z 63 (by decide), z 64 (by decide)]; exact sc1
      obtain ⟨h3, f3, t3, w1, w2, w3, w4, w5⟩ := X9_read33_s p.1 (get_set (c := cI 356 G) y3 (by decide)) (get_set f1 (by decide)) s2' sc2 (get_set y4 (by decide)) (get_self v1) eG (get_set t1 (by decide)) y7 hn h0 hno
      have fr3 : ∀ j, j ≠ 53 → j ≠ 54 → j ≠ 59 → j ≠ 60 → j ≠ 61 → h3[j]? = h[j]? := fun j j1 j2 j3 j4 j5 => (w2 j j2 j3).trans ((z j j5).trans (y2 j j1 j4))
      have g53 : h3[53]? = some (cO 9 (mfs X.2 F a' b' t' v' l' (nI n))) := by rw [w2 53 (by decide) (by decide), z 53 (by decide)]; exact y3
      have g60 : h3[60]? = some (cI 210 it') := by rw [w2 60 (by decide) (by decide), z 60 (by decide)]; exact y4
      have g61 : h3[61]? = some (cI 356 G) := by rw [w2 61 (by decide) (by decide)]; exact get_self v1
      refine ⟨h3, ?_, ?_, fun j hj => fr3 j (by omega) (by omega) (by omega) (by omega) (by omega)⟩
      · rw [f_X9_read, if_pos ss.g.ob, bs1 y1, if_pos rfl, bs1 r0, bs1 r16, bs1 cp]
        exact w1
      · unfold MS SC at *
        rw [fr3 55 (by decide) (by decide) (by decide) (by decide) (by decide), fr3 56 (by decide) (by decide) (by decide) (by decide) (by decide), fr3 57 (by decide) (by decide) (by decide) (by decide) (by decide), fr3 58 (by decide) (by decide) (by decide) (by decide) (by decide), fr3 62 (by decide) (by decide) (by decide) (by decide) (by decide), fr3 63 (by decide) (by decide) (by decide) (by decide) (by decide), fr3 64 (by decide) (by decide) (by decide) (by decide) (by decide)]
        exact ⟨⟨a', b', t', v', l', nI n, g53⟩, ⟨f3, w3, w4⟩, s3, s4, s5, s6, s7, ⟨t3, w5⟩, ⟨it', g60⟩, ⟨G, g61⟩⟩
