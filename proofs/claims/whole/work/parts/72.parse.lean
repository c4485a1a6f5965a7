/-! PURE: the whole text; X4 and X8 read it -/
theorem sk_ge (X : (Nat → Int32) × Nat) (p : Nat) : p ≤ sk X p := en_ge X _ p
theorem itF_sk {X : (Nat → Int32) × Nat} {p : Nat} (hp : p ≤ X.2) : (∀ f, itF X f (sk X p) = itF X f p) ∧ itE X (sk X p) = itE X p ∧ kD X (sk X p) = kD X p ∧ ∀ j, nm X (sk X p) j = nm X p j := by
  have e := sk_sk hp
  have k : kD X (sk X p) = kD X p := by unfold kD; rw [e]
  have w : wE X (sk X p) = wE X p := by unfold wE; rw [e]
  refine ⟨fun f => ?_, ?_, k, fun j => ?_⟩
  · unfold itF head; rw [k, w, e]
  · unfold itE; rw [k, w]
  · unfold nm; rw [w]
theorem np_ge {X : (Nat → Int32) × Nat} {q : Nat} : ∀ n, (∀ i, i < n → nbad X q i = false) → q + n ≤ np X q n
  | 0, _ => Nat.le_refl _
  | n + 1, h => by
    have ih := np_ge n (fun i hi => h i (by omega))
    have nb := h n (by omega)
    unfold nbad at nb
    simp only [Bool.not_eq_false', Bool.and_eq_true] at nb
    have h1 := sk_ge X (np X q n)
    have h2 := en_yes (cF_lt _ nb.1) nb.1
    rw [np]; omega
theorem kw_len : ∀ w, w < 5 → 3 ≤ (kwL w).length := by decide
theorem kwd_spl {X : (Nat → Int32) × Nat} {s : Nat} (h : kwd X s < 5) : spl X s (en X (cL X) s) (kwd X s) = true := by
  unfold kwd at h ⊢
  split
  · assumption
  · rename_i q0
    rw [if_neg q0] at h
    split
    · assumption
    · rename_i q1
      rw [if_neg q1] at h
      split
      · assumption
      · rename_i q2
        rw [if_neg q2] at h
        split
        · assumption
        · rename_i q3
          rw [if_neg q3] at h
          split
          · assumption
          · rename_i q4
            rw [if_neg q4] at h; exact absurd h (by decide)
theorem it_ok {X : (Nat → Int32) × Nat} {p : Nat} {f : Bool} (h : itF X f p = none) : p + 5 ≤ itE X p ∧ itE X p ≤ X.2 ∧ kD X p < 5 ∧ (f = true ↔ kD X p = 0) := by
  unfold itF at h
  by_cases hd : head X f p = true
  · rw [if_pos hd] at h
    unfold head at hd
    simp only [Bool.and_eq_true, decide_eq_true_eq] at hd
    obtain ⟨d1, d2, d3⟩ := hd
    cases hf : ffirst (nbad X (wE X p)) (need (kD X p)) with
    | some i => rw [hf] at h; exact absurd h (by simp)
    | none =>
      rw [hf] at h
      have h' : (if cS X (sk X (np X (wE X p) (need (kD X p)))) = true then none else some (sk X (np X (wE X p) (need (kD X p))))) = (none : Option Nat) := h
      by_cases c : cS X (sk X (np X (wE X p) (need (kD X p)))) = true
      · have l1 := cS_lt _ c
        have l2 := np_ge (X := X) (q := wE X p) (need (kD X p)) (ff_none hf)
        have l3 := sk_ge X (np X (wE X p) (need (kD X p)))
        have l4 := sk_ge X p
        have l5 := (need_w (kD X p) d2).2.1
        have l6 := kwd_spl (X := X) (s := sk X p) d2
        unfold spl at l6
        simp only [Bool.and_eq_true, decide_eq_true_eq] at l6
        have l7 := kw_len (kwd X (sk X p)) d2
        have l8 : wE X p = en X (cL X) (sk X p) := rfl
        unfold itE
        refine ⟨by omega, by omega, d2, ?_⟩
        cases f
        · simp at d3
          simp [d3]
        · simp at d3
          simp [d3]
      · rw [if_neg c] at h'; exact absurd h' (by simp)
  · rw [if_neg hd] at h; exact absurd h (by simp)
def ps (X : (Nat → Int32) × Nat) : Nat → Nat
  | 0 => 0
  | i + 1 => itE X (ps X i)
def fl (X : (Nat → Int32) × Nat) (i : Nat) : Option Nat := itF X (decide (i = 0)) (ps X i)
def fin (X : (Nat → Int32) × Nat) (i : Nat) : Bool := decide (0 < i) && !decide (sk X (ps X i) < X.2)
def stp (X : (Nat → Int32) × Nat) (i : Nat) : Bool := fin X i || (fl X i).isSome
theorem ps_ok {X : (Nat → Int32) × Nat} : ∀ i, (∀ j, j < i → stp X j = false) → 5 * i ≤ ps X i ∧ ps X i ≤ X.2
  | 0, _ => ⟨Nat.zero_le _, Nat.zero_le _⟩
  | i + 1, h => by
    obtain ⟨a, b⟩ := ps_ok i (fun j hj => h j (by omega))
    have := h i (by omega)
    unfold stp at this
    simp only [Bool.or_eq_false_iff] at this
    have h2 : fl X i = none := by
      have := this.2
      cases z : fl X i
      · rfl
      · rw [z] at this; exact absurd this (by simp)
    obtain ⟨c, d, -⟩ := it_ok h2
    rw [ps]; omega
theorem stp_ex {X : (Nat → Int32) × Nat} (k : TOK X) : ∃ n, n ≤ 30 ∧ stp X n = true ∧ ∀ i, i < n → stp X i = false := by
  have hX := k.1
  cases h : ffirst (stp X) 31 with
  | none =>
    have := ps_ok 31 (ff_none h)
    omega
  | some n =>
    obtain ⟨a, b, c⟩ := ff_some h
    exact ⟨n, by omega, b, c⟩
theorem fl_none {X : (Nat → Int32) × Nat} {i : Nat} (h : stp X i = false) : fl X i = none ∧ fin X i = false := by
  unfold stp at h
  simp only [Bool.or_eq_false_iff] at h
  refine ⟨?_, h.1⟩
  have := h.2
  cases z : fl X i
  · rfl
  · rw [z] at this; exact absurd this (by simp)
theorem X4_find_in {h : mj_H} {X : (Nat → Int32) × Nat} {st tk vl it im : Int32} {g : Nat → Int32} {n i : Nat} (t : TXR h X) (k : TOK X) (hn : n ≤ 30) (hi : i ≤ n) (hno : ∀ j, j < n → stp X j = false) (o : h[33]? = some (cO 4 (rfs (nI (ps X i)) st tk vl it im))) (hg : h[42]? = some (cI 6 g)) : ∃ h' pl st' tk' vl' it' g', RE h h' ∧ h'[33]? = some (cO 4 (rfs pl st' tk' vl' it' im)) ∧ h'[42]? = some (cI 6 g') ∧ (∀ b, fl X i = some b → st' = nI b) ∧ (fl X i = none → pl = nI (ps X (i + 1))) ∧ (fin X i = true → ∀ K12, b_X4_findFault_12 K12 33 (nI i) h = some (-1, h.set 33 (cO 4 (rfs (nI (sk X (ps X i))) st tk vl it im)))) ∧ (fin X i = false → ∀ K12, b_X4_findFault_12 K12 33 (nI i) h = if (fl X i).isNone = true then (mj_gI h' 33 4 8).bind fun x2 => (mj_sV h' 33 4 8 (.int (x2 + (1 : Int32)))).bind fun h3 => K12 33 (nI i + (1 : Int32)) h3 else (mj_gI h' 33 4 4).bind fun x4 => some (x4, h')) := by
  have hX := k.1
  obtain ⟨p1, p2⟩ := ps_ok i (fun j hj => hno j (by omega))
  have hs : sk X (ps X i) ≤ X.2 := sk_le p2
  have e1 := X4_skip_s t k o p2
  have o2 := get_self (c := cO 4 (rfs (nI (sk X (ps X i))) st tk vl it im)) o
  have g2 := get_set (c := cO 4 (rfs (nI (sk X (ps X i))) st tk vl it im)) hg (show 33 ≠ 42 by decide)
  have re0 : RE h h := fun _ _ _ => rfl
  have re2 := re0.s33 (cO 4 (rfs (nI (sk X (ps X i))) st tk vl it im))
  obtain ⟨H, hH⟩ : ∃ H, H = h.set 33 (cO 4 (rfs (nI (sk X (ps X i))) st tk vl it im)) := ⟨_, rfl⟩
  rw [← hH] at e1 o2 g2 re2
  have t2 := t.re re2
  obtain ⟨i1, i2, i3, i4⟩ := itF_sk p2
  obtain ⟨h', pl, st', tk', vl', it', g', y1, y2, y3, y4, y5, y6⟩ := X4_item_s (decide (i = 0)) t2 k o2 g2 hs
  rw [i1, i2] at y6
  rw [i1] at y1 y5
  have b := X7_byteAt_s t2 k (j := sk X (ps X i)) (by omega)
  have c150 : ¬ (150 : Int32) < nI i := nI_nlt (a := 150) (by omega) (by decide)
  have ob1 : mj_ob h 33 4 = true := ob_r o
  have ob2 : mj_ob H 33 4 = true := ob_r o2
  have z0 : nI i = (0 : Int32) ↔ i = 0 := nI_eq (by omega) (by decide)
  have l0 : nI i ≤ (0 : Int32) ↔ i ≤ 0 := nle_iff (b := 0) (by omega) (by decide)
  refine ⟨h', pl, st', tk', vl', it', g', fun j j1 j2 => (y2 j j1 j2).trans (re2 j j1 j2), y3, y4, y5, fun hf => (y6 hf).1, fun hf K12 => ?_, fun hf K12 => ?_⟩
  · unfold fin at hf
    simp only [Bool.and_eq_true, decide_eq_true_eq, Bool.not_eq_true', decide_eq_false_iff_not] at hf
    have l0' : ¬ i ≤ 0 := by omega
    have be := (bt_e k (sk X (ps X i))).mpr hf.2
    rw [be] at b
    rw [← hH]
    simp only [b_X4_findFault_12, c150, if_false, ob1, if_true, e1, bs, l0, l0', gR_r (k := 0) (q := 34) o2 rfl, gI_r (k := 3) (x := nI (sk X (ps X i))) o2 rfl, t2.ob, b]
  · have main : ∀ s1, s1 = bi (decide (i = 0)) → f_X4_findFault_54 K12 33 (nI i) 33 s1 H = if (fl X i).isNone = true then (mj_gI h' 33 4 8).bind fun x2 => (mj_sV h' 33 4 8 (.int (x2 + (1 : Int32)))).bind fun h3 => K12 33 (nI i + (1 : Int32)) h3 else (mj_gI h' 33 4 4).bind fun x4 => some (x4, h') := fun s1 hs1 => by
      rw [hs1, f_X4_findFault_54, if_pos ob2, bs1 y1]
      unfold fl
      cases (itF X (decide (i = 0)) (ps X i)).isNone
      · simp only [bi_f, if_true, Bool.false_eq_true, if_false]
      · simp only [bi_t, one0, if_false, if_true]
    by_cases q : i = 0
    · have l0' : i ≤ 0 := by omega
      have q' := z0.mpr q
      rw [← main 1 (by rw [decide_eq_true q]; rfl)]
      simp only [b_X4_findFault_12, c150, if_false, ob1, if_true, e1, bs, l0, l0', f_X4_findFault_44]
      rw [if_pos q']
    · have l0' : ¬ i ≤ 0 := by omega
      have hm : sk X (ps X i) < X.2 := by
        unfold fin at hf
        rw [decide_eq_true (show 0 < i by omega), Bool.true_and] at hf
        simpa using hf
      have be : ¬ bt X (sk X (ps X i)) = -1 := fun z => (bt_e k _).mp z hm
      rw [← main 0 (by rw [decide_eq_false q]; rfl)]
      simp only [b_X4_findFault_12, c150, if_false, ob1, if_true, e1, bs, l0, l0', gR_r (k := 0) (q := 34) o2 rfl, gI_r (k := 3) (x := nI (sk X (ps X i))) o2 rfl, t2.ob, b, be, f_X4_findFault_44, z0, q]
theorem X4_find_s {h : mj_H} {X : (Nat → Int32) × Nat} {pl st tk vl it im : Int32} {g : Nat → Int32} {n : Nat} (t : TXR h X) (k : TOK X) (hn : n ≤ 30) (hs : stp X n = true) (hno : ∀ j, j < n → stp X j = false) (o : h[33]? = some (cO 4 (rfs pl st tk vl it im))) (hg : h[42]? = some (cI 6 g)) : ∃ h' pl' st' tk' vl' it' g', f_X4_findFault 33 h = some (if fin X n = true then -1 else nI ((fl X n).getD 0), h') ∧ RE h h' ∧ h'[33]? = some (cO 4 (rfs pl' st' tk' vl' it' (nI n))) ∧ h'[42]? = some (cI 6 g') := by
  have u1 := sV_r (k := 3) (.int (0 : Int32)) o (by simp [rfs])
  have o1 : (h.set 33 (cO 4 ((rfs pl st tk vl it im).set 3 (.int 0))))[33]? = some (cO 4 (rfs 0 st tk vl it im)) := get_self o
  have u2 := sV_r (k := 8) (.int (0 : Int32)) o1 (by simp [rfs])
  rw [List.set_set] at u2
  have re0 : RE h h := fun _ _ _ => rfl
  obtain ⟨H, hH⟩ : ∃ H, H = h.set 33 (cO 4 ((rfs 0 st tk vl it im).set 8 (.int 0))) := ⟨_, rfl⟩
  rw [← hH] at u2
  have oH : H[33]? = some (cO 4 (rfs (nI (ps X 0)) st tk vl it (nI 0))) := by rw [hH]; exact get_self o
  have gH : H[42]? = some (cI 6 g) := by rw [hH]; exact get_set hg (by decide)
  have rH : RE h H := by rw [hH]; exact re0.s33 _
  have key := fix_w (F := fun (K12 : (Nat × Int32 × mj_H) → Option (Int32 × mj_H)) (s : Nat × Int32 × mj_H) => b_X4_findFault_12 (fun v0 v1 h => K12 (v0, v1, h)) s.1 s.2.1 s.2.2)
    (fun i s => ∃ h1 st1 tk1 vl1 it1 g1, s = (33, nI i, h1) ∧ RE h h1 ∧ h1[33]? = some (cO 4 (rfs (nI (ps X i)) st1 tk1 vl1 it1 (nI i))) ∧ h1[42]? = some (cI 6 g1))
    (fun r => ∃ h' pl' st' tk' vl' it' g', r = some (if fin X n = true then -1 else nI ((fl X n).getD 0), h') ∧ RE h h' ∧ h'[33]? = some (cO 4 (rfs pl' st' tk' vl' it' (nI n))) ∧ h'[42]? = some (cI 6 g')) n (fun i hi s hs => ?_) (fun s hs2 => ?_) 1000 (by omega) (33, nI 0, H) ⟨H, st, tk, vl, it, g, rfl, rH, oH, gH⟩
  · obtain ⟨h', pl', st', tk', vl', it', g', a1, a2⟩ := key
    refine ⟨h', pl', st', tk', vl', it', g', ?_, a2⟩
    rw [← a1]
    simp only [f_X4_findFault, u1, u2, bs]
    rfl
  · obtain ⟨h1, st1, tk1, vl1, it1, g1, rfl, re, o2, g2⟩ := hs
    left
    obtain ⟨h', pl', st', tk', vl', it', g', y1, y2, y3, y4, y5, y6, y7⟩ := X4_find_in (t.re re) k hn (Nat.le_of_lt hi) hno o2 g2
    obtain ⟨f1, f2⟩ := fl_none (hno i hi)
    have e := y7 f2
    have u := sV_r (k := 8) (.int (nI (i + 1))) y2 (by simp [rfs])
    refine ⟨(33, nI (i + 1), h'.set 33 (cO 4 ((rfs pl' st' tk' vl' it' (nI i)).set 8 (.int (nI (i + 1)))))), ⟨_, st', tk', vl', it', g', rfl, ?_, ?_, get_set y3 (by decide)⟩, fun K => ?_⟩
    · exact RE.s33 (fun j j1 j2 => (y1 j j1 j2).trans (re j j1 j2)) _
    · rw [← y5 f1]; exact get_self y2
    · show b_X4_findFault_12 _ 33 (nI i) h1 = _
      rw [e, f1]
      simp only [Option.isNone_none, if_true, gI_r (k := 8) (x := nI i) y2 rfl, bs, nI_1, u]
  · obtain ⟨h1, st1, tk1, vl1, it1, g1, rfl, re, o2, g2⟩ := hs2
    intro K
    obtain ⟨h', pl', st', tk', vl', it', g', y1, y2, y3, y4, y5, y6, y7⟩ := X4_find_in (t.re re) k hn (Nat.le_refl n) hno o2 g2
    cases q : fin X n
    · have e := y7 q
      have hsome : ∃ b, fl X n = some b := by
        unfold stp at hs
        rw [q, Bool.false_or] at hs
        cases z : fl X n
        · rw [z] at hs; exact absurd hs (by simp)
        · exact ⟨_, rfl⟩
      obtain ⟨b, hb⟩ := hsome
      refine ⟨h', pl', st', tk', vl', it', g', ?_, fun j j1 j2 => (y1 j j1 j2).trans (re j j1 j2), y2, y3⟩
      show b_X4_findFault_12 _ 33 (nI n) h1 = _
      rw [e, hb]
      have sb := y4 b hb
      simp only [Option.isNone_some, Bool.false_eq_true, if_false, gI_r (k := 4) (x := st') y2 rfl, bs, sb]
      rfl
    · have e := y6 q
      refine ⟨h1.set 33 (cO 4 (rfs (nI (sk X (ps X n))) st1 tk1 vl1 it1 (nI n))), _, _, _, _, _, g1, ?_, re.s33 _, get_self o2, get_set g2 (by decide)⟩
      show b_X4_findFault_12 _ 33 (nI n) h1 = _
      rw [e, if_pos rfl]
/-! telling -/
def tR (D : Nat → Nat) (w : Nat) (v : Nat → Int32) : Int32 × (Nat → Nat) := if w = 0 then musterR D (v 0) else if w = 1 then manR D v else if w = 2 then wornR D (v 0) (v 1) else if w = 3 then pairR D (v 0) (v 1) else wordR D (v 0)
theorem tR_congr {D : Nat → Nat} {w : Nat} {v v' : Nat → Int32} (hw : w < 5) (e : ∀ j, j < need w → v j = v' j) : tR D w v = tR D w v' := by
  have : w = 0 ∨ w = 1 ∨ w = 2 ∨ w = 3 ∨ w = 4 := by omega
  rcases this with rfl | rfl | rfl | rfl | rfl
  · show musterR D (v 0) = musterR D (v' 0)
    rw [e 0 (by decide)]
  · exact manR_congr e
  · show wornR D (v 0) (v 1) = wornR D (v' 0) (v' 1)
    rw [e 0 (by decide), e 1 (by decide)]
  · show pairR D (v 0) (v 1) = pairR D (v' 0) (v' 1)
    rw [e 0 (by decide), e 1 (by decide)]
  · show wordR D (v 0) = wordR D (v' 0)
    rw [e 0 (by decide)]
theorem WO.tR {D : Nat → Nat} (w : WO D) (k : Nat) (v : Nat → Int32) : WO (tR D k v).2 := by
  show WO (if k = 0 then musterR D (v 0) else if k = 1 then manR D v else if k = 2 then wornR D (v 0) (v 1) else if k = 3 then pairR D (v 0) (v 1) else wordR D (v 0)).2
  split
  · exact w.rMuster _
  · split
    · exact w.rMan _
    · split
      · exact w.rWorn _ _
      · split
        · exact w.rPair _ _
        · exact w.rWord _
theorem X4_tell_s {h : mj_H} {pl st tk vl im : Int32} {g : Nat → Int32} {D : Nat → Nat} {w : Nat} (o : h[33]? = some (cO 4 (rfs pl st tk vl (nI w) im))) (hg : h[42]? = some (cI 6 g)) (b : BN h 36 D) (hw : w < 5) (wo : w = 0 ∨ WO D) : ∃ h', f_X4_tellItem 33 h = some ((tR D w g).1, h') ∧ BN h' 36 (tR D w g).2 ∧ ∀ k, (k < 36 ∨ 42 ≤ k) → h'[k]? = h[k]? := by
  have i0 := gI_r (k := 7) (x := nI w) o rfl
  have r1 : mj_gR h 33 4 1 = some 36 := gR_r o rfl
  have r2 : mj_gR h 33 4 2 = some 42 := gR_r o rfl
  have a0 := aI_r hg (show 0 < 6 by decide) (by decide)
  have a1 := aI_r hg (show 1 < 6 by decide) (by decide)
  rw [show nI 0 = (0 : Int32) from rfl] at a0
  rw [show nI 1 = (1 : Int32) from rfl] at a1
  have : w = 0 ∨ w = 1 ∨ w = 2 ∨ w = 3 ∨ w = 4 := by omega
  rcases this with rfl | rfl | rfl | rfl | rfl
  · obtain ⟨h', y1, y2, -, y3⟩ := X0_begin_s b (g 0)
    refine ⟨h', ?_, y2, fun k hk => y3 k (by omega)⟩
    have c0 : nI 0 = (0 : Int32) := rfl
    rw [f_X4_tellItem, bs1 i0, if_pos c0]
    simp only [r1, r2, bs, a0, b.ob, if_true, y1]
    rfl
  · obtain ⟨h', y1, y2, -, y3⟩ := X0_enrol_s b (wo.resolve_left (by decide)).2 hg (by omega)
    refine ⟨h', ?_, y2, fun k hk => y3 k (by omega)⟩
    have c0 : ¬ nI 1 = (0 : Int32) := by decide
    have c1 : nI 1 = (1 : Int32) := rfl
    rw [f_X4_tellItem, bs1 i0, if_neg c0, if_pos c1]
    simp only [r1, r2, bs, b.ob, if_true, y1]
    rfl
  · obtain ⟨h', y1, y2, -, y3⟩ := X0_dress_s b (g 0) (g 1)
    refine ⟨h', ?_, y2, fun k hk => y3 k (by omega)⟩
    have c0 : ¬ nI 2 = (0 : Int32) := by decide
    have c1 : ¬ nI 2 = (1 : Int32) := by decide
    have c2 : nI 2 = (2 : Int32) := rfl
    rw [f_X4_tellItem, bs1 i0, if_neg c0, if_neg c1, if_pos c2]
    simp only [r1, r2, bs, a0, a1, b.ob, if_true, y1]
    rfl
  · obtain ⟨h', y1, y2, -, y3⟩ := X0_bind_s b (wo.resolve_left (by decide)).1 (g 0) (g 1)
    refine ⟨h', ?_, y2, fun k hk => y3 k (by omega)⟩
    have c0 : ¬ nI 3 = (0 : Int32) := by decide
    have c1 : ¬ nI 3 = (1 : Int32) := by decide
    have c2 : ¬ nI 3 = (2 : Int32) := by decide
    have c3 : nI 3 = (3 : Int32) := rfl
    rw [f_X4_tellItem, bs1 i0, if_neg c0, if_neg c1, if_neg c2, if_pos c3]
    simp only [r1, r2, bs, a0, a1, b.ob, if_true, y1]
    rfl
  · obtain ⟨h', y1, y2, -, y3⟩ := X0_inform_s b (wo.resolve_left (by decide)).1 (g 0)
    refine ⟨h', ?_, y2, fun k hk => y3 k (by omega)⟩
    have c0 : ¬ nI 4 = (0 : Int32) := by decide
    have c1 : ¬ nI 4 = (1 : Int32) := by decide
    have c2 : ¬ nI 4 = (2 : Int32) := by decide
    have c3 : ¬ nI 4 = (3 : Int32) := by decide
    have c4 : nI 4 = (4 : Int32) := rfl
    rw [f_X4_tellItem, bs1 i0, if_neg c0, if_neg c1, if_neg c2, if_neg c3, if_pos c4]
    simp only [r1, r2, bs, a0, b.ob, if_true, y1]
    rfl
def vv (X : (Nat → Int32) × Nat) (i : Nat) : Nat → Int32 := fun j => nI (nm X (ps X i) j)
/-- the muster after the items 0..i -/
def DT (X : (Nat → Int32) × Nat) : Nat → (Nat → Nat)
  | 0 => musterT (nm X (ps X 0) 0)
  | i + 1 => (tR (DT X i) (kD X (ps X (i + 1))) (vv X (i + 1))).2
def rj (X : (Nat → Int32) × Nat) (i : Nat) : Bool := decide ((tR (DT X i) (kD X (ps X (i + 1))) (vv X (i + 1))).1 < 0)
theorem DT_wo {X : (Nat → Int32) × Nat} : ∀ i, WO (DT X i)
  | 0 => WO.muster (by have := nval_lt (X := X) (s := sk X (np X (wE X (ps X 0)) 0)); unfold nm; omega)
  | i + 1 => (DT_wo i).tR _ _
theorem RC_tR {D : Nat → Nat} (w : WF D) (k : Nat) (v : Nat → Int32) : RC (tR D k v).1 D (tR D k v).2 := by
  unfold tR
  split
  · exact RC_muster w _
  · split
    · exact RC_man w _
    · split
      · exact RC_worn w _ _
      · split
        · exact RC_pair D _ _
        · exact RC_word D _
theorem DT_3 {X : (Nat → Int32) × Nat} : ∀ i, (∀ j, j < i → rj X j = false) → DT X i 3 = 0
  | 0, _ => by simp [DT, musterT]
  | i + 1, h => by
    have h1 := h i (by omega)
    unfold rj at h1
    rw [decide_eq_false_iff_not] at h1
    rcases RC_tR (DT_wo (X := X) i).1 (kD X (ps X (i + 1))) (vv X (i + 1)) with ⟨c, -⟩ | ⟨-, c⟩
    · exfalso
      apply h1
      rcases c with c | c | c <;> rw [c] <;> decide
    · exact c
/-- nothing but X4's object, its numbers, its draft was written -/
def RD2 (h h' : mj_H) : Prop := ∀ j, j ≠ 33 → (j < 36 ∨ 43 ≤ j) → h'[j]? = h[j]?
theorem X4_draft_s {h : mj_H} {X : (Nat → Int32) × Nat} {pl st tk vl it : Int32} {g : Nat → Int32} {D0 : Nat → Nat} {n : Nat} (t : TXR h X) (k : TOK X) (hn : n ≤ 30) (h0 : 0 < n) (hno : ∀ j, j < n → stp X j = false) (o : h[33]? = some (cO 4 (rfs pl st tk vl it (nI n)))) (hg : h[42]? = some (cI 6 g)) (b : BN h 36 D0) : ∃ h' pl' st' tk' vl' it' g', f_X4_tellDraft 33 h = some ((match ffirst (rj X) (n - 1) with
    | some r => nI (r + 1)
    | none => -1), h') ∧ RD2 h h' ∧ h'[33]? = some (cO 4 (rfs pl' st' tk' vl' it' (nI n))) ∧ h'[42]? = some (cI 6 g') ∧ (∃ D, BN h' 36 D) ∧ (ffirst (rj X) (n - 1) = none → BN h' 36 (DT X (n - 1))) := by
  have u1 := sV_r (k := 3) (.int (0 : Int32)) o (by simp [rfs])
  obtain ⟨H, hH⟩ : ∃ H, H = h.set 33 (cO 4 ((rfs pl st tk vl it (nI n)).set 3 (.int 0))) := ⟨_, rfl⟩
  rw [← hH] at u1
  have oH : H[33]? = some (cO 4 (rfs (nI (ps X 0)) st tk vl it (nI n))) := by rw [hH]; exact get_self o
  have gH : H[42]? = some (cI 6 g) := by rw [hH]; exact get_set hg (by decide)
  have bH : BN H 36 D0 := by rw [hH]; exact b.set (by omega)
  have rH : RD2 h H := fun j j1 j2 => by rw [hH]; exact List.getElem?_set_ne (by omega)
  have key := fix_w (F := fun (K7 : (Nat × Int32 × mj_H) → Option (Int32 × mj_H)) (s : Nat × Int32 × mj_H) => b_X4_tellDraft_7 (fun v0 v1 h => K7 (v0, v1, h)) s.1 s.2.1 s.2.2)
    (fun i s => ∃ h1 st1 tk1 vl1 it1 g1, s = (33, nI i, h1) ∧ RD2 h h1 ∧ h1[33]? = some (cO 4 (rfs (nI (ps X i)) st1 tk1 vl1 it1 (nI n))) ∧ h1[42]? = some (cI 6 g1) ∧ BN h1 36 (if i = 0 then D0 else DT X (i - 1)) ∧ ffirst (rj X) (i - 1) = none)
    (fun r => ∃ h' pl' st' tk' vl' it' g', r = some ((match ffirst (rj X) (n - 1) with
    | some r => nI (r + 1)
    | none => -1), h') ∧ RD2 h h' ∧ h'[33]? = some (cO 4 (rfs pl' st' tk' vl' it' (nI n))) ∧ h'[42]? = some (cI 6 g') ∧ (∃ D, BN h' 36 D) ∧ (ffirst (rj X) (n - 1) = none → BN h' 36 (DT X (n - 1)))) n (fun i hi s hs => ?_) (fun s hs2 => ?_) 1000 (by omega) (33, nI 0, H) ⟨H, st, tk, vl, it, g, rfl, rH, oH, gH, bH, rfl⟩
  · obtain ⟨h', pl', st', tk', vl', it', g', a1, a2⟩ := key
    refine ⟨h', pl', st', tk', vl', it', g', ?_, a2⟩
    rw [← a1]
    simp only [f_X4_tellDraft, u1, bs]
    rfl
  · obtain ⟨h1, st1, tk1, vl1, it1, g1, rfl, re, o2, g2, b2, hf⟩ := hs
    have t1 : TXR h1 X := t.fr (fun j h1 h2 => re j (by omega) (by omega))
    obtain ⟨p1, p2⟩ := ps_ok i (fun j hj => hno j (by omega))
    obtain ⟨f1, f2⟩ := fl_none (hno i hi)
    obtain ⟨h2, pl2, st2, tk2, vl2, it2, gg, y1, y2, y3, y4, y5, y6⟩ := X4_item_s (decide (i = 0)) t1 k o2 g2 p2
    have f1' : itF X (decide (i = 0)) (ps X i) = none := f1
    obtain ⟨z1, z2, z3⟩ := y6 f1'
    obtain ⟨k1, k2, k3, k4⟩ := it_ok f1'
    have k4' : kD X (ps X i) = 0 ↔ i = 0 := by rw [← k4]; simp
    rw [f1', Option.isNone_none, bi_t] at y1
    rw [z2] at y3
    have b3 : BN h2 36 (if i = 0 then D0 else DT X (i - 1)) := b2.fr (fun j h1 h2 => y2 j (by omega) (by omega))
    obtain ⟨h3, w1, w2, w3⟩ := X4_tell_s y3 y4 b3 k3 (by
      by_cases q : i = 0
      · left; exact k4'.mpr q
      · right; rw [if_neg q]; exact DT_wo _)
    have cg := tR_congr (D := if i = 0 then D0 else DT X (i - 1)) (v := gg) (v' := vv X i) k3 (fun j hj => z3 j hj)
    rw [cg] at w1 w2
    have c1 : ¬ nI n ≤ nI i := nI_ge hi (by omega)
    have z0 : nI i = (0 : Int32) ↔ i = 0 := nI_eq (by omega) (by decide)
    have ob1 : mj_ob h1 33 4 = true := ob_r o2
    have ob2 : mj_ob h2 33 4 = true := ob_r y3
    have r3 : RD2 h h3 := fun j j1 j2 => (w3 j (by omega)).trans ((y2 j j1 (by omega)).trans (re j j1 j2))
    have o3 : h3[33]? = some (cO 4 (rfs (nI (ps X (i + 1))) st2 tk2 vl2 (nI (kD X (ps X i))) (nI n))) := by rw [w3 33 (by omega), ps, ← z1]; exact y3
    have g3 : h3[42]? = some (cI 6 gg) := by rw [w3 42 (by omega)]; exact y4
    have step : ∀ K7, b_X4_tellDraft_7 K7 33 (nI i) h1 = if 0 ≤ (tR (if i = 0 then D0 else DT X (i - 1)) (kD X (ps X i)) (vv X i)).1 then K7 33 (nI i + (1 : Int32)) h3 else some (nI i, h3) := fun K7 => by
      have main : ∀ s1, s1 = bi (decide (i = 0)) → f_X4_tellDraft_25 K7 33 (nI i) 33 s1 h1 = if 0 ≤ (tR (if i = 0 then D0 else DT X (i - 1)) (kD X (ps X i)) (vv X i)).1 then K7 33 (nI i + (1 : Int32)) h3 else some (nI i, h3) := fun s1 hs1 => by
        rw [hs1, f_X4_tellDraft_25, if_pos ob1, bs1 y1, if_neg one0, if_pos ob2, bs1 w1]
      rw [b_X4_tellDraft_7, bs1 (gI_r (k := 8) (x := nI n) o2 rfl), if_neg c1]
      by_cases q : i = 0
      · rw [if_pos (z0.mpr q)]; exact main 1 (by rw [decide_eq_true q]; rfl)
      · rw [if_neg (fun y => q (z0.mp y))]; exact main 0 (by rw [decide_eq_false q]; rfl)
    by_cases q : i = 0
    · left
      subst q
      have kz := k4'.mpr rfl
      have okv : mj_ok (vv X 0 0) 100 = true := by
        have := nval_lt (X := X) (s := sk X (np X (wE X (ps X 0)) 0))
        unfold vv nm
        rw [ok_nI (by omega)]; exact decide_eq_true this
      have tv : tN (vv X 0 0) = nm X (ps X 0) 0 := by
        have := nval_lt (X := X) (s := sk X (np X (wE X (ps X 0)) 0))
        unfold vv tN; exact nI_clamp (by unfold nm; omega)
      have e : tR (if 0 = 0 then D0 else DT X (0 - 1)) (kD X (ps X 0)) (vv X 0) = (nI (D0 0), DT X 0) := by
        rw [if_pos rfl, kz]
        show musterR D0 (vv X 0 0) = _
        rw [musterR, if_pos okv, tv]; rfl
      rw [e] at w2
      refine ⟨(33, nI 1, h3), ⟨h3, st2, tk2, vl2, _, gg, rfl, r3, o3, g3, w2, rfl⟩, fun K => ?_⟩
      have b0 := b.1
      show b_X4_tellDraft_7 _ 33 (nI 0) h1 = _
      rw [step, e, if_pos (nI_pos' (by omega))]
      rfl
    · obtain ⟨i', hi'⟩ : ∃ i', i = i' + 1 := ⟨i - 1, by omega⟩
      subst hi'
      have e : (if i' + 1 = 0 then D0 else DT X (i' + 1 - 1)) = DT X i' := if_neg q
      rw [e] at w2 step
      have hf' : ffirst (rj X) i' = none := hf
      by_cases c : (tR (DT X i') (kD X (ps X (i' + 1))) (vv X (i' + 1))).1 < 0
      · right
        intro K
        have cj : rj X i' = true := decide_eq_true c
        have fa := ff_at (N := n - 1) (by omega) hf' cj
        refine ⟨h3, _, _, _, _, _, gg, ?_, r3, o3, g3, ⟨_, w2⟩, fun z => ?_⟩
        · show b_X4_tellDraft_7 _ 33 (nI (i' + 1)) h1 = _
          rw [step, if_neg (Int32.not_le.mpr c), fa]
        · rw [fa] at z; exact absurd z (by simp)
      · left
        have cj : rj X i' = false := decide_eq_false c
        refine ⟨(33, nI (i' + 1 + 1), h3), ⟨h3, st2, tk2, vl2, _, gg, rfl, r3, o3, g3, w2, ff_next hf' cj⟩, fun K => ?_⟩
        show b_X4_tellDraft_7 _ 33 (nI (i' + 1)) h1 = _
        rw [step, if_pos (Int32.not_lt.mp c), nI_1]
  · obtain ⟨h1, st1, tk1, vl1, it1, g1, rfl, re, o2, g2, b2, hf⟩ := hs2
    intro K
    have c1 : nI n ≤ nI n := Int32.le_refl _
    rw [if_neg (by omega)] at b2
    refine ⟨h1, _, _, _, _, _, g1, ?_, re, o2, g2, ⟨_, b2⟩, fun _ => b2⟩
    show b_X4_tellDraft_7 _ 33 (nI n) h1 = _
    rw [b_X4_tellDraft_7, bs1 (gI_r (k := 8) (x := nI n) o2 rfl), if_pos c1, hf]
