/-! PURE: the model reads a text -/
def tko (X : (Nat → Int32) × Nat) (F : Int64 × Int64) (p : Nat) (im : Int32) : List Value := mfs X.2 F (nI (mkE X (sk X p))) (nI (sk X p)) (nI (mkK X (sk X p))) (nI (mkV X (sk X p))) (mkL X (sk X p)) im
def RM (h h' : mj_H) : Prop := ∀ j, j ≠ 53 → j ≠ 60 → h'[j]? = h[j]?
theorem RM.s {h h' : mj_H} (e : RM h h') {k : Nat} (hk : k = 53 ∨ k = 60) (c : mj_C) : RM h (h'.set k c) := fun j h1 h2 => by rw [List.getElem?_set_ne (by omega)]; exact e j h1 h2
theorem MTX.rm {h h' : mj_H} {X : (Nat → Int32) × Nat} (t : MTX h X) (e : RM h h') : MTX h' X := by
  obtain ⟨b, t1, t2⟩ := t
  exact ⟨b, by rw [e 57 (by decide) (by decide)]; exact t1, t2⟩
theorem mk_num {X : (Nat → Int32) × Nat} {s : Nat} (h : cF X s = true) (h2 : nok X s = true) : mkK X s = 2 ∧ mkE X s = en X (cF X) s ∧ mkV X s = nval X s := by
  have hl := cF_lt _ h
  have zL : cL X s = false := by
    cases z : cL X s
    · rfl
    · rw [(cLF z).1] at h; exact absurd h (by decide)
  unfold mkK mkE mkV
  simp only [hl, if_true, zL, Bool.false_eq_true, if_false, h, h2]
  exact ⟨trivial, trivial, trivial⟩
theorem mk_nn {X : (Nat → Int32) × Nat} {s : Nat} (h : (cF X s && nok X s) = false) : mkK X s ≠ 2 := by
  unfold mkK
  split
  · split
    · decide
    · split
      · rename_i q
        rw [q, Bool.true_and] at h
        rw [h]; decide
      · split <;> decide
  · decide
theorem mk_semi {X : (Nat → Int32) × Nat} {s : Nat} : (mkK X s = 3 ↔ cS X s = true) ∧ (cS X s = true → mkE X s = s + 1) := by
  by_cases hl : s < X.2
  · cases qL : cL X s
    · cases qF : cF X s
      · cases qS : cS X s
        · unfold mkK mkE; simp [hl, qL, qF, qS]
        · unfold mkK mkE; simp [hl, qL, qF, qS]
      · have zS : cS X s = false := by
          have := cF_b qF
          cases z : cS X s
          · rfl
          · unfold cS at z; simp only [Bool.and_eq_true, decide_eq_true_eq] at z; omega
        refine ⟨?_, fun z => by rw [zS] at z; exact absurd z (by decide)⟩
        unfold mkK; rw [zS]
        simp only [hl, if_true, qL, qF, Bool.false_eq_true, if_false]
        cases nok X s <;> decide
    · obtain ⟨-, zS, -⟩ := cLF qL
      refine ⟨?_, fun z => by rw [zS] at z; exact absurd z (by decide)⟩
      unfold mkK; rw [zS]
      simp [hl, qL]
  · have zS : cS X s = false := by
      cases z : cS X s
      · rfl
      · exact absurd (cS_lt _ z) hl
    refine ⟨?_, fun z => by rw [zS] at z; exact absurd z (by decide)⟩
    unfold mkK; rw [zS]
    simp [hl]
theorem mk_word {X : (Nat → Int32) × Nat} {s : Nat} : (mkK X s = 1 ↔ cL X s = true) ∧ (cL X s = true → mkE X s = en X (cL X) s ∧ mkL X s = ltI X s (en X (cL X) s - s)) := by
  by_cases hl : s < X.2
  · cases qL : cL X s
    · refine ⟨?_, fun z => absurd z (by decide)⟩
      unfold mkK
      simp only [hl, if_true, qL, Bool.false_eq_true, if_false, iff_false]
      split
      · split <;> decide
      · split <;> decide
    · unfold mkK mkE mkL; simp [hl, qL]
  · have zL : cL X s = false := by
      cases z : cL X s
      · rfl
      · exact absurd (cL_lt _ z) hl
    refine ⟨?_, fun z => by rw [zL] at z; exact absurd z (by decide)⟩
    unfold mkK; rw [zL]; simp [hl]
theorem mk_0 {X : (Nat → Int32) × Nat} {s : Nat} : mkK X s = 0 ↔ ¬ s < X.2 := by
  unfold mkK
  by_cases hl : s < X.2
  · simp only [hl, if_true, not_true, iff_false]
    split
    · decide
    · split
      · split <;> decide
      · split <;> decide
  · simp [hl]
theorem mkK_lt (X : (Nat → Int32) × Nat) (s : Nat) : mkK X s < 10 := by
  unfold mkK
  split
  · split
    · decide
    · split
      · split <;> decide
      · split <;> decide
  · decide
theorem code_w : ∀ w, w < 5 → codeOf w - codeOf w / (10 : Int32) * (10 : Int32) = nI (need w) ∧ codeOf w / (10 : Int32) = nI w ∧ ¬ codeOf w < 0 ∧ (codeOf w = 1 ↔ w = 0) := by decide
theorem X9_100_s {h : mj_H} {X : (Nat → Int32) × Nat} {F : Int64 × Int64} {b t0 v : Int32} {l : Int64} {it : Nat → Int32} {p i : Nat} {f : Bool} (t : MTX h X) (k : TOK X) (o : h[53]? = some (cO 9 (mfs X.2 F (nI (wE X p)) b t0 v l (nI i)))) (hg : h[60]? = some (cI 210 it)) (hp : p ≤ X.2) (hd : head X f p = true) (hi : i ≤ 29) (hw : kD X p < 5) (h7 : it (7 * i) = nI (kD X p)) : ∃ h' a' b' t' v' l' im' it', RM h h' ∧ h'[53]? = some (cO 9 (mfs X.2 F a' b' t' v' l' im')) ∧ h'[60]? = some (cI 210 it') ∧ (∀ y, itF X f p = some y → ∀ K14, f_X9_reads_100 K14 53 (codeOf (kD X p)) (0 : Int32) h = some (nI y, h')) ∧ (itF X f p = none → mfs X.2 F a' b' t' v' l' im' = tko X F (itE X p) (nI (i + 1)) ∧ (∀ j, j ≤ 7 * i → it' j = it j) ∧ (∀ j, j < need (kD X p) → it' (7 * i + 1 + j) = nI (nm X p j)) ∧ ∀ K14, f_X9_reads_100 K14 53 (codeOf (kD X p)) (0 : Int32) h = K14 53 h') := by
  have hX := k.1
  have hwe : wE X p ≤ X.2 := en_le (sk_le hp)
  obtain ⟨c1, c2, c3, c4⟩ := code_w (kD X p) hw
  have n6 := need_le (kD X p)
  obtain ⟨q, hq⟩ : ∃ q, q = wE X p := ⟨_, rfl⟩
  obtain ⟨N, hN⟩ : ∃ N, N = need (kD X p) := ⟨_, rfl⟩
  have itf : itF X f p = (match ffirst (nbad X q) N with
    | some i => some (sk X (np X q i))
    | none => if cS X (sk X (np X q N)) = true then none else some (sk X (np X q N))) := by
    unfold itF; rw [if_pos hd, ← hq, ← hN]
    rfl
  have ite : itE X p = sk X (np X q N) + 1 := by unfold itE; rw [← hq, ← hN]
  have inm : ∀ j, nm X p j = nval X (sk X (np X q j)) := fun j => by unfold nm; rw [← hq]
  rw [← hq] at o hwe
  rw [← hN] at n6 c1 ⊢
  obtain ⟨cd, hcd⟩ : ∃ cd, cd = codeOf (kD X p) := ⟨_, rfl⟩
  rw [← hcd] at c1 ⊢
  have run : ∀ M, M ≤ N → (∀ j, j < M → nbad X q j = false) → ∃ h2 j b2 t2 v2 l2 it2, 0 < j ∧ RM h h2 ∧ h2[53]? = some (cO 9 (mfs X.2 F (nI (np X q M)) b2 t2 v2 l2 (nI i))) ∧ h2[60]? = some (cI 210 it2) ∧ (∀ j, j ≤ 7 * i → it2 j = it j) ∧ (∀ j, j < M → it2 (7 * i + 1 + j) = nI (nm X p j)) ∧ ∀ K14 : (Nat → mj_H → Option (Int32 × mj_H)), f_X9_reads_100 K14 53 cd (0 : Int32) h = mj_fix (fun (K100 : (Nat × Int32 × Int32 × mj_H) → Option (Int32 × mj_H)) (s : Nat × Int32 × Int32 × mj_H) => b_X9_reads_100 K14 (fun v0 v1 v2 h => K100 (v0, v1, v2, h)) s.1 s.2.1 s.2.2.1 s.2.2.2) j (53, cd, nI M, h2) := by
    intro M hM hall
    have key := fix_inP (F := fun (K14 : Nat → mj_H → Option (Int32 × mj_H)) => fun (K100 : (Nat × Int32 × Int32 × mj_H) → Option (Int32 × mj_H)) (s : Nat × Int32 × Int32 × mj_H) => b_X9_reads_100 K14 (fun v0 v1 v2 h => K100 (v0, v1, v2, h)) s.1 s.2.1 s.2.2.1 s.2.2.2)
      (fun m s => ∃ h2 b2 t2 v2 l2 it2, s = (53, cd, nI m, h2) ∧ RM h h2 ∧ h2[53]? = some (cO 9 (mfs X.2 F (nI (np X q m)) b2 t2 v2 l2 (nI i))) ∧ h2[60]? = some (cI 210 it2) ∧ (∀ j, j ≤ 7 * i → it2 j = it j) ∧ ∀ j, j < m → it2 (7 * i + 1 + j) = nI (nm X p j)) M (fun m hm s hs => ?_) 1000 (by omega) (53, cd, nI 0, h) ⟨h, b, t0, v, l, it, rfl, fun _ _ _ => rfl, o, hg, fun _ _ => rfl, fun j hj => absurd hj (Nat.not_lt_zero j)⟩
    · obtain ⟨s', j, ⟨h2, b2, t2, v2, l2, it2, rfl, y⟩, hj, e⟩ := key
      exact ⟨h2, j, b2, t2, v2, l2, it2, hj, y.1, y.2.1, y.2.2.1, y.2.2.2.1, y.2.2.2.2, e⟩
    · obtain ⟨h2, b2, t2, v2, l2, it2, rfl, re, o2, g2, i1, i2⟩ := hs
      have e1 := X9_takes_s (t.rm re) k o2 (np_le hwe m)
      obtain ⟨s, hse⟩ : ∃ s, s = sk X (np X q m) := ⟨_, rfl⟩
      have nb := hall m hm
      unfold nbad at nb
      rw [← hse] at e1 nb
      simp only [Bool.not_eq_false', Bool.and_eq_true] at nb
      obtain ⟨m1, m2, m3⟩ := mk_num nb.1 nb.2
      rw [m1, m2, m3] at e1
      have o3 := get_self (c := cO 9 (mfs X.2 F (nI (en X (cF X) s)) (nI s) (nI 2) (nI (nval X s)) (mkL X s) (nI i))) o2
      have g3 := get_set (c := cO 9 (mfs X.2 F (nI (en X (cF X) s)) (nI s) (nI 2) (nI (nval X s)) (mkL X s) (nI i))) g2 (show 53 ≠ 60 by decide)
      have re3 := re.s (Or.inl rfl) (cO 9 (mfs X.2 F (nI (en X (cF X) s)) (nI s) (nI 2) (nI (nval X s)) (mkL X s) (nI i)))
      obtain ⟨H, hH⟩ : ∃ H, H = h2.set 53 (cO 9 (mfs X.2 F (nI (en X (cF X) s)) (nI s) (nI 2) (nI (nval X s)) (mkL X s) (nI i))) := ⟨_, rfl⟩
      rw [← hH] at e1 o3 g3 re3
      have c5 : ¬ nI N ≤ nI m := nI_ge (by omega) (by omega)
      have ob2 : mj_ob h2 53 9 = true := ob_r o2
      have r11 : mj_gI H 53 9 11 = some (nI 2) := gI_r o3 rfl
      have r14 : mj_gR H 53 9 14 = some 60 := gR_r o3 rfl
      have r15 : mj_gI H 53 9 15 = some (nI i) := gI_r o3 rfl
      have r12 : mj_gI H 53 9 12 = some (nI (nval X s)) := gI_r o3 rfl
      have ix : (((7 : Int32) * nI i) + (1 : Int32)) + nI m = nI (7 * i + 1 + m) := by
        rw [show (7 : Int32) = nI 7 from rfl, pk_mul, nI_1, nI_add]
      have u := uI_r (nI (nval X s)) g3 (show 7 * i + 1 + m < 210 by omega) (by decide)
      refine ⟨(53, cd, nI (m + 1), H.set 60 (cI 210 (upd it2 (7 * i + 1 + m) (nI (nval X s))))), ⟨_, nI s, nI 2, nI (nval X s), mkL X s, _, rfl, re3.s (Or.inr rfl) _, ?_, get_self g3, fun j hj => ?_, fun j hj => ?_⟩, fun K14 K => ?_⟩
      · have : np X q (m + 1) = en X (cF X) s := by rw [np, hse]
        rw [this]; exact get_set o3 (by decide)
      · unfold upd; rw [if_neg (by omega)]; exact i1 j hj
      · unfold upd
        by_cases z : j = m
        · rw [z, if_pos rfl, inm, hse]
        · rw [if_neg (by omega)]; exact i2 j (by omega)
      · show b_X9_reads_100 K14 _ 53 cd (nI m) h2 = _
        rw [b_X9_reads_100, c1, if_neg c5, if_pos ob2, bs1 e1, bs1 r11, if_pos (show nI 2 = (2 : Int32) from rfl), bs1 r14, bs1 r15, bs1 r12, ix, bs1 u, nI_1]
  cases hf : ffirst (nbad X q) N with
  | some m =>
    obtain ⟨q1, q2, q3⟩ := ff_some hf
    obtain ⟨h2, j, b2, t2, v2, l2, it2, hj, re, o2, g2, i1, i2, e⟩ := run m (by omega) q3
    have e1 := X9_takes_s (t.rm re) k o2 (np_le hwe m)
    obtain ⟨s, hse⟩ : ∃ s, s = sk X (np X q m) := ⟨_, rfl⟩
    have nb := q2
    unfold nbad at nb
    rw [← hse] at e1 nb
    rw [Bool.not_eq_true'] at nb
    have mn := mk_nn nb
    have ml := mkK_lt X s
    have o3 := get_self (c := cO 9 (mfs X.2 F (nI (mkE X s)) (nI s) (nI (mkK X s)) (nI (mkV X s)) (mkL X s) (nI i))) o2
    have g3 := get_set (c := cO 9 (mfs X.2 F (nI (mkE X s)) (nI s) (nI (mkK X s)) (nI (mkV X s)) (mkL X s) (nI i))) g2 (show 53 ≠ 60 by decide)
    have re3 := re.s (Or.inl rfl) (cO 9 (mfs X.2 F (nI (mkE X s)) (nI s) (nI (mkK X s)) (nI (mkV X s)) (mkL X s) (nI i)))
    obtain ⟨H, hH⟩ : ∃ H, H = h2.set 53 (cO 9 (mfs X.2 F (nI (mkE X s)) (nI s) (nI (mkK X s)) (nI (mkV X s)) (mkL X s) (nI i))) := ⟨_, rfl⟩
    rw [← hH] at e1 o3 g3 re3
    have iff : itF X f p = some s := by rw [itf, hf, hse]
    have c5 : ¬ nI N ≤ nI m := nI_ge (by omega) (by omega)
    have ob2 : mj_ob h2 53 9 = true := ob_r o2
    have r11 : mj_gI H 53 9 11 = some (nI (mkK X s)) := gI_r o3 rfl
    have r10 : mj_gI H 53 9 10 = some (nI s) := gI_r o3 rfl
    have c6 : ¬ nI (mkK X s) = (2 : Int32) := by rw [show (2 : Int32) = nI 2 from rfl, nI_eq (by omega) (by decide)]; exact mn
    refine ⟨H, _, _, _, _, _, _, it2, re3, o3, g3, fun y hy K14 => ?_, fun z => ?_⟩
    · rw [iff] at hy
      have : s = y := Option.some.inj hy
      subst this
      match j, hj, e with
      | j + 1, _, e =>
        rw [e K14, mj_fix]
        dsimp only
        rw [b_X9_reads_100, c1, if_neg c5, if_pos ob2, bs1 e1, bs1 r11, if_neg c6, bs1 r10]
    · rw [iff] at z; exact absurd z (by simp)
  | none =>
    obtain ⟨h2, j, b2, t2, v2, l2, it2, hj, re, o2, g2, i1, i2, e⟩ := run N (Nat.le_refl N) (ff_none hf)
    have e1 := X9_takes_s (t.rm re) k o2 (np_le hwe N)
    obtain ⟨s, hse⟩ : ∃ s, s = sk X (np X q N) := ⟨_, rfl⟩
    rw [← hse] at e1
    have ml := mkK_lt X s
    have o3 := get_self (c := cO 9 (mfs X.2 F (nI (mkE X s)) (nI s) (nI (mkK X s)) (nI (mkV X s)) (mkL X s) (nI i))) o2
    have g3 := get_set (c := cO 9 (mfs X.2 F (nI (mkE X s)) (nI s) (nI (mkK X s)) (nI (mkV X s)) (mkL X s) (nI i))) g2 (show 53 ≠ 60 by decide)
    have re3 := re.s (Or.inl rfl) (cO 9 (mfs X.2 F (nI (mkE X s)) (nI s) (nI (mkK X s)) (nI (mkV X s)) (mkL X s) (nI i)))
    obtain ⟨H, hH⟩ : ∃ H, H = h2.set 53 (cO 9 (mfs X.2 F (nI (mkE X s)) (nI s) (nI (mkK X s)) (nI (mkV X s)) (mkL X s) (nI i))) := ⟨_, rfl⟩
    rw [← hH] at e1 o3 g3 re3
    have c5 : nI N ≤ nI N := Int32.le_refl _
    have ob2 : mj_ob h2 53 9 = true := ob_r o2
    have r11 : mj_gI H 53 9 11 = some (nI (mkK X s)) := gI_r o3 rfl
    have r10 : mj_gI H 53 9 10 = some (nI s) := gI_r o3 rfl
    have r15 : mj_gI H 53 9 15 = some (nI i) := gI_r o3 rfl
    have c6 : nI (mkK X s) = (3 : Int32) ↔ mkK X s = 3 := nI_eq (by omega) (by decide)
    obtain ⟨s1, s2⟩ := mk_semi (X := X) (s := s)
    cases qS : cS X s
    · have iff : itF X f p = some s := by rw [itf, hf, ← hse, qS]; rfl
      refine ⟨H, _, _, _, _, _, _, it2, re3, o3, g3, fun y hy K14 => ?_, fun z => ?_⟩
      · rw [iff] at hy
        have : s = y := Option.some.inj hy
        subst this
        have c7 : ¬ nI (mkK X s) = (3 : Int32) := fun z => by have := s1.mp (c6.mp z); rw [qS] at this; exact absurd this (by decide)
        match j, hj, e with
        | j + 1, _, e =>
          rw [e K14, mj_fix]
          dsimp only
          rw [b_X9_reads_100, c1, if_pos c5, if_pos ob2, bs1 e1, bs1 r11, if_neg c7, bs1 r10]
      · rw [iff] at z; exact absurd z (by simp)
    · have iff : itF X f p = none := by rw [itf, hf, ← hse, qS]; rfl
      have hl := cS_lt _ qS
      have e2 := s2 qS
      have u := sV_r (k := 15) (.int (nI (i + 1))) o3 (by simp [mfs])
      obtain ⟨H2, hH2⟩ : ∃ H2, H2 = H.set 53 (cO 9 ((mfs X.2 F (nI (mkE X s)) (nI s) (nI (mkK X s)) (nI (mkV X s)) (mkL X s) (nI i)).set 15 (.int (nI (i + 1))))) := ⟨_, rfl⟩
      rw [← hH2] at u
      have o4 : H2[53]? = some (cO 9 (mfs X.2 F (nI (itE X p)) (nI s) (nI (mkK X s)) (nI (mkV X s)) (mkL X s) (nI (i + 1)))) := by
        rw [hH2, ite, ← hse, ← e2]; exact get_self o3
      have g4 : H2[60]? = some (cI 210 it2) := by rw [hH2]; exact get_set g3 (by decide)
      have re4 : RM h H2 := by rw [hH2]; exact re3.s (Or.inl rfl) _
      have ie : itE X p ≤ X.2 := by rw [ite, ← hse]; omega
      have e3 := X9_takes_s (t.rm re4) k o4 ie
      have o5 := get_self (c := cO 9 (tko X F (itE X p) (nI (i + 1)))) o4
      have g5 := get_set (c := cO 9 (tko X F (itE X p) (nI (i + 1)))) g4 (show 53 ≠ 60 by decide)
      have ob4 : mj_ob H2 53 9 = true := ob_r o4
      refine ⟨H2.set 53 (cO 9 (tko X F (itE X p) (nI (i + 1)))), _, _, _, _, _, _, it2, re4.s (Or.inl rfl) _, o5, g5, fun y hy => ?_, fun _ => ⟨rfl, i1, i2, fun K14 => ?_⟩⟩
      · rw [iff] at hy; exact absurd hy (by simp)
      · match j, hj, e with
        | j + 1, _, e =>
          rw [e K14, mj_fix]
          dsimp only
          rw [b_X9_reads_100, c1, if_pos c5, if_pos ob2, bs1 e1, bs1 r11, if_pos (c6.mpr (s1.mpr qS)), bs1 r15, nI_1, bs1 u, if_pos ob4, bs1 e3]
          rfl
theorem X9_28_s {h : mj_H} {X : (Nat → Int32) × Nat} {F : Int64 × Int64} {it : Nat → Int32} {p i : Nat} (t : MTX h X) (k : TOK X) (o : h[53]? = some (cO 9 (tko X F p (nI i)))) (hg : h[60]? = some (cI 210 it)) (hp : p ≤ X.2) (hi5 : 5 * i ≤ p) : ∃ h' a' b' t' v' l' im' it', RM h h' ∧ h'[53]? = some (cO 9 (mfs X.2 F a' b' t' v' l' im')) ∧ h'[60]? = some (cI 210 it') ∧ (∀ y, itF X (decide (i = 0)) p = some y → ∀ K14, f_X9_reads_28 K14 53 h = some (nI y, h')) ∧ (itF X (decide (i = 0)) p = none → mfs X.2 F a' b' t' v' l' im' = tko X F (itE X p) (nI (i + 1)) ∧ (∀ j, j < 7 * i → it' j = it j) ∧ it' (7 * i) = nI (kD X p) ∧ (∀ j, j < need (kD X p) → it' (7 * i + 1 + j) = nI (nm X p j)) ∧ ∀ K14, f_X9_reads_28 K14 53 h = K14 53 h') := by
  have hX := k.1
  obtain ⟨s, hse⟩ : ∃ s, s = sk X p := ⟨_, rfl⟩
  have hhd : head X (decide (i = 0)) p = (cL X s && (decide (kD X p < 5) && (decide (i = 0) == decide (kD X p = 0)))) := by rw [hse]; rfl
  have hkd : kD X p = kwd X s := by rw [hse]; rfl
  have o' : h[53]? = some (cO 9 (mfs X.2 F (nI (mkE X s)) (nI s) (nI (mkK X s)) (nI (mkV X s)) (mkL X s) (nI i))) := by rw [hse]; exact o
  have r11 : mj_gI h 53 9 11 = some (nI (mkK X s)) := gI_r o' rfl
  have r13 : mj_gJ h 53 9 13 = some (mkL X s) := gJ_r o' rfl
  have r10 : mj_gI h 53 9 10 = some (nI s) := gI_r o' rfl
  have r15 : mj_gI h 53 9 15 = some (nI i) := gI_r o' rfl
  have r14 : mj_gR h 53 9 14 = some 60 := gR_r o' rfl
  have ml := mkK_lt X s
  have kl := kwd_le X s
  have c1 : nI (mkK X s) = (1 : Int32) ↔ mkK X s = 1 := nI_eq (by omega) (by decide)
  obtain ⟨w1, w2⟩ := mk_word (X := X) (s := s)
  have bad : head X (decide (i = 0)) p = false → (∀ K14, f_X9_reads_28 K14 53 h = some (nI s, h)) → ∃ h' a' b' t' v' l' im' it', RM h h' ∧ h'[53]? = some (cO 9 (mfs X.2 F a' b' t' v' l' im')) ∧ h'[60]? = some (cI 210 it') ∧ (∀ y, itF X (decide (i = 0)) p = some y → ∀ K14, f_X9_reads_28 K14 53 h = some (nI y, h')) ∧ (itF X (decide (i = 0)) p = none → mfs X.2 F a' b' t' v' l' im' = tko X F (itE X p) (nI (i + 1)) ∧ (∀ j, j < 7 * i → it' j = it j) ∧ it' (7 * i) = nI (kD X p) ∧ (∀ j, j < need (kD X p) → it' (7 * i + 1 + j) = nI (nm X p j)) ∧ ∀ K14, f_X9_reads_28 K14 53 h = K14 53 h') := fun hf e => by
    have iff : itF X (decide (i = 0)) p = some s := by unfold itF; rw [if_neg (by rw [hf]; decide), hse]
    refine ⟨h, _, _, _, _, _, _, it, fun _ _ _ => rfl, o', hg, fun y hy K14 => ?_, fun z => ?_⟩
    · rw [iff] at hy; rw [e K14, Option.some.inj hy]
    · rw [iff] at z; exact absurd z (by simp)
  by_cases qL : cL X s = true
  · obtain ⟨e1, e2⟩ := w2 qL
    have cd := X9_itemOf_s (X := X) s h
    rw [← e2] at cd
    have st28 : ∀ K14, f_X9_reads_28 K14 53 h = f_X9_reads_47 K14 53 (codeOf (kwd X s)) h := fun K14 => by
      rw [f_X9_reads_28, bs1 r11, if_pos (c1.mpr (w1.mpr qL)), bs1 r13, bs1 cd]
    by_cases q5 : kwd X s < 5
    · obtain ⟨d1, d2, d3, d4⟩ := code_w (kwd X s) q5
      have z0 : nI i = (0 : Int32) ↔ i = 0 := by
        have := k.1
        exact nI_eq (by omega) (by decide)
      have st47 : ∀ K14, f_X9_reads_47 K14 53 (codeOf (kwd X s)) h = f_X9_reads_74 K14 53 (codeOf (kwd X s)) (bi (decide (kwd X s = 0))) (bi (decide (i = 0))) h := fun K14 => by
        rw [f_X9_reads_47, if_neg d3]
        have st62 : ∀ y, f_X9_reads_62 K14 53 (codeOf (kwd X s)) y h = f_X9_reads_74 K14 53 (codeOf (kwd X s)) y (bi (decide (i = 0))) h := fun y => by
          rw [f_X9_reads_62, bs1 r15]
          by_cases q : i = 0
          · rw [if_pos (z0.mpr q), decide_eq_true q]; rfl
          · rw [if_neg (fun y => q (z0.mp y)), decide_eq_false q]; rfl
        by_cases q : kwd X s = 0
        · rw [if_pos (d4.mpr q), st62, decide_eq_true q]; rfl
        · rw [if_neg (fun y => q (d4.mp y)), st62, decide_eq_false q]; rfl
      have cf : bi (decide (kwd X s = 0)) = bi (decide (i = 0)) ↔ (decide (i = 0) == decide (kwd X s = 0)) = true := by
        cases decide (i = 0) <;> cases decide (kwd X s = 0) <;> simp [bi]
      by_cases qf : (decide (i = 0) == decide (kwd X s = 0)) = true
      · have hd : head X (decide (i = 0)) p = true := by rw [hhd, qL, hkd, decide_eq_true q5, qf]; rfl
        have hsp : s ≤ X.2 := by rw [hse]; exact sk_le hp
        have hge : p ≤ s := by rw [hse]; exact sk_ge X p
        have l6 := kwd_spl (X := X) (s := s) q5
        unfold spl at l6
        simp only [Bool.and_eq_true, decide_eq_true_eq] at l6
        have l7 := kw_len (kwd X s) q5
        have l8 : en X (cL X) s ≤ X.2 := en_le hsp
        have hi29 : i ≤ 29 := by omega
        have u := uI_r (nI (kwd X s)) hg (show 7 * i < 210 by omega) (by decide)
        obtain ⟨H, hH⟩ : ∃ H, H = h.set 60 (cI 210 (upd it (7 * i) (nI (kwd X s)))) := ⟨_, rfl⟩
        rw [← hH] at u
        have o2 : H[53]? = some (cO 9 (mfs X.2 F (nI (wE X p)) (nI s) (nI (mkK X s)) (nI (mkV X s)) (mkL X s) (nI i))) := by
          have : wE X p = mkE X s := by rw [e1, hse]; rfl
          rw [hH, this]; exact get_set o' (by decide)
        have g2 : H[60]? = some (cI 210 (upd it (7 * i) (nI (kwd X s)))) := by rw [hH]; exact get_self hg
        have re2 : RM h H := by
          have re0 : RM h h := fun _ _ _ => rfl
          rw [hH]; exact re0.s (Or.inr rfl) _
        obtain ⟨h', a', b', t', v', l', im', it', y1, y2, y3, y4, y5⟩ := X9_100_s (f := decide (i = 0)) (t.rm re2) k o2 g2 hp hd hi29 (by rw [hkd]; exact q5) (by rw [hkd]; simp [upd])
        have ix : (7 : Int32) * nI i = nI (7 * i) := by rw [show (7 : Int32) = nI 7 from rfl, pk_mul]
        have st : ∀ K14, f_X9_reads_28 K14 53 h = f_X9_reads_100 K14 53 (codeOf (kD X p)) (0 : Int32) H := fun K14 => by
          rw [st28, st47, f_X9_reads_74, if_pos (cf.mpr qf), bs1 r14, bs1 r15, ix, d2, bs1 u, hkd]
        refine ⟨h', a', b', t', v', l', im', it', fun j j1 j2 => (y1 j j1 j2).trans (re2 j j1 j2), y2, y3, fun y hy K14 => ?_, fun z => ?_⟩
        · rw [st, y4 y hy K14]
        · obtain ⟨z1, z2, z3, z4⟩ := y5 z
          refine ⟨z1, fun j hj => ?_, ?_, z3, fun K14 => by rw [st, z4]⟩
          · rw [z2 j (by omega)]; unfold upd; rw [if_neg (by omega)]
          · rw [z2 _ (Nat.le_refl _), hkd]; simp [upd]
      · have hd : head X (decide (i = 0)) p = false := by
          have : (decide (i = 0) == decide (kwd X s = 0)) = false := by simpa using qf
          rw [hhd, hkd, this, Bool.and_false, Bool.and_false]
        refine bad hd (fun K14 => ?_)
        rw [st28, st47, f_X9_reads_74, if_neg (fun y => qf (cf.mp y)), f_X9_reads_77, bs1 r10]
    · have hd : head X (decide (i = 0)) p = false := by rw [hhd, hkd, decide_eq_false q5, Bool.false_and, Bool.and_false]
      refine bad hd (fun K14 => ?_)
      have k5 : kwd X s = 5 := by omega
      rw [st28, k5, f_X9_reads_47, if_pos (by decide), f_X9_reads_77, bs1 r10]
  · have qL' : cL X s = false := by simpa using qL
    have hd : head X (decide (i = 0)) p = false := by rw [hhd, qL', Bool.false_and]
    refine bad hd (fun K14 => ?_)
    rw [f_X9_reads_28, bs1 r11, if_neg (fun y => qL (w1.mp (c1.mp y))), f_X9_reads_47, if_pos (by decide), f_X9_reads_77, bs1 r10]
/-- the items that were read -/
def IG (X : (Nat → Int32) × Nat) (it : Nat → Int32) (n : Nat) : Prop := ∀ j, j < n → it (7 * j) = nI (kD X (ps X j)) ∧ ∀ k, k < need (kD X (ps X j)) → it (7 * j + 1 + k) = nI (nm X (ps X j) k)
theorem X9_reads_s {h : mj_H} {X : (Nat → Int32) × Nat} {F : Int64 × Int64} {a b t0 v im : Int32} {l : Int64} {it : Nat → Int32} {n : Nat} (t : MTX h X) (k : TOK X) (hn : n ≤ 30) (hs : stp X n = true) (hno : ∀ j, j < n → stp X j = false) (o : h[53]? = some (cO 9 (mfs X.2 F a b t0 v l im))) (hg : h[60]? = some (cI 210 it)) : ∃ h' a' b' t' v' l' im' it', f_X9_reads 53 h = some (if fin X n = true then -1 else nI ((fl X n).getD 0), h') ∧ RM h h' ∧ h'[53]? = some (cO 9 (mfs X.2 F a' b' t' v' l' im')) ∧ h'[60]? = some (cI 210 it') ∧ (fin X n = true → im' = nI n ∧ IG X it' n) := by
  have u1 := sV_r (k := 9) (.int (0 : Int32)) o (by simp [mfs])
  have o1 : (h.set 53 (cO 9 ((mfs X.2 F a b t0 v l im).set 9 (.int 0))))[53]? = some (cO 9 (mfs X.2 F 0 b t0 v l im)) := get_self o
  have u2 := sV_r (k := 15) (.int (0 : Int32)) o1 (by simp [mfs])
  rw [List.set_set] at u2
  obtain ⟨H, hH⟩ : ∃ H, H = h.set 53 (cO 9 ((mfs X.2 F 0 b t0 v l im).set 15 (.int 0))) := ⟨_, rfl⟩
  rw [← hH] at u2
  have oH : H[53]? = some (cO 9 (mfs X.2 F (nI 0) b t0 v l (nI 0))) := by rw [hH]; exact get_self o
  have gH : H[60]? = some (cI 210 it) := by rw [hH]; exact get_set hg (by decide)
  have re0 : RM h h := fun _ _ _ => rfl
  have rH : RM h H := by rw [hH]; exact re0.s (Or.inl rfl) _
  have obH : mj_ob H 53 9 = true := ob_r oH
  have e0 := X9_takes_s (t.rm rH) k oH (Nat.zero_le _)
  have oS := get_self (c := cO 9 (tko X F 0 (nI 0))) oH
  have gS := get_set (c := cO 9 (tko X F 0 (nI 0))) gH (show 53 ≠ 60 by decide)
  have key := fix_w (F := fun (K14 : (Nat × mj_H) → Option (Int32 × mj_H)) (s : Nat × mj_H) => b_X9_reads_14 (fun v0 h => K14 (v0, h)) s.1 s.2)
    (fun i s => ∃ h1 it1, s = (53, h1) ∧ RM h h1 ∧ h1[53]? = some (cO 9 (tko X F (ps X i) (nI i))) ∧ h1[60]? = some (cI 210 it1) ∧ IG X it1 i)
    (fun r => ∃ h' a' b' t' v' l' im' it', r = some (if fin X n = true then -1 else nI ((fl X n).getD 0), h') ∧ RM h h' ∧ h'[53]? = some (cO 9 (mfs X.2 F a' b' t' v' l' im')) ∧ h'[60]? = some (cI 210 it') ∧ (fin X n = true → im' = nI n ∧ IG X it' n)) n (fun i hi s hs1 => ?_) (fun s hs2 => ?_) 1000 (by omega) (53, H.set 53 (cO 9 (tko X F 0 (nI 0)))) ⟨_, it, rfl, rH.s (Or.inl rfl) _, oS, gS, fun j hj => absurd hj (Nat.not_lt_zero j)⟩
  · obtain ⟨h', a', b', t', v', l', im', it', y1, y2⟩ := key
    refine ⟨h', a', b', t', v', l', im', it', ?_, y2⟩
    rw [← y1]
    rw [f_X9_reads, bs1 u1, bs1 u2, if_pos obH, bs1 e0]
    rfl
  · obtain ⟨h1, it1, rfl, re, o2, g2, ig⟩ := hs1
    left
    obtain ⟨p1, p2⟩ := ps_ok i (fun j hj => hno j (by omega))
    obtain ⟨f1, f2⟩ := fl_none (hno i hi)
    have f1' : itF X (decide (i = 0)) (ps X i) = none := f1
    obtain ⟨h', a', b', t', v', l', im', it', y1, y2, y3, y4, y5⟩ := X9_28_s (t.rm re) k o2 g2 p2 p1
    obtain ⟨z1, z2, z3, z4, z5⟩ := y5 f1'
    rw [z1] at y2
    have r11 : mj_gI h1 53 9 11 = some (nI (mkK X (sk X (ps X i)))) := gI_r o2 rfl
    have r15 : mj_gI h1 53 9 15 = some (nI i) := gI_r o2 rfl
    have ml := mkK_lt X (sk X (ps X i))
    have c0 : nI (mkK X (sk X (ps X i))) = (0 : Int32) ↔ mkK X (sk X (ps X i)) = 0 := nI_eq (by omega) (by decide)
    have ci : nI i = (0 : Int32) ↔ i = 0 := nI_eq (by omega) (by decide)
    refine ⟨(53, h'), ⟨h', it', rfl, fun j j1 j2 => (y1 j j1 j2).trans (re j j1 j2), y2, y3, fun j hj => ?_⟩, fun K => ?_⟩
    · by_cases q : j = i
      · subst q; exact ⟨z3, z4⟩
      · obtain ⟨w1, w2⟩ := ig j (by omega)
        have n6 := need_le (kD X (ps X j))
        exact ⟨by rw [z2 _ (by omega)]; exact w1, fun k hk => by rw [z2 _ (by omega)]; exact w2 k hk⟩
    · show b_X9_reads_14 _ 53 h1 = K (53, h')
      rw [b_X9_reads_14, bs1 r11]
      by_cases q : mkK X (sk X (ps X i)) = 0
      · have i0 : i = 0 := by
          have := mk_0.mp q
          unfold fin at f2
          rw [decide_eq_false this] at f2
          simp at f2
          exact f2
        rw [if_pos (c0.mpr q), bs1 r15, if_pos (ci.mpr i0), z5]
      · rw [if_neg (fun y => q (c0.mp y)), z5]
  · obtain ⟨h1, it1, rfl, re, o2, g2, ig⟩ := hs2
    intro K
    obtain ⟨p1, p2⟩ := ps_ok n hno
    have r11 : mj_gI h1 53 9 11 = some (nI (mkK X (sk X (ps X n)))) := gI_r o2 rfl
    have r15 : mj_gI h1 53 9 15 = some (nI n) := gI_r o2 rfl
    have ml := mkK_lt X (sk X (ps X n))
    have c0 : nI (mkK X (sk X (ps X n))) = (0 : Int32) ↔ mkK X (sk X (ps X n)) = 0 := nI_eq (by omega) (by decide)
    have ci : nI n = (0 : Int32) ↔ n = 0 := nI_eq (by omega) (by decide)
    cases q : fin X n
    · have hsome : ∃ y, fl X n = some y := by
        unfold stp at hs
        rw [q, Bool.false_or] at hs
        cases z : fl X n
        · rw [z] at hs; exact absurd hs (by simp)
        · exact ⟨_, rfl⟩
      obtain ⟨y, hy⟩ := hsome
      have hy' : itF X (decide (n = 0)) (ps X n) = some y := hy
      obtain ⟨h', a', b', t', v', l', im', it', y1, y2, y3, y4, y5⟩ := X9_28_s (t.rm re) k o2 g2 p2 p1
      refine ⟨h', a', b', t', v', l', im', it', ?_, fun j j1 j2 => (y1 j j1 j2).trans (re j j1 j2), y2, y3, fun z => absurd z (by decide)⟩
      show b_X9_reads_14 _ 53 h1 = _
      rw [b_X9_reads_14, bs1 r11, hy]
      by_cases q2 : mkK X (sk X (ps X n)) = 0
      · have i0 : n = 0 := by
          have := mk_0.mp q2
          unfold fin at q
          rw [decide_eq_false this] at q
          simp at q
          exact q
        rw [if_pos (c0.mpr q2), bs1 r15, if_pos (ci.mpr i0), y4 y hy']
        rfl
      · rw [if_neg (fun y => q2 (c0.mp y)), y4 y hy']
        rfl
    · have qq := q
      unfold fin at qq
      simp only [Bool.and_eq_true, decide_eq_true_eq, Bool.not_eq_true', decide_eq_false_iff_not] at qq
      have q0 := mk_0.mpr qq.2
      refine ⟨h1, _, _, _, _, _, _, it1, ?_, re, o2, g2, fun _ => ⟨rfl, ig⟩⟩
      show b_X9_reads_14 _ 53 h1 = _
      rw [b_X9_reads_14, bs1 r11, if_pos (c0.mpr q0), bs1 r15, if_neg (fun y => by have := ci.mp y; omega), if_pos rfl]
