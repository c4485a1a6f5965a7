/-! PURE: the model's takes -/
theorem cLF {X : (Nat → Int32) × Nat} {s : Nat} (h : cL X s = true) : cF X s = false ∧ cS X s = false ∧ cB X s = false := by
  have := cL_b h
  refine ⟨?_, ?_, ?_⟩
  · cases z : cF X s
    · rfl
    · have := cF_b z; omega
  · cases z : cS X s
    · rfl
    · unfold cS at z; simp only [Bool.and_eq_true, decide_eq_true_eq] at z; omega
  · cases z : cB X s
    · rfl
    · unfold cB at z; simp only [Bool.and_eq_true, decide_eq_true_eq] at z; omega
theorem cF_no {X : (Nat → Int32) × Nat} {j : Nat} (hl : j < X.2) (h : cF X j = false) : (decide (48 ≤ chr X j) && decide (chr X j ≤ 57)) = false := by
  unfold cF at h
  rw [decide_eq_true hl, Bool.true_and] at h; exact h
theorem cL_no {X : (Nat → Int32) × Nat} {j : Nat} (hl : j < X.2) (h : cL X j = false) : (decide (97 ≤ chr X j) && decide (chr X j ≤ 122)) = false := by
  unfold cL at h
  rw [decide_eq_true hl, Bool.true_and] at h; exact h
/-- the loop over figures -/
theorem X9_259_n {h : mj_H} {X : (Nat → Int32) × Nat} {F : Int64 × Int64} {v im : Int32} {t : Nat} {l : Int64} {e s : Nat} (o : h[53]? = some (cO 9 (mfs X.2 F (nI e) (nI s) (nI t) v l im))) (ht : t < 10) (ht2 : t ≠ 2) (hse : s ≤ e) (he : e < 1000) : f_X9_takes_259 53 h = some (h.set 53 (cO 9 (mfs X.2 F (nI e) (nI s) (nI t) v l im))) := by
  have c2 : ¬ nI t = (2 : Int32) := by rw [show (2 : Int32) = nI 2 from rfl, nI_eq (by omega) (by decide)]; exact ht2
  have f := X9_357_s (a := 0) (b := 0) o ht hse he
  rw [if_neg (by omega)] at f
  show b_X9_takes_259 _ 53 h = _
  rw [b_X9_takes_259, bs1 (gI_r (k := 11) (x := nI t) o rfl), if_neg c2]
  exact f
theorem X9_259_f {h : mj_H} {X : (Nat → Int32) × Nat} {F : Int64 × Int64} {im : Int32} {l : Int64} {s : Nat} (t : MTX h X) (k : TOK X) (o : h[53]? = some (cO 9 (mfs X.2 F (nI s) (nI s) 2 0 l im))) (hs : s ≤ X.2) : f_X9_takes_259 53 h = some (h.set 53 (cO 9 (mfs X.2 F (nI (en X (cF X) s)) (nI s) (nI (if nok X s = true then 2 else 4)) (nI (nval X s)) l im))) := by
  have hX := k.1
  have hn := rn_le (cF X) (X.2 - s) s
  have en_i : en X (cF X) s - s = rn (cF X) (X.2 - s) s := by unfold en; omega
  have hv := fun i (hi : i ≤ rn (cF X) (X.2 - s) s) => nvl_le (X := X) (s := s) (fun i hi => en_in (X := X) (P := cF X) (j := s) (by omega) (by omega)) i (by omega)
  unfold f_X9_takes_259
  have h0 : ((53 : Nat), h) = (fun i => (53, h.set 53 (cO 9 (mfs X.2 F (nI (s + i)) (nI s) 2 (nI (nvl X s i)) l im)))) 0 := by
    show _ = (53, h.set 53 (cO 9 (mfs X.2 F (nI (s + 0)) (nI s) 2 (nI (nvl X s 0)) l im)))
    rw [Nat.add_zero, show nI (nvl X s 0) = (0 : Int32) from rfl, set_same o]
  rw [h0]
  refine fix_iter (st := fun i => ((53 : Nat), h.set 53 (cO 9 (mfs X.2 F (nI (s + i)) (nI s) 2 (nI (nvl X s i)) l im)))) (rn (cF X) (X.2 - s) s) _ (fun i hi K => ?_) (fun K => ?_) 1000 (by omega)
  · have g1 := get_self (c := cO 9 (mfs X.2 F (nI (s + i)) (nI s) 2 (nI (nvl X s i)) l im)) o
    have t1 := t.set (k := 53) (c := cO 9 (mfs X.2 F (nI (s + i)) (nI s) 2 (nI (nvl X s i)) l im)) (by decide)
    have hc := rn_in _ _ _ _ hi
    have hl := cF_lt _ hc
    obtain ⟨d1, d2⟩ := cF_b hc
    have c1 : ¬ nI X.2 ≤ nI (s + i) := nI_ge hl (by omega)
    have at1 := t1.at k hl
    have inn := X9_inR (chr X (s + i)) 48 57 (by omega) (by decide) (by decide) (h.set 53 (cO 9 (mfs X.2 F (nI (s + i)) (nI s) 2 (nI (nvl X s i)) l im)))
    rw [decide_eq_true d1, decide_eq_true d2, show lN 48 = (48 : Int64) from rfl, show lN 57 = (57 : Int64) from rfl] at inn
    have c3 : (2 : Int32) ≤ nI (s + i) - nI s ↔ 2 ≤ i := by
      rw [pk_sub (by omega), show s + i - s = i by omega]; exact nle_iff (a := 2) (by decide) (by omega)
    have r3 : mj_gR (h.set 53 (cO 9 (mfs X.2 F (nI (s + i)) (nI s) 2 (nI (nvl X s i)) l im))) 53 9 3 = some 57 := gR_r g1 rfl
    have r4 : mj_gI (h.set 53 (cO 9 (mfs X.2 F (nI (s + i)) (nI s) 2 (nI (nvl X s i)) l im))) 53 9 4 = some (nI X.2) := gI_r g1 rfl
    have r9 : mj_gI (h.set 53 (cO 9 (mfs X.2 F (nI (s + i)) (nI s) 2 (nI (nvl X s i)) l im))) 53 9 9 = some (nI (s + i)) := gI_r g1 rfl
    have r10 : mj_gI (h.set 53 (cO 9 (mfs X.2 F (nI (s + i)) (nI s) 2 (nI (nvl X s i)) l im))) 53 9 10 = some (nI s) := gI_r g1 rfl
    have r11 : mj_gI (h.set 53 (cO 9 (mfs X.2 F (nI (s + i)) (nI s) 2 (nI (nvl X s i)) l im))) 53 9 11 = some 2 := gI_r g1 rfl
    have r12 : mj_gI (h.set 53 (cO 9 (mfs X.2 F (nI (s + i)) (nI s) 2 (nI (nvl X s i)) l im))) 53 9 12 = some (nI (nvl X s i)) := gI_r g1 rfl
    have u1 := sV_r (k := 12) (.int (nI (nvl X s (i + 1)))) g1 (by simp [mfs])
    rw [List.set_set] at u1
    have g2 : (h.set 53 (cO 9 ((mfs X.2 F (nI (s + i)) (nI s) 2 (nI (nvl X s i)) l im).set 12 (.int (nI (nvl X s (i + 1)))))))[53]? = some (cO 9 (mfs X.2 F (nI (s + i)) (nI s) 2 (nI (nvl X s (i + 1))) l im)) := get_self o
    have u2 := sV_r (k := 9) (.int (nI (s + i + 1))) g2 (by simp [mfs])
    rw [List.set_set] at u2
    have r9' := gI_r (k := 9) (x := nI (s + i)) g2 rfl
    show b_X9_takes_259 _ 53 _ = K (53, h.set 53 (cO 9 (mfs X.2 F (nI (s + i + 1)) (nI s) 2 (nI (nvl X s (i + 1))) l im)))
    have tl : ∀ y, y = nI (nvl X s (i + 1)) → f_X9_takes_341 (fun v0 h => K (v0, h)) 53 53 y (h.set 53 (cO 9 (mfs X.2 F (nI (s + i)) (nI s) 2 (nI (nvl X s i)) l im))) = K (53, h.set 53 (cO 9 (mfs X.2 F (nI (s + i + 1)) (nI s) 2 (nI (nvl X s (i + 1))) l im))) := fun y hy => by
      rw [hy, f_X9_takes_341, bs1 u1, bs1 r9', nI_1, bs1 u2]
      rfl
    simp only [b_X9_takes_259, r11, bs, if_true, r9, r4, c1, if_false, r3, at1, inn, Bool.and_self, bi_t, one0, r10, c3, r12]
    by_cases q : i < 2
    · have q' : ¬ 2 ≤ i := by omega
      rw [if_neg q']
      refine tl _ ?_
      have := num_st k hc (hv i (by omega)).1 q
      rw [(bt_in k hl).1] at this
      exact this
    · have q' : 2 ≤ i := by omega
      rw [if_pos q']
      refine tl _ ?_
      rw [nvl, if_neg q]
  · have e : s + rn (cF X) (X.2 - s) s = en X (cF X) s := rfl
    have ev : nvl X s (rn (cF X) (X.2 - s) s) = nval X s := by unfold nval; rw [en_i]
    have hel : en X (cF X) s ≤ X.2 := en_le hs
    have hge := en_ge X (cF X) s
    show b_X9_takes_259 _ 53 (h.set 53 (cO 9 (mfs X.2 F (nI (s + rn (cF X) (X.2 - s) s)) (nI s) 2 (nI (nvl X s (rn (cF X) (X.2 - s) s))) l im))) = _
    rw [e, ev]
    have g1 := get_self (c := cO 9 (mfs X.2 F (nI (en X (cF X) s)) (nI s) 2 (nI (nval X s)) l im)) o
    have t1 := t.set (k := 53) (c := cO 9 (mfs X.2 F (nI (en X (cF X) s)) (nI s) 2 (nI (nval X s)) l im)) (by decide)
    have r11 := gI_r (k := 11) (x := 2) g1 rfl
    have r9 := gI_r (k := 9) (x := nI (en X (cF X) s)) g1 rfl
    have r4 := gI_r (k := 4) (x := nI X.2) g1 rfl
    have r3 := gR_r (k := 3) (q := 57) g1 rfl
    have fin := X9_357_s (a := 0) (b := 0) (t := 2) g1 (by decide) hge (by omega)
    have ee : (if 2 = 2 ∧ 2 < en X (cF X) s - s then 4 else 2) = (if nok X s = true then 2 else 4) := by
      unfold nok
      by_cases z : en X (cF X) s - s ≤ 2
      · rw [if_neg (by omega), decide_eq_true z, if_pos rfl]
      · rw [if_pos ⟨rfl, by omega⟩, decide_eq_false z, if_neg (by decide)]
    rw [ee, List.set_set] at fin
    by_cases c1 : nI X.2 ≤ nI (en X (cF X) s)
    · rw [b_X9_takes_259, bs1 r11, if_pos rfl, bs1 r9, bs1 r4, if_pos c1]
      exact fin
    · have hl : en X (cF X) s < X.2 := by
        have : ¬ X.2 ≤ en X (cF X) s := fun y => c1 (nI_le y (by omega))
        omega
      have at1 := t1.at k hl
      have no : cF X (en X (cF X) s) = false := en_out cF_lt hs
      have hc := (bt_in k hl).2
      have inn := X9_inR (chr X (en X (cF X) s)) 48 57 (by omega) (by decide) (by decide) (h.set 53 (cO 9 (mfs X.2 F (nI (en X (cF X) s)) (nI s) 2 (nI (nval X s)) l im)))
      have nd : (decide (48 ≤ chr X (en X (cF X) s)) && decide (chr X (en X (cF X) s) ≤ 57)) = false := cF_no hl no
      rw [nd, show lN 48 = (48 : Int64) from rfl, show lN 57 = (57 : Int64) from rfl] at inn
      rw [b_X9_takes_259, bs1 r11, if_pos rfl, bs1 r9, bs1 r4, if_neg c1, bs1 r3, bs1 r9, bs1 at1, bs1 inn, bi_f, if_pos rfl]
      exact fin
/-- the loop over letters -/
theorem X9_162_l {h : mj_H} {X : (Nat → Int32) × Nat} {F : Int64 × Int64} {im : Int32} {s : Nat} (t : MTX h X) (k : TOK X) (o : h[53]? = some (cO 9 (mfs X.2 F (nI s) (nI s) 1 0 0 im))) (hs : s ≤ X.2) : f_X9_takes_162 53 h = some (h.set 53 (cO 9 (mfs X.2 F (nI (en X (cL X) s)) (nI s) 1 0 (ltI X s (en X (cL X) s - s)) im))) := by
  have hX := k.1
  have hn := rn_le (cL X) (X.2 - s) s
  have en_i : en X (cL X) s - s = rn (cL X) (X.2 - s) s := by unfold en; omega
  unfold f_X9_takes_162
  have h0 : ((53 : Nat), h) = (fun i => (53, h.set 53 (cO 9 (mfs X.2 F (nI (s + i)) (nI s) 1 0 (ltI X s i) im)))) 0 := by
    show _ = (53, h.set 53 (cO 9 (mfs X.2 F (nI (s + 0)) (nI s) 1 0 (ltI X s 0) im)))
    rw [Nat.add_zero, show ltI X s 0 = (0 : Int64) from rfl, set_same o]
  rw [h0]
  refine fix_iter (st := fun i => ((53 : Nat), h.set 53 (cO 9 (mfs X.2 F (nI (s + i)) (nI s) 1 0 (ltI X s i) im)))) (rn (cL X) (X.2 - s) s) _ (fun i hi K => ?_) (fun K => ?_) 1000 (by omega)
  · have g1 := get_self (c := cO 9 (mfs X.2 F (nI (s + i)) (nI s) 1 0 (ltI X s i) im)) o
    have t1 := t.set (k := 53) (c := cO 9 (mfs X.2 F (nI (s + i)) (nI s) 1 0 (ltI X s i) im)) (by decide)
    have hc := rn_in _ _ _ _ hi
    have hl := cL_lt _ hc
    obtain ⟨d1, d2⟩ := cL_b hc
    have c1 : ¬ nI X.2 ≤ nI (s + i) := nI_ge hl (by omega)
    have at1 := t1.at k hl
    have inn := X9_inR (chr X (s + i)) 97 122 (by omega) (by decide) (by decide) (h.set 53 (cO 9 (mfs X.2 F (nI (s + i)) (nI s) 1 0 (ltI X s i) im)))
    rw [decide_eq_true d1, decide_eq_true d2, show lN 97 = (97 : Int64) from rfl, show lN 122 = (122 : Int64) from rfl] at inn
    have c3 : (7 : Int32) ≤ nI (s + i) - nI s ↔ 7 ≤ i := by
      rw [pk_sub (by omega), show s + i - s = i by omega]; exact nle_iff (a := 7) (by decide) (by omega)
    have r3 : mj_gR (h.set 53 (cO 9 (mfs X.2 F (nI (s + i)) (nI s) 1 0 (ltI X s i) im))) 53 9 3 = some 57 := gR_r g1 rfl
    have r4 : mj_gI (h.set 53 (cO 9 (mfs X.2 F (nI (s + i)) (nI s) 1 0 (ltI X s i) im))) 53 9 4 = some (nI X.2) := gI_r g1 rfl
    have r9 : mj_gI (h.set 53 (cO 9 (mfs X.2 F (nI (s + i)) (nI s) 1 0 (ltI X s i) im))) 53 9 9 = some (nI (s + i)) := gI_r g1 rfl
    have r10 : mj_gI (h.set 53 (cO 9 (mfs X.2 F (nI (s + i)) (nI s) 1 0 (ltI X s i) im))) 53 9 10 = some (nI s) := gI_r g1 rfl
    have r11 : mj_gI (h.set 53 (cO 9 (mfs X.2 F (nI (s + i)) (nI s) 1 0 (ltI X s i) im))) 53 9 11 = some 1 := gI_r g1 rfl
    have r13 : mj_gJ (h.set 53 (cO 9 (mfs X.2 F (nI (s + i)) (nI s) 1 0 (ltI X s i) im))) 53 9 13 = some (ltI X s i) := gJ_r g1 rfl
    have u1 := sV_r (k := 13) (.long (ltI X s (i + 1))) g1 (by simp [mfs])
    rw [List.set_set] at u1
    have g2 : (h.set 53 (cO 9 ((mfs X.2 F (nI (s + i)) (nI s) 1 0 (ltI X s i) im).set 13 (.long (ltI X s (i + 1))))))[53]? = some (cO 9 (mfs X.2 F (nI (s + i)) (nI s) 1 0 (ltI X s (i + 1)) im)) := get_self o
    have u2 := sV_r (k := 9) (.int (nI (s + i + 1))) g2 (by simp [mfs])
    rw [List.set_set] at u2
    have r9' := gI_r (k := 9) (x := nI (s + i)) g2 rfl
    show b_X9_takes_162 _ 53 _ = K (53, h.set 53 (cO 9 (mfs X.2 F (nI (s + i + 1)) (nI s) 1 0 (ltI X s (i + 1)) im)))
    have tl : ∀ y, y = ltI X s (i + 1) → f_X9_takes_243 (fun v0 h => K (v0, h)) 53 53 y (h.set 53 (cO 9 (mfs X.2 F (nI (s + i)) (nI s) 1 0 (ltI X s i) im))) = K (53, h.set 53 (cO 9 (mfs X.2 F (nI (s + i + 1)) (nI s) 1 0 (ltI X s (i + 1)) im))) := fun y hy => by
      rw [hy, f_X9_takes_243, bs1 u1, bs1 r9', nI_1, bs1 u2]
      rfl
    rw [b_X9_takes_162, bs1 r11, if_pos rfl, bs1 r9, bs1 r4, if_neg c1, bs1 r3, bs1 r9, bs1 at1, bs1 inn, Bool.and_self, bi_t, if_neg one0, bs1 r9, bs1 r10]
    by_cases q : i < 7
    · have q' : ¬ 7 ≤ i := by omega
      have e1 : (nI (chr X (s + i))).toInt64 = lN (chr X (s + i)) := lN_toInt64 (by omega)
      rw [if_neg (fun y => q' (c3.mp y)), bs1 r13, bs1 r3, bs1 r9, bs1 at1, e1]
      exact tl _ (by rw [ltI, if_pos q])
    · have q' : 7 ≤ i := by omega
      rw [if_pos (c3.mpr q')]
      exact tl _ (by rw [ltI, if_neg q])
  · have e : s + rn (cL X) (X.2 - s) s = en X (cL X) s := rfl
    have hel : en X (cL X) s ≤ X.2 := en_le hs
    have hge := en_ge X (cL X) s
    show b_X9_takes_162 _ 53 (h.set 53 (cO 9 (mfs X.2 F (nI (s + rn (cL X) (X.2 - s) s)) (nI s) 1 0 (ltI X s (rn (cL X) (X.2 - s) s)) im))) = _
    rw [e, ← en_i]
    obtain ⟨l, hl0⟩ : ∃ l, l = ltI X s (en X (cL X) s - s) := ⟨_, rfl⟩
    rw [← hl0]
    have g1 := get_self (c := cO 9 (mfs X.2 F (nI (en X (cL X) s)) (nI s) 1 0 l im)) o
    have t1 := t.set (k := 53) (c := cO 9 (mfs X.2 F (nI (en X (cL X) s)) (nI s) 1 0 l im)) (by decide)
    have r11 := gI_r (k := 11) (x := 1) g1 rfl
    have r9 := gI_r (k := 9) (x := nI (en X (cL X) s)) g1 rfl
    have r4 := gI_r (k := 4) (x := nI X.2) g1 rfl
    have r3 := gR_r (k := 3) (q := 57) g1 rfl
    have fin := X9_259_n (X := X) (t := 1) g1 (by decide) (by decide) hge (by omega)
    rw [List.set_set] at fin
    by_cases c1 : nI X.2 ≤ nI (en X (cL X) s)
    · rw [b_X9_takes_162, bs1 r11, if_pos rfl, bs1 r9, bs1 r4, if_pos c1]
      exact fin
    · have hl : en X (cL X) s < X.2 := by
        have : ¬ X.2 ≤ en X (cL X) s := fun y => c1 (nI_le y (by omega))
        omega
      have at1 := t1.at k hl
      have no : cL X (en X (cL X) s) = false := en_out cL_lt hs
      have hc := (bt_in k hl).2
      have inn := X9_inR (chr X (en X (cL X) s)) 97 122 (by omega) (by decide) (by decide) (h.set 53 (cO 9 (mfs X.2 F (nI (en X (cL X) s)) (nI s) 1 0 l im)))
      have nd : (decide (97 ≤ chr X (en X (cL X) s)) && decide (chr X (en X (cL X) s) ≤ 122)) = false := cL_no hl no
      rw [nd, show lN 97 = (97 : Int64) from rfl, show lN 122 = (122 : Int64) from rfl] at inn
      rw [b_X9_takes_162, bs1 r11, if_pos rfl, bs1 r9, bs1 r4, if_neg c1, bs1 r3, bs1 r9, bs1 at1, bs1 inn, bi_f, if_pos rfl]
      exact fin
theorem X9_162_n {h : mj_H} {t : Int32} {fs : List Value} (o : h[53]? = some (cO 9 fs)) (g : mj_gI h 53 9 11 = some t) (ht : ¬ t = 1) : f_X9_takes_162 53 h = f_X9_takes_259 53 h := by
  show b_X9_takes_162 _ 53 h = _
  rw [b_X9_takes_162, bs1 g, if_neg ht]
theorem X9_127_s {h : mj_H} {n : Nat} {F : Int64 × Int64} {a b t0 v im : Int32} {l : Int64} {s : Nat} (o : h[53]? = some (cO 9 (mfs n F (nI s) b t0 v l im))) {t : Nat} (ht : t < 10) : f_X9_takes_127 53 53 (nI t) h = f_X9_takes_162 53 (h.set 53 (cO 9 (mfs n F (nI (if t ≤ 2 then s else s + 1)) b (nI t) 0 0 im))) := by
  have u1 := sV_r (k := 11) (.int (nI t)) o (by simp [mfs])
  have g1 : (h.set 53 (cO 9 ((mfs n F (nI s) b t0 v l im).set 11 (.int (nI t)))))[53]? = some (cO 9 (mfs n F (nI s) b (nI t) v l im)) := get_self o
  have u2 := sV_r (k := 12) (.int (0 : Int32)) g1 (by simp [mfs])
  rw [List.set_set] at u2
  have g2 : (h.set 53 (cO 9 ((mfs n F (nI s) b (nI t) v l im).set 12 (.int 0))))[53]? = some (cO 9 (mfs n F (nI s) b (nI t) 0 l im)) := get_self o
  have u3 := sV_r (k := 13) (.long (0 : Int64)) g2 (by simp [mfs])
  rw [List.set_set] at u3
  have g3 : (h.set 53 (cO 9 ((mfs n F (nI s) b (nI t) 0 l im).set 13 (.long 0))))[53]? = some (cO 9 (mfs n F (nI s) b (nI t) 0 0 im)) := get_self o
  have c : nI t ≤ (2 : Int32) ↔ t ≤ 2 := nle_iff (b := 2) (by omega) (by decide)
  have u4 := fun x => sV_r (k := 9) (.int x) g3 (by simp [mfs])
  have r9 := gI_r (k := 9) (x := nI s) g3 rfl
  have r11 := gI_r (k := 11) (x := nI t) g3 rfl
  have z : nI s + (0 : Int32) = nI s := by rw [show (0 : Int32) = nI 0 from rfl, nI_add, Nat.add_zero]
  rw [f_X9_takes_127, bs1 u1, bs1 u2, bs1 u3, bs1 r9, bs1 r11]
  by_cases q : t ≤ 2
  · rw [if_pos (c.mpr q), if_pos q, f_X9_takes_158, z, bs1 (u4 _), List.set_set]
    rfl
  · rw [if_neg (fun y => q (c.mp y)), if_neg q, f_X9_takes_158, nI_1, bs1 (u4 _), List.set_set]
    rfl
theorem X9_70_s {h : mj_H} {X : (Nat → Int32) × Nat} {F : Int64 × Int64} {t0 v im : Int32} {l : Int64} {s : Nat} (t : MTX h X) (k : TOK X) (o : h[53]? = some (cO 9 (mfs X.2 F (nI s) (nI s) t0 v l im))) (hs : s ≤ X.2) : f_X9_takes_70 53 (bt X s) h = some (h.set 53 (cO 9 (mfs X.2 F (nI (mkE X s)) (nI s) (nI (mkK X s)) (nI (mkV X s)) (mkL X s) im))) := by
  have hX := k.1
  have go := fun (w : Nat) (hw : w < 10) => X9_127_s (a := 0) (t := w) o hw
  -- all that is neither word nor number
  have oth : ∀ w : Nat, w < 10 → w ≠ 1 → w ≠ 2 → f_X9_takes_127 53 53 (nI w) h = some (h.set 53 (cO 9 (mfs X.2 F (nI (if w ≤ 2 then s else s + 1)) (nI s) (nI w) 0 0 im))) := fun w hw h1 h2 => by
    rw [go w hw]
    have g := get_self (c := cO 9 (mfs X.2 F (nI (if w ≤ 2 then s else s + 1)) (nI s) (nI w) 0 0 im)) o
    have z1 : ¬ nI w = (1 : Int32) := by rw [show (1 : Int32) = nI 1 from rfl, nI_eq (by omega) (by decide)]; exact h1
    rw [X9_162_n g (gI_r (k := 11) (x := nI w) g rfl) z1]
    have f := X9_259_n (X := X) g hw h2 (by split <;> omega) (by split <;> omega)
    rw [List.set_set] at f
    exact f
  by_cases hl : s < X.2
  · obtain ⟨e, hc⟩ := bt_in k hl
    have c0 : (0 : Int32) ≤ nI (chr X s) := nI_pos' (by omega)
    have in1 := X9_inR (chr X s) 97 122 (by omega) (by decide) (by decide) h
    have in2 := X9_inR (chr X s) 48 57 (by omega) (by decide) (by decide) h
    have eL : (decide (97 ≤ chr X s) && decide (chr X s ≤ 122)) = cL X s := by unfold cL; rw [decide_eq_true hl, Bool.true_and]
    have eF : (decide (48 ≤ chr X s) && decide (chr X s ≤ 57)) = cF X s := by unfold cF; rw [decide_eq_true hl, Bool.true_and]
    rw [eL, show lN 97 = (97 : Int64) from rfl, show lN 122 = (122 : Int64) from rfl] at in1
    rw [eF, show lN 48 = (48 : Int64) from rfl, show lN 57 = (57 : Int64) from rfl] at in2
    unfold mkE mkK mkV mkL
    rw [if_pos hl, if_pos hl, e, f_X9_takes_70, if_pos c0, bs1 in1]
    cases qL : cL X s
    · simp only [bi_f, if_true, bs1 in2, Bool.false_eq_true, if_false]
      cases qF : cF X s
      · simp only [bi_f, if_true, Bool.false_eq_true, if_false]
        have cs := bt_S k s
        rw [e] at cs
        cases qS : cS X s
        · have z : ¬ nI (chr X s) = 59 := fun y => by have := cs.mp y; rw [qS] at this; exact absurd this (by decide)
          simp only [z, if_false, Bool.false_eq_true]
          have := oth 4 (by decide) (by decide) (by decide)
          rw [if_neg (by decide)] at this
          exact this
        · have z : nI (chr X s) = 59 := cs.mpr qS
          simp only [z, if_true]
          have := oth 3 (by decide) (by decide) (by decide)
          rw [if_neg (by decide)] at this
          exact this
      · simp only [bi_t, one0, if_false, if_true]
        have g2 := go 2 (by decide)
        rw [if_pos (by decide), show nI 2 = (2 : Int32) from rfl] at g2
        rw [g2]
        have g := get_self (c := cO 9 (mfs X.2 F (nI s) (nI s) 2 0 0 im)) o
        rw [X9_162_n g (gI_r (k := 11) (x := 2) g rfl) (by decide)]
        have f := X9_259_f (t.set (k := 53) (by decide)) k g hs
        rw [List.set_set] at f
        exact f
    · obtain ⟨zF, zS, -⟩ := cLF qL
      simp only [bi_t, one0, if_false, if_true, zF, Bool.false_eq_true]
      have g1 := go 1 (by decide)
      rw [if_pos (by decide), show nI 1 = (1 : Int32) from rfl] at g1
      rw [g1]
      have g := get_self (c := cO 9 (mfs X.2 F (nI s) (nI s) 1 0 0 im)) o
      have f := X9_162_l (t.set (k := 53) (by decide)) k g hs
      rw [List.set_set] at f
      exact f
  · have e : bt X s = -1 := (bt_e k s).mpr hl
    have zF : cF X s = false := by
      cases z : cF X s
      · rfl
      · exact absurd (cF_lt _ z) hl
    have zL : cL X s = false := by
      cases z : cL X s
      · rfl
      · exact absurd (cL_lt _ z) hl
    unfold mkE mkK mkV mkL
    rw [if_neg hl, if_neg hl, if_neg (by rw [zF]; decide), if_neg (by rw [zL]; decide), e, f_X9_takes_70, if_neg (by decide)]
    have := oth 0 (by decide) (by decide) (by decide)
    rw [if_pos (by decide)] at this
    exact this
theorem X9_takes_s {h : mj_H} {X : (Nat → Int32) × Nat} {F : Int64 × Int64} {b t0 v im : Int32} {l : Int64} {p : Nat} (t : MTX h X) (k : TOK X) (o : h[53]? = some (cO 9 (mfs X.2 F (nI p) b t0 v l im))) (hp : p ≤ X.2) : f_X9_takes 53 h = some (h.set 53 (cO 9 (mfs X.2 F (nI (mkE X (sk X p))) (nI (sk X p)) (nI (mkK X (sk X p))) (nI (mkV X (sk X p))) (mkL X (sk X p)) im))) := by
  have hX := k.1
  have hn := rn_le (cB X) (X.2 - p) p
  unfold f_X9_takes f_X9_takes_0
  have h0 : ((53 : Nat), h) = (fun i => (53, h.set 53 (cO 9 (mfs X.2 F (nI (p + i)) b t0 v l im)))) 0 := by
    show _ = (53, h.set 53 (cO 9 (mfs X.2 F (nI (p + 0)) b t0 v l im)))
    rw [Nat.add_zero, set_same o]
  rw [h0]
  refine fix_iter (st := fun i => ((53 : Nat), h.set 53 (cO 9 (mfs X.2 F (nI (p + i)) b t0 v l im)))) (rn (cB X) (X.2 - p) p) _ (fun i hi K => ?_) (fun K => ?_) 1000 (by omega)
  · have g1 := get_self (c := cO 9 (mfs X.2 F (nI (p + i)) b t0 v l im)) o
    have t1 := t.set (k := 53) (c := cO 9 (mfs X.2 F (nI (p + i)) b t0 v l im)) (by decide)
    have hc := rn_in _ _ _ _ hi
    have hl := cB_lt _ hc
    have c1 : ¬ nI X.2 ≤ nI (p + i) := nI_ge hl (by omega)
    have at1 := t1.at k hl
    have c32 : nI (chr X (p + i)) = (32 : Int32) := by
      have := (bt_B k (p + i)).mpr hc
      rw [(bt_in k hl).1] at this; exact this
    have r3 := gR_r (k := 3) (q := 57) g1 rfl
    have r4 := gI_r (k := 4) (x := nI X.2) g1 rfl
    have r9 := gI_r (k := 9) (x := nI (p + i)) g1 rfl
    have u := sV_r (k := 9) (.int (nI (p + i + 1))) g1 (by simp [mfs])
    rw [List.set_set] at u
    show b_X9_takes_0 _ 53 _ = K (53, h.set 53 (cO 9 (mfs X.2 F (nI (p + i + 1)) b t0 v l im)))
    rw [b_X9_takes_0, bs1 r9, bs1 r4, if_neg c1, bs1 r3, bs1 r9, bs1 at1, if_pos c32, bs1 r9, nI_1, bs1 u]
    rfl
  · have e : p + rn (cB X) (X.2 - p) p = sk X p := rfl
    have hs : sk X p ≤ X.2 := sk_le hp
    show b_X9_takes_0 _ 53 (h.set 53 (cO 9 (mfs X.2 F (nI (p + rn (cB X) (X.2 - p) p)) b t0 v l im))) = _
    rw [e]
    obtain ⟨s, hse⟩ : ∃ s, s = sk X p := ⟨_, rfl⟩
    have no : cB X s = false := by rw [hse]; exact en_out cB_lt hp
    rw [← hse] at hs ⊢
    have g1 := get_self (c := cO 9 (mfs X.2 F (nI s) b t0 v l im)) o
    have t1 := t.set (k := 53) (c := cO 9 (mfs X.2 F (nI s) b t0 v l im)) (by decide)
    have r3 := gR_r (k := 3) (q := 57) g1 rfl
    have r4 := gI_r (k := 4) (x := nI X.2) g1 rfl
    have r9 := gI_r (k := 9) (x := nI s) g1 rfl
    have u := sV_r (k := 10) (.int (nI s)) g1 (by simp [mfs])
    rw [List.set_set] at u
    have g2 : (h.set 53 (cO 9 ((mfs X.2 F (nI s) b t0 v l im).set 10 (.int (nI s)))))[53]? = some (cO 9 (mfs X.2 F (nI s) (nI s) t0 v l im)) := get_self o
    have t2 := t.set (k := 53) (c := cO 9 ((mfs X.2 F (nI s) b t0 v l im).set 10 (.int (nI s)))) (by decide)
    have r3' := gR_r (k := 3) (q := 57) g2 rfl
    have r4' := gI_r (k := 4) (x := nI X.2) g2 rfl
    have r9' := gI_r (k := 9) (x := nI s) g2 rfl
    have f := X9_70_s t2 k g2 hs
    rw [List.set_set] at f
    have e38 : f_X9_takes_38 53 (h.set 53 (cO 9 (mfs X.2 F (nI s) b t0 v l im))) = some (h.set 53 (cO 9 (mfs X.2 F (nI (mkE X s)) (nI s) (nI (mkK X s)) (nI (mkV X s)) (mkL X s) im))) := by
      rw [f_X9_takes_38, bs1 r9, bs1 u, bs1 r9', bs1 r4']
      by_cases hl : s < X.2
      · have c1 : ¬ nI X.2 ≤ nI s := nI_ge hl (by omega)
        have at2 := t2.at k hl
        rw [if_neg c1, bs1 r3', bs1 r9', bs1 at2, ← (bt_in k hl).1]
        exact f
      · have c1 : nI X.2 ≤ nI s := nI_le (by omega) (by omega)
        rw [(bt_e k s).mpr hl] at f
        rw [if_pos c1]
        exact f
    by_cases hl : s < X.2
    · have c1 : ¬ nI X.2 ≤ nI s := nI_ge hl (by omega)
      have at1 := t1.at k hl
      have c32 : ¬ nI (chr X s) = (32 : Int32) := fun z => by
        rw [← (bt_in k hl).1] at z
        have := (bt_B k s).mp z
        rw [no] at this; exact absurd this (by decide)
      rw [b_X9_takes_0, bs1 r9, bs1 r4, if_neg c1, bs1 r3, bs1 r9, bs1 at1, if_neg c32]
      exact e38
    · have c1 : nI X.2 ≤ nI s := nI_le (by omega) (by omega)
      rw [b_X9_takes_0, bs1 r9, bs1 r4, if_pos c1]
      exact e38
