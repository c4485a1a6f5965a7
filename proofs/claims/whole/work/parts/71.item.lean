/-! PURE: X4's token, item -/
def tkE (X : (Nat → Int32) × Nat) (s : Nat) : Nat := if cL X s = true then en X (cL X) s else if cF X s = true then en X (cF X) s else if cS X s = true then s + 1 else s
def tkK (X : (Nat → Int32) × Nat) (s : Nat) : Int32 := if cL X s = true then (if kwd X s < 5 then 1 else 0) else if cF X s = true then (if nok X s = true then 2 else 0) else if cS X s = true then 3 else 0
def tkV (X : (Nat → Int32) × Nat) (s : Nat) (vl : Int32) : Int32 := if cL X s = true then (if kwd X s < 5 then nI (kwd X s) else vl) else if cF X s = true then nI (nval X s) else vl
theorem cS_lt {X : (Nat → Int32) × Nat} (k : Nat) (h : cS X k = true) : k < X.2 := by
  unfold cS at h; simp only [Bool.and_eq_true, decide_eq_true_eq] at h; exact h.1
theorem tkE_le {X : (Nat → Int32) × Nat} {s : Nat} (h : s ≤ X.2) : tkE X s ≤ X.2 := by
  unfold tkE
  split
  · exact en_le h
  · split
    · exact en_le h
    · split
      · rename_i q; exact cS_lt s q
      · exact h
theorem X4_token_s {h : mj_H} {X : (Nat → Int32) × Nat} {st tk vl it im : Int32} {p : Nat} (t : TXR h X) (k : TOK X) (o : h[33]? = some (cO 4 (rfs (nI p) st tk vl it im))) (hp : p ≤ X.2) : f_X4_readToken 33 h = some (h.set 33 (cO 4 (rfs (nI (tkE X (sk X p))) (nI (sk X p)) (tkK X (sk X p)) (tkV X (sk X p) vl) it im))) := by
  have hX := k.1
  have e1 := X4_skip_s t k o hp
  have hs : sk X p ≤ X.2 := en_le hp
  obtain ⟨s, hse⟩ : ∃ s, s = sk X p := ⟨_, rfl⟩
  rw [← hse] at e1 hs ⊢
  have g1 := get_self (c := cO 4 (rfs (nI s) st tk vl it im)) o
  have u1 := sV_r (k := 4) (.int (nI s)) g1 (by simp [rfs])
  rw [List.set_set] at u1
  have g2 : (h.set 33 (cO 4 ((rfs (nI s) st tk vl it im).set 4 (.int (nI s)))))[33]? = some (cO 4 (rfs (nI s) (nI s) tk vl it im)) := get_self o
  have u2 := sV_r (k := 5) (.int (0 : Int32)) g2 (by simp [rfs])
  rw [List.set_set] at u2
  obtain ⟨H, hH⟩ : ∃ H, H = h.set 33 (cO 4 ((rfs (nI s) (nI s) tk vl it im).set 5 (.int 0))) := ⟨_, rfl⟩
  rw [← hH] at u2
  have g3 : H[33]? = some (cO 4 (rfs (nI s) (nI s) 0 vl it im)) := by rw [hH]; exact get_self o
  have t3 : TXR H X := by rw [hH]; exact t.set (by decide)
  have b := X7_byteAt_s t3 k (j := s) (by omega)
  have lt := X4_letter_s k s H
  have fg := X4_figure_s k s H
  have o3 : mj_ob H 33 4 = true := ob_r g3
  have fin : ∀ L, H.set 33 (cO 4 L) = h.set 33 (cO 4 L) := fun L => by rw [hH, List.set_set]
  have o0 : mj_ob h 33 4 = true := ob_r o
  unfold tkE tkK tkV
  simp only [f_X4_readToken, o0, if_true, e1, bs, gI_r (k := 3) (x := nI s) g1 rfl, u1, u2, gR_r (k := 0) (q := 34) g3 rfl, gI_r (k := 3) (x := nI s) g3 rfl, t3.ob, b, lt]
  cases qL : cL X s
  · simp only [bi_f, if_true, fg, bs, Bool.false_eq_true, if_false]
    cases qF : cF X s
    · simp only [bi_f, if_true, Bool.false_eq_true, if_false]
      cases qS : cS X s
      · have c1 : ¬ bt X s = 59 := fun z => by have := (bt_S k s).mp z; rw [qS] at this; exact absurd this (by decide)
        simp only [c1, if_false, Bool.false_eq_true]
        rw [hH]; rfl
      · have c1 : bt X s = 59 := (bt_S k s).mpr qS
        have u4 := sV_r (k := 5) (.int (3 : Int32)) g3 (by simp [rfs])
        rw [fin] at u4
        have g4 : (h.set 33 (cO 4 ((rfs (nI s) (nI s) 0 vl it im).set 5 (.int 3))))[33]? = some (cO 4 (rfs (nI s) (nI s) 3 vl it im)) := get_self o
        have u5 := sV_r (k := 3) (.int (nI (s + 1))) g4 (by simp [rfs])
        rw [List.set_set] at u5
        simp only [c1, if_true, u4, bs, gI_r (k := 3) (x := nI s) g4 rfl, nI_1, u5]
        rfl
    · have fn := X4_num_s t3 k g3 hs
      rw [fin] at fn
      simp only [bi_t, one0, if_false, o3, if_true, fn, bs]
  · have fw := X4_word_s t3 k g3 hs
    rw [fin] at fw
    simp only [bi_t, one0, if_false, o3, if_true, fw, bs]
/-! items -/
def need (w : Nat) : Nat := ([1, 6, 2, 2, 1] : List Nat).getD w 0
/-- where the numbers stand that begin at q -/
def np (X : (Nat → Int32) × Nat) (q : Nat) : Nat → Nat
  | 0 => q
  | i + 1 => en X (cF X) (sk X (np X q i))
def nbad (X : (Nat → Int32) × Nat) (q i : Nat) : Bool := !(cF X (sk X (np X q i)) && nok X (sk X (np X q i)))
def wE (X : (Nat → Int32) × Nat) (p : Nat) : Nat := en X (cL X) (sk X p)
def kD (X : (Nat → Int32) × Nat) (p : Nat) : Nat := kwd X (sk X p)
def head (X : (Nat → Int32) × Nat) (first : Bool) (p : Nat) : Bool := cL X (sk X p) && (decide (kD X p < 5) && (first == decide (kD X p = 0)))
def itF (X : (Nat → Int32) × Nat) (first : Bool) (p : Nat) : Option Nat := if head X first p = true then (match ffirst (nbad X (wE X p)) (need (kD X p)) with
    | some i => some (sk X (np X (wE X p) i))
    | none => if cS X (sk X (np X (wE X p) (need (kD X p)))) = true then none else some (sk X (np X (wE X p) (need (kD X p))))) else some (sk X p)
def itE (X : (Nat → Int32) × Nat) (p : Nat) : Nat := sk X (np X (wE X p) (need (kD X p))) + 1
def nm (X : (Nat → Int32) × Nat) (p k : Nat) : Nat := nval X (sk X (np X (wE X p) k))
theorem sk_le {X : (Nat → Int32) × Nat} {p : Nat} (h : p ≤ X.2) : sk X p ≤ X.2 := en_le h
theorem np_le {X : (Nat → Int32) × Nat} {q : Nat} (h : q ≤ X.2) : ∀ i, np X q i ≤ X.2
  | 0 => h
  | i + 1 => en_le (sk_le (np_le h i))
theorem need_w : ∀ w, w < 5 → need w ≤ 6 ∧ 0 < need w ∧ mj_roA 2 (nI w) = some (nI (need w)) := by decide
theorem need_le (w : Nat) : need w ≤ 6 := by
  by_cases h : w < 5
  · exact (need_w w h).1
  · unfold need
    match w, h with
    | w + 5, _ => exact Nat.zero_le _
/-- only X4's object and its numbers were written -/
def RE (h h' : mj_H) : Prop := ∀ j, j ≠ 33 → j ≠ 42 → h'[j]? = h[j]?
theorem TXR.re {h h' : mj_H} {X : (Nat → Int32) × Nat} (t : TXR h X) (e : RE h h') : TXR h' X := t.fr (fun j h1 h2 => e j (by omega) (by omega))
theorem RE.s33 {h h' : mj_H} (e : RE h h') (c : mj_C) : RE h (h'.set 33 c) := fun j h1 h2 => by rw [List.getElem?_set_ne (by omega)]; exact e j h1 h2
theorem RE.s42 {h h' : mj_H} (e : RE h h') (c : mj_C) : RE h (h'.set 42 c) := fun j h1 h2 => by rw [List.getElem?_set_ne (by omega)]; exact e j h1 h2
theorem X4_item71_s {h : mj_H} {X : (Nat → Int32) × Nat} {st tk vl im : Int32} {g : Nat → Int32} {p : Nat} {first : Bool} (t : TXR h X) (k : TOK X) (o : h[33]? = some (cO 4 (rfs (nI (wE X p)) st tk vl (nI (kD X p)) im))) (hg : h[42]? = some (cI 6 g)) (hp : p ≤ X.2) (hd : head X first p = true) : ∃ h' pl st' tk' vl' g', f_X4_readItem_71 33 (nI (need (kD X p))) (0 : Int32) h = some (bi (itF X first p).isNone, h') ∧ RE h h' ∧ h'[33]? = some (cO 4 (rfs pl st' tk' vl' (nI (kD X p)) im)) ∧ h'[42]? = some (cI 6 g') ∧ (∀ b, itF X first p = some b → st' = nI b) ∧ (itF X first p = none → pl = nI (itE X p) ∧ ∀ j, j < need (kD X p) → g' j = nI (nm X p j)) := by
  have hw : wE X p ≤ X.2 := en_le (sk_le hp)
  have hn6 := need_le (kD X p)
  obtain ⟨q, hq⟩ : ∃ q, q = wE X p := ⟨_, rfl⟩
  obtain ⟨N, hN⟩ : ∃ N, N = need (kD X p) := ⟨_, rfl⟩
  have itf : itF X first p = (match ffirst (nbad X q) N with
    | some i => some (sk X (np X q i))
    | none => if cS X (sk X (np X q N)) = true then none else some (sk X (np X q N))) := by
    unfold itF; rw [if_pos hd, ← hq, ← hN]
  have ite : itE X p = sk X (np X q N) + 1 := by unfold itE; rw [← hq, ← hN]
  have inm : ∀ j, nm X p j = nval X (sk X (np X q j)) := fun j => by unfold nm; rw [← hq]
  rw [← hq] at o hw
  rw [← hN] at hn6 ⊢
  refine fix_w (F := fun (K71 : (Nat × Int32 × Int32 × mj_H) → Option (Int32 × mj_H)) (s : Nat × Int32 × Int32 × mj_H) => b_X4_readItem_71 (fun v0 v2 v3 h => K71 (v0, v2, v3, h)) s.1 s.2.1 s.2.2.1 s.2.2.2)
    (fun i s => ∃ h1 st1 tk1 vl1 g1, s = (33, nI N, nI i, h1) ∧ RE h h1 ∧ h1[33]? = some (cO 4 (rfs (nI (np X q i)) st1 tk1 vl1 (nI (kD X p)) im)) ∧ h1[42]? = some (cI 6 g1) ∧ (∀ j, j < i → g1 j = nI (nm X p j)) ∧ ffirst (nbad X q) i = none)
    (fun r => ∃ h' pl st' tk' vl' g', r = some (bi (itF X first p).isNone, h') ∧ RE h h' ∧ h'[33]? = some (cO 4 (rfs pl st' tk' vl' (nI (kD X p)) im)) ∧ h'[42]? = some (cI 6 g') ∧ (∀ b, itF X first p = some b → st' = nI b) ∧ (itF X first p = none → pl = nI (itE X p) ∧ ∀ j, j < N → g' j = nI (nm X p j))) N (fun i hi s hs => ?_) (fun s hs => ?_) 1000 (by omega) (33, nI N, nI 0, h) ⟨h, st, tk, vl, g, rfl, fun _ _ _ => rfl, o, hg, fun j hj => absurd hj (Nat.not_lt_zero j), rfl⟩
  · obtain ⟨h1, st1, tk1, vl1, g1, rfl, re, o1, hg1, hv, hf⟩ := hs
    have t1 := t.re re
    have npl := np_le hw i
    have e1 := X4_token_s t1 k o1 npl
    obtain ⟨s, hse⟩ : ∃ s, s = sk X (np X q i) := ⟨_, rfl⟩
    rw [← hse] at e1
    have o2 := get_self (c := cO 4 (rfs (nI (tkE X s)) (nI s) (tkK X s) (tkV X s vl1) (nI (kD X p)) im)) o1
    have g2 := get_set (c := cO 4 (rfs (nI (tkE X s)) (nI s) (tkK X s) (tkV X s vl1) (nI (kD X p)) im)) hg1 (show 33 ≠ 42 by decide)
    have re2 := re.s33 (cO 4 (rfs (nI (tkE X s)) (nI s) (tkK X s) (tkV X s vl1) (nI (kD X p)) im))
    obtain ⟨H, hH⟩ : ∃ H, H = h1.set 33 (cO 4 (rfs (nI (tkE X s)) (nI s) (tkK X s) (tkV X s vl1) (nI (kD X p)) im)) := ⟨_, rfl⟩
    rw [← hH] at e1 o2 g2 re2
    have c1 : ¬ nI N ≤ nI i := nI_ge hi (by omega)
    have c2 : ¬ nI 6 ≤ nI i := nI_ge (by omega) (by decide)
    have al := aL_I hg1
    have gr : mj_gR h1 33 4 2 = some 42 := gR_r o1 rfl
    have ob1 : mj_ob h1 33 4 = true := ob_r o1
    have tke : mj_gI H 33 4 5 = some (tkK X s) := gI_r o2 rfl
    by_cases nb : nbad X q i = true
    · right
      intro K
      have tk2 : ¬ tkK X s = 2 := by
        unfold nbad at nb
        rw [← hse] at nb
        unfold tkK
        split
        · split <;> decide
        · split
          · rename_i z
            rw [z] at nb
            split
            · rename_i z2; rw [z2] at nb; exact absurd nb (by decide)
            · decide
          · split <;> decide
      have iff : itF X first p = some s := by rw [itf, ff_at hi hf nb, hse]
      refine ⟨_, _, _, _, _, g1, ?_, re2, o2, g2, fun b hb => ?_, fun hb => ?_⟩
      · rw [iff]
        simp only [b_X4_readItem_71, c1, if_false, gr, bs, al, c2, ob1, if_true, e1, tke, tk2]
        rfl
      · rw [iff] at hb; rw [Option.some.inj hb]
      · rw [iff] at hb; exact absurd hb (by simp)
    · left
      rw [Bool.not_eq_true] at nb
      have nb' := nb
      unfold nbad at nb
      rw [← hse] at nb
      simp only [Bool.not_eq_false', Bool.and_eq_true] at nb
      obtain ⟨z1, z2⟩ := nb
      have zL : cL X s = false := by
        obtain ⟨d1, d2⟩ := cF_b z1
        cases z : cL X s
        · rfl
        · unfold cL at z; simp only [Bool.and_eq_true, decide_eq_true_eq] at z; omega
      have k2 : tkK X s = 2 := by unfold tkK; rw [if_neg (by rw [zL]; decide), if_pos z1, if_pos z2]
      have v2 : tkV X s vl1 = nI (nm X p i) := by unfold tkV; rw [if_neg (by rw [zL]; decide), if_pos z1, inm, hse]
      have e2 : tkE X s = np X q (i + 1) := by unfold tkE; rw [if_neg (by rw [zL]; decide), if_pos z1, np, hse]
      have u := uI_r (tkV X s vl1) g2 (show i < 6 by omega) (by decide)
      have gr2 : mj_gR H 33 4 2 = some 42 := gR_r o2 rfl
      have gv2 : mj_gI H 33 4 6 = some (tkV X s vl1) := gI_r o2 rfl
      refine ⟨_, ⟨H.set 42 (cI 6 (upd g1 i (tkV X s vl1))), nI s, tkK X s, tkV X s vl1, upd g1 i (tkV X s vl1), rfl, re2.s42 _, ?_, get_self g2, fun j hj => ?_, ff_next hf nb'⟩, fun K => ?_⟩
      · rw [← e2]; exact get_set o2 (by decide)
      · unfold upd
        by_cases z : j = i
        · rw [if_pos z, v2, z]
        · rw [if_neg z]; exact hv j (by omega)
      · simp only [b_X4_readItem_71, c1, if_false, gr, bs, al, c2, ob1, if_true, e1, tke, k2, gr2, gv2, u, nI_1]
  · obtain ⟨h1, st1, tk1, vl1, g1, rfl, re, o1, hg1, hv, hf⟩ := hs
    intro K
    have t1 := t.re re
    have npl := np_le hw N
    have e1 := X4_token_s t1 k o1 npl
    obtain ⟨s, hse⟩ : ∃ s, s = sk X (np X q N) := ⟨_, rfl⟩
    rw [← hse] at e1
    have o2 := get_self (c := cO 4 (rfs (nI (tkE X s)) (nI s) (tkK X s) (tkV X s vl1) (nI (kD X p)) im)) o1
    have g2 := get_set (c := cO 4 (rfs (nI (tkE X s)) (nI s) (tkK X s) (tkV X s vl1) (nI (kD X p)) im)) hg1 (show 33 ≠ 42 by decide)
    have re2 := re.s33 (cO 4 (rfs (nI (tkE X s)) (nI s) (tkK X s) (tkV X s vl1) (nI (kD X p)) im))
    obtain ⟨H, hH⟩ : ∃ H, H = h1.set 33 (cO 4 (rfs (nI (tkE X s)) (nI s) (tkK X s) (tkV X s vl1) (nI (kD X p)) im)) := ⟨_, rfl⟩
    rw [← hH] at e1 o2 g2 re2
    have c1 : nI N ≤ nI N := Int32.le_refl _
    have ob1 : mj_ob h1 33 4 = true := ob_r o1
    have tke : mj_gI H 33 4 5 = some (tkK X s) := gI_r o2 rfl
    have iff : itF X first p = if cS X s = true then none else some s := by rw [itf, hf, hse]
    refine ⟨_, nI (tkE X s), nI s, _, _, g1, ?_, re2, o2, g2, fun b hb => ?_, fun hb => ⟨?_, hv⟩⟩
    · rw [iff]
      cases qS : cS X s
      · have k3 : ¬ tkK X s = 3 := by
          unfold tkK
          split
          · split <;> decide
          · split
            · split <;> decide
            · rw [if_neg (by rw [qS]; decide)]; decide
        simp only [b_X4_readItem_71, c1, if_true, f_X4_readItem_115, ob1, e1, bs, tke, k3, if_false, Bool.false_eq_true]
        rfl
      · have hd := qS
        unfold cS at hd
        simp only [Bool.and_eq_true, decide_eq_true_eq] at hd
        have zL : cL X s = false := by
          cases z : cL X s
          · rfl
          · unfold cL at z; simp only [Bool.and_eq_true, decide_eq_true_eq] at z; omega
        have zF : cF X s = false := by
          cases z : cF X s
          · rfl
          · have := cF_b z; omega
        have k3 : tkK X s = 3 := by unfold tkK; rw [if_neg (by rw [zL]; decide), if_neg (by rw [zF]; decide), if_pos qS]
        simp only [b_X4_readItem_71, c1, if_true, f_X4_readItem_115, ob1, e1, bs, tke, k3]
        rfl
    · rw [iff] at hb
      split at hb
      · exact absurd hb (by simp)
      · rw [Option.some.inj hb]
    · rw [iff] at hb
      split at hb
      · rename_i qS
        have hd := qS
        unfold cS at hd
        simp only [Bool.and_eq_true, decide_eq_true_eq] at hd
        have zL : cL X s = false := by
          cases z : cL X s
          · rfl
          · unfold cL at z; simp only [Bool.and_eq_true, decide_eq_true_eq] at z; omega
        have zF : cF X s = false := by
          cases z : cF X s
          · rfl
          · have := cF_b z; omega
        unfold tkE
        rw [if_neg (by rw [zL]; decide), if_neg (by rw [zF]; decide), if_pos qS, ite, hse]
      · exact absurd hb (by simp)
theorem X4_item_s {h : mj_H} {X : (Nat → Int32) × Nat} {st tk vl it im : Int32} {g : Nat → Int32} {p : Nat} (first : Bool) (t : TXR h X) (k : TOK X) (o : h[33]? = some (cO 4 (rfs (nI p) st tk vl it im))) (hg : h[42]? = some (cI 6 g)) (hp : p ≤ X.2) : ∃ h' pl st' tk' vl' it' g', f_X4_readItem 33 (bi first) h = some (bi (itF X first p).isNone, h') ∧ RE h h' ∧ h'[33]? = some (cO 4 (rfs pl st' tk' vl' it' im)) ∧ h'[42]? = some (cI 6 g') ∧ (∀ b, itF X first p = some b → st' = nI b) ∧ (itF X first p = none → pl = nI (itE X p) ∧ it' = nI (kD X p) ∧ ∀ j, j < need (kD X p) → g' j = nI (nm X p j)) := by
  have e1 := X4_token_s t k o hp
  obtain ⟨s, hse⟩ : ∃ s, s = sk X p := ⟨_, rfl⟩
  have hkd : kD X p = kwd X s := by rw [hse]; rfl
  have hwe : wE X p = en X (cL X) s := by rw [hse]; rfl
  have hhd : head X first p = (cL X s && (decide (kD X p < 5) && (first == decide (kD X p = 0)))) := by rw [hse]; rfl
  have o2 := get_self (c := cO 4 (rfs (nI (tkE X s)) (nI s) (tkK X s) (tkV X s vl) it im)) o
  have g2 := get_set (c := cO 4 (rfs (nI (tkE X s)) (nI s) (tkK X s) (tkV X s vl) it im)) hg (show 33 ≠ 42 by decide)
  have re0 : RE h h := fun _ _ _ => rfl
  have re2 := re0.s33 (cO 4 (rfs (nI (tkE X s)) (nI s) (tkK X s) (tkV X s vl) it im))
  rw [← hse] at e1
  have ob1 : mj_ob h 33 4 = true := ob_r o
  obtain ⟨H, hH⟩ : ∃ H, H = h.set 33 (cO 4 (rfs (nI (tkE X s)) (nI s) (tkK X s) (tkV X s vl) it im)) := ⟨_, rfl⟩
  rw [← hH] at e1 o2 g2 re2
  have tke : mj_gI H 33 4 5 = some (tkK X s) := gI_r o2 rfl
  have vle : mj_gI H 33 4 6 = some (tkV X s vl) := gI_r o2 rfl
  have bad : head X first p = false → f_X4_readItem 33 (bi first) h = some (0, H) → ∃ h' pl st' tk' vl' it' g', f_X4_readItem 33 (bi first) h = some (bi (itF X first p).isNone, h') ∧ RE h h' ∧ h'[33]? = some (cO 4 (rfs pl st' tk' vl' it' im)) ∧ h'[42]? = some (cI 6 g') ∧ (∀ b, itF X first p = some b → st' = nI b) ∧ (itF X first p = none → pl = nI (itE X p) ∧ it' = nI (kD X p) ∧ ∀ j, j < need (kD X p) → g' j = nI (nm X p j)) := fun hf e => by
    have iff : itF X first p = some s := by unfold itF; rw [if_neg (by rw [hf]; decide), hse]
    refine ⟨H, _, _, _, _, _, _, ?_, re2, o2, g2, fun b hb => ?_, fun hb => ?_⟩
    · rw [e, iff]; rfl
    · rw [iff] at hb; rw [Option.some.inj hb]
    · rw [iff] at hb; exact absurd hb (by simp)
  by_cases q1 : tkK X s = 1
  · have zL : cL X s = true := by
      cases z : cL X s
      · unfold tkK at q1
        rw [if_neg (by rw [z]; decide)] at q1
        split at q1
        · split at q1 <;> exact absurd q1 (by decide)
        · split at q1 <;> exact absurd q1 (by decide)
      · rfl
    have zk : kwd X s < 5 := by
      unfold tkK at q1
      rw [if_pos zL] at q1
      split at q1
      · assumption
      · exact absurd q1 (by decide)
    have vv : tkV X s vl = nI (kD X p) := by unfold tkV; rw [if_pos zL, if_pos zk, hkd]
    have ee : tkE X s = wE X p := by unfold tkE; rw [if_pos zL, hwe]
    have c0 : nI (kD X p) = (0 : Int32) ↔ kD X p = 0 := nI_eq (by omega) (by decide)
    have step : f_X4_readItem 33 (bi first) h = f_X4_readItem_25 33 (bi first) (bi (decide (kD X p = 0))) H := by
      simp only [f_X4_readItem, ob1, if_true, e1, bs, tke, q1, vle, vv, c0]
      by_cases z : kD X p = 0
      · simp only [z, if_true, decide_true, bi_t]
      · simp only [z, if_false, decide_false, bi_f]
    have cf : bi first = bi (decide (kD X p = 0)) ↔ (first == decide (kD X p = 0)) = true := by
      cases first <;> cases decide (kD X p = 0) <;> simp [bi]
    by_cases q2 : (first == decide (kD X p = 0)) = true
    · have hd : head X first p = true := by
        rw [hhd, zL, q2, hkd, decide_eq_true zk]; rfl
      have u := sV_r (k := 7) (.int (nI (kD X p))) o2 (by simp [rfs])
      obtain ⟨H2, hH2⟩ : ∃ H2, H2 = H.set 33 (cO 4 ((rfs (nI (tkE X s)) (nI s) (tkK X s) (tkV X s vl) it im).set 7 (.int (nI (kD X p))))) := ⟨_, rfl⟩
      rw [← hH2] at u
      have o3 : H2[33]? = some (cO 4 (rfs (nI (wE X p)) (nI s) (tkK X s) (tkV X s vl) (nI (kD X p)) im)) := by
        rw [hH2, ← ee]; exact get_self o2
      have g3 : H2[42]? = some (cI 6 g) := by rw [hH2]; exact get_set g2 (by decide)
      have re3 : RE h H2 := by rw [hH2]; exact re2.s33 _
      obtain ⟨n1, n2, n3⟩ := need_w (kD X p) (by rw [hkd]; exact zk)
      have it1 : mj_gI H2 33 4 7 = some (nI (kD X p)) := gI_r o3 rfl
      have c1 : ¬ nI (kD X p) < (0 : Int32) := nI_pos (by omega)
      have c2 : ¬ Int32.ofNat (mj_roN 2) ≤ nI (kD X p) := nI_ge (b := 5) (by omega) (by decide)
      obtain ⟨h', pl, st', tk', vl', g', y1, y2, y3, y4, y5, y6⟩ := X4_item71_s (first := first) (t.re re3) k o3 g3 hp hd
      refine ⟨h', pl, st', tk', vl', _, g', ?_, fun j h1 h2 => (y2 j h1 h2).trans (re3 j h1 h2), y3, y4, y5, fun hb => ⟨(y6 hb).1, rfl, (y6 hb).2⟩⟩
      rw [step]
      simp only [f_X4_readItem_25, cf, q2, if_true, vle, bs, vv, u, it1, c1, c2, if_false, n3, f_X4_readItem_68]
      exact y1
    · have hd : head X first p = false := by
        rw [hhd]
        have : (first == decide (kD X p = 0)) = false := by simpa using q2
        rw [this, Bool.and_false, Bool.and_false]
      refine bad hd ?_
      rw [step]
      have q2' : ¬ bi first = bi (decide (kD X p = 0)) := fun z => q2 (cf.mp z)
      simp only [f_X4_readItem_25, q2', if_false]
  · have hd : head X first p = false := by
      rw [hhd]
      cases zL : cL X s
      · rfl
      · have zk : ¬ kwd X s < 5 := fun z => q1 (by unfold tkK; rw [if_pos zL, if_pos z])
        rw [hkd, decide_eq_false zk]; rfl
    refine bad hd ?_
    simp only [f_X4_readItem, ob1, if_true, e1, bs, tke, q1, if_false]
