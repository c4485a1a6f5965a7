/-! PURE: the two states, refusals -/
def IMG (h : mj_H) (p : Nat) (k : Bool) (U : Nat → Nat) : Prop := h[p]? = some (cO 1 [.ref (p + 1), .ref (p + 7), .int (bi k)]) ∧ BN h (p + 1) U ∧ PS h (p + 7) U
theorem IMG.fr {h h' : mj_H} {p : Nat} {k : Bool} {U : Nat → Nat} (m : IMG h p k U) (e : ∀ j, p ≤ j → j < p + 11 → h'[j]? = h[j]?) : IMG h' p k U := by
  obtain ⟨m1, m2, m3⟩ := m
  exact ⟨by rw [e p (by omega) (by omega)]; exact m1, m2.fr (fun j h1 h2 => e j (by omega) (by omega)), m3.fr (fun j h1 h2 => e j (by omega) (by omega))⟩
def RDR (h : mj_H) (X : (Nat → Int32) × Nat) : Prop := (∃ pl st tk vl it im, h[33]? = some (cO 4 [.ref 34, .ref 36, .ref 42, .int pl, .int st, .int tk, .int vl, .int it, .int im])) ∧ h[34]? = some (cO 7 [.ref 35, .int (nI X.2)]) ∧ (∃ b, h[35]? = some (cI 150 b) ∧ ∀ j, j < X.2 → b j = X.1 j) ∧ (∃ D, BN h 36 D) ∧ ∃ g, h[42]? = some (cI 6 g)
theorem RDR.fr {h h' : mj_H} {X : (Nat → Int32) × Nat} (r : RDR h X) (e : ∀ j, 33 ≤ j → j < 43 → h'[j]? = h[j]?) : RDR h' X := by
  obtain ⟨⟨pl, st, tk, vl, it, im, r1⟩, r2, ⟨b, r3, r4⟩, ⟨D, r5⟩, g, r6⟩ := r
  exact ⟨⟨pl, st, tk, vl, it, im, by rw [e _ (by omega) (by omega)]; exact r1⟩, by rw [e _ (by omega) (by omega)]; exact r2, ⟨b, by rw [e _ (by omega) (by omega)]; exact r3, r4⟩, ⟨D, r5.fr (fun j h1 h2 => e j (by omega) (by omega))⟩, g, by rw [e _ (by omega) (by omega)]; exact r6⟩
def xfs (F : Int64 × Int64) (K : Int32 × Int32 × Int32) : List Value := [.ref 1, .ref 7, .ref 11, .ref 22, .ref 33, .ref 43, .ref 46, .ref 48, .ref 52, .long F.1, .long F.2, .int K.1, .int K.2.1, .int K.2.2]
def XS (h : mj_H) (T : Nat → Nat) (I : Nat → Bool × (Nat → Nat)) (X : (Nat → Int32) × Nat) (F : Int64 × Int64) (K : Int32 × Int32 × Int32) : Prop := h[0]? = some (cO 8 (xfs F K)) ∧ BN h 1 T ∧ PS h 7 T ∧ IMG h 11 (I 0).1 (I 0).2 ∧ IMG h 22 (I 1).1 (I 1).2 ∧ RDR h X ∧ YS h ∧ ∃ t, h[52]? = some (cI 6 t)
theorem YS.fr {h h' : mj_H} (y : YS h) (e : ∀ j, 43 ≤ j → j < 52 → h'[j]? = h[j]?) : YS h' := by
  obtain ⟨⟨tr, bm, o⟩, ⟨t1, g, t2⟩, sz, f, q⟩ := y
  exact ⟨⟨tr, bm, o.fr (fun k k1 k2 => e k k1 (by omega))⟩, ⟨by rw [e _ (by omega) (by omega)]; exact t1, g, by rw [e _ (by omega) (by omega)]; exact t2⟩, sz, f, q.fr (fun k k1 k2 => e k (by omega) k2)⟩
theorem XG.of {h : mj_H} {F : Int64 × Int64} {K : Int32 × Int32 × Int32} (o : h[0]? = some (cO 8 (xfs F K))) : XG h :=
  ⟨ob_r o, gR_r o rfl, gR_r o rfl, gR_r o rfl, gR_r o rfl, gR_r o rfl, gR_r o rfl, gR_r o rfl, gR_r o rfl, gR_r o rfl⟩
theorem XS.x {h : mj_H} {T : Nat → Nat} {I : Nat → Bool × (Nat → Nat)} {X : (Nat → Int32) × Nat} {F : Int64 × Int64} {K : Int32 × Int32 × Int32} (s : XS h T I X F K) : XG h := XG.of s.1
theorem XS.b {h : mj_H} {T : Nat → Nat} {I : Nat → Bool × (Nat → Nat)} {X : (Nat → Int32) × Nat} {F : Int64 × Int64} {K : Int32 × Int32 × Int32} (s : XS h T I X F K) : BN h 1 T := s.2.1
theorem XS.y {h : mj_H} {T : Nat → Nat} {I : Nat → Bool × (Nat → Nat)} {X : (Nat → Int32) × Nat} {F : Int64 × Int64} {K : Int32 × Int32 × Int32} (s : XS h T I X F K) : YN h T := ⟨s.x, s.2.1, s.2.2.2.2.2.2.1⟩
theorem XS.yx {h h' : mj_H} {T : Nat → Nat} {I : Nat → Bool × (Nat → Nat)} {X : (Nat → Int32) × Nat} {F : Int64 × Int64} {K : Int32 × Int32 × Int32} (s : XS h T I X F K) (z : YX h h' T) : XS h' T I X F K := by
  obtain ⟨s1, s2, s3, s4, s5, s6, s7, t, s8⟩ := s
  exact ⟨by rw [z.2.2 0 (by decide) (by decide)]; exact s1, z.1, s3.fr (fun j h1 h2 => z.2.2 j (by omega) (by omega)), s4.fr (fun j h1 h2 => z.2.2 j (by omega) (by omega)), s5.fr (fun j h1 h2 => z.2.2 j (by omega) (by omega)), s6.fr (fun j h1 h2 => z.2.2 j (by omega) (by omega)), z.2.1, t, by rw [z.2.2 52 (by decide) (by decide)]; exact s8⟩
theorem XS.fr {h h' : mj_H} {T : Nat → Nat} {I : Nat → Bool × (Nat → Nat)} {X : (Nat → Int32) × Nat} {F : Int64 × Int64} {K : Int32 × Int32 × Int32} (s : XS h T I X F K) (e : ∀ j, j < 53 → h'[j]? = h[j]?) : XS h' T I X F K := by
  obtain ⟨s1, s2, s3, s4, s5, s6, s7, t, s8⟩ := s
  exact ⟨by rw [e 0 (by decide)]; exact s1, s2.fr (fun j h1 h2 => e j (by omega)), s3.fr (fun j h1 h2 => e j (by omega)), s4.fr (fun j h1 h2 => e j (by omega)), s5.fr (fun j h1 h2 => e j (by omega)), s6.fr (fun j h1 h2 => e j (by omega)), s7.fr (fun j h1 h2 => e j (by omega)), t, by rw [e 52 (by decide)]; exact s8⟩
/-- X8's own object was written -/
theorem XS.obj {h : mj_H} {T : Nat → Nat} {I : Nat → Bool × (Nat → Nat)} {X : (Nat → Int32) × Nat} {F F' : Int64 × Int64} {K K' : Int32 × Int32 × Int32} (s : XS h T I X F K) : XS (h.set 0 (cO 8 (xfs F' K'))) T I X F' K' := by
  have e : ∀ j, 0 < j → (h.set 0 (cO 8 (xfs F' K')))[j]? = h[j]? := fun j hj => List.getElem?_set_ne (by omega)
  obtain ⟨s1, s2, s3, s4, s5, s6, s7, t, s8⟩ := s
  exact ⟨get_self s1, s2.fr (fun j h1 h2 => e j (by omega)), s3.fr (fun j h1 h2 => e j (by omega)), s4.fr (fun j h1 h2 => e j (by omega)), s5.fr (fun j h1 h2 => e j (by omega)), s6.fr (fun j h1 h2 => e j (by omega)), s7.fr (fun j h1 h2 => e j (by omega)), t, by rw [e 52 (by decide)]; exact s8⟩
def mfs (n : Nat) (F : Int64 × Int64) (a b t v : Int32) (l : Int64) (im : Int32) : List Value := [.ref 54, .ref 55, .ref 56, .ref 57, .int (nI n), .long F.1, .long F.2, .ref 58, .ref 59, .int a, .int b, .int t, .int v, .long l, .ref 60, .int im, .ref 61, .ref 62, .ref 63, .ref 64]
def MS (h : mj_H) (T : Nat → Nat) (I : Nat → Bool × (Nat → Nat)) (X : (Nat → Int32) × Nat) (F : Int64 × Int64) (K : Int32 × Int32 × Int32) : Prop := (∃ a b t v l im, h[53]? = some (cO 9 (mfs X.2 F a b t v l im))) ∧ (∃ f, h[54]? = some (cI 356 f) ∧ ∀ j, j < 356 → f j = nI (T j)) ∧ SC h ∧ (∃ g, h[55]? = some (cI 712 g) ∧ ∀ i, i < 2 → (I i).1 = true → ∀ j, j < 356 → g (356 * i + j) = nI ((I i).2 j)) ∧ (∃ kf, h[56]? = some (cZ 2 kf) ∧ ∀ i, i < 2 → kf i = bi (I i).1) ∧ (∃ b, h[57]? = some (cI 150 b) ∧ ∀ j, j < X.2 → b j = X.1 j) ∧ (∃ r, h[58]? = some (cI 3 r) ∧ r 0 = K.1 ∧ r 1 = K.2.1 ∧ r 2 = K.2.2) ∧ (∃ t, h[59]? = some (cI 6 t)) ∧ (∃ t, h[60]? = some (cI 210 t)) ∧ ∃ t, h[61]? = some (cI 356 t)
theorem MG.of {h : mj_H} {n : Nat} {F : Int64 × Int64} {a b t v : Int32} {l : Int64} {im : Int32} (o : h[53]? = some (cO 9 (mfs n F a b t v l im))) : MG h :=
  ⟨ob_r o, gR_r o rfl, gR_r o rfl, gR_r o rfl, gR_r o rfl, gR_r o rfl, gR_r o rfl, gR_r o rfl, gR_r o rfl, gR_r o rfl, gR_r o rfl, gR_r o rfl⟩
theorem MS.g {h : mj_H} {T : Nat → Nat} {I : Nat → Bool × (Nat → Nat)} {X : (Nat → Int32) × Nat} {F : Int64 × Int64} {K : Int32 × Int32 × Int32} (s : MS h T I X F K) : MG h := by
  obtain ⟨⟨a, b, t, v, l, im, o⟩, -⟩ := s
  exact MG.of o
theorem MS.n {h : mj_H} {T : Nat → Nat} {I : Nat → Bool × (Nat → Nat)} {X : (Nat → Int32) × Nat} {F : Int64 × Int64} {K : Int32 × Int32 × Int32} (s : MS h T I X F K) : MN h T := ⟨s.g, s.2.1, s.2.2.1⟩
theorem MS.sx {h h' : mj_H} {T : Nat → Nat} {I : Nat → Bool × (Nat → Nat)} {X : (Nat → Int32) × Nat} {F : Int64 × Int64} {K : Int32 × Int32 × Int32} (s : MS h T I X F K) (z : SX h h') : MS h' T I X F K := by
  have e : ∀ j, 53 ≤ j → j < 62 → h'[j]? = h[j]? := fun j h1 h2 => z.2 j (by omega) (by omega) (by omega)
  unfold MS
  rw [e 53 (by decide) (by decide), e 54 (by decide) (by decide), e 55 (by decide) (by decide), e 56 (by decide) (by decide), e 57 (by decide) (by decide), e 58 (by decide) (by decide), e 59 (by decide) (by decide), e 60 (by decide) (by decide), e 61 (by decide) (by decide)]
  exact ⟨s.1, s.2.1, z.1, s.2.2.2⟩
theorem MS.fr {h h' : mj_H} {T : Nat → Nat} {I : Nat → Bool × (Nat → Nat)} {X : (Nat → Int32) × Nat} {F : Int64 × Int64} {K : Int32 × Int32 × Int32} (s : MS h T I X F K) (e : ∀ j, 53 ≤ j → h'[j]? = h[j]?) : MS h' T I X F K := by
  unfold MS SC
  rw [e 53 (by decide), e 54 (by decide), e 55 (by decide), e 56 (by decide), e 57 (by decide), e 58 (by decide), e 59 (by decide), e 60 (by decide), e 61 (by decide), e 62 (by decide), e 63 (by decide), e 64 (by decide)]
  exact s
def PU (T : Nat → Nat) (I : Nat → Bool × (Nat → Nat)) (X : (Nat → Int32) × Nat) : Prop := WO T ∧ (∀ i, i < 2 → WO (I i).2) ∧ X.2 ≤ 150 ∧ ∀ j, j < X.2 → mj_ok (X.1 j) 128 = true
def XR {α : Type} (h : mj_H) (r : Option (α × mj_H)) (a : α) (T : Nat → Nat) (I : Nat → Bool × (Nat → Nat)) (X : (Nat → Int32) × Nat) (F : Int64 × Int64) (K : Int32 × Int32 × Int32) : Prop := ∃ h', r = some (a, h') ∧ XS h' T I X F K ∧ ∀ k, 53 ≤ k → h'[k]? = h[k]?
def MR {α : Type} (h : mj_H) (r : Option (α × mj_H)) (a : α) (T : Nat → Nat) (I : Nat → Bool × (Nat → Nat)) (X : (Nat → Int32) × Nat) (F : Int64 × Int64) (K : Int32 × Int32 × Int32) : Prop := ∃ h', r = some (a, h') ∧ MS h' T I X F K ∧ ∀ k, k < 53 → h'[k]? = h[k]?
/-- both answer alike -/
def OPB {α : Type} (fx fm : mj_H → Option (α × mj_H)) (T : Nat → Nat) (I : Nat → Bool × (Nat → Nat)) (X : (Nat → Int32) × Nat) (F : Int64 × Int64) (K : Int32 × Int32 × Int32) : Prop := ∃ a T' I' X' F' K', PU T' I' X' ∧ (∀ h, XS h T I X F K → XR h (fx h) a T' I' X' F' K') ∧ ∀ h, MS h T I X F K → MR h (fm h) a T' I' X' F' K'
theorem XR.bd {h : mj_H} {T : Nat → Nat} {I : Nat → Bool × (Nat → Nat)} {X : (Nat → Int32) × Nat} {F : Int64 × Int64} {K : Int32 × Int32 × Int32} {r : Option (Int32 × mj_H)} {a : Int32} (z : XR h r a T I X F K) : XR h (r.bind fun p => some (p.1, p.2)) a T I X F K := by
  obtain ⟨h', rfl, z⟩ := z
  exact ⟨h', rfl, z⟩
theorem XR.bd64 {h : mj_H} {T : Nat → Nat} {I : Nat → Bool × (Nat → Nat)} {X : (Nat → Int32) × Nat} {F : Int64 × Int64} {K : Int32 × Int32 × Int32} {r : Option (Int32 × mj_H)} {a : Int32} (z : XR h r a T I X F K) : XR h (r.bind fun p => some (p.1.toInt64, p.2)) a.toInt64 T I X F K := by
  obtain ⟨h', rfl, z⟩ := z
  exact ⟨h', rfl, z⟩
theorem MR.bd {h : mj_H} {T : Nat → Nat} {I : Nat → Bool × (Nat → Nat)} {X : (Nat → Int32) × Nat} {F : Int64 × Int64} {K : Int32 × Int32 × Int32} {r : Option (Int32 × mj_H)} {a : Int32} (z : MR h r a T I X F K) : MR h (r.bind fun p => some (p.1, p.2)) a T I X F K := by
  obtain ⟨h', rfl, z⟩ := z
  exact ⟨h', rfl, z⟩
theorem MR.bd64 {h : mj_H} {T : Nat → Nat} {I : Nat → Bool × (Nat → Nat)} {X : (Nat → Int32) × Nat} {F : Int64 × Int64} {K : Int32 × Int32 × Int32} {r : Option (Int32 × mj_H)} {a : Int32} (z : MR h r a T I X F K) : MR h (r.bind fun p => some (p.1.toInt64, p.2)) a.toInt64 T I X F K := by
  obtain ⟨h', rfl, z⟩ := z
  exact ⟨h', rfl, z⟩
theorem XR.q {α : Type} {h h' : mj_H} {T : Nat → Nat} {I : Nat → Bool × (Nat → Nat)} {X : (Nat → Int32) × Nat} {F : Int64 × Int64} {K : Int32 × Int32 × Int32} {r : Option (α × mj_H)} {a : α} (s : XS h T I X F K) (z : YX h h' T) (e : r = some (a, h')) : XR h r a T I X F K :=
  ⟨h', e, s.yx z, fun k hk => z.2.2 k (by omega) (by omega)⟩
theorem XR.i {α : Type} {h : mj_H} {T : Nat → Nat} {I : Nat → Bool × (Nat → Nat)} {X : (Nat → Int32) × Nat} {F : Int64 × Int64} {K : Int32 × Int32 × Int32} {r : Option (α × mj_H)} {a : α} (s : XS h T I X F K) (e : r = some (a, h)) : XR h r a T I X F K :=
  ⟨h, e, s, fun _ _ => rfl⟩
theorem MR.q {α : Type} {h h' : mj_H} {T : Nat → Nat} {I : Nat → Bool × (Nat → Nat)} {X : (Nat → Int32) × Nat} {F : Int64 × Int64} {K : Int32 × Int32 × Int32} {r : Option (α × mj_H)} {a : α} (s : MS h T I X F K) (z : SX h h') (e : r = some (a, h')) : MR h r a T I X F K :=
  ⟨h', e, s.sx z, fun k hk => z.2 k (by omega) (by omega) (by omega)⟩
theorem MR.i {α : Type} {h : mj_H} {T : Nat → Nat} {I : Nat → Bool × (Nat → Nat)} {X : (Nat → Int32) × Nat} {F : Int64 × Int64} {K : Int32 × Int32 × Int32} {r : Option (α × mj_H)} {a : α} (s : MS h T I X F K) (e : r = some (a, h)) : MR h r a T I X F K :=
  ⟨h, e, s, fun _ _ => rfl⟩
/-! refusals -/
def kb (K : Int32 × Int32 × Int32) : Int32 × Int32 × Int32 := (K.1 + 1, K.2.1, K.2.2)
def kn (K : Int32 × Int32 × Int32) : Int32 × Int32 × Int32 := (K.1, K.2.1 + 1, K.2.2)
def kf (K : Int32 × Int32 × Int32) : Int32 × Int32 × Int32 := (K.1, K.2.1, K.2.2 + 1)
theorem X8_bad {h : mj_H} {T : Nat → Nat} {I : Nat → Bool × (Nat → Nat)} {X : (Nat → Int32) × Nat} {F : Int64 × Int64} {K : Int32 × Int32 × Int32} (s : XS h T I X F K) (a : Int32) : XR h (f_X8_refusedAs 0 (-2 : Int32) a h) a T I X F (kb K) := by
  refine ⟨h.set 0 (cO 8 (xfs F (kb K))), ?_, s.obj, fun k hk => List.getElem?_set_ne (by omega)⟩
  have e1 : mj_gI h 0 8 11 = some K.1 := gI_r s.1 rfl
  have e2 := sV_r (k := 11) (.int (K.1 + 1)) s.1 (by simp [xfs])
  simp only [f_X8_refusedAs, if_true, e1, e2, Option.bind_some]
  rfl
theorem X8_no {h : mj_H} {T : Nat → Nat} {I : Nat → Bool × (Nat → Nat)} {X : (Nat → Int32) × Nat} {F : Int64 × Int64} {K : Int32 × Int32 × Int32} (s : XS h T I X F K) (a : Int32) : XR h (f_X8_refusedAs 0 (-3 : Int32) a h) a T I X F (kn K) := by
  refine ⟨h.set 0 (cO 8 (xfs F (kn K))), ?_, s.obj, fun k hk => List.getElem?_set_ne (by omega)⟩
  have e1 : mj_gI h 0 8 12 = some K.2.1 := gI_r s.1 rfl
  have e2 := sV_r (k := 12) (.int (K.2.1 + 1)) s.1 (by simp [xfs])
  have c1 : ¬ (-3 : Int32) = -2 := by decide
  simp only [f_X8_refusedAs, c1, if_false, if_true, e1, e2, Option.bind_some]
  rfl
theorem X8_full {h : mj_H} {T : Nat → Nat} {I : Nat → Bool × (Nat → Nat)} {X : (Nat → Int32) × Nat} {F : Int64 × Int64} {K : Int32 × Int32 × Int32} (s : XS h T I X F K) (a : Int32) : XR h (f_X8_refusedAs 0 (-4 : Int32) a h) a T I X F (kf K) := by
  refine ⟨h.set 0 (cO 8 (xfs F (kf K))), ?_, s.obj, fun k hk => List.getElem?_set_ne (by omega)⟩
  have e1 : mj_gI h 0 8 13 = some K.2.2 := gI_r s.1 rfl
  have e2 := sV_r (k := 13) (.int (K.2.2 + 1)) s.1 (by simp [xfs])
  have c1 : ¬ (-4 : Int32) = -2 := by decide
  have c2 : ¬ (-4 : Int32) = -3 := by decide
  simp only [f_X8_refusedAs, c1, c2, if_false, if_true, e1, e2, Option.bind_some]
  rfl
theorem X8_badR {h : mj_H} {T : Nat → Nat} {I : Nat → Bool × (Nat → Nat)} {X : (Nat → Int32) × Nat} {F : Int64 × Int64} {K : Int32 × Int32 × Int32} (s : XS h T I X F K) : XR h (f_X8_refused 0 (-2 : Int32) h) (-2) T I X F (kb K) := by
  unfold f_X8_refused
  rw [if_pos s.x.ob]
  exact (X8_bad s (-2)).bd
theorem X8_noR {h : mj_H} {T : Nat → Nat} {I : Nat → Bool × (Nat → Nat)} {X : (Nat → Int32) × Nat} {F : Int64 × Int64} {K : Int32 × Int32 × Int32} (s : XS h T I X F K) : XR h (f_X8_refused 0 (-3 : Int32) h) (-3) T I X F (kn K) := by
  unfold f_X8_refused
  rw [if_pos s.x.ob]
  exact (X8_no s (-3)).bd
theorem X8_fullR {h : mj_H} {T : Nat → Nat} {I : Nat → Bool × (Nat → Nat)} {X : (Nat → Int32) × Nat} {F : Int64 × Int64} {K : Int32 × Int32 × Int32} (s : XS h T I X F K) : XR h (f_X8_refused 0 (-4 : Int32) h) (-4) T I X F (kf K) := by
  unfold f_X8_refused
  rw [if_pos s.x.ob]
  exact (X8_full s (-4)).bd
theorem MS.ref {h : mj_H} {T : Nat → Nat} {I : Nat → Bool × (Nat → Nat)} {X : (Nat → Int32) × Nat} {F : Int64 × Int64} {K K' : Int32 × Int32 × Int32} (s : MS h T I X F K) {r : Nat → Int32} (e : r 0 = K'.1 ∧ r 1 = K'.2.1 ∧ r 2 = K'.2.2) : MS (h.set 58 (cI 3 r)) T I X F K' := by
  have z : ∀ j, j ≠ 58 → (h.set 58 (cI 3 r))[j]? = h[j]? := fun j hj => List.getElem?_set_ne (by omega)
  unfold MS SC at s ⊢
  rw [z 53 (by decide), z 54 (by decide), z 55 (by decide), z 56 (by decide), z 57 (by decide), z 59 (by decide), z 60 (by decide), z 61 (by decide), z 62 (by decide), z 63 (by decide), z 64 (by decide)]
  obtain ⟨s1, s2, s3, s4, s5, s6, ⟨r0, s7, -⟩, s8⟩ := s
  exact ⟨s1, s2, s3, s4, s5, s6, ⟨r, get_self s7, e⟩, s8⟩
theorem MG.refs {h : mj_H} (g : MG h) : mj_gR h 53 9 7 = some 58 := g.2.2.2.2.2.1
theorem M_bump {h : mj_H} {T : Nat → Nat} {I : Nat → Bool × (Nat → Nat)} {X : (Nat → Int32) × Nat} {F : Int64 × Int64} {K : Int32 × Int32 × Int32} (s : MS h T I X F K) : (∃ h', mj_aI h 58 (0 : Int32) = some K.1 ∧ mj_uI h 58 (0 : Int32) (K.1 + 1) = some h' ∧ MS h' T I X F (kb K) ∧ ∀ k, k < 53 → h'[k]? = h[k]?) ∧ (∃ h', mj_aI h 58 (1 : Int32) = some K.2.1 ∧ mj_uI h 58 (1 : Int32) (K.2.1 + 1) = some h' ∧ MS h' T I X F (kn K) ∧ ∀ k, k < 53 → h'[k]? = h[k]?) ∧ ∃ h', mj_aI h 58 (2 : Int32) = some K.2.2 ∧ mj_uI h 58 (2 : Int32) (K.2.2 + 1) = some h' ∧ MS h' T I X F (kf K) ∧ ∀ k, k < 53 → h'[k]? = h[k]? := by
  have ss := s
  obtain ⟨s1, s2, s3, s4, s5, s6, ⟨r, s7, r0, r1, r2⟩, s8⟩ := s
  refine ⟨⟨_, ?_, uI_r (a := 0) _ s7 (by decide) (by decide), ss.ref ?_, fun k hk => List.getElem?_set_ne (by omega)⟩, ⟨_, ?_, uI_r (a := 1) _ s7 (by decide) (by decide), ss.ref ?_, fun k hk => List.getElem?_set_ne (by omega)⟩, ⟨_, ?_, uI_r (a := 2) _ s7 (by decide) (by decide), ss.ref ?_, fun k hk => List.getElem?_set_ne (by omega)⟩⟩
  · rw [← r0]; exact aI_r (a := 0) s7 (by decide) (by decide)
  · simp [upd, kb, r1, r2]
  · rw [← r1]; exact aI_r (a := 1) s7 (by decide) (by decide)
  · simp [upd, kn, r0, r2]
  · rw [← r2]; exact aI_r (a := 2) s7 (by decide) (by decide)
  · simp [upd, kf, r0, r1]
theorem X9_bad_s {h : mj_H} {T : Nat → Nat} {I : Nat → Bool × (Nat → Nat)} {X : (Nat → Int32) × Nat} {F : Int64 × Int64} {K : Int32 × Int32 × Int32} (s : MS h T I X F K) (a : Int32) : MR h (f_X9_bad 53 a h) a T I X F (kb K) := by
  obtain ⟨⟨h', e1, e2, e3, e4⟩, -⟩ := M_bump s
  exact ⟨h', by simp only [f_X9_bad, s.g.refs, Option.bind_some, e1, e2], e3, e4⟩
theorem X9_no_s {h : mj_H} {T : Nat → Nat} {I : Nat → Bool × (Nat → Nat)} {X : (Nat → Int32) × Nat} {F : Int64 × Int64} {K : Int32 × Int32 × Int32} (s : MS h T I X F K) (a : Int32) : MR h (f_X9_no 53 a h) a T I X F (kn K) := by
  obtain ⟨-, ⟨h', e1, e2, e3, e4⟩, -⟩ := M_bump s
  exact ⟨h', by simp only [f_X9_no, s.g.refs, Option.bind_some, e1, e2], e3, e4⟩
theorem X9_tell_b {h : mj_H} {T : Nat → Nat} {I : Nat → Bool × (Nat → Nat)} {X : (Nat → Int32) × Nat} {F : Int64 × Int64} {K : Int32 × Int32 × Int32} (s : MS h T I X F K) : MR h (f_X9_tell 53 (-2) h) (-2) T I X F (kb K) := by
  obtain ⟨⟨h', e1, e2, e3, e4⟩, -⟩ := M_bump s
  exact ⟨h', by simp only [f_X9_tell, if_true, f_X9_tell_12, s.g.refs, Option.bind_some, e1, e2], e3, e4⟩
theorem X9_tell_n {h : mj_H} {T : Nat → Nat} {I : Nat → Bool × (Nat → Nat)} {X : (Nat → Int32) × Nat} {F : Int64 × Int64} {K : Int32 × Int32 × Int32} (s : MS h T I X F K) : MR h (f_X9_tell 53 (-3) h) (-3) T I X F (kn K) := by
  obtain ⟨-, ⟨h', e1, e2, e3, e4⟩, -⟩ := M_bump s
  have c1 : ¬ (-3 : Int32) = -2 := by decide
  have c2 : ¬ (-3 : Int32) = -10 := by decide
  exact ⟨h', by simp only [f_X9_tell, c1, c2, if_false, if_true, f_X9_tell_37, f_X9_tell_52, s.g.refs, Option.bind_some, e1, e2], e3, e4⟩
theorem X9_tell_f {h : mj_H} {T : Nat → Nat} {I : Nat → Bool × (Nat → Nat)} {X : (Nat → Int32) × Nat} {F : Int64 × Int64} {K : Int32 × Int32 × Int32} (s : MS h T I X F K) : MR h (f_X9_tell 53 (-4) h) (-4) T I X F (kf K) := by
  obtain ⟨-, -, h', e1, e2, e3, e4⟩ := M_bump s
  have c1 : ¬ (-4 : Int32) = -2 := by decide
  have c2 : ¬ (-4 : Int32) = -10 := by decide
  have c3 : ¬ (-4 : Int32) = -3 := by decide
  exact ⟨h', by simp only [f_X9_tell, c1, c2, c3, if_false, if_true, f_X9_tell_37, f_X9_tell_52, s.g.refs, Option.bind_some, e1, e2], e3, e4⟩
theorem X9_tell_ok {h : mj_H} {a : Int32} (ha : ¬ a < 0) : f_X9_tell 53 a h = some (a, h) := by
  have c1 : ¬ a = -2 := fun z => ha (by rw [z]; decide)
  have c2 : ¬ a = -10 := fun z => ha (by rw [z]; decide)
  have c3 : ¬ a = -3 := fun z => ha (by rw [z]; decide)
  have c4 : ¬ a = -4 := fun z => ha (by rw [z]; decide)
  simp only [f_X9_tell, c1, c2, c3, c4, if_false]
/-! ranges -/
theorem one0 : ¬ (1 : Int32) = 0 := by decide
theorem rg0 {x : Int32} {n : Nat} (hn : n < 2 ^ 30) (h : ¬ mj_ok x (n + 1) = true) (h0 : ¬ x < 0) : ¬ x ≤ nI n := fun z => h ((ok_le hn).mpr ⟨h0, z⟩)
theorem rg1 {α : Type} {x : Int32} {n : Nat} (hn : n < 2 ^ 30) (A B : α) : (if x < 0 then A else if nI n < x then A else B) = if mj_ok x (n + 1) = true then B else A := by
  by_cases h : mj_ok x (n + 1) = true
  · obtain ⟨h1, h2⟩ := (ok_le hn).mp h
    rw [if_neg h1, if_neg (Int32.not_lt.mpr h2), if_pos h]
  · rw [if_neg h]
    by_cases h0 : x < 0
    · rw [if_pos h0]
    · rw [if_neg h0, if_pos (Int32.not_le.mp (rg0 hn h h0))]
theorem rg2 {α : Type} {x : Int32} {n : Nat} (hn : n < 2 ^ 30) (A B : α) : (if x < 0 then A else if x ≤ nI n then B else A) = if mj_ok x (n + 1) = true then B else A := by
  by_cases h : mj_ok x (n + 1) = true
  · obtain ⟨h1, h2⟩ := (ok_le hn).mp h
    rw [if_neg h1, if_pos h2, if_pos h]
  · rw [if_neg h]
    by_cases h0 : x < 0
    · rw [if_pos h0]
    · rw [if_neg h0, if_neg (rg0 hn h h0)]
theorem rg3 {α : Type} {x : Int32} {n : Nat} (hn : n < 2 ^ 31) (A B : α) : (if x < 0 then A else if nI n ≤ x then A else B) = if mj_ok x n = true then B else A := by
  by_cases h : mj_ok x n = true
  · obtain ⟨h1, h2⟩ := (ok_iff hn).mp h
    rw [if_neg h1, if_neg h2, if_pos h]
  · rw [if_neg h]
    by_cases h0 : x < 0
    · rw [if_pos h0]
    · rw [if_neg h0]
      by_cases h1 : nI n ≤ x
      · rw [if_pos h1]
      · exact absurd ((ok_iff hn).mpr ⟨h0, h1⟩) h
theorem rg4 {α : Type} {x : Int32} {n : Nat} (hn : n < 2 ^ 31) (A B : α) : (if x < 0 then A else if x < nI n then B else A) = if mj_ok x n = true then B else A := by
  rw [← rg3 hn A B]
  split
  · rfl
  · by_cases h1 : nI n ≤ x
    · rw [if_pos h1, if_neg (Int32.not_lt.mpr h1)]
    · rw [if_neg h1, if_pos (Int32.not_le.mp h1)]
theorem X8_isTest_s (x : Int32) (h : mj_H) : f_X8_isTest x h = some (bi (mj_ok x 3), h) := by
  have := rg3 (x := x) (n := 3) (by decide) (some ((0 : Int32), h)) (some ((1 : Int32), h))
  refine this.trans ?_
  cases mj_ok x 3 <;> rfl
theorem X8_isNeed_s (x : Int32) (h : mj_H) : f_X8_isNeed x h = some (bi (mj_ok x 7), h) := by
  have := rg1 (x := x) (n := 6) (by decide) (some ((0 : Int32), h)) (some ((1 : Int32), h))
  refine this.trans ?_
  cases mj_ok x 7 <;> rfl
theorem X8_isWeighed_s (x : Int32) (h : mj_H) : f_X8_isWeighed x h = some (bi (mj_ok x 4), h) := by
  have := rg1 (x := x) (n := 3) (by decide) (some ((0 : Int32), h)) (some ((1 : Int32), h))
  refine this.trans ?_
  cases mj_ok x 4 <;> rfl
theorem X9_inL (x : Int32) (h : mj_H) : f_X9_in x.toInt64 0 (99 : Int64) h = some (bi (mj_ok x 100), h) ∧ f_X9_in x.toInt64 0 (31 : Int64) h = some (bi (mj_ok x 32), h) ∧ f_X9_in x.toInt64 0 (127 : Int64) h = some (bi (mj_ok x 128), h) ∧ f_X9_in x.toInt64 0 (9 : Int64) h = some (bi (mj_ok x 10), h) ∧ f_X9_in x.toInt64 0 (5 : Int64) h = some (bi (mj_ok x 6), h) ∧ f_X9_in x.toInt64 0 (3 : Int64) h = some (bi (mj_ok x 4), h) ∧ f_X9_in x.toInt64 0 (6 : Int64) h = some (bi (mj_ok x 7), h) ∧ f_X9_in x.toInt64 0 (60 : Int64) h = some (bi (mj_ok x 61), h) ∧ f_X9_in x.toInt64 0 (120 : Int64) h = some (bi (mj_ok x 121), h) ∧ f_X9_in x.toInt64 0 (30 : Int64) h = some (bi (mj_ok x 31), h) ∧ f_X9_in x.toInt64 0 (999999 : Int64) h = some (bi (mj_ok x 1000000), h) ∧ f_X9_in x.toInt64 0 (2 : Int64) h = some (bi (mj_ok x 3), h) :=
  ⟨X9_in_s x (n := 99) (by decide) h, X9_in_s x (n := 31) (by decide) h, X9_in_s x (n := 127) (by decide) h, X9_in_s x (n := 9) (by decide) h, X9_in_s x (n := 5) (by decide) h, X9_in_s x (n := 3) (by decide) h, X9_in_s x (n := 6) (by decide) h, X9_in_s x (n := 60) (by decide) h, X9_in_s x (n := 120) (by decide) h, X9_in_s x (n := 30) (by decide) h, X9_in_s x (n := 999999) (by decide) h, X9_in_s x (n := 2) (by decide) h⟩
