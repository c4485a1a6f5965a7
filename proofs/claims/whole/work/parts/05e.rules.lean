/-! rules: what is made -/
def mj_dflt (c : String × u_T × Nat) (ty : Nat → FieldType) (fs : List Value) : Prop := fs.length = c.2.2 ∧ ∀ j, j < c.2.2 → defaultValue (ty j) = vp_V fs j
def mj_NW (own : String) (idx ci N : Nat) (fs : List Value) : Prop := ∃ (C : String) (T : u_T) (ty0 : Nat → FieldType), vwCl[ci]? = some (C, T, N) ∧ (∀ w ∈ u_ws C T N, w ∈ mj_G) ∧ (∀ k, k < N → parseFieldDescriptor (T k).2.2.1 = some (ty0 k)) ∧ Jvm.Cond.classLink own idx C ∈ mj_G ∧ Jvm.Cond.instantiable C N ∈ mj_G ∧ Jvm.Cond.initialized C ∈ mj_G ∧ (∀ j, j < N → defaultValue (ty0 j) = vp_V fs j)
def mj_0 (v : Value) : Prop := match v with
  | .ref _ => False
  | _ => True
theorem mj_0_map {fs : List Value} (h : ∀ v ∈ fs, mj_0 v) (ad : Nat → Nat) : fs.map (mj_v ad) = fs := by
  conv => rhs; rw [← List.map_id fs]
  exact List.map_congr_left fun v hv => by
    have := h v hv
    cases v <;> first | rfl | exact this.elim
theorem mj_0_c {fs : List Value} (h : ∀ v ∈ fs, mj_0 v) (n : Nat) : ∀ v ∈ fs, mj_cv n v := fun v hv => by
  have := h v hv
  cases v <;> first | trivial | exact this.elim
theorem mj_push_I {dC : Nat → ClassId} {dI : Nat → Nat → Nat} {cy : Nat → ClassId} {A : Nat → Prop} {s : State} {ad : Nat → Nat} {h : mj_H} {H1 : Heap} {locs : List Loc} {q : Nat} {c : mj_C} (hK : va_K (dC, dI) vwCl (mj_ty cy) s) (hA : ∀ q, s.heap.size ≤ q → A q) (hR : mj_R ad A s s.heap) (hch : mj_ch h) (hl : h.length < 1000) (hc : mj_cc h.length c) (hP : va_P (dC, dI) vwCl (mj_w cy ad h ++ [(q, mj_c cy ad c)]) H1) (hD : va_D A (mj_w cy ad h ++ [(q, mj_c cy ad c)])) (hS : va_S A s.heap H1 locs) : mj_I dC dI cy A s (va_up ad h.length q) (h ++ [c]) H1 locs ∧ mj_ag h.length ad (va_up ad h.length q) := by
  obtain ⟨e1, e2⟩ := mj_w_push cy (ad := ad) q hch hl hc
  exact ⟨⟨hK, hA, hR.ag e2, e1 ▸ hP, e1 ▸ hD, hS, mj_ch_push hch hl hc⟩, e2⟩
theorem mj_new {M : mj_M} {Fin : mj_F} {pc : Nat} {l : List (Nat × Value)} {st : List Value} {h : mj_H} {k n : Nat} {idx ci N : Nat} {fs : List Value} (a : Nat) (ha : M.2.2.2.2.2[a]? = some (pc, .new idx, 3)) (hf : mj_NW M.1.cls idx ci N fs) (h0 : ∀ v ∈ fs, mj_0 v) (hl0 : h.length < 1000) (hk : k + 1 ≤ M.2.2.2.2.1.cells) (hn0 : n + N ≤ M.2.2.2.2.1.slots) (kk : mj_W M Fin (pc + 3) l (.ref h.length :: st) (h ++ [.inr (ci, fs)]) (k + 1) (n + N)) : mj_W M Fin pc l st h k n := by
  intro p lc e s m args below meth c H locs ls A Q dC dI cy ad ad0 n0 CX I hl hcl hcs hag hn hzz hret
  have CX' := CX
  have I' := I
  obtain ⟨hx, hb, hml, hr, hown, hts, hlk, hnm, hN, hT⟩ := CX
  obtain ⟨hK, hA, hR, hP, hD, hS, hch⟩ := I
  obtain ⟨C, T, ty0, f1, f2, f3, f4, f5, f6, f7⟩ := hf
  refine va_new hx hb hts f2 ty0 f3 hown (hts _ f4) (hts _ f5) (hts _ f6) hK hP hD hS hA f1 f7 hk hn0 (mj_dec hT ha) (fun q H1 hP1 hD1 hS1 => ?_)
  have ec : (Sum.inr (ci, fs) : va_E) = mj_c cy ad (.inr (ci, fs)) := by simp only [mj_c]; rw [mj_0_map h0]
  rw [ec] at hP1 hD1
  obtain ⟨I2, e2⟩ := mj_push_I (c := .inr (ci, fs)) hK hA hR hch hl0 (show mj_cc h.length (.inr (ci, fs)) from mj_0_c h0 h.length) hP1 hD1 hS1
  have HCS : ∀ v ∈ Value.ref h.length :: st, mj_cv (h ++ ([.inr (ci, fs)] : mj_H)).length v := mj_cs (Or.inl (by simp)) (fun w hw => mj_cv_mono (by simp) (hcs w hw))
  have key := kk p lc e s m args below meth c H1 locs ls A Q dC dI cy (va_up ad h.length q) ad0 n0 CX' I2 (by rw [mj_l_ag e2 hcl]; exact hl) (fun w hw => mj_cv_mono (by simp) (hcl w hw)) HCS (hag.tr e2 hn) (by simp; omega) hzz hret
  have est : (Value.ref h.length :: st).map (mj_v (va_up ad h.length q)) = Value.ref q :: st.map (mj_v ad) := by
    rw [List.map_cons, mj_s_ag e2 hcs]
    simp [mj_v, va_up_self]
  rw [est] at key
  exact key
theorem mj_newI {M : mj_M} {Fin : mj_F} {pc : Nat} {l : List (Nat × Value)} {st : List Value} {h : mj_H} {k n : Nat} {z : Int32} (N : Nat) (a : Nat) (ha : M.2.2.2.2.2[a]? = some (pc, .newarray .int, 2)) (hz : z = Int32.ofNat N) (hN : N < 65536) (hw : Jvm.Cond.arrayClass .int ∈ mj_G) (hl0 : h.length < 1000) (hk : k + 1 ≤ M.2.2.2.2.1.cells) (hn0 : n + N ≤ M.2.2.2.2.1.slots) (kk : mj_W M Fin (pc + 2) l (.ref h.length :: st) (h ++ [.inl (0, N, .inl (fun _ => (0 : Int32)))]) (k + 1) (n + N)) : mj_W M Fin pc l (.int z :: st) h k n := by
  intro p lc e s m args below meth c H locs ls A Q dC dI cy ad ad0 n0 CX I hl hcl hcs hag hn hzz hret
  have CX' := CX
  have I' := I
  obtain ⟨hx, hb, hml, hr, hown, hts, hlk, hnm, hN, hT⟩ := CX
  obtain ⟨hK, hA, hR, hP, hD, hS, hch⟩ := I
  subst hz
  have hz0 : ¬ Int32.ofNat N < 0 := nI_pos (n := N) (by omega)
  have hz1 : (Int32.ofNat N).toNatClampNeg = N := nI_clamp (n := N) (by omega)
  refine va_newa (atype := .int) (ty := .int) (a0 := (N, .inl (fun _ => (0 : Int32)))) hx hb (hts _ hw) rfl hK hP hD hS hA (fun _ => rfl) hz0 hz1 (by simp only [componentBytes]; omega) hk hn0 (mj_dec hT ha) (fun q cA H1 hK1 hP1 hD1 hS1 => ?_)
  have hca : cA = cy 0 := by
    have g1 := va_nm_int (hK1.2 3 _ rfl).2
    have g2 := va_nm_int (hK.2 0 _ rfl).2
    rw [g1] at g2
    exact Option.some.inj g2
  subst hca
  obtain ⟨I2, e2⟩ := mj_push_I (c := .inl (0, N, .inl (fun _ => (0 : Int32)))) hK hA hR hch hl0 trivial hP1 hD1 hS1
  have HCS : ∀ v ∈ Value.ref h.length :: st, mj_cv (h ++ ([.inl (0, N, .inl (fun _ => (0 : Int32)))] : mj_H)).length v := mj_cs (Or.inl (by simp)) (fun w hw => mj_cv_mono (by simp) (mj_tl hcs w hw))
  have key := kk p lc e s m args below meth c H1 locs ls A Q dC dI cy (va_up ad h.length q) ad0 n0 CX' I2 (by rw [mj_l_ag e2 hcl]; exact hl) (fun w hw => mj_cv_mono (by simp) (hcl w hw)) HCS (hag.tr e2 hn) (by simp; omega) hzz hret
  have est : (Value.ref h.length :: st).map (mj_v (va_up ad h.length q)) = Value.ref q :: st.map (mj_v ad) := by
    rw [List.map_cons, mj_s_ag e2 (mj_tl hcs)]
    simp [mj_v, va_up_self]
  rw [est] at key
  exact key
theorem mj_newJ {M : mj_M} {Fin : mj_F} {pc : Nat} {l : List (Nat × Value)} {st : List Value} {h : mj_H} {k n : Nat} {z : Int32} (N : Nat) (a : Nat) (ha : M.2.2.2.2.2[a]? = some (pc, .newarray .long, 2)) (hz : z = Int32.ofNat N) (hN : N < 65536) (hw : Jvm.Cond.arrayClass .long ∈ mj_G) (hl0 : h.length < 1000) (hk : k + 1 ≤ M.2.2.2.2.1.cells) (hn0 : n + N ≤ M.2.2.2.2.1.slots) (kk : mj_W M Fin (pc + 2) l (.ref h.length :: st) (h ++ [.inl (1, N, .inr (.inl (fun _ => (0 : Int64))))]) (k + 1) (n + N)) : mj_W M Fin pc l (.int z :: st) h k n := by
  intro p lc e s m args below meth c H locs ls A Q dC dI cy ad ad0 n0 CX I hl hcl hcs hag hn hzz hret
  have CX' := CX
  have I' := I
  obtain ⟨hx, hb, hml, hr, hown, hts, hlk, hnm, hN, hT⟩ := CX
  obtain ⟨hK, hA, hR, hP, hD, hS, hch⟩ := I
  subst hz
  have hz0 : ¬ Int32.ofNat N < 0 := nI_pos (n := N) (by omega)
  have hz1 : (Int32.ofNat N).toNatClampNeg = N := nI_clamp (n := N) (by omega)
  refine va_newa (atype := .long) (ty := .long) (a0 := (N, .inr (.inl (fun _ => (0 : Int64))))) hx hb (hts _ hw) rfl hK hP hD hS hA (fun _ => rfl) hz0 hz1 (by simp only [componentBytes]; omega) hk hn0 (mj_dec hT ha) (fun q cA H1 hK1 hP1 hD1 hS1 => ?_)
  have hca : cA = cy 1 := by
    have g1 := va_nm_long (hK1.2 3 _ rfl).2
    have g2 := va_nm_long (hK.2 1 _ rfl).2
    rw [g1] at g2
    exact Option.some.inj g2
  subst hca
  obtain ⟨I2, e2⟩ := mj_push_I (c := .inl (1, N, .inr (.inl (fun _ => (0 : Int64))))) hK hA hR hch hl0 trivial hP1 hD1 hS1
  have HCS : ∀ v ∈ Value.ref h.length :: st, mj_cv (h ++ ([.inl (1, N, .inr (.inl (fun _ => (0 : Int64))))] : mj_H)).length v := mj_cs (Or.inl (by simp)) (fun w hw => mj_cv_mono (by simp) (mj_tl hcs w hw))
  have key := kk p lc e s m args below meth c H1 locs ls A Q dC dI cy (va_up ad h.length q) ad0 n0 CX' I2 (by rw [mj_l_ag e2 hcl]; exact hl) (fun w hw => mj_cv_mono (by simp) (hcl w hw)) HCS (hag.tr e2 hn) (by simp; omega) hzz hret
  have est : (Value.ref h.length :: st).map (mj_v (va_up ad h.length q)) = Value.ref q :: st.map (mj_v ad) := by
    rw [List.map_cons, mj_s_ag e2 (mj_tl hcs)]
    simp [mj_v, va_up_self]
  rw [est] at key
  exact key
theorem mj_newZ {M : mj_M} {Fin : mj_F} {pc : Nat} {l : List (Nat × Value)} {st : List Value} {h : mj_H} {k n : Nat} {z : Int32} (N : Nat) (a : Nat) (ha : M.2.2.2.2.2[a]? = some (pc, .newarray .boolean, 2)) (hz : z = Int32.ofNat N) (hN : N < 65536) (hw : Jvm.Cond.arrayClass .boolean ∈ mj_G) (hl0 : h.length < 1000) (hk : k + 1 ≤ M.2.2.2.2.1.cells) (hn0 : n + N ≤ M.2.2.2.2.1.slots) (kk : mj_W M Fin (pc + 2) l (.ref h.length :: st) (h ++ [.inl (2, N, .inl (fun _ => (0 : Int32)))]) (k + 1) (n + N)) : mj_W M Fin pc l (.int z :: st) h k n := by
  intro p lc e s m args below meth c H locs ls A Q dC dI cy ad ad0 n0 CX I hl hcl hcs hag hn hzz hret
  have CX' := CX
  have I' := I
  obtain ⟨hx, hb, hml, hr, hown, hts, hlk, hnm, hN, hT⟩ := CX
  obtain ⟨hK, hA, hR, hP, hD, hS, hch⟩ := I
  subst hz
  have hz0 : ¬ Int32.ofNat N < 0 := nI_pos (n := N) (by omega)
  have hz1 : (Int32.ofNat N).toNatClampNeg = N := nI_clamp (n := N) (by omega)
  refine va_newa (atype := .boolean) (ty := .boolean) (a0 := (N, .inl (fun _ => (0 : Int32)))) hx hb (hts _ hw) rfl hK hP hD hS hA (fun _ => rfl) hz0 hz1 (by simp only [componentBytes]; omega) hk hn0 (mj_dec hT ha) (fun q cA H1 hK1 hP1 hD1 hS1 => ?_)
  have hca : cA = cy 2 := by
    have g1 := va_nm_boolean (hK1.2 3 _ rfl).2
    have g2 := va_nm_boolean (hK.2 2 _ rfl).2
    rw [g1] at g2
    exact Option.some.inj g2
  subst hca
  obtain ⟨I2, e2⟩ := mj_push_I (c := .inl (2, N, .inl (fun _ => (0 : Int32)))) hK hA hR hch hl0 trivial hP1 hD1 hS1
  have HCS : ∀ v ∈ Value.ref h.length :: st, mj_cv (h ++ ([.inl (2, N, .inl (fun _ => (0 : Int32)))] : mj_H)).length v := mj_cs (Or.inl (by simp)) (fun w hw => mj_cv_mono (by simp) (mj_tl hcs w hw))
  have key := kk p lc e s m args below meth c H1 locs ls A Q dC dI cy (va_up ad h.length q) ad0 n0 CX' I2 (by rw [mj_l_ag e2 hcl]; exact hl) (fun w hw => mj_cv_mono (by simp) (hcl w hw)) HCS (hag.tr e2 hn) (by simp; omega) hzz hret
  have est : (Value.ref h.length :: st).map (mj_v (va_up ad h.length q)) = Value.ref q :: st.map (mj_v ad) := by
    rw [List.map_cons, mj_s_ag e2 (mj_tl hcs)]
    simp [mj_v, va_up_self]
  rw [est] at key
  exact key
