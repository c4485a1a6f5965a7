/-! helpers of the decompiled functions -/
theorem mj_bd {α β : Type} {x : Option α} {f : α → Option β} {b : β} (h : x.bind f = some b) : ∃ a, x = some a ∧ f a = some b := Option.bind_eq_some_iff.mp h
theorem mj_gd {α : Type} {c : Bool} {a : Option α} {x : α} (h : (if c = true then a else none) = some x) : c = true ∧ a = some x := by
  by_cases hc : c = true
  · rw [if_pos hc] at h; exact ⟨hc, h⟩
  · rw [if_neg hc] at h; cases h
theorem mj_gp {α : Type} {c : Prop} [Decidable c] {a : Option α} {x : α} (h : (if c then a else none) = some x) : c ∧ a = some x := by
  by_cases hc : c
  · rw [if_pos hc] at h; exact ⟨hc, h⟩
  · rw [if_neg hc] at h; cases h
theorem mj_g0 {α : Type} {c : Prop} [Decidable c] {a : Option α} {x : α} (h : (if c then none else a) = some x) : ¬ c ∧ a = some x := by
  by_cases hc : c
  · rw [if_pos hc] at h; cases h
  · rw [if_neg hc] at h; exact ⟨hc, h⟩
def mj_fix {S R : Type} (F : (S → Option R) → S → Option R) : Nat → S → Option R
  | 0, _ => none
  | n + 1, s => F (mj_fix F n) s
theorem mj_fix_ind {S R : Type} {F : (S → Option R) → S → Option R} {P : S → R → Prop} (hs : ∀ K : S → Option R, (∀ s r, K s = some r → P s r) → ∀ s r, F K s = some r → P s r) : ∀ (n : Nat) (s : S) (r : R), mj_fix F n s = some r → P s r
  | 0, _, _, h => by cases h
  | n + 1, s, r, h => hs (mj_fix F n) (mj_fix_ind hs n) s r h
def mj_FI (p : Int32 × mj_H) : mj_F := (fun a b => a = some (.int p.1) ∧ b = p.2, fun _ _ _ => True)
def mj_FJ (p : Int64 × mj_H) : mj_F := (fun a b => a = some (.long p.1) ∧ b = p.2, fun _ _ _ => True)
def mj_FR (p : Nat × mj_H) : mj_F := (fun a b => a = some (.ref p.1) ∧ b = p.2, fun _ _ _ => True)
def mj_FV (p : mj_H) : mj_F := (fun a b => a = none ∧ b = p, fun _ _ _ => True)
theorem mj_bool {x : Int32} (h : x = 0 ∨ x = 1) : narrow .boolean (.int x) = .int x := by
  rcases h with rfl | rfl <;> rfl
def mj_mk (h : mj_H) (c : mj_C) : Option (Nat × mj_H) := if h.length < 1000 then some (h.length, h ++ [c]) else none
theorem mj_mk_at {h : mj_H} {c : mj_C} {p : Nat × mj_H} (e : mj_mk h c = some p) : h.length < 1000 ∧ p = (h.length, h ++ [c]) := by
  unfold mj_mk at e
  split at e
  next hl => cases e; exact ⟨hl, rfl⟩
  next => cases e
theorem mj_newP {M : mj_M} {Fin : mj_F} {pc : Nat} {l : List (Nat × Value)} {st : List Value} {h : mj_H} {k n : Nat} {idx ci N : Nat} {fs : List Value} {p : Nat × mj_H} (a : Nat) (ha : M.2.2.2.2.2[a]? = some (pc, .new idx, 3)) (hf : mj_NW M.1.cls idx ci N fs) (h0 : ∀ v ∈ fs, mj_0 v) (e : mj_mk h (.inr (ci, fs)) = some p) (hk : k + 1 ≤ M.2.2.2.2.1.cells) (hn0 : n + N ≤ M.2.2.2.2.1.slots) (kk : mj_W M Fin (pc + 3) l (.ref p.1 :: st) p.2 (k + 1) (n + N)) : mj_W M Fin pc l st h k n := by
  obtain ⟨hl, rfl⟩ := mj_mk_at e
  exact mj_new a ha hf h0 hl hk hn0 kk
theorem mj_newIP {M : mj_M} {Fin : mj_F} {pc : Nat} {l : List (Nat × Value)} {st : List Value} {h : mj_H} {k n : Nat} {z : Int32} {p : Nat × mj_H} (N : Nat) (a : Nat) (ha : M.2.2.2.2.2[a]? = some (pc, .newarray .int, 2)) (hz : z = Int32.ofNat N) (hN : N < 65536) (hw : Jvm.Cond.arrayClass .int ∈ mj_G) (e : mj_mk h (.inl (0, N, .inl (fun _ => (0 : Int32)))) = some p) (hk : k + 1 ≤ M.2.2.2.2.1.cells) (hn0 : n + N ≤ M.2.2.2.2.1.slots) (kk : mj_W M Fin (pc + 2) l (.ref p.1 :: st) p.2 (k + 1) (n + N)) : mj_W M Fin pc l (.int z :: st) h k n := by
  obtain ⟨hl, rfl⟩ := mj_mk_at e
  exact mj_newI N a ha hz hN hw hl hk hn0 kk
theorem mj_newJP {M : mj_M} {Fin : mj_F} {pc : Nat} {l : List (Nat × Value)} {st : List Value} {h : mj_H} {k n : Nat} {z : Int32} {p : Nat × mj_H} (N : Nat) (a : Nat) (ha : M.2.2.2.2.2[a]? = some (pc, .newarray .long, 2)) (hz : z = Int32.ofNat N) (hN : N < 65536) (hw : Jvm.Cond.arrayClass .long ∈ mj_G) (e : mj_mk h (.inl (1, N, .inr (.inl (fun _ => (0 : Int64))))) = some p) (hk : k + 1 ≤ M.2.2.2.2.1.cells) (hn0 : n + N ≤ M.2.2.2.2.1.slots) (kk : mj_W M Fin (pc + 2) l (.ref p.1 :: st) p.2 (k + 1) (n + N)) : mj_W M Fin pc l (.int z :: st) h k n := by
  obtain ⟨hl, rfl⟩ := mj_mk_at e
  exact mj_newJ N a ha hz hN hw hl hk hn0 kk
theorem mj_newZP {M : mj_M} {Fin : mj_F} {pc : Nat} {l : List (Nat × Value)} {st : List Value} {h : mj_H} {k n : Nat} {z : Int32} {p : Nat × mj_H} (N : Nat) (a : Nat) (ha : M.2.2.2.2.2[a]? = some (pc, .newarray .boolean, 2)) (hz : z = Int32.ofNat N) (hN : N < 65536) (hw : Jvm.Cond.arrayClass .boolean ∈ mj_G) (e : mj_mk h (.inl (2, N, .inl (fun _ => (0 : Int32)))) = some p) (hk : k + 1 ≤ M.2.2.2.2.1.cells) (hn0 : n + N ≤ M.2.2.2.2.1.slots) (kk : mj_W M Fin (pc + 2) l (.ref p.1 :: st) p.2 (k + 1) (n + N)) : mj_W M Fin pc l (.int z :: st) h k n := by
  obtain ⟨hl, rfl⟩ := mj_mk_at e
  exact mj_newZ N a ha hz hN hw hl hk hn0 kk
/-- fewer locals, in any order -/
theorem mj_locs {M : mj_M} {Fin : mj_F} {pc : Nat} {l l' : List (Nat × Value)} {st : List Value} {h : mj_H} {k n : Nat} (ks : List Nat) (e : lv_pick l ks = l') (kk : mj_W M Fin pc l' st h k n) : mj_W M Fin pc l st h k n := by
  intro p lc e0 s m args below meth c H locs ls A Q dC dI cy ad ad0 n0 CX I hl hcl hcs hag hn hzz hret
  have hm : ∀ q ∈ l', q ∈ l := by
    intro q hq
    rw [← e] at hq
    obtain ⟨i, -, hi⟩ := List.mem_filterMap.mp hq
    exact List.mem_of_getElem? hi
  refine kk p lc e0 s m args below meth c H locs ls A Q dC dI cy ad ad0 n0 CX I ⟨hl.1, hl.2.1, fun q hq => ?_⟩ (fun q hq => hcl q (hm q hq)) hcs hag hn hzz hret
  obtain ⟨q0, h1, rfl⟩ := List.mem_map.mp hq
  exact hl.2.2 _ (List.mem_map.mpr ⟨q0, hm q0 h1, rfl⟩)
/-! System.arraycopy -/
def mj_cok (sp dp n : Int32) (n0 n1 : Nat) : Bool := decide (0 ≤ sp.toInt) && decide (0 ≤ dp.toInt) && decide (0 ≤ n.toInt) && decide (sp.toInt + n.toInt ≤ n0) && decide (dp.toInt + n.toInt ≤ n1)
def mj_cpI (h : mj_H) (b0 : Nat) (sp : Int32) (b1 : Nat) (dp n : Int32) : Option mj_H := match h[b0]? with
  | some (.inl (0, n0, .inl f)) => (match h[b1]? with
    | some (.inl (0, n1, .inl g)) => if mj_cok sp dp n n0 n1 then some (h.set b1 (.inl (0, n1, .inl (va_cpy f g sp.toNatClampNeg dp.toNatClampNeg n.toNatClampNeg)))) else none
    | _ => none)
  | _ => none
def mj_cpJ (h : mj_H) (b0 : Nat) (sp : Int32) (b1 : Nat) (dp n : Int32) : Option mj_H := match h[b0]? with
  | some (.inl (1, n0, .inr (.inl f))) => (match h[b1]? with
    | some (.inl (1, n1, .inr (.inl g))) => if mj_cok sp dp n n0 n1 then some (h.set b1 (.inl (1, n1, .inr (.inl (va_cpy f g sp.toNatClampNeg dp.toNatClampNeg n.toNatClampNeg))))) else none
    | _ => none)
  | _ => none
theorem mj_cok_of {sp dp n : Int32} {n0 n1 : Nat} (h : mj_cok sp dp n n0 n1 = true) : ¬ sp < 0 ∧ ¬ dp < 0 ∧ ¬ n < 0 ∧ sp.toNatClampNeg + n.toNatClampNeg ≤ n0 ∧ dp.toNatClampNeg + n.toNatClampNeg ≤ n1 := by
  simp only [mj_cok, Bool.and_eq_true, decide_eq_true_eq] at h
  obtain ⟨⟨⟨⟨h1, h2⟩, h3⟩, h4⟩, h5⟩ := h
  have e : ∀ z : Int32, z.toNatClampNeg = z.toInt.toNat := fun _ => rfl
  have lt0 : ∀ z : Int32, 0 ≤ z.toInt → ¬ z < 0 := fun z hz q => by
    have := Int32.lt_iff_toInt_lt.mp q
    rw [Int32.toInt_zero] at this
    omega
  refine ⟨lt0 _ h1, lt0 _ h2, lt0 _ h3, ?_, ?_⟩ <;> rw [e, e] <;> omega
def mj_cpW (own : String) (idx : Nat) : Prop := Jvm.Cond.methodLink own idx arraycopyName ∈ mj_G ∧ Jvm.Cond.native arraycopyName ∈ mj_G ∧ Jvm.Cond.static arraycopyName ∈ mj_G ∧ Jvm.Cond.initialized "java/lang/System" ∈ mj_G
theorem mj_cpI_W {M : mj_M} {Fin : mj_F} {pc : Nat} {l : List (Nat × Value)} {st : List Value} {h h' : mj_H} {k n : Nat} {idx b0 b1 : Nat} {sp dp nn : Int32} (a : Nat) (ha : M.2.2.2.2.2[a]? = some (pc, .invokestatic idx, 3)) (hw : mj_cpW M.1.cls idx) (hm : 1 ≤ M.2.2.2.2.1.frames ∧ (st.map fun v => v.category).sum + (nativeFrameWords "java/lang/System" "arraycopy" 5 + 11) ≤ M.2.2.2.2.1.locals) (hv : mj_cpI h b0 sp b1 dp nn = some h') (kk : mj_W M Fin (pc + 3) l st h' k n) : mj_W M Fin pc l (.int nn :: .int dp :: .ref b1 :: .int sp :: .ref b0 :: st) h k n := by
  intro p lc e s m args below meth c H locs ls A Q dC dI cy ad ad0 n0 CX I hl hcl hcs hag hn hzz hret
  have CX' := CX
  obtain ⟨hx, hb, hml, hr, hown, hts, hlk, hnm, hN, hT⟩ := CX
  obtain ⟨hK, hA, hR, hP, hD, hS, hch⟩ := I
  obtain ⟨w1, w2, w3, w4⟩ := hw
  unfold mj_cpI at hv
  split at hv
  next nn0 f hq0 =>
    split at hv
    next nn1 g hq1 =>
      split at hv
      next hok =>
        cases hv
        obtain ⟨z1, z2, z3, z4, z5⟩ := mj_cok_of hok
        have hch' := mj_ch_set hch b1 (c := .inl (0, nn1, .inl (va_cpy f g sp.toNatClampNeg dp.toNatClampNeg nn.toNatClampNeg))) trivial
        have hlen : (h.set b1 (.inl (0, nn1, .inl (va_cpy f g sp.toNatClampNeg dp.toNatClampNeg nn.toNatClampNeg)))).length = h.length := List.length_set
        have hset := mj_w_set cy ad h b1 (.inl (0, nn1, .inl (va_cpy f g sp.toNatClampNeg dp.toNatClampNeg nn.toNatClampNeg)))
        have hcs' : ∀ v ∈ st, mj_cv h.length v := fun v hv => hcs v (List.mem_cons_of_mem _ (List.mem_cons_of_mem _ (List.mem_cons_of_mem _ (List.mem_cons_of_mem _ (List.mem_cons_of_mem _ hv)))))
        exact va_copyi hx hb (hml.trans hl.1.symm) hown (hts _ w1) (hts _ w2) (hts _ w3) (hts _ w4) hK hP hD hS b0 b1 0 0 (mj_w_get cy ad hq0) (mj_w_get cy ad hq1) rfl rfl rfl z1 z2 z3 z4 z5 (fun _ _ => rfl) hm.1 (by rw [mj_cat]; exact hm.2) (mj_dec hT ha) (fun H1 locs1 hP1 hD1 hS1 => kk p lc e s m args below meth c H1 locs1 ls A Q dC dI cy ad ad0 n0 CX' ⟨hK, hA, hR, hset ▸ hP1, hset ▸ hD1, hS1, hch'⟩ hl (by rw [hlen]; exact hcl) (by rw [hlen]; exact hcs') hag (by rw [hlen]; exact hn) hzz hret)
      next => cases hv
    next => cases hv
  next => cases hv
theorem mj_cpJ_W {M : mj_M} {Fin : mj_F} {pc : Nat} {l : List (Nat × Value)} {st : List Value} {h h' : mj_H} {k n : Nat} {idx b0 b1 : Nat} {sp dp nn : Int32} (a : Nat) (ha : M.2.2.2.2.2[a]? = some (pc, .invokestatic idx, 3)) (hw : mj_cpW M.1.cls idx) (hm : 1 ≤ M.2.2.2.2.1.frames ∧ (st.map fun v => v.category).sum + (nativeFrameWords "java/lang/System" "arraycopy" 5 + 11) ≤ M.2.2.2.2.1.locals) (hv : mj_cpJ h b0 sp b1 dp nn = some h') (kk : mj_W M Fin (pc + 3) l st h' k n) : mj_W M Fin pc l (.int nn :: .int dp :: .ref b1 :: .int sp :: .ref b0 :: st) h k n := by
  intro p lc e s m args below meth c H locs ls A Q dC dI cy ad ad0 n0 CX I hl hcl hcs hag hn hzz hret
  have CX' := CX
  obtain ⟨hx, hb, hml, hr, hown, hts, hlk, hnm, hN, hT⟩ := CX
  obtain ⟨hK, hA, hR, hP, hD, hS, hch⟩ := I
  obtain ⟨w1, w2, w3, w4⟩ := hw
  unfold mj_cpJ at hv
  split at hv
  next nn0 f hq0 =>
    split at hv
    next nn1 g hq1 =>
      split at hv
      next hok =>
        cases hv
        obtain ⟨z1, z2, z3, z4, z5⟩ := mj_cok_of hok
        have hch' := mj_ch_set hch b1 (c := .inl (1, nn1, .inr (.inl (va_cpy f g sp.toNatClampNeg dp.toNatClampNeg nn.toNatClampNeg)))) trivial
        have hlen : (h.set b1 (.inl (1, nn1, .inr (.inl (va_cpy f g sp.toNatClampNeg dp.toNatClampNeg nn.toNatClampNeg))))).length = h.length := List.length_set
        have hset := mj_w_set cy ad h b1 (.inl (1, nn1, .inr (.inl (va_cpy f g sp.toNatClampNeg dp.toNatClampNeg nn.toNatClampNeg))))
        have hcs' : ∀ v ∈ st, mj_cv h.length v := fun v hv => hcs v (List.mem_cons_of_mem _ (List.mem_cons_of_mem _ (List.mem_cons_of_mem _ (List.mem_cons_of_mem _ (List.mem_cons_of_mem _ hv)))))
        exact va_copyl hx hb (hml.trans hl.1.symm) hown (hts _ w1) (hts _ w2) (hts _ w3) (hts _ w4) hK hP hD hS b0 b1 1 1 (mj_w_get cy ad hq0) (mj_w_get cy ad hq1) rfl rfl rfl z1 z2 z3 z4 z5 (fun _ _ => rfl) hm.1 (by rw [mj_cat]; exact hm.2) (mj_dec hT ha) (fun H1 locs1 hP1 hD1 hS1 => kk p lc e s m args below meth c H1 locs1 ls A Q dC dI cy ad ad0 n0 CX' ⟨hK, hA, hR, hset ▸ hP1, hset ▸ hD1, hS1, hch'⟩ hl (by rw [hlen]; exact hcl) (by rw [hlen]; exact hcs') hag (by rw [hlen]; exact hn) hzz hret)
      next => cases hv
    next => cases hv
  next => cases hv
def mj_maxW (own : String) (idx : Nat) : Prop := Jvm.Cond.methodLink own idx Lib.MathLoose.max_long.x ∈ mj_G ∧ Jvm.Cond.static Lib.MathLoose.max_long.x ∈ mj_G ∧ Jvm.Cond.initialized "java/lang/Math" ∈ mj_G ∧ Jvm.Cond.code Lib.MathLoose.max_long.x Lib.MathLoose.max_long.code 4 (some .long) ∈ mj_G
theorem mj_maxJ {M : mj_M} {Fin : mj_F} {pc : Nat} {l : List (Nat × Value)} {st : List Value} {h : mj_H} {k n : Nat} {idx : Nat} {x y : Int64} (a : Nat) (ha : M.2.2.2.2.2[a]? = some (pc, .invokestatic idx, 3)) (hw : mj_maxW M.1.cls idx) (hm : 1 ≤ M.2.2.2.2.1.frames ∧ (st.map fun v => v.category).sum + 15 ≤ M.2.2.2.2.1.locals ∧ k ≤ M.2.2.2.2.1.cells ∧ n ≤ M.2.2.2.2.1.slots) (kk : mj_W M Fin (pc + 3) l (.long (if y < x then x else y) :: st) h k n) : mj_W M Fin pc l (.long y :: .long x :: st) h k n := by
  intro p lc e s m args below meth c H locs ls A Q dC dI cy ad ad0 n0 CX I hl hcl hcs hag hn hzz hret
  have CX' := CX
  obtain ⟨hx, hb, hml, hr, hown, hts, hlk, hnm, hN, hT⟩ := CX
  obtain ⟨w1, w2, w3, w4⟩ := hw
  exact va_mmax_long hx hb (hml.trans hl.1.symm) hown (hts _ w1) (hts _ w2) (hts _ w3) (hts _ w4) hm.1 (by rw [mj_cat]; exact hm.2.1) hm.2.2.1 hm.2.2.2 (mj_dec hT ha) (kk p lc e s m args below meth c H locs ls A Q dC dI cy ad ad0 n0 CX' I hl hcl (mj_cs trivial (mj_tl (mj_tl hcs))) hag hn hzz hret)
