/-! rules: fields -/
def mj_FL (own : String) (idx ci fk : Nat) : Prop := ∃ (C : String) (T : u_T) (N : Nat), vwCl[ci]? = some (C, T, N) ∧ fk < N ∧ (∀ w ∈ u_ws C T N, w ∈ mj_G) ∧ (Jvm.Cond.fieldLink own idx (T fk).1 (T fk).2.1 (T fk).2.2.1 ∈ mj_G ∨ ∃ host, Jvm.Cond.fieldLinkNest own idx (T fk).1 (T fk).2.1 (T fk).2.2.1 host ∈ mj_N)
def mj_FP (own name : String) (idx ci fk : Nat) (ty : FieldType) : Prop := ∃ (C : String) (T : u_T) (N : Nat) (ty0 : Nat → FieldType), vwCl[ci]? = some (C, T, N) ∧ fk < N ∧ (∀ w ∈ u_ws C T N, w ∈ mj_G) ∧ (∀ k, k < N → parseFieldDescriptor (T k).2.2.1 = some (ty0 k)) ∧ (∀ a, a < N → ∀ b, b < N → a ≠ b → (T a).2.1 ≠ (T b).2.1) ∧ ty0 fk = ty ∧
  (((T fk).2.2.2 = false ∧ (Jvm.Cond.fieldLink own idx (T fk).1 (T fk).2.1 (T fk).2.2.1 ∈ mj_G ∨ ∃ host, Jvm.Cond.fieldLinkNest own idx (T fk).1 (T fk).2.1 (T fk).2.2.1 host ∈ mj_N)) ∨ ((T fk).2.2.2 = true ∧ name = "<init>" ∧ (T fk).1 = own ∧ Jvm.Cond.fieldLink own idx (T fk).1 (T fk).2.1 (T fk).2.2.1 ∈ mj_G))
def mj_gV (h : mj_H) (b ci fk : Nat) : Option Value := match h[b]? with
  | some (.inr q) => if q.1 = ci then q.2[fk]? else none
  | _ => none
def mj_gI (h : mj_H) (b ci fk : Nat) : Option Int32 := match mj_gV h b ci fk with
  | some (.int x) => some x
  | _ => none
def mj_gJ (h : mj_H) (b ci fk : Nat) : Option Int64 := match mj_gV h b ci fk with
  | some (.long x) => some x
  | _ => none
def mj_gR (h : mj_H) (b ci fk : Nat) : Option Nat := match mj_gV h b ci fk with
  | some (.ref x) => some x
  | _ => none
theorem mj_gI_V {h : mj_H} {b ci fk : Nat} {x : Int32} (e : mj_gI h b ci fk = some x) : mj_gV h b ci fk = some (.int x) := by
  unfold mj_gI at e
  split at e
  next y hy => cases e; exact hy
  next => cases e
theorem mj_gJ_V {h : mj_H} {b ci fk : Nat} {x : Int64} (e : mj_gJ h b ci fk = some x) : mj_gV h b ci fk = some (.long x) := by
  unfold mj_gJ at e
  split at e
  next y hy => cases e; exact hy
  next => cases e
theorem mj_gR_V {h : mj_H} {b ci fk : Nat} {x : Nat} (e : mj_gR h b ci fk = some x) : mj_gV h b ci fk = some (.ref x) := by
  unfold mj_gR at e
  split at e
  next y hy => cases e; exact hy
  next => cases e
theorem mj_gV_at {h : mj_H} {b ci fk : Nat} {v : Value} (e : mj_gV h b ci fk = some v) : ∃ fs : List Value, h[b]? = some (.inr (ci, fs)) ∧ fs[fk]? = some v := by
  unfold mj_gV at e
  split at e
  next q hq =>
    split at e
    next hc => exact ⟨q.2, by rw [hq, ← hc], e⟩
    next => cases e
  next => cases e
def mj_sV (h : mj_H) (b ci fk : Nat) (v : Value) : Option mj_H := match h[b]? with
  | some (.inr q) => if q.1 = ci then (if fk < q.2.length then some (h.set b (.inr (ci, q.2.set fk v))) else none) else none
  | _ => none
theorem mj_sV_at {h h' : mj_H} {b ci fk : Nat} {v : Value} (e : mj_sV h b ci fk v = some h') : ∃ fs : List Value, h[b]? = some (.inr (ci, fs)) ∧ fk < fs.length ∧ h' = h.set b (.inr (ci, fs.set fk v)) := by
  unfold mj_sV at e
  split at e
  next q hq =>
    split at e
    next hc =>
      split at e
      next hl => cases e; exact ⟨q.2, by rw [hq, ← hc], hl, rfl⟩
      next => cases e
    next => cases e
  next => cases e
theorem mj_gV_c {h : mj_H} (hch : mj_ch h) {b ci fk : Nat} {v : Value} (e : mj_gV h b ci fk = some v) : mj_cv h.length v := by
  obtain ⟨fs, h1, h2⟩ := mj_gV_at e
  exact hch.2 _ (List.mem_of_getElem? h1) v (List.mem_of_getElem? h2)
theorem mj_get {M : mj_M} {Fin : mj_F} {pc : Nat} {l : List (Nat × Value)} {st : List Value} {h : mj_H} {k n : Nat} {b ci fk idx : Nat} {v : Value} (a : Nat) (ha : M.2.2.2.2.2[a]? = some (pc, .getfield idx, 3)) (hf : mj_FL M.1.cls idx ci fk) (hv : mj_gV h b ci fk = some v) (kk : mj_W M Fin (pc + 3) l (v :: st) h k n) : mj_W M Fin pc l (.ref b :: st) h k n := by
  intro p lc e s m args below meth c H locs ls A Q dC dI cy ad ad0 n0 CX I hl hcl hcs hag hn hzz hret
  have CX' := CX
  have I' := I
  obtain ⟨hx, hb, hml, hr, hown, hts, hlk, hnm, hN, hT⟩ := CX
  obtain ⟨hK, hA, hR, hP, hD, hS, hch⟩ := I
  obtain ⟨C, T, N, f1, f2, f3, f4⟩ := hf
  obtain ⟨fs, h1, h2⟩ := mj_gV_at hv
  have hw := mj_w_get cy ad h1
  have hv2 : (fs.map (mj_v ad))[fk]? = some (mj_v ad v) := by rw [List.getElem?_map, h2]; rfl
  have hvc := mj_gV_c hch hv
  rcases f4 with f4 | ⟨host, f4⟩
  · exact va_get hx hb hts f3 hown hK hP b hw f1 fk f2 (hts _ f4) (fun _ q => q) hv2 (mj_dec hT ha) (kk p lc e s m args below meth c H locs ls A Q dC dI cy ad ad0 n0 CX' I' hl hcl (mj_cs hvc (mj_tl hcs)) hag hn hzz hret)
  · exact va_getN hx hb hts f3 hown hK hP b hw f1 fk f2 (va_Nw.use rfl (hN _ f4)) (fun _ q => q) hv2 (mj_dec hT ha) (kk p lc e s m args below meth c H locs ls A Q dC dI cy ad ad0 n0 CX' I' hl hcl (mj_cs hvc (mj_tl hcs)) hag hn hzz hret)
theorem mj_put {M : mj_M} {Fin : mj_F} {pc : Nat} {l : List (Nat × Value)} {st : List Value} {h : mj_H} {k n : Nat} {b ci fk idx : Nat} {v : Value} {ty : FieldType} {h' : mj_H} (a : Nat) (ha : M.2.2.2.2.2[a]? = some (pc, .putfield idx, 3)) (hf : mj_FP M.1.cls M.1.name idx ci fk ty) (hv : ∀ ad, narrow ty (mj_v ad v) = mj_v ad v ∧ fits ty (mj_v ad v) = true) (hs : mj_sV h b ci fk v = some h') (kk : mj_W M Fin (pc + 3) l st h' k n) : mj_W M Fin pc l (v :: .ref b :: st) h k n := by
  intro p lc e s m args below meth c H locs ls A Q dC dI cy ad ad0 n0 CX I hl hcl hcs hag hn hzz hret
  have CX' := CX
  have I' := I
  obtain ⟨hx, hb, hml, hr, hown, hts, hlk, hnm, hN, hT⟩ := CX
  obtain ⟨hK, hA, hR, hP, hD, hS, hch⟩ := I
  obtain ⟨C, T, N, ty0, f1, f2, f3, f4, f5, f6, f7⟩ := hf
  obtain ⟨fs, h1, h2, rfl⟩ := mj_sV_at hs
  have hw := mj_w_get cy ad h1
  have hv2 : fk < (fs.map (mj_v ad)).length := by rw [List.length_map]; exact h2
  have hvc : mj_cv h.length v := hcs v List.mem_cons_self
  have hset : (mj_w cy ad h).set b (ad b, .inr (ci, (fs.map (mj_v ad)).set fk (mj_v ad v))) = mj_w cy ad (h.set b (.inr (ci, fs.set fk v))) := by
    rw [← mj_w_set]
    simp only [mj_c, List.map_set]
  have hcc : mj_cc h.length (.inr (ci, fs.set fk v)) := by
    intro w hw2
    rcases List.mem_or_eq_of_mem_set hw2 with q | q
    · exact hch.2 _ (List.mem_of_getElem? h1) w q
    · rw [q]; exact hvc
  have hch' := mj_ch_set hch b hcc
  have hlen : (h.set b (.inr (ci, fs.set fk v))).length = h.length := List.length_set
  have hd := f6 ▸ f4 fk f2
  rcases f7 with ⟨g1, g2⟩ | ⟨g1, g2, g3, g4⟩
  · rcases g2 with g2 | ⟨host, g2⟩
    · exact va_put hx hb hts f3 ty0 f4 f5 hown hK hP hD hS b hw f1 fk f2 (hts _ g2) (fun _ q => q) g1 hd (hv ad).1 (hv ad).2 hv2 (mj_dec hT ha) (fun H1 locs1 hP1 hD1 hS1 => kk p lc e s m args below meth c H1 locs1 ls A Q dC dI cy ad ad0 n0 CX' ⟨hK, hA, hR, hset ▸ hP1, hset ▸ hD1, hS1, hch'⟩ hl (by rw [hlen]; exact hcl) (by rw [hlen]; exact mj_tl (mj_tl hcs)) hag (by rw [hlen]; exact hn) hzz hret)
    · exact va_putN hx hb hts f3 ty0 f4 f5 hown hK hP hD hS b hw f1 fk f2 (va_Nw.use rfl (hN _ g2)) (fun _ q => q) g1 hd (hv ad).1 (hv ad).2 hv2 (mj_dec hT ha) (fun H1 locs1 hP1 hD1 hS1 => kk p lc e s m args below meth c H1 locs1 ls A Q dC dI cy ad ad0 n0 CX' ⟨hK, hA, hR, hset ▸ hP1, hset ▸ hD1, hS1, hch'⟩ hl (by rw [hlen]; exact hcl) (by rw [hlen]; exact mj_tl (mj_tl hcs)) hag (by rw [hlen]; exact hn) hzz hret)
  · exact va_putF hx hb hts f3 ty0 f4 f5 hown hK hP hD hS b hw f1 fk f2 (hts _ g4) (fun _ q => q) g1 (hnm.trans g2) g3 hd (hv ad).1 (hv ad).2 hv2 (mj_dec hT ha) (fun H1 locs1 hP1 hD1 hS1 => kk p lc e s m args below meth c H1 locs1 ls A Q dC dI cy ad ad0 n0 CX' ⟨hK, hA, hR, hset ▸ hP1, hset ▸ hD1, hS1, hch'⟩ hl (by rw [hlen]; exact hcl) (by rw [hlen]; exact mj_tl (mj_tl hcs)) hag (by rw [hlen]; exact hn) hzz hret)
