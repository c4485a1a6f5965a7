/-! rules: arrays -/
def mj_ok (j : Int32) (n : Nat) : Bool := decide (0 ≤ j.toInt) && decide (j.toInt < n)
theorem mj_ok_in {j : Int32} {n : Nat} (h : mj_ok j n = true) : vp_in j n := by
  simp only [mj_ok, Bool.and_eq_true, decide_eq_true_eq] at h
  exact vp_in_iff.mpr h
def mj_aI (h : mj_H) (b : Nat) (j : Int32) : Option Int32 := match h[b]? with
  | some (.inl (0, n, .inl f)) => if mj_ok j n then some (f j.toNatClampNeg) else none
  | _ => none
def mj_aZ (h : mj_H) (b : Nat) (j : Int32) : Option Int32 := match h[b]? with
  | some (.inl (2, n, .inl f)) => if mj_ok j n then some (f j.toNatClampNeg) else none
  | _ => none
def mj_aJ (h : mj_H) (b : Nat) (j : Int32) : Option Int64 := match h[b]? with
  | some (.inl (1, n, .inr (.inl f))) => if mj_ok j n then some (f j.toNatClampNeg) else none
  | _ => none
def mj_uI (h : mj_H) (b : Nat) (j : Int32) (x : Int32) : Option mj_H := match h[b]? with
  | some (.inl (0, n, .inl f)) => if mj_ok j n then some (h.set b (.inl (0, n, .inl (upd f j.toNatClampNeg x)))) else none
  | _ => none
def mj_uZ (h : mj_H) (b : Nat) (j : Int32) (x : Int32) : Option mj_H := match h[b]? with
  | some (.inl (2, n, .inl f)) => if mj_ok j n then some (h.set b (.inl (2, n, .inl (upd f j.toNatClampNeg (vp_nar .boolean x))))) else none
  | _ => none
def mj_uJ (h : mj_H) (b : Nat) (j : Int32) (x : Int64) : Option mj_H := match h[b]? with
  | some (.inl (1, n, .inr (.inl f))) => if mj_ok j n then some (h.set b (.inl (1, n, .inr (.inl (vp_updL f j.toNatClampNeg x))))) else none
  | _ => none
def mj_aL (h : mj_H) (b : Nat) : Option Int32 := match h[b]? with
  | some (.inl (0, n, _)) => some (Int32.ofNat n)
  | some (.inl (1, n, _)) => some (Int32.ofNat n)
  | _ => none
theorem mj_iald {M : mj_M} {Fin : mj_F} {pc : Nat} {l : List (Nat × Value)} {st : List Value} {h : mj_H} {k n : Nat} {b : Nat} {j : Int32} {x : Int32} (a : Nat) (ha : M.2.2.2.2.2[a]? = some (pc, .iaload, 1)) (hv : mj_aI h b j = some x) (kk : mj_W M Fin (pc + 1) l (.int x :: st) h k n) : mj_W M Fin pc l (.int j :: .ref b :: st) h k n := by
  intro p lc e s m args below meth c H locs ls A Q dC dI cy ad ad0 n0 CX I hl hcl hcs hag hn hzz hret
  have CX' := CX
  have I' := I
  obtain ⟨hx, hb, hml, hr, hown, hts, hlk, hnm, hN, hT⟩ := CX
  obtain ⟨hK, hA, hR, hP, hD, hS, hch⟩ := I
  unfold mj_aI at hv
  split at hv
  next nn f hq =>
    split at hv
    next hin =>
      cases hv
      exact va_iald hx hb hK hP b 0 (mj_w_get cy ad hq) rfl (mj_ok_in hin) (mj_dec hT ha) (kk p lc e s m args below meth c H locs ls A Q dC dI cy ad ad0 n0 CX' I' hl hcl (mj_cs trivial (mj_tl (mj_tl hcs))) hag hn hzz hret)
    next => cases hv
  next => cases hv
theorem mj_zald {M : mj_M} {Fin : mj_F} {pc : Nat} {l : List (Nat × Value)} {st : List Value} {h : mj_H} {k n : Nat} {b : Nat} {j : Int32} {x : Int32} (a : Nat) (ha : M.2.2.2.2.2[a]? = some (pc, .baload, 1)) (hv : mj_aZ h b j = some x) (kk : mj_W M Fin (pc + 1) l (.int x :: st) h k n) : mj_W M Fin pc l (.int j :: .ref b :: st) h k n := by
  intro p lc e s m args below meth c H locs ls A Q dC dI cy ad ad0 n0 CX I hl hcl hcs hag hn hzz hret
  have CX' := CX
  have I' := I
  obtain ⟨hx, hb, hml, hr, hown, hts, hlk, hnm, hN, hT⟩ := CX
  obtain ⟨hK, hA, hR, hP, hD, hS, hch⟩ := I
  unfold mj_aZ at hv
  split at hv
  next nn f hq =>
    split at hv
    next hin =>
      cases hv
      exact va_zald hx hb hK hP b 2 (mj_w_get cy ad hq) rfl (mj_ok_in hin) (mj_dec hT ha) (kk p lc e s m args below meth c H locs ls A Q dC dI cy ad ad0 n0 CX' I' hl hcl (mj_cs trivial (mj_tl (mj_tl hcs))) hag hn hzz hret)
    next => cases hv
  next => cases hv
theorem mj_lald {M : mj_M} {Fin : mj_F} {pc : Nat} {l : List (Nat × Value)} {st : List Value} {h : mj_H} {k n : Nat} {b : Nat} {j : Int32} {x : Int64} (a : Nat) (ha : M.2.2.2.2.2[a]? = some (pc, .laload, 1)) (hv : mj_aJ h b j = some x) (kk : mj_W M Fin (pc + 1) l (.long x :: st) h k n) : mj_W M Fin pc l (.int j :: .ref b :: st) h k n := by
  intro p lc e s m args below meth c H locs ls A Q dC dI cy ad ad0 n0 CX I hl hcl hcs hag hn hzz hret
  have CX' := CX
  have I' := I
  obtain ⟨hx, hb, hml, hr, hown, hts, hlk, hnm, hN, hT⟩ := CX
  obtain ⟨hK, hA, hR, hP, hD, hS, hch⟩ := I
  unfold mj_aJ at hv
  split at hv
  next nn f hq =>
    split at hv
    next hin =>
      cases hv
      exact va_lald hx hb hK hP b 1 (mj_w_get cy ad hq) rfl (mj_ok_in hin) (mj_dec hT ha) (kk p lc e s m args below meth c H locs ls A Q dC dI cy ad ad0 n0 CX' I' hl hcl (mj_cs trivial (mj_tl (mj_tl hcs))) hag hn hzz hret)
    next => cases hv
  next => cases hv
theorem mj_iast {M : mj_M} {Fin : mj_F} {pc : Nat} {l : List (Nat × Value)} {st : List Value} {h : mj_H} {k n : Nat} {b : Nat} {j : Int32} {x : Int32} {h' : mj_H} (a : Nat) (ha : M.2.2.2.2.2[a]? = some (pc, .iastore, 1)) (hv : mj_uI h b j x = some h') (kk : mj_W M Fin (pc + 1) l st h' k n) : mj_W M Fin pc l (.int x :: .int j :: .ref b :: st) h k n := by
  intro p lc e s m args below meth c H locs ls A Q dC dI cy ad ad0 n0 CX I hl hcl hcs hag hn hzz hret
  have CX' := CX
  have I' := I
  obtain ⟨hx, hb, hml, hr, hown, hts, hlk, hnm, hN, hT⟩ := CX
  obtain ⟨hK, hA, hR, hP, hD, hS, hch⟩ := I
  unfold mj_uI at hv
  split at hv
  next nn f hq =>
    split at hv
    next hin =>
      cases hv
      have hch' := mj_ch_set hch b (c := .inl (0, nn, .inl (upd f j.toNatClampNeg x))) trivial
      have hlen : (h.set b (.inl (0, nn, .inl (upd f j.toNatClampNeg x)))).length = h.length := List.length_set
      have hset := mj_w_set cy ad h b (.inl (0, nn, .inl (upd f j.toNatClampNeg x)))
      exact va_iast hx hb hK hP hD hS b 0 (mj_w_get cy ad hq) rfl (mj_ok_in hin) (mj_dec hT ha) (fun H1 locs1 hP1 hD1 hS1 => kk p lc e s m args below meth c H1 locs1 ls A Q dC dI cy ad ad0 n0 CX' ⟨hK, hA, hR, hset ▸ hP1, hset ▸ hD1, hS1, hch'⟩ hl (by rw [hlen]; exact hcl) (by rw [hlen]; exact mj_tl (mj_tl (mj_tl hcs))) hag (by rw [hlen]; exact hn) hzz hret)
    next => cases hv
  next => cases hv
theorem mj_zast {M : mj_M} {Fin : mj_F} {pc : Nat} {l : List (Nat × Value)} {st : List Value} {h : mj_H} {k n : Nat} {b : Nat} {j : Int32} {x : Int32} {h' : mj_H} (a : Nat) (ha : M.2.2.2.2.2[a]? = some (pc, .bastore, 1)) (hv : mj_uZ h b j x = some h') (kk : mj_W M Fin (pc + 1) l st h' k n) : mj_W M Fin pc l (.int x :: .int j :: .ref b :: st) h k n := by
  intro p lc e s m args below meth c H locs ls A Q dC dI cy ad ad0 n0 CX I hl hcl hcs hag hn hzz hret
  have CX' := CX
  have I' := I
  obtain ⟨hx, hb, hml, hr, hown, hts, hlk, hnm, hN, hT⟩ := CX
  obtain ⟨hK, hA, hR, hP, hD, hS, hch⟩ := I
  unfold mj_uZ at hv
  split at hv
  next nn f hq =>
    split at hv
    next hin =>
      cases hv
      have hch' := mj_ch_set hch b (c := .inl (2, nn, .inl (upd f j.toNatClampNeg (vp_nar .boolean x)))) trivial
      have hlen : (h.set b (.inl (2, nn, .inl (upd f j.toNatClampNeg (vp_nar .boolean x))))).length = h.length := List.length_set
      have hset := mj_w_set cy ad h b (.inl (2, nn, .inl (upd f j.toNatClampNeg (vp_nar .boolean x))))
      exact va_zast hx hb hK hP hD hS b 2 (mj_w_get cy ad hq) rfl (mj_ok_in hin) (mj_dec hT ha) (fun H1 locs1 hP1 hD1 hS1 => kk p lc e s m args below meth c H1 locs1 ls A Q dC dI cy ad ad0 n0 CX' ⟨hK, hA, hR, hset ▸ hP1, hset ▸ hD1, hS1, hch'⟩ hl (by rw [hlen]; exact hcl) (by rw [hlen]; exact mj_tl (mj_tl (mj_tl hcs))) hag (by rw [hlen]; exact hn) hzz hret)
    next => cases hv
  next => cases hv
theorem mj_last {M : mj_M} {Fin : mj_F} {pc : Nat} {l : List (Nat × Value)} {st : List Value} {h : mj_H} {k n : Nat} {b : Nat} {j : Int32} {x : Int64} {h' : mj_H} (a : Nat) (ha : M.2.2.2.2.2[a]? = some (pc, .lastore, 1)) (hv : mj_uJ h b j x = some h') (kk : mj_W M Fin (pc + 1) l st h' k n) : mj_W M Fin pc l (.long x :: .int j :: .ref b :: st) h k n := by
  intro p lc e s m args below meth c H locs ls A Q dC dI cy ad ad0 n0 CX I hl hcl hcs hag hn hzz hret
  have CX' := CX
  have I' := I
  obtain ⟨hx, hb, hml, hr, hown, hts, hlk, hnm, hN, hT⟩ := CX
  obtain ⟨hK, hA, hR, hP, hD, hS, hch⟩ := I
  unfold mj_uJ at hv
  split at hv
  next nn f hq =>
    split at hv
    next hin =>
      cases hv
      have hch' := mj_ch_set hch b (c := .inl (1, nn, .inr (.inl (vp_updL f j.toNatClampNeg x)))) trivial
      have hlen : (h.set b (.inl (1, nn, .inr (.inl (vp_updL f j.toNatClampNeg x))))).length = h.length := List.length_set
      have hset := mj_w_set cy ad h b (.inl (1, nn, .inr (.inl (vp_updL f j.toNatClampNeg x))))
      exact va_last hx hb hK hP hD hS b 1 (mj_w_get cy ad hq) rfl (mj_ok_in hin) (mj_dec hT ha) (fun H1 locs1 hP1 hD1 hS1 => kk p lc e s m args below meth c H1 locs1 ls A Q dC dI cy ad ad0 n0 CX' ⟨hK, hA, hR, hset ▸ hP1, hset ▸ hD1, hS1, hch'⟩ hl (by rw [hlen]; exact hcl) (by rw [hlen]; exact mj_tl (mj_tl (mj_tl hcs))) hag (by rw [hlen]; exact hn) hzz hret)
    next => cases hv
  next => cases hv
theorem mj_alen {M : mj_M} {Fin : mj_F} {pc : Nat} {l : List (Nat × Value)} {st : List Value} {h : mj_H} {k n : Nat} {b : Nat} {x : Int32} (a : Nat) (ha : M.2.2.2.2.2[a]? = some (pc, .arraylength, 1)) (hv : mj_aL h b = some x) (kk : mj_W M Fin (pc + 1) l (.int x :: st) h k n) : mj_W M Fin pc l (.ref b :: st) h k n := by
  intro p lc e s m args below meth c H locs ls A Q dC dI cy ad ad0 n0 CX I hl hcl hcs hag hn hzz hret
  have CX' := CX
  have I' := I
  obtain ⟨hx, hb, hml, hr, hown, hts, hlk, hnm, hN, hT⟩ := CX
  obtain ⟨hK, hA, hR, hP, hD, hS, hch⟩ := I
  unfold mj_aL at hv
  split at hv
  next nn f hq =>
    cases hv
    exact va_alen hx hb hK hP b 0 (mj_w_get cy ad hq) rfl rfl (mj_dec hT ha) (kk p lc e s m args below meth c H locs ls A Q dC dI cy ad ad0 n0 CX' I' hl hcl (mj_cs trivial (mj_tl hcs)) hag hn hzz hret)
  next nn f hq =>
    cases hv
    exact va_alen hx hb hK hP b 1 (mj_w_get cy ad hq) rfl rfl (mj_dec hT ha) (kk p lc e s m args below meth c H locs ls A Q dC dI cy ad ad0 n0 CX' I' hl hcl (mj_cs trivial (mj_tl hcs)) hag hn hzz hret)
  next => cases hv
