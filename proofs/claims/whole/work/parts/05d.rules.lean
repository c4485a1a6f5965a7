/-! rules: static arrays, String constants -/
def mj_roA (q : Nat) (j : Int32) : Option Int32 := if mj_ok j (mj_roN q) then some (mj_roI q j.toNatClampNeg) else none
theorem mj_gets {M : mj_M} {Fin : mj_F} {pc : Nat} {l : List (Nat × Value)} {st : List Value} {h : mj_H} {k n : Nat} {idx : Nat} (q : String × String × Nat) (a : Nat) (ha : M.2.2.2.2.2[a]? = some (pc, .getstatic idx, 3)) (hq : q ∈ mj_stat) (hw : Jvm.Cond.fieldLink M.1.cls idx q.1 q.2.1 "[I" ∈ mj_G) (kk : mj_W M Fin (pc + 3) l (.ref (1000 + q.2.2) :: st) h k n) : mj_W M Fin pc l st h k n := by
  intro p lc e s m args below meth c H locs ls A Q dC dI cy ad ad0 n0 CX I hl hcl hcs hag hn hzz hret
  have CX' := CX
  have I' := I
  obtain ⟨hx, hb, hml, hr, hown, hts, hlk, hnm, hN, hT⟩ := CX
  obtain ⟨hK, hA, hR, hP, hD, hS, hch⟩ := I
  exact va_gets hx hb (hR.1 q hq).1 hS hown (hts _ hw) (fun _ z => z) (mj_dec hT ha) (kk p lc e s m args below meth c H locs ls A Q dC dI cy ad ad0 n0 CX' I' hl hcl (mj_cs (Or.inr (Nat.le_add_right _ _)) hcs) hag hn hzz hret)
theorem mj_ialdR {M : mj_M} {Fin : mj_F} {pc : Nat} {l : List (Nat × Value)} {st : List Value} {h : mj_H} {k n : Nat} {j x : Int32} (q : String × String × Nat) (a : Nat) (ha : M.2.2.2.2.2[a]? = some (pc, .iaload, 1)) (hq : q ∈ mj_stat) (hv : mj_roA q.2.2 j = some x) (kk : mj_W M Fin (pc + 1) l (.int x :: st) h k n) : mj_W M Fin pc l (.int j :: .ref (1000 + q.2.2) :: st) h k n := by
  intro p lc e s m args below meth c H locs ls A Q dC dI cy ad ad0 n0 CX I hl hcl hcs hag hn hzz hret
  have CX' := CX
  have I' := I
  obtain ⟨hx, hb, hml, hr, hown, hts, hlk, hnm, hN, hT⟩ := CX
  obtain ⟨hK, hA, hR, hP, hD, hS, hch⟩ := I
  unfold mj_roA at hv
  split at hv
  next hin =>
    cases hv
    exact va_ti hx hb (hR.1 q hq).2 hS (mj_ok_in hin) rfl (mj_dec hT ha) (kk p lc e s m args below meth c H locs ls A Q dC dI cy ad ad0 n0 CX' I' hl hcl (mj_cs trivial (mj_tl (mj_tl hcs))) hag hn hzz hret)
  next => cases hv
theorem mj_alenR {M : mj_M} {Fin : mj_F} {pc : Nat} {l : List (Nat × Value)} {st : List Value} {h : mj_H} {k n : Nat} (q : String × String × Nat) (a : Nat) (ha : M.2.2.2.2.2[a]? = some (pc, .arraylength, 1)) (hq : q ∈ mj_stat) (kk : mj_W M Fin (pc + 1) l (.int (Int32.ofNat (mj_roN q.2.2)) :: st) h k n) : mj_W M Fin pc l (.ref (1000 + q.2.2) :: st) h k n := by
  intro p lc e s m args below meth c H locs ls A Q dC dI cy ad ad0 n0 CX I hl hcl hcs hag hn hzz hret
  have CX' := CX
  have I' := I
  obtain ⟨hx, hb, hml, hr, hown, hts, hlk, hnm, hN, hT⟩ := CX
  obtain ⟨hK, hA, hR, hP, hD, hS, hch⟩ := I
  exact va_tlen hx hb (hR.1 q hq).2 hS rfl (mj_dec hT ha) (kk p lc e s m args below meth c H locs ls A Q dC dI cy ad ad0 n0 CX' I' hl hcl (mj_cs trivial (mj_tl hcs)) hag hn hzz hret)
theorem mj_ldcS {M : mj_M} {Fin : mj_F} {pc : Nat} {l : List (Nat × Value)} {st : List Value} {h : mj_H} {k n : Nat} {idx : Nat} {tx : String} (i a : Nat) (ha : M.2.2.2.2.2[a]? = some (pc, .ldc idx, 2)) (hi : mj_keys[i]? = some (idx, tx)) (ho : M.1.cls = "RiverChoice$Reader") (kk : mj_W M Fin (pc + 2) l (.ref (1010 + i) :: st) h k n) : mj_W M Fin pc l st h k n := by
  intro p lc e s m args below meth c H locs ls A Q dC dI cy ad ad0 n0 CX I hl hcl hcs hag hn hzz hret
  have CX' := CX
  have I' := I
  obtain ⟨hx, hb, hml, hr, hown, hts, hlk, hnm, hN, hT⟩ := CX
  obtain ⟨hK, hA, hR, hP, hD, hS, hch⟩ := I
  rw [ho] at hown
  exact va_ldcS hx hb hown (hR.2.2.2.2 i _ hi) (mj_dec hT ha) (kk p lc e s m args below meth c H locs ls A Q dC dI cy ad ad0 n0 CX' I' hl hcl (mj_cs (Or.inr (Nat.le_trans (by decide : (1000 : Nat) ≤ 1010) (Nat.le_add_right _ _))) hcs) hag hn hzz hret)
