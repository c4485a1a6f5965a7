/-! rules: branches -/
theorem mj_dec {cc : ByteArray} {t : List (Nat × Instr × Nat)} (hT : ∀ q ∈ t, decode cc q.1 = .ok q.2) {a pc len : Nat} {i : Instr} (h : t[a]? = some (pc, i, len)) : decode cc pc = .ok (i, len) := hT (pc, i, len) (List.mem_of_getElem? h)
theorem mj_tl {n : Nat} {v : Value} {st : List Value} (h : ∀ w ∈ v :: st, mj_cv n w) : ∀ w ∈ st, mj_cv n w := fun w hw => h w (List.mem_cons_of_mem _ hw)
theorem mj_cs {n : Nat} {v : Value} {st : List Value} (hv : mj_cv n v) (h : ∀ w ∈ st, mj_cv n w) : ∀ w ∈ v :: st, mj_cv n w := fun w hw => (List.mem_cons.mp hw).elim (fun e => e ▸ hv) (h w)
theorem mj_if_eq {M : mj_M} {Fin : mj_F} {pc : Nat} {l : List (Nat × Value)} {st : List Value} {h : mj_H} {k n : Nat} {x : Int32} (a : Nat) {off : Int} (tgt : Nat) (ha : M.2.2.2.2.2[a]? = some (pc, .ifCond .eq off, 3)) (ht : (pc : Int) + off = (tgt : Int)) (kt : x = 0 → mj_W M Fin tgt l st h k n) (kf : ¬ x = 0 → mj_W M Fin (pc + 3) l st h k n) : mj_W M Fin pc l (.int x :: st) h k n := by
  intro p lc e s m args below meth c H locs ls A Q dC dI cy ad ad0 n0 CX I hl hcl hcs hag hn hzz hret
  have CX' := CX
  have I' := I
  obtain ⟨hx, hb, hml, hr, hown, hts, hlk, hnm, hN, hT⟩ := CX
  obtain ⟨hK, hA, hR, hP, hD, hS, hch⟩ := I
  exact lv_if_eq hx hb (mj_dec hT ha) ht (fun q => kt q p lc e s m args below meth c H locs ls A Q dC dI cy ad ad0 n0 CX' I' hl hcl (mj_tl hcs) hag hn hzz hret) (fun q => kf q p lc e s m args below meth c H locs ls A Q dC dI cy ad ad0 n0 CX' I' hl hcl (mj_tl hcs) hag hn hzz hret)
theorem mj_if_ne {M : mj_M} {Fin : mj_F} {pc : Nat} {l : List (Nat × Value)} {st : List Value} {h : mj_H} {k n : Nat} {x : Int32} (a : Nat) {off : Int} (tgt : Nat) (ha : M.2.2.2.2.2[a]? = some (pc, .ifCond .ne off, 3)) (ht : (pc : Int) + off = (tgt : Int)) (kt : ¬ x = 0 → mj_W M Fin tgt l st h k n) (kf : x = 0 → mj_W M Fin (pc + 3) l st h k n) : mj_W M Fin pc l (.int x :: st) h k n := by
  intro p lc e s m args below meth c H locs ls A Q dC dI cy ad ad0 n0 CX I hl hcl hcs hag hn hzz hret
  have CX' := CX
  have I' := I
  obtain ⟨hx, hb, hml, hr, hown, hts, hlk, hnm, hN, hT⟩ := CX
  obtain ⟨hK, hA, hR, hP, hD, hS, hch⟩ := I
  exact lv_if_ne hx hb (mj_dec hT ha) ht (fun q => kt q p lc e s m args below meth c H locs ls A Q dC dI cy ad ad0 n0 CX' I' hl hcl (mj_tl hcs) hag hn hzz hret) (fun q => kf q p lc e s m args below meth c H locs ls A Q dC dI cy ad ad0 n0 CX' I' hl hcl (mj_tl hcs) hag hn hzz hret)
theorem mj_if_lt {M : mj_M} {Fin : mj_F} {pc : Nat} {l : List (Nat × Value)} {st : List Value} {h : mj_H} {k n : Nat} {x : Int32} (a : Nat) {off : Int} (tgt : Nat) (ha : M.2.2.2.2.2[a]? = some (pc, .ifCond .lt off, 3)) (ht : (pc : Int) + off = (tgt : Int)) (kt : x < 0 → mj_W M Fin tgt l st h k n) (kf : ¬ x < 0 → mj_W M Fin (pc + 3) l st h k n) : mj_W M Fin pc l (.int x :: st) h k n := by
  intro p lc e s m args below meth c H locs ls A Q dC dI cy ad ad0 n0 CX I hl hcl hcs hag hn hzz hret
  have CX' := CX
  have I' := I
  obtain ⟨hx, hb, hml, hr, hown, hts, hlk, hnm, hN, hT⟩ := CX
  obtain ⟨hK, hA, hR, hP, hD, hS, hch⟩ := I
  exact lv_if_lt hx hb (mj_dec hT ha) ht (fun q => kt q p lc e s m args below meth c H locs ls A Q dC dI cy ad ad0 n0 CX' I' hl hcl (mj_tl hcs) hag hn hzz hret) (fun q => kf q p lc e s m args below meth c H locs ls A Q dC dI cy ad ad0 n0 CX' I' hl hcl (mj_tl hcs) hag hn hzz hret)
theorem mj_if_ge {M : mj_M} {Fin : mj_F} {pc : Nat} {l : List (Nat × Value)} {st : List Value} {h : mj_H} {k n : Nat} {x : Int32} (a : Nat) {off : Int} (tgt : Nat) (ha : M.2.2.2.2.2[a]? = some (pc, .ifCond .ge off, 3)) (ht : (pc : Int) + off = (tgt : Int)) (kt : 0 ≤ x → mj_W M Fin tgt l st h k n) (kf : ¬ 0 ≤ x → mj_W M Fin (pc + 3) l st h k n) : mj_W M Fin pc l (.int x :: st) h k n := by
  intro p lc e s m args below meth c H locs ls A Q dC dI cy ad ad0 n0 CX I hl hcl hcs hag hn hzz hret
  have CX' := CX
  have I' := I
  obtain ⟨hx, hb, hml, hr, hown, hts, hlk, hnm, hN, hT⟩ := CX
  obtain ⟨hK, hA, hR, hP, hD, hS, hch⟩ := I
  exact lv_if_ge hx hb (mj_dec hT ha) ht (fun q => kt q p lc e s m args below meth c H locs ls A Q dC dI cy ad ad0 n0 CX' I' hl hcl (mj_tl hcs) hag hn hzz hret) (fun q => kf q p lc e s m args below meth c H locs ls A Q dC dI cy ad ad0 n0 CX' I' hl hcl (mj_tl hcs) hag hn hzz hret)
theorem mj_if_gt {M : mj_M} {Fin : mj_F} {pc : Nat} {l : List (Nat × Value)} {st : List Value} {h : mj_H} {k n : Nat} {x : Int32} (a : Nat) {off : Int} (tgt : Nat) (ha : M.2.2.2.2.2[a]? = some (pc, .ifCond .gt off, 3)) (ht : (pc : Int) + off = (tgt : Int)) (kt : 0 < x → mj_W M Fin tgt l st h k n) (kf : ¬ 0 < x → mj_W M Fin (pc + 3) l st h k n) : mj_W M Fin pc l (.int x :: st) h k n := by
  intro p lc e s m args below meth c H locs ls A Q dC dI cy ad ad0 n0 CX I hl hcl hcs hag hn hzz hret
  have CX' := CX
  have I' := I
  obtain ⟨hx, hb, hml, hr, hown, hts, hlk, hnm, hN, hT⟩ := CX
  obtain ⟨hK, hA, hR, hP, hD, hS, hch⟩ := I
  exact lv_if_gt hx hb (mj_dec hT ha) ht (fun q => kt q p lc e s m args below meth c H locs ls A Q dC dI cy ad ad0 n0 CX' I' hl hcl (mj_tl hcs) hag hn hzz hret) (fun q => kf q p lc e s m args below meth c H locs ls A Q dC dI cy ad ad0 n0 CX' I' hl hcl (mj_tl hcs) hag hn hzz hret)
theorem mj_if_le {M : mj_M} {Fin : mj_F} {pc : Nat} {l : List (Nat × Value)} {st : List Value} {h : mj_H} {k n : Nat} {x : Int32} (a : Nat) {off : Int} (tgt : Nat) (ha : M.2.2.2.2.2[a]? = some (pc, .ifCond .le off, 3)) (ht : (pc : Int) + off = (tgt : Int)) (kt : x ≤ 0 → mj_W M Fin tgt l st h k n) (kf : ¬ x ≤ 0 → mj_W M Fin (pc + 3) l st h k n) : mj_W M Fin pc l (.int x :: st) h k n := by
  intro p lc e s m args below meth c H locs ls A Q dC dI cy ad ad0 n0 CX I hl hcl hcs hag hn hzz hret
  have CX' := CX
  have I' := I
  obtain ⟨hx, hb, hml, hr, hown, hts, hlk, hnm, hN, hT⟩ := CX
  obtain ⟨hK, hA, hR, hP, hD, hS, hch⟩ := I
  exact lv_if_le hx hb (mj_dec hT ha) ht (fun q => kt q p lc e s m args below meth c H locs ls A Q dC dI cy ad ad0 n0 CX' I' hl hcl (mj_tl hcs) hag hn hzz hret) (fun q => kf q p lc e s m args below meth c H locs ls A Q dC dI cy ad ad0 n0 CX' I' hl hcl (mj_tl hcs) hag hn hzz hret)
theorem mj_icmp_eq {M : mj_M} {Fin : mj_F} {pc : Nat} {l : List (Nat × Value)} {st : List Value} {h : mj_H} {k n : Nat} {x y : Int32} (a : Nat) {off : Int} (tgt : Nat) (ha : M.2.2.2.2.2[a]? = some (pc, .if_icmp .eq off, 3)) (ht : (pc : Int) + off = (tgt : Int)) (kt : x = y → mj_W M Fin tgt l st h k n) (kf : ¬ x = y → mj_W M Fin (pc + 3) l st h k n) : mj_W M Fin pc l (.int y :: .int x :: st) h k n := by
  intro p lc e s m args below meth c H locs ls A Q dC dI cy ad ad0 n0 CX I hl hcl hcs hag hn hzz hret
  have CX' := CX
  have I' := I
  obtain ⟨hx, hb, hml, hr, hown, hts, hlk, hnm, hN, hT⟩ := CX
  obtain ⟨hK, hA, hR, hP, hD, hS, hch⟩ := I
  exact lv_icmp_eq hx hb (mj_dec hT ha) ht (fun q => kt q p lc e s m args below meth c H locs ls A Q dC dI cy ad ad0 n0 CX' I' hl hcl (mj_tl (mj_tl hcs)) hag hn hzz hret) (fun q => kf q p lc e s m args below meth c H locs ls A Q dC dI cy ad ad0 n0 CX' I' hl hcl (mj_tl (mj_tl hcs)) hag hn hzz hret)
theorem mj_icmp_ne {M : mj_M} {Fin : mj_F} {pc : Nat} {l : List (Nat × Value)} {st : List Value} {h : mj_H} {k n : Nat} {x y : Int32} (a : Nat) {off : Int} (tgt : Nat) (ha : M.2.2.2.2.2[a]? = some (pc, .if_icmp .ne off, 3)) (ht : (pc : Int) + off = (tgt : Int)) (kt : ¬ x = y → mj_W M Fin tgt l st h k n) (kf : x = y → mj_W M Fin (pc + 3) l st h k n) : mj_W M Fin pc l (.int y :: .int x :: st) h k n := by
  intro p lc e s m args below meth c H locs ls A Q dC dI cy ad ad0 n0 CX I hl hcl hcs hag hn hzz hret
  have CX' := CX
  have I' := I
  obtain ⟨hx, hb, hml, hr, hown, hts, hlk, hnm, hN, hT⟩ := CX
  obtain ⟨hK, hA, hR, hP, hD, hS, hch⟩ := I
  exact lv_icmp_ne hx hb (mj_dec hT ha) ht (fun q => kt q p lc e s m args below meth c H locs ls A Q dC dI cy ad ad0 n0 CX' I' hl hcl (mj_tl (mj_tl hcs)) hag hn hzz hret) (fun q => kf q p lc e s m args below meth c H locs ls A Q dC dI cy ad ad0 n0 CX' I' hl hcl (mj_tl (mj_tl hcs)) hag hn hzz hret)
theorem mj_icmp_lt {M : mj_M} {Fin : mj_F} {pc : Nat} {l : List (Nat × Value)} {st : List Value} {h : mj_H} {k n : Nat} {x y : Int32} (a : Nat) {off : Int} (tgt : Nat) (ha : M.2.2.2.2.2[a]? = some (pc, .if_icmp .lt off, 3)) (ht : (pc : Int) + off = (tgt : Int)) (kt : x < y → mj_W M Fin tgt l st h k n) (kf : ¬ x < y → mj_W M Fin (pc + 3) l st h k n) : mj_W M Fin pc l (.int y :: .int x :: st) h k n := by
  intro p lc e s m args below meth c H locs ls A Q dC dI cy ad ad0 n0 CX I hl hcl hcs hag hn hzz hret
  have CX' := CX
  have I' := I
  obtain ⟨hx, hb, hml, hr, hown, hts, hlk, hnm, hN, hT⟩ := CX
  obtain ⟨hK, hA, hR, hP, hD, hS, hch⟩ := I
  exact lv_icmp_lt hx hb (mj_dec hT ha) ht (fun q => kt q p lc e s m args below meth c H locs ls A Q dC dI cy ad ad0 n0 CX' I' hl hcl (mj_tl (mj_tl hcs)) hag hn hzz hret) (fun q => kf q p lc e s m args below meth c H locs ls A Q dC dI cy ad ad0 n0 CX' I' hl hcl (mj_tl (mj_tl hcs)) hag hn hzz hret)
theorem mj_icmp_ge {M : mj_M} {Fin : mj_F} {pc : Nat} {l : List (Nat × Value)} {st : List Value} {h : mj_H} {k n : Nat} {x y : Int32} (a : Nat) {off : Int} (tgt : Nat) (ha : M.2.2.2.2.2[a]? = some (pc, .if_icmp .ge off, 3)) (ht : (pc : Int) + off = (tgt : Int)) (kt : y ≤ x → mj_W M Fin tgt l st h k n) (kf : ¬ y ≤ x → mj_W M Fin (pc + 3) l st h k n) : mj_W M Fin pc l (.int y :: .int x :: st) h k n := by
  intro p lc e s m args below meth c H locs ls A Q dC dI cy ad ad0 n0 CX I hl hcl hcs hag hn hzz hret
  have CX' := CX
  have I' := I
  obtain ⟨hx, hb, hml, hr, hown, hts, hlk, hnm, hN, hT⟩ := CX
  obtain ⟨hK, hA, hR, hP, hD, hS, hch⟩ := I
  exact lv_icmp_ge hx hb (mj_dec hT ha) ht (fun q => kt q p lc e s m args below meth c H locs ls A Q dC dI cy ad ad0 n0 CX' I' hl hcl (mj_tl (mj_tl hcs)) hag hn hzz hret) (fun q => kf q p lc e s m args below meth c H locs ls A Q dC dI cy ad ad0 n0 CX' I' hl hcl (mj_tl (mj_tl hcs)) hag hn hzz hret)
theorem mj_icmp_gt {M : mj_M} {Fin : mj_F} {pc : Nat} {l : List (Nat × Value)} {st : List Value} {h : mj_H} {k n : Nat} {x y : Int32} (a : Nat) {off : Int} (tgt : Nat) (ha : M.2.2.2.2.2[a]? = some (pc, .if_icmp .gt off, 3)) (ht : (pc : Int) + off = (tgt : Int)) (kt : y < x → mj_W M Fin tgt l st h k n) (kf : ¬ y < x → mj_W M Fin (pc + 3) l st h k n) : mj_W M Fin pc l (.int y :: .int x :: st) h k n := by
  intro p lc e s m args below meth c H locs ls A Q dC dI cy ad ad0 n0 CX I hl hcl hcs hag hn hzz hret
  have CX' := CX
  have I' := I
  obtain ⟨hx, hb, hml, hr, hown, hts, hlk, hnm, hN, hT⟩ := CX
  obtain ⟨hK, hA, hR, hP, hD, hS, hch⟩ := I
  exact lv_icmp_gt hx hb (mj_dec hT ha) ht (fun q => kt q p lc e s m args below meth c H locs ls A Q dC dI cy ad ad0 n0 CX' I' hl hcl (mj_tl (mj_tl hcs)) hag hn hzz hret) (fun q => kf q p lc e s m args below meth c H locs ls A Q dC dI cy ad ad0 n0 CX' I' hl hcl (mj_tl (mj_tl hcs)) hag hn hzz hret)
theorem mj_icmp_le {M : mj_M} {Fin : mj_F} {pc : Nat} {l : List (Nat × Value)} {st : List Value} {h : mj_H} {k n : Nat} {x y : Int32} (a : Nat) {off : Int} (tgt : Nat) (ha : M.2.2.2.2.2[a]? = some (pc, .if_icmp .le off, 3)) (ht : (pc : Int) + off = (tgt : Int)) (kt : x ≤ y → mj_W M Fin tgt l st h k n) (kf : ¬ x ≤ y → mj_W M Fin (pc + 3) l st h k n) : mj_W M Fin pc l (.int y :: .int x :: st) h k n := by
  intro p lc e s m args below meth c H locs ls A Q dC dI cy ad ad0 n0 CX I hl hcl hcs hag hn hzz hret
  have CX' := CX
  have I' := I
  obtain ⟨hx, hb, hml, hr, hown, hts, hlk, hnm, hN, hT⟩ := CX
  obtain ⟨hK, hA, hR, hP, hD, hS, hch⟩ := I
  exact lv_icmp_le hx hb (mj_dec hT ha) ht (fun q => kt q p lc e s m args below meth c H locs ls A Q dC dI cy ad ad0 n0 CX' I' hl hcl (mj_tl (mj_tl hcs)) hag hn hzz hret) (fun q => kf q p lc e s m args below meth c H locs ls A Q dC dI cy ad ad0 n0 CX' I' hl hcl (mj_tl (mj_tl hcs)) hag hn hzz hret)
theorem mj_lcmp_eq {M : mj_M} {Fin : mj_F} {pc : Nat} {l : List (Nat × Value)} {st : List Value} {h : mj_H} {k n : Nat} {x y : Int64} (a : Nat) {off : Int} (tgt : Nat) (hc0 : M.2.2.2.2.2[a]? = some (pc, .lcmp, 1)) (ha : M.2.2.2.2.2[a + 1]? = some (pc + 1, .ifCond .eq off, 3)) (ht : ((pc + 1 : Nat) : Int) + off = (tgt : Int)) (kt : x = y → mj_W M Fin tgt l st h k n) (kf : ¬ x = y → mj_W M Fin (pc + 1 + 3) l st h k n) : mj_W M Fin pc l (.long y :: .long x :: st) h k n := by
  intro p lc e s m args below meth c H locs ls A Q dC dI cy ad ad0 n0 CX I hl hcl hcs hag hn hzz hret
  have CX' := CX
  have I' := I
  obtain ⟨hx, hb, hml, hr, hown, hts, hlk, hnm, hN, hT⟩ := CX
  obtain ⟨hK, hA, hR, hP, hD, hS, hch⟩ := I
  refine W.lcmp hx hb (mj_dec hT hc0) ?_
  exact lv_if_eq hx hb (mj_dec hT ha) ht (fun q => kt ((lg_cmp_eq x y).mp q) p lc e s m args below meth c H locs ls A Q dC dI cy ad ad0 n0 CX' I' hl hcl (mj_tl (mj_tl hcs)) hag hn hzz hret) (fun q => kf ((not_congr (lg_cmp_eq x y)).mp q) p lc e s m args below meth c H locs ls A Q dC dI cy ad ad0 n0 CX' I' hl hcl (mj_tl (mj_tl hcs)) hag hn hzz hret)
theorem mj_lcmp_ne {M : mj_M} {Fin : mj_F} {pc : Nat} {l : List (Nat × Value)} {st : List Value} {h : mj_H} {k n : Nat} {x y : Int64} (a : Nat) {off : Int} (tgt : Nat) (hc0 : M.2.2.2.2.2[a]? = some (pc, .lcmp, 1)) (ha : M.2.2.2.2.2[a + 1]? = some (pc + 1, .ifCond .ne off, 3)) (ht : ((pc + 1 : Nat) : Int) + off = (tgt : Int)) (kt : ¬ x = y → mj_W M Fin tgt l st h k n) (kf : x = y → mj_W M Fin (pc + 1 + 3) l st h k n) : mj_W M Fin pc l (.long y :: .long x :: st) h k n := by
  intro p lc e s m args below meth c H locs ls A Q dC dI cy ad ad0 n0 CX I hl hcl hcs hag hn hzz hret
  have CX' := CX
  have I' := I
  obtain ⟨hx, hb, hml, hr, hown, hts, hlk, hnm, hN, hT⟩ := CX
  obtain ⟨hK, hA, hR, hP, hD, hS, hch⟩ := I
  refine W.lcmp hx hb (mj_dec hT hc0) ?_
  exact lv_if_ne hx hb (mj_dec hT ha) ht (fun q => kt ((not_congr (lg_cmp_eq x y)).mp q) p lc e s m args below meth c H locs ls A Q dC dI cy ad ad0 n0 CX' I' hl hcl (mj_tl (mj_tl hcs)) hag hn hzz hret) (fun q => kf ((lg_cmp_eq x y).mp q) p lc e s m args below meth c H locs ls A Q dC dI cy ad ad0 n0 CX' I' hl hcl (mj_tl (mj_tl hcs)) hag hn hzz hret)
theorem mj_lcmp_lt {M : mj_M} {Fin : mj_F} {pc : Nat} {l : List (Nat × Value)} {st : List Value} {h : mj_H} {k n : Nat} {x y : Int64} (a : Nat) {off : Int} (tgt : Nat) (hc0 : M.2.2.2.2.2[a]? = some (pc, .lcmp, 1)) (ha : M.2.2.2.2.2[a + 1]? = some (pc + 1, .ifCond .lt off, 3)) (ht : ((pc + 1 : Nat) : Int) + off = (tgt : Int)) (kt : x < y → mj_W M Fin tgt l st h k n) (kf : ¬ x < y → mj_W M Fin (pc + 1 + 3) l st h k n) : mj_W M Fin pc l (.long y :: .long x :: st) h k n := by
  intro p lc e s m args below meth c H locs ls A Q dC dI cy ad ad0 n0 CX I hl hcl hcs hag hn hzz hret
  have CX' := CX
  have I' := I
  obtain ⟨hx, hb, hml, hr, hown, hts, hlk, hnm, hN, hT⟩ := CX
  obtain ⟨hK, hA, hR, hP, hD, hS, hch⟩ := I
  refine W.lcmp hx hb (mj_dec hT hc0) ?_
  exact lv_if_lt hx hb (mj_dec hT ha) ht (fun q => kt ((lg_cmp_lt x y).mp q) p lc e s m args below meth c H locs ls A Q dC dI cy ad ad0 n0 CX' I' hl hcl (mj_tl (mj_tl hcs)) hag hn hzz hret) (fun q => kf ((not_congr (lg_cmp_lt x y)).mp q) p lc e s m args below meth c H locs ls A Q dC dI cy ad ad0 n0 CX' I' hl hcl (mj_tl (mj_tl hcs)) hag hn hzz hret)
theorem mj_lcmp_ge {M : mj_M} {Fin : mj_F} {pc : Nat} {l : List (Nat × Value)} {st : List Value} {h : mj_H} {k n : Nat} {x y : Int64} (a : Nat) {off : Int} (tgt : Nat) (hc0 : M.2.2.2.2.2[a]? = some (pc, .lcmp, 1)) (ha : M.2.2.2.2.2[a + 1]? = some (pc + 1, .ifCond .ge off, 3)) (ht : ((pc + 1 : Nat) : Int) + off = (tgt : Int)) (kt : y ≤ x → mj_W M Fin tgt l st h k n) (kf : ¬ y ≤ x → mj_W M Fin (pc + 1 + 3) l st h k n) : mj_W M Fin pc l (.long y :: .long x :: st) h k n := by
  intro p lc e s m args below meth c H locs ls A Q dC dI cy ad ad0 n0 CX I hl hcl hcs hag hn hzz hret
  have CX' := CX
  have I' := I
  obtain ⟨hx, hb, hml, hr, hown, hts, hlk, hnm, hN, hT⟩ := CX
  obtain ⟨hK, hA, hR, hP, hD, hS, hch⟩ := I
  refine W.lcmp hx hb (mj_dec hT hc0) ?_
  exact lv_if_ge hx hb (mj_dec hT ha) ht (fun q => kt ((lg_cmp_ge x y).mp q) p lc e s m args below meth c H locs ls A Q dC dI cy ad ad0 n0 CX' I' hl hcl (mj_tl (mj_tl hcs)) hag hn hzz hret) (fun q => kf ((not_congr (lg_cmp_ge x y)).mp q) p lc e s m args below meth c H locs ls A Q dC dI cy ad ad0 n0 CX' I' hl hcl (mj_tl (mj_tl hcs)) hag hn hzz hret)
theorem mj_lcmp_gt {M : mj_M} {Fin : mj_F} {pc : Nat} {l : List (Nat × Value)} {st : List Value} {h : mj_H} {k n : Nat} {x y : Int64} (a : Nat) {off : Int} (tgt : Nat) (hc0 : M.2.2.2.2.2[a]? = some (pc, .lcmp, 1)) (ha : M.2.2.2.2.2[a + 1]? = some (pc + 1, .ifCond .gt off, 3)) (ht : ((pc + 1 : Nat) : Int) + off = (tgt : Int)) (kt : y < x → mj_W M Fin tgt l st h k n) (kf : ¬ y < x → mj_W M Fin (pc + 1 + 3) l st h k n) : mj_W M Fin pc l (.long y :: .long x :: st) h k n := by
  intro p lc e s m args below meth c H locs ls A Q dC dI cy ad ad0 n0 CX I hl hcl hcs hag hn hzz hret
  have CX' := CX
  have I' := I
  obtain ⟨hx, hb, hml, hr, hown, hts, hlk, hnm, hN, hT⟩ := CX
  obtain ⟨hK, hA, hR, hP, hD, hS, hch⟩ := I
  refine W.lcmp hx hb (mj_dec hT hc0) ?_
  exact lv_if_gt hx hb (mj_dec hT ha) ht (fun q => kt ((lg_cmp_gt x y).mp q) p lc e s m args below meth c H locs ls A Q dC dI cy ad ad0 n0 CX' I' hl hcl (mj_tl (mj_tl hcs)) hag hn hzz hret) (fun q => kf ((not_congr (lg_cmp_gt x y)).mp q) p lc e s m args below meth c H locs ls A Q dC dI cy ad ad0 n0 CX' I' hl hcl (mj_tl (mj_tl hcs)) hag hn hzz hret)
theorem mj_lcmp_le {M : mj_M} {Fin : mj_F} {pc : Nat} {l : List (Nat × Value)} {st : List Value} {h : mj_H} {k n : Nat} {x y : Int64} (a : Nat) {off : Int} (tgt : Nat) (hc0 : M.2.2.2.2.2[a]? = some (pc, .lcmp, 1)) (ha : M.2.2.2.2.2[a + 1]? = some (pc + 1, .ifCond .le off, 3)) (ht : ((pc + 1 : Nat) : Int) + off = (tgt : Int)) (kt : x ≤ y → mj_W M Fin tgt l st h k n) (kf : ¬ x ≤ y → mj_W M Fin (pc + 1 + 3) l st h k n) : mj_W M Fin pc l (.long y :: .long x :: st) h k n := by
  intro p lc e s m args below meth c H locs ls A Q dC dI cy ad ad0 n0 CX I hl hcl hcs hag hn hzz hret
  have CX' := CX
  have I' := I
  obtain ⟨hx, hb, hml, hr, hown, hts, hlk, hnm, hN, hT⟩ := CX
  obtain ⟨hK, hA, hR, hP, hD, hS, hch⟩ := I
  refine W.lcmp hx hb (mj_dec hT hc0) ?_
  exact lv_if_le hx hb (mj_dec hT ha) ht (fun q => kt ((lg_cmp_le x y).mp q) p lc e s m args below meth c H locs ls A Q dC dI cy ad ad0 n0 CX' I' hl hcl (mj_tl (mj_tl hcs)) hag hn hzz hret) (fun q => kf ((not_congr (lg_cmp_le x y)).mp q) p lc e s m args below meth c H locs ls A Q dC dI cy ad ad0 n0 CX' I' hl hcl (mj_tl (mj_tl hcs)) hag hn hzz hret)
theorem mj_ifnull {M : mj_M} {Fin : mj_F} {pc : Nat} {l : List (Nat × Value)} {st : List Value} {h : mj_H} {k n : Nat} {b : Nat} (a : Nat) {off : Int} (ha : M.2.2.2.2.2[a]? = some (pc, .ifnull off, 3)) (kk : mj_W M Fin (pc + 3) l st h k n) : mj_W M Fin pc l (.ref b :: st) h k n := by
  intro p lc e s m args below meth c H locs ls A Q dC dI cy ad ad0 n0 CX I hl hcl hcs hag hn hzz hret
  have CX' := CX
  have I' := I
  obtain ⟨hx, hb, hml, hr, hown, hts, hlk, hnm, hN, hT⟩ := CX
  obtain ⟨hK, hA, hR, hP, hD, hS, hch⟩ := I
  exact lv_ifnull hx hb (mj_dec hT ha) (kk p lc e s m args below meth c H locs ls A Q dC dI cy ad ad0 n0 CX' I' hl hcl (mj_tl hcs) hag hn hzz hret)
theorem mj_ifnonnull {M : mj_M} {Fin : mj_F} {pc : Nat} {l : List (Nat × Value)} {st : List Value} {h : mj_H} {k n : Nat} {b : Nat} (a : Nat) {off : Int} (tgt : Nat) (ha : M.2.2.2.2.2[a]? = some (pc, .ifnonnull off, 3)) (ht : (pc : Int) + off = (tgt : Int)) (kk : mj_W M Fin tgt l st h k n) : mj_W M Fin pc l (.ref b :: st) h k n := by
  intro p lc e s m args below meth c H locs ls A Q dC dI cy ad ad0 n0 CX I hl hcl hcs hag hn hzz hret
  have CX' := CX
  have I' := I
  obtain ⟨hx, hb, hml, hr, hown, hts, hlk, hnm, hN, hT⟩ := CX
  obtain ⟨hK, hA, hR, hP, hD, hS, hch⟩ := I
  exact lv_ifnonnull hx hb (mj_dec hT ha) ht (kk p lc e s m args below meth c H locs ls A Q dC dI cy ad ad0 n0 CX' I' hl hcl (mj_tl hcs) hag hn hzz hret)
theorem mj_swIn {M : mj_M} {Fin : mj_F} {pc : Nat} {l : List (Nat × Value)} {st : List Value} {h : mj_H} {k n : Nat} {x : Int32} (a : Nat) {df lo hi : Int} {offs : Array Int} {len : Nat} (z : Int32) {off : Int} (tgt : Nat) (hz : x = z) (ha : M.2.2.2.2.2[a]? = some (pc, .tableswitch df lo hi offs, len)) (h1 : ¬ z.toInt < lo) (h2 : ¬ hi < z.toInt) (ho : offs[(z.toInt - lo).toNat]? = some off) (ht : (pc : Int) + off = (tgt : Int)) (kk : mj_W M Fin tgt l st h k n) : mj_W M Fin pc l (.int x :: st) h k n := by
  intro p lc e s m args below meth c H locs ls A Q dC dI cy ad ad0 n0 CX I hl hcl hcs hag hn hzz hret
  have CX' := CX
  have I' := I
  obtain ⟨hx, hb, hml, hr, hown, hts, hlk, hnm, hN, hT⟩ := CX
  obtain ⟨hK, hA, hR, hP, hD, hS, hch⟩ := I
  subst hz
  exact lv_tableIn hx hb (mj_dec hT ha) h1 h2 ho ht (kk p lc e s m args below meth c H locs ls A Q dC dI cy ad ad0 n0 CX' I' hl hcl (mj_tl hcs) hag hn hzz hret)
theorem mj_swOut {M : mj_M} {Fin : mj_F} {pc : Nat} {l : List (Nat × Value)} {st : List Value} {h : mj_H} {k n : Nat} {x : Int32} (a : Nat) {df lo hi : Int} {offs : Array Int} {len : Nat} (tgt : Nat) (ha : M.2.2.2.2.2[a]? = some (pc, .tableswitch df lo hi offs, len)) (hz : x.toInt < lo ∨ hi < x.toInt) (ht : (pc : Int) + df = (tgt : Int)) (kk : mj_W M Fin tgt l st h k n) : mj_W M Fin pc l (.int x :: st) h k n := by
  intro p lc e s m args below meth c H locs ls A Q dC dI cy ad ad0 n0 CX I hl hcl hcs hag hn hzz hret
  have CX' := CX
  have I' := I
  obtain ⟨hx, hb, hml, hr, hown, hts, hlk, hnm, hN, hT⟩ := CX
  obtain ⟨hK, hA, hR, hP, hD, hS, hch⟩ := I
  exact lv_tableOut hx hb (mj_dec hT ha) hz ht (kk p lc e s m args below meth c H locs ls A Q dC dI cy ad ad0 n0 CX' I' hl hcl (mj_tl hcs) hag hn hzz hret)
theorem mj_neI {x z : Int32} {i : Int} (hi : z.toInt = i) (h : ¬ x = z) : x.toInt ≠ i := fun e => h (Int32.toInt_inj.mp (e.trans hi.symm))
theorem mj_idiv {M : mj_M} {Fin : mj_F} {pc : Nat} {l : List (Nat × Value)} {st : List Value} {h : mj_H} {k n : Nat} {x y : Int32} (a : Nat) (ha : M.2.2.2.2.2[a]? = some (pc, .idiv, 1)) (hy : ¬ y = 0) (kk : mj_W M Fin (pc + 1) l (.int (x / y) :: st) h k n) : mj_W M Fin pc l (.int y :: .int x :: st) h k n := by
  intro p lc e s m args below meth c H locs ls A Q dC dI cy ad ad0 n0 CX I hl hcl hcs hag hn hzz hret
  have CX' := CX
  have I' := I
  obtain ⟨hx, hb, hml, hr, hown, hts, hlk, hnm, hN, hT⟩ := CX
  obtain ⟨hK, hA, hR, hP, hD, hS, hch⟩ := I
  exact lv_idiv hx hb (mj_dec hT ha) hy (kk p lc e s m args below meth c H locs ls A Q dC dI cy ad ad0 n0 CX' I' hl hcl (mj_cs trivial (mj_tl (mj_tl hcs))) hag hn hzz hret)
theorem mj_irem {M : mj_M} {Fin : mj_F} {pc : Nat} {l : List (Nat × Value)} {st : List Value} {h : mj_H} {k n : Nat} {x y : Int32} (a : Nat) (ha : M.2.2.2.2.2[a]? = some (pc, .irem, 1)) (hy : ¬ y = 0) (kk : mj_W M Fin (pc + 1) l (.int (x - x / y * y) :: st) h k n) : mj_W M Fin pc l (.int y :: .int x :: st) h k n := by
  intro p lc e s m args below meth c H locs ls A Q dC dI cy ad ad0 n0 CX I hl hcl hcs hag hn hzz hret
  have CX' := CX
  have I' := I
  obtain ⟨hx, hb, hml, hr, hown, hts, hlk, hnm, hN, hT⟩ := CX
  obtain ⟨hK, hA, hR, hP, hD, hS, hch⟩ := I
  exact lv_irem hx hb (mj_dec hT ha) hy (kk p lc e s m args below meth c H locs ls A Q dC dI cy ad ad0 n0 CX' I' hl hcl (mj_cs trivial (mj_tl (mj_tl hcs))) hag hn hzz hret)
theorem mj_ldiv {M : mj_M} {Fin : mj_F} {pc : Nat} {l : List (Nat × Value)} {st : List Value} {h : mj_H} {k n : Nat} {x y : Int64} (a : Nat) (ha : M.2.2.2.2.2[a]? = some (pc, .ldiv, 1)) (hy : ¬ y = 0) (kk : mj_W M Fin (pc + 1) l (.long (x / y) :: st) h k n) : mj_W M Fin pc l (.long y :: .long x :: st) h k n := by
  intro p lc e s m args below meth c H locs ls A Q dC dI cy ad ad0 n0 CX I hl hcl hcs hag hn hzz hret
  have CX' := CX
  have I' := I
  obtain ⟨hx, hb, hml, hr, hown, hts, hlk, hnm, hN, hT⟩ := CX
  obtain ⟨hK, hA, hR, hP, hD, hS, hch⟩ := I
  exact lv_ldiv hx hb (mj_dec hT ha) hy (kk p lc e s m args below meth c H locs ls A Q dC dI cy ad ad0 n0 CX' I' hl hcl (mj_cs trivial (mj_tl (mj_tl hcs))) hag hn hzz hret)
theorem mj_lrem {M : mj_M} {Fin : mj_F} {pc : Nat} {l : List (Nat × Value)} {st : List Value} {h : mj_H} {k n : Nat} {x y : Int64} (a : Nat) (ha : M.2.2.2.2.2[a]? = some (pc, .lrem, 1)) (hy : ¬ y = 0) (kk : mj_W M Fin (pc + 1) l (.long (x - x / y * y) :: st) h k n) : mj_W M Fin pc l (.long y :: .long x :: st) h k n := by
  intro p lc e s m args below meth c H locs ls A Q dC dI cy ad ad0 n0 CX I hl hcl hcs hag hn hzz hret
  have CX' := CX
  have I' := I
  obtain ⟨hx, hb, hml, hr, hown, hts, hlk, hnm, hN, hT⟩ := CX
  obtain ⟨hK, hA, hR, hP, hD, hS, hch⟩ := I
  exact lv_lrem hx hb (mj_dec hT ha) hy (kk p lc e s m args below meth c H locs ls A Q dC dI cy ad ad0 n0 CX' I' hl hcl (mj_cs trivial (mj_tl (mj_tl hcs))) hag hn hzz hret)
