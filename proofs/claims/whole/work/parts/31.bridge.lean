/-! THE CLAIM OUT OF ONE WALK OF THE LAW'S BODY. Your part is whole_start (and what it stands on); all else here is the same for every law, but numbers. -/
def R_law : String := "RiverChoiceLaw"
def lw_P (b : Addr) (xs : List Int32) (args : Array Value) (s : State) : Prop := args = #[.ref b] ∧ s.IntsAt b xs ∧ xs.length ≤ 448 ∧ (Jvm.Cond.and given_1 narrow_1).before args s = true
def lw_Q (_ : Array Value) (s : State) (o : Outcome) (t : State) : Prop := o = .returned (some (.int 1)) ∧ Framed s o t [] 65 3281
def lw_Z (below : List Frame) (a : Array Value) (s : State) : State → Prop := fun t => ∃ o, t.status = .running ∧ Ended t below o ∧ lw_Q a s o t
/-- the law's own end, with 1 on the stack, nothing written that was there before, its room as the claim has it -/
theorem lw_ret {p : Program} {l : Launch} {e : Env} {s : State} {m : MethodId} {below : List Frame} {meth : Method} {c : Code} {b : Nat} (hx : p.tables.exec = Jvm.exec) (hb : c.code = code) (hr : meth.sig.returnType = ret) (hlocks : meth.locks = false) {pc : Nat} {H : Heap} {ls : Array Slot} (hdg : decode code pc = .ok (.ireturn, 1)) : W p l e room_1 s m #[Value.ref b] below meth c H [] 65 3281 (lw_Z below #[Value.ref b] s) (F0 m pc ls [.int 1]) := by
  intro T hT X
  obtain ⟨fs, hret, hrun, hended, hW, hframe⟩ := X.leave (v := some (.int 1)) (hlocks := hlocks) (fun h => by rw [hr] at h; cases h)
  have hmeth' : T.vm.method? m = some meth := X.method'
  refine ⟨T.setFrames fs, ?_, .returned (some (.int 1)), hrun, hended, rfl, ⟨_, rfl⟩, hW, hframe⟩
  jvm_step X.here [X.here.top, hx, hb, hdg, hmeth', hr, ret, narrow_b1]
  (try refine ⟨rfl, ?_⟩); (try refine ⟨rfl, ?_⟩)
  first | (intro acts; rw [hret _ acts rfl rfl rfl]) | rw [hret _ _ rfl rfl rfl]
  exact Steps.refl _
/-- what holds at the law's entry: the machine, the code, the tables' words (any of lw_tbl by 'hts w (by decide +kernel)'), the script of L ints xs at the cell b, what the Statement gives of the start (any of its parts by flat_of_before) -/
def lw_At (p : Program) (s : State) (m : MethodId) (meth : Method) (c : Code) (b L : Nat) (xs : Nat → Int32) : Prop :=
  p.tables.exec = Jvm.exec ∧ c.code = code ∧ meth.sig.returnType = ret ∧ c.maxLocals = 4 ∧ s.vm.findClass R_law = some m.cls ∧ (∀ w ∈ lw_tbl, w.before #[Value.ref b] s = true) ∧ va_X b L xs s s.heap ∧ b < s.heap.size ∧ meth.locks = false ∧ (Jvm.Cond.and given_1 narrow_1).before #[Value.ref b] s = true
-- ===== YOUR PART BEGINS =====
/-! the bridge: whole_start out of the pure theorem -/
def mj_tm (i : Nat) : Term := .string "RiverChoice$Reader" ((mj_keys.getD i (0, "")).1)
def mj_fl : List Jvm.Cond := flatC (Jvm.Cond.and given_1 narrow_1)
theorem br_q : ∀ q ∈ mj_stat, Jvm.Cond.arrayOf (.static q.1 q.2.1 "[I") .int ∈ mj_fl ∧ Jvm.Cond.eq (.length (.static q.1 q.2.1 "[I")) (.int (Int32.ofNat (mj_roN q.2.2))) ∈ mj_fl ∧ mj_roN q.2.2 < 100 := by decide +kernel
theorem br_el : ∀ q ∈ mj_stat, ∀ j, j < mj_roN q.2.2 → Jvm.Cond.eq (.elem (.static q.1 q.2.1 "[I") (.int (Int32.ofNat j))) (.int (mj_roI q.2.2 j)) ∈ mj_fl := by decide +kernel
theorem br_st : ∀ q ∈ mj_stat, Jvm.Cond.laysStatic q.1 q.2.1 "[I" ∈ lw_tbl ∧ Jvm.Cond.initialized q.1 ∈ lw_tbl := by decide +kernel
theorem br_cs : Jvm.Cond.laysStatic "java/lang/String" "COMPACT_STRINGS" "Z" ∈ lw_tbl ∧ Jvm.Cond.initialized "java/lang/String" ∈ lw_tbl ∧ Jvm.Cond.eq (.static "java/lang/String" "COMPACT_STRINGS" "Z") (.int 1) ∈ mj_fl := by decide +kernel
theorem br_pc : Jvm.Cond.laysStatic "jdk/internal/util/Preconditions" "SIOOBE_FORMATTER" "Ljava/util/function/BiFunction;" ∈ lw_tbl ∧ Jvm.Cond.initialized "jdk/internal/util/Preconditions" ∈ lw_tbl ∧ Jvm.Cond.isRef (.static "jdk/internal/util/Preconditions" "SIOOBE_FORMATTER" "Ljava/util/function/BiFunction;") ∈ mj_fl := by decide +kernel
theorem br_s1 : ∀ i, i < 5 → Jvm.Cond.exactly (mj_tm i) "java/lang/String" ∈ mj_fl ∧ Jvm.Cond.eq (.field (mj_tm i) "java/lang/String" "coder" "B") (.int 0) ∈ mj_fl ∧ Jvm.Cond.arrayOf (.field (mj_tm i) "java/lang/String" "value" "[B") .byte ∈ mj_fl ∧ Jvm.Cond.eq (.length (.field (mj_tm i) "java/lang/String" "value" "[B")) (.int (Int32.ofNat (mj_lens.getD i 0))) ∈ mj_fl ∧ mj_lens.getD i 0 < 100 := by decide +kernel
theorem br_s2 : ∀ i, i < 5 → ∀ j, j < mj_lens.getD i 0 → Jvm.Cond.eq (.elem (.field (mj_tm i) "java/lang/String" "value" "[B") (.int (Int32.ofNat j))) (.int ((mj_strs.getD i []).getD j 0)) ∈ mj_fl := by decide +kernel
theorem br_s3 : ∀ i, i < 5 → ∀ j, j < 5 → i ≠ j → (Jvm.Cond.not (Jvm.Cond.eq (mj_tm i) (mj_tm j)) ∈ mj_fl ∨ Jvm.Cond.not (Jvm.Cond.eq (mj_tm j) (mj_tm i)) ∈ mj_fl) := by decide +kernel
theorem br_s4 : ∀ i, i < 5 → Jvm.Cond.stringRef "RiverChoice$Reader" (mj_keys.getD i (0, "")).1 (mj_keys.getD i (0, "")).2 ∈ lw_tbl := by decide +kernel
theorem br_ar : Jvm.Cond.arrayClass .int ∈ lw_tbl ∧ Jvm.Cond.arrayClass .long ∈ lw_tbl ∧ Jvm.Cond.arrayClass .boolean ∈ lw_tbl := by decide +kernel
theorem br_in : ∀ (k : Nat) (q : vw_C), vwCl[k]? = some q → (∀ w ∈ u_ws q.1 q.2.1 q.2.2, w ∈ lw_tbl) ∧ Jvm.Cond.instantiable q.1 q.2.2 ∈ lw_tbl := by
  have h : ∀ k, k < 10 → ∀ q, vwCl[k]? = some q → (∀ w ∈ u_ws q.1 q.2.1 q.2.2, w ∈ lw_tbl) ∧ Jvm.Cond.instantiable q.1 q.2.2 ∈ lw_tbl := by
    intro k hk q hq
    have s : ∀ (C : String) (T : u_T) (N : Nat), (∀ w ∈ u_ws C T N, w ∈ mj_G) → ∀ w ∈ u_ws C T N, w ∈ lw_tbl := fun C T N z w hw => (List.mem_filter.mp (z w hw)).1
    match k, hk, hq with
    | 0, _, hq => cases hq; exact ⟨s _ _ _ uw_X0, by decide +kernel⟩
    | 1, _, hq => cases hq; exact ⟨s _ _ _ uw_X1, by decide +kernel⟩
    | 2, _, hq => cases hq; exact ⟨s _ _ _ uw_X2, by decide +kernel⟩
    | 3, _, hq => cases hq; exact ⟨s _ _ _ uw_X3, by decide +kernel⟩
    | 4, _, hq => cases hq; exact ⟨s _ _ _ uw_X4, by decide +kernel⟩
    | 5, _, hq => cases hq; exact ⟨s _ _ _ uw_X5, by decide +kernel⟩
    | 6, _, hq => cases hq; exact ⟨s _ _ _ uw_X6, by decide +kernel⟩
    | 7, _, hq => cases hq; exact ⟨s _ _ _ uw_X7, by decide +kernel⟩
    | 8, _, hq => cases hq; exact ⟨s _ _ _ uw_X8, by decide +kernel⟩
    | 9, _, hq => cases hq; exact ⟨s _ _ _ uw_X9, by decide +kernel⟩
  intro k q hq
  have hl : k < vwCl.length := (List.getElem?_eq_some_iff.mp hq).1
  exact h k hl q hq
theorem br_arr {s : State} {args : Array Value} {ty : FieldType} (h : (Jvm.Cond.arrayClass ty).before args s = true) : ∃ cA, ArrOfT s cA ty ∧ s.vm.findClass ("[" ++ ty.toString) = some cA := by
  obtain ⟨c, k, comp, h1, h2, h3⟩ := Cond.arrayClass_spec (args := args) (first := s) (o := none) (s := s) (idx := []) (type := ty) h
  exact ⟨c, fun n z => ⟨fun k h => (by cases h), k, h2, comp, h3⟩, h1⟩
set_option maxHeartbeats 4000000 in
set_option maxRecDepth 100000 in
theorem whole_start_of (hpure : ∀ (L : Nat) (xs : Nat → Int32), L ≤ 448 → ∃ q : Int32 × mj_H, f_L_law L xs [] = some q ∧ q.1 = 1) {p : Program} {e : Env} {s : State} {m : MethodId} {below : List Frame} {meth : Method} {c : Code} (l : Launch) (hflags : l.flags = flags0) {b L : Nat} {xs : Nat → Int32} (hL : L ≤ 448) (C0 : lw_At p s m meth c b L xs) : W p l e room_1 s m #[Value.ref b] below meth c s.heap [] 0 0 (lw_Z below #[Value.ref b] s) (entryFrame m ([Value.ref b] : List Value).toArray 4) := by
  obtain ⟨hx, hb, hr, hml, hown, hts, hX, hbl, hlocks, hgv⟩ := id C0
  have hs : ∀ w ∈ mj_fl, w.before #[Value.ref b] s = true := flat_of_before _ hgv
  have hA0 : ∀ a : Nat, a < s.heap.size → ¬ (fun q : Nat => s.heap.size ≤ q) a := fun a h => Nat.not_le.mpr h
  have hT0 : ∀ q ∈ mj_stat, ∃ t : Nat, va_Z q.1 q.2.1 "[I" (.ref t) (fun q : Nat => s.heap.size ≤ q) s s.heap ∧ va_T .int t (mj_roN q.2.2) (fun j => .int (mj_roI q.2.2 j)) (fun q : Nat => s.heap.size ≤ q) s s.heap := by
    intro q hq
    obtain ⟨g1, g2, g3⟩ := br_q q hq
    obtain ⟨t, e1, e2⟩ := va_Tof (f := fun j => .int (mj_roI q.2.2 j)) (by omega) (hs _ g1) (va_eqt (hs _ g2)) (fun j hj => va_eqt (hs _ (br_el q hq j hj))) hA0
    exact ⟨t, va_Zref (hts _ (br_st q hq).1) (hts _ (br_st q hq).2) e1 hA0, e2⟩
  obtain ⟨t0, hz0, ht0⟩ := hT0 ("RiverChoice", "CASES", 0) (by decide)
  obtain ⟨t1, hz1, ht1⟩ := hT0 ("RiverChoice", "COSTS", 1) (by decide)
  obtain ⟨t2, hz2, ht2⟩ := hT0 ("RiverChoice$Reader", "NEEDS", 2) (by decide)
  obtain ⟨adK, adV, hSS, hev⟩ := vk_Sof (args := #[Value.ref b]) (s := s) (N := 5) (tm := mj_tm) (len := mj_lens) (byt := mj_strs) (A := fun q : Nat => s.heap.size ≤ q) (fun i hi => Nat.lt_of_lt_of_le (br_s1 i hi).2.2.2.2 (by decide)) (fun i hi => hs _ (br_s1 i hi).1) (fun i hi => hs _ (br_s1 i hi).2.1) (fun i hi => hs _ (br_s1 i hi).2.2.1) (fun i hi => hs _ (br_s1 i hi).2.2.2.1) (fun i hi j hj => hs _ (br_s2 i hi j hj)) (fun i j hi hj hij => (br_s3 i hi j hj hij).imp (hs _) (hs _)) hA0
  obtain ⟨cI, aI, nI0⟩ := br_arr (hts _ br_ar.1)
  obtain ⟨cJ, aJ, nJ0⟩ := br_arr (hts _ br_ar.2.1)
  obtain ⟨cZ, aZ, nZ0⟩ := br_arr (hts _ br_ar.2.2)
  have hkn : ∀ k : Nat, ∃ z : ClassId × (Nat → Nat), ∀ q : vw_C, vwCl[k]? = some q → u_Kn s q.1 q.2.1 q.2.2 z.1 z.2 := by
    intro k
    cases hq : vwCl[k]? with
    | none => exact ⟨(0, fun _ => 0), fun q h => by cases h⟩
    | some q =>
      obtain ⟨z1, z2⟩ := br_in k q hq
      obtain ⟨c1, i1, h1⟩ := u_known (ws := lw_tbl) (s := s) (args := #[Value.ref b]) (C := q.1) (T := q.2.1) (N := q.2.2) hts z1 (hts _ z2)
      exact ⟨(c1, i1), fun q' h => by cases h; exact h1⟩
  obtain ⟨kn, hkn⟩ := Classical.axiomOfChoice hkn
  obtain ⟨q, hq1, hq2⟩ := hpure L xs hL
  obtain ⟨ad, had⟩ : ∃ ad : Nat → Nat, ad = fun k => if k = 1000 then t0 else if k = 1001 then t1 else if k = 1002 then t2 else if 1010 ≤ k ∧ k < 1015 then adK (k - 1010) else if 1020 ≤ k ∧ k < 1025 then adV (k - 1020) else if k = 2000 then b else 0 := ⟨_, rfl⟩
  have a0 : ad 1000 = t0 := by rw [had]; rfl
  have a1 : ad 1001 = t1 := by rw [had]; rfl
  have a2 : ad 1002 = t2 := by rw [had]; rfl
  have aK : ∀ i, i < 5 → ad (1010 + i) = adK i := by
    intro i hi
    rw [had]
    simp only
    rw [if_neg (by omega), if_neg (by omega), if_neg (by omega), if_pos ⟨by omega, by omega⟩, Nat.add_sub_cancel_left]
  have aV : ∀ i, i < 5 → ad (1020 + i) = adV i := by
    intro i hi
    rw [had]
    simp only
    rw [if_neg (by omega), if_neg (by omega), if_neg (by omega), if_neg (by omega), if_pos ⟨by omega, by omega⟩, Nat.add_sub_cancel_left]
  have aB : ad 2000 = b := by rw [had]; rfl
  have hRR : mj_R ad (fun q : Nat => s.heap.size ≤ q) s s.heap := by
    refine ⟨?_, va_Zof (hts _ br_cs.1) (hts _ br_cs.2.1) (va_eqi (hs _ br_cs.2.2)) hA0, va_Zqof (hts _ br_pc.1) (hts _ br_pc.2.1) (hs _ br_pc.2.2) hA0, ?_, ?_⟩
    · intro q hq
      simp only [mj_stat, List.mem_cons, List.not_mem_nil, or_false] at hq
      rcases hq with rfl | rfl | rfl
      · show va_Z _ _ _ (.ref (ad 1000)) _ _ _ ∧ va_T _ (ad 1000) _ _ _ _ _
        rw [a0]; exact ⟨hz0, ht0⟩
      · show va_Z _ _ _ (.ref (ad 1001)) _ _ _ ∧ va_T _ (ad 1001) _ _ _ _ _
        rw [a1]; exact ⟨hz1, ht1⟩
      · show va_Z _ _ _ (.ref (ad 1002)) _ _ _ ∧ va_T _ (ad 1002) _ _ _ _ _
        rw [a2]; exact ⟨hz2, ht2⟩
    · refine ⟨fun i hi => ?_, fun i j hi hj e => ?_⟩
      · show va_O _ (ad (1010 + i)) _ _ _ ∧ va_OF _ _ _ _ (ad (1010 + i)) _ _ _ ∧ va_OF _ _ _ (.ref (ad (1020 + i))) (ad (1010 + i)) _ _ _ ∧ va_T _ (ad (1020 + i)) _ _ _ _ _
        rw [aK i hi, aV i hi]; exact hSS.1 i hi
      · have e : ad (1010 + i) = ad (1010 + j) := e
        rw [aK i hi, aK j hj] at e
        exact hSS.2 i j hi hj e
    · intro i q hq
      have hi : i < 5 := (List.getElem?_eq_some_iff.mp hq).1
      have e1 : mj_keys.getD i (0, "") = q := by rw [List.getD_eq_getElem?_getD, hq]; rfl
      rw [aK i hi, ← e1]
      exact vk_R.of (hts _ (br_s4 i hi)) (hev i hi)
  have hK : va_K (fun k => (kn k).1, fun k => (kn k).2) vwCl (mj_ty (fun k => if k = 0 then cI else if k = 1 then cJ else cZ)) s := by
    refine ⟨fun k q hq => hkn k q hq, fun k q hq => ?_⟩
    match k, hq with
    | 0, hq => cases hq; exact ⟨aI, nI0⟩
    | 1, hq => cases hq; exact ⟨aJ, nJ0⟩
    | 2, hq => cases hq; exact ⟨aZ, nZ0⟩
    | k + 3, hq => simp [mj_ty] at hq
  have hl := lv_entry ([.ref b]) (n := 4) (Nat.le_of_ble_eq_true rfl)
  rw [lg_entry_eq]
  generalize (lg_sl ([.ref b]) ++ List.replicate (4 - (lg_sl ([.ref b])).length) Slot.unset).toArray = ls at hl ⊢
  have hl : lv_has ls 4 (mj_l ad [(0, .ref 2000)]) := by
    show lv_has ls 4 [(0, .ref (ad 2000))]
    rw [aB]; exact hl
  have CX : mj_CX (mL_law meth.name) p s m #[Value.ref b] meth c := ⟨hx, hb, hml, hr, hown, fun w hw => hts w (List.mem_filter.mp hw).1, hlocks, rfl, fun w hw => by
      have h1 := hts w (List.mem_filter.mp hw).1
      have h2 := (List.mem_filter.mp hw).2
      cases w <;> first | (simp [mj_isN] at h2; done) | exact va_Nw.of rfl h1, tok_L_law⟩
  have hP : va_P (fun k => (kn k).1, fun k => (kn k).2) vwCl (mj_w (fun k => if k = 0 then cI else if k = 1 then cJ else cZ) ad []) s.heap := fun k q h => by simp [mj_w] at h
  have hD : va_D (fun q : Nat => s.heap.size ≤ q) (mj_w (fun k => if k = 0 then cI else if k = 1 then cJ else cZ) ad []) := ⟨fun i j p q h => by simp [mj_w] at h, fun k q h => by simp [mj_w] at h⟩
  refine w_L_law (nm := meth.name) L xs [] q hq1 p l e s m #[Value.ref b] below meth c s.heap [] ls (fun q : Nat => s.heap.size ≤ q) _ (fun k => (kn k).1) (fun k => (kn k).2) (fun k => if k = 0 then cI else if k = 1 then cJ else cZ) ad ad 0 CX ⟨hK, fun _ h => h, hRR, hP, hD, va_S.rf, ⟨by simp, fun c hc => by cases hc⟩⟩ hl (fun q hq => by
      rcases List.mem_cons.mp hq with rfl | hq
      · exact Or.inr (by decide)
      · cases hq) (fun v hv => by cases hv) (mj_ag.rf _ _) (Nat.le_refl _) ⟨by rw [aB]; exact hX, by rw [aB]; exact hbl, by rw [aB]; exact Nat.not_le.mpr hbl⟩ ?_
  intro pc H locs ls2 ad2 h2 r2 k2 n2 I2 hag2 hn2 hcr2 hfin hret hsz2 hk2 hns2
  obtain ⟨rfl, rfl⟩ := hfin
  rw [hq2] at hret ⊢
  obtain ⟨hd, -⟩ := hret
  have hS2 := I2.2.2.2.2.2.1
  refine W.widen (k := 65) (n := 3281) hk2 hns2 ?_
  refine va_forget (fun q hq => hS2.2.2 q hq) ?_
  exact lw_ret hx hb hr hlocks hd
