/-! String constants: length, charAt, by the JDK's own code -/
def mj_sl (b : Nat) : Option Int32 := if 1010 ≤ b ∧ b < 1015 then some (Int32.ofNat (mj_lens.getD (b - 1010) 0)) else none
def mj_sc (b : Nat) (j : Int32) : Option Int32 := if 1010 ≤ b ∧ b < 1015 then (if mj_ok j (mj_lens.getD (b - 1010) 0) = true then some ((mj_strs.getD (b - 1010) []).getD j.toNatClampNeg 0) else none) else none
def mj_sp (b : Nat) : Prop := ∃ i, i < 5 ∧ b = 1010 + i
theorem mj_sl_at {b : Nat} {x : Int32} (e : mj_sl b = some x) : mj_sp b := by
  unfold mj_sl at e
  obtain ⟨h1, -⟩ := mj_gp e
  exact ⟨b - 1010, by omega, by omega⟩
theorem mj_sc_at {b : Nat} {j x : Int32} (e : mj_sc b j = some x) : mj_sp b := by
  unfold mj_sc at e
  obtain ⟨h1, -⟩ := mj_gp e
  exact ⟨b - 1010, by omega, by omega⟩
theorem mj_callT {M : mj_M} {Fin : mj_F} {pc : Nat} {l : List (Nat × Value)} {st rest : List Value} {h h' : mj_H} {k n : Nat} {idx b np : Nat} {r : Option Value} (M' : mj_M) (as : List Value) (a : Nat) (ha : M.2.2.2.2.2[a]? = some (pc, .invokevirtual idx, 3)) (hL : mj_LL M.1.cls idx M') (hB : mj_LB M' np) (hi : Jvm.Cond.instanceMethod M'.1 ∈ mj_G ∧ Jvm.Cond.selects M'.1.cls M'.1 M'.1 ∈ mj_G) (hm : mj_rm M.2.2.2.2.1 M') (hrec : mj_sp b) (hcl0 : M'.1.cls = "java/lang/String") (hnp : as.length = np) (hst : st = as.reverse ++ .ref b :: rest) (hcat : (rest.map fun v => v.category).sum ≤ 8) (hk : k + M'.2.2.2.2.1.cells ≤ M.2.2.2.2.1.cells ∧ n + M'.2.2.2.2.1.slots ≤ M.2.2.2.2.1.slots) (hM : mj_Met M' (.ref b :: as) h r h')
    (kk : mj_W M Fin (pc + 3) l (r.toList ++ rest) h' (k + M'.2.2.2.2.1.cells) (n + M'.2.2.2.2.1.slots)) : mj_W M Fin pc l st h k n := by
  intro p lc e s m args below meth c H locs ls A Q dC dI cy ad ad0 n0 CX I hl hcl hcs hag hn hzz hret
  have CX' := CX
  obtain ⟨hx, hb, hml, hr, hown, hts, hlk, hnm, hN, hT⟩ := CX
  subst hst
  have hca : ∀ v ∈ Value.ref b :: as, mj_cv h.length v := by
    intro v hv
    rcases List.mem_cons.mp hv with rfl | hv
    · exact hcs _ (List.mem_append_right _ List.mem_cons_self)
    · exact hcs _ (List.mem_append_left _ (List.mem_reverse.mpr hv))
  have hcr : ∀ v ∈ rest, mj_cv h.length v := fun v hv => hcs _ (List.mem_append_right _ (List.mem_cons_of_mem _ hv))
  have hMt := hM lc dC dI cy ad H.size hca
  have hrecv : ∃ cellB : Cell, H[ad b]? = some cellB ∧ cellB.vm.isStatics = false ∧ s.vm.findClass M'.1.cls = some cellB.cls := by
    obtain ⟨i, h1, rfl⟩ := hrec
    rw [hcl0]
    exact vk_recv (adK := fun i => ad (1010 + i)) (adV := fun i => ad (1020 + i)) (i := i) I.2.2.1.2.2.2.1 h1 I.2.2.2.2.2.1
  have hp : PreV s H M'.1.cls (ad b) (va_Pc ((Value.ref b :: as).map (mj_v ad)) (mj_Pre dC dI cy ad h H.size)) (as.map (mj_v ad)) := ⟨mj_blind, hrecv, fun U hU hW => ⟨rfl, mj_pre_at I hN hU hW⟩⟩
  have hstk : ((as.reverse ++ Value.ref b :: rest).map (mj_v ad)) = (as.map (mj_v ad)).reverse ++ .ref (ad b) :: rest.map (mj_v ad) := by
    rw [List.map_append, List.map_reverse]; rfl
  have hGW := mj_ws_good hB.1
  have hd := mj_dec hT ha
  rw [hstk]
  rcases hL with hL | ⟨host, hL⟩
  · exact mj_after kk CX' I hl hcl hcr hag hn hzz hret (va_runV (As := as.map (mj_v ad)) (rest := rest.map (mj_v ad)) (nL := M.2.2.1) (Ts := mj_G) (own := M.1.cls) ⟨hx, hb, hml, hown, hts⟩ hMt ⟨callB_of np hts hGW rfl rfl rfl (hts _ hB.2.1) (hts _ hL) hB.2.2 hm, hts _ hi.1, hts _ hi.2⟩ hp rfl (by rw [List.length_map]; exact hnp) hl.1 rfl (by rw [mj_cat]; exact Nat.le_trans (by simp) (Nat.le_trans (Nat.le_of_eq (Nat.zero_add _)) hcat)) hd hk)
  · exact mj_after kk CX' I hl hcl hcr hag hn hzz hret (va_runVN (As := as.map (mj_v ad)) (rest := rest.map (mj_v ad)) (nL := M.2.2.1) (Ts := mj_G) (own := M.1.cls) ⟨hx, hb, hml, hown, hts⟩ hMt ⟨va_cnB np hts hGW rfl rfl rfl (hN _ hL) (hts _ hB.2.1) hB.2.2 hm, hts _ hi.1, hts _ hi.2⟩ hp rfl (by rw [List.length_map]; exact hnp) hl.1 rfl (by rw [mj_cat]; exact Nat.le_trans (by simp) (Nat.le_trans (Nat.le_of_eq (Nat.zero_add _)) hcat)) hd hk)
theorem mj_getsZ {M : mj_M} {Fin : mj_F} {pc : Nat} {l : List (Nat × Value)} {st : List Value} {h : mj_H} {k n : Nat} {idx : Nat} (a : Nat) (ha : M.2.2.2.2.2[a]? = some (pc, .getstatic idx, 3)) (hw : Jvm.Cond.fieldLink M.1.cls idx "java/lang/String" "COMPACT_STRINGS" "Z" ∈ mj_G) (kk : mj_W M Fin (pc + 3) l (.int 1 :: st) h k n) : mj_W M Fin pc l st h k n := by
  intro p lc e s m args below meth c H locs ls A Q dC dI cy ad ad0 n0 CX I hl hcl hcs hag hn hzz hret
  have CX' := CX
  have I' := I
  obtain ⟨hx, hb, hml, hr, hown, hts, hlk, hnm, hN, hT⟩ := CX
  obtain ⟨hK, hA, hR, hP, hD, hS, hch⟩ := I
  exact va_gets hx hb hR.2.1 hS hown (hts _ hw) (fun _ z => z) (mj_dec hT ha) (kk p lc e s m args below meth c H locs ls A Q dC dI cy ad ad0 n0 CX' I' hl hcl (mj_cs trivial hcs) hag hn hzz hret)
theorem mj_getC {M : mj_M} {Fin : mj_F} {pc : Nat} {l : List (Nat × Value)} {st : List Value} {h : mj_H} {k n : Nat} {idx i : Nat} (a : Nat) (ha : M.2.2.2.2.2[a]? = some (pc, .getfield idx, 3)) (hi : i < 5) (hw : Jvm.Cond.fieldLink M.1.cls idx "java/lang/String" "coder" "B" ∈ mj_G) (kk : mj_W M Fin (pc + 3) l (.int 0 :: st) h k n) : mj_W M Fin pc l (.ref (1010 + i) :: st) h k n := by
  intro p lc e s m args below meth c H locs ls A Q dC dI cy ad ad0 n0 CX I hl hcl hcs hag hn hzz hret
  have CX' := CX
  have I' := I
  obtain ⟨hx, hb, hml, hr, hown, hts, hlk, hnm, hN, hT⟩ := CX
  obtain ⟨hK, hA, hR, hP, hD, hS, hch⟩ := I
  exact vk_getf hx hb (hR.2.2.2.1.1 i hi).2.1 hS hown (hts _ hw) (fun _ z => z) (mj_dec hT ha) (kk p lc e s m args below meth c H locs ls A Q dC dI cy ad ad0 n0 CX' I' hl hcl (mj_cs trivial (mj_tl hcs)) hag hn hzz hret)
theorem mj_getT {M : mj_M} {Fin : mj_F} {pc : Nat} {l : List (Nat × Value)} {st : List Value} {h : mj_H} {k n : Nat} {idx i : Nat} (a : Nat) (ha : M.2.2.2.2.2[a]? = some (pc, .getfield idx, 3)) (hi : i < 5) (hw : Jvm.Cond.fieldLink M.1.cls idx "java/lang/String" "value" "[B" ∈ mj_G) (kk : mj_W M Fin (pc + 3) l (.ref (1020 + i) :: st) h k n) : mj_W M Fin pc l (.ref (1010 + i) :: st) h k n := by
  intro p lc e s m args below meth c H locs ls A Q dC dI cy ad ad0 n0 CX I hl hcl hcs hag hn hzz hret
  have CX' := CX
  have I' := I
  obtain ⟨hx, hb, hml, hr, hown, hts, hlk, hnm, hN, hT⟩ := CX
  obtain ⟨hK, hA, hR, hP, hD, hS, hch⟩ := I
  exact vk_getf hx hb (hR.2.2.2.1.1 i hi).2.2.1 hS hown (hts _ hw) (fun _ z => z) (mj_dec hT ha) (kk p lc e s m args below meth c H locs ls A Q dC dI cy ad ad0 n0 CX' I' hl hcl (mj_cs (Or.inr (Nat.le_trans (by decide : (1000 : Nat) ≤ 1020) (Nat.le_add_right _ _))) (mj_tl hcs)) hag hn hzz hret)
theorem mj_alenT {M : mj_M} {Fin : mj_F} {pc : Nat} {l : List (Nat × Value)} {st : List Value} {h : mj_H} {k n : Nat} {i : Nat} (a : Nat) (ha : M.2.2.2.2.2[a]? = some (pc, .arraylength, 1)) (hi : i < 5) (kk : mj_W M Fin (pc + 1) l (.int (Int32.ofNat (mj_lens.getD i 0)) :: st) h k n) : mj_W M Fin pc l (.ref (1020 + i) :: st) h k n := by
  intro p lc e s m args below meth c H locs ls A Q dC dI cy ad ad0 n0 CX I hl hcl hcs hag hn hzz hret
  have CX' := CX
  have I' := I
  obtain ⟨hx, hb, hml, hr, hown, hts, hlk, hnm, hN, hT⟩ := CX
  obtain ⟨hK, hA, hR, hP, hD, hS, hch⟩ := I
  exact va_tlen hx hb (hR.2.2.2.1.1 i hi).2.2.2 hS rfl (mj_dec hT ha) (kk p lc e s m args below meth c H locs ls A Q dC dI cy ad ad0 n0 CX' I' hl hcl (mj_cs trivial (mj_tl hcs)) hag hn hzz hret)
theorem mj_baldT {M : mj_M} {Fin : mj_F} {pc : Nat} {l : List (Nat × Value)} {st : List Value} {h : mj_H} {k n : Nat} {i : Nat} {j : Int32} (a : Nat) (ha : M.2.2.2.2.2[a]? = some (pc, .baload, 1)) (hi : i < 5) (hj : mj_ok j (mj_lens.getD i 0) = true) (kk : mj_W M Fin (pc + 1) l (.int ((mj_strs.getD i []).getD j.toNatClampNeg 0) :: st) h k n) : mj_W M Fin pc l (.int j :: .ref (1020 + i) :: st) h k n := by
  intro p lc e s m args below meth c H locs ls A Q dC dI cy ad ad0 n0 CX I hl hcl hcs hag hn hzz hret
  have CX' := CX
  have I' := I
  obtain ⟨hx, hb, hml, hr, hown, hts, hlk, hnm, hN, hT⟩ := CX
  obtain ⟨hK, hA, hR, hP, hD, hS, hch⟩ := I
  exact va_tb hx hb (hR.2.2.2.1.1 i hi).2.2.2 hS (mj_ok_in hj) rfl (mj_dec hT ha) (kk p lc e s m args below meth c H locs ls A Q dC dI cy ad ad0 n0 CX' I' hl hcl (mj_cs trivial (mj_tl (mj_tl hcs))) hag hn hzz hret)
set_option maxHeartbeats 4000000 in
set_option maxRecDepth 100000 in
theorem mj_coder (i : Nat) (hi : i < 5) (h : mj_H) : mj_Met mJ0_coder_7d493 [.ref (1010 + i)] h (some (.int 0)) h := by
  refine mj_met pl_J0 tok_J0_coder_7d493 (Nat.le_of_ble_eq_true rfl) ?_
  show mj_W mJ0_coder_7d493 (mj_FI (0, h)) 0 [(0, .ref (1010 + i))] [] h 0 0
  refine mj_getsZ 0 rfl sf_J0_38 ?_
  refine mj_if_eq 1 13 rfl (by decide) (fun q => absurd q (by decide)) (fun q => ?_)
  refine mj_blk k_J0_ok 2 1 (pc' := 7) (l' := [(0, .ref (1010 + i))]) (st' := [.ref (1010 + i)]) rfl ?_
  refine mj_getC 3 rfl hi sf_J0_15 ?_
  refine mj_blk k_J0_ok 4 1 (pc' := 14) (l' := [(0, .ref (1010 + i))]) (st' := [.int 0]) rfl ?_
  exact mj_end (some (.int 0)) ⟨mj_dec tok_J0_coder_7d493 (a := 6) rfl, .byte, rfl, rfl⟩ ⟨rfl, rfl⟩ (Nat.le_of_ble_eq_true rfl) (Nat.le_of_ble_eq_true rfl)
set_option maxHeartbeats 4000000 in
set_option maxRecDepth 100000 in
theorem mj_latin (i : Nat) (hi : i < 5) (h : mj_H) : mj_Met mJ0_isLatin1_aae02 [.ref (1010 + i)] h (some (.int 1)) h := by
  refine mj_met pl_J0 tok_J0_isLatin1_aae02 (Nat.le_of_ble_eq_true rfl) ?_
  show mj_W mJ0_isLatin1_aae02 (mj_FI (1, h)) 0 [(0, .ref (1010 + i))] [] h 0 0
  refine mj_getsZ 0 rfl sf_J0_38 ?_
  refine mj_if_eq 1 17 rfl (by decide) (fun q => absurd q (by decide)) (fun q => ?_)
  refine mj_blk k_J0_ok 2 1 (pc' := 7) (l' := [(0, .ref (1010 + i))]) (st' := [.ref (1010 + i)]) rfl ?_
  refine mj_getC 3 rfl hi sf_J0_15 ?_
  refine mj_if_ne 4 17 rfl (by decide) (fun q => absurd rfl q) (fun q => ?_)
  refine mj_blk k_J0_ok 5 2 (pc' := 18) (l' := [(0, .ref (1010 + i))]) (st' := [.int 1]) rfl ?_
  exact mj_end (some (.int 1)) ⟨mj_dec tok_J0_isLatin1_aae02 (a := 8) rfl, .boolean, rfl, rfl⟩ ⟨rfl, rfl⟩ (Nat.le_of_ble_eq_true rfl) (Nat.le_of_ble_eq_true rfl)
theorem mj_len0 : ∀ i, i < 5 → Int32.ofNat (mj_lens.getD i 0) >>> ((0 : Int32) &&& 31) = Int32.ofNat (mj_lens.getD i 0) := by decide
set_option maxHeartbeats 4000000 in
set_option maxRecDepth 100000 in
theorem c_J0_length_8abf5 (b : Nat) (h : mj_H) (x : Int32) (e : mj_sl b = some x) : mj_Met mJ0_length_8abf5 [.ref b] h (some (.int x)) h := by
  obtain ⟨i, hi, rfl⟩ := mj_sl_at e
  unfold mj_sl at e
  have e := (mj_gp e).2
  rw [Nat.add_sub_cancel_left] at e
  cases e
  refine mj_met pl_J0 tok_J0_length_8abf5 (Nat.le_of_ble_eq_true rfl) ?_
  show mj_W mJ0_length_8abf5 (mj_FI (Int32.ofNat (mj_lens.getD i 0), h)) 0 [(0, .ref (1010 + i))] [] h 0 0
  refine mj_blk k_J0_ok 0 1 (pc' := 1) (l' := [(0, .ref (1010 + i))]) (st' := [.ref (1010 + i)]) rfl ?_
  refine mj_getT 1 rfl hi sf_J0_9 ?_
  refine mj_alenT 2 rfl hi ?_
  refine mj_blk k_J0_ok 3 1 (pc' := 6) (l' := [(0, .ref (1010 + i))]) (st' := [.ref (1010 + i), .int (Int32.ofNat (mj_lens.getD i 0))]) rfl ?_
  refine mj_callT mJ0_coder_7d493 [] 4 rfl ll_J0_335 lb_J0_coder_7d493 li_J0_coder_7d493 ⟨Nat.le_of_ble_eq_true rfl, Nat.le_of_ble_eq_true rfl⟩ ⟨i, hi, rfl⟩ rfl rfl (rest := [.int (Int32.ofNat (mj_lens.getD i 0))]) rfl (Nat.le_of_ble_eq_true rfl) ⟨Nat.le_of_ble_eq_true rfl, Nat.le_of_ble_eq_true rfl⟩ (mj_coder i hi h) ?_
  show mj_W mJ0_length_8abf5 (mj_FI (Int32.ofNat (mj_lens.getD i 0), h)) 9 [(0, .ref (1010 + i))] [.int 0, .int (Int32.ofNat (mj_lens.getD i 0))] h 0 0
  refine mj_blk k_J0_ok 5 1 (pc' := 10) (l' := [(0, .ref (1010 + i))]) (st' := [.int (Int32.ofNat (mj_lens.getD i 0) >>> ((0 : Int32) &&& 31))]) rfl ?_
  rw [mj_len0 i hi]
  exact mj_end (some (.int (Int32.ofNat (mj_lens.getD i 0)))) ⟨mj_dec tok_J0_length_8abf5 (a := 6) rfl, .int, rfl, rfl⟩ ⟨rfl, rfl⟩ (Nat.le_of_ble_eq_true rfl) (Nat.le_of_ble_eq_true rfl)
set_option maxHeartbeats 4000000 in
set_option maxRecDepth 100000 in
/-- Preconditions.checkIndex, whatever the third argument is -/
theorem mj_pcheck (lc : Launch) (i n : Int32) (v : Value) (hv : v.category = 1) (h0 : ¬ i < 0) (h1 : i < n) (Hh : Heap) : Met lc yJ3_checkIndex_8e157 (mj_ws mJ3_checkIndex_8e157) mJ3_checkIndex_8e157.2.2.2.2.1 (va_Pc [.int i, .int n, v] (fun U => U.heap = Hh)) (va_Qi (fun y (_ : Unit) => y = i) (fun _ _ => True) (fun _ => False)) 0 0 (fun _ => False) := by
  refine Met.ofW (cc := cJ3_checkIndex_8e157) (maxL := 3) (ret := some .int) pl_J3 rfl ?_
  intro p e s m args below meth c s₁ B hml hq
  obtain ⟨rfl, -⟩ := hq
  have hx := B.exec
  have hb := B.bytes
  have hr := B.returns
  have hl := lv_entry ([.int i, .int n, v]) (n := 3) (by cases v <;> simp_all [lg_sl, Value.category])
  have hS : va_S (fun _ => False) s.heap s.heap [] := va_S.rf
  rw [lg_entry_eq]
  generalize (lg_sl ([.int i, .int n, v]) ++ List.replicate (3 - (lg_sl ([.int i, .int n, v])).length) Slot.unset).toArray = ls at hl ⊢
  have hl : lv_has ls 3 [(0, .int i), (1, .int n), (2, v)] := hl
  refine lv_iload_n hx hb (mj_dec tok_J3_checkIndex_8e157 (a := 0) rfl) rfl (lv_at hl 0 rfl) ?_
  refine lv_if_lt (tgt := 9) hx hb (mj_dec tok_J3_checkIndex_8e157 (a := 1) rfl) (by decide) (fun q => absurd q h0) (fun _ => ?_)
  refine lv_iload_n hx hb (mj_dec tok_J3_checkIndex_8e157 (a := 2) rfl) rfl (lv_at hl 0 rfl) ?_
  refine lv_iload_n hx hb (mj_dec tok_J3_checkIndex_8e157 (a := 3) rfl) rfl (lv_at hl 1 rfl) ?_
  refine lv_icmp_lt (tgt := 16) hx hb (mj_dec tok_J3_checkIndex_8e157 (a := 4) rfl) (by decide) (fun _ => ?_) (fun q => absurd h1 q)
  refine lv_iload_n hx hb (mj_dec tok_J3_checkIndex_8e157 (a := 10) rfl) rfl (lv_at hl 0 rfl) ?_
  exact W.iret hx hb hr (fun t ht hW => ⟨⟨i, (), rfl, rfl, trivial⟩, hS.F ht⟩) (fun q hq => by cases hq) (mj_dec tok_J3_checkIndex_8e157 (a := 11) rfl) B.notSynchronized
theorem mj_lk1059 : Jvm.Cond.methodLink RJ0 1059 mJ3_checkIndex_8e157.1 ∈ mj_G := mj_inG 461 (by decide +kernel) (by decide +kernel)
set_option maxHeartbeats 4000000 in
set_option maxRecDepth 100000 in
theorem mj_scheck {Fin : mj_F} {i n : Int32} {h : mj_H} (h0 : ¬ i < 0) (h1 : i < n) (kk : mj_W mJ0_checkIndex_df160 Fin 9 [(0, .int i), (1, .int n)] [] h 0 0) : mj_W mJ0_checkIndex_df160 Fin 2 [(0, .int i), (1, .int n)] [.int n, .int i] h 0 0 := by
  intro p lc e s m args below meth c H locs ls A Q dC dI cy ad ad0 n0 CX I hl hcl hcs hag hn hzz hret
  have CX' := CX
  obtain ⟨hx, hb, hml, hr, hown, hts, hlk, hnm, hN, hT⟩ := CX
  obtain ⟨hK, hA, hR, hP, hD, hS, hch⟩ := I
  have key : ∀ v : Value, v.category = 1 → W p lc e mJ0_checkIndex_df160.2.2.2.2.1 s m args below meth c H locs 0 0 Q (F0 m 5 ls [v, .int n, .int i]) := by
    intro v hv
    have hp : PreS s H (va_Pc [.int i, .int n, v] (fun U => U.heap = H)) [.int i, .int n, v] := ⟨fun a U g mk q => q, fun U hU hW => ⟨rfl, hU⟩⟩
    refine va_calli (A1 := fun _ => False) (va_runS (As := [.int i, .int n, v]) (rest := []) (nL := 2) (Ts := mj_G) (own := RJ0) ⟨hx, hb, hml, hown, hts⟩ (mj_pcheck lc i n v hv h0 h1 H) ⟨callB_of 3 hts (mj_ws_good lb_J3_checkIndex_8e157.1) rfl rfl rfl (hts _ lb_J3_checkIndex_8e157.2.1) (hts _ mj_lk1059) lb_J3_checkIndex_8e157.2.2 ⟨Nat.le_of_ble_eq_true rfl, Nat.le_of_ble_eq_true rfl⟩, hts _ li_J3_checkIndex_8e157⟩ hp rfl rfl hl.1 rfl (lv_room (Nat.le_of_ble_eq_true rfl)) (mj_dec hT (a := 3) rfl) ⟨Nat.le_of_ble_eq_true rfl, Nat.le_of_ble_eq_true rfl⟩) hS (fun q _ z => z.elim) (fun q z => z.elim) (fun y u t H1 locs1 ht hvm hy _ hz1 hk1 hS1 => ?_)
    refine lv_pop hx hb (mj_dec hT (a := 4) rfl) rfl ?_
    have hP1 : va_P (dC, dI) vwCl (mj_w cy ad h) H1 := hP.kept (fun k q hq => hk1 q.1 ((hP k q hq).lt) (fun z => z))
    exact kk p lc e s m args below meth c H1 locs1 ls A Q dC dI cy ad ad0 n0 CX' ⟨hK, hA, hR, hP1, hD, hS1, hch⟩ hl hcl (fun v hv => by cases hv) hag hn hzz hret
  rcases hR.2.2.1 with hZ | ⟨t, hZ⟩
  · exact va_gets hx hb hZ hS hown (hts _ sf_J0_1053) (fun _ z => z) (mj_dec hT (a := 2) rfl) (key .null rfl)
  · exact va_gets hx hb hZ hS hown (hts _ sf_J0_1053) (fun _ z => z) (mj_dec hT (a := 2) rfl) (key (.ref t) rfl)
set_option maxHeartbeats 4000000 in
set_option maxRecDepth 100000 in
theorem c_J0_checkIndex (i n : Int32) (h : mj_H) (h0 : ¬ i < 0) (h1 : i < n) : mj_Met mJ0_checkIndex_df160 [.int i, .int n] h none h := by
  refine mj_met pl_J0 tok_J0_checkIndex_df160 (Nat.le_of_ble_eq_true rfl) ?_
  show mj_W mJ0_checkIndex_df160 (mj_FV h) 0 [(0, .int i), (1, .int n)] [] h 0 0
  refine mj_blk k_J0_ok 0 2 (pc' := 2) (l' := [(0, .int i), (1, .int n)]) (st' := [.int n, .int i]) rfl ?_
  refine mj_scheck h0 h1 ?_
  exact mj_end none ⟨mj_dec tok_J0_checkIndex_df160 (a := 5) rfl, rfl⟩ ⟨rfl, rfl⟩ (Nat.le_of_ble_eq_true rfl) (Nat.le_of_ble_eq_true rfl)
theorem mj_okI {j : Int32} {n : Nat} (h : mj_ok j n = true) (hn : n < 100) : ¬ j < 0 ∧ j < Int32.ofNat n ∧ j.toNatClampNeg < n := by
  simp only [mj_ok, Bool.and_eq_true, decide_eq_true_eq] at h
  have e := nI_toInt (n := n) (by omega)
  refine ⟨fun q => ?_, ?_, ?_⟩
  · have := Int32.lt_iff_toInt_lt.mp q
    rw [Int32.toInt_zero] at this
    omega
  · rw [Int32.lt_iff_toInt_lt]
    show j.toInt < (nI n).toInt
    omega
  · show j.toInt.toNat < n
    omega
theorem mj_chr : ∀ i, i < 5 → ∀ j, j < mj_lens.getD i 0 → ((((mj_strs.getD i []).getD j 0) &&& (255 : Int32)).toUInt32 % 65536).toInt32 = (mj_strs.getD i []).getD j 0 ∧ narrow .char (.int ((mj_strs.getD i []).getD j 0)) = .int ((mj_strs.getD i []).getD j 0) := by decide
theorem mj_lens_lt : ∀ i, i < 5 → mj_lens.getD i 0 < 100 := by decide
set_option maxHeartbeats 4000000 in
set_option maxRecDepth 100000 in
theorem c_J1_charAt (i : Nat) (j : Int32) (h : mj_H) (hi : i < 5) (hj : mj_ok j (mj_lens.getD i 0) = true) : mj_Met mJ1_charAt_3b067 [.ref (1020 + i), .int j] h (some (.int ((mj_strs.getD i []).getD j.toNatClampNeg 0))) h := by
  obtain ⟨o1, o2, o3⟩ := mj_okI hj (mj_lens_lt i hi)
  obtain ⟨e1, e2⟩ := mj_chr i hi _ o3
  refine mj_met pl_J1 tok_J1_charAt_3b067 (Nat.le_of_ble_eq_true rfl) ?_
  show mj_W mJ1_charAt_3b067 (mj_FI ((mj_strs.getD i []).getD j.toNatClampNeg 0, h)) 0 [(0, .ref (1020 + i)), (1, .int j)] [] h 0 0
  refine mj_blk k_J1_ok 0 2 (pc' := 2) (l' := [(0, .ref (1020 + i)), (1, .int j)]) (st' := [.ref (1020 + i), .int j]) rfl ?_
  refine mj_alenT 2 rfl hi ?_
  refine mj_callS mJ0_checkIndex_df160 [.int j, .int (Int32.ofNat (mj_lens.getD i 0))] 3 rfl ll_J1_9 lb_J0_checkIndex_df160 li_J0_checkIndex_df160 ⟨Nat.le_of_ble_eq_true rfl, Nat.le_of_ble_eq_true rfl⟩ rfl (rest := []) rfl (Nat.le_of_ble_eq_true rfl) ⟨Nat.le_of_ble_eq_true rfl, Nat.le_of_ble_eq_true rfl⟩ (c_J0_checkIndex j _ h o1 o2) ?_
  show mj_W mJ1_charAt_3b067 (mj_FI ((mj_strs.getD i []).getD j.toNatClampNeg 0, h)) 6 [(0, .ref (1020 + i)), (1, .int j)] [] h 0 0
  refine mj_blk k_J1_ok 4 2 (pc' := 8) (l' := [(0, .ref (1020 + i)), (1, .int j)]) (st' := [.int j, .ref (1020 + i)]) rfl ?_
  refine mj_baldT 6 rfl hi hj ?_
  refine mj_blk k_J1_ok 7 3 (pc' := 14) (l' := [(0, .ref (1020 + i)), (1, .int j)]) (st' := [.int ((((mj_strs.getD i []).getD j.toNatClampNeg 0) &&& (255 : Int32)).toUInt32 % 65536).toInt32]) rfl ?_
  rw [e1]
  exact mj_end (some (.int ((mj_strs.getD i []).getD j.toNatClampNeg 0))) ⟨mj_dec tok_J1_charAt_3b067 (a := 10) rfl, .char, rfl, e2⟩ ⟨rfl, rfl⟩ (Nat.le_of_ble_eq_true rfl) (Nat.le_of_ble_eq_true rfl)
set_option maxHeartbeats 4000000 in
set_option maxRecDepth 100000 in
theorem c_J0_charAt_5068e (b : Nat) (j : Int32) (h : mj_H) (x : Int32) (e : mj_sc b j = some x) : mj_Met mJ0_charAt_5068e [.ref b, .int j] h (some (.int x)) h := by
  obtain ⟨i, hi, rfl⟩ := mj_sc_at e
  unfold mj_sc at e
  obtain ⟨hj, e⟩ := mj_gp (mj_gp e).2
  rw [Nat.add_sub_cancel_left] at e hj
  cases e
  obtain ⟨o1, o2, o3⟩ := mj_okI hj (mj_lens_lt i hi)
  obtain ⟨e1, e2⟩ := mj_chr i hi _ o3
  refine mj_met pl_J0 tok_J0_charAt_5068e (Nat.le_of_ble_eq_true rfl) ?_
  show mj_W mJ0_charAt_5068e (mj_FI ((mj_strs.getD i []).getD j.toNatClampNeg 0, h)) 0 [(0, .ref (1010 + i)), (1, .int j)] [] h 0 0
  refine mj_blk k_J0_ok 0 1 (pc' := 1) (l' := [(0, .ref (1010 + i)), (1, .int j)]) (st' := [.ref (1010 + i)]) rfl ?_
  refine mj_callT mJ0_isLatin1_aae02 [] 1 rfl ll_J0_492 lb_J0_isLatin1_aae02 li_J0_isLatin1_aae02 ⟨Nat.le_of_ble_eq_true rfl, Nat.le_of_ble_eq_true rfl⟩ ⟨i, hi, rfl⟩ rfl rfl (rest := []) rfl (Nat.le_of_ble_eq_true rfl) ⟨Nat.le_of_ble_eq_true rfl, Nat.le_of_ble_eq_true rfl⟩ (mj_latin i hi h) ?_
  show mj_W mJ0_charAt_5068e (mj_FI ((mj_strs.getD i []).getD j.toNatClampNeg 0, h)) 4 [(0, .ref (1010 + i)), (1, .int j)] [.int 1] h 0 0
  refine mj_if_eq 2 16 rfl (by decide) (fun q => absurd q (by decide)) (fun q => ?_)
  refine mj_blk k_J0_ok 3 1 (pc' := 8) (l' := [(0, .ref (1010 + i)), (1, .int j)]) (st' := [.ref (1010 + i)]) rfl ?_
  refine mj_getT 4 rfl hi sf_J0_9 ?_
  refine mj_blk k_J0_ok 5 1 (pc' := 12) (l' := [(0, .ref (1010 + i)), (1, .int j)]) (st' := [.int j, .ref (1020 + i)]) rfl ?_
  refine mj_callS mJ1_charAt_3b067 [.ref (1020 + i), .int j] 6 rfl ll_J0_495 lb_J1_charAt_3b067 li_J1_charAt_3b067 ⟨Nat.le_of_ble_eq_true rfl, Nat.le_of_ble_eq_true rfl⟩ rfl (rest := []) rfl (Nat.le_of_ble_eq_true rfl) ⟨Nat.le_of_ble_eq_true rfl, Nat.le_of_ble_eq_true rfl⟩ (c_J1_charAt i j h hi hj) ?_
  show mj_W mJ0_charAt_5068e (mj_FI ((mj_strs.getD i []).getD j.toNatClampNeg 0, h)) 15 [(0, .ref (1010 + i)), (1, .int j)] [.int ((mj_strs.getD i []).getD j.toNatClampNeg 0)] h 0 0
  exact mj_end (some (.int ((mj_strs.getD i []).getD j.toNatClampNeg 0))) ⟨mj_dec tok_J0_charAt_5068e (a := 7) rfl, .char, rfl, e2⟩ ⟨rfl, rfl⟩ (Nat.le_of_ble_eq_true rfl) (Nat.le_of_ble_eq_true rfl)
