/-! printed by wip/whole/gen.py: X4_readItem, X4_findFault, X4_tellItem, X4_tellDraft, X5_dropSpy, X6_init, X6_decode, X6_fits, X6_find, X6_testAt, X7_append, X7_empty, X8_init, X8_refusedAs, X8_refused, X8_accepted, X8_muster, X8_man -/
def f_X4_readItem_115 (v0 : Nat) (h : mj_H) : Option (Int32 × mj_H) := (if mj_ob h v0 4 = true then (f_X4_readToken v0 h).bind fun p1 => (mj_gI p1 v0 4 5).bind fun x2 => (if x2 = (3 : Int32) then some ((1 : Int32), p1) else some ((0 : Int32), p1)) else none)
set_option maxHeartbeats 4000000 in
set_option maxRecDepth 100000 in
theorem w_X4_readItem_115 (v0 : Nat) (h : mj_H) (p : Int32 × mj_H) (hf : f_X4_readItem_115  v0 h = some p) : mj_W mX4_readItem (mj_FI p) 115 [(0, .ref v0)] [] h 0 0 := by
  unfold f_X4_readItem_115 at hf
  refine mj_blk k_X4_ok 61 1 (pc' := 116) (l' := [(0, .ref v0)]) (st' := [.ref v0]) rfl ?_
  obtain ⟨gp1, hf⟩ := mj_gd hf
  obtain ⟨p1, ep1, hf⟩ := mj_bd hf
  refine mj_callV (T := TX4) (N := 9) (ci := 4) mX4_readToken [] 62 rfl ll_X4_74 lb_X4_readToken li_X4_readToken ⟨Nat.le_of_ble_eq_true rfl, Nat.le_of_ble_eq_true rfl⟩ rfl gp1 rfl (rest := []) rfl (Nat.le_of_ble_eq_true rfl) ⟨Nat.le_of_ble_eq_true rfl, Nat.le_of_ble_eq_true rfl⟩ (c_X4_readToken v0 h p1 ep1) ?_
  show mj_W mX4_readItem (mj_FI p) 119 [(0, .ref v0)] [] p1 0 0
  refine mj_blk k_X4_ok 63 1 (pc' := 120) (l' := [(0, .ref v0)]) (st' := [.ref v0]) rfl ?_
  obtain ⟨x2, ex2, hf⟩ := mj_bd hf
  refine mj_get 64 rfl fl_X4_77 (mj_gI_V ex2) ?_
  refine mj_blk k_X4_ok 65 1 (pc' := 124) (l' := [(0, .ref v0)]) (st' := [.int (3 : Int32), .int x2]) rfl ?_
  refine mj_icmp_ne 66 131 rfl (by decide) (fun q => ?_) (fun q => ?_)
  · have hf := (if_neg q).symm.trans hf
    refine mj_blk k_X4_ok 69 1 (pc' := 132) (l' := [(0, .ref v0)]) (st' := [.int (0 : Int32)]) rfl ?_
    obtain rfl := Option.some.inj hf
    exact mj_end (some (.int (0 : Int32))) ⟨mj_dec tok_X4_readItem (a := 70) rfl, .boolean, rfl, rfl⟩ ⟨rfl, rfl⟩ (Nat.le_of_ble_eq_true rfl) (Nat.le_of_ble_eq_true rfl)
  · have hf := (if_pos q).symm.trans hf
    refine mj_blk k_X4_ok 67 2 (pc' := 132) (l' := [(0, .ref v0)]) (st' := [.int (1 : Int32)]) rfl ?_
    obtain rfl := Option.some.inj hf
    exact mj_end (some (.int (1 : Int32))) ⟨mj_dec tok_X4_readItem (a := 70) rfl, .boolean, rfl, rfl⟩ ⟨rfl, rfl⟩ (Nat.le_of_ble_eq_true rfl) (Nat.le_of_ble_eq_true rfl)
def b_X4_readItem_71 (K71 : Nat → Int32 → Int32 → mj_H → Option (Int32 × mj_H)) (v0 : Nat) (v2 : Int32) (v3 : Int32) (h : mj_H) : Option (Int32 × mj_H) := (if v2 ≤ v3 then f_X4_readItem_115 v0 h else (mj_gR h v0 4 2).bind fun x3 => (mj_aL h x3).bind fun x4 => (if x4 ≤ v3 then f_X4_readItem_115 v0 h else (if mj_ob h v0 4 = true then (f_X4_readToken v0 h).bind fun p5 => (mj_gI p5 v0 4 5).bind fun x6 => (if x6 = (2 : Int32) then (mj_gR p5 v0 4 2).bind fun x7 => (mj_gI p5 v0 4 6).bind fun x8 => (mj_uI p5 x7 v3 x8).bind fun h9 => K71 v0 v2 (v3 + (1 : Int32)) h9 else some ((0 : Int32), p5)) else none)))
set_option maxHeartbeats 4000000 in
set_option maxRecDepth 100000 in
theorem wb_X4_readItem_71 (K71 : Nat → Int32 → Int32 → mj_H → Option (Int32 × mj_H)) (hK71 : ∀ (v0 : Nat) (v2 : Int32) (v3 : Int32)  (h : mj_H) (p : Int32 × mj_H), K71 v0 v2 v3 h = some p → mj_W mX4_readItem (mj_FI p) 71 [(0, .ref v0), (2, .int v2), (3, .int v3)] [] h 0 0) (v0 : Nat) (v2 : Int32) (v3 : Int32) (h : mj_H) (p : Int32 × mj_H) (hf : b_X4_readItem_71  K71 v0 v2 v3 h = some p) : mj_W mX4_readItem (mj_FI p) 71 [(0, .ref v0), (2, .int v2), (3, .int v3)] [] h 0 0 := by
  unfold b_X4_readItem_71 at hf
  refine mj_blk k_X4_ok 37 2 (pc' := 73) (l' := [(0, .ref v0), (2, .int v2), (3, .int v3)]) (st' := [.int v2, .int v3]) rfl ?_
  refine mj_icmp_ge 39 115 rfl (by decide) (fun q => ?_) (fun q => ?_)
  · have hf := (if_pos q).symm.trans hf
    refine mj_locs [0] (l' := [(0, .ref v0)]) rfl ?_
    exact w_X4_readItem_115 v0 h _ hf
  · have hf := (if_neg q).symm.trans hf
    refine mj_blk k_X4_ok 40 2 (pc' := 78) (l' := [(0, .ref v0), (2, .int v2), (3, .int v3)]) (st' := [.ref v0, .int v3]) rfl ?_
    obtain ⟨x3, ex3, hf⟩ := mj_bd hf
    refine mj_get 42 rfl fl_X4_25 (mj_gR_V ex3) ?_
    obtain ⟨x4, ex4, hf⟩ := mj_bd hf
    refine mj_alen 43 rfl ex4 ?_
    refine mj_icmp_ge 44 115 rfl (by decide) (fun q => ?_) (fun q => ?_)
    · have hf := (if_pos q).symm.trans hf
      refine mj_locs [0] (l' := [(0, .ref v0)]) rfl ?_
      exact w_X4_readItem_115 v0 h _ hf
    · have hf := (if_neg q).symm.trans hf
      refine mj_blk k_X4_ok 45 1 (pc' := 86) (l' := [(0, .ref v0), (2, .int v2), (3, .int v3)]) (st' := [.ref v0]) rfl ?_
      obtain ⟨gp5, hf⟩ := mj_gd hf
      obtain ⟨p5, ep5, hf⟩ := mj_bd hf
      refine mj_callV (T := TX4) (N := 9) (ci := 4) mX4_readToken [] 46 rfl ll_X4_74 lb_X4_readToken li_X4_readToken ⟨Nat.le_of_ble_eq_true rfl, Nat.le_of_ble_eq_true rfl⟩ rfl gp5 rfl (rest := []) rfl (Nat.le_of_ble_eq_true rfl) ⟨Nat.le_of_ble_eq_true rfl, Nat.le_of_ble_eq_true rfl⟩ (c_X4_readToken v0 h p5 ep5) ?_
      show mj_W mX4_readItem (mj_FI p) 89 [(0, .ref v0), (2, .int v2), (3, .int v3)] [] p5 0 0
      refine mj_blk k_X4_ok 47 1 (pc' := 90) (l' := [(0, .ref v0), (2, .int v2), (3, .int v3)]) (st' := [.ref v0]) rfl ?_
      obtain ⟨x6, ex6, hf⟩ := mj_bd hf
      refine mj_get 48 rfl fl_X4_77 (mj_gI_V ex6) ?_
      refine mj_blk k_X4_ok 49 1 (pc' := 94) (l' := [(0, .ref v0), (2, .int v2), (3, .int v3)]) (st' := [.int (2 : Int32), .int x6]) rfl ?_
      refine mj_icmp_eq 50 99 rfl (by decide) (fun q => ?_) (fun q => ?_)
      · have hf := (if_pos q).symm.trans hf
        refine mj_blk k_X4_ok 53 1 (pc' := 100) (l' := [(0, .ref v0), (2, .int v2), (3, .int v3)]) (st' := [.ref v0]) rfl ?_
        obtain ⟨x7, ex7, hf⟩ := mj_bd hf
        refine mj_get 54 rfl fl_X4_25 (mj_gR_V ex7) ?_
        refine mj_blk k_X4_ok 55 2 (pc' := 105) (l' := [(0, .ref v0), (2, .int v2), (3, .int v3)]) (st' := [.ref v0, .int v3, .ref x7]) rfl ?_
        obtain ⟨x8, ex8, hf⟩ := mj_bd hf
        refine mj_get 57 rfl fl_X4_80 (mj_gI_V ex8) ?_
        obtain ⟨h9, eh9, hf⟩ := mj_bd hf
        refine mj_iast 58 rfl eh9 ?_
        refine mj_blk k_X4_ok 59 2 (pc' := 71) (l' := [(3, .int (v3 + (1 : Int32))), (0, .ref v0), (2, .int v2)]) (st' := []) rfl ?_
        refine mj_locs [1, 2, 0] (l' := [(0, .ref v0), (2, .int v2), (3, .int (v3 + (1 : Int32)))]) rfl ?_
        exact hK71 v0 v2 (v3 + (1 : Int32)) h9 _ hf
      · have hf := (if_neg q).symm.trans hf
        refine mj_blk k_X4_ok 51 1 (pc' := 98) (l' := [(0, .ref v0), (2, .int v2), (3, .int v3)]) (st' := [.int (0 : Int32)]) rfl ?_
        obtain rfl := Option.some.inj hf
        exact mj_end (some (.int (0 : Int32))) ⟨mj_dec tok_X4_readItem (a := 52) rfl, .boolean, rfl, rfl⟩ ⟨rfl, rfl⟩ (Nat.le_of_ble_eq_true rfl) (Nat.le_of_ble_eq_true rfl)
def f_X4_readItem_71 (v0 : Nat) (v2 : Int32) (v3 : Int32) (h : mj_H) : Option (Int32 × mj_H) := mj_fix (fun (K71 : (Nat × Int32 × Int32 × mj_H) → Option (Int32 × mj_H)) (s : Nat × Int32 × Int32 × mj_H) => b_X4_readItem_71  (fun v0 v2 v3 h => K71 (v0, v2, v3, h)) s.1 s.2.1 s.2.2.1 s.2.2.2) 1000 (v0, v2, v3, h)
set_option maxHeartbeats 4000000 in
set_option maxRecDepth 100000 in
theorem w_X4_readItem_71 (v0 : Nat) (v2 : Int32) (v3 : Int32) (h : mj_H) (p : Int32 × mj_H) (hf : f_X4_readItem_71  v0 v2 v3 h = some p) : mj_W mX4_readItem (mj_FI p) 71 [(0, .ref v0), (2, .int v2), (3, .int v3)] [] h 0 0 := by
  unfold f_X4_readItem_71 at hf
  exact mj_fix_ind (F := (fun (K71 : (Nat × Int32 × Int32 × mj_H) → Option (Int32 × mj_H)) (s : Nat × Int32 × Int32 × mj_H) => b_X4_readItem_71  (fun v0 v2 v3 h => K71 (v0, v2, v3, h)) s.1 s.2.1 s.2.2.1 s.2.2.2)) (P := fun s p => mj_W mX4_readItem (mj_FI p) 71 [(0, .ref s.1), (2, .int s.2.1), (3, .int s.2.2.1)] [] s.2.2.2 0 0) (fun K71 hK71 s p hf => wb_X4_readItem_71   (fun v0 v2 v3 h => K71 (v0, v2, v3, h)) (fun v0 v2 v3 h p e => hK71 (v0, v2, v3, h) p e) s.1 s.2.1 s.2.2.1 s.2.2.2 p hf) 1000 (v0, v2, v3, h) p hf
def f_X4_readItem_68 (v0 : Nat) (s0 : Int32) (h : mj_H) : Option (Int32 × mj_H) := f_X4_readItem_71 v0 s0 (0 : Int32) h
set_option maxHeartbeats 4000000 in
set_option maxRecDepth 100000 in
theorem w_X4_readItem_68 (v0 : Nat) (s0 : Int32) (h : mj_H) (p : Int32 × mj_H) (hf : f_X4_readItem_68  v0 s0 h = some p) : mj_W mX4_readItem (mj_FI p) 68 [(0, .ref v0)] [.int s0] h 0 0 := by
  unfold f_X4_readItem_68 at hf
  refine mj_blk k_X4_ok 34 3 (pc' := 71) (l' := [(3, .int (0 : Int32)), (2, .int s0), (0, .ref v0)]) (st' := []) rfl ?_
  refine mj_locs [2, 1, 0] (l' := [(0, .ref v0), (2, .int s0), (3, .int (0 : Int32))]) rfl ?_
  exact w_X4_readItem_71 v0 s0 (0 : Int32) h _ hf
def f_X4_readItem_67 (v0 : Nat) (h : mj_H) : Option (Int32 × mj_H) := f_X4_readItem_68 v0 (0 : Int32) h
set_option maxHeartbeats 4000000 in
set_option maxRecDepth 100000 in
theorem w_X4_readItem_67 (v0 : Nat) (h : mj_H) (p : Int32 × mj_H) (hf : f_X4_readItem_67  v0 h = some p) : mj_W mX4_readItem (mj_FI p) 67 [(0, .ref v0)] [] h 0 0 := by
  unfold f_X4_readItem_67 at hf
  refine mj_blk k_X4_ok 33 1 (pc' := 68) (l' := [(0, .ref v0)]) (st' := [.int (0 : Int32)]) rfl ?_
  exact w_X4_readItem_68 v0 (0 : Int32) h _ hf
def f_X4_readItem_25 (v0 : Nat) (s0 : Int32) (s1 : Int32) (h : mj_H) : Option (Int32 × mj_H) := (if s0 = s1 then (mj_gI h v0 4 6).bind fun x10 => (mj_sV h v0 4 7 (.int x10)).bind fun h11 => (mj_gI h11 v0 4 7).bind fun x12 => (if x12 < 0 then f_X4_readItem_67 v0 h11 else (mj_gI h11 v0 4 7).bind fun x13 => (if (Int32.ofNat (mj_roN 2)) ≤ x13 then f_X4_readItem_67 v0 h11 else (mj_gI h11 v0 4 7).bind fun x14 => (mj_roA 2 x14).bind fun x15 => f_X4_readItem_68 v0 x15 h11)) else some ((0 : Int32), h))
set_option maxHeartbeats 4000000 in
set_option maxRecDepth 100000 in
theorem w_X4_readItem_25 (v0 : Nat) (s0 : Int32) (s1 : Int32) (h : mj_H) (p : Int32 × mj_H) (hf : f_X4_readItem_25  v0 s0 s1 h = some p) : mj_W mX4_readItem (mj_FI p) 25 [(0, .ref v0)] [.int s1, .int s0] h 0 0 := by
  unfold f_X4_readItem_25 at hf
  refine mj_icmp_eq 13 30 rfl (by decide) (fun q => ?_) (fun q => ?_)
  · have hf := (if_pos q).symm.trans hf
    refine mj_blk k_X4_ok 16 2 (pc' := 32) (l' := [(0, .ref v0)]) (st' := [.ref v0, .ref v0]) rfl ?_
    obtain ⟨x10, ex10, hf⟩ := mj_bd hf
    refine mj_get 18 rfl fl_X4_80 (mj_gI_V ex10) ?_
    obtain ⟨h11, eh11, hf⟩ := mj_bd hf
    refine mj_put 19 rfl fp_X4_54 (fun _ => ⟨rfl, rfl⟩) eh11 ?_
    refine mj_blk k_X4_ok 20 1 (pc' := 39) (l' := [(0, .ref v0)]) (st' := [.ref v0]) rfl ?_
    obtain ⟨x12, ex12, hf⟩ := mj_bd hf
    refine mj_get 21 rfl fl_X4_54 (mj_gI_V ex12) ?_
    refine mj_if_lt 22 67 rfl (by decide) (fun q => ?_) (fun q => ?_)
    · have hf := (if_pos q).symm.trans hf
      exact w_X4_readItem_67 v0 h11 _ hf
    · have hf := (if_neg q).symm.trans hf
      refine mj_blk k_X4_ok 23 1 (pc' := 46) (l' := [(0, .ref v0)]) (st' := [.ref v0]) rfl ?_
      obtain ⟨x13, ex13, hf⟩ := mj_bd hf
      refine mj_get 24 rfl fl_X4_54 (mj_gI_V ex13) ?_
      refine mj_gets ("RiverChoice$Reader", "NEEDS", 2) 25 rfl (by decide) gs_X4_83 ?_
      refine mj_alenR ("RiverChoice$Reader", "NEEDS", 2) 26 rfl (by decide) ?_
      refine mj_icmp_ge 27 67 rfl (by decide) (fun q => ?_) (fun q => ?_)
      · have hf := (if_pos q).symm.trans hf
        exact w_X4_readItem_67 v0 h11 _ hf
      · have hf := (if_neg q).symm.trans hf
        refine mj_gets ("RiverChoice$Reader", "NEEDS", 2) 28 rfl (by decide) gs_X4_83 ?_
        refine mj_blk k_X4_ok 29 1 (pc' := 60) (l' := [(0, .ref v0)]) (st' := [.ref v0, .ref (1000 + 2)]) rfl ?_
        obtain ⟨x14, ex14, hf⟩ := mj_bd hf
        refine mj_get 30 rfl fl_X4_54 (mj_gI_V ex14) ?_
        obtain ⟨x15, ex15, hf⟩ := mj_bd hf
        refine mj_ialdR ("RiverChoice$Reader", "NEEDS", 2) 31 rfl (by decide) ex15 ?_
        refine mj_blk k_X4_ok 32 1 (pc' := 68) (l' := [(0, .ref v0)]) (st' := [.int x15]) rfl ?_
        exact w_X4_readItem_68 v0 x15 h11 _ hf
  · have hf := (if_neg q).symm.trans hf
    refine mj_blk k_X4_ok 14 1 (pc' := 29) (l' := [(0, .ref v0)]) (st' := [.int (0 : Int32)]) rfl ?_
    obtain rfl := Option.some.inj hf
    exact mj_end (some (.int (0 : Int32))) ⟨mj_dec tok_X4_readItem (a := 15) rfl, .boolean, rfl, rfl⟩ ⟨rfl, rfl⟩ (Nat.le_of_ble_eq_true rfl) (Nat.le_of_ble_eq_true rfl)
def f_X4_readItem (v0 : Nat) (v1 : Int32) (h : mj_H) : Option (Int32 × mj_H) := (if mj_ob h v0 4 = true then (f_X4_readToken v0 h).bind fun p16 => (mj_gI p16 v0 4 5).bind fun x17 => (if x17 = (1 : Int32) then (mj_gI p16 v0 4 6).bind fun x18 => (if x18 = 0 then f_X4_readItem_25 v0 v1 (1 : Int32) p16 else f_X4_readItem_25 v0 v1 (0 : Int32) p16) else some ((0 : Int32), p16)) else none)
set_option maxHeartbeats 4000000 in
set_option maxRecDepth 100000 in
theorem c_X4_readItem (v0 : Nat) (v1 : Int32) (h : mj_H) (p : Int32 × mj_H) (hf : f_X4_readItem v0 v1 h = some p) : mj_Met mX4_readItem [.ref v0, .int v1] h (some (.int p.1)) p.2 := by
  refine mj_met pl_X4 tok_X4_readItem (Nat.le_of_ble_eq_true rfl) ?_
  show mj_W mX4_readItem (mj_FI p) 0 [(0, .ref v0), (1, .int v1)] [] h 0 0
  unfold f_X4_readItem at hf
  refine mj_blk k_X4_ok 0 1 (pc' := 1) (l' := [(0, .ref v0), (1, .int v1)]) (st' := [.ref v0]) rfl ?_
  obtain ⟨gp16, hf⟩ := mj_gd hf
  obtain ⟨p16, ep16, hf⟩ := mj_bd hf
  refine mj_callV (T := TX4) (N := 9) (ci := 4) mX4_readToken [] 1 rfl ll_X4_74 lb_X4_readToken li_X4_readToken ⟨Nat.le_of_ble_eq_true rfl, Nat.le_of_ble_eq_true rfl⟩ rfl gp16 rfl (rest := []) rfl (Nat.le_of_ble_eq_true rfl) ⟨Nat.le_of_ble_eq_true rfl, Nat.le_of_ble_eq_true rfl⟩ (c_X4_readToken v0 h p16 ep16) ?_
  show mj_W mX4_readItem (mj_FI p) 4 [(0, .ref v0), (1, .int v1)] [] p16 0 0
  refine mj_blk k_X4_ok 2 1 (pc' := 5) (l' := [(0, .ref v0), (1, .int v1)]) (st' := [.ref v0]) rfl ?_
  obtain ⟨x17, ex17, hf⟩ := mj_bd hf
  refine mj_get 3 rfl fl_X4_77 (mj_gI_V ex17) ?_
  refine mj_blk k_X4_ok 4 1 (pc' := 9) (l' := [(0, .ref v0), (1, .int v1)]) (st' := [.int (1 : Int32), .int x17]) rfl ?_
  refine mj_icmp_ne 5 28 rfl (by decide) (fun q => ?_) (fun q => ?_)
  · have hf := (if_neg q).symm.trans hf
    refine mj_blk k_X4_ok 14 1 (pc' := 29) (l' := [(0, .ref v0), (1, .int v1)]) (st' := [.int (0 : Int32)]) rfl ?_
    obtain rfl := Option.some.inj hf
    exact mj_end (some (.int (0 : Int32))) ⟨mj_dec tok_X4_readItem (a := 15) rfl, .boolean, rfl, rfl⟩ ⟨rfl, rfl⟩ (Nat.le_of_ble_eq_true rfl) (Nat.le_of_ble_eq_true rfl)
  · have hf := (if_pos q).symm.trans hf
    refine mj_blk k_X4_ok 6 2 (pc' := 14) (l' := [(0, .ref v0), (1, .int v1)]) (st' := [.ref v0, .int v1]) rfl ?_
    obtain ⟨x18, ex18, hf⟩ := mj_bd hf
    refine mj_get 8 rfl fl_X4_80 (mj_gI_V ex18) ?_
    refine mj_if_ne 9 24 rfl (by decide) (fun q => ?_) (fun q => ?_)
    · have hf := (if_neg q).symm.trans hf
      refine mj_blk k_X4_ok 12 1 (pc' := 25) (l' := [(0, .ref v0), (1, .int v1)]) (st' := [.int (0 : Int32), .int v1]) rfl ?_
      refine mj_locs [0] (l' := [(0, .ref v0)]) rfl ?_
      exact w_X4_readItem_25 v0 v1 (0 : Int32) p16 _ hf
    · have hf := (if_pos q).symm.trans hf
      refine mj_blk k_X4_ok 10 2 (pc' := 25) (l' := [(0, .ref v0), (1, .int v1)]) (st' := [.int (1 : Int32), .int v1]) rfl ?_
      refine mj_locs [0] (l' := [(0, .ref v0)]) rfl ?_
      exact w_X4_readItem_25 v0 v1 (1 : Int32) p16 _ hf
def f_X4_findFault_54 (K12 : Nat → Int32 → mj_H → Option (Int32 × mj_H)) (v0 : Nat) (v1 : Int32) (s0 : Nat) (s1 : Int32) (h : mj_H) : Option (Int32 × mj_H) := (if mj_ob h s0 4 = true then (f_X4_readItem s0 s1 h).bind fun p1 => (if p1.1 = 0 then (mj_gI p1.2 v0 4 4).bind fun x4 => some (x4, p1.2) else (mj_gI p1.2 v0 4 8).bind fun x2 => (mj_sV p1.2 v0 4 8 (.int (x2 + (1 : Int32)))).bind fun h3 => K12 v0 (v1 + (1 : Int32)) h3) else none)
set_option maxHeartbeats 4000000 in
set_option maxRecDepth 100000 in
theorem w_X4_findFault_54 (K12 : Nat → Int32 → mj_H → Option (Int32 × mj_H)) (hK12 : ∀ (v0 : Nat) (v1 : Int32)  (h : mj_H) (p : Int32 × mj_H), K12 v0 v1 h = some p → mj_W mX4_findFault (mj_FI p) 12 [(0, .ref v0), (1, .int v1)] [] h 0 0) (v0 : Nat) (v1 : Int32) (s0 : Nat) (s1 : Int32) (h : mj_H) (p : Int32 × mj_H) (hf : f_X4_findFault_54 K12 v0 v1 s0 s1 h = some p) : mj_W mX4_findFault (mj_FI p) 54 [(0, .ref v0), (1, .int v1)] [.int s1, .ref s0] h 0 0 := by
  unfold f_X4_findFault_54 at hf
  obtain ⟨gp1, hf⟩ := mj_gd hf
  obtain ⟨p1, ep1, hf⟩ := mj_bd hf
  refine mj_callV (T := TX4) (N := 9) (ci := 4) mX4_readItem [.int s1] 30 rfl ll_X4_43 lb_X4_readItem li_X4_readItem ⟨Nat.le_of_ble_eq_true rfl, Nat.le_of_ble_eq_true rfl⟩ rfl gp1 rfl (rest := []) rfl (Nat.le_of_ble_eq_true rfl) ⟨Nat.le_of_ble_eq_true rfl, Nat.le_of_ble_eq_true rfl⟩ (c_X4_readItem s0 s1 h p1 ep1) ?_
  show mj_W mX4_findFault (mj_FI p) 57 [(0, .ref v0), (1, .int v1)] [.int p1.1] p1.2 0 0
  refine mj_if_ne 31 65 rfl (by decide) (fun q => ?_) (fun q => ?_)
  · have hf := (if_neg q).symm.trans hf
    refine mj_blk k_X4_ok 35 2 (pc' := 67) (l' := [(0, .ref v0), (1, .int v1)]) (st' := [.ref v0, .ref v0]) rfl ?_
    obtain ⟨x2, ex2, hf⟩ := mj_bd hf
    refine mj_get 37 rfl fl_X4_33 (mj_gI_V ex2) ?_
    refine mj_blk k_X4_ok 38 2 (pc' := 72) (l' := [(0, .ref v0), (1, .int v1)]) (st' := [.int (x2 + (1 : Int32)), .ref v0]) rfl ?_
    obtain ⟨h3, eh3, hf⟩ := mj_bd hf
    refine mj_put 40 rfl fp_X4_33 (fun _ => ⟨rfl, rfl⟩) eh3 ?_
    refine mj_blk k_X4_ok 41 2 (pc' := 12) (l' := [(1, .int (v1 + (1 : Int32))), (0, .ref v0)]) (st' := []) rfl ?_
    refine mj_locs [1, 0] (l' := [(0, .ref v0), (1, .int (v1 + (1 : Int32)))]) rfl ?_
    exact hK12 v0 (v1 + (1 : Int32)) h3 _ hf
  · have hf := (if_pos q).symm.trans hf
    refine mj_blk k_X4_ok 32 1 (pc' := 61) (l' := [(0, .ref v0), (1, .int v1)]) (st' := [.ref v0]) rfl ?_
    obtain ⟨x4, ex4, hf⟩ := mj_bd hf
    refine mj_get 33 rfl fl_X4_47 (mj_gI_V ex4) ?_
    obtain rfl := Option.some.inj hf
    exact mj_end (some (.int x4)) ⟨mj_dec tok_X4_findFault (a := 34) rfl, .int, rfl, rfl⟩ ⟨rfl, rfl⟩ (Nat.le_of_ble_eq_true rfl) (Nat.le_of_ble_eq_true rfl)
def f_X4_findFault_44 (K12 : Nat → Int32 → mj_H → Option (Int32 × mj_H)) (v0 : Nat) (v1 : Int32) (h : mj_H) : Option (Int32 × mj_H) := (if v1 = 0 then f_X4_findFault_54 K12 v0 v1 v0 (1 : Int32) h else f_X4_findFault_54 K12 v0 v1 v0 (0 : Int32) h)
set_option maxHeartbeats 4000000 in
set_option maxRecDepth 100000 in
theorem w_X4_findFault_44 (K12 : Nat → Int32 → mj_H → Option (Int32 × mj_H)) (hK12 : ∀ (v0 : Nat) (v1 : Int32)  (h : mj_H) (p : Int32 × mj_H), K12 v0 v1 h = some p → mj_W mX4_findFault (mj_FI p) 12 [(0, .ref v0), (1, .int v1)] [] h 0 0) (v0 : Nat) (v1 : Int32) (h : mj_H) (p : Int32 × mj_H) (hf : f_X4_findFault_44 K12 v0 v1 h = some p) : mj_W mX4_findFault (mj_FI p) 44 [(0, .ref v0), (1, .int v1)] [] h 0 0 := by
  unfold f_X4_findFault_44 at hf
  refine mj_blk k_X4_ok 24 2 (pc' := 46) (l' := [(0, .ref v0), (1, .int v1)]) (st' := [.int v1, .ref v0]) rfl ?_
  refine mj_if_ne 26 53 rfl (by decide) (fun q => ?_) (fun q => ?_)
  · have hf := (if_neg q).symm.trans hf
    refine mj_blk k_X4_ok 29 1 (pc' := 54) (l' := [(0, .ref v0), (1, .int v1)]) (st' := [.int (0 : Int32), .ref v0]) rfl ?_
    exact w_X4_findFault_54 K12 hK12 v0 v1 v0 (0 : Int32) h _ hf
  · have hf := (if_pos q).symm.trans hf
    refine mj_blk k_X4_ok 27 2 (pc' := 54) (l' := [(0, .ref v0), (1, .int v1)]) (st' := [.int (1 : Int32), .ref v0]) rfl ?_
    exact w_X4_findFault_54 K12 hK12 v0 v1 v0 (1 : Int32) h _ hf
def b_X4_findFault_12 (K12 : Nat → Int32 → mj_H → Option (Int32 × mj_H)) (v0 : Nat) (v1 : Int32) (h : mj_H) : Option (Int32 × mj_H) := (if (150 : Int32) < v1 then some ((-1 : Int32), h) else (if mj_ob h v0 4 = true then (f_X4_skipBlanks v0 h).bind fun p5 => (if v1 ≤ 0 then f_X4_findFault_44 K12 v0 v1 p5 else (mj_gR p5 v0 4 0).bind fun x6 => (mj_gI p5 v0 4 3).bind fun x7 => (if mj_ob p5 x6 7 = true then (f_X7_byteAt x6 x7 p5).bind fun p8 => (if p8.1 = (-1 : Int32) then some ((-1 : Int32), p8.2) else f_X4_findFault_44 K12 v0 v1 p8.2) else none)) else none))
set_option maxHeartbeats 4000000 in
set_option maxRecDepth 100000 in
theorem wb_X4_findFault_12 (K12 : Nat → Int32 → mj_H → Option (Int32 × mj_H)) (hK12 : ∀ (v0 : Nat) (v1 : Int32)  (h : mj_H) (p : Int32 × mj_H), K12 v0 v1 h = some p → mj_W mX4_findFault (mj_FI p) 12 [(0, .ref v0), (1, .int v1)] [] h 0 0) (v0 : Nat) (v1 : Int32) (h : mj_H) (p : Int32 × mj_H) (hf : b_X4_findFault_12  K12 v0 v1 h = some p) : mj_W mX4_findFault (mj_FI p) 12 [(0, .ref v0), (1, .int v1)] [] h 0 0 := by
  unfold b_X4_findFault_12 at hf
  refine mj_blk k_X4_ok 8 2 (pc' := 16) (l' := [(0, .ref v0), (1, .int v1)]) (st' := [.int (150 : Int32), .int v1]) rfl ?_
  refine mj_icmp_gt 10 81 rfl (by decide) (fun q => ?_) (fun q => ?_)
  · have hf := (if_pos q).symm.trans hf
    refine mj_blk k_X4_ok 43 1 (pc' := 82) (l' := [(0, .ref v0), (1, .int v1)]) (st' := [.int (-1 : Int32)]) rfl ?_
    obtain rfl := Option.some.inj hf
    exact mj_end (some (.int (-1 : Int32))) ⟨mj_dec tok_X4_findFault (a := 44) rfl, .int, rfl, rfl⟩ ⟨rfl, rfl⟩ (Nat.le_of_ble_eq_true rfl) (Nat.le_of_ble_eq_true rfl)
  · have hf := (if_neg q).symm.trans hf
    refine mj_blk k_X4_ok 11 1 (pc' := 20) (l' := [(0, .ref v0), (1, .int v1)]) (st' := [.ref v0]) rfl ?_
    obtain ⟨gp5, hf⟩ := mj_gd hf
    obtain ⟨p5, ep5, hf⟩ := mj_bd hf
    refine mj_callV (T := TX4) (N := 9) (ci := 4) mX4_skipBlanks [] 12 rfl ll_X4_36 lb_X4_skipBlanks li_X4_skipBlanks ⟨Nat.le_of_ble_eq_true rfl, Nat.le_of_ble_eq_true rfl⟩ rfl gp5 rfl (rest := []) rfl (Nat.le_of_ble_eq_true rfl) ⟨Nat.le_of_ble_eq_true rfl, Nat.le_of_ble_eq_true rfl⟩ (c_X4_skipBlanks v0 h p5 ep5) ?_
    show mj_W mX4_findFault (mj_FI p) 23 [(0, .ref v0), (1, .int v1)] [] p5 0 0
    refine mj_blk k_X4_ok 13 1 (pc' := 24) (l' := [(0, .ref v0), (1, .int v1)]) (st' := [.int v1]) rfl ?_
    refine mj_if_le 14 44 rfl (by decide) (fun q => ?_) (fun q => ?_)
    · have hf := (if_pos q).symm.trans hf
      exact w_X4_findFault_44 K12 hK12 v0 v1 p5 _ hf
    · have hf := (if_neg q).symm.trans hf
      refine mj_blk k_X4_ok 15 1 (pc' := 28) (l' := [(0, .ref v0), (1, .int v1)]) (st' := [.ref v0]) rfl ?_
      obtain ⟨x6, ex6, hf⟩ := mj_bd hf
      refine mj_get 16 rfl fl_X4_12 (mj_gR_V ex6) ?_
      refine mj_blk k_X4_ok 17 1 (pc' := 32) (l' := [(0, .ref v0), (1, .int v1)]) (st' := [.ref v0, .ref x6]) rfl ?_
      obtain ⟨x7, ex7, hf⟩ := mj_bd hf
      refine mj_get 18 rfl fl_X4_29 (mj_gI_V ex7) ?_
      obtain ⟨gp8, hf⟩ := mj_gd hf
      obtain ⟨p8, ep8, hf⟩ := mj_bd hf
      refine mj_callV (T := TX7) (N := 2) (ci := 7) mX7_byteAt [.int x7] 19 rfl ll_X4_39 lb_X7_byteAt li_X7_byteAt ⟨Nat.le_of_ble_eq_true rfl, Nat.le_of_ble_eq_true rfl⟩ rfl gp8 rfl (rest := []) rfl (Nat.le_of_ble_eq_true rfl) ⟨Nat.le_of_ble_eq_true rfl, Nat.le_of_ble_eq_true rfl⟩ (c_X7_byteAt x6 x7 p5 p8 ep8) ?_
      show mj_W mX4_findFault (mj_FI p) 38 [(0, .ref v0), (1, .int v1)] [.int p8.1] p8.2 0 0
      refine mj_blk k_X4_ok 20 1 (pc' := 39) (l' := [(0, .ref v0), (1, .int v1)]) (st' := [.int (-1 : Int32), .int p8.1]) rfl ?_
      refine mj_icmp_ne 21 44 rfl (by decide) (fun q => ?_) (fun q => ?_)
      · have hf := (if_neg q).symm.trans hf
        exact w_X4_findFault_44 K12 hK12 v0 v1 p8.2 _ hf
      · have hf := (if_pos q).symm.trans hf
        refine mj_blk k_X4_ok 22 1 (pc' := 43) (l' := [(0, .ref v0), (1, .int v1)]) (st' := [.int (-1 : Int32)]) rfl ?_
        obtain rfl := Option.some.inj hf
        exact mj_end (some (.int (-1 : Int32))) ⟨mj_dec tok_X4_findFault (a := 23) rfl, .int, rfl, rfl⟩ ⟨rfl, rfl⟩ (Nat.le_of_ble_eq_true rfl) (Nat.le_of_ble_eq_true rfl)
def f_X4_findFault_12 (v0 : Nat) (v1 : Int32) (h : mj_H) : Option (Int32 × mj_H) := mj_fix (fun (K12 : (Nat × Int32 × mj_H) → Option (Int32 × mj_H)) (s : Nat × Int32 × mj_H) => b_X4_findFault_12  (fun v0 v1 h => K12 (v0, v1, h)) s.1 s.2.1 s.2.2) 1000 (v0, v1, h)
set_option maxHeartbeats 4000000 in
set_option maxRecDepth 100000 in
theorem w_X4_findFault_12 (v0 : Nat) (v1 : Int32) (h : mj_H) (p : Int32 × mj_H) (hf : f_X4_findFault_12  v0 v1 h = some p) : mj_W mX4_findFault (mj_FI p) 12 [(0, .ref v0), (1, .int v1)] [] h 0 0 := by
  unfold f_X4_findFault_12 at hf
  exact mj_fix_ind (F := (fun (K12 : (Nat × Int32 × mj_H) → Option (Int32 × mj_H)) (s : Nat × Int32 × mj_H) => b_X4_findFault_12  (fun v0 v1 h => K12 (v0, v1, h)) s.1 s.2.1 s.2.2)) (P := fun s p => mj_W mX4_findFault (mj_FI p) 12 [(0, .ref s.1), (1, .int s.2.1)] [] s.2.2 0 0) (fun K12 hK12 s p hf => wb_X4_findFault_12   (fun v0 v1 h => K12 (v0, v1, h)) (fun v0 v1 h p e => hK12 (v0, v1, h) p e) s.1 s.2.1 s.2.2 p hf) 1000 (v0, v1, h) p hf
def f_X4_findFault (v0 : Nat) (h : mj_H) : Option (Int32 × mj_H) := (mj_sV h v0 4 3 (.int (0 : Int32))).bind fun h9 => (mj_sV h9 v0 4 8 (.int (0 : Int32))).bind fun h10 => f_X4_findFault_12 v0 (0 : Int32) h10
set_option maxHeartbeats 4000000 in
set_option maxRecDepth 100000 in
theorem c_X4_findFault (v0 : Nat) (h : mj_H) (p : Int32 × mj_H) (hf : f_X4_findFault v0 h = some p) : mj_Met mX4_findFault [.ref v0] h (some (.int p.1)) p.2 := by
  refine mj_met pl_X4 tok_X4_findFault (Nat.le_of_ble_eq_true rfl) ?_
  show mj_W mX4_findFault (mj_FI p) 0 [(0, .ref v0)] [] h 0 0
  unfold f_X4_findFault at hf
  refine mj_blk k_X4_ok 0 2 (pc' := 2) (l' := [(0, .ref v0)]) (st' := [.int (0 : Int32), .ref v0]) rfl ?_
  obtain ⟨h9, eh9, hf⟩ := mj_bd hf
  refine mj_put 2 rfl fp_X4_29 (fun _ => ⟨rfl, rfl⟩) eh9 ?_
  refine mj_blk k_X4_ok 3 2 (pc' := 7) (l' := [(0, .ref v0)]) (st' := [.int (0 : Int32), .ref v0]) rfl ?_
  obtain ⟨h10, eh10, hf⟩ := mj_bd hf
  refine mj_put 5 rfl fp_X4_33 (fun _ => ⟨rfl, rfl⟩) eh10 ?_
  refine mj_blk k_X4_ok 6 2 (pc' := 12) (l' := [(1, .int (0 : Int32)), (0, .ref v0)]) (st' := []) rfl ?_
  refine mj_locs [1, 0] (l' := [(0, .ref v0), (1, .int (0 : Int32))]) rfl ?_
  exact w_X4_findFault_12 v0 (0 : Int32) h10 _ hf
def f_X4_tellItem (v0 : Nat) (h : mj_H) : Option (Int32 × mj_H) := (mj_gI h v0 4 7).bind fun x1 => (if x1 = (0 : Int32) then (mj_gR h v0 4 1).bind fun x2 => (mj_gR h v0 4 2).bind fun x3 => (mj_aI h x3 (0 : Int32)).bind fun x4 => (if mj_ob h x2 0 = true then (f_X0_begin x2 x4 h).bind fun p5 => some (p5.1, p5.2) else none) else (if x1 = (1 : Int32) then (mj_gR h v0 4 1).bind fun x6 => (mj_gR h v0 4 2).bind fun x7 => (if mj_ob h x6 0 = true then (f_X0_enrol x6 x7 h).bind fun p8 => some (p8.1, p8.2) else none) else (if x1 = (2 : Int32) then (mj_gR h v0 4 1).bind fun x9 => (mj_gR h v0 4 2).bind fun x10 => (mj_aI h x10 (0 : Int32)).bind fun x11 => (mj_gR h v0 4 2).bind fun x12 => (mj_aI h x12 (1 : Int32)).bind fun x13 => (if mj_ob h x9 0 = true then (f_X0_dress x9 x11 x13 h).bind fun p14 => some (p14.1, p14.2) else none) else (if x1 = (3 : Int32) then (mj_gR h v0 4 1).bind fun x15 => (mj_gR h v0 4 2).bind fun x16 => (mj_aI h x16 (0 : Int32)).bind fun x17 => (mj_gR h v0 4 2).bind fun x18 => (mj_aI h x18 (1 : Int32)).bind fun x19 => (if mj_ob h x15 0 = true then (f_X0_bind x15 x17 x19 h).bind fun p20 => some (p20.1, p20.2) else none) else (if x1 = (4 : Int32) then (mj_gR h v0 4 1).bind fun x21 => (mj_gR h v0 4 2).bind fun x22 => (mj_aI h x22 (0 : Int32)).bind fun x23 => (if mj_ob h x21 0 = true then (f_X0_inform x21 x23 h).bind fun p24 => some (p24.1, p24.2) else none) else some ((-2 : Int32), h))))))
set_option maxHeartbeats 4000000 in
set_option maxRecDepth 100000 in
theorem c_X4_tellItem (v0 : Nat) (h : mj_H) (p : Int32 × mj_H) (hf : f_X4_tellItem v0 h = some p) : mj_Met mX4_tellItem [.ref v0] h (some (.int p.1)) p.2 := by
  refine mj_met pl_X4 tok_X4_tellItem (Nat.le_of_ble_eq_true rfl) ?_
  show mj_W mX4_tellItem (mj_FI p) 0 [(0, .ref v0)] [] h 0 0
  unfold f_X4_tellItem at hf
  refine mj_blk k_X4_ok 0 1 (pc' := 1) (l' := [(0, .ref v0)]) (st' := [.ref v0]) rfl ?_
  obtain ⟨x1, ex1, hf⟩ := mj_bd hf
  refine mj_get 1 rfl fl_X4_54 (mj_gI_V ex1) ?_
  by_cases q0 : x1 = (0 : Int32)
  · have hf := (if_pos q0).symm.trans hf
    refine mj_swIn 2 (0 : Int32) 40 q0 rfl (by decide) (by decide) rfl (by decide) ?_
    refine mj_blk k_X4_ok 3 1 (pc' := 41) (l' := [(0, .ref v0)]) (st' := [.ref v0]) rfl ?_
    obtain ⟨x2, ex2, hf⟩ := mj_bd hf
    refine mj_get 4 rfl fl_X4_21 (mj_gR_V ex2) ?_
    refine mj_blk k_X4_ok 5 1 (pc' := 45) (l' := [(0, .ref v0)]) (st' := [.ref v0, .ref x2]) rfl ?_
    obtain ⟨x3, ex3, hf⟩ := mj_bd hf
    refine mj_get 6 rfl fl_X4_25 (mj_gR_V ex3) ?_
    refine mj_blk k_X4_ok 7 1 (pc' := 49) (l' := [(0, .ref v0)]) (st' := [.int (0 : Int32), .ref x3, .ref x2]) rfl ?_
    obtain ⟨x4, ex4, hf⟩ := mj_bd hf
    refine mj_iald 8 rfl ex4 ?_
    obtain ⟨gp5, hf⟩ := mj_gd hf
    obtain ⟨p5, ep5, hf⟩ := mj_bd hf
    refine mj_callV (T := TX0) (N := 7) (ci := 0) mX0_begin [.int x4] 9 rfl ll_X4_57 lb_X0_begin li_X0_begin ⟨Nat.le_of_ble_eq_true rfl, Nat.le_of_ble_eq_true rfl⟩ rfl gp5 rfl (rest := []) rfl (Nat.le_of_ble_eq_true rfl) ⟨Nat.le_of_ble_eq_true rfl, Nat.le_of_ble_eq_true rfl⟩ (c_X0_begin x2 x4 h p5 ep5) ?_
    show mj_W mX4_tellItem (mj_FI p) 53 [(0, .ref v0)] [.int p5.1] p5.2 0 0
    obtain rfl := Option.some.inj hf
    exact mj_end (some (.int p5.1)) ⟨mj_dec tok_X4_tellItem (a := 10) rfl, .int, rfl, rfl⟩ ⟨rfl, rfl⟩ (Nat.le_of_ble_eq_true rfl) (Nat.le_of_ble_eq_true rfl)
  have hf := (if_neg q0).symm.trans hf
  by_cases q1 : x1 = (1 : Int32)
  · have hf := (if_pos q1).symm.trans hf
    refine mj_swIn 2 (1 : Int32) 54 q1 rfl (by decide) (by decide) rfl (by decide) ?_
    refine mj_blk k_X4_ok 11 1 (pc' := 55) (l' := [(0, .ref v0)]) (st' := [.ref v0]) rfl ?_
    obtain ⟨x6, ex6, hf⟩ := mj_bd hf
    refine mj_get 12 rfl fl_X4_21 (mj_gR_V ex6) ?_
    refine mj_blk k_X4_ok 13 1 (pc' := 59) (l' := [(0, .ref v0)]) (st' := [.ref v0, .ref x6]) rfl ?_
    obtain ⟨x7, ex7, hf⟩ := mj_bd hf
    refine mj_get 14 rfl fl_X4_25 (mj_gR_V ex7) ?_
    obtain ⟨gp8, hf⟩ := mj_gd hf
    obtain ⟨p8, ep8, hf⟩ := mj_bd hf
    refine mj_callV (T := TX0) (N := 7) (ci := 0) mX0_enrol [.ref x7] 15 rfl ll_X4_60 lb_X0_enrol li_X0_enrol ⟨Nat.le_of_ble_eq_true rfl, Nat.le_of_ble_eq_true rfl⟩ rfl gp8 rfl (rest := []) rfl (Nat.le_of_ble_eq_true rfl) ⟨Nat.le_of_ble_eq_true rfl, Nat.le_of_ble_eq_true rfl⟩ (c_X0_enrol x6 x7 h p8 ep8) ?_
    show mj_W mX4_tellItem (mj_FI p) 65 [(0, .ref v0)] [.int p8.1] p8.2 0 0
    obtain rfl := Option.some.inj hf
    exact mj_end (some (.int p8.1)) ⟨mj_dec tok_X4_tellItem (a := 16) rfl, .int, rfl, rfl⟩ ⟨rfl, rfl⟩ (Nat.le_of_ble_eq_true rfl) (Nat.le_of_ble_eq_true rfl)
  have hf := (if_neg q1).symm.trans hf
  by_cases q2 : x1 = (2 : Int32)
  · have hf := (if_pos q2).symm.trans hf
    refine mj_swIn 2 (2 : Int32) 66 q2 rfl (by decide) (by decide) rfl (by decide) ?_
    refine mj_blk k_X4_ok 17 1 (pc' := 67) (l' := [(0, .ref v0)]) (st' := [.ref v0]) rfl ?_
    obtain ⟨x9, ex9, hf⟩ := mj_bd hf
    refine mj_get 18 rfl fl_X4_21 (mj_gR_V ex9) ?_
    refine mj_blk k_X4_ok 19 1 (pc' := 71) (l' := [(0, .ref v0)]) (st' := [.ref v0, .ref x9]) rfl ?_
    obtain ⟨x10, ex10, hf⟩ := mj_bd hf
    refine mj_get 20 rfl fl_X4_25 (mj_gR_V ex10) ?_
    refine mj_blk k_X4_ok 21 1 (pc' := 75) (l' := [(0, .ref v0)]) (st' := [.int (0 : Int32), .ref x10, .ref x9]) rfl ?_
    obtain ⟨x11, ex11, hf⟩ := mj_bd hf
    refine mj_iald 22 rfl ex11 ?_
    refine mj_blk k_X4_ok 23 1 (pc' := 77) (l' := [(0, .ref v0)]) (st' := [.ref v0, .int x11, .ref x9]) rfl ?_
    obtain ⟨x12, ex12, hf⟩ := mj_bd hf
    refine mj_get 24 rfl fl_X4_25 (mj_gR_V ex12) ?_
    refine mj_blk k_X4_ok 25 1 (pc' := 81) (l' := [(0, .ref v0)]) (st' := [.int (1 : Int32), .ref x12, .int x11, .ref x9]) rfl ?_
    obtain ⟨x13, ex13, hf⟩ := mj_bd hf
    refine mj_iald 26 rfl ex13 ?_
    obtain ⟨gp14, hf⟩ := mj_gd hf
    obtain ⟨p14, ep14, hf⟩ := mj_bd hf
    refine mj_callV (T := TX0) (N := 7) (ci := 0) mX0_dress [.int x11, .int x13] 27 rfl ll_X4_64 lb_X0_dress li_X0_dress ⟨Nat.le_of_ble_eq_true rfl, Nat.le_of_ble_eq_true rfl⟩ rfl gp14 rfl (rest := []) rfl (Nat.le_of_ble_eq_true rfl) ⟨Nat.le_of_ble_eq_true rfl, Nat.le_of_ble_eq_true rfl⟩ (c_X0_dress x9 x11 x13 h p14 ep14) ?_
    show mj_W mX4_tellItem (mj_FI p) 85 [(0, .ref v0)] [.int p14.1] p14.2 0 0
    obtain rfl := Option.some.inj hf
    exact mj_end (some (.int p14.1)) ⟨mj_dec tok_X4_tellItem (a := 28) rfl, .int, rfl, rfl⟩ ⟨rfl, rfl⟩ (Nat.le_of_ble_eq_true rfl) (Nat.le_of_ble_eq_true rfl)
  have hf := (if_neg q2).symm.trans hf
  by_cases q3 : x1 = (3 : Int32)
  · have hf := (if_pos q3).symm.trans hf
    refine mj_swIn 2 (3 : Int32) 86 q3 rfl (by decide) (by decide) rfl (by decide) ?_
    refine mj_blk k_X4_ok 29 1 (pc' := 87) (l' := [(0, .ref v0)]) (st' := [.ref v0]) rfl ?_
    obtain ⟨x15, ex15, hf⟩ := mj_bd hf
    refine mj_get 30 rfl fl_X4_21 (mj_gR_V ex15) ?_
    refine mj_blk k_X4_ok 31 1 (pc' := 91) (l' := [(0, .ref v0)]) (st' := [.ref v0, .ref x15]) rfl ?_
    obtain ⟨x16, ex16, hf⟩ := mj_bd hf
    refine mj_get 32 rfl fl_X4_25 (mj_gR_V ex16) ?_
    refine mj_blk k_X4_ok 33 1 (pc' := 95) (l' := [(0, .ref v0)]) (st' := [.int (0 : Int32), .ref x16, .ref x15]) rfl ?_
    obtain ⟨x17, ex17, hf⟩ := mj_bd hf
    refine mj_iald 34 rfl ex17 ?_
    refine mj_blk k_X4_ok 35 1 (pc' := 97) (l' := [(0, .ref v0)]) (st' := [.ref v0, .int x17, .ref x15]) rfl ?_
    obtain ⟨x18, ex18, hf⟩ := mj_bd hf
    refine mj_get 36 rfl fl_X4_25 (mj_gR_V ex18) ?_
    refine mj_blk k_X4_ok 37 1 (pc' := 101) (l' := [(0, .ref v0)]) (st' := [.int (1 : Int32), .ref x18, .int x17, .ref x15]) rfl ?_
    obtain ⟨x19, ex19, hf⟩ := mj_bd hf
    refine mj_iald 38 rfl ex19 ?_
    obtain ⟨gp20, hf⟩ := mj_gd hf
    obtain ⟨p20, ep20, hf⟩ := mj_bd hf
    refine mj_callV (T := TX0) (N := 7) (ci := 0) mX0_bind [.int x17, .int x19] 39 rfl ll_X4_68 lb_X0_bind li_X0_bind ⟨Nat.le_of_ble_eq_true rfl, Nat.le_of_ble_eq_true rfl⟩ rfl gp20 rfl (rest := []) rfl (Nat.le_of_ble_eq_true rfl) ⟨Nat.le_of_ble_eq_true rfl, Nat.le_of_ble_eq_true rfl⟩ (c_X0_bind x15 x17 x19 h p20 ep20) ?_
    show mj_W mX4_tellItem (mj_FI p) 105 [(0, .ref v0)] [.int p20.1] p20.2 0 0
    obtain rfl := Option.some.inj hf
    exact mj_end (some (.int p20.1)) ⟨mj_dec tok_X4_tellItem (a := 40) rfl, .int, rfl, rfl⟩ ⟨rfl, rfl⟩ (Nat.le_of_ble_eq_true rfl) (Nat.le_of_ble_eq_true rfl)
  have hf := (if_neg q3).symm.trans hf
  by_cases q4 : x1 = (4 : Int32)
  · have hf := (if_pos q4).symm.trans hf
    refine mj_swIn 2 (4 : Int32) 106 q4 rfl (by decide) (by decide) rfl (by decide) ?_
    refine mj_blk k_X4_ok 41 1 (pc' := 107) (l' := [(0, .ref v0)]) (st' := [.ref v0]) rfl ?_
    obtain ⟨x21, ex21, hf⟩ := mj_bd hf
    refine mj_get 42 rfl fl_X4_21 (mj_gR_V ex21) ?_
    refine mj_blk k_X4_ok 43 1 (pc' := 111) (l' := [(0, .ref v0)]) (st' := [.ref v0, .ref x21]) rfl ?_
    obtain ⟨x22, ex22, hf⟩ := mj_bd hf
    refine mj_get 44 rfl fl_X4_25 (mj_gR_V ex22) ?_
    refine mj_blk k_X4_ok 45 1 (pc' := 115) (l' := [(0, .ref v0)]) (st' := [.int (0 : Int32), .ref x22, .ref x21]) rfl ?_
    obtain ⟨x23, ex23, hf⟩ := mj_bd hf
    refine mj_iald 46 rfl ex23 ?_
    obtain ⟨gp24, hf⟩ := mj_gd hf
    obtain ⟨p24, ep24, hf⟩ := mj_bd hf
    refine mj_callV (T := TX0) (N := 7) (ci := 0) mX0_inform [.int x23] 47 rfl ll_X4_71 lb_X0_inform li_X0_inform ⟨Nat.le_of_ble_eq_true rfl, Nat.le_of_ble_eq_true rfl⟩ rfl gp24 rfl (rest := []) rfl (Nat.le_of_ble_eq_true rfl) ⟨Nat.le_of_ble_eq_true rfl, Nat.le_of_ble_eq_true rfl⟩ (c_X0_inform x21 x23 h p24 ep24) ?_
    show mj_W mX4_tellItem (mj_FI p) 119 [(0, .ref v0)] [.int p24.1] p24.2 0 0
    obtain rfl := Option.some.inj hf
    exact mj_end (some (.int p24.1)) ⟨mj_dec tok_X4_tellItem (a := 48) rfl, .int, rfl, rfl⟩ ⟨rfl, rfl⟩ (Nat.le_of_ble_eq_true rfl) (Nat.le_of_ble_eq_true rfl)
  have hf := (if_neg q4).symm.trans hf
  refine mj_swOut 2 120 rfl (by have z0 := mj_neI (i := 0) (by decide) q0; have z1 := mj_neI (i := 1) (by decide) q1; have z2 := mj_neI (i := 2) (by decide) q2; have z3 := mj_neI (i := 3) (by decide) q3; have z4 := mj_neI (i := 4) (by decide) q4; omega) (by decide) ?_
  refine mj_blk k_X4_ok 49 1 (pc' := 122) (l' := [(0, .ref v0)]) (st' := [.int (-2 : Int32)]) rfl ?_
  obtain rfl := Option.some.inj hf
  exact mj_end (some (.int (-2 : Int32))) ⟨mj_dec tok_X4_tellItem (a := 50) rfl, .int, rfl, rfl⟩ ⟨rfl, rfl⟩ (Nat.le_of_ble_eq_true rfl) (Nat.le_of_ble_eq_true rfl)
def f_X4_tellDraft_25 (K7 : Nat → Int32 → mj_H → Option (Int32 × mj_H)) (v0 : Nat) (v1 : Int32) (s0 : Nat) (s1 : Int32) (h : mj_H) : Option (Int32 × mj_H) := (if mj_ob h s0 4 = true then (f_X4_readItem s0 s1 h).bind fun p1 => (if p1.1 = 0 then some (v1, p1.2) else (if mj_ob p1.2 v0 4 = true then (f_X4_tellItem v0 p1.2).bind fun p2 => (if 0 ≤ p2.1 then K7 v0 (v1 + (1 : Int32)) p2.2 else some (v1, p2.2)) else none)) else none)
set_option maxHeartbeats 4000000 in
set_option maxRecDepth 100000 in
theorem w_X4_tellDraft_25 (K7 : Nat → Int32 → mj_H → Option (Int32 × mj_H)) (hK7 : ∀ (v0 : Nat) (v1 : Int32)  (h : mj_H) (p : Int32 × mj_H), K7 v0 v1 h = some p → mj_W mX4_tellDraft (mj_FI p) 7 [(0, .ref v0), (1, .int v1)] [] h 0 0) (v0 : Nat) (v1 : Int32) (s0 : Nat) (s1 : Int32) (h : mj_H) (p : Int32 × mj_H) (hf : f_X4_tellDraft_25 K7 v0 v1 s0 s1 h = some p) : mj_W mX4_tellDraft (mj_FI p) 25 [(0, .ref v0), (1, .int v1)] [.int s1, .ref s0] h 0 0 := by
  unfold f_X4_tellDraft_25 at hf
  obtain ⟨gp1, hf⟩ := mj_gd hf
  obtain ⟨p1, ep1, hf⟩ := mj_bd hf
  refine mj_callV (T := TX4) (N := 9) (ci := 4) mX4_readItem [.int s1] 15 rfl ll_X4_43 lb_X4_readItem li_X4_readItem ⟨Nat.le_of_ble_eq_true rfl, Nat.le_of_ble_eq_true rfl⟩ rfl gp1 rfl (rest := []) rfl (Nat.le_of_ble_eq_true rfl) ⟨Nat.le_of_ble_eq_true rfl, Nat.le_of_ble_eq_true rfl⟩ (c_X4_readItem s0 s1 h p1 ep1) ?_
  show mj_W mX4_tellDraft (mj_FI p) 28 [(0, .ref v0), (1, .int v1)] [.int p1.1] p1.2 0 0
  refine mj_if_eq 16 38 rfl (by decide) (fun q => ?_) (fun q => ?_)
  · have hf := (if_pos q).symm.trans hf
    refine mj_blk k_X4_ok 20 1 (pc' := 39) (l' := [(0, .ref v0), (1, .int v1)]) (st' := [.int v1]) rfl ?_
    obtain rfl := Option.some.inj hf
    exact mj_end (some (.int v1)) ⟨mj_dec tok_X4_tellDraft (a := 21) rfl, .int, rfl, rfl⟩ ⟨rfl, rfl⟩ (Nat.le_of_ble_eq_true rfl) (Nat.le_of_ble_eq_true rfl)
  · have hf := (if_neg q).symm.trans hf
    refine mj_blk k_X4_ok 17 1 (pc' := 32) (l' := [(0, .ref v0), (1, .int v1)]) (st' := [.ref v0]) rfl ?_
    obtain ⟨gp2, hf⟩ := mj_gd hf
    obtain ⟨p2, ep2, hf⟩ := mj_bd hf
    refine mj_callV (T := TX4) (N := 9) (ci := 4) mX4_tellItem [] 18 rfl ll_X4_50 lb_X4_tellItem li_X4_tellItem ⟨Nat.le_of_ble_eq_true rfl, Nat.le_of_ble_eq_true rfl⟩ rfl gp2 rfl (rest := []) rfl (Nat.le_of_ble_eq_true rfl) ⟨Nat.le_of_ble_eq_true rfl, Nat.le_of_ble_eq_true rfl⟩ (c_X4_tellItem v0 p1.2 p2 ep2) ?_
    show mj_W mX4_tellDraft (mj_FI p) 35 [(0, .ref v0), (1, .int v1)] [.int p2.1] p2.2 0 0
    refine mj_if_ge 19 40 rfl (by decide) (fun q => ?_) (fun q => ?_)
    · have hf := (if_pos q).symm.trans hf
      refine mj_blk k_X4_ok 22 2 (pc' := 7) (l' := [(1, .int (v1 + (1 : Int32))), (0, .ref v0)]) (st' := []) rfl ?_
      refine mj_locs [1, 0] (l' := [(0, .ref v0), (1, .int (v1 + (1 : Int32)))]) rfl ?_
      exact hK7 v0 (v1 + (1 : Int32)) p2.2 _ hf
    · have hf := (if_neg q).symm.trans hf
      refine mj_blk k_X4_ok 20 1 (pc' := 39) (l' := [(0, .ref v0), (1, .int v1)]) (st' := [.int v1]) rfl ?_
      obtain rfl := Option.some.inj hf
      exact mj_end (some (.int v1)) ⟨mj_dec tok_X4_tellDraft (a := 21) rfl, .int, rfl, rfl⟩ ⟨rfl, rfl⟩ (Nat.le_of_ble_eq_true rfl) (Nat.le_of_ble_eq_true rfl)
def b_X4_tellDraft_7 (K7 : Nat → Int32 → mj_H → Option (Int32 × mj_H)) (v0 : Nat) (v1 : Int32) (h : mj_H) : Option (Int32 × mj_H) := (mj_gI h v0 4 8).bind fun x3 => (if x3 ≤ v1 then some ((-1 : Int32), h) else (if v1 = 0 then f_X4_tellDraft_25 K7 v0 v1 v0 (1 : Int32) h else f_X4_tellDraft_25 K7 v0 v1 v0 (0 : Int32) h))
set_option maxHeartbeats 4000000 in
set_option maxRecDepth 100000 in
theorem wb_X4_tellDraft_7 (K7 : Nat → Int32 → mj_H → Option (Int32 × mj_H)) (hK7 : ∀ (v0 : Nat) (v1 : Int32)  (h : mj_H) (p : Int32 × mj_H), K7 v0 v1 h = some p → mj_W mX4_tellDraft (mj_FI p) 7 [(0, .ref v0), (1, .int v1)] [] h 0 0) (v0 : Nat) (v1 : Int32) (h : mj_H) (p : Int32 × mj_H) (hf : b_X4_tellDraft_7  K7 v0 v1 h = some p) : mj_W mX4_tellDraft (mj_FI p) 7 [(0, .ref v0), (1, .int v1)] [] h 0 0 := by
  unfold b_X4_tellDraft_7 at hf
  refine mj_blk k_X4_ok 5 2 (pc' := 9) (l' := [(0, .ref v0), (1, .int v1)]) (st' := [.ref v0, .int v1]) rfl ?_
  obtain ⟨x3, ex3, hf⟩ := mj_bd hf
  refine mj_get 7 rfl fl_X4_33 (mj_gI_V ex3) ?_
  refine mj_icmp_ge 8 46 rfl (by decide) (fun q => ?_) (fun q => ?_)
  · have hf := (if_pos q).symm.trans hf
    refine mj_blk k_X4_ok 24 1 (pc' := 47) (l' := [(0, .ref v0), (1, .int v1)]) (st' := [.int (-1 : Int32)]) rfl ?_
    obtain rfl := Option.some.inj hf
    exact mj_end (some (.int (-1 : Int32))) ⟨mj_dec tok_X4_tellDraft (a := 25) rfl, .int, rfl, rfl⟩ ⟨rfl, rfl⟩ (Nat.le_of_ble_eq_true rfl) (Nat.le_of_ble_eq_true rfl)
  · have hf := (if_neg q).symm.trans hf
    refine mj_blk k_X4_ok 9 2 (pc' := 17) (l' := [(0, .ref v0), (1, .int v1)]) (st' := [.int v1, .ref v0]) rfl ?_
    refine mj_if_ne 11 24 rfl (by decide) (fun q => ?_) (fun q => ?_)
    · have hf := (if_neg q).symm.trans hf
      refine mj_blk k_X4_ok 14 1 (pc' := 25) (l' := [(0, .ref v0), (1, .int v1)]) (st' := [.int (0 : Int32), .ref v0]) rfl ?_
      exact w_X4_tellDraft_25 K7 hK7 v0 v1 v0 (0 : Int32) h _ hf
    · have hf := (if_pos q).symm.trans hf
      refine mj_blk k_X4_ok 12 2 (pc' := 25) (l' := [(0, .ref v0), (1, .int v1)]) (st' := [.int (1 : Int32), .ref v0]) rfl ?_
      exact w_X4_tellDraft_25 K7 hK7 v0 v1 v0 (1 : Int32) h _ hf
def f_X4_tellDraft_7 (v0 : Nat) (v1 : Int32) (h : mj_H) : Option (Int32 × mj_H) := mj_fix (fun (K7 : (Nat × Int32 × mj_H) → Option (Int32 × mj_H)) (s : Nat × Int32 × mj_H) => b_X4_tellDraft_7  (fun v0 v1 h => K7 (v0, v1, h)) s.1 s.2.1 s.2.2) 1000 (v0, v1, h)
set_option maxHeartbeats 4000000 in
set_option maxRecDepth 100000 in
theorem w_X4_tellDraft_7 (v0 : Nat) (v1 : Int32) (h : mj_H) (p : Int32 × mj_H) (hf : f_X4_tellDraft_7  v0 v1 h = some p) : mj_W mX4_tellDraft (mj_FI p) 7 [(0, .ref v0), (1, .int v1)] [] h 0 0 := by
  unfold f_X4_tellDraft_7 at hf
  exact mj_fix_ind (F := (fun (K7 : (Nat × Int32 × mj_H) → Option (Int32 × mj_H)) (s : Nat × Int32 × mj_H) => b_X4_tellDraft_7  (fun v0 v1 h => K7 (v0, v1, h)) s.1 s.2.1 s.2.2)) (P := fun s p => mj_W mX4_tellDraft (mj_FI p) 7 [(0, .ref s.1), (1, .int s.2.1)] [] s.2.2 0 0) (fun K7 hK7 s p hf => wb_X4_tellDraft_7   (fun v0 v1 h => K7 (v0, v1, h)) (fun v0 v1 h p e => hK7 (v0, v1, h) p e) s.1 s.2.1 s.2.2 p hf) 1000 (v0, v1, h) p hf
def f_X4_tellDraft (v0 : Nat) (h : mj_H) : Option (Int32 × mj_H) := (mj_sV h v0 4 3 (.int (0 : Int32))).bind fun h4 => f_X4_tellDraft_7 v0 (0 : Int32) h4
set_option maxHeartbeats 4000000 in
set_option maxRecDepth 100000 in
theorem c_X4_tellDraft (v0 : Nat) (h : mj_H) (p : Int32 × mj_H) (hf : f_X4_tellDraft v0 h = some p) : mj_Met mX4_tellDraft [.ref v0] h (some (.int p.1)) p.2 := by
  refine mj_met pl_X4 tok_X4_tellDraft (Nat.le_of_ble_eq_true rfl) ?_
  show mj_W mX4_tellDraft (mj_FI p) 0 [(0, .ref v0)] [] h 0 0
  unfold f_X4_tellDraft at hf
  refine mj_blk k_X4_ok 0 2 (pc' := 2) (l' := [(0, .ref v0)]) (st' := [.int (0 : Int32), .ref v0]) rfl ?_
  obtain ⟨h4, eh4, hf⟩ := mj_bd hf
  refine mj_put 2 rfl fp_X4_29 (fun _ => ⟨rfl, rfl⟩) eh4 ?_
  refine mj_blk k_X4_ok 3 2 (pc' := 7) (l' := [(1, .int (0 : Int32)), (0, .ref v0)]) (st' := []) rfl ?_
  refine mj_locs [1, 0] (l' := [(0, .ref v0), (1, .int (0 : Int32))]) rfl ?_
  exact w_X4_tellDraft_7 v0 (0 : Int32) h4 _ hf
def f_X5_dropSpy (v0 : Nat) (h : mj_H) : Option (mj_H) := (mj_gR h v0 5 0).bind fun x1 => (mj_uJ h x1 (5 : Int32) (0 : Int64)).bind fun h2 => some h2
set_option maxHeartbeats 4000000 in
set_option maxRecDepth 100000 in
theorem c_X5_dropSpy (v0 : Nat) (h : mj_H) (p : mj_H) (hf : f_X5_dropSpy v0 h = some p) : mj_Met mX5_dropSpy [.ref v0] h none p := by
  refine mj_met pl_X5 tok_X5_dropSpy (Nat.le_of_ble_eq_true rfl) ?_
  show mj_W mX5_dropSpy (mj_FV p) 0 [(0, .ref v0)] [] h 0 0
  unfold f_X5_dropSpy at hf
  refine mj_blk k_X5_ok 0 1 (pc' := 1) (l' := [(0, .ref v0)]) (st' := [.ref v0]) rfl ?_
  obtain ⟨x1, ex1, hf⟩ := mj_bd hf
  refine mj_get 1 rfl fl_X5_9 (mj_gR_V ex1) ?_
  refine mj_blk k_X5_ok 2 2 (pc' := 6) (l' := [(0, .ref v0)]) (st' := [.long (0 : Int64), .int (5 : Int32), .ref x1]) rfl ?_
  obtain ⟨h2, eh2, hf⟩ := mj_bd hf
  refine mj_last 4 rfl eh2 ?_
  obtain rfl := Option.some.inj hf
  exact mj_end none ⟨mj_dec tok_X5_dropSpy (a := 5) rfl, rfl⟩ ⟨rfl, rfl⟩ (Nat.le_of_ble_eq_true rfl) (Nat.le_of_ble_eq_true rfl)
def f_X6_init (v0 : Nat) (h : mj_H) : Option (mj_H) := (mj_mk h (.inl (0, 3, .inl (fun _ => (0 : Int32))))).bind fun p1 => (mj_sV p1.2 v0 6 0 (.ref p1.1)).bind fun h2 => (mj_mk h2 (.inr (5, [.null]))).bind fun p3 => (f_X5_init p3.1 p3.2).bind fun p4 => (mj_sV p4 v0 6 1 (.ref p3.1)).bind fun h5 => some h5
set_option maxHeartbeats 4000000 in
set_option maxRecDepth 100000 in
theorem c_X6_init (v0 : Nat) (h : mj_H) (p : mj_H) (hf : f_X6_init v0 h = some p) : mj_Met mX6_init [.ref v0] h none p := by
  refine mj_met pl_X6 tok_X6_init (Nat.le_of_ble_eq_true rfl) ?_
  show mj_W mX6_init (mj_FV p) 0 [(0, .ref v0)] [] h 0 0
  unfold f_X6_init at hf
  refine mj_blk k_X6_ok 0 1 (pc' := 1) (l' := [(0, .ref v0)]) (st' := [.ref v0]) rfl ?_
  refine mj_obj 1 rfl ob_X6_3 ⟨Nat.le_of_ble_eq_true rfl, Nat.le_of_ble_eq_true rfl⟩ ?_
  refine mj_blk k_X6_ok 2 2 (pc' := 6) (l' := [(0, .ref v0)]) (st' := [.int (3 : Int32), .ref v0]) rfl ?_
  obtain ⟨p1, ep1, hf⟩ := mj_bd hf
  refine mj_newIP 3 4 rfl rfl (by decide) aw_int ep1 (Nat.le_of_ble_eq_true rfl) (Nat.le_of_ble_eq_true rfl) ?_
  obtain ⟨h2, eh2, hf⟩ := mj_bd hf
  refine mj_put 5 rfl fp_X6_9 (fun _ => ⟨rfl, rfl⟩) eh2 ?_
  refine mj_blk k_X6_ok 6 1 (pc' := 12) (l' := [(0, .ref v0)]) (st' := [.ref v0]) rfl ?_
  obtain ⟨p3, ep3, hf⟩ := mj_bd hf
  refine mj_newP 7 rfl nw_X6_15 (by simp [mj_0]) ep3 (Nat.le_of_ble_eq_true rfl) (Nat.le_of_ble_eq_true rfl) ?_
  refine mj_blk k_X6_ok 8 1 (pc' := 16) (l' := [(0, .ref v0)]) (st' := [.ref p3.1, .ref p3.1, .ref v0]) rfl ?_
  obtain ⟨p4, ep4, hf⟩ := mj_bd hf
  refine mj_callI mX5_init [] 9 rfl ll_X6_17 lb_X5_init li_X5_init ⟨Nat.le_of_ble_eq_true rfl, Nat.le_of_ble_eq_true rfl⟩ rfl (rest := [.ref p3.1, .ref v0]) rfl (Nat.le_of_ble_eq_true rfl) ⟨Nat.le_of_ble_eq_true rfl, Nat.le_of_ble_eq_true rfl⟩ (c_X5_init p3.1 p3.2 p4 ep4) ?_
  show mj_W mX6_init (mj_FV p) 19 [(0, .ref v0)] [.ref p3.1, .ref v0] p4 3 10
  obtain ⟨h5, eh5, hf⟩ := mj_bd hf
  refine mj_put 10 rfl fp_X6_18 (fun _ => ⟨rfl, rfl⟩) eh5 ?_
  obtain rfl := Option.some.inj hf
  exact mj_end none ⟨mj_dec tok_X6_init (a := 11) rfl, rfl⟩ ⟨rfl, rfl⟩ (Nat.le_of_ble_eq_true rfl) (Nat.le_of_ble_eq_true rfl)
def f_X6_decode_35 (K10 : Nat → Int32 → Int32 → Int32 → mj_H → Option (mj_H)) (v0 : Nat) (v2 : Int32) (v3 : Int32) (v4 : Int32) (h : mj_H) : Option (mj_H) := K10 v0 v2 v3 (v4 + (-1 : Int32)) h
set_option maxHeartbeats 4000000 in
set_option maxRecDepth 100000 in
theorem w_X6_decode_35 (K10 : Nat → Int32 → Int32 → Int32 → mj_H → Option (mj_H)) (hK10 : ∀ (v0 : Nat) (v2 : Int32) (v3 : Int32) (v4 : Int32)  (h : mj_H) (p : mj_H), K10 v0 v2 v3 v4 h = some p → mj_W mX6_decode (mj_FV p) 10 [(0, .ref v0), (2, .int v2), (3, .int v3), (4, .int v4)] [] h 0 0) (v0 : Nat) (v2 : Int32) (v3 : Int32) (v4 : Int32) (h : mj_H) (p : mj_H) (hf : f_X6_decode_35 K10 v0 v2 v3 v4 h = some p) : mj_W mX6_decode (mj_FV p) 35 [(0, .ref v0), (2, .int v2), (3, .int v3), (4, .int v4)] [] h 0 0 := by
  unfold f_X6_decode_35 at hf
  refine mj_blk k_X6_ok 23 2 (pc' := 10) (l' := [(4, .int (v4 + (-1 : Int32))), (0, .ref v0), (2, .int v2), (3, .int v3)]) (st' := []) rfl ?_
  refine mj_locs [1, 2, 3, 0] (l' := [(0, .ref v0), (2, .int v2), (3, .int v3), (4, .int (v4 + (-1 : Int32)))]) rfl ?_
  exact hK10 v0 v2 v3 (v4 + (-1 : Int32)) h _ hf
def b_X6_decode_10 (K10 : Nat → Int32 → Int32 → Int32 → mj_H → Option (mj_H)) (v0 : Nat) (v2 : Int32) (v3 : Int32) (v4 : Int32) (h : mj_H) : Option (mj_H) := (if v4 < 0 then some h else (if v2 ≤ v4 then f_X6_decode_35 K10 v0 v2 v3 v4 h else (mj_gR h v0 6 0).bind fun x1 => (mj_uI h x1 v4 (v3 - v3 / (3 : Int32) * (3 : Int32))).bind fun h2 => f_X6_decode_35 K10 v0 v2 (v3 / (3 : Int32)) v4 h2))
set_option maxHeartbeats 4000000 in
set_option maxRecDepth 100000 in
theorem wb_X6_decode_10 (K10 : Nat → Int32 → Int32 → Int32 → mj_H → Option (mj_H)) (hK10 : ∀ (v0 : Nat) (v2 : Int32) (v3 : Int32) (v4 : Int32)  (h : mj_H) (p : mj_H), K10 v0 v2 v3 v4 h = some p → mj_W mX6_decode (mj_FV p) 10 [(0, .ref v0), (2, .int v2), (3, .int v3), (4, .int v4)] [] h 0 0) (v0 : Nat) (v2 : Int32) (v3 : Int32) (v4 : Int32) (h : mj_H) (p : mj_H) (hf : b_X6_decode_10  K10 v0 v2 v3 v4 h = some p) : mj_W mX6_decode (mj_FV p) 10 [(0, .ref v0), (2, .int v2), (3, .int v3), (4, .int v4)] [] h 0 0 := by
  unfold b_X6_decode_10 at hf
  refine mj_blk k_X6_ok 7 1 (pc' := 12) (l' := [(0, .ref v0), (2, .int v2), (3, .int v3), (4, .int v4)]) (st' := [.int v4]) rfl ?_
  refine mj_if_lt 8 41 rfl (by decide) (fun q => ?_) (fun q => ?_)
  · have hf := (if_pos q).symm.trans hf
    obtain rfl := Option.some.inj hf
    exact mj_end none ⟨mj_dec tok_X6_decode (a := 25) rfl, rfl⟩ ⟨rfl, rfl⟩ (Nat.le_of_ble_eq_true rfl) (Nat.le_of_ble_eq_true rfl)
  · have hf := (if_neg q).symm.trans hf
    refine mj_blk k_X6_ok 9 2 (pc' := 18) (l' := [(0, .ref v0), (2, .int v2), (3, .int v3), (4, .int v4)]) (st' := [.int v2, .int v4]) rfl ?_
    refine mj_icmp_ge 11 35 rfl (by decide) (fun q => ?_) (fun q => ?_)
    · have hf := (if_pos q).symm.trans hf
      exact w_X6_decode_35 K10 hK10 v0 v2 v3 v4 h _ hf
    · have hf := (if_neg q).symm.trans hf
      refine mj_blk k_X6_ok 12 1 (pc' := 22) (l' := [(0, .ref v0), (2, .int v2), (3, .int v3), (4, .int v4)]) (st' := [.ref v0]) rfl ?_
      obtain ⟨x1, ex1, hf⟩ := mj_bd hf
      refine mj_get 13 rfl fl_X6_9 (mj_gR_V ex1) ?_
      refine mj_blk k_X6_ok 14 3 (pc' := 29) (l' := [(0, .ref v0), (2, .int v2), (3, .int v3), (4, .int v4)]) (st' := [.int (3 : Int32), .int v3, .int v4, .ref x1]) rfl ?_
      refine mj_irem 17 rfl (by decide) ?_
      obtain ⟨h2, eh2, hf⟩ := mj_bd hf
      refine mj_iast 18 rfl eh2 ?_
      refine mj_blk k_X6_ok 19 2 (pc' := 33) (l' := [(0, .ref v0), (2, .int v2), (3, .int v3), (4, .int v4)]) (st' := [.int (3 : Int32), .int v3]) rfl ?_
      refine mj_idiv 21 rfl (by decide) ?_
      refine mj_blk k_X6_ok 22 1 (pc' := 35) (l' := [(3, .int (v3 / (3 : Int32))), (0, .ref v0), (2, .int v2), (4, .int v4)]) (st' := []) rfl ?_
      refine mj_locs [1, 2, 0, 3] (l' := [(0, .ref v0), (2, .int v2), (3, .int (v3 / (3 : Int32))), (4, .int v4)]) rfl ?_
      exact w_X6_decode_35 K10 hK10 v0 v2 (v3 / (3 : Int32)) v4 h2 _ hf
def f_X6_decode_10 (v0 : Nat) (v2 : Int32) (v3 : Int32) (v4 : Int32) (h : mj_H) : Option (mj_H) := mj_fix (fun (K10 : (Nat × Int32 × Int32 × Int32 × mj_H) → Option (mj_H)) (s : Nat × Int32 × Int32 × Int32 × mj_H) => b_X6_decode_10  (fun v0 v2 v3 v4 h => K10 (v0, v2, v3, v4, h)) s.1 s.2.1 s.2.2.1 s.2.2.2.1 s.2.2.2.2) 1000 (v0, v2, v3, v4, h)
set_option maxHeartbeats 4000000 in
set_option maxRecDepth 100000 in
theorem w_X6_decode_10 (v0 : Nat) (v2 : Int32) (v3 : Int32) (v4 : Int32) (h : mj_H) (p : mj_H) (hf : f_X6_decode_10  v0 v2 v3 v4 h = some p) : mj_W mX6_decode (mj_FV p) 10 [(0, .ref v0), (2, .int v2), (3, .int v3), (4, .int v4)] [] h 0 0 := by
  unfold f_X6_decode_10 at hf
  exact mj_fix_ind (F := (fun (K10 : (Nat × Int32 × Int32 × Int32 × mj_H) → Option (mj_H)) (s : Nat × Int32 × Int32 × Int32 × mj_H) => b_X6_decode_10  (fun v0 v2 v3 v4 h => K10 (v0, v2, v3, v4, h)) s.1 s.2.1 s.2.2.1 s.2.2.2.1 s.2.2.2.2)) (P := fun s p => mj_W mX6_decode (mj_FV p) 10 [(0, .ref s.1), (2, .int s.2.1), (3, .int s.2.2.1), (4, .int s.2.2.2.1)] [] s.2.2.2.2 0 0) (fun K10 hK10 s p hf => wb_X6_decode_10   (fun v0 v2 v3 v4 h => K10 (v0, v2, v3, v4, h)) (fun v0 v2 v3 v4 h p e => hK10 (v0, v2, v3, v4, h) p e) s.1 s.2.1 s.2.2.1 s.2.2.2.1 s.2.2.2.2 p hf) 1000 (v0, v2, v3, v4, h) p hf
def f_X6_decode (v0 : Nat) (v1 : Int32) (v2 : Int32) (h : mj_H) : Option (mj_H) := (mj_sV h v0 6 2 (.int v2)).bind fun h3 => f_X6_decode_10 v0 v2 v1 (2 : Int32) h3
set_option maxHeartbeats 4000000 in
set_option maxRecDepth 100000 in
theorem c_X6_decode (v0 : Nat) (v1 : Int32) (v2 : Int32) (h : mj_H) (p : mj_H) (hf : f_X6_decode v0 v1 v2 h = some p) : mj_Met mX6_decode [.ref v0, .int v1, .int v2] h none p := by
  refine mj_met pl_X6 tok_X6_decode (Nat.le_of_ble_eq_true rfl) ?_
  show mj_W mX6_decode (mj_FV p) 0 [(0, .ref v0), (1, .int v1), (2, .int v2)] [] h 0 0
  unfold f_X6_decode at hf
  refine mj_blk k_X6_ok 0 2 (pc' := 2) (l' := [(0, .ref v0), (1, .int v1), (2, .int v2)]) (st' := [.int v2, .ref v0]) rfl ?_
  obtain ⟨h3, eh3, hf⟩ := mj_bd hf
  refine mj_put 2 rfl fp_X6_30 (fun _ => ⟨rfl, rfl⟩) eh3 ?_
  refine mj_blk k_X6_ok 3 4 (pc' := 10) (l' := [(4, .int (2 : Int32)), (3, .int v1), (0, .ref v0), (1, .int v1), (2, .int v2)]) (st' := []) rfl ?_
  refine mj_locs [2, 4, 1, 0] (l' := [(0, .ref v0), (2, .int v2), (3, .int v1), (4, .int (2 : Int32))]) rfl ?_
  exact w_X6_decode_10 v0 v2 v1 (2 : Int32) h3 _ hf
def f_X6_fits_81 (v0 : Nat) (v1 : Nat) (v3 : Int32) (v4 : Int32) (h : mj_H) : Option (Int32 × mj_H) := (mj_gI h v1 0 6).bind fun x1 => (if x1 < v4 then some ((0 : Int32), h) else (mj_gR h v0 6 1).bind fun x2 => (if mj_ob h x2 5 = true then (f_X5_chance x2 (3 : Int32) (0 : Int32) h).bind fun p3 => (if p3.1 < v3 then some ((0 : Int32), p3.2) else some ((1 : Int32), p3.2)) else none))
set_option maxHeartbeats 4000000 in
set_option maxRecDepth 100000 in
theorem w_X6_fits_81 (v0 : Nat) (v1 : Nat) (v3 : Int32) (v4 : Int32) (h : mj_H) (p : Int32 × mj_H) (hf : f_X6_fits_81  v0 v1 v3 v4 h = some p) : mj_W mX6_fits (mj_FI p) 81 [(0, .ref v0), (1, .ref v1), (3, .int v3), (4, .int v4)] [] h 0 0 := by
  unfold f_X6_fits_81 at hf
  refine mj_blk k_X6_ok 43 2 (pc' := 84) (l' := [(0, .ref v0), (1, .ref v1), (3, .int v3), (4, .int v4)]) (st' := [.ref v1, .int v4]) rfl ?_
  obtain ⟨x1, ex1, hf⟩ := mj_bd hf
  refine mj_get 45 rfl fl_X6_52 (mj_gI_V ex1) ?_
  refine mj_icmp_gt 46 107 rfl (by decide) (fun q => ?_) (fun q => ?_)
  · have hf := (if_pos q).symm.trans hf
    refine mj_blk k_X6_ok 56 1 (pc' := 108) (l' := [(0, .ref v0), (1, .ref v1), (3, .int v3), (4, .int v4)]) (st' := [.int (0 : Int32)]) rfl ?_
    obtain rfl := Option.some.inj hf
    exact mj_end (some (.int (0 : Int32))) ⟨mj_dec tok_X6_fits (a := 57) rfl, .boolean, rfl, rfl⟩ ⟨rfl, rfl⟩ (Nat.le_of_ble_eq_true rfl) (Nat.le_of_ble_eq_true rfl)
  · have hf := (if_neg q).symm.trans hf
    refine mj_blk k_X6_ok 47 1 (pc' := 91) (l' := [(0, .ref v0), (1, .ref v1), (3, .int v3), (4, .int v4)]) (st' := [.ref v0]) rfl ?_
    obtain ⟨x2, ex2, hf⟩ := mj_bd hf
    refine mj_get 48 rfl fl_X6_18 (mj_gR_V ex2) ?_
    refine mj_blk k_X6_ok 49 2 (pc' := 96) (l' := [(0, .ref v0), (1, .ref v1), (3, .int v3), (4, .int v4)]) (st' := [.int (0 : Int32), .int (3 : Int32), .ref x2]) rfl ?_
    obtain ⟨gp3, hf⟩ := mj_gd hf
    obtain ⟨p3, ep3, hf⟩ := mj_bd hf
    refine mj_callV (T := TX5) (N := 1) (ci := 5) mX5_chance [.int (3 : Int32), .int (0 : Int32)] 51 rfl ll_X6_55 lb_X5_chance li_X5_chance ⟨Nat.le_of_ble_eq_true rfl, Nat.le_of_ble_eq_true rfl⟩ rfl gp3 rfl (rest := []) rfl (Nat.le_of_ble_eq_true rfl) ⟨Nat.le_of_ble_eq_true rfl, Nat.le_of_ble_eq_true rfl⟩ (c_X5_chance x2 (3 : Int32) (0 : Int32) h p3 ep3) ?_
    show mj_W mX6_fits (mj_FI p) 99 [(0, .ref v0), (1, .ref v1), (3, .int v3), (4, .int v4)] [.int p3.1] p3.2 0 0
    refine mj_blk k_X6_ok 52 1 (pc' := 100) (l' := [(0, .ref v0), (1, .ref v1), (3, .int v3), (4, .int v4)]) (st' := [.int v3, .int p3.1]) rfl ?_
    refine mj_icmp_lt 53 107 rfl (by decide) (fun q => ?_) (fun q => ?_)
    · have hf := (if_pos q).symm.trans hf
      refine mj_blk k_X6_ok 56 1 (pc' := 108) (l' := [(0, .ref v0), (1, .ref v1), (3, .int v3), (4, .int v4)]) (st' := [.int (0 : Int32)]) rfl ?_
      obtain rfl := Option.some.inj hf
      exact mj_end (some (.int (0 : Int32))) ⟨mj_dec tok_X6_fits (a := 57) rfl, .boolean, rfl, rfl⟩ ⟨rfl, rfl⟩ (Nat.le_of_ble_eq_true rfl) (Nat.le_of_ble_eq_true rfl)
    · have hf := (if_neg q).symm.trans hf
      refine mj_blk k_X6_ok 54 2 (pc' := 108) (l' := [(0, .ref v0), (1, .ref v1), (3, .int v3), (4, .int v4)]) (st' := [.int (1 : Int32)]) rfl ?_
      obtain rfl := Option.some.inj hf
      exact mj_end (some (.int (1 : Int32))) ⟨mj_dec tok_X6_fits (a := 57) rfl, .boolean, rfl, rfl⟩ ⟨rfl, rfl⟩ (Nat.le_of_ble_eq_true rfl) (Nat.le_of_ble_eq_true rfl)
def b_X6_fits_21 (K21 : Nat → Nat → Int32 → Int32 → Int32 → Int32 → mj_H → Option (Int32 × mj_H)) (v0 : Nat) (v1 : Nat) (v2 : Int32) (v3 : Int32) (v4 : Int32) (v5 : Int32) (h : mj_H) : Option (Int32 × mj_H) := (mj_gI h v0 6 2).bind fun x4 => (if x4 ≤ v5 then f_X6_fits_81 v0 v1 v3 v4 h else (mj_gR h v0 6 0).bind fun x5 => (mj_aL h x5).bind fun x6 => (if x6 ≤ v5 then f_X6_fits_81 v0 v1 v3 v4 h else (mj_gR h v0 6 0).bind fun x7 => (mj_aI h x7 v5).bind fun x8 => (f_X8_costOf x8 h).bind fun p9 => (mj_gR p9.2 v0 6 1).bind fun x10 => (mj_gR p9.2 v0 6 0).bind fun x11 => (mj_aI p9.2 x11 v5).bind fun x12 => (if mj_ob p9.2 v1 0 = true then (f_X0_knows v1 v2 p9.2).bind fun p13 => (if mj_ob p13.2 x10 5 = true then (f_X5_weigh x10 x12 (1 : Int32) p13.1 p13.2).bind fun p14 => K21 v0 v1 v2 v3 (v4 + p9.1) (v5 + (1 : Int32)) p14 else none) else none)))
set_option maxHeartbeats 4000000 in
set_option maxRecDepth 100000 in
theorem wb_X6_fits_21 (K21 : Nat → Nat → Int32 → Int32 → Int32 → Int32 → mj_H → Option (Int32 × mj_H)) (hK21 : ∀ (v0 : Nat) (v1 : Nat) (v2 : Int32) (v3 : Int32) (v4 : Int32) (v5 : Int32)  (h : mj_H) (p : Int32 × mj_H), K21 v0 v1 v2 v3 v4 v5 h = some p → mj_W mX6_fits (mj_FI p) 21 [(0, .ref v0), (1, .ref v1), (2, .int v2), (3, .int v3), (4, .int v4), (5, .int v5)] [] h 0 0) (v0 : Nat) (v1 : Nat) (v2 : Int32) (v3 : Int32) (v4 : Int32) (v5 : Int32) (h : mj_H) (p : Int32 × mj_H) (hf : b_X6_fits_21  K21 v0 v1 v2 v3 v4 v5 h = some p) : mj_W mX6_fits (mj_FI p) 21 [(0, .ref v0), (1, .ref v1), (2, .int v2), (3, .int v3), (4, .int v4), (5, .int v5)] [] h 0 0 := by
  unfold b_X6_fits_21 at hf
  refine mj_blk k_X6_ok 13 2 (pc' := 24) (l' := [(0, .ref v0), (1, .ref v1), (2, .int v2), (3, .int v3), (4, .int v4), (5, .int v5)]) (st' := [.ref v0, .int v5]) rfl ?_
  obtain ⟨x4, ex4, hf⟩ := mj_bd hf
  refine mj_get 15 rfl fl_X6_30 (mj_gI_V ex4) ?_
  refine mj_icmp_ge 16 81 rfl (by decide) (fun q => ?_) (fun q => ?_)
  · have hf := (if_pos q).symm.trans hf
    refine mj_locs [0, 1, 3, 4] (l' := [(0, .ref v0), (1, .ref v1), (3, .int v3), (4, .int v4)]) rfl ?_
    exact w_X6_fits_81 v0 v1 v3 v4 h _ hf
  · have hf := (if_neg q).symm.trans hf
    refine mj_blk k_X6_ok 17 2 (pc' := 33) (l' := [(0, .ref v0), (1, .ref v1), (2, .int v2), (3, .int v3), (4, .int v4), (5, .int v5)]) (st' := [.ref v0, .int v5]) rfl ?_
    obtain ⟨x5, ex5, hf⟩ := mj_bd hf
    refine mj_get 19 rfl fl_X6_9 (mj_gR_V ex5) ?_
    obtain ⟨x6, ex6, hf⟩ := mj_bd hf
    refine mj_alen 20 rfl ex6 ?_
    refine mj_icmp_ge 21 81 rfl (by decide) (fun q => ?_) (fun q => ?_)
    · have hf := (if_pos q).symm.trans hf
      refine mj_locs [0, 1, 3, 4] (l' := [(0, .ref v0), (1, .ref v1), (3, .int v3), (4, .int v4)]) rfl ?_
      exact w_X6_fits_81 v0 v1 v3 v4 h _ hf
    · have hf := (if_neg q).symm.trans hf
      refine mj_blk k_X6_ok 22 2 (pc' := 43) (l' := [(0, .ref v0), (1, .ref v1), (2, .int v2), (3, .int v3), (4, .int v4), (5, .int v5)]) (st' := [.ref v0, .int v4]) rfl ?_
      obtain ⟨x7, ex7, hf⟩ := mj_bd hf
      refine mj_get 24 rfl fl_X6_9 (mj_gR_V ex7) ?_
      refine mj_blk k_X6_ok 25 1 (pc' := 48) (l' := [(0, .ref v0), (1, .ref v1), (2, .int v2), (3, .int v3), (4, .int v4), (5, .int v5)]) (st' := [.int v5, .ref x7, .int v4]) rfl ?_
      obtain ⟨x8, ex8, hf⟩ := mj_bd hf
      refine mj_iald 26 rfl ex8 ?_
      obtain ⟨p9, ep9, hf⟩ := mj_bd hf
      refine mj_callS mX8_costOf [.int x8] 27 rfl ll_X6_38 lb_X8_costOf li_X8_costOf ⟨Nat.le_of_ble_eq_true rfl, Nat.le_of_ble_eq_true rfl⟩ rfl (rest := [.int v4]) rfl (Nat.le_of_ble_eq_true rfl) ⟨Nat.le_of_ble_eq_true rfl, Nat.le_of_ble_eq_true rfl⟩ (c_X8_costOf x8 h p9 ep9) ?_
      show mj_W mX6_fits (mj_FI p) 52 [(0, .ref v0), (1, .ref v1), (2, .int v2), (3, .int v3), (4, .int v4), (5, .int v5)] [.int p9.1, .int v4] p9.2 0 0
      refine mj_blk k_X6_ok 28 3 (pc' := 56) (l' := [(4, .int (v4 + p9.1)), (0, .ref v0), (1, .ref v1), (2, .int v2), (3, .int v3), (5, .int v5)]) (st' := [.ref v0]) rfl ?_
      obtain ⟨x10, ex10, hf⟩ := mj_bd hf
      refine mj_get 31 rfl fl_X6_18 (mj_gR_V ex10) ?_
      refine mj_blk k_X6_ok 32 1 (pc' := 60) (l' := [(4, .int (v4 + p9.1)), (0, .ref v0), (1, .ref v1), (2, .int v2), (3, .int v3), (5, .int v5)]) (st' := [.ref v0, .ref x10]) rfl ?_
      obtain ⟨x11, ex11, hf⟩ := mj_bd hf
      refine mj_get 33 rfl fl_X6_9 (mj_gR_V ex11) ?_
      refine mj_blk k_X6_ok 34 1 (pc' := 65) (l' := [(4, .int (v4 + p9.1)), (0, .ref v0), (1, .ref v1), (2, .int v2), (3, .int v3), (5, .int v5)]) (st' := [.int v5, .ref x11, .ref x10]) rfl ?_
      obtain ⟨x12, ex12, hf⟩ := mj_bd hf
      refine mj_iald 35 rfl ex12 ?_
      refine mj_blk k_X6_ok 36 3 (pc' := 69) (l' := [(4, .int (v4 + p9.1)), (0, .ref v0), (1, .ref v1), (2, .int v2), (3, .int v3), (5, .int v5)]) (st' := [.int v2, .ref v1, .int (1 : Int32), .int x12, .ref x10]) rfl ?_
      obtain ⟨gp13, hf⟩ := mj_gd hf
      obtain ⟨p13, ep13, hf⟩ := mj_bd hf
      refine mj_callV (T := TX0) (N := 7) (ci := 0) mX0_knows [.int v2] 39 rfl ll_X6_42 lb_X0_knows li_X0_knows ⟨Nat.le_of_ble_eq_true rfl, Nat.le_of_ble_eq_true rfl⟩ rfl gp13 rfl (rest := [.int (1 : Int32), .int x12, .ref x10]) rfl (Nat.le_of_ble_eq_true rfl) ⟨Nat.le_of_ble_eq_true rfl, Nat.le_of_ble_eq_true rfl⟩ (c_X0_knows v1 v2 p9.2 p13 ep13) ?_
      show mj_W mX6_fits (mj_FI p) 72 [(4, .int (v4 + p9.1)), (0, .ref v0), (1, .ref v1), (2, .int v2), (3, .int v3), (5, .int v5)] [.int p13.1, .int (1 : Int32), .int x12, .ref x10] p13.2 0 0
      obtain ⟨gp14, hf⟩ := mj_gd hf
      obtain ⟨p14, ep14, hf⟩ := mj_bd hf
      refine mj_callV (T := TX5) (N := 1) (ci := 5) mX5_weigh [.int x12, .int (1 : Int32), .int p13.1] 40 rfl ll_X6_48 lb_X5_weigh li_X5_weigh ⟨Nat.le_of_ble_eq_true rfl, Nat.le_of_ble_eq_true rfl⟩ rfl gp14 rfl (rest := []) rfl (Nat.le_of_ble_eq_true rfl) ⟨Nat.le_of_ble_eq_true rfl, Nat.le_of_ble_eq_true rfl⟩ (c_X5_weigh x10 x12 (1 : Int32) p13.1 p13.2 p14 ep14) ?_
      show mj_W mX6_fits (mj_FI p) 75 [(4, .int (v4 + p9.1)), (0, .ref v0), (1, .ref v1), (2, .int v2), (3, .int v3), (5, .int v5)] [] p14 0 0
      refine mj_blk k_X6_ok 41 2 (pc' := 21) (l' := [(5, .int (v5 + (1 : Int32))), (4, .int (v4 + p9.1)), (0, .ref v0), (1, .ref v1), (2, .int v2), (3, .int v3)]) (st' := []) rfl ?_
      refine mj_locs [2, 3, 4, 5, 1, 0] (l' := [(0, .ref v0), (1, .ref v1), (2, .int v2), (3, .int v3), (4, .int (v4 + p9.1)), (5, .int (v5 + (1 : Int32)))]) rfl ?_
      exact hK21 v0 v1 v2 v3 (v4 + p9.1) (v5 + (1 : Int32)) p14 _ hf
def f_X6_fits_21 (v0 : Nat) (v1 : Nat) (v2 : Int32) (v3 : Int32) (v4 : Int32) (v5 : Int32) (h : mj_H) : Option (Int32 × mj_H) := mj_fix (fun (K21 : (Nat × Nat × Int32 × Int32 × Int32 × Int32 × mj_H) → Option (Int32 × mj_H)) (s : Nat × Nat × Int32 × Int32 × Int32 × Int32 × mj_H) => b_X6_fits_21  (fun v0 v1 v2 v3 v4 v5 h => K21 (v0, v1, v2, v3, v4, v5, h)) s.1 s.2.1 s.2.2.1 s.2.2.2.1 s.2.2.2.2.1 s.2.2.2.2.2.1 s.2.2.2.2.2.2) 1000 (v0, v1, v2, v3, v4, v5, h)
set_option maxHeartbeats 4000000 in
set_option maxRecDepth 100000 in
theorem w_X6_fits_21 (v0 : Nat) (v1 : Nat) (v2 : Int32) (v3 : Int32) (v4 : Int32) (v5 : Int32) (h : mj_H) (p : Int32 × mj_H) (hf : f_X6_fits_21  v0 v1 v2 v3 v4 v5 h = some p) : mj_W mX6_fits (mj_FI p) 21 [(0, .ref v0), (1, .ref v1), (2, .int v2), (3, .int v3), (4, .int v4), (5, .int v5)] [] h 0 0 := by
  unfold f_X6_fits_21 at hf
  exact mj_fix_ind (F := (fun (K21 : (Nat × Nat × Int32 × Int32 × Int32 × Int32 × mj_H) → Option (Int32 × mj_H)) (s : Nat × Nat × Int32 × Int32 × Int32 × Int32 × mj_H) => b_X6_fits_21  (fun v0 v1 v2 v3 v4 v5 h => K21 (v0, v1, v2, v3, v4, v5, h)) s.1 s.2.1 s.2.2.1 s.2.2.2.1 s.2.2.2.2.1 s.2.2.2.2.2.1 s.2.2.2.2.2.2)) (P := fun s p => mj_W mX6_fits (mj_FI p) 21 [(0, .ref s.1), (1, .ref s.2.1), (2, .int s.2.2.1), (3, .int s.2.2.2.1), (4, .int s.2.2.2.2.1), (5, .int s.2.2.2.2.2.1)] [] s.2.2.2.2.2.2 0 0) (fun K21 hK21 s p hf => wb_X6_fits_21   (fun v0 v1 v2 v3 v4 v5 h => K21 (v0, v1, v2, v3, v4, v5, h)) (fun v0 v1 v2 v3 v4 v5 h p e => hK21 (v0, v1, v2, v3, v4, v5, h) p e) s.1 s.2.1 s.2.2.1 s.2.2.2.1 s.2.2.2.2.1 s.2.2.2.2.2.1 s.2.2.2.2.2.2 p hf) 1000 (v0, v1, v2, v3, v4, v5, h) p hf
def f_X6_fits (v0 : Nat) (v1 : Nat) (v2 : Int32) (v3 : Int32) (h : mj_H) : Option (Int32 × mj_H) := (mj_gR h v0 6 1).bind fun x15 => (if mj_ob h x15 5 = true then (f_X5_load x15 v1 v2 h).bind fun p16 => f_X6_fits_21 v0 v1 v2 v3 (0 : Int32) (0 : Int32) p16 else none)
set_option maxHeartbeats 4000000 in
set_option maxRecDepth 100000 in
theorem c_X6_fits (v0 : Nat) (v1 : Nat) (v2 : Int32) (v3 : Int32) (h : mj_H) (p : Int32 × mj_H) (hf : f_X6_fits v0 v1 v2 v3 h = some p) : mj_Met mX6_fits [.ref v0, .ref v1, .int v2, .int v3] h (some (.int p.1)) p.2 := by
  refine mj_met pl_X6 tok_X6_fits (Nat.le_of_ble_eq_true rfl) ?_
  show mj_W mX6_fits (mj_FI p) 0 [(0, .ref v0), (1, .ref v1), (2, .int v2), (3, .int v3)] [] h 0 0
  unfold f_X6_fits at hf
  refine mj_blk k_X6_ok 0 1 (pc' := 1) (l' := [(0, .ref v0), (1, .ref v1), (2, .int v2), (3, .int v3)]) (st' := [.ref v1]) rfl ?_
  refine mj_ifnonnull 1 6 rfl (by decide) ?_
  refine mj_blk k_X6_ok 4 1 (pc' := 7) (l' := [(0, .ref v0), (1, .ref v1), (2, .int v2), (3, .int v3)]) (st' := [.ref v0]) rfl ?_
  obtain ⟨x15, ex15, hf⟩ := mj_bd hf
  refine mj_get 5 rfl fl_X6_18 (mj_gR_V ex15) ?_
  refine mj_blk k_X6_ok 6 2 (pc' := 12) (l' := [(0, .ref v0), (1, .ref v1), (2, .int v2), (3, .int v3)]) (st' := [.int v2, .ref v1, .ref x15]) rfl ?_
  obtain ⟨gp16, hf⟩ := mj_gd hf
  obtain ⟨p16, ep16, hf⟩ := mj_bd hf
  refine mj_callV (T := TX5) (N := 1) (ci := 5) mX5_load [.ref v1, .int v2] 8 rfl ll_X6_34 lb_X5_load li_X5_load ⟨Nat.le_of_ble_eq_true rfl, Nat.le_of_ble_eq_true rfl⟩ rfl gp16 rfl (rest := []) rfl (Nat.le_of_ble_eq_true rfl) ⟨Nat.le_of_ble_eq_true rfl, Nat.le_of_ble_eq_true rfl⟩ (c_X5_load x15 v1 v2 h p16 ep16) ?_
  show mj_W mX6_fits (mj_FI p) 15 [(0, .ref v0), (1, .ref v1), (2, .int v2), (3, .int v3)] [] p16 0 0
  refine mj_blk k_X6_ok 9 4 (pc' := 21) (l' := [(5, .int (0 : Int32)), (4, .int (0 : Int32)), (0, .ref v0), (1, .ref v1), (2, .int v2), (3, .int v3)]) (st' := []) rfl ?_
  refine mj_locs [2, 3, 4, 5, 1, 0] (l' := [(0, .ref v0), (1, .ref v1), (2, .int v2), (3, .int v3), (4, .int (0 : Int32)), (5, .int (0 : Int32))]) rfl ?_
  exact w_X6_fits_21 v0 v1 v2 v3 (0 : Int32) (0 : Int32) p16 _ hf
def b_X6_find_15 (K6 : Nat → Nat → Int32 → Int32 → Int32 → Int32 → mj_H → Option (Int32 × mj_H)) (K15 : Nat → Nat → Int32 → Int32 → Int32 → Int32 → Int32 → mj_H → Option (Int32 × mj_H)) (v0 : Nat) (v1 : Nat) (v2 : Int32) (v3 : Int32) (v4 : Int32) (v5 : Int32) (v6 : Int32) (h : mj_H) : Option (Int32 × mj_H) := (if v4 ≤ v6 then K6 v0 v1 v2 v3 (v4 * (3 : Int32)) (v5 + (1 : Int32)) h else (if mj_ob h v0 6 = true then (f_X6_decode v0 v6 v5 h).bind fun p1 => (if mj_ob p1 v0 6 = true then (f_X6_fits v0 v1 v2 v3 p1).bind fun p2 => (if p2.1 = 0 then K15 v0 v1 v2 v3 v4 v5 (v6 + (1 : Int32)) p2.2 else some ((1 : Int32), p2.2)) else none) else none))
set_option maxHeartbeats 4000000 in
set_option maxRecDepth 100000 in
theorem wb_X6_find_15 (K6 : Nat → Nat → Int32 → Int32 → Int32 → Int32 → mj_H → Option (Int32 × mj_H)) (hK6 : ∀ (v0 : Nat) (v1 : Nat) (v2 : Int32) (v3 : Int32) (v4 : Int32) (v5 : Int32)  (h : mj_H) (p : Int32 × mj_H), K6 v0 v1 v2 v3 v4 v5 h = some p → mj_W mX6_find (mj_FI p) 6 [(0, .ref v0), (1, .ref v1), (2, .int v2), (3, .int v3), (4, .int v4), (5, .int v5)] [] h 0 0) (K15 : Nat → Nat → Int32 → Int32 → Int32 → Int32 → Int32 → mj_H → Option (Int32 × mj_H)) (hK15 : ∀ (v0 : Nat) (v1 : Nat) (v2 : Int32) (v3 : Int32) (v4 : Int32) (v5 : Int32) (v6 : Int32)  (h : mj_H) (p : Int32 × mj_H), K15 v0 v1 v2 v3 v4 v5 v6 h = some p → mj_W mX6_find (mj_FI p) 15 [(0, .ref v0), (1, .ref v1), (2, .int v2), (3, .int v3), (4, .int v4), (5, .int v5), (6, .int v6)] [] h 0 0) (v0 : Nat) (v1 : Nat) (v2 : Int32) (v3 : Int32) (v4 : Int32) (v5 : Int32) (v6 : Int32) (h : mj_H) (p : Int32 × mj_H) (hf : b_X6_find_15 K6 K15 v0 v1 v2 v3 v4 v5 v6 h = some p) : mj_W mX6_find (mj_FI p) 15 [(0, .ref v0), (1, .ref v1), (2, .int v2), (3, .int v3), (4, .int v4), (5, .int v5), (6, .int v6)] [] h 0 0 := by
  unfold b_X6_find_15 at hf
  refine mj_blk k_X6_ok 9 2 (pc' := 19) (l' := [(0, .ref v0), (1, .ref v1), (2, .int v2), (3, .int v3), (4, .int v4), (5, .int v5), (6, .int v6)]) (st' := [.int v4, .int v6]) rfl ?_
  refine mj_icmp_ge 11 48 rfl (by decide) (fun q => ?_) (fun q => ?_)
  · have hf := (if_pos q).symm.trans hf
    refine mj_blk k_X6_ok 26 6 (pc' := 6) (l' := [(5, .int (v5 + (1 : Int32))), (4, .int (v4 * (3 : Int32))), (0, .ref v0), (1, .ref v1), (2, .int v2), (3, .int v3), (6, .int v6)]) (st' := []) rfl ?_
    refine mj_locs [2, 3, 4, 5, 1, 0] (l' := [(0, .ref v0), (1, .ref v1), (2, .int v2), (3, .int v3), (4, .int (v4 * (3 : Int32))), (5, .int (v5 + (1 : Int32)))]) rfl ?_
    exact hK6 v0 v1 v2 v3 (v4 * (3 : Int32)) (v5 + (1 : Int32)) h _ hf
  · have hf := (if_neg q).symm.trans hf
    refine mj_blk k_X6_ok 12 3 (pc' := 27) (l' := [(0, .ref v0), (1, .ref v1), (2, .int v2), (3, .int v3), (4, .int v4), (5, .int v5), (6, .int v6)]) (st' := [.int v5, .int v6, .ref v0]) rfl ?_
    obtain ⟨gp1, hf⟩ := mj_gd hf
    obtain ⟨p1, ep1, hf⟩ := mj_bd hf
    refine mj_callV (T := TX6) (N := 3) (ci := 6) mX6_decode [.int v6, .int v5] 15 rfl ll_X6_22 lb_X6_decode li_X6_decode ⟨Nat.le_of_ble_eq_true rfl, Nat.le_of_ble_eq_true rfl⟩ rfl gp1 rfl (rest := []) rfl (Nat.le_of_ble_eq_true rfl) ⟨Nat.le_of_ble_eq_true rfl, Nat.le_of_ble_eq_true rfl⟩ (c_X6_decode v0 v6 v5 h p1 ep1) ?_
    show mj_W mX6_find (mj_FI p) 30 [(0, .ref v0), (1, .ref v1), (2, .int v2), (3, .int v3), (4, .int v4), (5, .int v5), (6, .int v6)] [] p1 0 0
    refine mj_blk k_X6_ok 16 4 (pc' := 34) (l' := [(0, .ref v0), (1, .ref v1), (2, .int v2), (3, .int v3), (4, .int v4), (5, .int v5), (6, .int v6)]) (st' := [.int v3, .int v2, .ref v1, .ref v0]) rfl ?_
    obtain ⟨gp2, hf⟩ := mj_gd hf
    obtain ⟨p2, ep2, hf⟩ := mj_bd hf
    refine mj_callV (T := TX6) (N := 3) (ci := 6) mX6_fits [.ref v1, .int v2, .int v3] 20 rfl ll_X6_26 lb_X6_fits li_X6_fits ⟨Nat.le_of_ble_eq_true rfl, Nat.le_of_ble_eq_true rfl⟩ rfl gp2 rfl (rest := []) rfl (Nat.le_of_ble_eq_true rfl) ⟨Nat.le_of_ble_eq_true rfl, Nat.le_of_ble_eq_true rfl⟩ (c_X6_fits v0 v1 v2 v3 p1 p2 ep2) ?_
    show mj_W mX6_find (mj_FI p) 37 [(0, .ref v0), (1, .ref v1), (2, .int v2), (3, .int v3), (4, .int v4), (5, .int v5), (6, .int v6)] [.int p2.1] p2.2 0 0
    refine mj_if_eq 21 42 rfl (by decide) (fun q => ?_) (fun q => ?_)
    · have hf := (if_pos q).symm.trans hf
      refine mj_blk k_X6_ok 24 2 (pc' := 15) (l' := [(6, .int (v6 + (1 : Int32))), (0, .ref v0), (1, .ref v1), (2, .int v2), (3, .int v3), (4, .int v4), (5, .int v5)]) (st' := []) rfl ?_
      refine mj_locs [1, 2, 3, 4, 5, 6, 0] (l' := [(0, .ref v0), (1, .ref v1), (2, .int v2), (3, .int v3), (4, .int v4), (5, .int v5), (6, .int (v6 + (1 : Int32)))]) rfl ?_
      exact hK15 v0 v1 v2 v3 v4 v5 (v6 + (1 : Int32)) p2.2 _ hf
    · have hf := (if_neg q).symm.trans hf
      refine mj_blk k_X6_ok 22 1 (pc' := 41) (l' := [(0, .ref v0), (1, .ref v1), (2, .int v2), (3, .int v3), (4, .int v4), (5, .int v5), (6, .int v6)]) (st' := [.int (1 : Int32)]) rfl ?_
      obtain rfl := Option.some.inj hf
      exact mj_end (some (.int (1 : Int32))) ⟨mj_dec tok_X6_find (a := 23) rfl, .boolean, rfl, rfl⟩ ⟨rfl, rfl⟩ (Nat.le_of_ble_eq_true rfl) (Nat.le_of_ble_eq_true rfl)
def f_X6_find_15 (K6 : Nat → Nat → Int32 → Int32 → Int32 → Int32 → mj_H → Option (Int32 × mj_H)) (v0 : Nat) (v1 : Nat) (v2 : Int32) (v3 : Int32) (v4 : Int32) (v5 : Int32) (v6 : Int32) (h : mj_H) : Option (Int32 × mj_H) := mj_fix (fun (K15 : (Nat × Nat × Int32 × Int32 × Int32 × Int32 × Int32 × mj_H) → Option (Int32 × mj_H)) (s : Nat × Nat × Int32 × Int32 × Int32 × Int32 × Int32 × mj_H) => b_X6_find_15 K6 (fun v0 v1 v2 v3 v4 v5 v6 h => K15 (v0, v1, v2, v3, v4, v5, v6, h)) s.1 s.2.1 s.2.2.1 s.2.2.2.1 s.2.2.2.2.1 s.2.2.2.2.2.1 s.2.2.2.2.2.2.1 s.2.2.2.2.2.2.2) 1000 (v0, v1, v2, v3, v4, v5, v6, h)
set_option maxHeartbeats 4000000 in
set_option maxRecDepth 100000 in
theorem w_X6_find_15 (K6 : Nat → Nat → Int32 → Int32 → Int32 → Int32 → mj_H → Option (Int32 × mj_H)) (hK6 : ∀ (v0 : Nat) (v1 : Nat) (v2 : Int32) (v3 : Int32) (v4 : Int32) (v5 : Int32)  (h : mj_H) (p : Int32 × mj_H), K6 v0 v1 v2 v3 v4 v5 h = some p → mj_W mX6_find (mj_FI p) 6 [(0, .ref v0), (1, .ref v1), (2, .int v2), (3, .int v3), (4, .int v4), (5, .int v5)] [] h 0 0) (v0 : Nat) (v1 : Nat) (v2 : Int32) (v3 : Int32) (v4 : Int32) (v5 : Int32) (v6 : Int32) (h : mj_H) (p : Int32 × mj_H) (hf : f_X6_find_15 K6 v0 v1 v2 v3 v4 v5 v6 h = some p) : mj_W mX6_find (mj_FI p) 15 [(0, .ref v0), (1, .ref v1), (2, .int v2), (3, .int v3), (4, .int v4), (5, .int v5), (6, .int v6)] [] h 0 0 := by
  unfold f_X6_find_15 at hf
  exact mj_fix_ind (F := (fun (K15 : (Nat × Nat × Int32 × Int32 × Int32 × Int32 × Int32 × mj_H) → Option (Int32 × mj_H)) (s : Nat × Nat × Int32 × Int32 × Int32 × Int32 × Int32 × mj_H) => b_X6_find_15 K6 (fun v0 v1 v2 v3 v4 v5 v6 h => K15 (v0, v1, v2, v3, v4, v5, v6, h)) s.1 s.2.1 s.2.2.1 s.2.2.2.1 s.2.2.2.2.1 s.2.2.2.2.2.1 s.2.2.2.2.2.2.1 s.2.2.2.2.2.2.2)) (P := fun s p => mj_W mX6_find (mj_FI p) 15 [(0, .ref s.1), (1, .ref s.2.1), (2, .int s.2.2.1), (3, .int s.2.2.2.1), (4, .int s.2.2.2.2.1), (5, .int s.2.2.2.2.2.1), (6, .int s.2.2.2.2.2.2.1)] [] s.2.2.2.2.2.2.2 0 0) (fun K15 hK15 s p hf => wb_X6_find_15 K6 hK6 (fun v0 v1 v2 v3 v4 v5 v6 h => K15 (v0, v1, v2, v3, v4, v5, v6, h)) (fun v0 v1 v2 v3 v4 v5 v6 h p e => hK15 (v0, v1, v2, v3, v4, v5, v6, h) p e) s.1 s.2.1 s.2.2.1 s.2.2.2.1 s.2.2.2.2.1 s.2.2.2.2.2.1 s.2.2.2.2.2.2.1 s.2.2.2.2.2.2.2 p hf) 1000 (v0, v1, v2, v3, v4, v5, v6, h) p hf
def b_X6_find_6 (K6 : Nat → Nat → Int32 → Int32 → Int32 → Int32 → mj_H → Option (Int32 × mj_H)) (v0 : Nat) (v1 : Nat) (v2 : Int32) (v3 : Int32) (v4 : Int32) (v5 : Int32) (h : mj_H) : Option (Int32 × mj_H) := (if (3 : Int32) < v5 then some ((0 : Int32), h) else f_X6_find_15 K6 v0 v1 v2 v3 v4 v5 (0 : Int32) h)
set_option maxHeartbeats 4000000 in
set_option maxRecDepth 100000 in
theorem wb_X6_find_6 (K6 : Nat → Nat → Int32 → Int32 → Int32 → Int32 → mj_H → Option (Int32 × mj_H)) (hK6 : ∀ (v0 : Nat) (v1 : Nat) (v2 : Int32) (v3 : Int32) (v4 : Int32) (v5 : Int32)  (h : mj_H) (p : Int32 × mj_H), K6 v0 v1 v2 v3 v4 v5 h = some p → mj_W mX6_find (mj_FI p) 6 [(0, .ref v0), (1, .ref v1), (2, .int v2), (3, .int v3), (4, .int v4), (5, .int v5)] [] h 0 0) (v0 : Nat) (v1 : Nat) (v2 : Int32) (v3 : Int32) (v4 : Int32) (v5 : Int32) (h : mj_H) (p : Int32 × mj_H) (hf : b_X6_find_6  K6 v0 v1 v2 v3 v4 v5 h = some p) : mj_W mX6_find (mj_FI p) 6 [(0, .ref v0), (1, .ref v1), (2, .int v2), (3, .int v3), (4, .int v4), (5, .int v5)] [] h 0 0 := by
  unfold b_X6_find_6 at hf
  refine mj_blk k_X6_ok 4 2 (pc' := 9) (l' := [(0, .ref v0), (1, .ref v1), (2, .int v2), (3, .int v3), (4, .int v4), (5, .int v5)]) (st' := [.int (3 : Int32), .int v5]) rfl ?_
  refine mj_icmp_gt 6 60 rfl (by decide) (fun q => ?_) (fun q => ?_)
  · have hf := (if_pos q).symm.trans hf
    refine mj_blk k_X6_ok 32 1 (pc' := 61) (l' := [(0, .ref v0), (1, .ref v1), (2, .int v2), (3, .int v3), (4, .int v4), (5, .int v5)]) (st' := [.int (0 : Int32)]) rfl ?_
    obtain rfl := Option.some.inj hf
    exact mj_end (some (.int (0 : Int32))) ⟨mj_dec tok_X6_find (a := 33) rfl, .boolean, rfl, rfl⟩ ⟨rfl, rfl⟩ (Nat.le_of_ble_eq_true rfl) (Nat.le_of_ble_eq_true rfl)
  · have hf := (if_neg q).symm.trans hf
    refine mj_blk k_X6_ok 7 2 (pc' := 15) (l' := [(6, .int (0 : Int32)), (0, .ref v0), (1, .ref v1), (2, .int v2), (3, .int v3), (4, .int v4), (5, .int v5)]) (st' := []) rfl ?_
    refine mj_locs [1, 2, 3, 4, 5, 6, 0] (l' := [(0, .ref v0), (1, .ref v1), (2, .int v2), (3, .int v3), (4, .int v4), (5, .int v5), (6, .int (0 : Int32))]) rfl ?_
    exact w_X6_find_15 K6 hK6 v0 v1 v2 v3 v4 v5 (0 : Int32) h _ hf
def f_X6_find_6 (v0 : Nat) (v1 : Nat) (v2 : Int32) (v3 : Int32) (v4 : Int32) (v5 : Int32) (h : mj_H) : Option (Int32 × mj_H) := mj_fix (fun (K6 : (Nat × Nat × Int32 × Int32 × Int32 × Int32 × mj_H) → Option (Int32 × mj_H)) (s : Nat × Nat × Int32 × Int32 × Int32 × Int32 × mj_H) => b_X6_find_6  (fun v0 v1 v2 v3 v4 v5 h => K6 (v0, v1, v2, v3, v4, v5, h)) s.1 s.2.1 s.2.2.1 s.2.2.2.1 s.2.2.2.2.1 s.2.2.2.2.2.1 s.2.2.2.2.2.2) 1000 (v0, v1, v2, v3, v4, v5, h)
set_option maxHeartbeats 4000000 in
set_option maxRecDepth 100000 in
theorem w_X6_find_6 (v0 : Nat) (v1 : Nat) (v2 : Int32) (v3 : Int32) (v4 : Int32) (v5 : Int32) (h : mj_H) (p : Int32 × mj_H) (hf : f_X6_find_6  v0 v1 v2 v3 v4 v5 h = some p) : mj_W mX6_find (mj_FI p) 6 [(0, .ref v0), (1, .ref v1), (2, .int v2), (3, .int v3), (4, .int v4), (5, .int v5)] [] h 0 0 := by
  unfold f_X6_find_6 at hf
  exact mj_fix_ind (F := (fun (K6 : (Nat × Nat × Int32 × Int32 × Int32 × Int32 × mj_H) → Option (Int32 × mj_H)) (s : Nat × Nat × Int32 × Int32 × Int32 × Int32 × mj_H) => b_X6_find_6  (fun v0 v1 v2 v3 v4 v5 h => K6 (v0, v1, v2, v3, v4, v5, h)) s.1 s.2.1 s.2.2.1 s.2.2.2.1 s.2.2.2.2.1 s.2.2.2.2.2.1 s.2.2.2.2.2.2)) (P := fun s p => mj_W mX6_find (mj_FI p) 6 [(0, .ref s.1), (1, .ref s.2.1), (2, .int s.2.2.1), (3, .int s.2.2.2.1), (4, .int s.2.2.2.2.1), (5, .int s.2.2.2.2.2.1)] [] s.2.2.2.2.2.2 0 0) (fun K6 hK6 s p hf => wb_X6_find_6   (fun v0 v1 v2 v3 v4 v5 h => K6 (v0, v1, v2, v3, v4, v5, h)) (fun v0 v1 v2 v3 v4 v5 h p e => hK6 (v0, v1, v2, v3, v4, v5, h) p e) s.1 s.2.1 s.2.2.1 s.2.2.2.1 s.2.2.2.2.1 s.2.2.2.2.2.1 s.2.2.2.2.2.2 p hf) 1000 (v0, v1, v2, v3, v4, v5, h) p hf
def f_X6_find (v0 : Nat) (v1 : Nat) (v2 : Int32) (v3 : Int32) (h : mj_H) : Option (Int32 × mj_H) := f_X6_find_6 v0 v1 v2 v3 (1 : Int32) (0 : Int32) h
set_option maxHeartbeats 4000000 in
set_option maxRecDepth 100000 in
theorem c_X6_find (v0 : Nat) (v1 : Nat) (v2 : Int32) (v3 : Int32) (h : mj_H) (p : Int32 × mj_H) (hf : f_X6_find v0 v1 v2 v3 h = some p) : mj_Met mX6_find [.ref v0, .ref v1, .int v2, .int v3] h (some (.int p.1)) p.2 := by
  refine mj_met pl_X6 tok_X6_find (Nat.le_of_ble_eq_true rfl) ?_
  show mj_W mX6_find (mj_FI p) 0 [(0, .ref v0), (1, .ref v1), (2, .int v2), (3, .int v3)] [] h 0 0
  unfold f_X6_find at hf
  refine mj_blk k_X6_ok 0 4 (pc' := 6) (l' := [(5, .int (0 : Int32)), (4, .int (1 : Int32)), (0, .ref v0), (1, .ref v1), (2, .int v2), (3, .int v3)]) (st' := []) rfl ?_
  refine mj_locs [2, 3, 4, 5, 1, 0] (l' := [(0, .ref v0), (1, .ref v1), (2, .int v2), (3, .int v3), (4, .int (1 : Int32)), (5, .int (0 : Int32))]) rfl ?_
  exact w_X6_find_6 v0 v1 v2 v3 (1 : Int32) (0 : Int32) h _ hf
def f_X6_testAt (v0 : Nat) (v1 : Int32) (h : mj_H) : Option (Int32 × mj_H) := (if v1 < 0 then some ((-1 : Int32), h) else (mj_gR h v0 6 0).bind fun x1 => (mj_aL h x1).bind fun x2 => (if x2 ≤ v1 then some ((-1 : Int32), h) else (mj_gR h v0 6 0).bind fun x3 => (mj_aI h x3 v1).bind fun x4 => some (x4, h)))
set_option maxHeartbeats 4000000 in
set_option maxRecDepth 100000 in
theorem c_X6_testAt (v0 : Nat) (v1 : Int32) (h : mj_H) (p : Int32 × mj_H) (hf : f_X6_testAt v0 v1 h = some p) : mj_Met mX6_testAt [.ref v0, .int v1] h (some (.int p.1)) p.2 := by
  refine mj_met pl_X6 tok_X6_testAt (Nat.le_of_ble_eq_true rfl) ?_
  show mj_W mX6_testAt (mj_FI p) 0 [(0, .ref v0), (1, .int v1)] [] h 0 0
  unfold f_X6_testAt at hf
  refine mj_blk k_X6_ok 0 1 (pc' := 1) (l' := [(0, .ref v0), (1, .int v1)]) (st' := [.int v1]) rfl ?_
  refine mj_if_lt 1 22 rfl (by decide) (fun q => ?_) (fun q => ?_)
  · have hf := (if_pos q).symm.trans hf
    refine mj_blk k_X6_ok 12 1 (pc' := 23) (l' := [(0, .ref v0), (1, .int v1)]) (st' := [.int (-1 : Int32)]) rfl ?_
    obtain rfl := Option.some.inj hf
    exact mj_end (some (.int (-1 : Int32))) ⟨mj_dec tok_X6_testAt (a := 13) rfl, .int, rfl, rfl⟩ ⟨rfl, rfl⟩ (Nat.le_of_ble_eq_true rfl) (Nat.le_of_ble_eq_true rfl)
  · have hf := (if_neg q).symm.trans hf
    refine mj_blk k_X6_ok 2 2 (pc' := 6) (l' := [(0, .ref v0), (1, .int v1)]) (st' := [.ref v0, .int v1]) rfl ?_
    obtain ⟨x1, ex1, hf⟩ := mj_bd hf
    refine mj_get 4 rfl fl_X6_9 (mj_gR_V ex1) ?_
    obtain ⟨x2, ex2, hf⟩ := mj_bd hf
    refine mj_alen 5 rfl ex2 ?_
    refine mj_icmp_ge 6 22 rfl (by decide) (fun q => ?_) (fun q => ?_)
    · have hf := (if_pos q).symm.trans hf
      refine mj_blk k_X6_ok 12 1 (pc' := 23) (l' := [(0, .ref v0), (1, .int v1)]) (st' := [.int (-1 : Int32)]) rfl ?_
      obtain rfl := Option.some.inj hf
      exact mj_end (some (.int (-1 : Int32))) ⟨mj_dec tok_X6_testAt (a := 13) rfl, .int, rfl, rfl⟩ ⟨rfl, rfl⟩ (Nat.le_of_ble_eq_true rfl) (Nat.le_of_ble_eq_true rfl)
    · have hf := (if_neg q).symm.trans hf
      refine mj_blk k_X6_ok 7 1 (pc' := 14) (l' := [(0, .ref v0), (1, .int v1)]) (st' := [.ref v0]) rfl ?_
      obtain ⟨x3, ex3, hf⟩ := mj_bd hf
      refine mj_get 8 rfl fl_X6_9 (mj_gR_V ex3) ?_
      refine mj_blk k_X6_ok 9 1 (pc' := 18) (l' := [(0, .ref v0), (1, .int v1)]) (st' := [.int v1, .ref x3]) rfl ?_
      obtain ⟨x4, ex4, hf⟩ := mj_bd hf
      refine mj_iald 10 rfl ex4 ?_
      refine mj_blk k_X6_ok 11 1 (pc' := 23) (l' := [(0, .ref v0), (1, .int v1)]) (st' := [.int x4]) rfl ?_
      obtain rfl := Option.some.inj hf
      exact mj_end (some (.int x4)) ⟨mj_dec tok_X6_testAt (a := 13) rfl, .int, rfl, rfl⟩ ⟨rfl, rfl⟩ (Nat.le_of_ble_eq_true rfl) (Nat.le_of_ble_eq_true rfl)
def f_X7_append (v0 : Nat) (v1 : Int32) (h : mj_H) : Option (Int32 × mj_H) := (if v1 < 0 then some ((-2 : Int32), h) else (if v1 ≤ (127 : Int32) then (mj_gI h v0 7 1).bind fun x1 => (if x1 < 0 then some ((-4 : Int32), h) else (mj_gI h v0 7 1).bind fun x2 => (if x2 < (150 : Int32) then (mj_gR h v0 7 0).bind fun x3 => (mj_gI h v0 7 1).bind fun x4 => (mj_uI h x3 x4 v1).bind fun h5 => (mj_gI h5 v0 7 1).bind fun x6 => (mj_sV h5 v0 7 1 (.int (x6 + (1 : Int32)))).bind fun h7 => (mj_gI h7 v0 7 1).bind fun x8 => some (x8, h7) else some ((-4 : Int32), h))) else some ((-2 : Int32), h)))
set_option maxHeartbeats 4000000 in
set_option maxRecDepth 100000 in
theorem c_X7_append (v0 : Nat) (v1 : Int32) (h : mj_H) (p : Int32 × mj_H) (hf : f_X7_append v0 v1 h = some p) : mj_Met mX7_append [.ref v0, .int v1] h (some (.int p.1)) p.2 := by
  refine mj_met pl_X7 tok_X7_append (Nat.le_of_ble_eq_true rfl) ?_
  show mj_W mX7_append (mj_FI p) 0 [(0, .ref v0), (1, .int v1)] [] h 0 0
  unfold f_X7_append at hf
  refine mj_blk k_X7_ok 0 1 (pc' := 1) (l' := [(0, .ref v0), (1, .int v1)]) (st' := [.int v1]) rfl ?_
  refine mj_if_lt 1 10 rfl (by decide) (fun q => ?_) (fun q => ?_)
  · have hf := (if_pos q).symm.trans hf
    refine mj_blk k_X7_ok 5 1 (pc' := 12) (l' := [(0, .ref v0), (1, .int v1)]) (st' := [.int (-2 : Int32)]) rfl ?_
    obtain rfl := Option.some.inj hf
    exact mj_end (some (.int (-2 : Int32))) ⟨mj_dec tok_X7_append (a := 6) rfl, .int, rfl, rfl⟩ ⟨rfl, rfl⟩ (Nat.le_of_ble_eq_true rfl) (Nat.le_of_ble_eq_true rfl)
  · have hf := (if_neg q).symm.trans hf
    refine mj_blk k_X7_ok 2 2 (pc' := 7) (l' := [(0, .ref v0), (1, .int v1)]) (st' := [.int (127 : Int32), .int v1]) rfl ?_
    refine mj_icmp_le 4 13 rfl (by decide) (fun q => ?_) (fun q => ?_)
    · have hf := (if_pos q).symm.trans hf
      refine mj_blk k_X7_ok 7 1 (pc' := 14) (l' := [(0, .ref v0), (1, .int v1)]) (st' := [.ref v0]) rfl ?_
      obtain ⟨x1, ex1, hf⟩ := mj_bd hf
      refine mj_get 8 rfl fl_X7_15 (mj_gI_V ex1) ?_
      refine mj_if_lt 9 30 rfl (by decide) (fun q => ?_) (fun q => ?_)
      · have hf := (if_pos q).symm.trans hf
        refine mj_blk k_X7_ok 14 1 (pc' := 32) (l' := [(0, .ref v0), (1, .int v1)]) (st' := [.int (-4 : Int32)]) rfl ?_
        obtain rfl := Option.some.inj hf
        exact mj_end (some (.int (-4 : Int32))) ⟨mj_dec tok_X7_append (a := 15) rfl, .int, rfl, rfl⟩ ⟨rfl, rfl⟩ (Nat.le_of_ble_eq_true rfl) (Nat.le_of_ble_eq_true rfl)
      · have hf := (if_neg q).symm.trans hf
        refine mj_blk k_X7_ok 10 1 (pc' := 21) (l' := [(0, .ref v0), (1, .int v1)]) (st' := [.ref v0]) rfl ?_
        obtain ⟨x2, ex2, hf⟩ := mj_bd hf
        refine mj_get 11 rfl fl_X7_15 (mj_gI_V ex2) ?_
        refine mj_blk k_X7_ok 12 1 (pc' := 27) (l' := [(0, .ref v0), (1, .int v1)]) (st' := [.int (150 : Int32), .int x2]) rfl ?_
        refine mj_icmp_lt 13 33 rfl (by decide) (fun q => ?_) (fun q => ?_)
        · have hf := (if_pos q).symm.trans hf
          refine mj_blk k_X7_ok 16 1 (pc' := 34) (l' := [(0, .ref v0), (1, .int v1)]) (st' := [.ref v0]) rfl ?_
          obtain ⟨x3, ex3, hf⟩ := mj_bd hf
          refine mj_get 17 rfl fl_X7_11 (mj_gR_V ex3) ?_
          refine mj_blk k_X7_ok 18 1 (pc' := 38) (l' := [(0, .ref v0), (1, .int v1)]) (st' := [.ref v0, .ref x3]) rfl ?_
          obtain ⟨x4, ex4, hf⟩ := mj_bd hf
          refine mj_get 19 rfl fl_X7_15 (mj_gI_V ex4) ?_
          refine mj_blk k_X7_ok 20 1 (pc' := 42) (l' := [(0, .ref v0), (1, .int v1)]) (st' := [.int v1, .int x4, .ref x3]) rfl ?_
          obtain ⟨h5, eh5, hf⟩ := mj_bd hf
          refine mj_iast 21 rfl eh5 ?_
          refine mj_blk k_X7_ok 22 2 (pc' := 45) (l' := [(0, .ref v0), (1, .int v1)]) (st' := [.ref v0, .ref v0]) rfl ?_
          obtain ⟨x6, ex6, hf⟩ := mj_bd hf
          refine mj_get 24 rfl fl_X7_15 (mj_gI_V ex6) ?_
          refine mj_blk k_X7_ok 25 2 (pc' := 50) (l' := [(0, .ref v0), (1, .int v1)]) (st' := [.int (x6 + (1 : Int32)), .ref v0]) rfl ?_
          obtain ⟨h7, eh7, hf⟩ := mj_bd hf
          refine mj_put 27 rfl fp_X7_15 (fun _ => ⟨rfl, rfl⟩) eh7 ?_
          refine mj_blk k_X7_ok 28 1 (pc' := 54) (l' := [(0, .ref v0), (1, .int v1)]) (st' := [.ref v0]) rfl ?_
          obtain ⟨x8, ex8, hf⟩ := mj_bd hf
          refine mj_get 29 rfl fl_X7_15 (mj_gI_V ex8) ?_
          obtain rfl := Option.some.inj hf
          exact mj_end (some (.int x8)) ⟨mj_dec tok_X7_append (a := 30) rfl, .int, rfl, rfl⟩ ⟨rfl, rfl⟩ (Nat.le_of_ble_eq_true rfl) (Nat.le_of_ble_eq_true rfl)
        · have hf := (if_neg q).symm.trans hf
          refine mj_blk k_X7_ok 14 1 (pc' := 32) (l' := [(0, .ref v0), (1, .int v1)]) (st' := [.int (-4 : Int32)]) rfl ?_
          obtain rfl := Option.some.inj hf
          exact mj_end (some (.int (-4 : Int32))) ⟨mj_dec tok_X7_append (a := 15) rfl, .int, rfl, rfl⟩ ⟨rfl, rfl⟩ (Nat.le_of_ble_eq_true rfl) (Nat.le_of_ble_eq_true rfl)
    · have hf := (if_neg q).symm.trans hf
      refine mj_blk k_X7_ok 5 1 (pc' := 12) (l' := [(0, .ref v0), (1, .int v1)]) (st' := [.int (-2 : Int32)]) rfl ?_
      obtain rfl := Option.some.inj hf
      exact mj_end (some (.int (-2 : Int32))) ⟨mj_dec tok_X7_append (a := 6) rfl, .int, rfl, rfl⟩ ⟨rfl, rfl⟩ (Nat.le_of_ble_eq_true rfl) (Nat.le_of_ble_eq_true rfl)
def f_X7_empty (v0 : Nat) (h : mj_H) : Option (Int32 × mj_H) := (mj_gI h v0 7 1).bind fun x1 => (mj_sV h v0 7 1 (.int (0 : Int32))).bind fun h2 => some (x1, h2)
set_option maxHeartbeats 4000000 in
set_option maxRecDepth 100000 in
theorem c_X7_empty (v0 : Nat) (h : mj_H) (p : Int32 × mj_H) (hf : f_X7_empty v0 h = some p) : mj_Met mX7_empty [.ref v0] h (some (.int p.1)) p.2 := by
  refine mj_met pl_X7 tok_X7_empty (Nat.le_of_ble_eq_true rfl) ?_
  show mj_W mX7_empty (mj_FI p) 0 [(0, .ref v0)] [] h 0 0
  unfold f_X7_empty at hf
  refine mj_blk k_X7_ok 0 1 (pc' := 1) (l' := [(0, .ref v0)]) (st' := [.ref v0]) rfl ?_
  obtain ⟨x1, ex1, hf⟩ := mj_bd hf
  refine mj_get 1 rfl fl_X7_15 (mj_gI_V ex1) ?_
  refine mj_blk k_X7_ok 2 3 (pc' := 7) (l' := [(1, .int x1), (0, .ref v0)]) (st' := [.int (0 : Int32), .ref v0]) rfl ?_
  obtain ⟨h2, eh2, hf⟩ := mj_bd hf
  refine mj_put 5 rfl fp_X7_15 (fun _ => ⟨rfl, rfl⟩) eh2 ?_
  refine mj_blk k_X7_ok 6 1 (pc' := 11) (l' := [(1, .int x1), (0, .ref v0)]) (st' := [.int x1]) rfl ?_
  obtain rfl := Option.some.inj hf
  exact mj_end (some (.int x1)) ⟨mj_dec tok_X7_empty (a := 7) rfl, .int, rfl, rfl⟩ ⟨rfl, rfl⟩ (Nat.le_of_ble_eq_true rfl) (Nat.le_of_ble_eq_true rfl)
def f_X8_init (v0 : Nat) (h : mj_H) : Option (mj_H) := (mj_mk h (.inr (0, [.null, .null, .null, .null, .int 0, .int 0, .int 0]))).bind fun p1 => (f_X0_init p1.1 p1.2).bind fun p2 => (mj_sV p2 v0 8 0 (.ref p1.1)).bind fun h3 => (mj_mk h3 (.inr (3, [.null, .null, .null, .int 0, .int 0]))).bind fun p4 => (f_X3_init p4.1 p4.2).bind fun p5 => (mj_sV p5 v0 8 1 (.ref p4.1)).bind fun h6 => (mj_mk h6 (.inr (1, [.null, .null, .int 0]))).bind fun p7 => (f_X1_init p7.1 p7.2).bind fun p8 => (mj_sV p8 v0 8 2 (.ref p7.1)).bind fun h9 => (mj_mk h9 (.inr (1, [.null, .null, .int 0]))).bind fun p10 => (f_X1_init p10.1 p10.2).bind fun p11 => (mj_sV p11 v0 8 3 (.ref p10.1)).bind fun h12 => (mj_mk h12 (.inr (4, [.null, .null, .null, .int 0, .int 0, .int 0, .int 0, .int 0, .int 0]))).bind fun p13 => (f_X4_init p13.1 p13.2).bind fun p14 => (mj_sV p14 v0 8 4 (.ref p13.1)).bind fun h15 => (mj_mk h15 (.inr (2, [.null, .null, .int 0]))).bind fun p16 => (f_X2_init p16.1 p16.2).bind fun p17 => (mj_sV p17 v0 8 5 (.ref p16.1)).bind fun h18 => (mj_mk h18 (.inr (5, [.null]))).bind fun p19 => (f_X5_init p19.1 p19.2).bind fun p20 => (mj_sV p20 v0 8 6 (.ref p19.1)).bind fun h21 => (mj_mk h21 (.inr (6, [.null, .null, .int 0]))).bind fun p22 => (f_X6_init p22.1 p22.2).bind fun p23 => (mj_sV p23 v0 8 7 (.ref p22.1)).bind fun h24 => (mj_mk h24 (.inl (0, 6, .inl (fun _ => (0 : Int32))))).bind fun p25 => (mj_sV p25.2 v0 8 8 (.ref p25.1)).bind fun h26 => (mj_sV h26 v0 8 9 (.long (0 : Int64))).bind fun h27 => (mj_sV h27 v0 8 10 (.long (1 : Int64))).bind fun h28 => some h28
set_option maxHeartbeats 4000000 in
set_option maxRecDepth 100000 in
theorem c_X8_init (v0 : Nat) (h : mj_H) (p : mj_H) (hf : f_X8_init v0 h = some p) : mj_Met mX8_init [.ref v0] h none p := by
  refine mj_met pl_X8 tok_X8_init (Nat.le_of_ble_eq_true rfl) ?_
  show mj_W mX8_init (mj_FV p) 0 [(0, .ref v0)] [] h 0 0
  unfold f_X8_init at hf
  refine mj_blk k_X8_ok 0 1 (pc' := 1) (l' := [(0, .ref v0)]) (st' := [.ref v0]) rfl ?_
  refine mj_obj 1 rfl ob_X8_1 ⟨Nat.le_of_ble_eq_true rfl, Nat.le_of_ble_eq_true rfl⟩ ?_
  refine mj_blk k_X8_ok 2 1 (pc' := 5) (l' := [(0, .ref v0)]) (st' := [.ref v0]) rfl ?_
  obtain ⟨p1, ep1, hf⟩ := mj_bd hf
  refine mj_newP 3 rfl nw_X8_7 (by simp [mj_0]) ep1 (Nat.le_of_ble_eq_true rfl) (Nat.le_of_ble_eq_true rfl) ?_
  refine mj_blk k_X8_ok 4 1 (pc' := 9) (l' := [(0, .ref v0)]) (st' := [.ref p1.1, .ref p1.1, .ref v0]) rfl ?_
  obtain ⟨p2, ep2, hf⟩ := mj_bd hf
  refine mj_callI mX0_init [] 5 rfl ll_X8_9 lb_X0_init li_X0_init ⟨Nat.le_of_ble_eq_true rfl, Nat.le_of_ble_eq_true rfl⟩ rfl (rest := [.ref p1.1, .ref v0]) rfl (Nat.le_of_ble_eq_true rfl) ⟨Nat.le_of_ble_eq_true rfl, Nat.le_of_ble_eq_true rfl⟩ (c_X0_init p1.1 p1.2 p2 ep2) ?_
  show mj_W mX8_init (mj_FV p) 12 [(0, .ref v0)] [.ref p1.1, .ref v0] p2 6 62
  obtain ⟨h3, eh3, hf⟩ := mj_bd hf
  refine mj_put 6 rfl fp_X8_10 (fun _ => ⟨rfl, rfl⟩) eh3 ?_
  refine mj_blk k_X8_ok 7 1 (pc' := 16) (l' := [(0, .ref v0)]) (st' := [.ref v0]) rfl ?_
  obtain ⟨p4, ep4, hf⟩ := mj_bd hf
  refine mj_newP 8 rfl nw_X8_16 (by simp [mj_0]) ep4 (Nat.le_of_ble_eq_true rfl) (Nat.le_of_ble_eq_true rfl) ?_
  refine mj_blk k_X8_ok 9 1 (pc' := 20) (l' := [(0, .ref v0)]) (st' := [.ref p4.1, .ref p4.1, .ref v0]) rfl ?_
  obtain ⟨p5, ep5, hf⟩ := mj_bd hf
  refine mj_callI mX3_init [] 10 rfl ll_X8_18 lb_X3_init li_X3_init ⟨Nat.le_of_ble_eq_true rfl, Nat.le_of_ble_eq_true rfl⟩ rfl (rest := [.ref p4.1, .ref v0]) rfl (Nat.le_of_ble_eq_true rfl) ⟨Nat.le_of_ble_eq_true rfl, Nat.le_of_ble_eq_true rfl⟩ (c_X3_init p4.1 p4.2 p5 ep5) ?_
  show mj_W mX8_init (mj_FV p) 23 [(0, .ref v0)] [.ref p4.1, .ref v0] p5 10 371
  obtain ⟨h6, eh6, hf⟩ := mj_bd hf
  refine mj_put 11 rfl fp_X8_19 (fun _ => ⟨rfl, rfl⟩) eh6 ?_
  refine mj_blk k_X8_ok 12 1 (pc' := 27) (l' := [(0, .ref v0)]) (st' := [.ref v0]) rfl ?_
  obtain ⟨p7, ep7, hf⟩ := mj_bd hf
  refine mj_newP 13 rfl nw_X8_23 (by simp [mj_0]) ep7 (Nat.le_of_ble_eq_true rfl) (Nat.le_of_ble_eq_true rfl) ?_
  refine mj_blk k_X8_ok 14 1 (pc' := 31) (l' := [(0, .ref v0)]) (st' := [.ref p7.1, .ref p7.1, .ref v0]) rfl ?_
  obtain ⟨p8, ep8, hf⟩ := mj_bd hf
  refine mj_callI mX1_init [] 15 rfl ll_X8_25 lb_X1_init li_X1_init ⟨Nat.le_of_ble_eq_true rfl, Nat.le_of_ble_eq_true rfl⟩ rfl (rest := [.ref p7.1, .ref v0]) rfl (Nat.le_of_ble_eq_true rfl) ⟨Nat.le_of_ble_eq_true rfl, Nat.le_of_ble_eq_true rfl⟩ (c_X1_init p7.1 p7.2 p8 ep8) ?_
  show mj_W mX8_init (mj_FV p) 34 [(0, .ref v0)] [.ref p7.1, .ref v0] p8 21 745
  obtain ⟨h9, eh9, hf⟩ := mj_bd hf
  refine mj_put 16 rfl fp_X8_26 (fun _ => ⟨rfl, rfl⟩) eh9 ?_
  refine mj_blk k_X8_ok 17 1 (pc' := 38) (l' := [(0, .ref v0)]) (st' := [.ref v0]) rfl ?_
  obtain ⟨p10, ep10, hf⟩ := mj_bd hf
  refine mj_newP 18 rfl nw_X8_23 (by simp [mj_0]) ep10 (Nat.le_of_ble_eq_true rfl) (Nat.le_of_ble_eq_true rfl) ?_
  refine mj_blk k_X8_ok 19 1 (pc' := 42) (l' := [(0, .ref v0)]) (st' := [.ref p10.1, .ref p10.1, .ref v0]) rfl ?_
  obtain ⟨p11, ep11, hf⟩ := mj_bd hf
  refine mj_callI mX1_init [] 20 rfl ll_X8_25 lb_X1_init li_X1_init ⟨Nat.le_of_ble_eq_true rfl, Nat.le_of_ble_eq_true rfl⟩ rfl (rest := [.ref p10.1, .ref v0]) rfl (Nat.le_of_ble_eq_true rfl) ⟨Nat.le_of_ble_eq_true rfl, Nat.le_of_ble_eq_true rfl⟩ (c_X1_init p10.1 p10.2 p11 ep11) ?_
  show mj_W mX8_init (mj_FV p) 45 [(0, .ref v0)] [.ref p10.1, .ref v0] p11 32 1119
  obtain ⟨h12, eh12, hf⟩ := mj_bd hf
  refine mj_put 21 rfl fp_X8_30 (fun _ => ⟨rfl, rfl⟩) eh12 ?_
  refine mj_blk k_X8_ok 22 1 (pc' := 49) (l' := [(0, .ref v0)]) (st' := [.ref v0]) rfl ?_
  obtain ⟨p13, ep13, hf⟩ := mj_bd hf
  refine mj_newP 23 rfl nw_X8_33 (by simp [mj_0]) ep13 (Nat.le_of_ble_eq_true rfl) (Nat.le_of_ble_eq_true rfl) ?_
  refine mj_blk k_X8_ok 24 1 (pc' := 53) (l' := [(0, .ref v0)]) (st' := [.ref p13.1, .ref p13.1, .ref v0]) rfl ?_
  obtain ⟨p14, ep14, hf⟩ := mj_bd hf
  refine mj_callI mX4_init [] 25 rfl ll_X8_35 lb_X4_init li_X4_init ⟨Nat.le_of_ble_eq_true rfl, Nat.le_of_ble_eq_true rfl⟩ rfl (rest := [.ref p13.1, .ref v0]) rfl (Nat.le_of_ble_eq_true rfl) ⟨Nat.le_of_ble_eq_true rfl, Nat.le_of_ble_eq_true rfl⟩ (c_X4_init p13.1 p13.2 p14 ep14) ?_
  show mj_W mX8_init (mj_FV p) 56 [(0, .ref v0)] [.ref p13.1, .ref v0] p14 42 1348
  obtain ⟨h15, eh15, hf⟩ := mj_bd hf
  refine mj_put 26 rfl fp_X8_36 (fun _ => ⟨rfl, rfl⟩) eh15 ?_
  refine mj_blk k_X8_ok 27 1 (pc' := 60) (l' := [(0, .ref v0)]) (st' := [.ref v0]) rfl ?_
  obtain ⟨p16, ep16, hf⟩ := mj_bd hf
  refine mj_newP 28 rfl nw_X8_40 (by simp [mj_0]) ep16 (Nat.le_of_ble_eq_true rfl) (Nat.le_of_ble_eq_true rfl) ?_
  refine mj_blk k_X8_ok 29 1 (pc' := 64) (l' := [(0, .ref v0)]) (st' := [.ref p16.1, .ref p16.1, .ref v0]) rfl ?_
  obtain ⟨p17, ep17, hf⟩ := mj_bd hf
  refine mj_callI mX2_init [] 30 rfl ll_X8_42 lb_X2_init li_X2_init ⟨Nat.le_of_ble_eq_true rfl, Nat.le_of_ble_eq_true rfl⟩ rfl (rest := [.ref p16.1, .ref v0]) rfl (Nat.le_of_ble_eq_true rfl) ⟨Nat.le_of_ble_eq_true rfl, Nat.le_of_ble_eq_true rfl⟩ (c_X2_init p16.1 p16.2 p17 ep17) ?_
  show mj_W mX8_init (mj_FV p) 67 [(0, .ref v0)] [.ref p16.1, .ref v0] p17 45 1364
  obtain ⟨h18, eh18, hf⟩ := mj_bd hf
  refine mj_put 31 rfl fp_X8_43 (fun _ => ⟨rfl, rfl⟩) eh18 ?_
  refine mj_blk k_X8_ok 32 1 (pc' := 71) (l' := [(0, .ref v0)]) (st' := [.ref v0]) rfl ?_
  obtain ⟨p19, ep19, hf⟩ := mj_bd hf
  refine mj_newP 33 rfl nw_X8_47 (by simp [mj_0]) ep19 (Nat.le_of_ble_eq_true rfl) (Nat.le_of_ble_eq_true rfl) ?_
  refine mj_blk k_X8_ok 34 1 (pc' := 75) (l' := [(0, .ref v0)]) (st' := [.ref p19.1, .ref p19.1, .ref v0]) rfl ?_
  obtain ⟨p20, ep20, hf⟩ := mj_bd hf
  refine mj_callI mX5_init [] 35 rfl ll_X8_49 lb_X5_init li_X5_init ⟨Nat.le_of_ble_eq_true rfl, Nat.le_of_ble_eq_true rfl⟩ rfl (rest := [.ref p19.1, .ref v0]) rfl (Nat.le_of_ble_eq_true rfl) ⟨Nat.le_of_ble_eq_true rfl, Nat.le_of_ble_eq_true rfl⟩ (c_X5_init p19.1 p19.2 p20 ep20) ?_
  show mj_W mX8_init (mj_FV p) 78 [(0, .ref v0)] [.ref p19.1, .ref v0] p20 47 1371
  obtain ⟨h21, eh21, hf⟩ := mj_bd hf
  refine mj_put 36 rfl fp_X8_50 (fun _ => ⟨rfl, rfl⟩) eh21 ?_
  refine mj_blk k_X8_ok 37 1 (pc' := 82) (l' := [(0, .ref v0)]) (st' := [.ref v0]) rfl ?_
  obtain ⟨p22, ep22, hf⟩ := mj_bd hf
  refine mj_newP 38 rfl nw_X8_54 (by simp [mj_0]) ep22 (Nat.le_of_ble_eq_true rfl) (Nat.le_of_ble_eq_true rfl) ?_
  refine mj_blk k_X8_ok 39 1 (pc' := 86) (l' := [(0, .ref v0)]) (st' := [.ref p22.1, .ref p22.1, .ref v0]) rfl ?_
  obtain ⟨p23, ep23, hf⟩ := mj_bd hf
  refine mj_callI mX6_init [] 40 rfl ll_X8_56 lb_X6_init li_X6_init ⟨Nat.le_of_ble_eq_true rfl, Nat.le_of_ble_eq_true rfl⟩ rfl (rest := [.ref p22.1, .ref v0]) rfl (Nat.le_of_ble_eq_true rfl) ⟨Nat.le_of_ble_eq_true rfl, Nat.le_of_ble_eq_true rfl⟩ (c_X6_init p22.1 p22.2 p23 ep23) ?_
  show mj_W mX8_init (mj_FV p) 89 [(0, .ref v0)] [.ref p22.1, .ref v0] p23 51 1384
  obtain ⟨h24, eh24, hf⟩ := mj_bd hf
  refine mj_put 41 rfl fp_X8_57 (fun _ => ⟨rfl, rfl⟩) eh24 ?_
  refine mj_blk k_X8_ok 42 2 (pc' := 95) (l' := [(0, .ref v0)]) (st' := [.int (6 : Int32), .ref v0]) rfl ?_
  obtain ⟨p25, ep25, hf⟩ := mj_bd hf
  refine mj_newIP 6 44 rfl rfl (by decide) aw_int ep25 (Nat.le_of_ble_eq_true rfl) (Nat.le_of_ble_eq_true rfl) ?_
  obtain ⟨h26, eh26, hf⟩ := mj_bd hf
  refine mj_put 45 rfl fp_X8_61 (fun _ => ⟨rfl, rfl⟩) eh26 ?_
  refine mj_blk k_X8_ok 46 2 (pc' := 102) (l' := [(0, .ref v0)]) (st' := [.long (0 : Int64), .ref v0]) rfl ?_
  obtain ⟨h27, eh27, hf⟩ := mj_bd hf
  refine mj_put 48 rfl fp_X8_65 (fun _ => ⟨rfl, rfl⟩) eh27 ?_
  refine mj_blk k_X8_ok 49 2 (pc' := 107) (l' := [(0, .ref v0)]) (st' := [.long (1 : Int64), .ref v0]) rfl ?_
  obtain ⟨h28, eh28, hf⟩ := mj_bd hf
  refine mj_put 51 rfl fp_X8_69 (fun _ => ⟨rfl, rfl⟩) eh28 ?_
  obtain rfl := Option.some.inj hf
  exact mj_end none ⟨mj_dec tok_X8_init (a := 52) rfl, rfl⟩ ⟨rfl, rfl⟩ (Nat.le_of_ble_eq_true rfl) (Nat.le_of_ble_eq_true rfl)
def f_X8_refusedAs (v0 : Nat) (v1 : Int32) (v2 : Int32) (h : mj_H) : Option (Int32 × mj_H) := (if v1 = (-2 : Int32) then (mj_gI h v0 8 11).bind fun x5 => (mj_sV h v0 8 11 (.int (x5 + (1 : Int32)))).bind fun h6 => some (v2, h6) else (if v1 = (-3 : Int32) then (mj_gI h v0 8 12).bind fun x3 => (mj_sV h v0 8 12 (.int (x3 + (1 : Int32)))).bind fun h4 => some (v2, h4) else (if v1 = (-4 : Int32) then (mj_gI h v0 8 13).bind fun x1 => (mj_sV h v0 8 13 (.int (x1 + (1 : Int32)))).bind fun h2 => some (v2, h2) else some (v2, h))))
set_option maxHeartbeats 4000000 in
set_option maxRecDepth 100000 in
theorem c_X8_refusedAs (v0 : Nat) (v1 : Int32) (v2 : Int32) (h : mj_H) (p : Int32 × mj_H) (hf : f_X8_refusedAs v0 v1 v2 h = some p) : mj_Met mX8_refusedAs [.ref v0, .int v1, .int v2] h (some (.int p.1)) p.2 := by
  refine mj_met pl_X8 tok_X8_refusedAs (Nat.le_of_ble_eq_true rfl) ?_
  show mj_W mX8_refusedAs (mj_FI p) 0 [(0, .ref v0), (1, .int v1), (2, .int v2)] [] h 0 0
  unfold f_X8_refusedAs at hf
  refine mj_blk k_X8_ok 0 2 (pc' := 3) (l' := [(0, .ref v0), (1, .int v1), (2, .int v2)]) (st' := [.int (-2 : Int32), .int v1]) rfl ?_
  refine mj_icmp_ne 2 19 rfl (by decide) (fun q => ?_) (fun q => ?_)
  · have hf := (if_neg q).symm.trans hf
    refine mj_blk k_X8_ok 10 2 (pc' := 22) (l' := [(0, .ref v0), (1, .int v1), (2, .int v2)]) (st' := [.int (-3 : Int32), .int v1]) rfl ?_
    refine mj_icmp_ne 12 38 rfl (by decide) (fun q => ?_) (fun q => ?_)
    · have hf := (if_neg q).symm.trans hf
      refine mj_blk k_X8_ok 20 2 (pc' := 41) (l' := [(0, .ref v0), (1, .int v1), (2, .int v2)]) (st' := [.int (-4 : Int32), .int v1]) rfl ?_
      refine mj_icmp_ne 22 54 rfl (by decide) (fun q => ?_) (fun q => ?_)
      · have hf := (if_neg q).symm.trans hf
        refine mj_blk k_X8_ok 29 1 (pc' := 55) (l' := [(0, .ref v0), (1, .int v1), (2, .int v2)]) (st' := [.int v2]) rfl ?_
        obtain rfl := Option.some.inj hf
        exact mj_end (some (.int v2)) ⟨mj_dec tok_X8_refusedAs (a := 30) rfl, .int, rfl, rfl⟩ ⟨rfl, rfl⟩ (Nat.le_of_ble_eq_true rfl) (Nat.le_of_ble_eq_true rfl)
      · have hf := (if_pos q).symm.trans hf
        refine mj_blk k_X8_ok 23 2 (pc' := 46) (l' := [(0, .ref v0), (1, .int v1), (2, .int v2)]) (st' := [.ref v0, .ref v0]) rfl ?_
        obtain ⟨x1, ex1, hf⟩ := mj_bd hf
        refine mj_get 25 rfl fl_X8_308 (mj_gI_V ex1) ?_
        refine mj_blk k_X8_ok 26 2 (pc' := 51) (l' := [(0, .ref v0), (1, .int v1), (2, .int v2)]) (st' := [.int (x1 + (1 : Int32)), .ref v0]) rfl ?_
        obtain ⟨h2, eh2, hf⟩ := mj_bd hf
        refine mj_put 28 rfl fp_X8_308 (fun _ => ⟨rfl, rfl⟩) eh2 ?_
        refine mj_blk k_X8_ok 29 1 (pc' := 55) (l' := [(0, .ref v0), (1, .int v1), (2, .int v2)]) (st' := [.int v2]) rfl ?_
        obtain rfl := Option.some.inj hf
        exact mj_end (some (.int v2)) ⟨mj_dec tok_X8_refusedAs (a := 30) rfl, .int, rfl, rfl⟩ ⟨rfl, rfl⟩ (Nat.le_of_ble_eq_true rfl) (Nat.le_of_ble_eq_true rfl)
    · have hf := (if_pos q).symm.trans hf
      refine mj_blk k_X8_ok 13 2 (pc' := 27) (l' := [(0, .ref v0), (1, .int v1), (2, .int v2)]) (st' := [.ref v0, .ref v0]) rfl ?_
      obtain ⟨x3, ex3, hf⟩ := mj_bd hf
      refine mj_get 15 rfl fl_X8_305 (mj_gI_V ex3) ?_
      refine mj_blk k_X8_ok 16 2 (pc' := 32) (l' := [(0, .ref v0), (1, .int v1), (2, .int v2)]) (st' := [.int (x3 + (1 : Int32)), .ref v0]) rfl ?_
      obtain ⟨h4, eh4, hf⟩ := mj_bd hf
      refine mj_put 18 rfl fp_X8_305 (fun _ => ⟨rfl, rfl⟩) eh4 ?_
      refine mj_blk k_X8_ok 19 1 (pc' := 54) (l' := [(0, .ref v0), (1, .int v1), (2, .int v2)]) (st' := []) rfl ?_
      refine mj_blk k_X8_ok 29 1 (pc' := 55) (l' := [(0, .ref v0), (1, .int v1), (2, .int v2)]) (st' := [.int v2]) rfl ?_
      obtain rfl := Option.some.inj hf
      exact mj_end (some (.int v2)) ⟨mj_dec tok_X8_refusedAs (a := 30) rfl, .int, rfl, rfl⟩ ⟨rfl, rfl⟩ (Nat.le_of_ble_eq_true rfl) (Nat.le_of_ble_eq_true rfl)
  · have hf := (if_pos q).symm.trans hf
    refine mj_blk k_X8_ok 3 2 (pc' := 8) (l' := [(0, .ref v0), (1, .int v1), (2, .int v2)]) (st' := [.ref v0, .ref v0]) rfl ?_
    obtain ⟨x5, ex5, hf⟩ := mj_bd hf
    refine mj_get 5 rfl fl_X8_302 (mj_gI_V ex5) ?_
    refine mj_blk k_X8_ok 6 2 (pc' := 13) (l' := [(0, .ref v0), (1, .int v1), (2, .int v2)]) (st' := [.int (x5 + (1 : Int32)), .ref v0]) rfl ?_
    obtain ⟨h6, eh6, hf⟩ := mj_bd hf
    refine mj_put 8 rfl fp_X8_302 (fun _ => ⟨rfl, rfl⟩) eh6 ?_
    refine mj_blk k_X8_ok 9 1 (pc' := 54) (l' := [(0, .ref v0), (1, .int v1), (2, .int v2)]) (st' := []) rfl ?_
    refine mj_blk k_X8_ok 29 1 (pc' := 55) (l' := [(0, .ref v0), (1, .int v1), (2, .int v2)]) (st' := [.int v2]) rfl ?_
    obtain rfl := Option.some.inj hf
    exact mj_end (some (.int v2)) ⟨mj_dec tok_X8_refusedAs (a := 30) rfl, .int, rfl, rfl⟩ ⟨rfl, rfl⟩ (Nat.le_of_ble_eq_true rfl) (Nat.le_of_ble_eq_true rfl)
def f_X8_refused (v0 : Nat) (v1 : Int32) (h : mj_H) : Option (Int32 × mj_H) := (if mj_ob h v0 8 = true then (f_X8_refusedAs v0 v1 v1 h).bind fun p1 => some (p1.1, p1.2) else none)
set_option maxHeartbeats 4000000 in
set_option maxRecDepth 100000 in
theorem c_X8_refused (v0 : Nat) (v1 : Int32) (h : mj_H) (p : Int32 × mj_H) (hf : f_X8_refused v0 v1 h = some p) : mj_Met mX8_refused [.ref v0, .int v1] h (some (.int p.1)) p.2 := by
  refine mj_met pl_X8 tok_X8_refused (Nat.le_of_ble_eq_true rfl) ?_
  show mj_W mX8_refused (mj_FI p) 0 [(0, .ref v0), (1, .int v1)] [] h 0 0
  unfold f_X8_refused at hf
  refine mj_blk k_X8_ok 0 3 (pc' := 3) (l' := [(0, .ref v0), (1, .int v1)]) (st' := [.int v1, .int v1, .ref v0]) rfl ?_
  obtain ⟨gp1, hf⟩ := mj_gd hf
  obtain ⟨p1, ep1, hf⟩ := mj_bd hf
  refine mj_callV (T := TX8) (N := 14) (ci := 8) mX8_refusedAs [.int v1, .int v1] 3 rfl ll_X8_202 lb_X8_refusedAs li_X8_refusedAs ⟨Nat.le_of_ble_eq_true rfl, Nat.le_of_ble_eq_true rfl⟩ rfl gp1 rfl (rest := []) rfl (Nat.le_of_ble_eq_true rfl) ⟨Nat.le_of_ble_eq_true rfl, Nat.le_of_ble_eq_true rfl⟩ (c_X8_refusedAs v0 v1 v1 h p1 ep1) ?_
  show mj_W mX8_refused (mj_FI p) 6 [(0, .ref v0), (1, .int v1)] [.int p1.1] p1.2 0 0
  obtain rfl := Option.some.inj hf
  exact mj_end (some (.int p1.1)) ⟨mj_dec tok_X8_refused (a := 4) rfl, .int, rfl, rfl⟩ ⟨rfl, rfl⟩ (Nat.le_of_ble_eq_true rfl) (Nat.le_of_ble_eq_true rfl)
def f_X8_accepted (v0 : Nat) (v1 : Int32) (h : mj_H) : Option (Int32 × mj_H) := (if 0 ≤ v1 then (mj_gR h v0 8 1).bind fun x1 => (if mj_ob h x1 3 = true then (f_X3_forget x1 h).bind fun p2 => some (v1, p2) else none) else (if mj_ob h v0 8 = true then (f_X8_refused v0 v1 h).bind fun p3 => some (p3.1, p3.2) else none))
set_option maxHeartbeats 4000000 in
set_option maxRecDepth 100000 in
theorem c_X8_accepted (v0 : Nat) (v1 : Int32) (h : mj_H) (p : Int32 × mj_H) (hf : f_X8_accepted v0 v1 h = some p) : mj_Met mX8_accepted [.ref v0, .int v1] h (some (.int p.1)) p.2 := by
  refine mj_met pl_X8 tok_X8_accepted (Nat.le_of_ble_eq_true rfl) ?_
  show mj_W mX8_accepted (mj_FI p) 0 [(0, .ref v0), (1, .int v1)] [] h 0 0
  unfold f_X8_accepted at hf
  refine mj_blk k_X8_ok 0 1 (pc' := 1) (l' := [(0, .ref v0), (1, .int v1)]) (st' := [.int v1]) rfl ?_
  refine mj_if_ge 1 10 rfl (by decide) (fun q => ?_) (fun q => ?_)
  · have hf := (if_pos q).symm.trans hf
    refine mj_blk k_X8_ok 6 1 (pc' := 11) (l' := [(0, .ref v0), (1, .int v1)]) (st' := [.ref v0]) rfl ?_
    obtain ⟨x1, ex1, hf⟩ := mj_bd hf
    refine mj_get 7 rfl fl_X8_19 (mj_gR_V ex1) ?_
    obtain ⟨gp2, hf⟩ := mj_gd hf
    obtain ⟨p2, ep2, hf⟩ := mj_bd hf
    refine mj_callV (T := TX3) (N := 5) (ci := 3) mX3_forget [] 8 rfl ll_X8_122 lb_X3_forget li_X3_forget ⟨Nat.le_of_ble_eq_true rfl, Nat.le_of_ble_eq_true rfl⟩ rfl gp2 rfl (rest := []) rfl (Nat.le_of_ble_eq_true rfl) ⟨Nat.le_of_ble_eq_true rfl, Nat.le_of_ble_eq_true rfl⟩ (c_X3_forget x1 h p2 ep2) ?_
    show mj_W mX8_accepted (mj_FI p) 17 [(0, .ref v0), (1, .int v1)] [] p2 0 0
    refine mj_blk k_X8_ok 9 1 (pc' := 18) (l' := [(0, .ref v0), (1, .int v1)]) (st' := [.int v1]) rfl ?_
    obtain rfl := Option.some.inj hf
    exact mj_end (some (.int v1)) ⟨mj_dec tok_X8_accepted (a := 10) rfl, .int, rfl, rfl⟩ ⟨rfl, rfl⟩ (Nat.le_of_ble_eq_true rfl) (Nat.le_of_ble_eq_true rfl)
  · have hf := (if_neg q).symm.trans hf
    refine mj_blk k_X8_ok 2 2 (pc' := 6) (l' := [(0, .ref v0), (1, .int v1)]) (st' := [.int v1, .ref v0]) rfl ?_
    obtain ⟨gp3, hf⟩ := mj_gd hf
    obtain ⟨p3, ep3, hf⟩ := mj_bd hf
    refine mj_callV (T := TX8) (N := 14) (ci := 8) mX8_refused [.int v1] 4 rfl ll_X8_102 lb_X8_refused li_X8_refused ⟨Nat.le_of_ble_eq_true rfl, Nat.le_of_ble_eq_true rfl⟩ rfl gp3 rfl (rest := []) rfl (Nat.le_of_ble_eq_true rfl) ⟨Nat.le_of_ble_eq_true rfl, Nat.le_of_ble_eq_true rfl⟩ (c_X8_refused v0 v1 h p3 ep3) ?_
    show mj_W mX8_accepted (mj_FI p) 9 [(0, .ref v0), (1, .int v1)] [.int p3.1] p3.2 0 0
    obtain rfl := Option.some.inj hf
    exact mj_end (some (.int p3.1)) ⟨mj_dec tok_X8_accepted (a := 5) rfl, .int, rfl, rfl⟩ ⟨rfl, rfl⟩ (Nat.le_of_ble_eq_true rfl) (Nat.le_of_ble_eq_true rfl)
def f_X8_muster (v0 : Nat) (v1 : Int32) (h : mj_H) : Option (Int32 × mj_H) := (mj_gR h v0 8 0).bind fun x1 => (if mj_ob h x1 0 = true then (f_X0_begin x1 v1 h).bind fun p2 => (if mj_ob p2.2 v0 8 = true then (f_X8_accepted v0 p2.1 p2.2).bind fun p3 => some (p3.1, p3.2) else none) else none)
set_option maxHeartbeats 4000000 in
set_option maxRecDepth 100000 in
theorem c_X8_muster (v0 : Nat) (v1 : Int32) (h : mj_H) (p : Int32 × mj_H) (hf : f_X8_muster v0 v1 h = some p) : mj_Met mX8_muster [.ref v0, .int v1] h (some (.int p.1)) p.2 := by
  refine mj_met pl_X8 tok_X8_muster (Nat.le_of_ble_eq_true rfl) ?_
  show mj_W mX8_muster (mj_FI p) 0 [(0, .ref v0), (1, .int v1)] [] h 0 0
  unfold f_X8_muster at hf
  refine mj_blk k_X8_ok 0 2 (pc' := 2) (l' := [(0, .ref v0), (1, .int v1)]) (st' := [.ref v0, .ref v0]) rfl ?_
  obtain ⟨x1, ex1, hf⟩ := mj_bd hf
  refine mj_get 2 rfl fl_X8_10 (mj_gR_V ex1) ?_
  refine mj_blk k_X8_ok 3 1 (pc' := 6) (l' := [(0, .ref v0), (1, .int v1)]) (st' := [.int v1, .ref x1, .ref v0]) rfl ?_
  obtain ⟨gp2, hf⟩ := mj_gd hf
  obtain ⟨p2, ep2, hf⟩ := mj_bd hf
  refine mj_callV (T := TX0) (N := 7) (ci := 0) mX0_begin [.int v1] 4 rfl ll_X8_72 lb_X0_begin li_X0_begin ⟨Nat.le_of_ble_eq_true rfl, Nat.le_of_ble_eq_true rfl⟩ rfl gp2 rfl (rest := [.ref v0]) rfl (Nat.le_of_ble_eq_true rfl) ⟨Nat.le_of_ble_eq_true rfl, Nat.le_of_ble_eq_true rfl⟩ (c_X0_begin x1 v1 h p2 ep2) ?_
  show mj_W mX8_muster (mj_FI p) 9 [(0, .ref v0), (1, .int v1)] [.int p2.1, .ref v0] p2.2 0 0
  obtain ⟨gp3, hf⟩ := mj_gd hf
  obtain ⟨p3, ep3, hf⟩ := mj_bd hf
  refine mj_callV (T := TX8) (N := 14) (ci := 8) mX8_accepted [.int p2.1] 5 rfl ll_X8_76 lb_X8_accepted li_X8_accepted ⟨Nat.le_of_ble_eq_true rfl, Nat.le_of_ble_eq_true rfl⟩ rfl gp3 rfl (rest := []) rfl (Nat.le_of_ble_eq_true rfl) ⟨Nat.le_of_ble_eq_true rfl, Nat.le_of_ble_eq_true rfl⟩ (c_X8_accepted v0 p2.1 p2.2 p3 ep3) ?_
  show mj_W mX8_muster (mj_FI p) 12 [(0, .ref v0), (1, .int v1)] [.int p3.1] p3.2 0 0
  obtain rfl := Option.some.inj hf
  exact mj_end (some (.int p3.1)) ⟨mj_dec tok_X8_muster (a := 6) rfl, .int, rfl, rfl⟩ ⟨rfl, rfl⟩ (Nat.le_of_ble_eq_true rfl) (Nat.le_of_ble_eq_true rfl)
def f_X8_man (v0 : Nat) (v1 : Int32) (v2 : Int32) (v3 : Int32) (v4 : Int32) (v5 : Int32) (v6 : Int32) (h : mj_H) : Option (Int32 × mj_H) := (mj_gR h v0 8 8).bind fun x1 => (mj_uI h x1 (0 : Int32) v1).bind fun h2 => (mj_gR h2 v0 8 8).bind fun x3 => (mj_uI h2 x3 (1 : Int32) v2).bind fun h4 => (mj_gR h4 v0 8 8).bind fun x5 => (mj_uI h4 x5 (2 : Int32) v3).bind fun h6 => (mj_gR h6 v0 8 8).bind fun x7 => (mj_uI h6 x7 (3 : Int32) v4).bind fun h8 => (mj_gR h8 v0 8 8).bind fun x9 => (mj_uI h8 x9 (4 : Int32) v5).bind fun h10 => (mj_gR h10 v0 8 8).bind fun x11 => (mj_uI h10 x11 (5 : Int32) v6).bind fun h12 => (mj_gR h12 v0 8 0).bind fun x13 => (mj_gR h12 v0 8 8).bind fun x14 => (if mj_ob h12 x13 0 = true then (f_X0_enrol x13 x14 h12).bind fun p15 => (if mj_ob p15.2 v0 8 = true then (f_X8_accepted v0 p15.1 p15.2).bind fun p16 => some (p16.1, p16.2) else none) else none)
set_option maxHeartbeats 4000000 in
set_option maxRecDepth 100000 in
theorem c_X8_man (v0 : Nat) (v1 : Int32) (v2 : Int32) (v3 : Int32) (v4 : Int32) (v5 : Int32) (v6 : Int32) (h : mj_H) (p : Int32 × mj_H) (hf : f_X8_man v0 v1 v2 v3 v4 v5 v6 h = some p) : mj_Met mX8_man [.ref v0, .int v1, .int v2, .int v3, .int v4, .int v5, .int v6] h (some (.int p.1)) p.2 := by
  refine mj_met pl_X8 tok_X8_man (Nat.le_of_ble_eq_true rfl) ?_
  show mj_W mX8_man (mj_FI p) 0 [(0, .ref v0), (1, .int v1), (2, .int v2), (3, .int v3), (4, .int v4), (5, .int v5), (6, .int v6)] [] h 0 0
  unfold f_X8_man at hf
  refine mj_blk k_X8_ok 0 1 (pc' := 1) (l' := [(0, .ref v0), (1, .int v1), (2, .int v2), (3, .int v3), (4, .int v4), (5, .int v5), (6, .int v6)]) (st' := [.ref v0]) rfl ?_
  obtain ⟨x1, ex1, hf⟩ := mj_bd hf
  refine mj_get 1 rfl fl_X8_61 (mj_gR_V ex1) ?_
  refine mj_blk k_X8_ok 2 2 (pc' := 6) (l' := [(0, .ref v0), (1, .int v1), (2, .int v2), (3, .int v3), (4, .int v4), (5, .int v5), (6, .int v6)]) (st' := [.int v1, .int (0 : Int32), .ref x1]) rfl ?_
  obtain ⟨h2, eh2, hf⟩ := mj_bd hf
  refine mj_iast 4 rfl eh2 ?_
  refine mj_blk k_X8_ok 5 1 (pc' := 8) (l' := [(0, .ref v0), (1, .int v1), (2, .int v2), (3, .int v3), (4, .int v4), (5, .int v5), (6, .int v6)]) (st' := [.ref v0]) rfl ?_
  obtain ⟨x3, ex3, hf⟩ := mj_bd hf
  refine mj_get 6 rfl fl_X8_61 (mj_gR_V ex3) ?_
  refine mj_blk k_X8_ok 7 2 (pc' := 13) (l' := [(0, .ref v0), (1, .int v1), (2, .int v2), (3, .int v3), (4, .int v4), (5, .int v5), (6, .int v6)]) (st' := [.int v2, .int (1 : Int32), .ref x3]) rfl ?_
  obtain ⟨h4, eh4, hf⟩ := mj_bd hf
  refine mj_iast 9 rfl eh4 ?_
  refine mj_blk k_X8_ok 10 1 (pc' := 15) (l' := [(0, .ref v0), (1, .int v1), (2, .int v2), (3, .int v3), (4, .int v4), (5, .int v5), (6, .int v6)]) (st' := [.ref v0]) rfl ?_
  obtain ⟨x5, ex5, hf⟩ := mj_bd hf
  refine mj_get 11 rfl fl_X8_61 (mj_gR_V ex5) ?_
  refine mj_blk k_X8_ok 12 2 (pc' := 20) (l' := [(0, .ref v0), (1, .int v1), (2, .int v2), (3, .int v3), (4, .int v4), (5, .int v5), (6, .int v6)]) (st' := [.int v3, .int (2 : Int32), .ref x5]) rfl ?_
  obtain ⟨h6, eh6, hf⟩ := mj_bd hf
  refine mj_iast 14 rfl eh6 ?_
  refine mj_blk k_X8_ok 15 1 (pc' := 22) (l' := [(0, .ref v0), (1, .int v1), (2, .int v2), (3, .int v3), (4, .int v4), (5, .int v5), (6, .int v6)]) (st' := [.ref v0]) rfl ?_
  obtain ⟨x7, ex7, hf⟩ := mj_bd hf
  refine mj_get 16 rfl fl_X8_61 (mj_gR_V ex7) ?_
  refine mj_blk k_X8_ok 17 2 (pc' := 28) (l' := [(0, .ref v0), (1, .int v1), (2, .int v2), (3, .int v3), (4, .int v4), (5, .int v5), (6, .int v6)]) (st' := [.int v4, .int (3 : Int32), .ref x7]) rfl ?_
  obtain ⟨h8, eh8, hf⟩ := mj_bd hf
  refine mj_iast 19 rfl eh8 ?_
  refine mj_blk k_X8_ok 20 1 (pc' := 30) (l' := [(0, .ref v0), (1, .int v1), (2, .int v2), (3, .int v3), (4, .int v4), (5, .int v5), (6, .int v6)]) (st' := [.ref v0]) rfl ?_
  obtain ⟨x9, ex9, hf⟩ := mj_bd hf
  refine mj_get 21 rfl fl_X8_61 (mj_gR_V ex9) ?_
  refine mj_blk k_X8_ok 22 2 (pc' := 36) (l' := [(0, .ref v0), (1, .int v1), (2, .int v2), (3, .int v3), (4, .int v4), (5, .int v5), (6, .int v6)]) (st' := [.int v5, .int (4 : Int32), .ref x9]) rfl ?_
  obtain ⟨h10, eh10, hf⟩ := mj_bd hf
  refine mj_iast 24 rfl eh10 ?_
  refine mj_blk k_X8_ok 25 1 (pc' := 38) (l' := [(0, .ref v0), (1, .int v1), (2, .int v2), (3, .int v3), (4, .int v4), (5, .int v5), (6, .int v6)]) (st' := [.ref v0]) rfl ?_
  obtain ⟨x11, ex11, hf⟩ := mj_bd hf
  refine mj_get 26 rfl fl_X8_61 (mj_gR_V ex11) ?_
  refine mj_blk k_X8_ok 27 2 (pc' := 44) (l' := [(0, .ref v0), (1, .int v1), (2, .int v2), (3, .int v3), (4, .int v4), (5, .int v5), (6, .int v6)]) (st' := [.int v6, .int (5 : Int32), .ref x11]) rfl ?_
  obtain ⟨h12, eh12, hf⟩ := mj_bd hf
  refine mj_iast 29 rfl eh12 ?_
  refine mj_blk k_X8_ok 30 2 (pc' := 47) (l' := [(0, .ref v0), (1, .int v1), (2, .int v2), (3, .int v3), (4, .int v4), (5, .int v5), (6, .int v6)]) (st' := [.ref v0, .ref v0]) rfl ?_
  obtain ⟨x13, ex13, hf⟩ := mj_bd hf
  refine mj_get 32 rfl fl_X8_10 (mj_gR_V ex13) ?_
  refine mj_blk k_X8_ok 33 1 (pc' := 51) (l' := [(0, .ref v0), (1, .int v1), (2, .int v2), (3, .int v3), (4, .int v4), (5, .int v5), (6, .int v6)]) (st' := [.ref v0, .ref x13, .ref v0]) rfl ?_
  obtain ⟨x14, ex14, hf⟩ := mj_bd hf
  refine mj_get 34 rfl fl_X8_61 (mj_gR_V ex14) ?_
  obtain ⟨gp15, hf⟩ := mj_gd hf
  obtain ⟨p15, ep15, hf⟩ := mj_bd hf
  refine mj_callV (T := TX0) (N := 7) (ci := 0) mX0_enrol [.ref x14] 35 rfl ll_X8_79 lb_X0_enrol li_X0_enrol ⟨Nat.le_of_ble_eq_true rfl, Nat.le_of_ble_eq_true rfl⟩ rfl gp15 rfl (rest := [.ref v0]) rfl (Nat.le_of_ble_eq_true rfl) ⟨Nat.le_of_ble_eq_true rfl, Nat.le_of_ble_eq_true rfl⟩ (c_X0_enrol x13 x14 h12 p15 ep15) ?_
  show mj_W mX8_man (mj_FI p) 57 [(0, .ref v0), (1, .int v1), (2, .int v2), (3, .int v3), (4, .int v4), (5, .int v5), (6, .int v6)] [.int p15.1, .ref v0] p15.2 0 0
  obtain ⟨gp16, hf⟩ := mj_gd hf
  obtain ⟨p16, ep16, hf⟩ := mj_bd hf
  refine mj_callV (T := TX8) (N := 14) (ci := 8) mX8_accepted [.int p15.1] 36 rfl ll_X8_76 lb_X8_accepted li_X8_accepted ⟨Nat.le_of_ble_eq_true rfl, Nat.le_of_ble_eq_true rfl⟩ rfl gp16 rfl (rest := []) rfl (Nat.le_of_ble_eq_true rfl) ⟨Nat.le_of_ble_eq_true rfl, Nat.le_of_ble_eq_true rfl⟩ (c_X8_accepted v0 p15.1 p15.2 p16 ep16) ?_
  show mj_W mX8_man (mj_FI p) 60 [(0, .ref v0), (1, .int v1), (2, .int v2), (3, .int v3), (4, .int v4), (5, .int v5), (6, .int v6)] [.int p16.1] p16.2 0 0
  obtain rfl := Option.some.inj hf
  exact mj_end (some (.int p16.1)) ⟨mj_dec tok_X8_man (a := 37) rfl, .int, rfl, rfl⟩ ⟨rfl, rfl⟩ (Nat.le_of_ble_eq_true rfl) (Nat.le_of_ble_eq_true rfl)
