/-! printed by wip/whole/gen.py: X0_trustOf, X0_showsOf, X5_isEmpty, X8_greatestCommon, X5_cutBy, X5_most, X5_weigh, X0_trustBehind, X5_store, X0_besides, X8_costOf, X0_pass, X0_wearers, X0_become, X3_init, X1_init, X2_init, X2_seeNow, X2_seeBehind -/
def f_X0_trustOf (v0 : Nat) (v1 : Int32) (h : mj_H) : Option (Int32 × mj_H) := (mj_gR h v0 0 3).bind fun x1 => (if mj_ob h x1 5 = true then (f_X5_load x1 v0 v1 h).bind fun p2 => (mj_gR p2 v0 0 3).bind fun x3 => (if mj_ob p2 x3 5 = true then (f_X5_chance x3 (3 : Int32) (0 : Int32) p2).bind fun p4 => some (p4.1, p4.2) else none) else none)
set_option maxHeartbeats 4000000 in
set_option maxRecDepth 100000 in
theorem c_X0_trustOf (v0 : Nat) (v1 : Int32) (h : mj_H) (p : Int32 × mj_H) (hf : f_X0_trustOf v0 v1 h = some p) : mj_Met mX0_trustOf [.ref v0, .int v1] h (some (.int p.1)) p.2 := by
  refine mj_met pl_X0 tok_X0_trustOf (Nat.le_of_ble_eq_true rfl) ?_
  show mj_W mX0_trustOf (mj_FI p) 0 [(0, .ref v0), (1, .int v1)] [] h 0 0
  unfold f_X0_trustOf at hf
  refine mj_blk k_X0_ok 0 1 (pc' := 1) (l' := [(0, .ref v0), (1, .int v1)]) (st' := [.ref v0]) rfl ?_
  obtain ⟨x1, ex1, hf⟩ := mj_bd hf
  refine mj_get 1 rfl fl_X0_25 (mj_gR_V ex1) ?_
  refine mj_blk k_X0_ok 2 2 (pc' := 6) (l' := [(0, .ref v0), (1, .int v1)]) (st' := [.int v1, .ref v0, .ref x1]) rfl ?_
  obtain ⟨gp2, hf⟩ := mj_gd hf
  obtain ⟨p2, ep2, hf⟩ := mj_bd hf
  refine mj_callV (T := TX5) (N := 1) (ci := 5) mX5_load [.ref v0, .int v1] 4 rfl ll_X0_74 lb_X5_load li_X5_load ⟨Nat.le_of_ble_eq_true rfl, Nat.le_of_ble_eq_true rfl⟩ rfl gp2 rfl (rest := []) rfl (Nat.le_of_ble_eq_true rfl) ⟨Nat.le_of_ble_eq_true rfl, Nat.le_of_ble_eq_true rfl⟩ (c_X5_load x1 v0 v1 h p2 ep2) ?_
  show mj_W mX0_trustOf (mj_FI p) 9 [(0, .ref v0), (1, .int v1)] [] p2 0 0
  refine mj_blk k_X0_ok 5 1 (pc' := 10) (l' := [(0, .ref v0), (1, .int v1)]) (st' := [.ref v0]) rfl ?_
  obtain ⟨x3, ex3, hf⟩ := mj_bd hf
  refine mj_get 6 rfl fl_X0_25 (mj_gR_V ex3) ?_
  refine mj_blk k_X0_ok 7 2 (pc' := 15) (l' := [(0, .ref v0), (1, .int v1)]) (st' := [.int (0 : Int32), .int (3 : Int32), .ref x3]) rfl ?_
  obtain ⟨gp4, hf⟩ := mj_gd hf
  obtain ⟨p4, ep4, hf⟩ := mj_bd hf
  refine mj_callV (T := TX5) (N := 1) (ci := 5) mX5_chance [.int (3 : Int32), .int (0 : Int32)] 9 rfl ll_X0_78 lb_X5_chance li_X5_chance ⟨Nat.le_of_ble_eq_true rfl, Nat.le_of_ble_eq_true rfl⟩ rfl gp4 rfl (rest := []) rfl (Nat.le_of_ble_eq_true rfl) ⟨Nat.le_of_ble_eq_true rfl, Nat.le_of_ble_eq_true rfl⟩ (c_X5_chance x3 (3 : Int32) (0 : Int32) p2 p4 ep4) ?_
  show mj_W mX0_trustOf (mj_FI p) 18 [(0, .ref v0), (1, .int v1)] [.int p4.1] p4.2 0 0
  obtain rfl := Option.some.inj hf
  exact mj_end (some (.int p4.1)) ⟨mj_dec tok_X0_trustOf (a := 10) rfl, .int, rfl, rfl⟩ ⟨rfl, rfl⟩ (Nat.le_of_ble_eq_true rfl) (Nat.le_of_ble_eq_true rfl)
def f_X0_showsOf (v0 : Nat) (v1 : Int32) (v2 : Int32) (h : mj_H) : Option (Int32 × mj_H) := (mj_gR h v0 0 3).bind fun x1 => (if mj_ob h x1 5 = true then (f_X5_load x1 v0 v1 h).bind fun p2 => (mj_gR p2 v0 0 3).bind fun x3 => (if mj_ob p2 v0 0 = true then (f_X0_knows v0 v1 p2).bind fun p4 => (if mj_ob p4.2 x3 5 = true then (f_X5_chance x3 v2 p4.1 p4.2).bind fun p5 => some (p5.1, p5.2) else none) else none) else none)
set_option maxHeartbeats 4000000 in
set_option maxRecDepth 100000 in
theorem c_X0_showsOf (v0 : Nat) (v1 : Int32) (v2 : Int32) (h : mj_H) (p : Int32 × mj_H) (hf : f_X0_showsOf v0 v1 v2 h = some p) : mj_Met mX0_showsOf [.ref v0, .int v1, .int v2] h (some (.int p.1)) p.2 := by
  refine mj_met pl_X0 tok_X0_showsOf (Nat.le_of_ble_eq_true rfl) ?_
  show mj_W mX0_showsOf (mj_FI p) 0 [(0, .ref v0), (1, .int v1), (2, .int v2)] [] h 0 0
  unfold f_X0_showsOf at hf
  refine mj_blk k_X0_ok 0 1 (pc' := 1) (l' := [(0, .ref v0), (1, .int v1), (2, .int v2)]) (st' := [.ref v0]) rfl ?_
  obtain ⟨x1, ex1, hf⟩ := mj_bd hf
  refine mj_get 1 rfl fl_X0_25 (mj_gR_V ex1) ?_
  refine mj_blk k_X0_ok 2 2 (pc' := 6) (l' := [(0, .ref v0), (1, .int v1), (2, .int v2)]) (st' := [.int v1, .ref v0, .ref x1]) rfl ?_
  obtain ⟨gp2, hf⟩ := mj_gd hf
  obtain ⟨p2, ep2, hf⟩ := mj_bd hf
  refine mj_callV (T := TX5) (N := 1) (ci := 5) mX5_load [.ref v0, .int v1] 4 rfl ll_X0_74 lb_X5_load li_X5_load ⟨Nat.le_of_ble_eq_true rfl, Nat.le_of_ble_eq_true rfl⟩ rfl gp2 rfl (rest := []) rfl (Nat.le_of_ble_eq_true rfl) ⟨Nat.le_of_ble_eq_true rfl, Nat.le_of_ble_eq_true rfl⟩ (c_X5_load x1 v0 v1 h p2 ep2) ?_
  show mj_W mX0_showsOf (mj_FI p) 9 [(0, .ref v0), (1, .int v1), (2, .int v2)] [] p2 0 0
  refine mj_blk k_X0_ok 5 1 (pc' := 10) (l' := [(0, .ref v0), (1, .int v1), (2, .int v2)]) (st' := [.ref v0]) rfl ?_
  obtain ⟨x3, ex3, hf⟩ := mj_bd hf
  refine mj_get 6 rfl fl_X0_25 (mj_gR_V ex3) ?_
  refine mj_blk k_X0_ok 7 3 (pc' := 16) (l' := [(0, .ref v0), (1, .int v1), (2, .int v2)]) (st' := [.int v1, .ref v0, .int v2, .ref x3]) rfl ?_
  obtain ⟨gp4, hf⟩ := mj_gd hf
  obtain ⟨p4, ep4, hf⟩ := mj_bd hf
  refine mj_callV (T := TX0) (N := 7) (ci := 0) mX0_knows [.int v1] 10 rfl ll_X0_55 lb_X0_knows li_X0_knows ⟨Nat.le_of_ble_eq_true rfl, Nat.le_of_ble_eq_true rfl⟩ rfl gp4 rfl (rest := [.int v2, .ref x3]) rfl (Nat.le_of_ble_eq_true rfl) ⟨Nat.le_of_ble_eq_true rfl, Nat.le_of_ble_eq_true rfl⟩ (c_X0_knows v0 v1 p2 p4 ep4) ?_
  show mj_W mX0_showsOf (mj_FI p) 19 [(0, .ref v0), (1, .int v1), (2, .int v2)] [.int p4.1, .int v2, .ref x3] p4.2 0 0
  obtain ⟨gp5, hf⟩ := mj_gd hf
  obtain ⟨p5, ep5, hf⟩ := mj_bd hf
  refine mj_callV (T := TX5) (N := 1) (ci := 5) mX5_chance [.int v2, .int p4.1] 11 rfl ll_X0_78 lb_X5_chance li_X5_chance ⟨Nat.le_of_ble_eq_true rfl, Nat.le_of_ble_eq_true rfl⟩ rfl gp5 rfl (rest := []) rfl (Nat.le_of_ble_eq_true rfl) ⟨Nat.le_of_ble_eq_true rfl, Nat.le_of_ble_eq_true rfl⟩ (c_X5_chance x3 v2 p4.1 p4.2 p5 ep5) ?_
  show mj_W mX0_showsOf (mj_FI p) 22 [(0, .ref v0), (1, .int v1), (2, .int v2)] [.int p5.1] p5.2 0 0
  obtain rfl := Option.some.inj hf
  exact mj_end (some (.int p5.1)) ⟨mj_dec tok_X0_showsOf (a := 12) rfl, .int, rfl, rfl⟩ ⟨rfl, rfl⟩ (Nat.le_of_ble_eq_true rfl) (Nat.le_of_ble_eq_true rfl)
def f_X5_isEmpty (v0 : Nat) (h : mj_H) : Option (Int32 × mj_H) := (if mj_ob h v0 5 = true then (f_X5_sum v0 h).bind fun p1 => (if p1.1 = (0 : Int64) then some ((1 : Int32), p1.2) else some ((0 : Int32), p1.2)) else none)
set_option maxHeartbeats 4000000 in
set_option maxRecDepth 100000 in
theorem c_X5_isEmpty (v0 : Nat) (h : mj_H) (p : Int32 × mj_H) (hf : f_X5_isEmpty v0 h = some p) : mj_Met mX5_isEmpty [.ref v0] h (some (.int p.1)) p.2 := by
  refine mj_met pl_X5 tok_X5_isEmpty (Nat.le_of_ble_eq_true rfl) ?_
  show mj_W mX5_isEmpty (mj_FI p) 0 [(0, .ref v0)] [] h 0 0
  unfold f_X5_isEmpty at hf
  refine mj_blk k_X5_ok 0 1 (pc' := 1) (l' := [(0, .ref v0)]) (st' := [.ref v0]) rfl ?_
  obtain ⟨gp1, hf⟩ := mj_gd hf
  obtain ⟨p1, ep1, hf⟩ := mj_bd hf
  refine mj_callV (T := TX5) (N := 1) (ci := 5) mX5_sum [] 1 rfl ll_X5_25 lb_X5_sum li_X5_sum ⟨Nat.le_of_ble_eq_true rfl, Nat.le_of_ble_eq_true rfl⟩ rfl gp1 rfl (rest := []) rfl (Nat.le_of_ble_eq_true rfl) ⟨Nat.le_of_ble_eq_true rfl, Nat.le_of_ble_eq_true rfl⟩ (c_X5_sum v0 h p1 ep1) ?_
  show mj_W mX5_isEmpty (mj_FI p) 4 [(0, .ref v0)] [.long p1.1] p1.2 0 0
  refine mj_blk k_X5_ok 2 1 (pc' := 5) (l' := [(0, .ref v0)]) (st' := [.long (0 : Int64), .long p1.1]) rfl ?_
  refine mj_lcmp_ne 3 13 rfl rfl (by decide) (fun q => ?_) (fun q => ?_)
  · have hf := (if_neg q).symm.trans hf
    refine mj_blk k_X5_ok 7 1 (pc' := 14) (l' := [(0, .ref v0)]) (st' := [.int (0 : Int32)]) rfl ?_
    obtain rfl := Option.some.inj hf
    exact mj_end (some (.int (0 : Int32))) ⟨mj_dec tok_X5_isEmpty (a := 8) rfl, .boolean, rfl, rfl⟩ ⟨rfl, rfl⟩ (Nat.le_of_ble_eq_true rfl) (Nat.le_of_ble_eq_true rfl)
  · have hf := (if_pos q).symm.trans hf
    refine mj_blk k_X5_ok 5 2 (pc' := 14) (l' := [(0, .ref v0)]) (st' := [.int (1 : Int32)]) rfl ?_
    obtain rfl := Option.some.inj hf
    exact mj_end (some (.int (1 : Int32))) ⟨mj_dec tok_X5_isEmpty (a := 8) rfl, .boolean, rfl, rfl⟩ ⟨rfl, rfl⟩ (Nat.le_of_ble_eq_true rfl) (Nat.le_of_ble_eq_true rfl)
def b_X8_greatestCommon_3 (K3 : Int64 → Int64 → Int32 → mj_H → Option (Int64 × mj_H)) (v0 : Int64) (v2 : Int64) (v4 : Int32) (h : mj_H) : Option (Int64 × mj_H) := (if (100 : Int32) ≤ v4 then some (v0, h) else (if v2 = (0 : Int64) then some (v0, h) else (if v2 = 0 then none else K3 v2 (v0 - v0 / v2 * v2) (v4 + (1 : Int32)) h)))
set_option maxHeartbeats 4000000 in
set_option maxRecDepth 100000 in
theorem wb_X8_greatestCommon_3 (K3 : Int64 → Int64 → Int32 → mj_H → Option (Int64 × mj_H)) (hK3 : ∀ (v0 : Int64) (v2 : Int64) (v4 : Int32)  (h : mj_H) (p : Int64 × mj_H), K3 v0 v2 v4 h = some p → mj_W mX8_greatestCommon (mj_FJ p) 3 [(0, .long v0), (2, .long v2), (4, .int v4)] [] h 0 0) (v0 : Int64) (v2 : Int64) (v4 : Int32) (h : mj_H) (p : Int64 × mj_H) (hf : b_X8_greatestCommon_3  K3 v0 v2 v4 h = some p) : mj_W mX8_greatestCommon (mj_FJ p) 3 [(0, .long v0), (2, .long v2), (4, .int v4)] [] h 0 0 := by
  unfold b_X8_greatestCommon_3 at hf
  refine mj_blk k_X8_ok 2 2 (pc' := 7) (l' := [(0, .long v0), (2, .long v2), (4, .int v4)]) (st' := [.int (100 : Int32), .int v4]) rfl ?_
  refine mj_icmp_ge 4 32 rfl (by decide) (fun q => ?_) (fun q => ?_)
  · have hf := (if_pos q).symm.trans hf
    refine mj_blk k_X8_ok 19 1 (pc' := 33) (l' := [(0, .long v0), (2, .long v2), (4, .int v4)]) (st' := [.long v0]) rfl ?_
    obtain rfl := Option.some.inj hf
    exact mj_end (some (.long v0)) ⟨mj_dec tok_X8_greatestCommon (a := 20) rfl, rfl⟩ ⟨rfl, rfl⟩ (Nat.le_of_ble_eq_true rfl) (Nat.le_of_ble_eq_true rfl)
  · have hf := (if_neg q).symm.trans hf
    refine mj_blk k_X8_ok 5 2 (pc' := 12) (l' := [(0, .long v0), (2, .long v2), (4, .int v4)]) (st' := [.long (0 : Int64), .long v2]) rfl ?_
    refine mj_lcmp_eq 7 32 rfl rfl (by decide) (fun q => ?_) (fun q => ?_)
    · have hf := (if_pos q).symm.trans hf
      refine mj_blk k_X8_ok 19 1 (pc' := 33) (l' := [(0, .long v0), (2, .long v2), (4, .int v4)]) (st' := [.long v0]) rfl ?_
      obtain rfl := Option.some.inj hf
      exact mj_end (some (.long v0)) ⟨mj_dec tok_X8_greatestCommon (a := 20) rfl, rfl⟩ ⟨rfl, rfl⟩ (Nat.le_of_ble_eq_true rfl) (Nat.le_of_ble_eq_true rfl)
    · have hf := (if_neg q).symm.trans hf
      refine mj_blk k_X8_ok 9 2 (pc' := 18) (l' := [(0, .long v0), (2, .long v2), (4, .int v4)]) (st' := [.long v2, .long v0]) rfl ?_
      obtain ⟨g, hf⟩ := mj_g0 hf
      refine mj_lrem 11 rfl g ?_
      refine mj_blk k_X8_ok 12 7 (pc' := 3) (l' := [(4, .int (v4 + (1 : Int32))), (2, .long (v0 - v0 / v2 * v2)), (0, .long v2), (5, .long (v0 - v0 / v2 * v2))]) (st' := []) rfl ?_
      refine mj_locs [2, 1, 0] (l' := [(0, .long v2), (2, .long (v0 - v0 / v2 * v2)), (4, .int (v4 + (1 : Int32)))]) rfl ?_
      exact hK3 v2 (v0 - v0 / v2 * v2) (v4 + (1 : Int32)) h _ hf
def f_X8_greatestCommon_3 (v0 : Int64) (v2 : Int64) (v4 : Int32) (h : mj_H) : Option (Int64 × mj_H) := mj_fix (fun (K3 : (Int64 × Int64 × Int32 × mj_H) → Option (Int64 × mj_H)) (s : Int64 × Int64 × Int32 × mj_H) => b_X8_greatestCommon_3  (fun v0 v2 v4 h => K3 (v0, v2, v4, h)) s.1 s.2.1 s.2.2.1 s.2.2.2) 1000 (v0, v2, v4, h)
set_option maxHeartbeats 4000000 in
set_option maxRecDepth 100000 in
theorem w_X8_greatestCommon_3 (v0 : Int64) (v2 : Int64) (v4 : Int32) (h : mj_H) (p : Int64 × mj_H) (hf : f_X8_greatestCommon_3  v0 v2 v4 h = some p) : mj_W mX8_greatestCommon (mj_FJ p) 3 [(0, .long v0), (2, .long v2), (4, .int v4)] [] h 0 0 := by
  unfold f_X8_greatestCommon_3 at hf
  exact mj_fix_ind (F := (fun (K3 : (Int64 × Int64 × Int32 × mj_H) → Option (Int64 × mj_H)) (s : Int64 × Int64 × Int32 × mj_H) => b_X8_greatestCommon_3  (fun v0 v2 v4 h => K3 (v0, v2, v4, h)) s.1 s.2.1 s.2.2.1 s.2.2.2)) (P := fun s p => mj_W mX8_greatestCommon (mj_FJ p) 3 [(0, .long s.1), (2, .long s.2.1), (4, .int s.2.2.1)] [] s.2.2.2 0 0) (fun K3 hK3 s p hf => wb_X8_greatestCommon_3   (fun v0 v2 v4 h => K3 (v0, v2, v4, h)) (fun v0 v2 v4 h p e => hK3 (v0, v2, v4, h) p e) s.1 s.2.1 s.2.2.1 s.2.2.2 p hf) 1000 (v0, v2, v4, h) p hf
def f_X8_greatestCommon (v0 : Int64) (v2 : Int64) (h : mj_H) : Option (Int64 × mj_H) := f_X8_greatestCommon_3 v0 v2 (0 : Int32) h
set_option maxHeartbeats 4000000 in
set_option maxRecDepth 100000 in
theorem c_X8_greatestCommon (v0 : Int64) (v2 : Int64) (h : mj_H) (p : Int64 × mj_H) (hf : f_X8_greatestCommon v0 v2 h = some p) : mj_Met mX8_greatestCommon [.long v0, .long v2] h (some (.long p.1)) p.2 := by
  refine mj_met pl_X8 tok_X8_greatestCommon (Nat.le_of_ble_eq_true rfl) ?_
  show mj_W mX8_greatestCommon (mj_FJ p) 0 [(0, .long v0), (2, .long v2)] [] h 0 0
  unfold f_X8_greatestCommon at hf
  refine mj_blk k_X8_ok 0 2 (pc' := 3) (l' := [(4, .int (0 : Int32)), (0, .long v0), (2, .long v2)]) (st' := []) rfl ?_
  refine mj_locs [1, 2, 0] (l' := [(0, .long v0), (2, .long v2), (4, .int (0 : Int32))]) rfl ?_
  exact w_X8_greatestCommon_3 v0 v2 (0 : Int32) h _ hf
def f_X5_cutBy_24 (K2 : Nat → Int64 → Int32 → mj_H → Option (mj_H)) (v0 : Nat) (v1 : Int64) (v3 : Int32) (h : mj_H) : Option (mj_H) := K2 v0 v1 (v3 + (1 : Int32)) h
set_option maxHeartbeats 4000000 in
set_option maxRecDepth 100000 in
theorem w_X5_cutBy_24 (K2 : Nat → Int64 → Int32 → mj_H → Option (mj_H)) (hK2 : ∀ (v0 : Nat) (v1 : Int64) (v3 : Int32)  (h : mj_H) (p : mj_H), K2 v0 v1 v3 h = some p → mj_W mX5_cutBy (mj_FV p) 2 [(0, .ref v0), (1, .long v1), (3, .int v3)] [] h 0 0) (v0 : Nat) (v1 : Int64) (v3 : Int32) (h : mj_H) (p : mj_H) (hf : f_X5_cutBy_24 K2 v0 v1 v3 h = some p) : mj_W mX5_cutBy (mj_FV p) 24 [(0, .ref v0), (1, .long v1), (3, .int v3)] [] h 0 0 := by
  unfold f_X5_cutBy_24 at hf
  refine mj_blk k_X5_ok 17 2 (pc' := 2) (l' := [(3, .int (v3 + (1 : Int32))), (0, .ref v0), (1, .long v1)]) (st' := []) rfl ?_
  refine mj_locs [1, 2, 0] (l' := [(0, .ref v0), (1, .long v1), (3, .int (v3 + (1 : Int32)))]) rfl ?_
  exact hK2 v0 v1 (v3 + (1 : Int32)) h _ hf
def b_X5_cutBy_2 (K2 : Nat → Int64 → Int32 → mj_H → Option (mj_H)) (v0 : Nat) (v1 : Int64) (v3 : Int32) (h : mj_H) : Option (mj_H) := (if (6 : Int32) ≤ v3 then some h else (if v1 ≤ (0 : Int64) then f_X5_cutBy_24 K2 v0 v1 v3 h else (mj_gR h v0 5 0).bind fun x1 => (mj_aJ h x1 v3).bind fun x2 => (if v1 = 0 then none else (mj_uJ h x1 v3 (x2 / v1)).bind fun h3 => f_X5_cutBy_24 K2 v0 v1 v3 h3)))
set_option maxHeartbeats 4000000 in
set_option maxRecDepth 100000 in
theorem wb_X5_cutBy_2 (K2 : Nat → Int64 → Int32 → mj_H → Option (mj_H)) (hK2 : ∀ (v0 : Nat) (v1 : Int64) (v3 : Int32)  (h : mj_H) (p : mj_H), K2 v0 v1 v3 h = some p → mj_W mX5_cutBy (mj_FV p) 2 [(0, .ref v0), (1, .long v1), (3, .int v3)] [] h 0 0) (v0 : Nat) (v1 : Int64) (v3 : Int32) (h : mj_H) (p : mj_H) (hf : b_X5_cutBy_2  K2 v0 v1 v3 h = some p) : mj_W mX5_cutBy (mj_FV p) 2 [(0, .ref v0), (1, .long v1), (3, .int v3)] [] h 0 0 := by
  unfold b_X5_cutBy_2 at hf
  refine mj_blk k_X5_ok 2 2 (pc' := 5) (l' := [(0, .ref v0), (1, .long v1), (3, .int v3)]) (st' := [.int (6 : Int32), .int v3]) rfl ?_
  refine mj_icmp_ge 4 30 rfl (by decide) (fun q => ?_) (fun q => ?_)
  · have hf := (if_pos q).symm.trans hf
    obtain rfl := Option.some.inj hf
    exact mj_end none ⟨mj_dec tok_X5_cutBy (a := 19) rfl, rfl⟩ ⟨rfl, rfl⟩ (Nat.le_of_ble_eq_true rfl) (Nat.le_of_ble_eq_true rfl)
  · have hf := (if_neg q).symm.trans hf
    refine mj_blk k_X5_ok 5 2 (pc' := 10) (l' := [(0, .ref v0), (1, .long v1), (3, .int v3)]) (st' := [.long (0 : Int64), .long v1]) rfl ?_
    refine mj_lcmp_le 7 24 rfl rfl (by decide) (fun q => ?_) (fun q => ?_)
    · have hf := (if_pos q).symm.trans hf
      exact w_X5_cutBy_24 K2 hK2 v0 v1 v3 h _ hf
    · have hf := (if_neg q).symm.trans hf
      refine mj_blk k_X5_ok 9 1 (pc' := 15) (l' := [(0, .ref v0), (1, .long v1), (3, .int v3)]) (st' := [.ref v0]) rfl ?_
      obtain ⟨x1, ex1, hf⟩ := mj_bd hf
      refine mj_get 10 rfl fl_X5_9 (mj_gR_V ex1) ?_
      refine mj_blk k_X5_ok 11 2 (pc' := 20) (l' := [(0, .ref v0), (1, .long v1), (3, .int v3)]) (st' := [.int v3, .ref x1, .int v3, .ref x1]) rfl ?_
      obtain ⟨x2, ex2, hf⟩ := mj_bd hf
      refine mj_lald 13 rfl ex2 ?_
      refine mj_blk k_X5_ok 14 1 (pc' := 22) (l' := [(0, .ref v0), (1, .long v1), (3, .int v3)]) (st' := [.long v1, .long x2, .int v3, .ref x1]) rfl ?_
      obtain ⟨g, hf⟩ := mj_g0 hf
      refine mj_ldiv 15 rfl g ?_
      obtain ⟨h3, eh3, hf⟩ := mj_bd hf
      refine mj_last 16 rfl eh3 ?_
      exact w_X5_cutBy_24 K2 hK2 v0 v1 v3 h3 _ hf
def f_X5_cutBy_2 (v0 : Nat) (v1 : Int64) (v3 : Int32) (h : mj_H) : Option (mj_H) := mj_fix (fun (K2 : (Nat × Int64 × Int32 × mj_H) → Option (mj_H)) (s : Nat × Int64 × Int32 × mj_H) => b_X5_cutBy_2  (fun v0 v1 v3 h => K2 (v0, v1, v3, h)) s.1 s.2.1 s.2.2.1 s.2.2.2) 1000 (v0, v1, v3, h)
set_option maxHeartbeats 4000000 in
set_option maxRecDepth 100000 in
theorem w_X5_cutBy_2 (v0 : Nat) (v1 : Int64) (v3 : Int32) (h : mj_H) (p : mj_H) (hf : f_X5_cutBy_2  v0 v1 v3 h = some p) : mj_W mX5_cutBy (mj_FV p) 2 [(0, .ref v0), (1, .long v1), (3, .int v3)] [] h 0 0 := by
  unfold f_X5_cutBy_2 at hf
  exact mj_fix_ind (F := (fun (K2 : (Nat × Int64 × Int32 × mj_H) → Option (mj_H)) (s : Nat × Int64 × Int32 × mj_H) => b_X5_cutBy_2  (fun v0 v1 v3 h => K2 (v0, v1, v3, h)) s.1 s.2.1 s.2.2.1 s.2.2.2)) (P := fun s p => mj_W mX5_cutBy (mj_FV p) 2 [(0, .ref s.1), (1, .long s.2.1), (3, .int s.2.2.1)] [] s.2.2.2 0 0) (fun K2 hK2 s p hf => wb_X5_cutBy_2   (fun v0 v1 v3 h => K2 (v0, v1, v3, h)) (fun v0 v1 v3 h p e => hK2 (v0, v1, v3, h) p e) s.1 s.2.1 s.2.2.1 s.2.2.2 p hf) 1000 (v0, v1, v3, h) p hf
def f_X5_cutBy (v0 : Nat) (v1 : Int64) (h : mj_H) : Option (mj_H) := f_X5_cutBy_2 v0 v1 (0 : Int32) h
set_option maxHeartbeats 4000000 in
set_option maxRecDepth 100000 in
theorem c_X5_cutBy (v0 : Nat) (v1 : Int64) (h : mj_H) (p : mj_H) (hf : f_X5_cutBy v0 v1 h = some p) : mj_Met mX5_cutBy [.ref v0, .long v1] h none p := by
  refine mj_met pl_X5 tok_X5_cutBy (Nat.le_of_ble_eq_true rfl) ?_
  show mj_W mX5_cutBy (mj_FV p) 0 [(0, .ref v0), (1, .long v1)] [] h 0 0
  unfold f_X5_cutBy at hf
  refine mj_blk k_X5_ok 0 2 (pc' := 2) (l' := [(3, .int (0 : Int32)), (0, .ref v0), (1, .long v1)]) (st' := []) rfl ?_
  refine mj_locs [1, 2, 0] (l' := [(0, .ref v0), (1, .long v1), (3, .int (0 : Int32))]) rfl ?_
  exact w_X5_cutBy_2 v0 v1 (0 : Int32) h _ hf
def b_X5_most_4 (K4 : Nat → Int64 → Int32 → mj_H → Option (Int64 × mj_H)) (v0 : Nat) (v1 : Int64) (v3 : Int32) (h : mj_H) : Option (Int64 × mj_H) := (if (6 : Int32) ≤ v3 then some (v1, h) else (mj_gR h v0 5 0).bind fun x1 => (mj_aJ h x1 v3).bind fun x2 => K4 v0 (if x2 < v1 then v1 else x2) (v3 + (1 : Int32)) h)
set_option maxHeartbeats 4000000 in
set_option maxRecDepth 100000 in
theorem wb_X5_most_4 (K4 : Nat → Int64 → Int32 → mj_H → Option (Int64 × mj_H)) (hK4 : ∀ (v0 : Nat) (v1 : Int64) (v3 : Int32)  (h : mj_H) (p : Int64 × mj_H), K4 v0 v1 v3 h = some p → mj_W mX5_most (mj_FJ p) 4 [(0, .ref v0), (1, .long v1), (3, .int v3)] [] h 0 0) (v0 : Nat) (v1 : Int64) (v3 : Int32) (h : mj_H) (p : Int64 × mj_H) (hf : b_X5_most_4  K4 v0 v1 v3 h = some p) : mj_W mX5_most (mj_FJ p) 4 [(0, .ref v0), (1, .long v1), (3, .int v3)] [] h 0 0 := by
  unfold b_X5_most_4 at hf
  refine mj_blk k_X5_ok 4 2 (pc' := 7) (l' := [(0, .ref v0), (1, .long v1), (3, .int v3)]) (st' := [.int (6 : Int32), .int v3]) rfl ?_
  refine mj_icmp_ge 6 27 rfl (by decide) (fun q => ?_) (fun q => ?_)
  · have hf := (if_pos q).symm.trans hf
    refine mj_blk k_X5_ok 16 1 (pc' := 28) (l' := [(0, .ref v0), (1, .long v1), (3, .int v3)]) (st' := [.long v1]) rfl ?_
    obtain rfl := Option.some.inj hf
    exact mj_end (some (.long v1)) ⟨mj_dec tok_X5_most (a := 17) rfl, rfl⟩ ⟨rfl, rfl⟩ (Nat.le_of_ble_eq_true rfl) (Nat.le_of_ble_eq_true rfl)
  · have hf := (if_neg q).symm.trans hf
    refine mj_blk k_X5_ok 7 2 (pc' := 12) (l' := [(0, .ref v0), (1, .long v1), (3, .int v3)]) (st' := [.ref v0, .long v1]) rfl ?_
    obtain ⟨x1, ex1, hf⟩ := mj_bd hf
    refine mj_get 9 rfl fl_X5_9 (mj_gR_V ex1) ?_
    refine mj_blk k_X5_ok 10 1 (pc' := 16) (l' := [(0, .ref v0), (1, .long v1), (3, .int v3)]) (st' := [.int v3, .ref x1, .long v1]) rfl ?_
    obtain ⟨x2, ex2, hf⟩ := mj_bd hf
    refine mj_lald 11 rfl ex2 ?_
    refine mj_maxJ 12 rfl mx_X5_56 ⟨Nat.le_of_ble_eq_true rfl, Nat.le_of_ble_eq_true rfl, Nat.le_of_ble_eq_true rfl, Nat.le_of_ble_eq_true rfl⟩ ?_
    refine mj_blk k_X5_ok 13 3 (pc' := 4) (l' := [(3, .int (v3 + (1 : Int32))), (1, .long (if x2 < v1 then v1 else x2)), (0, .ref v0)]) (st' := []) rfl ?_
    refine mj_locs [2, 1, 0] (l' := [(0, .ref v0), (1, .long (if x2 < v1 then v1 else x2)), (3, .int (v3 + (1 : Int32)))]) rfl ?_
    exact hK4 v0 (if x2 < v1 then v1 else x2) (v3 + (1 : Int32)) h _ hf
def f_X5_most_4 (v0 : Nat) (v1 : Int64) (v3 : Int32) (h : mj_H) : Option (Int64 × mj_H) := mj_fix (fun (K4 : (Nat × Int64 × Int32 × mj_H) → Option (Int64 × mj_H)) (s : Nat × Int64 × Int32 × mj_H) => b_X5_most_4  (fun v0 v1 v3 h => K4 (v0, v1, v3, h)) s.1 s.2.1 s.2.2.1 s.2.2.2) 1000 (v0, v1, v3, h)
set_option maxHeartbeats 4000000 in
set_option maxRecDepth 100000 in
theorem w_X5_most_4 (v0 : Nat) (v1 : Int64) (v3 : Int32) (h : mj_H) (p : Int64 × mj_H) (hf : f_X5_most_4  v0 v1 v3 h = some p) : mj_W mX5_most (mj_FJ p) 4 [(0, .ref v0), (1, .long v1), (3, .int v3)] [] h 0 0 := by
  unfold f_X5_most_4 at hf
  exact mj_fix_ind (F := (fun (K4 : (Nat × Int64 × Int32 × mj_H) → Option (Int64 × mj_H)) (s : Nat × Int64 × Int32 × mj_H) => b_X5_most_4  (fun v0 v1 v3 h => K4 (v0, v1, v3, h)) s.1 s.2.1 s.2.2.1 s.2.2.2)) (P := fun s p => mj_W mX5_most (mj_FJ p) 4 [(0, .ref s.1), (1, .long s.2.1), (3, .int s.2.2.1)] [] s.2.2.2 0 0) (fun K4 hK4 s p hf => wb_X5_most_4   (fun v0 v1 v3 h => K4 (v0, v1, v3, h)) (fun v0 v1 v3 h p e => hK4 (v0, v1, v3, h) p e) s.1 s.2.1 s.2.2.1 s.2.2.2 p hf) 1000 (v0, v1, v3, h) p hf
def f_X5_most (v0 : Nat) (h : mj_H) : Option (Int64 × mj_H) := f_X5_most_4 v0 (0 : Int64) (0 : Int32) h
set_option maxHeartbeats 4000000 in
set_option maxRecDepth 100000 in
theorem c_X5_most (v0 : Nat) (h : mj_H) (p : Int64 × mj_H) (hf : f_X5_most v0 h = some p) : mj_Met mX5_most [.ref v0] h (some (.long p.1)) p.2 := by
  refine mj_met pl_X5 tok_X5_most (Nat.le_of_ble_eq_true rfl) ?_
  show mj_W mX5_most (mj_FJ p) 0 [(0, .ref v0)] [] h 0 0
  unfold f_X5_most at hf
  refine mj_blk k_X5_ok 0 4 (pc' := 4) (l' := [(3, .int (0 : Int32)), (1, .long (0 : Int64)), (0, .ref v0)]) (st' := []) rfl ?_
  refine mj_locs [2, 1, 0] (l' := [(0, .ref v0), (1, .long (0 : Int64)), (3, .int (0 : Int32))]) rfl ?_
  exact w_X5_most_4 v0 (0 : Int64) (0 : Int32) h _ hf
def b_X5_weigh_124 (K124 : Nat → Int32 → mj_H → Option (mj_H)) (v0 : Nat) (v6 : Int32) (h : mj_H) : Option (mj_H) := (if (64 : Int32) ≤ v6 then some h else (if mj_ob h v0 5 = true then (f_X5_most v0 h).bind fun p1 => (if p1.1 ≤ (999999 : Int64) then some p1.2 else (if mj_ob p1.2 v0 5 = true then (f_X5_cutBy v0 (2 : Int64) p1.2).bind fun p2 => K124 v0 (v6 + (1 : Int32)) p2 else none)) else none))
set_option maxHeartbeats 4000000 in
set_option maxRecDepth 100000 in
theorem wb_X5_weigh_124 (K124 : Nat → Int32 → mj_H → Option (mj_H)) (hK124 : ∀ (v0 : Nat) (v6 : Int32)  (h : mj_H) (p : mj_H), K124 v0 v6 h = some p → mj_W mX5_weigh (mj_FV p) 124 [(0, .ref v0), (6, .int v6)] [] h 0 0) (v0 : Nat) (v6 : Int32) (h : mj_H) (p : mj_H) (hf : b_X5_weigh_124  K124 v0 v6 h = some p) : mj_W mX5_weigh (mj_FV p) 124 [(0, .ref v0), (6, .int v6)] [] h 0 0 := by
  unfold b_X5_weigh_124 at hf
  refine mj_blk k_X5_ok 64 2 (pc' := 128) (l' := [(0, .ref v0), (6, .int v6)]) (st' := [.int (64 : Int32), .int v6]) rfl ?_
  refine mj_icmp_ge 66 155 rfl (by decide) (fun q => ?_) (fun q => ?_)
  · have hf := (if_pos q).symm.trans hf
    obtain rfl := Option.some.inj hf
    exact mj_end none ⟨mj_dec tok_X5_weigh (a := 77) rfl, rfl⟩ ⟨rfl, rfl⟩ (Nat.le_of_ble_eq_true rfl) (Nat.le_of_ble_eq_true rfl)
  · have hf := (if_neg q).symm.trans hf
    refine mj_blk k_X5_ok 67 1 (pc' := 132) (l' := [(0, .ref v0), (6, .int v6)]) (st' := [.ref v0]) rfl ?_
    obtain ⟨gp1, hf⟩ := mj_gd hf
    obtain ⟨p1, ep1, hf⟩ := mj_bd hf
    refine mj_callV (T := TX5) (N := 1) (ci := 5) mX5_most [] 68 rfl ll_X5_45 lb_X5_most li_X5_most ⟨Nat.le_of_ble_eq_true rfl, Nat.le_of_ble_eq_true rfl⟩ rfl gp1 rfl (rest := []) rfl (Nat.le_of_ble_eq_true rfl) ⟨Nat.le_of_ble_eq_true rfl, Nat.le_of_ble_eq_true rfl⟩ (c_X5_most v0 h p1 ep1) ?_
    show mj_W mX5_weigh (mj_FV p) 135 [(0, .ref v0), (6, .int v6)] [.long p1.1] p1.2 0 0
    refine mj_blk k_X5_ok 69 1 (pc' := 138) (l' := [(0, .ref v0), (6, .int v6)]) (st' := [.long (999999 : Int64), .long p1.1]) rfl ?_
    refine mj_lcmp_le 70 155 rfl rfl (by decide) (fun q => ?_) (fun q => ?_)
    · have hf := (if_pos q).symm.trans hf
      obtain rfl := Option.some.inj hf
      exact mj_end none ⟨mj_dec tok_X5_weigh (a := 77) rfl, rfl⟩ ⟨rfl, rfl⟩ (Nat.le_of_ble_eq_true rfl) (Nat.le_of_ble_eq_true rfl)
    · have hf := (if_neg q).symm.trans hf
      refine mj_blk k_X5_ok 72 2 (pc' := 146) (l' := [(0, .ref v0), (6, .int v6)]) (st' := [.long (2 : Int64), .ref v0]) rfl ?_
      obtain ⟨gp2, hf⟩ := mj_gd hf
      obtain ⟨p2, ep2, hf⟩ := mj_bd hf
      refine mj_callV (T := TX5) (N := 1) (ci := 5) mX5_cutBy [.long (2 : Int64)] 74 rfl ll_X5_41 lb_X5_cutBy li_X5_cutBy ⟨Nat.le_of_ble_eq_true rfl, Nat.le_of_ble_eq_true rfl⟩ rfl gp2 rfl (rest := []) rfl (Nat.le_of_ble_eq_true rfl) ⟨Nat.le_of_ble_eq_true rfl, Nat.le_of_ble_eq_true rfl⟩ (c_X5_cutBy v0 (2 : Int64) p1.2 p2 ep2) ?_
      show mj_W mX5_weigh (mj_FV p) 149 [(0, .ref v0), (6, .int v6)] [] p2 0 0
      refine mj_blk k_X5_ok 75 2 (pc' := 124) (l' := [(6, .int (v6 + (1 : Int32))), (0, .ref v0)]) (st' := []) rfl ?_
      refine mj_locs [1, 0] (l' := [(0, .ref v0), (6, .int (v6 + (1 : Int32)))]) rfl ?_
      exact hK124 v0 (v6 + (1 : Int32)) p2 _ hf
def f_X5_weigh_124 (v0 : Nat) (v6 : Int32) (h : mj_H) : Option (mj_H) := mj_fix (fun (K124 : (Nat × Int32 × mj_H) → Option (mj_H)) (s : Nat × Int32 × mj_H) => b_X5_weigh_124  (fun v0 v6 h => K124 (v0, v6, h)) s.1 s.2.1 s.2.2) 1000 (v0, v6, h)
set_option maxHeartbeats 4000000 in
set_option maxRecDepth 100000 in
theorem w_X5_weigh_124 (v0 : Nat) (v6 : Int32) (h : mj_H) (p : mj_H) (hf : f_X5_weigh_124  v0 v6 h = some p) : mj_W mX5_weigh (mj_FV p) 124 [(0, .ref v0), (6, .int v6)] [] h 0 0 := by
  unfold f_X5_weigh_124 at hf
  exact mj_fix_ind (F := (fun (K124 : (Nat × Int32 × mj_H) → Option (mj_H)) (s : Nat × Int32 × mj_H) => b_X5_weigh_124  (fun v0 v6 h => K124 (v0, v6, h)) s.1 s.2.1 s.2.2)) (P := fun s p => mj_W mX5_weigh (mj_FV p) 124 [(0, .ref s.1), (6, .int s.2.1)] [] s.2.2 0 0) (fun K124 hK124 s p hf => wb_X5_weigh_124   (fun v0 v6 h => K124 (v0, v6, h)) (fun v0 v6 h p e => hK124 (v0, v6, h) p e) s.1 s.2.1 s.2.2 p hf) 1000 (v0, v6, h) p hf
def b_X5_weigh_88 (K88 : Nat → Int64 → Int32 → mj_H → Option (mj_H)) (v0 : Nat) (v4 : Int64) (v6 : Int32) (h : mj_H) : Option (mj_H) := (if (6 : Int32) ≤ v6 then (if mj_ob h v0 5 = true then (f_X5_cutBy v0 v4 h).bind fun p3 => f_X5_weigh_124 v0 (0 : Int32) p3 else none) else (mj_gR h v0 5 0).bind fun x4 => (mj_aJ h x4 v6).bind fun x5 => (f_X8_greatestCommon v4 x5 h).bind fun p6 => K88 v0 p6.1 (v6 + (1 : Int32)) p6.2)
set_option maxHeartbeats 4000000 in
set_option maxRecDepth 100000 in
theorem wb_X5_weigh_88 (K88 : Nat → Int64 → Int32 → mj_H → Option (mj_H)) (hK88 : ∀ (v0 : Nat) (v4 : Int64) (v6 : Int32)  (h : mj_H) (p : mj_H), K88 v0 v4 v6 h = some p → mj_W mX5_weigh (mj_FV p) 88 [(0, .ref v0), (4, .long v4), (6, .int v6)] [] h 0 0) (v0 : Nat) (v4 : Int64) (v6 : Int32) (h : mj_H) (p : mj_H) (hf : b_X5_weigh_88  K88 v0 v4 v6 h = some p) : mj_W mX5_weigh (mj_FV p) 88 [(0, .ref v0), (4, .long v4), (6, .int v6)] [] h 0 0 := by
  unfold b_X5_weigh_88 at hf
  refine mj_blk k_X5_ok 47 2 (pc' := 92) (l' := [(0, .ref v0), (4, .long v4), (6, .int v6)]) (st' := [.int (6 : Int32), .int v6]) rfl ?_
  refine mj_icmp_ge 49 115 rfl (by decide) (fun q => ?_) (fun q => ?_)
  · have hf := (if_pos q).symm.trans hf
    refine mj_blk k_X5_ok 59 2 (pc' := 118) (l' := [(0, .ref v0), (4, .long v4), (6, .int v6)]) (st' := [.long v4, .ref v0]) rfl ?_
    obtain ⟨gp3, hf⟩ := mj_gd hf
    obtain ⟨p3, ep3, hf⟩ := mj_bd hf
    refine mj_callV (T := TX5) (N := 1) (ci := 5) mX5_cutBy [.long v4] 61 rfl ll_X5_41 lb_X5_cutBy li_X5_cutBy ⟨Nat.le_of_ble_eq_true rfl, Nat.le_of_ble_eq_true rfl⟩ rfl gp3 rfl (rest := []) rfl (Nat.le_of_ble_eq_true rfl) ⟨Nat.le_of_ble_eq_true rfl, Nat.le_of_ble_eq_true rfl⟩ (c_X5_cutBy v0 v4 h p3 ep3) ?_
    show mj_W mX5_weigh (mj_FV p) 121 [(0, .ref v0), (4, .long v4), (6, .int v6)] [] p3 0 0
    refine mj_blk k_X5_ok 62 2 (pc' := 124) (l' := [(6, .int (0 : Int32)), (0, .ref v0), (4, .long v4)]) (st' := []) rfl ?_
    refine mj_locs [1, 0] (l' := [(0, .ref v0), (6, .int (0 : Int32))]) rfl ?_
    exact w_X5_weigh_124 v0 (0 : Int32) p3 _ hf
  · have hf := (if_neg q).symm.trans hf
    refine mj_blk k_X5_ok 50 2 (pc' := 98) (l' := [(0, .ref v0), (4, .long v4), (6, .int v6)]) (st' := [.ref v0, .long v4]) rfl ?_
    obtain ⟨x4, ex4, hf⟩ := mj_bd hf
    refine mj_get 52 rfl fl_X5_9 (mj_gR_V ex4) ?_
    refine mj_blk k_X5_ok 53 1 (pc' := 103) (l' := [(0, .ref v0), (4, .long v4), (6, .int v6)]) (st' := [.int v6, .ref x4, .long v4]) rfl ?_
    obtain ⟨x5, ex5, hf⟩ := mj_bd hf
    refine mj_lald 54 rfl ex5 ?_
    obtain ⟨p6, ep6, hf⟩ := mj_bd hf
    refine mj_callS mX8_greatestCommon [.long v4, .long x5] 55 rfl ll_X5_37 lb_X8_greatestCommon li_X8_greatestCommon ⟨Nat.le_of_ble_eq_true rfl, Nat.le_of_ble_eq_true rfl⟩ rfl (rest := []) rfl (Nat.le_of_ble_eq_true rfl) ⟨Nat.le_of_ble_eq_true rfl, Nat.le_of_ble_eq_true rfl⟩ (c_X8_greatestCommon v4 x5 h p6 ep6) ?_
    show mj_W mX5_weigh (mj_FV p) 107 [(0, .ref v0), (4, .long v4), (6, .int v6)] [.long p6.1] p6.2 0 0
    refine mj_blk k_X5_ok 56 3 (pc' := 88) (l' := [(6, .int (v6 + (1 : Int32))), (4, .long p6.1), (0, .ref v0)]) (st' := []) rfl ?_
    refine mj_locs [2, 1, 0] (l' := [(0, .ref v0), (4, .long p6.1), (6, .int (v6 + (1 : Int32)))]) rfl ?_
    exact hK88 v0 p6.1 (v6 + (1 : Int32)) p6.2 _ hf
def f_X5_weigh_88 (v0 : Nat) (v4 : Int64) (v6 : Int32) (h : mj_H) : Option (mj_H) := mj_fix (fun (K88 : (Nat × Int64 × Int32 × mj_H) → Option (mj_H)) (s : Nat × Int64 × Int32 × mj_H) => b_X5_weigh_88  (fun v0 v4 v6 h => K88 (v0, v4, v6, h)) s.1 s.2.1 s.2.2.1 s.2.2.2) 1000 (v0, v4, v6, h)
set_option maxHeartbeats 4000000 in
set_option maxRecDepth 100000 in
theorem w_X5_weigh_88 (v0 : Nat) (v4 : Int64) (v6 : Int32) (h : mj_H) (p : mj_H) (hf : f_X5_weigh_88  v0 v4 v6 h = some p) : mj_W mX5_weigh (mj_FV p) 88 [(0, .ref v0), (4, .long v4), (6, .int v6)] [] h 0 0 := by
  unfold f_X5_weigh_88 at hf
  exact mj_fix_ind (F := (fun (K88 : (Nat × Int64 × Int32 × mj_H) → Option (mj_H)) (s : Nat × Int64 × Int32 × mj_H) => b_X5_weigh_88  (fun v0 v4 v6 h => K88 (v0, v4, v6, h)) s.1 s.2.1 s.2.2.1 s.2.2.2)) (P := fun s p => mj_W mX5_weigh (mj_FV p) 88 [(0, .ref s.1), (4, .long s.2.1), (6, .int s.2.2.1)] [] s.2.2.2 0 0) (fun K88 hK88 s p hf => wb_X5_weigh_88   (fun v0 v4 v6 h => K88 (v0, v4, v6, h)) (fun v0 v4 v6 h p e => hK88 (v0, v4, v6, h) p e) s.1 s.2.1 s.2.2.1 s.2.2.2 p hf) 1000 (v0, v4, v6, h) p hf
def f_X5_weigh_82 (v0 : Nat) (h : mj_H) : Option (mj_H) := f_X5_weigh_88 v0 (0 : Int64) (0 : Int32) h
set_option maxHeartbeats 4000000 in
set_option maxRecDepth 100000 in
theorem w_X5_weigh_82 (v0 : Nat) (h : mj_H) (p : mj_H) (hf : f_X5_weigh_82  v0 h = some p) : mj_W mX5_weigh (mj_FV p) 82 [(0, .ref v0)] [] h 0 0 := by
  unfold f_X5_weigh_82 at hf
  refine mj_blk k_X5_ok 43 4 (pc' := 88) (l' := [(6, .int (0 : Int32)), (4, .long (0 : Int64)), (0, .ref v0)]) (st' := []) rfl ?_
  refine mj_locs [2, 1, 0] (l' := [(0, .ref v0), (4, .long (0 : Int64)), (6, .int (0 : Int32))]) rfl ?_
  exact w_X5_weigh_88 v0 (0 : Int64) (0 : Int32) h _ hf
def b_X5_weigh_61 (K61 : Nat → Int32 → mj_H → Option (mj_H)) (v0 : Nat) (v4 : Int32) (h : mj_H) : Option (mj_H) := (if (6 : Int32) ≤ v4 then f_X5_weigh_82 v0 h else (mj_gR h v0 5 0).bind fun x7 => (mj_uJ h x7 v4 (1 : Int64)).bind fun h8 => K61 v0 (v4 + (1 : Int32)) h8)
set_option maxHeartbeats 4000000 in
set_option maxRecDepth 100000 in
theorem wb_X5_weigh_61 (K61 : Nat → Int32 → mj_H → Option (mj_H)) (hK61 : ∀ (v0 : Nat) (v4 : Int32)  (h : mj_H) (p : mj_H), K61 v0 v4 h = some p → mj_W mX5_weigh (mj_FV p) 61 [(0, .ref v0), (4, .int v4)] [] h 0 0) (v0 : Nat) (v4 : Int32) (h : mj_H) (p : mj_H) (hf : b_X5_weigh_61  K61 v0 v4 h = some p) : mj_W mX5_weigh (mj_FV p) 61 [(0, .ref v0), (4, .int v4)] [] h 0 0 := by
  unfold b_X5_weigh_61 at hf
  refine mj_blk k_X5_ok 33 2 (pc' := 65) (l' := [(0, .ref v0), (4, .int v4)]) (st' := [.int (6 : Int32), .int v4]) rfl ?_
  refine mj_icmp_ge 35 82 rfl (by decide) (fun q => ?_) (fun q => ?_)
  · have hf := (if_pos q).symm.trans hf
    refine mj_locs [0] (l' := [(0, .ref v0)]) rfl ?_
    exact w_X5_weigh_82 v0 h _ hf
  · have hf := (if_neg q).symm.trans hf
    refine mj_blk k_X5_ok 36 1 (pc' := 69) (l' := [(0, .ref v0), (4, .int v4)]) (st' := [.ref v0]) rfl ?_
    obtain ⟨x7, ex7, hf⟩ := mj_bd hf
    refine mj_get 37 rfl fl_X5_9 (mj_gR_V ex7) ?_
    refine mj_blk k_X5_ok 38 2 (pc' := 75) (l' := [(0, .ref v0), (4, .int v4)]) (st' := [.long (1 : Int64), .int v4, .ref x7]) rfl ?_
    obtain ⟨h8, eh8, hf⟩ := mj_bd hf
    refine mj_last 40 rfl eh8 ?_
    refine mj_blk k_X5_ok 41 2 (pc' := 61) (l' := [(4, .int (v4 + (1 : Int32))), (0, .ref v0)]) (st' := []) rfl ?_
    refine mj_locs [1, 0] (l' := [(0, .ref v0), (4, .int (v4 + (1 : Int32)))]) rfl ?_
    exact hK61 v0 (v4 + (1 : Int32)) h8 _ hf
def f_X5_weigh_61 (v0 : Nat) (v4 : Int32) (h : mj_H) : Option (mj_H) := mj_fix (fun (K61 : (Nat × Int32 × mj_H) → Option (mj_H)) (s : Nat × Int32 × mj_H) => b_X5_weigh_61  (fun v0 v4 h => K61 (v0, v4, h)) s.1 s.2.1 s.2.2) 1000 (v0, v4, h)
set_option maxHeartbeats 4000000 in
set_option maxRecDepth 100000 in
theorem w_X5_weigh_61 (v0 : Nat) (v4 : Int32) (h : mj_H) (p : mj_H) (hf : f_X5_weigh_61  v0 v4 h = some p) : mj_W mX5_weigh (mj_FV p) 61 [(0, .ref v0), (4, .int v4)] [] h 0 0 := by
  unfold f_X5_weigh_61 at hf
  exact mj_fix_ind (F := (fun (K61 : (Nat × Int32 × mj_H) → Option (mj_H)) (s : Nat × Int32 × mj_H) => b_X5_weigh_61  (fun v0 v4 h => K61 (v0, v4, h)) s.1 s.2.1 s.2.2)) (P := fun s p => mj_W mX5_weigh (mj_FV p) 61 [(0, .ref s.1), (4, .int s.2.1)] [] s.2.2 0 0) (fun K61 hK61 s p hf => wb_X5_weigh_61   (fun v0 v4 h => K61 (v0, v4, h)) (fun v0 v4 h p e => hK61 (v0, v4, h) p e) s.1 s.2.1 s.2.2 p hf) 1000 (v0, v4, h) p hf
def f_X5_weigh_43 (K3 : Nat → Int32 → Int32 → Int32 → Int32 → mj_H → Option (mj_H)) (v0 : Nat) (v1 : Int32) (v2 : Int32) (v3 : Int32) (v4 : Int32) (s0 : Nat) (s1 : Int32) (s2 : Int64) (s3 : Int64) (h : mj_H) : Option (mj_H) := (mj_uJ h s0 s1 (s2 * s3)).bind fun h9 => K3 v0 v1 v2 v3 (v4 + (1 : Int32)) h9
set_option maxHeartbeats 4000000 in
set_option maxRecDepth 100000 in
theorem w_X5_weigh_43 (K3 : Nat → Int32 → Int32 → Int32 → Int32 → mj_H → Option (mj_H)) (hK3 : ∀ (v0 : Nat) (v1 : Int32) (v2 : Int32) (v3 : Int32) (v4 : Int32)  (h : mj_H) (p : mj_H), K3 v0 v1 v2 v3 v4 h = some p → mj_W mX5_weigh (mj_FV p) 3 [(0, .ref v0), (1, .int v1), (2, .int v2), (3, .int v3), (4, .int v4)] [] h 0 0) (v0 : Nat) (v1 : Int32) (v2 : Int32) (v3 : Int32) (v4 : Int32) (s0 : Nat) (s1 : Int32) (s2 : Int64) (s3 : Int64) (h : mj_H) (p : mj_H) (hf : f_X5_weigh_43 K3 v0 v1 v2 v3 v4 s0 s1 s2 s3 h = some p) : mj_W mX5_weigh (mj_FV p) 43 [(0, .ref v0), (1, .int v1), (2, .int v2), (3, .int v3), (4, .int v4)] [.long s3, .long s2, .int s1, .ref s0] h 0 0 := by
  unfold f_X5_weigh_43 at hf
  refine mj_blk k_X5_ok 24 1 (pc' := 44) (l' := [(0, .ref v0), (1, .int v1), (2, .int v2), (3, .int v3), (4, .int v4)]) (st' := [.long (s2 * s3), .int s1, .ref s0]) rfl ?_
  obtain ⟨h9, eh9, hf⟩ := mj_bd hf
  refine mj_last 25 rfl eh9 ?_
  refine mj_blk k_X5_ok 26 2 (pc' := 3) (l' := [(4, .int (v4 + (1 : Int32))), (0, .ref v0), (1, .int v1), (2, .int v2), (3, .int v3)]) (st' := []) rfl ?_
  refine mj_locs [1, 2, 3, 4, 0] (l' := [(0, .ref v0), (1, .int v1), (2, .int v2), (3, .int v3), (4, .int (v4 + (1 : Int32)))]) rfl ?_
  exact hK3 v0 v1 v2 v3 (v4 + (1 : Int32)) h9 _ hf
def b_X5_weigh_3 (K3 : Nat → Int32 → Int32 → Int32 → Int32 → mj_H → Option (mj_H)) (v0 : Nat) (v1 : Int32) (v2 : Int32) (v3 : Int32) (v4 : Int32) (h : mj_H) : Option (mj_H) := (if (6 : Int32) ≤ v4 then (if mj_ob h v0 5 = true then (f_X5_isEmpty v0 h).bind fun p10 => (if p10.1 = 0 then f_X5_weigh_82 v0 p10.2 else f_X5_weigh_61 v0 (0 : Int32) p10.2) else none) else (f_X8_casesOf v4 v1 v3 h).bind fun p11 => (mj_gR p11.2 v0 5 0).bind fun x12 => (mj_aJ p11.2 x12 v4).bind fun x13 => (if v2 = 0 then f_X5_weigh_43 K3 v0 v1 v2 v3 v4 x12 v4 x13 ((((12 : Int32) - p11.1)).toInt64) p11.2 else f_X5_weigh_43 K3 v0 v1 v2 v3 v4 x12 v4 x13 ((p11.1).toInt64) p11.2))
set_option maxHeartbeats 4000000 in
set_option maxRecDepth 100000 in
theorem wb_X5_weigh_3 (K3 : Nat → Int32 → Int32 → Int32 → Int32 → mj_H → Option (mj_H)) (hK3 : ∀ (v0 : Nat) (v1 : Int32) (v2 : Int32) (v3 : Int32) (v4 : Int32)  (h : mj_H) (p : mj_H), K3 v0 v1 v2 v3 v4 h = some p → mj_W mX5_weigh (mj_FV p) 3 [(0, .ref v0), (1, .int v1), (2, .int v2), (3, .int v3), (4, .int v4)] [] h 0 0) (v0 : Nat) (v1 : Int32) (v2 : Int32) (v3 : Int32) (v4 : Int32) (h : mj_H) (p : mj_H) (hf : b_X5_weigh_3  K3 v0 v1 v2 v3 v4 h = some p) : mj_W mX5_weigh (mj_FV p) 3 [(0, .ref v0), (1, .int v1), (2, .int v2), (3, .int v3), (4, .int v4)] [] h 0 0 := by
  unfold b_X5_weigh_3 at hf
  refine mj_blk k_X5_ok 2 2 (pc' := 7) (l' := [(0, .ref v0), (1, .int v1), (2, .int v2), (3, .int v3), (4, .int v4)]) (st' := [.int (6 : Int32), .int v4]) rfl ?_
  refine mj_icmp_ge 4 51 rfl (by decide) (fun q => ?_) (fun q => ?_)
  · have hf := (if_pos q).symm.trans hf
    refine mj_blk k_X5_ok 28 1 (pc' := 52) (l' := [(0, .ref v0), (1, .int v1), (2, .int v2), (3, .int v3), (4, .int v4)]) (st' := [.ref v0]) rfl ?_
    obtain ⟨gp10, hf⟩ := mj_gd hf
    obtain ⟨p10, ep10, hf⟩ := mj_bd hf
    refine mj_callV (T := TX5) (N := 1) (ci := 5) mX5_isEmpty [] 29 rfl ll_X5_33 lb_X5_isEmpty li_X5_isEmpty ⟨Nat.le_of_ble_eq_true rfl, Nat.le_of_ble_eq_true rfl⟩ rfl gp10 rfl (rest := []) rfl (Nat.le_of_ble_eq_true rfl) ⟨Nat.le_of_ble_eq_true rfl, Nat.le_of_ble_eq_true rfl⟩ (c_X5_isEmpty v0 h p10 ep10) ?_
    show mj_W mX5_weigh (mj_FV p) 55 [(0, .ref v0), (1, .int v1), (2, .int v2), (3, .int v3), (4, .int v4)] [.int p10.1] p10.2 0 0
    refine mj_if_eq 30 82 rfl (by decide) (fun q => ?_) (fun q => ?_)
    · have hf := (if_pos q).symm.trans hf
      refine mj_locs [0] (l' := [(0, .ref v0)]) rfl ?_
      exact w_X5_weigh_82 v0 p10.2 _ hf
    · have hf := (if_neg q).symm.trans hf
      refine mj_blk k_X5_ok 31 2 (pc' := 61) (l' := [(4, .int (0 : Int32)), (0, .ref v0), (1, .int v1), (2, .int v2), (3, .int v3)]) (st' := []) rfl ?_
      refine mj_locs [1, 0] (l' := [(0, .ref v0), (4, .int (0 : Int32))]) rfl ?_
      exact w_X5_weigh_61 v0 (0 : Int32) p10.2 _ hf
  · have hf := (if_neg q).symm.trans hf
    refine mj_blk k_X5_ok 5 3 (pc' := 14) (l' := [(0, .ref v0), (1, .int v1), (2, .int v2), (3, .int v3), (4, .int v4)]) (st' := [.int v3, .int v1, .int v4]) rfl ?_
    obtain ⟨p11, ep11, hf⟩ := mj_bd hf
    refine mj_callS mX8_casesOf [.int v4, .int v1, .int v3] 8 rfl ll_X5_29 lb_X8_casesOf li_X8_casesOf ⟨Nat.le_of_ble_eq_true rfl, Nat.le_of_ble_eq_true rfl⟩ rfl (rest := []) rfl (Nat.le_of_ble_eq_true rfl) ⟨Nat.le_of_ble_eq_true rfl, Nat.le_of_ble_eq_true rfl⟩ (c_X8_casesOf v4 v1 v3 h p11 ep11) ?_
    show mj_W mX5_weigh (mj_FV p) 17 [(0, .ref v0), (1, .int v1), (2, .int v2), (3, .int v3), (4, .int v4)] [.int p11.1] p11.2 0 0
    refine mj_blk k_X5_ok 9 2 (pc' := 20) (l' := [(5, .int p11.1), (0, .ref v0), (1, .int v1), (2, .int v2), (3, .int v3), (4, .int v4)]) (st' := [.ref v0]) rfl ?_
    obtain ⟨x12, ex12, hf⟩ := mj_bd hf
    refine mj_get 11 rfl fl_X5_9 (mj_gR_V ex12) ?_
    refine mj_blk k_X5_ok 12 2 (pc' := 26) (l' := [(5, .int p11.1), (0, .ref v0), (1, .int v1), (2, .int v2), (3, .int v3), (4, .int v4)]) (st' := [.int v4, .ref x12, .int v4, .ref x12]) rfl ?_
    obtain ⟨x13, ex13, hf⟩ := mj_bd hf
    refine mj_lald 14 rfl ex13 ?_
    refine mj_blk k_X5_ok 15 1 (pc' := 28) (l' := [(5, .int p11.1), (0, .ref v0), (1, .int v1), (2, .int v2), (3, .int v3), (4, .int v4)]) (st' := [.int v2, .long x13, .int v4, .ref x12]) rfl ?_
    refine mj_if_eq 16 37 rfl (by decide) (fun q => ?_) (fun q => ?_)
    · have hf := (if_pos q).symm.trans hf
      refine mj_blk k_X5_ok 20 4 (pc' := 43) (l' := [(5, .int p11.1), (0, .ref v0), (1, .int v1), (2, .int v2), (3, .int v3), (4, .int v4)]) (st' := [.long ((((12 : Int32) - p11.1)).toInt64), .long x13, .int v4, .ref x12]) rfl ?_
      refine mj_locs [1, 2, 3, 4, 5] (l' := [(0, .ref v0), (1, .int v1), (2, .int v2), (3, .int v3), (4, .int v4)]) rfl ?_
      exact w_X5_weigh_43 K3 hK3 v0 v1 v2 v3 v4 x12 v4 x13 ((((12 : Int32) - p11.1)).toInt64) p11.2 _ hf
    · have hf := (if_neg q).symm.trans hf
      refine mj_blk k_X5_ok 17 3 (pc' := 43) (l' := [(5, .int p11.1), (0, .ref v0), (1, .int v1), (2, .int v2), (3, .int v3), (4, .int v4)]) (st' := [.long ((p11.1).toInt64), .long x13, .int v4, .ref x12]) rfl ?_
      refine mj_locs [1, 2, 3, 4, 5] (l' := [(0, .ref v0), (1, .int v1), (2, .int v2), (3, .int v3), (4, .int v4)]) rfl ?_
      exact w_X5_weigh_43 K3 hK3 v0 v1 v2 v3 v4 x12 v4 x13 ((p11.1).toInt64) p11.2 _ hf
def f_X5_weigh_3 (v0 : Nat) (v1 : Int32) (v2 : Int32) (v3 : Int32) (v4 : Int32) (h : mj_H) : Option (mj_H) := mj_fix (fun (K3 : (Nat × Int32 × Int32 × Int32 × Int32 × mj_H) → Option (mj_H)) (s : Nat × Int32 × Int32 × Int32 × Int32 × mj_H) => b_X5_weigh_3  (fun v0 v1 v2 v3 v4 h => K3 (v0, v1, v2, v3, v4, h)) s.1 s.2.1 s.2.2.1 s.2.2.2.1 s.2.2.2.2.1 s.2.2.2.2.2) 1000 (v0, v1, v2, v3, v4, h)
set_option maxHeartbeats 4000000 in
set_option maxRecDepth 100000 in
theorem w_X5_weigh_3 (v0 : Nat) (v1 : Int32) (v2 : Int32) (v3 : Int32) (v4 : Int32) (h : mj_H) (p : mj_H) (hf : f_X5_weigh_3  v0 v1 v2 v3 v4 h = some p) : mj_W mX5_weigh (mj_FV p) 3 [(0, .ref v0), (1, .int v1), (2, .int v2), (3, .int v3), (4, .int v4)] [] h 0 0 := by
  unfold f_X5_weigh_3 at hf
  exact mj_fix_ind (F := (fun (K3 : (Nat × Int32 × Int32 × Int32 × Int32 × mj_H) → Option (mj_H)) (s : Nat × Int32 × Int32 × Int32 × Int32 × mj_H) => b_X5_weigh_3  (fun v0 v1 v2 v3 v4 h => K3 (v0, v1, v2, v3, v4, h)) s.1 s.2.1 s.2.2.1 s.2.2.2.1 s.2.2.2.2.1 s.2.2.2.2.2)) (P := fun s p => mj_W mX5_weigh (mj_FV p) 3 [(0, .ref s.1), (1, .int s.2.1), (2, .int s.2.2.1), (3, .int s.2.2.2.1), (4, .int s.2.2.2.2.1)] [] s.2.2.2.2.2 0 0) (fun K3 hK3 s p hf => wb_X5_weigh_3   (fun v0 v1 v2 v3 v4 h => K3 (v0, v1, v2, v3, v4, h)) (fun v0 v1 v2 v3 v4 h p e => hK3 (v0, v1, v2, v3, v4, h) p e) s.1 s.2.1 s.2.2.1 s.2.2.2.1 s.2.2.2.2.1 s.2.2.2.2.2 p hf) 1000 (v0, v1, v2, v3, v4, h) p hf
def f_X5_weigh (v0 : Nat) (v1 : Int32) (v2 : Int32) (v3 : Int32) (h : mj_H) : Option (mj_H) := f_X5_weigh_3 v0 v1 v2 v3 (0 : Int32) h
set_option maxHeartbeats 4000000 in
set_option maxRecDepth 100000 in
theorem c_X5_weigh (v0 : Nat) (v1 : Int32) (v2 : Int32) (v3 : Int32) (h : mj_H) (p : mj_H) (hf : f_X5_weigh v0 v1 v2 v3 h = some p) : mj_Met mX5_weigh [.ref v0, .int v1, .int v2, .int v3] h none p := by
  refine mj_met pl_X5 tok_X5_weigh (Nat.le_of_ble_eq_true rfl) ?_
  show mj_W mX5_weigh (mj_FV p) 0 [(0, .ref v0), (1, .int v1), (2, .int v2), (3, .int v3)] [] h 0 0
  unfold f_X5_weigh at hf
  refine mj_blk k_X5_ok 0 2 (pc' := 3) (l' := [(4, .int (0 : Int32)), (0, .ref v0), (1, .int v1), (2, .int v2), (3, .int v3)]) (st' := []) rfl ?_
  refine mj_locs [1, 2, 3, 4, 0] (l' := [(0, .ref v0), (1, .int v1), (2, .int v2), (3, .int v3), (4, .int (0 : Int32))]) rfl ?_
  exact w_X5_weigh_3 v0 v1 v2 v3 (0 : Int32) h _ hf
def f_X0_trustBehind_38 (v0 : Nat) (h : mj_H) : Option (Int32 × mj_H) := (mj_gR h v0 0 3).bind fun x1 => (if mj_ob h x1 5 = true then (f_X5_chance x1 (3 : Int32) (0 : Int32) h).bind fun p2 => some (p2.1, p2.2) else none)
set_option maxHeartbeats 4000000 in
set_option maxRecDepth 100000 in
theorem w_X0_trustBehind_38 (v0 : Nat) (h : mj_H) (p : Int32 × mj_H) (hf : f_X0_trustBehind_38  v0 h = some p) : mj_W mX0_trustBehind (mj_FI p) 38 [(0, .ref v0)] [] h 0 0 := by
  unfold f_X0_trustBehind_38 at hf
  refine mj_blk k_X0_ok 21 1 (pc' := 39) (l' := [(0, .ref v0)]) (st' := [.ref v0]) rfl ?_
  obtain ⟨x1, ex1, hf⟩ := mj_bd hf
  refine mj_get 22 rfl fl_X0_25 (mj_gR_V ex1) ?_
  refine mj_blk k_X0_ok 23 2 (pc' := 44) (l' := [(0, .ref v0)]) (st' := [.int (0 : Int32), .int (3 : Int32), .ref x1]) rfl ?_
  obtain ⟨gp2, hf⟩ := mj_gd hf
  obtain ⟨p2, ep2, hf⟩ := mj_bd hf
  refine mj_callV (T := TX5) (N := 1) (ci := 5) mX5_chance [.int (3 : Int32), .int (0 : Int32)] 25 rfl ll_X0_78 lb_X5_chance li_X5_chance ⟨Nat.le_of_ble_eq_true rfl, Nat.le_of_ble_eq_true rfl⟩ rfl gp2 rfl (rest := []) rfl (Nat.le_of_ble_eq_true rfl) ⟨Nat.le_of_ble_eq_true rfl, Nat.le_of_ble_eq_true rfl⟩ (c_X5_chance x1 (3 : Int32) (0 : Int32) h p2 ep2) ?_
  show mj_W mX0_trustBehind (mj_FI p) 47 [(0, .ref v0)] [.int p2.1] p2.2 0 0
  obtain rfl := Option.some.inj hf
  exact mj_end (some (.int p2.1)) ⟨mj_dec tok_X0_trustBehind (a := 26) rfl, .int, rfl, rfl⟩ ⟨rfl, rfl⟩ (Nat.le_of_ble_eq_true rfl) (Nat.le_of_ble_eq_true rfl)
def f_X0_trustBehind_23 (v0 : Nat) (v1 : Int32) (v3 : Int32) (v4 : Int32) (h : mj_H) : Option (Int32 × mj_H) := (mj_gR h v0 0 3).bind fun x3 => (if mj_ob h v0 0 = true then (f_X0_knows v0 v1 h).bind fun p4 => (if mj_ob p4.2 x3 5 = true then (f_X5_weigh x3 v3 v4 p4.1 p4.2).bind fun p5 => f_X0_trustBehind_38 v0 p5 else none) else none)
set_option maxHeartbeats 4000000 in
set_option maxRecDepth 100000 in
theorem w_X0_trustBehind_23 (v0 : Nat) (v1 : Int32) (v3 : Int32) (v4 : Int32) (h : mj_H) (p : Int32 × mj_H) (hf : f_X0_trustBehind_23  v0 v1 v3 v4 h = some p) : mj_W mX0_trustBehind (mj_FI p) 23 [(0, .ref v0), (1, .int v1), (3, .int v3), (4, .int v4)] [] h 0 0 := by
  unfold f_X0_trustBehind_23 at hf
  refine mj_blk k_X0_ok 13 1 (pc' := 24) (l' := [(0, .ref v0), (1, .int v1), (3, .int v3), (4, .int v4)]) (st' := [.ref v0]) rfl ?_
  obtain ⟨x3, ex3, hf⟩ := mj_bd hf
  refine mj_get 14 rfl fl_X0_25 (mj_gR_V ex3) ?_
  refine mj_blk k_X0_ok 15 4 (pc' := 32) (l' := [(0, .ref v0), (1, .int v1), (3, .int v3), (4, .int v4)]) (st' := [.int v1, .ref v0, .int v4, .int v3, .ref x3]) rfl ?_
  obtain ⟨gp4, hf⟩ := mj_gd hf
  obtain ⟨p4, ep4, hf⟩ := mj_bd hf
  refine mj_callV (T := TX0) (N := 7) (ci := 0) mX0_knows [.int v1] 19 rfl ll_X0_55 lb_X0_knows li_X0_knows ⟨Nat.le_of_ble_eq_true rfl, Nat.le_of_ble_eq_true rfl⟩ rfl gp4 rfl (rest := [.int v4, .int v3, .ref x3]) rfl (Nat.le_of_ble_eq_true rfl) ⟨Nat.le_of_ble_eq_true rfl, Nat.le_of_ble_eq_true rfl⟩ (c_X0_knows v0 v1 h p4 ep4) ?_
  show mj_W mX0_trustBehind (mj_FI p) 35 [(0, .ref v0), (1, .int v1), (3, .int v3), (4, .int v4)] [.int p4.1, .int v4, .int v3, .ref x3] p4.2 0 0
  obtain ⟨gp5, hf⟩ := mj_gd hf
  obtain ⟨p5, ep5, hf⟩ := mj_bd hf
  refine mj_callV (T := TX5) (N := 1) (ci := 5) mX5_weigh [.int v3, .int v4, .int p4.1] 20 rfl ll_X0_82 lb_X5_weigh li_X5_weigh ⟨Nat.le_of_ble_eq_true rfl, Nat.le_of_ble_eq_true rfl⟩ rfl gp5 rfl (rest := []) rfl (Nat.le_of_ble_eq_true rfl) ⟨Nat.le_of_ble_eq_true rfl, Nat.le_of_ble_eq_true rfl⟩ (c_X5_weigh x3 v3 v4 p4.1 p4.2 p5 ep5) ?_
  show mj_W mX0_trustBehind (mj_FI p) 38 [(0, .ref v0), (1, .int v1), (3, .int v3), (4, .int v4)] [] p5 0 0
  refine mj_locs [0] (l' := [(0, .ref v0)]) rfl ?_
  exact w_X0_trustBehind_38 v0 p5 _ hf
def f_X0_trustBehind (v0 : Nat) (v1 : Int32) (v2 : Int32) (v3 : Int32) (v4 : Int32) (h : mj_H) : Option (Int32 × mj_H) := (mj_gR h v0 0 3).bind fun x6 => (if mj_ob h x6 5 = true then (f_X5_load x6 v0 v1 h).bind fun p7 => (if v1 = v2 then f_X0_trustBehind_23 v0 v1 v3 v4 p7 else (if mj_ob p7 v0 0 = true then (f_X0_areBrothers v0 v1 v2 p7).bind fun p8 => (if p8.1 = 0 then f_X0_trustBehind_38 v0 p8.2 else f_X0_trustBehind_23 v0 v1 v3 v4 p8.2) else none)) else none)
set_option maxHeartbeats 4000000 in
set_option maxRecDepth 100000 in
theorem c_X0_trustBehind (v0 : Nat) (v1 : Int32) (v2 : Int32) (v3 : Int32) (v4 : Int32) (h : mj_H) (p : Int32 × mj_H) (hf : f_X0_trustBehind v0 v1 v2 v3 v4 h = some p) : mj_Met mX0_trustBehind [.ref v0, .int v1, .int v2, .int v3, .int v4] h (some (.int p.1)) p.2 := by
  refine mj_met pl_X0 tok_X0_trustBehind (Nat.le_of_ble_eq_true rfl) ?_
  show mj_W mX0_trustBehind (mj_FI p) 0 [(0, .ref v0), (1, .int v1), (2, .int v2), (3, .int v3), (4, .int v4)] [] h 0 0
  unfold f_X0_trustBehind at hf
  refine mj_blk k_X0_ok 0 1 (pc' := 1) (l' := [(0, .ref v0), (1, .int v1), (2, .int v2), (3, .int v3), (4, .int v4)]) (st' := [.ref v0]) rfl ?_
  obtain ⟨x6, ex6, hf⟩ := mj_bd hf
  refine mj_get 1 rfl fl_X0_25 (mj_gR_V ex6) ?_
  refine mj_blk k_X0_ok 2 2 (pc' := 6) (l' := [(0, .ref v0), (1, .int v1), (2, .int v2), (3, .int v3), (4, .int v4)]) (st' := [.int v1, .ref v0, .ref x6]) rfl ?_
  obtain ⟨gp7, hf⟩ := mj_gd hf
  obtain ⟨p7, ep7, hf⟩ := mj_bd hf
  refine mj_callV (T := TX5) (N := 1) (ci := 5) mX5_load [.ref v0, .int v1] 4 rfl ll_X0_74 lb_X5_load li_X5_load ⟨Nat.le_of_ble_eq_true rfl, Nat.le_of_ble_eq_true rfl⟩ rfl gp7 rfl (rest := []) rfl (Nat.le_of_ble_eq_true rfl) ⟨Nat.le_of_ble_eq_true rfl, Nat.le_of_ble_eq_true rfl⟩ (c_X5_load x6 v0 v1 h p7 ep7) ?_
  show mj_W mX0_trustBehind (mj_FI p) 9 [(0, .ref v0), (1, .int v1), (2, .int v2), (3, .int v3), (4, .int v4)] [] p7 0 0
  refine mj_blk k_X0_ok 5 2 (pc' := 11) (l' := [(0, .ref v0), (1, .int v1), (2, .int v2), (3, .int v3), (4, .int v4)]) (st' := [.int v2, .int v1]) rfl ?_
  refine mj_icmp_eq 7 23 rfl (by decide) (fun q => ?_) (fun q => ?_)
  · have hf := (if_pos q).symm.trans hf
    refine mj_locs [0, 1, 3, 4] (l' := [(0, .ref v0), (1, .int v1), (3, .int v3), (4, .int v4)]) rfl ?_
    exact w_X0_trustBehind_23 v0 v1 v3 v4 p7 _ hf
  · have hf := (if_neg q).symm.trans hf
    refine mj_blk k_X0_ok 8 3 (pc' := 17) (l' := [(0, .ref v0), (1, .int v1), (2, .int v2), (3, .int v3), (4, .int v4)]) (st' := [.int v2, .int v1, .ref v0]) rfl ?_
    obtain ⟨gp8, hf⟩ := mj_gd hf
    obtain ⟨p8, ep8, hf⟩ := mj_bd hf
    refine mj_callV (T := TX0) (N := 7) (ci := 0) mX0_areBrothers [.int v1, .int v2] 11 rfl ll_X0_51 lb_X0_areBrothers li_X0_areBrothers ⟨Nat.le_of_ble_eq_true rfl, Nat.le_of_ble_eq_true rfl⟩ rfl gp8 rfl (rest := []) rfl (Nat.le_of_ble_eq_true rfl) ⟨Nat.le_of_ble_eq_true rfl, Nat.le_of_ble_eq_true rfl⟩ (c_X0_areBrothers v0 v1 v2 p7 p8 ep8) ?_
    show mj_W mX0_trustBehind (mj_FI p) 20 [(0, .ref v0), (1, .int v1), (2, .int v2), (3, .int v3), (4, .int v4)] [.int p8.1] p8.2 0 0
    refine mj_if_eq 12 38 rfl (by decide) (fun q => ?_) (fun q => ?_)
    · have hf := (if_pos q).symm.trans hf
      refine mj_locs [0] (l' := [(0, .ref v0)]) rfl ?_
      exact w_X0_trustBehind_38 v0 p8.2 _ hf
    · have hf := (if_neg q).symm.trans hf
      refine mj_locs [0, 1, 3, 4] (l' := [(0, .ref v0), (1, .int v1), (3, .int v3), (4, .int v4)]) rfl ?_
      exact w_X0_trustBehind_23 v0 v1 v3 v4 p8.2 _ hf
def b_X5_store_2 (K2 : Nat → Nat → Int32 → Int32 → mj_H → Option (mj_H)) (v0 : Nat) (v1 : Nat) (v2 : Int32) (v3 : Int32) (h : mj_H) : Option (mj_H) := (if (6 : Int32) ≤ v3 then some h else (mj_gR h v0 5 0).bind fun x1 => (mj_aJ h x1 v3).bind fun x2 => (if mj_ob h v1 0 = true then (f_X0_setWeight v1 v2 v3 x2 h).bind fun p3 => K2 v0 v1 v2 (v3 + (1 : Int32)) p3 else none))
set_option maxHeartbeats 4000000 in
set_option maxRecDepth 100000 in
theorem wb_X5_store_2 (K2 : Nat → Nat → Int32 → Int32 → mj_H → Option (mj_H)) (hK2 : ∀ (v0 : Nat) (v1 : Nat) (v2 : Int32) (v3 : Int32)  (h : mj_H) (p : mj_H), K2 v0 v1 v2 v3 h = some p → mj_W mX5_store (mj_FV p) 2 [(0, .ref v0), (1, .ref v1), (2, .int v2), (3, .int v3)] [] h 0 0) (v0 : Nat) (v1 : Nat) (v2 : Int32) (v3 : Int32) (h : mj_H) (p : mj_H) (hf : b_X5_store_2  K2 v0 v1 v2 v3 h = some p) : mj_W mX5_store (mj_FV p) 2 [(0, .ref v0), (1, .ref v1), (2, .int v2), (3, .int v3)] [] h 0 0 := by
  unfold b_X5_store_2 at hf
  refine mj_blk k_X5_ok 2 2 (pc' := 5) (l' := [(0, .ref v0), (1, .ref v1), (2, .int v2), (3, .int v3)]) (st' := [.int (6 : Int32), .int v3]) rfl ?_
  refine mj_icmp_ge 4 30 rfl (by decide) (fun q => ?_) (fun q => ?_)
  · have hf := (if_pos q).symm.trans hf
    obtain rfl := Option.some.inj hf
    exact mj_end none ⟨mj_dec tok_X5_store (a := 17) rfl, rfl⟩ ⟨rfl, rfl⟩ (Nat.le_of_ble_eq_true rfl) (Nat.le_of_ble_eq_true rfl)
  · have hf := (if_neg q).symm.trans hf
    refine mj_blk k_X5_ok 5 1 (pc' := 9) (l' := [(0, .ref v0), (1, .ref v1), (2, .int v2), (3, .int v3)]) (st' := [.ref v1]) rfl ?_
    refine mj_ifnull 6 rfl ?_
    refine mj_blk k_X5_ok 7 4 (pc' := 16) (l' := [(0, .ref v0), (1, .ref v1), (2, .int v2), (3, .int v3)]) (st' := [.ref v0, .int v3, .int v2, .ref v1]) rfl ?_
    obtain ⟨x1, ex1, hf⟩ := mj_bd hf
    refine mj_get 11 rfl fl_X5_9 (mj_gR_V ex1) ?_
    refine mj_blk k_X5_ok 12 1 (pc' := 20) (l' := [(0, .ref v0), (1, .ref v1), (2, .int v2), (3, .int v3)]) (st' := [.int v3, .ref x1, .int v3, .int v2, .ref v1]) rfl ?_
    obtain ⟨x2, ex2, hf⟩ := mj_bd hf
    refine mj_lald 13 rfl ex2 ?_
    obtain ⟨gp3, hf⟩ := mj_gd hf
    obtain ⟨p3, ep3, hf⟩ := mj_bd hf
    refine mj_callV (T := TX0) (N := 7) (ci := 0) mX0_setWeight [.int v2, .int v3, .long x2] 14 rfl ll_X5_21 lb_X0_setWeight li_X0_setWeight ⟨Nat.le_of_ble_eq_true rfl, Nat.le_of_ble_eq_true rfl⟩ rfl gp3 rfl (rest := []) rfl (Nat.le_of_ble_eq_true rfl) ⟨Nat.le_of_ble_eq_true rfl, Nat.le_of_ble_eq_true rfl⟩ (c_X0_setWeight v1 v2 v3 x2 h p3 ep3) ?_
    show mj_W mX5_store (mj_FV p) 24 [(0, .ref v0), (1, .ref v1), (2, .int v2), (3, .int v3)] [] p3 0 0
    refine mj_blk k_X5_ok 15 2 (pc' := 2) (l' := [(3, .int (v3 + (1 : Int32))), (0, .ref v0), (1, .ref v1), (2, .int v2)]) (st' := []) rfl ?_
    refine mj_locs [1, 2, 3, 0] (l' := [(0, .ref v0), (1, .ref v1), (2, .int v2), (3, .int (v3 + (1 : Int32)))]) rfl ?_
    exact hK2 v0 v1 v2 (v3 + (1 : Int32)) p3 _ hf
def f_X5_store_2 (v0 : Nat) (v1 : Nat) (v2 : Int32) (v3 : Int32) (h : mj_H) : Option (mj_H) := mj_fix (fun (K2 : (Nat × Nat × Int32 × Int32 × mj_H) → Option (mj_H)) (s : Nat × Nat × Int32 × Int32 × mj_H) => b_X5_store_2  (fun v0 v1 v2 v3 h => K2 (v0, v1, v2, v3, h)) s.1 s.2.1 s.2.2.1 s.2.2.2.1 s.2.2.2.2) 1000 (v0, v1, v2, v3, h)
set_option maxHeartbeats 4000000 in
set_option maxRecDepth 100000 in
theorem w_X5_store_2 (v0 : Nat) (v1 : Nat) (v2 : Int32) (v3 : Int32) (h : mj_H) (p : mj_H) (hf : f_X5_store_2  v0 v1 v2 v3 h = some p) : mj_W mX5_store (mj_FV p) 2 [(0, .ref v0), (1, .ref v1), (2, .int v2), (3, .int v3)] [] h 0 0 := by
  unfold f_X5_store_2 at hf
  exact mj_fix_ind (F := (fun (K2 : (Nat × Nat × Int32 × Int32 × mj_H) → Option (mj_H)) (s : Nat × Nat × Int32 × Int32 × mj_H) => b_X5_store_2  (fun v0 v1 v2 v3 h => K2 (v0, v1, v2, v3, h)) s.1 s.2.1 s.2.2.1 s.2.2.2.1 s.2.2.2.2)) (P := fun s p => mj_W mX5_store (mj_FV p) 2 [(0, .ref s.1), (1, .ref s.2.1), (2, .int s.2.2.1), (3, .int s.2.2.2.1)] [] s.2.2.2.2 0 0) (fun K2 hK2 s p hf => wb_X5_store_2   (fun v0 v1 v2 v3 h => K2 (v0, v1, v2, v3, h)) (fun v0 v1 v2 v3 h p e => hK2 (v0, v1, v2, v3, h) p e) s.1 s.2.1 s.2.2.1 s.2.2.2.1 s.2.2.2.2 p hf) 1000 (v0, v1, v2, v3, h) p hf
def f_X5_store (v0 : Nat) (v1 : Nat) (v2 : Int32) (h : mj_H) : Option (mj_H) := f_X5_store_2 v0 v1 v2 (0 : Int32) h
set_option maxHeartbeats 4000000 in
set_option maxRecDepth 100000 in
theorem c_X5_store (v0 : Nat) (v1 : Nat) (v2 : Int32) (h : mj_H) (p : mj_H) (hf : f_X5_store v0 v1 v2 h = some p) : mj_Met mX5_store [.ref v0, .ref v1, .int v2] h none p := by
  refine mj_met pl_X5 tok_X5_store (Nat.le_of_ble_eq_true rfl) ?_
  show mj_W mX5_store (mj_FV p) 0 [(0, .ref v0), (1, .ref v1), (2, .int v2)] [] h 0 0
  unfold f_X5_store at hf
  refine mj_blk k_X5_ok 0 2 (pc' := 2) (l' := [(3, .int (0 : Int32)), (0, .ref v0), (1, .ref v1), (2, .int v2)]) (st' := []) rfl ?_
  refine mj_locs [1, 2, 3, 0] (l' := [(0, .ref v0), (1, .ref v1), (2, .int v2), (3, .int (0 : Int32))]) rfl ?_
  exact w_X5_store_2 v0 v1 v2 (0 : Int32) h _ hf
def f_X0_besides_39 (v2 : Int32) (s0 : Int32) (h : mj_H) : Option (Int32 × mj_H) := some ((v2 ||| s0), h)
set_option maxHeartbeats 4000000 in
set_option maxRecDepth 100000 in
theorem w_X0_besides_39 (v2 : Int32) (s0 : Int32) (h : mj_H) (p : Int32 × mj_H) (hf : f_X0_besides_39  v2 s0 h = some p) : mj_W mX0_besides (mj_FI p) 39 [(2, .int v2)] [.int s0] h 0 0 := by
  unfold f_X0_besides_39 at hf
  refine mj_blk k_X0_ok 27 4 (pc' := 43) (l' := [(3, .int s0), (2, .int v2)]) (st' := [.int (v2 ||| s0)]) rfl ?_
  obtain rfl := Option.some.inj hf
  exact mj_end (some (.int (v2 ||| s0))) ⟨mj_dec tok_X0_besides (a := 31) rfl, .int, rfl, rfl⟩ ⟨rfl, rfl⟩ (Nat.le_of_ble_eq_true rfl) (Nat.le_of_ble_eq_true rfl)
def f_X0_besides_19 (v0 : Nat) (v1 : Int32) (s0 : Int32) (h : mj_H) : Option (Int32 × mj_H) := (if mj_ob h v0 0 = true then (f_X0_has v0 (v1 + (1 : Int32)) h).bind fun p1 => (if p1.1 = 0 then f_X0_besides_39 s0 (0 : Int32) p1.2 else f_X0_besides_39 s0 ((1 : Int32) <<< ((v1 + (1 : Int32)) &&& 31)) p1.2) else none)
set_option maxHeartbeats 4000000 in
set_option maxRecDepth 100000 in
theorem w_X0_besides_19 (v0 : Nat) (v1 : Int32) (s0 : Int32) (h : mj_H) (p : Int32 × mj_H) (hf : f_X0_besides_19  v0 v1 s0 h = some p) : mj_W mX0_besides (mj_FI p) 19 [(0, .ref v0), (1, .int v1)] [.int s0] h 0 0 := by
  unfold f_X0_besides_19 at hf
  refine mj_blk k_X0_ok 13 5 (pc' := 24) (l' := [(2, .int s0), (0, .ref v0), (1, .int v1)]) (st' := [.int (v1 + (1 : Int32)), .ref v0]) rfl ?_
  obtain ⟨gp1, hf⟩ := mj_gd hf
  obtain ⟨p1, ep1, hf⟩ := mj_bd hf
  refine mj_callV (T := TX0) (N := 7) (ci := 0) mX0_has [.int (v1 + (1 : Int32))] 18 rfl ll_X0_47 lb_X0_has li_X0_has ⟨Nat.le_of_ble_eq_true rfl, Nat.le_of_ble_eq_true rfl⟩ rfl gp1 rfl (rest := []) rfl (Nat.le_of_ble_eq_true rfl) ⟨Nat.le_of_ble_eq_true rfl, Nat.le_of_ble_eq_true rfl⟩ (c_X0_has v0 (v1 + (1 : Int32)) h p1 ep1) ?_
  show mj_W mX0_besides (mj_FI p) 27 [(2, .int s0), (0, .ref v0), (1, .int v1)] [.int p1.1] p1.2 0 0
  refine mj_if_eq 19 38 rfl (by decide) (fun q => ?_) (fun q => ?_)
  · have hf := (if_pos q).symm.trans hf
    refine mj_blk k_X0_ok 26 1 (pc' := 39) (l' := [(2, .int s0), (0, .ref v0), (1, .int v1)]) (st' := [.int (0 : Int32)]) rfl ?_
    refine mj_locs [0] (l' := [(2, .int s0)]) rfl ?_
    exact w_X0_besides_39 s0 (0 : Int32) p1.2 _ hf
  · have hf := (if_neg q).symm.trans hf
    refine mj_blk k_X0_ok 20 6 (pc' := 39) (l' := [(2, .int s0), (0, .ref v0), (1, .int v1)]) (st' := [.int ((1 : Int32) <<< ((v1 + (1 : Int32)) &&& 31))]) rfl ?_
    refine mj_locs [0] (l' := [(2, .int s0)]) rfl ?_
    exact w_X0_besides_39 s0 ((1 : Int32) <<< ((v1 + (1 : Int32)) &&& 31)) p1.2 _ hf
def f_X0_besides (v0 : Nat) (v1 : Int32) (h : mj_H) : Option (Int32 × mj_H) := (if mj_ob h v0 0 = true then (f_X0_has v0 (v1 - (1 : Int32)) h).bind fun p2 => (if p2.1 = 0 then f_X0_besides_19 v0 v1 (0 : Int32) p2.2 else f_X0_besides_19 v0 v1 ((1 : Int32) <<< ((v1 - (1 : Int32)) &&& 31)) p2.2) else none)
set_option maxHeartbeats 4000000 in
set_option maxRecDepth 100000 in
theorem c_X0_besides (v0 : Nat) (v1 : Int32) (h : mj_H) (p : Int32 × mj_H) (hf : f_X0_besides v0 v1 h = some p) : mj_Met mX0_besides [.ref v0, .int v1] h (some (.int p.1)) p.2 := by
  refine mj_met pl_X0 tok_X0_besides (Nat.le_of_ble_eq_true rfl) ?_
  show mj_W mX0_besides (mj_FI p) 0 [(0, .ref v0), (1, .int v1)] [] h 0 0
  unfold f_X0_besides at hf
  refine mj_blk k_X0_ok 0 4 (pc' := 4) (l' := [(0, .ref v0), (1, .int v1)]) (st' := [.int (v1 - (1 : Int32)), .ref v0]) rfl ?_
  obtain ⟨gp2, hf⟩ := mj_gd hf
  obtain ⟨p2, ep2, hf⟩ := mj_bd hf
  refine mj_callV (T := TX0) (N := 7) (ci := 0) mX0_has [.int (v1 - (1 : Int32))] 4 rfl ll_X0_47 lb_X0_has li_X0_has ⟨Nat.le_of_ble_eq_true rfl, Nat.le_of_ble_eq_true rfl⟩ rfl gp2 rfl (rest := []) rfl (Nat.le_of_ble_eq_true rfl) ⟨Nat.le_of_ble_eq_true rfl, Nat.le_of_ble_eq_true rfl⟩ (c_X0_has v0 (v1 - (1 : Int32)) h p2 ep2) ?_
  show mj_W mX0_besides (mj_FI p) 7 [(0, .ref v0), (1, .int v1)] [.int p2.1] p2.2 0 0
  refine mj_if_eq 5 18 rfl (by decide) (fun q => ?_) (fun q => ?_)
  · have hf := (if_pos q).symm.trans hf
    refine mj_blk k_X0_ok 12 1 (pc' := 19) (l' := [(0, .ref v0), (1, .int v1)]) (st' := [.int (0 : Int32)]) rfl ?_
    exact w_X0_besides_19 v0 v1 (0 : Int32) p2.2 _ hf
  · have hf := (if_neg q).symm.trans hf
    refine mj_blk k_X0_ok 6 6 (pc' := 19) (l' := [(0, .ref v0), (1, .int v1)]) (st' := [.int ((1 : Int32) <<< ((v1 - (1 : Int32)) &&& 31))]) rfl ?_
    exact w_X0_besides_19 v0 v1 ((1 : Int32) <<< ((v1 - (1 : Int32)) &&& 31)) p2.2 _ hf
def f_X8_costOf (v0 : Int32) (h : mj_H) : Option (Int32 × mj_H) := (if v0 < 0 then some ((100 : Int32), h) else (if (Int32.ofNat (mj_roN 1)) ≤ v0 then some ((100 : Int32), h) else (mj_roA 1 v0).bind fun x1 => some (x1, h)))
set_option maxHeartbeats 4000000 in
set_option maxRecDepth 100000 in
theorem c_X8_costOf (v0 : Int32) (h : mj_H) (p : Int32 × mj_H) (hf : f_X8_costOf v0 h = some p) : mj_Met mX8_costOf [.int v0] h (some (.int p.1)) p.2 := by
  refine mj_met pl_X8 tok_X8_costOf (Nat.le_of_ble_eq_true rfl) ?_
  show mj_W mX8_costOf (mj_FI p) 0 [(0, .int v0)] [] h 0 0
  unfold f_X8_costOf at hf
  refine mj_blk k_X8_ok 0 1 (pc' := 1) (l' := [(0, .int v0)]) (st' := [.int v0]) rfl ?_
  refine mj_if_lt 1 20 rfl (by decide) (fun q => ?_) (fun q => ?_)
  · have hf := (if_pos q).symm.trans hf
    refine mj_blk k_X8_ok 10 1 (pc' := 22) (l' := [(0, .int v0)]) (st' := [.int (100 : Int32)]) rfl ?_
    obtain rfl := Option.some.inj hf
    exact mj_end (some (.int (100 : Int32))) ⟨mj_dec tok_X8_costOf (a := 11) rfl, .int, rfl, rfl⟩ ⟨rfl, rfl⟩ (Nat.le_of_ble_eq_true rfl) (Nat.le_of_ble_eq_true rfl)
  · have hf := (if_neg q).symm.trans hf
    refine mj_blk k_X8_ok 2 1 (pc' := 5) (l' := [(0, .int v0)]) (st' := [.int v0]) rfl ?_
    refine mj_gets ("RiverChoice", "COSTS", 1) 3 rfl (by decide) gs_X8_334 ?_
    refine mj_alenR ("RiverChoice", "COSTS", 1) 4 rfl (by decide) ?_
    refine mj_icmp_ge 5 20 rfl (by decide) (fun q => ?_) (fun q => ?_)
    · have hf := (if_pos q).symm.trans hf
      refine mj_blk k_X8_ok 10 1 (pc' := 22) (l' := [(0, .int v0)]) (st' := [.int (100 : Int32)]) rfl ?_
      obtain rfl := Option.some.inj hf
      exact mj_end (some (.int (100 : Int32))) ⟨mj_dec tok_X8_costOf (a := 11) rfl, .int, rfl, rfl⟩ ⟨rfl, rfl⟩ (Nat.le_of_ble_eq_true rfl) (Nat.le_of_ble_eq_true rfl)
    · have hf := (if_neg q).symm.trans hf
      refine mj_gets ("RiverChoice", "COSTS", 1) 6 rfl (by decide) gs_X8_334 ?_
      refine mj_blk k_X8_ok 7 1 (pc' := 16) (l' := [(0, .int v0)]) (st' := [.int v0, .ref (1000 + 1)]) rfl ?_
      obtain ⟨x1, ex1, hf⟩ := mj_bd hf
      refine mj_ialdR ("RiverChoice", "COSTS", 1) 8 rfl (by decide) ex1 ?_
      refine mj_blk k_X8_ok 9 1 (pc' := 22) (l' := [(0, .int v0)]) (st' := [.int x1]) rfl ?_
      obtain rfl := Option.some.inj hf
      exact mj_end (some (.int x1)) ⟨mj_dec tok_X8_costOf (a := 11) rfl, .int, rfl, rfl⟩ ⟨rfl, rfl⟩ (Nat.le_of_ble_eq_true rfl) (Nat.le_of_ble_eq_true rfl)
def f_X0_pass_87 (v0 : Nat) (v2 : Int32) (h : mj_H) : Option (mj_H) := (mj_gI h v0 0 6).bind fun x1 => (f_X8_costOf v2 h).bind fun p2 => (mj_sV p2.2 v0 0 6 (.int (x1 - p2.1))).bind fun h3 => some h3
set_option maxHeartbeats 4000000 in
set_option maxRecDepth 100000 in
theorem w_X0_pass_87 (v0 : Nat) (v2 : Int32) (h : mj_H) (p : mj_H) (hf : f_X0_pass_87  v0 v2 h = some p) : mj_W mX0_pass (mj_FV p) 87 [(0, .ref v0), (2, .int v2)] [] h 0 0 := by
  unfold f_X0_pass_87 at hf
  refine mj_blk k_X0_ok 44 2 (pc' := 89) (l' := [(0, .ref v0), (2, .int v2)]) (st' := [.ref v0, .ref v0]) rfl ?_
  obtain ⟨x1, ex1, hf⟩ := mj_bd hf
  refine mj_get 46 rfl fl_X0_29 (mj_gI_V ex1) ?_
  refine mj_blk k_X0_ok 47 1 (pc' := 93) (l' := [(0, .ref v0), (2, .int v2)]) (st' := [.int v2, .int x1, .ref v0]) rfl ?_
  obtain ⟨p2, ep2, hf⟩ := mj_bd hf
  refine mj_callS mX8_costOf [.int v2] 48 rfl ll_X0_92 lb_X8_costOf li_X8_costOf ⟨Nat.le_of_ble_eq_true rfl, Nat.le_of_ble_eq_true rfl⟩ rfl (rest := [.int x1, .ref v0]) rfl (Nat.le_of_ble_eq_true rfl) ⟨Nat.le_of_ble_eq_true rfl, Nat.le_of_ble_eq_true rfl⟩ (c_X8_costOf v2 h p2 ep2) ?_
  show mj_W mX0_pass (mj_FV p) 96 [(0, .ref v0), (2, .int v2)] [.int p2.1, .int x1, .ref v0] p2.2 0 0
  refine mj_blk k_X0_ok 49 1 (pc' := 97) (l' := [(0, .ref v0), (2, .int v2)]) (st' := [.int (x1 - p2.1), .ref v0]) rfl ?_
  obtain ⟨h3, eh3, hf⟩ := mj_bd hf
  refine mj_put 50 rfl fp_X0_29 (fun _ => ⟨rfl, rfl⟩) eh3 ?_
  obtain rfl := Option.some.inj hf
  exact mj_end none ⟨mj_dec tok_X0_pass (a := 51) rfl, rfl⟩ ⟨rfl, rfl⟩ (Nat.le_of_ble_eq_true rfl) (Nat.le_of_ble_eq_true rfl)
def f_X0_pass_63 (K3 : Nat → Int32 → Int32 → Int32 → Int32 → mj_H → Option (mj_H)) (v0 : Nat) (v1 : Int32) (v2 : Int32) (v3 : Int32) (v4 : Int32) (h : mj_H) : Option (mj_H) := K3 v0 v1 v2 v3 (v4 + (1 : Int32)) h
set_option maxHeartbeats 4000000 in
set_option maxRecDepth 100000 in
theorem w_X0_pass_63 (K3 : Nat → Int32 → Int32 → Int32 → Int32 → mj_H → Option (mj_H)) (hK3 : ∀ (v0 : Nat) (v1 : Int32) (v2 : Int32) (v3 : Int32) (v4 : Int32)  (h : mj_H) (p : mj_H), K3 v0 v1 v2 v3 v4 h = some p → mj_W mX0_pass (mj_FV p) 3 [(0, .ref v0), (1, .int v1), (2, .int v2), (3, .int v3), (4, .int v4)] [] h 0 0) (v0 : Nat) (v1 : Int32) (v2 : Int32) (v3 : Int32) (v4 : Int32) (h : mj_H) (p : mj_H) (hf : f_X0_pass_63 K3 v0 v1 v2 v3 v4 h = some p) : mj_W mX0_pass (mj_FV p) 63 [(0, .ref v0), (1, .int v1), (2, .int v2), (3, .int v3), (4, .int v4)] [] h 0 0 := by
  unfold f_X0_pass_63 at hf
  refine mj_blk k_X0_ok 32 2 (pc' := 3) (l' := [(4, .int (v4 + (1 : Int32))), (0, .ref v0), (1, .int v1), (2, .int v2), (3, .int v3)]) (st' := []) rfl ?_
  refine mj_locs [1, 2, 3, 4, 0] (l' := [(0, .ref v0), (1, .int v1), (2, .int v2), (3, .int v3), (4, .int (v4 + (1 : Int32)))]) rfl ?_
  exact hK3 v0 v1 v2 v3 (v4 + (1 : Int32)) h _ hf
def f_X0_pass_28 (K3 : Nat → Int32 → Int32 → Int32 → Int32 → mj_H → Option (mj_H)) (v0 : Nat) (v1 : Int32) (v2 : Int32) (v3 : Int32) (v4 : Int32) (h : mj_H) : Option (mj_H) := (mj_gR h v0 0 3).bind fun x4 => (if mj_ob h x4 5 = true then (f_X5_load x4 v0 v4 h).bind fun p5 => (mj_gR p5 v0 0 3).bind fun x6 => (if mj_ob p5 v0 0 = true then (f_X0_knows v0 v4 p5).bind fun p7 => (if mj_ob p7.2 x6 5 = true then (f_X5_weigh x6 v2 v3 p7.1 p7.2).bind fun p8 => (mj_gR p8 v0 0 3).bind fun x9 => (if mj_ob p8 x9 5 = true then (f_X5_store x9 v0 v4 p8).bind fun p10 => f_X0_pass_63 K3 v0 v1 v2 v3 v4 p10 else none) else none) else none) else none)
set_option maxHeartbeats 4000000 in
set_option maxRecDepth 100000 in
theorem w_X0_pass_28 (K3 : Nat → Int32 → Int32 → Int32 → Int32 → mj_H → Option (mj_H)) (hK3 : ∀ (v0 : Nat) (v1 : Int32) (v2 : Int32) (v3 : Int32) (v4 : Int32)  (h : mj_H) (p : mj_H), K3 v0 v1 v2 v3 v4 h = some p → mj_W mX0_pass (mj_FV p) 3 [(0, .ref v0), (1, .int v1), (2, .int v2), (3, .int v3), (4, .int v4)] [] h 0 0) (v0 : Nat) (v1 : Int32) (v2 : Int32) (v3 : Int32) (v4 : Int32) (h : mj_H) (p : mj_H) (hf : f_X0_pass_28 K3 v0 v1 v2 v3 v4 h = some p) : mj_W mX0_pass (mj_FV p) 28 [(0, .ref v0), (1, .int v1), (2, .int v2), (3, .int v3), (4, .int v4)] [] h 0 0 := by
  unfold f_X0_pass_28 at hf
  refine mj_blk k_X0_ok 14 1 (pc' := 29) (l' := [(0, .ref v0), (1, .int v1), (2, .int v2), (3, .int v3), (4, .int v4)]) (st' := [.ref v0]) rfl ?_
  obtain ⟨x4, ex4, hf⟩ := mj_bd hf
  refine mj_get 15 rfl fl_X0_25 (mj_gR_V ex4) ?_
  refine mj_blk k_X0_ok 16 2 (pc' := 35) (l' := [(0, .ref v0), (1, .int v1), (2, .int v2), (3, .int v3), (4, .int v4)]) (st' := [.int v4, .ref v0, .ref x4]) rfl ?_
  obtain ⟨gp5, hf⟩ := mj_gd hf
  obtain ⟨p5, ep5, hf⟩ := mj_bd hf
  refine mj_callV (T := TX5) (N := 1) (ci := 5) mX5_load [.ref v0, .int v4] 18 rfl ll_X0_74 lb_X5_load li_X5_load ⟨Nat.le_of_ble_eq_true rfl, Nat.le_of_ble_eq_true rfl⟩ rfl gp5 rfl (rest := []) rfl (Nat.le_of_ble_eq_true rfl) ⟨Nat.le_of_ble_eq_true rfl, Nat.le_of_ble_eq_true rfl⟩ (c_X5_load x4 v0 v4 h p5 ep5) ?_
  show mj_W mX0_pass (mj_FV p) 38 [(0, .ref v0), (1, .int v1), (2, .int v2), (3, .int v3), (4, .int v4)] [] p5 0 0
  refine mj_blk k_X0_ok 19 1 (pc' := 39) (l' := [(0, .ref v0), (1, .int v1), (2, .int v2), (3, .int v3), (4, .int v4)]) (st' := [.ref v0]) rfl ?_
  obtain ⟨x6, ex6, hf⟩ := mj_bd hf
  refine mj_get 20 rfl fl_X0_25 (mj_gR_V ex6) ?_
  refine mj_blk k_X0_ok 21 4 (pc' := 47) (l' := [(0, .ref v0), (1, .int v1), (2, .int v2), (3, .int v3), (4, .int v4)]) (st' := [.int v4, .ref v0, .int v3, .int v2, .ref x6]) rfl ?_
  obtain ⟨gp7, hf⟩ := mj_gd hf
  obtain ⟨p7, ep7, hf⟩ := mj_bd hf
  refine mj_callV (T := TX0) (N := 7) (ci := 0) mX0_knows [.int v4] 25 rfl ll_X0_55 lb_X0_knows li_X0_knows ⟨Nat.le_of_ble_eq_true rfl, Nat.le_of_ble_eq_true rfl⟩ rfl gp7 rfl (rest := [.int v3, .int v2, .ref x6]) rfl (Nat.le_of_ble_eq_true rfl) ⟨Nat.le_of_ble_eq_true rfl, Nat.le_of_ble_eq_true rfl⟩ (c_X0_knows v0 v4 p5 p7 ep7) ?_
  show mj_W mX0_pass (mj_FV p) 50 [(0, .ref v0), (1, .int v1), (2, .int v2), (3, .int v3), (4, .int v4)] [.int p7.1, .int v3, .int v2, .ref x6] p7.2 0 0
  obtain ⟨gp8, hf⟩ := mj_gd hf
  obtain ⟨p8, ep8, hf⟩ := mj_bd hf
  refine mj_callV (T := TX5) (N := 1) (ci := 5) mX5_weigh [.int v2, .int v3, .int p7.1] 26 rfl ll_X0_82 lb_X5_weigh li_X5_weigh ⟨Nat.le_of_ble_eq_true rfl, Nat.le_of_ble_eq_true rfl⟩ rfl gp8 rfl (rest := []) rfl (Nat.le_of_ble_eq_true rfl) ⟨Nat.le_of_ble_eq_true rfl, Nat.le_of_ble_eq_true rfl⟩ (c_X5_weigh x6 v2 v3 p7.1 p7.2 p8 ep8) ?_
  show mj_W mX0_pass (mj_FV p) 53 [(0, .ref v0), (1, .int v1), (2, .int v2), (3, .int v3), (4, .int v4)] [] p8 0 0
  refine mj_blk k_X0_ok 27 1 (pc' := 54) (l' := [(0, .ref v0), (1, .int v1), (2, .int v2), (3, .int v3), (4, .int v4)]) (st' := [.ref v0]) rfl ?_
  obtain ⟨x9, ex9, hf⟩ := mj_bd hf
  refine mj_get 28 rfl fl_X0_25 (mj_gR_V ex9) ?_
  refine mj_blk k_X0_ok 29 2 (pc' := 60) (l' := [(0, .ref v0), (1, .int v1), (2, .int v2), (3, .int v3), (4, .int v4)]) (st' := [.int v4, .ref v0, .ref x9]) rfl ?_
  obtain ⟨gp10, hf⟩ := mj_gd hf
  obtain ⟨p10, ep10, hf⟩ := mj_bd hf
  refine mj_callV (T := TX5) (N := 1) (ci := 5) mX5_store [.ref v0, .int v4] 31 rfl ll_X0_86 lb_X5_store li_X5_store ⟨Nat.le_of_ble_eq_true rfl, Nat.le_of_ble_eq_true rfl⟩ rfl gp10 rfl (rest := []) rfl (Nat.le_of_ble_eq_true rfl) ⟨Nat.le_of_ble_eq_true rfl, Nat.le_of_ble_eq_true rfl⟩ (c_X5_store x9 v0 v4 p8 p10 ep10) ?_
  show mj_W mX0_pass (mj_FV p) 63 [(0, .ref v0), (1, .int v1), (2, .int v2), (3, .int v3), (4, .int v4)] [] p10 0 0
  exact w_X0_pass_63 K3 hK3 v0 v1 v2 v3 v4 p10 _ hf
def b_X0_pass_3 (K3 : Nat → Int32 → Int32 → Int32 → Int32 → mj_H → Option (mj_H)) (v0 : Nat) (v1 : Int32) (v2 : Int32) (v3 : Int32) (v4 : Int32) (h : mj_H) : Option (mj_H) := (mj_gI h v0 0 4).bind fun x11 => (if x11 ≤ v4 then (if v2 = 0 then (mj_gI h v0 0 5).bind fun x12 => (if mj_ob h v0 0 = true then (f_X0_besides v0 v1 h).bind fun p13 => (mj_sV p13.2 v0 0 5 (.int (x12 ||| p13.1))).bind fun h14 => f_X0_pass_87 v0 v2 h14 else none) else f_X0_pass_87 v0 v2 h) else (if v4 = v1 then f_X0_pass_28 K3 v0 v1 v2 v3 v4 h else (if mj_ob h v0 0 = true then (f_X0_areBrothers v0 v4 v1 h).bind fun p15 => (if p15.1 = 0 then f_X0_pass_63 K3 v0 v1 v2 v3 v4 p15.2 else f_X0_pass_28 K3 v0 v1 v2 v3 v4 p15.2) else none)))
set_option maxHeartbeats 4000000 in
set_option maxRecDepth 100000 in
theorem wb_X0_pass_3 (K3 : Nat → Int32 → Int32 → Int32 → Int32 → mj_H → Option (mj_H)) (hK3 : ∀ (v0 : Nat) (v1 : Int32) (v2 : Int32) (v3 : Int32) (v4 : Int32)  (h : mj_H) (p : mj_H), K3 v0 v1 v2 v3 v4 h = some p → mj_W mX0_pass (mj_FV p) 3 [(0, .ref v0), (1, .int v1), (2, .int v2), (3, .int v3), (4, .int v4)] [] h 0 0) (v0 : Nat) (v1 : Int32) (v2 : Int32) (v3 : Int32) (v4 : Int32) (h : mj_H) (p : mj_H) (hf : b_X0_pass_3  K3 v0 v1 v2 v3 v4 h = some p) : mj_W mX0_pass (mj_FV p) 3 [(0, .ref v0), (1, .int v1), (2, .int v2), (3, .int v3), (4, .int v4)] [] h 0 0 := by
  unfold b_X0_pass_3 at hf
  refine mj_blk k_X0_ok 2 2 (pc' := 6) (l' := [(0, .ref v0), (1, .int v1), (2, .int v2), (3, .int v3), (4, .int v4)]) (st' := [.ref v0, .int v4]) rfl ?_
  obtain ⟨x11, ex11, hf⟩ := mj_bd hf
  refine mj_get 4 rfl fl_X0_33 (mj_gI_V ex11) ?_
  refine mj_icmp_ge 5 69 rfl (by decide) (fun q => ?_) (fun q => ?_)
  · have hf := (if_pos q).symm.trans hf
    refine mj_blk k_X0_ok 34 1 (pc' := 70) (l' := [(0, .ref v0), (1, .int v1), (2, .int v2), (3, .int v3), (4, .int v4)]) (st' := [.int v2]) rfl ?_
    refine mj_if_ne 35 87 rfl (by decide) (fun q => ?_) (fun q => ?_)
    · have hf := (if_neg q).symm.trans hf
      refine mj_locs [0, 2] (l' := [(0, .ref v0), (2, .int v2)]) rfl ?_
      exact w_X0_pass_87 v0 v2 h _ hf
    · have hf := (if_pos q).symm.trans hf
      refine mj_blk k_X0_ok 36 2 (pc' := 75) (l' := [(0, .ref v0), (1, .int v1), (2, .int v2), (3, .int v3), (4, .int v4)]) (st' := [.ref v0, .ref v0]) rfl ?_
      obtain ⟨x12, ex12, hf⟩ := mj_bd hf
      refine mj_get 38 rfl fl_X0_36 (mj_gI_V ex12) ?_
      refine mj_blk k_X0_ok 39 2 (pc' := 80) (l' := [(0, .ref v0), (1, .int v1), (2, .int v2), (3, .int v3), (4, .int v4)]) (st' := [.int v1, .ref v0, .int x12, .ref v0]) rfl ?_
      obtain ⟨gp13, hf⟩ := mj_gd hf
      obtain ⟨p13, ep13, hf⟩ := mj_bd hf
      refine mj_callV (T := TX0) (N := 7) (ci := 0) mX0_besides [.int v1] 41 rfl ll_X0_89 lb_X0_besides li_X0_besides ⟨Nat.le_of_ble_eq_true rfl, Nat.le_of_ble_eq_true rfl⟩ rfl gp13 rfl (rest := [.int x12, .ref v0]) rfl (Nat.le_of_ble_eq_true rfl) ⟨Nat.le_of_ble_eq_true rfl, Nat.le_of_ble_eq_true rfl⟩ (c_X0_besides v0 v1 h p13 ep13) ?_
      show mj_W mX0_pass (mj_FV p) 83 [(0, .ref v0), (1, .int v1), (2, .int v2), (3, .int v3), (4, .int v4)] [.int p13.1, .int x12, .ref v0] p13.2 0 0
      refine mj_blk k_X0_ok 42 1 (pc' := 84) (l' := [(0, .ref v0), (1, .int v1), (2, .int v2), (3, .int v3), (4, .int v4)]) (st' := [.int (x12 ||| p13.1), .ref v0]) rfl ?_
      obtain ⟨h14, eh14, hf⟩ := mj_bd hf
      refine mj_put 43 rfl fp_X0_36 (fun _ => ⟨rfl, rfl⟩) eh14 ?_
      refine mj_locs [0, 2] (l' := [(0, .ref v0), (2, .int v2)]) rfl ?_
      exact w_X0_pass_87 v0 v2 h14 _ hf
  · have hf := (if_neg q).symm.trans hf
    refine mj_blk k_X0_ok 6 2 (pc' := 15) (l' := [(0, .ref v0), (1, .int v1), (2, .int v2), (3, .int v3), (4, .int v4)]) (st' := [.int v1, .int v4]) rfl ?_
    refine mj_icmp_eq 8 28 rfl (by decide) (fun q => ?_) (fun q => ?_)
    · have hf := (if_pos q).symm.trans hf
      exact w_X0_pass_28 K3 hK3 v0 v1 v2 v3 v4 h _ hf
    · have hf := (if_neg q).symm.trans hf
      refine mj_blk k_X0_ok 9 3 (pc' := 22) (l' := [(0, .ref v0), (1, .int v1), (2, .int v2), (3, .int v3), (4, .int v4)]) (st' := [.int v1, .int v4, .ref v0]) rfl ?_
      obtain ⟨gp15, hf⟩ := mj_gd hf
      obtain ⟨p15, ep15, hf⟩ := mj_bd hf
      refine mj_callV (T := TX0) (N := 7) (ci := 0) mX0_areBrothers [.int v4, .int v1] 12 rfl ll_X0_51 lb_X0_areBrothers li_X0_areBrothers ⟨Nat.le_of_ble_eq_true rfl, Nat.le_of_ble_eq_true rfl⟩ rfl gp15 rfl (rest := []) rfl (Nat.le_of_ble_eq_true rfl) ⟨Nat.le_of_ble_eq_true rfl, Nat.le_of_ble_eq_true rfl⟩ (c_X0_areBrothers v0 v4 v1 h p15 ep15) ?_
      show mj_W mX0_pass (mj_FV p) 25 [(0, .ref v0), (1, .int v1), (2, .int v2), (3, .int v3), (4, .int v4)] [.int p15.1] p15.2 0 0
      refine mj_if_eq 13 63 rfl (by decide) (fun q => ?_) (fun q => ?_)
      · have hf := (if_pos q).symm.trans hf
        exact w_X0_pass_63 K3 hK3 v0 v1 v2 v3 v4 p15.2 _ hf
      · have hf := (if_neg q).symm.trans hf
        exact w_X0_pass_28 K3 hK3 v0 v1 v2 v3 v4 p15.2 _ hf
def f_X0_pass_3 (v0 : Nat) (v1 : Int32) (v2 : Int32) (v3 : Int32) (v4 : Int32) (h : mj_H) : Option (mj_H) := mj_fix (fun (K3 : (Nat × Int32 × Int32 × Int32 × Int32 × mj_H) → Option (mj_H)) (s : Nat × Int32 × Int32 × Int32 × Int32 × mj_H) => b_X0_pass_3  (fun v0 v1 v2 v3 v4 h => K3 (v0, v1, v2, v3, v4, h)) s.1 s.2.1 s.2.2.1 s.2.2.2.1 s.2.2.2.2.1 s.2.2.2.2.2) 1000 (v0, v1, v2, v3, v4, h)
set_option maxHeartbeats 4000000 in
set_option maxRecDepth 100000 in
theorem w_X0_pass_3 (v0 : Nat) (v1 : Int32) (v2 : Int32) (v3 : Int32) (v4 : Int32) (h : mj_H) (p : mj_H) (hf : f_X0_pass_3  v0 v1 v2 v3 v4 h = some p) : mj_W mX0_pass (mj_FV p) 3 [(0, .ref v0), (1, .int v1), (2, .int v2), (3, .int v3), (4, .int v4)] [] h 0 0 := by
  unfold f_X0_pass_3 at hf
  exact mj_fix_ind (F := (fun (K3 : (Nat × Int32 × Int32 × Int32 × Int32 × mj_H) → Option (mj_H)) (s : Nat × Int32 × Int32 × Int32 × Int32 × mj_H) => b_X0_pass_3  (fun v0 v1 v2 v3 v4 h => K3 (v0, v1, v2, v3, v4, h)) s.1 s.2.1 s.2.2.1 s.2.2.2.1 s.2.2.2.2.1 s.2.2.2.2.2)) (P := fun s p => mj_W mX0_pass (mj_FV p) 3 [(0, .ref s.1), (1, .int s.2.1), (2, .int s.2.2.1), (3, .int s.2.2.2.1), (4, .int s.2.2.2.2.1)] [] s.2.2.2.2.2 0 0) (fun K3 hK3 s p hf => wb_X0_pass_3   (fun v0 v1 v2 v3 v4 h => K3 (v0, v1, v2, v3, v4, h)) (fun v0 v1 v2 v3 v4 h p e => hK3 (v0, v1, v2, v3, v4, h) p e) s.1 s.2.1 s.2.2.1 s.2.2.2.1 s.2.2.2.2.1 s.2.2.2.2.2 p hf) 1000 (v0, v1, v2, v3, v4, h) p hf
def f_X0_pass (v0 : Nat) (v1 : Int32) (v2 : Int32) (v3 : Int32) (h : mj_H) : Option (mj_H) := f_X0_pass_3 v0 v1 v2 v3 (0 : Int32) h
set_option maxHeartbeats 4000000 in
set_option maxRecDepth 100000 in
theorem c_X0_pass (v0 : Nat) (v1 : Int32) (v2 : Int32) (v3 : Int32) (h : mj_H) (p : mj_H) (hf : f_X0_pass v0 v1 v2 v3 h = some p) : mj_Met mX0_pass [.ref v0, .int v1, .int v2, .int v3] h none p := by
  refine mj_met pl_X0 tok_X0_pass (Nat.le_of_ble_eq_true rfl) ?_
  show mj_W mX0_pass (mj_FV p) 0 [(0, .ref v0), (1, .int v1), (2, .int v2), (3, .int v3)] [] h 0 0
  unfold f_X0_pass at hf
  refine mj_blk k_X0_ok 0 2 (pc' := 3) (l' := [(4, .int (0 : Int32)), (0, .ref v0), (1, .int v1), (2, .int v2), (3, .int v3)]) (st' := []) rfl ?_
  refine mj_locs [1, 2, 3, 4, 0] (l' := [(0, .ref v0), (1, .int v1), (2, .int v2), (3, .int v3), (4, .int (0 : Int32))]) rfl ?_
  exact w_X0_pass_3 v0 v1 v2 v3 (0 : Int32) h _ hf
def f_X0_wearers_49 (K5 : Nat → Int32 → Int32 → Int32 → Int32 → mj_H → Option (Int32 × mj_H)) (v0 : Nat) (v1 : Int32) (v2 : Int32) (v3 : Int32) (v4 : Int32) (h : mj_H) : Option (Int32 × mj_H) := K5 v0 v1 v2 v3 (v4 + (1 : Int32)) h
set_option maxHeartbeats 4000000 in
set_option maxRecDepth 100000 in
theorem w_X0_wearers_49 (K5 : Nat → Int32 → Int32 → Int32 → Int32 → mj_H → Option (Int32 × mj_H)) (hK5 : ∀ (v0 : Nat) (v1 : Int32) (v2 : Int32) (v3 : Int32) (v4 : Int32)  (h : mj_H) (p : Int32 × mj_H), K5 v0 v1 v2 v3 v4 h = some p → mj_W mX0_wearers (mj_FI p) 5 [(0, .ref v0), (1, .int v1), (2, .int v2), (3, .int v3), (4, .int v4)] [] h 0 0) (v0 : Nat) (v1 : Int32) (v2 : Int32) (v3 : Int32) (v4 : Int32) (h : mj_H) (p : Int32 × mj_H) (hf : f_X0_wearers_49 K5 v0 v1 v2 v3 v4 h = some p) : mj_W mX0_wearers (mj_FI p) 49 [(0, .ref v0), (1, .int v1), (2, .int v2), (3, .int v3), (4, .int v4)] [] h 0 0 := by
  unfold f_X0_wearers_49 at hf
  refine mj_blk k_X0_ok 28 2 (pc' := 5) (l' := [(4, .int (v4 + (1 : Int32))), (0, .ref v0), (1, .int v1), (2, .int v2), (3, .int v3)]) (st' := []) rfl ?_
  refine mj_locs [1, 2, 3, 4, 0] (l' := [(0, .ref v0), (1, .int v1), (2, .int v2), (3, .int v3), (4, .int (v4 + (1 : Int32)))]) rfl ?_
  exact hK5 v0 v1 v2 v3 (v4 + (1 : Int32)) h _ hf
def f_X0_wearers_42 (K5 : Nat → Int32 → Int32 → Int32 → Int32 → mj_H → Option (Int32 × mj_H)) (v0 : Nat) (v1 : Int32) (v2 : Int32) (v3 : Int32) (v4 : Int32) (h : mj_H) : Option (Int32 × mj_H) := f_X0_wearers_49 K5 v0 v1 v2 (v3 ||| ((1 : Int32) <<< (v4 &&& 31))) v4 h
set_option maxHeartbeats 4000000 in
set_option maxRecDepth 100000 in
theorem w_X0_wearers_42 (K5 : Nat → Int32 → Int32 → Int32 → Int32 → mj_H → Option (Int32 × mj_H)) (hK5 : ∀ (v0 : Nat) (v1 : Int32) (v2 : Int32) (v3 : Int32) (v4 : Int32)  (h : mj_H) (p : Int32 × mj_H), K5 v0 v1 v2 v3 v4 h = some p → mj_W mX0_wearers (mj_FI p) 5 [(0, .ref v0), (1, .int v1), (2, .int v2), (3, .int v3), (4, .int v4)] [] h 0 0) (v0 : Nat) (v1 : Int32) (v2 : Int32) (v3 : Int32) (v4 : Int32) (h : mj_H) (p : Int32 × mj_H) (hf : f_X0_wearers_42 K5 v0 v1 v2 v3 v4 h = some p) : mj_W mX0_wearers (mj_FI p) 42 [(0, .ref v0), (1, .int v1), (2, .int v2), (3, .int v3), (4, .int v4)] [] h 0 0 := by
  unfold f_X0_wearers_42 at hf
  refine mj_blk k_X0_ok 22 6 (pc' := 49) (l' := [(3, .int (v3 ||| ((1 : Int32) <<< (v4 &&& 31)))), (0, .ref v0), (1, .int v1), (2, .int v2), (4, .int v4)]) (st' := []) rfl ?_
  refine mj_locs [1, 2, 3, 0, 4] (l' := [(0, .ref v0), (1, .int v1), (2, .int v2), (3, .int (v3 ||| ((1 : Int32) <<< (v4 &&& 31)))), (4, .int v4)]) rfl ?_
  exact w_X0_wearers_49 K5 hK5 v0 v1 v2 (v3 ||| ((1 : Int32) <<< (v4 &&& 31))) v4 h _ hf
def b_X0_wearers_5 (K5 : Nat → Int32 → Int32 → Int32 → Int32 → mj_H → Option (Int32 × mj_H)) (v0 : Nat) (v1 : Int32) (v2 : Int32) (v3 : Int32) (v4 : Int32) (h : mj_H) : Option (Int32 × mj_H) := (mj_gI h v0 0 4).bind fun x1 => (if x1 ≤ v4 then some (v3, h) else (if mj_ob h v0 0 = true then (f_X0_signsOf v0 v4 h).bind fun p2 => (if v2 = 0 then (if (p2.1 &&& v1) = 0 then f_X0_wearers_49 K5 v0 v1 v2 v3 v4 p2.2 else f_X0_wearers_42 K5 v0 v1 v2 v3 v4 p2.2) else (if (p2.1 &&& v1) = v1 then f_X0_wearers_42 K5 v0 v1 v2 v3 v4 p2.2 else f_X0_wearers_49 K5 v0 v1 v2 v3 v4 p2.2)) else none))
set_option maxHeartbeats 4000000 in
set_option maxRecDepth 100000 in
theorem wb_X0_wearers_5 (K5 : Nat → Int32 → Int32 → Int32 → Int32 → mj_H → Option (Int32 × mj_H)) (hK5 : ∀ (v0 : Nat) (v1 : Int32) (v2 : Int32) (v3 : Int32) (v4 : Int32)  (h : mj_H) (p : Int32 × mj_H), K5 v0 v1 v2 v3 v4 h = some p → mj_W mX0_wearers (mj_FI p) 5 [(0, .ref v0), (1, .int v1), (2, .int v2), (3, .int v3), (4, .int v4)] [] h 0 0) (v0 : Nat) (v1 : Int32) (v2 : Int32) (v3 : Int32) (v4 : Int32) (h : mj_H) (p : Int32 × mj_H) (hf : b_X0_wearers_5  K5 v0 v1 v2 v3 v4 h = some p) : mj_W mX0_wearers (mj_FI p) 5 [(0, .ref v0), (1, .int v1), (2, .int v2), (3, .int v3), (4, .int v4)] [] h 0 0 := by
  unfold b_X0_wearers_5 at hf
  refine mj_blk k_X0_ok 4 2 (pc' := 8) (l' := [(0, .ref v0), (1, .int v1), (2, .int v2), (3, .int v3), (4, .int v4)]) (st' := [.ref v0, .int v4]) rfl ?_
  obtain ⟨x1, ex1, hf⟩ := mj_bd hf
  refine mj_get 6 rfl fl_X0_33 (mj_gI_V ex1) ?_
  refine mj_icmp_ge 7 55 rfl (by decide) (fun q => ?_) (fun q => ?_)
  · have hf := (if_pos q).symm.trans hf
    refine mj_blk k_X0_ok 30 1 (pc' := 56) (l' := [(0, .ref v0), (1, .int v1), (2, .int v2), (3, .int v3), (4, .int v4)]) (st' := [.int v3]) rfl ?_
    obtain rfl := Option.some.inj hf
    exact mj_end (some (.int v3)) ⟨mj_dec tok_X0_wearers (a := 31) rfl, .int, rfl, rfl⟩ ⟨rfl, rfl⟩ (Nat.le_of_ble_eq_true rfl) (Nat.le_of_ble_eq_true rfl)
  · have hf := (if_neg q).symm.trans hf
    refine mj_blk k_X0_ok 8 2 (pc' := 17) (l' := [(0, .ref v0), (1, .int v1), (2, .int v2), (3, .int v3), (4, .int v4)]) (st' := [.int v4, .ref v0]) rfl ?_
    obtain ⟨gp2, hf⟩ := mj_gd hf
    obtain ⟨p2, ep2, hf⟩ := mj_bd hf
    refine mj_callV (T := TX0) (N := 7) (ci := 0) mX0_signsOf [.int v4] 10 rfl ll_X0_95 lb_X0_signsOf li_X0_signsOf ⟨Nat.le_of_ble_eq_true rfl, Nat.le_of_ble_eq_true rfl⟩ rfl gp2 rfl (rest := []) rfl (Nat.le_of_ble_eq_true rfl) ⟨Nat.le_of_ble_eq_true rfl, Nat.le_of_ble_eq_true rfl⟩ (c_X0_signsOf v0 v4 h p2 ep2) ?_
    show mj_W mX0_wearers (mj_FI p) 20 [(0, .ref v0), (1, .int v1), (2, .int v2), (3, .int v3), (4, .int v4)] [.int p2.1] p2.2 0 0
    refine mj_blk k_X0_ok 11 4 (pc' := 25) (l' := [(5, .int (p2.1 &&& v1)), (0, .ref v0), (1, .int v1), (2, .int v2), (3, .int v3), (4, .int v4)]) (st' := [.int v2]) rfl ?_
    refine mj_if_eq 15 37 rfl (by decide) (fun q => ?_) (fun q => ?_)
    · have hf := (if_pos q).symm.trans hf
      refine mj_blk k_X0_ok 20 1 (pc' := 39) (l' := [(5, .int (p2.1 &&& v1)), (0, .ref v0), (1, .int v1), (2, .int v2), (3, .int v3), (4, .int v4)]) (st' := [.int (p2.1 &&& v1)]) rfl ?_
      refine mj_if_eq 21 49 rfl (by decide) (fun q => ?_) (fun q => ?_)
      · have hf := (if_pos q).symm.trans hf
        refine mj_locs [1, 2, 3, 4, 5] (l' := [(0, .ref v0), (1, .int v1), (2, .int v2), (3, .int v3), (4, .int v4)]) rfl ?_
        exact w_X0_wearers_49 K5 hK5 v0 v1 v2 v3 v4 p2.2 _ hf
      · have hf := (if_neg q).symm.trans hf
        refine mj_locs [1, 2, 3, 4, 5] (l' := [(0, .ref v0), (1, .int v1), (2, .int v2), (3, .int v3), (4, .int v4)]) rfl ?_
        exact w_X0_wearers_42 K5 hK5 v0 v1 v2 v3 v4 p2.2 _ hf
    · have hf := (if_neg q).symm.trans hf
      refine mj_blk k_X0_ok 16 2 (pc' := 31) (l' := [(5, .int (p2.1 &&& v1)), (0, .ref v0), (1, .int v1), (2, .int v2), (3, .int v3), (4, .int v4)]) (st' := [.int v1, .int (p2.1 &&& v1)]) rfl ?_
      refine mj_icmp_ne 18 49 rfl (by decide) (fun q => ?_) (fun q => ?_)
      · have hf := (if_neg q).symm.trans hf
        refine mj_locs [1, 2, 3, 4, 5] (l' := [(0, .ref v0), (1, .int v1), (2, .int v2), (3, .int v3), (4, .int v4)]) rfl ?_
        exact w_X0_wearers_49 K5 hK5 v0 v1 v2 v3 v4 p2.2 _ hf
      · have hf := (if_pos q).symm.trans hf
        refine mj_blk k_X0_ok 19 1 (pc' := 42) (l' := [(5, .int (p2.1 &&& v1)), (0, .ref v0), (1, .int v1), (2, .int v2), (3, .int v3), (4, .int v4)]) (st' := []) rfl ?_
        refine mj_locs [1, 2, 3, 4, 5] (l' := [(0, .ref v0), (1, .int v1), (2, .int v2), (3, .int v3), (4, .int v4)]) rfl ?_
        exact w_X0_wearers_42 K5 hK5 v0 v1 v2 v3 v4 p2.2 _ hf
def f_X0_wearers_5 (v0 : Nat) (v1 : Int32) (v2 : Int32) (v3 : Int32) (v4 : Int32) (h : mj_H) : Option (Int32 × mj_H) := mj_fix (fun (K5 : (Nat × Int32 × Int32 × Int32 × Int32 × mj_H) → Option (Int32 × mj_H)) (s : Nat × Int32 × Int32 × Int32 × Int32 × mj_H) => b_X0_wearers_5  (fun v0 v1 v2 v3 v4 h => K5 (v0, v1, v2, v3, v4, h)) s.1 s.2.1 s.2.2.1 s.2.2.2.1 s.2.2.2.2.1 s.2.2.2.2.2) 1000 (v0, v1, v2, v3, v4, h)
set_option maxHeartbeats 4000000 in
set_option maxRecDepth 100000 in
theorem w_X0_wearers_5 (v0 : Nat) (v1 : Int32) (v2 : Int32) (v3 : Int32) (v4 : Int32) (h : mj_H) (p : Int32 × mj_H) (hf : f_X0_wearers_5  v0 v1 v2 v3 v4 h = some p) : mj_W mX0_wearers (mj_FI p) 5 [(0, .ref v0), (1, .int v1), (2, .int v2), (3, .int v3), (4, .int v4)] [] h 0 0 := by
  unfold f_X0_wearers_5 at hf
  exact mj_fix_ind (F := (fun (K5 : (Nat × Int32 × Int32 × Int32 × Int32 × mj_H) → Option (Int32 × mj_H)) (s : Nat × Int32 × Int32 × Int32 × Int32 × mj_H) => b_X0_wearers_5  (fun v0 v1 v2 v3 v4 h => K5 (v0, v1, v2, v3, v4, h)) s.1 s.2.1 s.2.2.1 s.2.2.2.1 s.2.2.2.2.1 s.2.2.2.2.2)) (P := fun s p => mj_W mX0_wearers (mj_FI p) 5 [(0, .ref s.1), (1, .int s.2.1), (2, .int s.2.2.1), (3, .int s.2.2.2.1), (4, .int s.2.2.2.2.1)] [] s.2.2.2.2.2 0 0) (fun K5 hK5 s p hf => wb_X0_wearers_5   (fun v0 v1 v2 v3 v4 h => K5 (v0, v1, v2, v3, v4, h)) (fun v0 v1 v2 v3 v4 h p e => hK5 (v0, v1, v2, v3, v4, h) p e) s.1 s.2.1 s.2.2.1 s.2.2.2.1 s.2.2.2.2.1 s.2.2.2.2.2 p hf) 1000 (v0, v1, v2, v3, v4, h) p hf
def f_X0_wearers (v0 : Nat) (v1 : Int32) (v2 : Int32) (h : mj_H) : Option (Int32 × mj_H) := f_X0_wearers_5 v0 v1 v2 (0 : Int32) (0 : Int32) h
set_option maxHeartbeats 4000000 in
set_option maxRecDepth 100000 in
theorem c_X0_wearers (v0 : Nat) (v1 : Int32) (v2 : Int32) (h : mj_H) (p : Int32 × mj_H) (hf : f_X0_wearers v0 v1 v2 h = some p) : mj_Met mX0_wearers [.ref v0, .int v1, .int v2] h (some (.int p.1)) p.2 := by
  refine mj_met pl_X0 tok_X0_wearers (Nat.le_of_ble_eq_true rfl) ?_
  show mj_W mX0_wearers (mj_FI p) 0 [(0, .ref v0), (1, .int v1), (2, .int v2)] [] h 0 0
  unfold f_X0_wearers at hf
  refine mj_blk k_X0_ok 0 4 (pc' := 5) (l' := [(4, .int (0 : Int32)), (3, .int (0 : Int32)), (0, .ref v0), (1, .int v1), (2, .int v2)]) (st' := []) rfl ?_
  refine mj_locs [2, 3, 4, 1, 0] (l' := [(0, .ref v0), (1, .int v1), (2, .int v2), (3, .int (0 : Int32)), (4, .int (0 : Int32))]) rfl ?_
  exact w_X0_wearers_5 v0 v1 v2 (0 : Int32) (0 : Int32) h _ hf
def f_X0_become (v0 : Nat) (v1 : Nat) (h : mj_H) : Option (mj_H) := (mj_gR h v1 0 0).bind fun x1 => (mj_gR h v0 0 0).bind fun x2 => (mj_cpJ h x1 (0 : Int32) x2 (0 : Int32) (36 : Int32)).bind fun h3 => (mj_gR h3 v1 0 1).bind fun x4 => (mj_gR h3 v0 0 1).bind fun x5 => (mj_cpI h3 x4 (0 : Int32) x5 (0 : Int32) (6 : Int32)).bind fun h6 => (mj_gR h6 v1 0 2).bind fun x7 => (mj_gR h6 v0 0 2).bind fun x8 => (mj_cpI h6 x7 (0 : Int32) x8 (0 : Int32) (6 : Int32)).bind fun h9 => (mj_gI h9 v1 0 4).bind fun x10 => (mj_sV h9 v0 0 4 (.int x10)).bind fun h11 => (mj_gI h11 v1 0 5).bind fun x12 => (mj_sV h11 v0 0 5 (.int x12)).bind fun h13 => (mj_gI h13 v1 0 6).bind fun x14 => (mj_sV h13 v0 0 6 (.int x14)).bind fun h15 => some h15
set_option maxHeartbeats 4000000 in
set_option maxRecDepth 100000 in
theorem c_X0_become (v0 : Nat) (v1 : Nat) (h : mj_H) (p : mj_H) (hf : f_X0_become v0 v1 h = some p) : mj_Met mX0_become [.ref v0, .ref v1] h none p := by
  refine mj_met pl_X0 tok_X0_become (Nat.le_of_ble_eq_true rfl) ?_
  show mj_W mX0_become (mj_FV p) 0 [(0, .ref v0), (1, .ref v1)] [] h 0 0
  unfold f_X0_become at hf
  refine mj_blk k_X0_ok 0 1 (pc' := 1) (l' := [(0, .ref v0), (1, .ref v1)]) (st' := [.ref v1]) rfl ?_
  refine mj_ifnonnull 1 5 rfl (by decide) ?_
  refine mj_blk k_X0_ok 3 1 (pc' := 6) (l' := [(0, .ref v0), (1, .ref v1)]) (st' := [.ref v1]) rfl ?_
  obtain ⟨x1, ex1, hf⟩ := mj_bd hf
  refine mj_get 4 rfl fl_X0_9 (mj_gR_V ex1) ?_
  refine mj_blk k_X0_ok 5 2 (pc' := 11) (l' := [(0, .ref v0), (1, .ref v1)]) (st' := [.ref v0, .int (0 : Int32), .ref x1]) rfl ?_
  obtain ⟨x2, ex2, hf⟩ := mj_bd hf
  refine mj_get 7 rfl fl_X0_9 (mj_gR_V ex2) ?_
  refine mj_blk k_X0_ok 8 2 (pc' := 17) (l' := [(0, .ref v0), (1, .ref v1)]) (st' := [.int (36 : Int32), .int (0 : Int32), .ref x2, .int (0 : Int32), .ref x1]) rfl ?_
  obtain ⟨h3, eh3, hf⟩ := mj_bd hf
  refine mj_cpJ_W 10 rfl cp_X0_98 ⟨Nat.le_of_ble_eq_true rfl, Nat.le_of_ble_eq_true rfl⟩ eh3 ?_
  refine mj_blk k_X0_ok 11 1 (pc' := 21) (l' := [(0, .ref v0), (1, .ref v1)]) (st' := [.ref v1]) rfl ?_
  obtain ⟨x4, ex4, hf⟩ := mj_bd hf
  refine mj_get 12 rfl fl_X0_15 (mj_gR_V ex4) ?_
  refine mj_blk k_X0_ok 13 2 (pc' := 26) (l' := [(0, .ref v0), (1, .ref v1)]) (st' := [.ref v0, .int (0 : Int32), .ref x4]) rfl ?_
  obtain ⟨x5, ex5, hf⟩ := mj_bd hf
  refine mj_get 15 rfl fl_X0_15 (mj_gR_V ex5) ?_
  refine mj_blk k_X0_ok 16 2 (pc' := 32) (l' := [(0, .ref v0), (1, .ref v1)]) (st' := [.int (6 : Int32), .int (0 : Int32), .ref x5, .int (0 : Int32), .ref x4]) rfl ?_
  obtain ⟨h6, eh6, hf⟩ := mj_bd hf
  refine mj_cpI_W 18 rfl cp_X0_98 ⟨Nat.le_of_ble_eq_true rfl, Nat.le_of_ble_eq_true rfl⟩ eh6 ?_
  refine mj_blk k_X0_ok 19 1 (pc' := 36) (l' := [(0, .ref v0), (1, .ref v1)]) (st' := [.ref v1]) rfl ?_
  obtain ⟨x7, ex7, hf⟩ := mj_bd hf
  refine mj_get 20 rfl fl_X0_19 (mj_gR_V ex7) ?_
  refine mj_blk k_X0_ok 21 2 (pc' := 41) (l' := [(0, .ref v0), (1, .ref v1)]) (st' := [.ref v0, .int (0 : Int32), .ref x7]) rfl ?_
  obtain ⟨x8, ex8, hf⟩ := mj_bd hf
  refine mj_get 23 rfl fl_X0_19 (mj_gR_V ex8) ?_
  refine mj_blk k_X0_ok 24 2 (pc' := 47) (l' := [(0, .ref v0), (1, .ref v1)]) (st' := [.int (6 : Int32), .int (0 : Int32), .ref x8, .int (0 : Int32), .ref x7]) rfl ?_
  obtain ⟨h9, eh9, hf⟩ := mj_bd hf
  refine mj_cpI_W 26 rfl cp_X0_98 ⟨Nat.le_of_ble_eq_true rfl, Nat.le_of_ble_eq_true rfl⟩ eh9 ?_
  refine mj_blk k_X0_ok 27 2 (pc' := 52) (l' := [(0, .ref v0), (1, .ref v1)]) (st' := [.ref v1, .ref v0]) rfl ?_
  obtain ⟨x10, ex10, hf⟩ := mj_bd hf
  refine mj_get 29 rfl fl_X0_33 (mj_gI_V ex10) ?_
  obtain ⟨h11, eh11, hf⟩ := mj_bd hf
  refine mj_put 30 rfl fp_X0_33 (fun _ => ⟨rfl, rfl⟩) eh11 ?_
  refine mj_blk k_X0_ok 31 2 (pc' := 60) (l' := [(0, .ref v0), (1, .ref v1)]) (st' := [.ref v1, .ref v0]) rfl ?_
  obtain ⟨x12, ex12, hf⟩ := mj_bd hf
  refine mj_get 33 rfl fl_X0_36 (mj_gI_V ex12) ?_
  obtain ⟨h13, eh13, hf⟩ := mj_bd hf
  refine mj_put 34 rfl fp_X0_36 (fun _ => ⟨rfl, rfl⟩) eh13 ?_
  refine mj_blk k_X0_ok 35 2 (pc' := 68) (l' := [(0, .ref v0), (1, .ref v1)]) (st' := [.ref v1, .ref v0]) rfl ?_
  obtain ⟨x14, ex14, hf⟩ := mj_bd hf
  refine mj_get 37 rfl fl_X0_29 (mj_gI_V ex14) ?_
  obtain ⟨h15, eh15, hf⟩ := mj_bd hf
  refine mj_put 38 rfl fp_X0_29 (fun _ => ⟨rfl, rfl⟩) eh15 ?_
  obtain rfl := Option.some.inj hf
  exact mj_end none ⟨mj_dec tok_X0_become (a := 39) rfl, rfl⟩ ⟨rfl, rfl⟩ (Nat.le_of_ble_eq_true rfl) (Nat.le_of_ble_eq_true rfl)
def f_X3_init (v0 : Nat) (h : mj_H) : Option (mj_H) := (mj_mk h (.inl (1, 288, .inr (.inl (fun _ => (0 : Int64)))))).bind fun p1 => (mj_sV p1.2 v0 3 0 (.ref p1.1)).bind fun h2 => (mj_mk h2 (.inl (0, 8, .inl (fun _ => (0 : Int32))))).bind fun p3 => (mj_sV p3.2 v0 3 1 (.ref p3.1)).bind fun h4 => (mj_mk h4 (.inl (0, 8, .inl (fun _ => (0 : Int32))))).bind fun p5 => (mj_sV p5.2 v0 3 2 (.ref p5.1)).bind fun h6 => some h6
set_option maxHeartbeats 4000000 in
set_option maxRecDepth 100000 in
theorem c_X3_init (v0 : Nat) (h : mj_H) (p : mj_H) (hf : f_X3_init v0 h = some p) : mj_Met mX3_init [.ref v0] h none p := by
  refine mj_met pl_X3 tok_X3_init (Nat.le_of_ble_eq_true rfl) ?_
  show mj_W mX3_init (mj_FV p) 0 [(0, .ref v0)] [] h 0 0
  unfold f_X3_init at hf
  refine mj_blk k_X3_ok 0 1 (pc' := 1) (l' := [(0, .ref v0)]) (st' := [.ref v0]) rfl ?_
  refine mj_obj 1 rfl ob_X3_3 ⟨Nat.le_of_ble_eq_true rfl, Nat.le_of_ble_eq_true rfl⟩ ?_
  refine mj_blk k_X3_ok 2 2 (pc' := 8) (l' := [(0, .ref v0)]) (st' := [.int (288 : Int32), .ref v0]) rfl ?_
  obtain ⟨p1, ep1, hf⟩ := mj_bd hf
  refine mj_newJP 288 4 rfl rfl (by decide) aw_long ep1 (Nat.le_of_ble_eq_true rfl) (Nat.le_of_ble_eq_true rfl) ?_
  obtain ⟨h2, eh2, hf⟩ := mj_bd hf
  refine mj_put 5 rfl fp_X3_11 (fun _ => ⟨rfl, rfl⟩) eh2 ?_
  refine mj_blk k_X3_ok 6 2 (pc' := 16) (l' := [(0, .ref v0)]) (st' := [.int (8 : Int32), .ref v0]) rfl ?_
  obtain ⟨p3, ep3, hf⟩ := mj_bd hf
  refine mj_newIP 8 8 rfl rfl (by decide) aw_int ep3 (Nat.le_of_ble_eq_true rfl) (Nat.le_of_ble_eq_true rfl) ?_
  obtain ⟨h4, eh4, hf⟩ := mj_bd hf
  refine mj_put 9 rfl fp_X3_15 (fun _ => ⟨rfl, rfl⟩) eh4 ?_
  refine mj_blk k_X3_ok 10 2 (pc' := 24) (l' := [(0, .ref v0)]) (st' := [.int (8 : Int32), .ref v0]) rfl ?_
  obtain ⟨p5, ep5, hf⟩ := mj_bd hf
  refine mj_newIP 8 12 rfl rfl (by decide) aw_int ep5 (Nat.le_of_ble_eq_true rfl) (Nat.le_of_ble_eq_true rfl) ?_
  obtain ⟨h6, eh6, hf⟩ := mj_bd hf
  refine mj_put 13 rfl fp_X3_19 (fun _ => ⟨rfl, rfl⟩) eh6 ?_
  obtain rfl := Option.some.inj hf
  exact mj_end none ⟨mj_dec tok_X3_init (a := 14) rfl, rfl⟩ ⟨rfl, rfl⟩ (Nat.le_of_ble_eq_true rfl) (Nat.le_of_ble_eq_true rfl)
def f_X1_init (v0 : Nat) (h : mj_H) : Option (mj_H) := (mj_mk h (.inr (0, [.null, .null, .null, .null, .int 0, .int 0, .int 0]))).bind fun p1 => (f_X0_init p1.1 p1.2).bind fun p2 => (mj_sV p2 v0 1 0 (.ref p1.1)).bind fun h3 => (mj_mk h3 (.inr (3, [.null, .null, .null, .int 0, .int 0]))).bind fun p4 => (f_X3_init p4.1 p4.2).bind fun p5 => (mj_sV p5 v0 1 1 (.ref p4.1)).bind fun h6 => some h6
set_option maxHeartbeats 4000000 in
set_option maxRecDepth 100000 in
theorem c_X1_init (v0 : Nat) (h : mj_H) (p : mj_H) (hf : f_X1_init v0 h = some p) : mj_Met mX1_init [.ref v0] h none p := by
  refine mj_met pl_X1 tok_X1_init (Nat.le_of_ble_eq_true rfl) ?_
  show mj_W mX1_init (mj_FV p) 0 [(0, .ref v0)] [] h 0 0
  unfold f_X1_init at hf
  refine mj_blk k_X1_ok 0 1 (pc' := 1) (l' := [(0, .ref v0)]) (st' := [.ref v0]) rfl ?_
  refine mj_obj 1 rfl ob_X1_1 ⟨Nat.le_of_ble_eq_true rfl, Nat.le_of_ble_eq_true rfl⟩ ?_
  refine mj_blk k_X1_ok 2 1 (pc' := 5) (l' := [(0, .ref v0)]) (st' := [.ref v0]) rfl ?_
  obtain ⟨p1, ep1, hf⟩ := mj_bd hf
  refine mj_newP 3 rfl nw_X1_7 (by simp [mj_0]) ep1 (Nat.le_of_ble_eq_true rfl) (Nat.le_of_ble_eq_true rfl) ?_
  refine mj_blk k_X1_ok 4 1 (pc' := 9) (l' := [(0, .ref v0)]) (st' := [.ref p1.1, .ref p1.1, .ref v0]) rfl ?_
  obtain ⟨p2, ep2, hf⟩ := mj_bd hf
  refine mj_callI mX0_init [] 5 rfl ll_X1_9 lb_X0_init li_X0_init ⟨Nat.le_of_ble_eq_true rfl, Nat.le_of_ble_eq_true rfl⟩ rfl (rest := [.ref p1.1, .ref v0]) rfl (Nat.le_of_ble_eq_true rfl) ⟨Nat.le_of_ble_eq_true rfl, Nat.le_of_ble_eq_true rfl⟩ (c_X0_init p1.1 p1.2 p2 ep2) ?_
  show mj_W mX1_init (mj_FV p) 12 [(0, .ref v0)] [.ref p1.1, .ref v0] p2 6 62
  obtain ⟨h3, eh3, hf⟩ := mj_bd hf
  refine mj_put 6 rfl fp_X1_10 (fun _ => ⟨rfl, rfl⟩) eh3 ?_
  refine mj_blk k_X1_ok 7 1 (pc' := 16) (l' := [(0, .ref v0)]) (st' := [.ref v0]) rfl ?_
  obtain ⟨p4, ep4, hf⟩ := mj_bd hf
  refine mj_newP 8 rfl nw_X1_16 (by simp [mj_0]) ep4 (Nat.le_of_ble_eq_true rfl) (Nat.le_of_ble_eq_true rfl) ?_
  refine mj_blk k_X1_ok 9 1 (pc' := 20) (l' := [(0, .ref v0)]) (st' := [.ref p4.1, .ref p4.1, .ref v0]) rfl ?_
  obtain ⟨p5, ep5, hf⟩ := mj_bd hf
  refine mj_callI mX3_init [] 10 rfl ll_X1_18 lb_X3_init li_X3_init ⟨Nat.le_of_ble_eq_true rfl, Nat.le_of_ble_eq_true rfl⟩ rfl (rest := [.ref p4.1, .ref v0]) rfl (Nat.le_of_ble_eq_true rfl) ⟨Nat.le_of_ble_eq_true rfl, Nat.le_of_ble_eq_true rfl⟩ (c_X3_init p4.1 p4.2 p5 ep5) ?_
  show mj_W mX1_init (mj_FV p) 23 [(0, .ref v0)] [.ref p4.1, .ref v0] p5 10 371
  obtain ⟨h6, eh6, hf⟩ := mj_bd hf
  refine mj_put 11 rfl fp_X1_19 (fun _ => ⟨rfl, rfl⟩) eh6 ?_
  obtain rfl := Option.some.inj hf
  exact mj_end none ⟨mj_dec tok_X1_init (a := 12) rfl, rfl⟩ ⟨rfl, rfl⟩ (Nat.le_of_ble_eq_true rfl) (Nat.le_of_ble_eq_true rfl)
def f_X2_init (v0 : Nat) (h : mj_H) : Option (mj_H) := (mj_mk h (.inl (0, 6, .inl (fun _ => (0 : Int32))))).bind fun p1 => (mj_sV p1.2 v0 2 0 (.ref p1.1)).bind fun h2 => (mj_mk h2 (.inl (1, 7, .inr (.inl (fun _ => (0 : Int64)))))).bind fun p3 => (mj_sV p3.2 v0 2 1 (.ref p3.1)).bind fun h4 => some h4
set_option maxHeartbeats 4000000 in
set_option maxRecDepth 100000 in
theorem c_X2_init (v0 : Nat) (h : mj_H) (p : mj_H) (hf : f_X2_init v0 h = some p) : mj_Met mX2_init [.ref v0] h none p := by
  refine mj_met pl_X2 tok_X2_init (Nat.le_of_ble_eq_true rfl) ?_
  show mj_W mX2_init (mj_FV p) 0 [(0, .ref v0)] [] h 0 0
  unfold f_X2_init at hf
  refine mj_blk k_X2_ok 0 1 (pc' := 1) (l' := [(0, .ref v0)]) (st' := [.ref v0]) rfl ?_
  refine mj_obj 1 rfl ob_X2_3 ⟨Nat.le_of_ble_eq_true rfl, Nat.le_of_ble_eq_true rfl⟩ ?_
  refine mj_blk k_X2_ok 2 2 (pc' := 7) (l' := [(0, .ref v0)]) (st' := [.int (6 : Int32), .ref v0]) rfl ?_
  obtain ⟨p1, ep1, hf⟩ := mj_bd hf
  refine mj_newIP 6 4 rfl rfl (by decide) aw_int ep1 (Nat.le_of_ble_eq_true rfl) (Nat.le_of_ble_eq_true rfl) ?_
  obtain ⟨h2, eh2, hf⟩ := mj_bd hf
  refine mj_put 5 rfl fp_X2_9 (fun _ => ⟨rfl, rfl⟩) eh2 ?_
  refine mj_blk k_X2_ok 6 2 (pc' := 15) (l' := [(0, .ref v0)]) (st' := [.int (7 : Int32), .ref v0]) rfl ?_
  obtain ⟨p3, ep3, hf⟩ := mj_bd hf
  refine mj_newJP 7 8 rfl rfl (by decide) aw_long ep3 (Nat.le_of_ble_eq_true rfl) (Nat.le_of_ble_eq_true rfl) ?_
  obtain ⟨h4, eh4, hf⟩ := mj_bd hf
  refine mj_put 9 rfl fp_X2_15 (fun _ => ⟨rfl, rfl⟩) eh4 ?_
  obtain rfl := Option.some.inj hf
  exact mj_end none ⟨mj_dec tok_X2_init (a := 10) rfl, rfl⟩ ⟨rfl, rfl⟩ (Nat.le_of_ble_eq_true rfl) (Nat.le_of_ble_eq_true rfl)
def f_X2_seeNow_34 (K2 : Nat → Nat → Int32 → mj_H → Option (mj_H)) (v0 : Nat) (v1 : Nat) (v2 : Int32) (s0 : Nat) (s1 : Int32) (s2 : Int32) (h : mj_H) : Option (mj_H) := (mj_uI h s0 s1 s2).bind fun h1 => K2 v0 v1 (v2 + (1 : Int32)) h1
set_option maxHeartbeats 4000000 in
set_option maxRecDepth 100000 in
theorem w_X2_seeNow_34 (K2 : Nat → Nat → Int32 → mj_H → Option (mj_H)) (hK2 : ∀ (v0 : Nat) (v1 : Nat) (v2 : Int32)  (h : mj_H) (p : mj_H), K2 v0 v1 v2 h = some p → mj_W mX2_seeNow (mj_FV p) 2 [(0, .ref v0), (1, .ref v1), (2, .int v2)] [] h 0 0) (v0 : Nat) (v1 : Nat) (v2 : Int32) (s0 : Nat) (s1 : Int32) (s2 : Int32) (h : mj_H) (p : mj_H) (hf : f_X2_seeNow_34 K2 v0 v1 v2 s0 s1 s2 h = some p) : mj_W mX2_seeNow (mj_FV p) 34 [(0, .ref v0), (1, .ref v1), (2, .int v2)] [.int s2, .int s1, .ref s0] h 0 0 := by
  unfold f_X2_seeNow_34 at hf
  obtain ⟨h1, eh1, hf⟩ := mj_bd hf
  refine mj_iast 19 rfl eh1 ?_
  refine mj_blk k_X2_ok 20 2 (pc' := 2) (l' := [(2, .int (v2 + (1 : Int32))), (0, .ref v0), (1, .ref v1)]) (st' := []) rfl ?_
  refine mj_locs [1, 2, 0] (l' := [(0, .ref v0), (1, .ref v1), (2, .int (v2 + (1 : Int32)))]) rfl ?_
  exact hK2 v0 v1 (v2 + (1 : Int32)) h1 _ hf
def b_X2_seeNow_2 (K2 : Nat → Nat → Int32 → mj_H → Option (mj_H)) (v0 : Nat) (v1 : Nat) (v2 : Int32) (h : mj_H) : Option (mj_H) := (if (6 : Int32) ≤ v2 then some h else (mj_gR h v0 2 0).bind fun x2 => (mj_gI h v1 0 4).bind fun x3 => (if x3 ≤ v2 then f_X2_seeNow_34 K2 v0 v1 v2 x2 v2 (0 : Int32) h else (if mj_ob h v1 0 = true then (f_X0_trustOf v1 v2 h).bind fun p4 => f_X2_seeNow_34 K2 v0 v1 v2 x2 v2 p4.1 p4.2 else none)))
set_option maxHeartbeats 4000000 in
set_option maxRecDepth 100000 in
theorem wb_X2_seeNow_2 (K2 : Nat → Nat → Int32 → mj_H → Option (mj_H)) (hK2 : ∀ (v0 : Nat) (v1 : Nat) (v2 : Int32)  (h : mj_H) (p : mj_H), K2 v0 v1 v2 h = some p → mj_W mX2_seeNow (mj_FV p) 2 [(0, .ref v0), (1, .ref v1), (2, .int v2)] [] h 0 0) (v0 : Nat) (v1 : Nat) (v2 : Int32) (h : mj_H) (p : mj_H) (hf : b_X2_seeNow_2  K2 v0 v1 v2 h = some p) : mj_W mX2_seeNow (mj_FV p) 2 [(0, .ref v0), (1, .ref v1), (2, .int v2)] [] h 0 0 := by
  unfold b_X2_seeNow_2 at hf
  refine mj_blk k_X2_ok 2 2 (pc' := 5) (l' := [(0, .ref v0), (1, .ref v1), (2, .int v2)]) (st' := [.int (6 : Int32), .int v2]) rfl ?_
  refine mj_icmp_ge 4 41 rfl (by decide) (fun q => ?_) (fun q => ?_)
  · have hf := (if_pos q).symm.trans hf
    obtain rfl := Option.some.inj hf
    exact mj_end none ⟨mj_dec tok_X2_seeNow (a := 22) rfl, rfl⟩ ⟨rfl, rfl⟩ (Nat.le_of_ble_eq_true rfl) (Nat.le_of_ble_eq_true rfl)
  · have hf := (if_neg q).symm.trans hf
    refine mj_blk k_X2_ok 5 1 (pc' := 9) (l' := [(0, .ref v0), (1, .ref v1), (2, .int v2)]) (st' := [.ref v0]) rfl ?_
    obtain ⟨x2, ex2, hf⟩ := mj_bd hf
    refine mj_get 6 rfl fl_X2_9 (mj_gR_V ex2) ?_
    refine mj_blk k_X2_ok 7 2 (pc' := 14) (l' := [(0, .ref v0), (1, .ref v1), (2, .int v2)]) (st' := [.ref v1, .int v2, .ref x2]) rfl ?_
    refine mj_ifnull 9 rfl ?_
    refine mj_blk k_X2_ok 10 2 (pc' := 19) (l' := [(0, .ref v0), (1, .ref v1), (2, .int v2)]) (st' := [.ref v1, .int v2, .int v2, .ref x2]) rfl ?_
    obtain ⟨x3, ex3, hf⟩ := mj_bd hf
    refine mj_get 12 rfl fl_X2_19 (mj_gI_V ex3) ?_
    refine mj_icmp_ge 13 33 rfl (by decide) (fun q => ?_) (fun q => ?_)
    · have hf := (if_pos q).symm.trans hf
      refine mj_blk k_X2_ok 18 1 (pc' := 34) (l' := [(0, .ref v0), (1, .ref v1), (2, .int v2)]) (st' := [.int (0 : Int32), .int v2, .ref x2]) rfl ?_
      exact w_X2_seeNow_34 K2 hK2 v0 v1 v2 x2 v2 (0 : Int32) h _ hf
    · have hf := (if_neg q).symm.trans hf
      refine mj_blk k_X2_ok 14 2 (pc' := 27) (l' := [(0, .ref v0), (1, .ref v1), (2, .int v2)]) (st' := [.int v2, .ref v1, .int v2, .ref x2]) rfl ?_
      obtain ⟨gp4, hf⟩ := mj_gd hf
      obtain ⟨p4, ep4, hf⟩ := mj_bd hf
      refine mj_callV (T := TX0) (N := 7) (ci := 0) mX0_trustOf [.int v2] 16 rfl ll_X2_25 lb_X0_trustOf li_X0_trustOf ⟨Nat.le_of_ble_eq_true rfl, Nat.le_of_ble_eq_true rfl⟩ rfl gp4 rfl (rest := [.int v2, .ref x2]) rfl (Nat.le_of_ble_eq_true rfl) ⟨Nat.le_of_ble_eq_true rfl, Nat.le_of_ble_eq_true rfl⟩ (c_X0_trustOf v1 v2 h p4 ep4) ?_
      show mj_W mX2_seeNow (mj_FV p) 30 [(0, .ref v0), (1, .ref v1), (2, .int v2)] [.int p4.1, .int v2, .ref x2] p4.2 0 0
      refine mj_blk k_X2_ok 17 1 (pc' := 34) (l' := [(0, .ref v0), (1, .ref v1), (2, .int v2)]) (st' := [.int p4.1, .int v2, .ref x2]) rfl ?_
      exact w_X2_seeNow_34 K2 hK2 v0 v1 v2 x2 v2 p4.1 p4.2 _ hf
def f_X2_seeNow_2 (v0 : Nat) (v1 : Nat) (v2 : Int32) (h : mj_H) : Option (mj_H) := mj_fix (fun (K2 : (Nat × Nat × Int32 × mj_H) → Option (mj_H)) (s : Nat × Nat × Int32 × mj_H) => b_X2_seeNow_2  (fun v0 v1 v2 h => K2 (v0, v1, v2, h)) s.1 s.2.1 s.2.2.1 s.2.2.2) 1000 (v0, v1, v2, h)
set_option maxHeartbeats 4000000 in
set_option maxRecDepth 100000 in
theorem w_X2_seeNow_2 (v0 : Nat) (v1 : Nat) (v2 : Int32) (h : mj_H) (p : mj_H) (hf : f_X2_seeNow_2  v0 v1 v2 h = some p) : mj_W mX2_seeNow (mj_FV p) 2 [(0, .ref v0), (1, .ref v1), (2, .int v2)] [] h 0 0 := by
  unfold f_X2_seeNow_2 at hf
  exact mj_fix_ind (F := (fun (K2 : (Nat × Nat × Int32 × mj_H) → Option (mj_H)) (s : Nat × Nat × Int32 × mj_H) => b_X2_seeNow_2  (fun v0 v1 v2 h => K2 (v0, v1, v2, h)) s.1 s.2.1 s.2.2.1 s.2.2.2)) (P := fun s p => mj_W mX2_seeNow (mj_FV p) 2 [(0, .ref s.1), (1, .ref s.2.1), (2, .int s.2.2.1)] [] s.2.2.2 0 0) (fun K2 hK2 s p hf => wb_X2_seeNow_2   (fun v0 v1 v2 h => K2 (v0, v1, v2, h)) (fun v0 v1 v2 h p e => hK2 (v0, v1, v2, h) p e) s.1 s.2.1 s.2.2.1 s.2.2.2 p hf) 1000 (v0, v1, v2, h) p hf
def f_X2_seeNow (v0 : Nat) (v1 : Nat) (h : mj_H) : Option (mj_H) := f_X2_seeNow_2 v0 v1 (0 : Int32) h
set_option maxHeartbeats 4000000 in
set_option maxRecDepth 100000 in
theorem c_X2_seeNow (v0 : Nat) (v1 : Nat) (h : mj_H) (p : mj_H) (hf : f_X2_seeNow v0 v1 h = some p) : mj_Met mX2_seeNow [.ref v0, .ref v1] h none p := by
  refine mj_met pl_X2 tok_X2_seeNow (Nat.le_of_ble_eq_true rfl) ?_
  show mj_W mX2_seeNow (mj_FV p) 0 [(0, .ref v0), (1, .ref v1)] [] h 0 0
  unfold f_X2_seeNow at hf
  refine mj_blk k_X2_ok 0 2 (pc' := 2) (l' := [(2, .int (0 : Int32)), (0, .ref v0), (1, .ref v1)]) (st' := []) rfl ?_
  refine mj_locs [1, 2, 0] (l' := [(0, .ref v0), (1, .ref v1), (2, .int (0 : Int32))]) rfl ?_
  exact w_X2_seeNow_2 v0 v1 (0 : Int32) h _ hf
def f_X2_seeBehind_55 (K3 : Nat → Nat → Int32 → Int32 → Int32 → Int32 → mj_H → Option (mj_H)) (v0 : Nat) (v1 : Nat) (v2 : Int32) (v3 : Int32) (v4 : Int32) (v5 : Int32) (s0 : Nat) (s1 : Int32) (s2 : Int32) (h : mj_H) : Option (mj_H) := (mj_uI h s0 s1 s2).bind fun h1 => K3 v0 v1 v2 v3 v4 (v5 + (1 : Int32)) h1
set_option maxHeartbeats 4000000 in
set_option maxRecDepth 100000 in
theorem w_X2_seeBehind_55 (K3 : Nat → Nat → Int32 → Int32 → Int32 → Int32 → mj_H → Option (mj_H)) (hK3 : ∀ (v0 : Nat) (v1 : Nat) (v2 : Int32) (v3 : Int32) (v4 : Int32) (v5 : Int32)  (h : mj_H) (p : mj_H), K3 v0 v1 v2 v3 v4 v5 h = some p → mj_W mX2_seeBehind (mj_FV p) 3 [(0, .ref v0), (1, .ref v1), (2, .int v2), (3, .int v3), (4, .int v4), (5, .int v5)] [] h 0 0) (v0 : Nat) (v1 : Nat) (v2 : Int32) (v3 : Int32) (v4 : Int32) (v5 : Int32) (s0 : Nat) (s1 : Int32) (s2 : Int32) (h : mj_H) (p : mj_H) (hf : f_X2_seeBehind_55 K3 v0 v1 v2 v3 v4 v5 s0 s1 s2 h = some p) : mj_W mX2_seeBehind (mj_FV p) 55 [(0, .ref v0), (1, .ref v1), (2, .int v2), (3, .int v3), (4, .int v4), (5, .int v5)] [.int s2, .int s1, .ref s0] h 0 0 := by
  unfold f_X2_seeBehind_55 at hf
  obtain ⟨h1, eh1, hf⟩ := mj_bd hf
  refine mj_iast 28 rfl eh1 ?_
  refine mj_blk k_X2_ok 29 2 (pc' := 3) (l' := [(5, .int (v5 + (1 : Int32))), (0, .ref v0), (1, .ref v1), (2, .int v2), (3, .int v3), (4, .int v4)]) (st' := []) rfl ?_
  refine mj_locs [1, 2, 3, 4, 5, 0] (l' := [(0, .ref v0), (1, .ref v1), (2, .int v2), (3, .int v3), (4, .int v4), (5, .int (v5 + (1 : Int32)))]) rfl ?_
  exact hK3 v0 v1 v2 v3 v4 (v5 + (1 : Int32)) h1 _ hf
def f_X2_seeBehind_28 (K3 : Nat → Nat → Int32 → Int32 → Int32 → Int32 → mj_H → Option (mj_H)) (v0 : Nat) (v1 : Nat) (v2 : Int32) (v3 : Int32) (v4 : Int32) (v5 : Int32) (s0 : Int32) (h : mj_H) : Option (mj_H) := (mj_gR h v0 2 0).bind fun x2 => (if s0 = 0 then f_X2_seeBehind_55 K3 v0 v1 v2 v3 v4 v5 x2 v5 (0 : Int32) h else (if mj_ob h v1 0 = true then (f_X0_trustBehind v1 v5 v2 v3 v4 h).bind fun p3 => f_X2_seeBehind_55 K3 v0 v1 v2 v3 v4 v5 x2 v5 p3.1 p3.2 else none))
set_option maxHeartbeats 4000000 in
set_option maxRecDepth 100000 in
theorem w_X2_seeBehind_28 (K3 : Nat → Nat → Int32 → Int32 → Int32 → Int32 → mj_H → Option (mj_H)) (hK3 : ∀ (v0 : Nat) (v1 : Nat) (v2 : Int32) (v3 : Int32) (v4 : Int32) (v5 : Int32)  (h : mj_H) (p : mj_H), K3 v0 v1 v2 v3 v4 v5 h = some p → mj_W mX2_seeBehind (mj_FV p) 3 [(0, .ref v0), (1, .ref v1), (2, .int v2), (3, .int v3), (4, .int v4), (5, .int v5)] [] h 0 0) (v0 : Nat) (v1 : Nat) (v2 : Int32) (v3 : Int32) (v4 : Int32) (v5 : Int32) (s0 : Int32) (h : mj_H) (p : mj_H) (hf : f_X2_seeBehind_28 K3 v0 v1 v2 v3 v4 v5 s0 h = some p) : mj_W mX2_seeBehind (mj_FV p) 28 [(0, .ref v0), (1, .ref v1), (2, .int v2), (3, .int v3), (4, .int v4), (5, .int v5)] [.int s0] h 0 0 := by
  unfold f_X2_seeBehind_28 at hf
  refine mj_blk k_X2_ok 14 2 (pc' := 31) (l' := [(6, .int s0), (0, .ref v0), (1, .ref v1), (2, .int v2), (3, .int v3), (4, .int v4), (5, .int v5)]) (st' := [.ref v0]) rfl ?_
  obtain ⟨x2, ex2, hf⟩ := mj_bd hf
  refine mj_get 16 rfl fl_X2_9 (mj_gR_V ex2) ?_
  refine mj_blk k_X2_ok 17 2 (pc' := 38) (l' := [(6, .int s0), (0, .ref v0), (1, .ref v1), (2, .int v2), (3, .int v3), (4, .int v4), (5, .int v5)]) (st' := [.int s0, .int v5, .ref x2]) rfl ?_
  refine mj_if_eq 19 54 rfl (by decide) (fun q => ?_) (fun q => ?_)
  · have hf := (if_pos q).symm.trans hf
    refine mj_blk k_X2_ok 27 1 (pc' := 55) (l' := [(6, .int s0), (0, .ref v0), (1, .ref v1), (2, .int v2), (3, .int v3), (4, .int v4), (5, .int v5)]) (st' := [.int (0 : Int32), .int v5, .ref x2]) rfl ?_
    refine mj_locs [1, 2, 3, 4, 5, 6] (l' := [(0, .ref v0), (1, .ref v1), (2, .int v2), (3, .int v3), (4, .int v4), (5, .int v5)]) rfl ?_
    exact w_X2_seeBehind_55 K3 hK3 v0 v1 v2 v3 v4 v5 x2 v5 (0 : Int32) h _ hf
  · have hf := (if_neg q).symm.trans hf
    refine mj_blk k_X2_ok 20 5 (pc' := 48) (l' := [(6, .int s0), (0, .ref v0), (1, .ref v1), (2, .int v2), (3, .int v3), (4, .int v4), (5, .int v5)]) (st' := [.int v4, .int v3, .int v2, .int v5, .ref v1, .int v5, .ref x2]) rfl ?_
    obtain ⟨gp3, hf⟩ := mj_gd hf
    obtain ⟨p3, ep3, hf⟩ := mj_bd hf
    refine mj_callV (T := TX0) (N := 7) (ci := 0) mX0_trustBehind [.int v5, .int v2, .int v3, .int v4] 25 rfl ll_X2_29 lb_X0_trustBehind li_X0_trustBehind ⟨Nat.le_of_ble_eq_true rfl, Nat.le_of_ble_eq_true rfl⟩ rfl gp3 rfl (rest := [.int v5, .ref x2]) rfl (Nat.le_of_ble_eq_true rfl) ⟨Nat.le_of_ble_eq_true rfl, Nat.le_of_ble_eq_true rfl⟩ (c_X0_trustBehind v1 v5 v2 v3 v4 h p3 ep3) ?_
    show mj_W mX2_seeBehind (mj_FV p) 51 [(6, .int s0), (0, .ref v0), (1, .ref v1), (2, .int v2), (3, .int v3), (4, .int v4), (5, .int v5)] [.int p3.1, .int v5, .ref x2] p3.2 0 0
    refine mj_blk k_X2_ok 26 1 (pc' := 55) (l' := [(6, .int s0), (0, .ref v0), (1, .ref v1), (2, .int v2), (3, .int v3), (4, .int v4), (5, .int v5)]) (st' := [.int p3.1, .int v5, .ref x2]) rfl ?_
    refine mj_locs [1, 2, 3, 4, 5, 6] (l' := [(0, .ref v0), (1, .ref v1), (2, .int v2), (3, .int v3), (4, .int v4), (5, .int v5)]) rfl ?_
    exact w_X2_seeBehind_55 K3 hK3 v0 v1 v2 v3 v4 v5 x2 v5 p3.1 p3.2 _ hf
def b_X2_seeBehind_3 (K3 : Nat → Nat → Int32 → Int32 → Int32 → Int32 → mj_H → Option (mj_H)) (v0 : Nat) (v1 : Nat) (v2 : Int32) (v3 : Int32) (v4 : Int32) (v5 : Int32) (h : mj_H) : Option (mj_H) := (if (6 : Int32) ≤ v5 then some h else (mj_gI h v1 0 4).bind fun x4 => (if x4 ≤ v5 then f_X2_seeBehind_28 K3 v0 v1 v2 v3 v4 v5 (0 : Int32) h else f_X2_seeBehind_28 K3 v0 v1 v2 v3 v4 v5 (1 : Int32) h))
set_option maxHeartbeats 4000000 in
set_option maxRecDepth 100000 in
theorem wb_X2_seeBehind_3 (K3 : Nat → Nat → Int32 → Int32 → Int32 → Int32 → mj_H → Option (mj_H)) (hK3 : ∀ (v0 : Nat) (v1 : Nat) (v2 : Int32) (v3 : Int32) (v4 : Int32) (v5 : Int32)  (h : mj_H) (p : mj_H), K3 v0 v1 v2 v3 v4 v5 h = some p → mj_W mX2_seeBehind (mj_FV p) 3 [(0, .ref v0), (1, .ref v1), (2, .int v2), (3, .int v3), (4, .int v4), (5, .int v5)] [] h 0 0) (v0 : Nat) (v1 : Nat) (v2 : Int32) (v3 : Int32) (v4 : Int32) (v5 : Int32) (h : mj_H) (p : mj_H) (hf : b_X2_seeBehind_3  K3 v0 v1 v2 v3 v4 v5 h = some p) : mj_W mX2_seeBehind (mj_FV p) 3 [(0, .ref v0), (1, .ref v1), (2, .int v2), (3, .int v3), (4, .int v4), (5, .int v5)] [] h 0 0 := by
  unfold b_X2_seeBehind_3 at hf
  refine mj_blk k_X2_ok 2 2 (pc' := 7) (l' := [(0, .ref v0), (1, .ref v1), (2, .int v2), (3, .int v3), (4, .int v4), (5, .int v5)]) (st' := [.int (6 : Int32), .int v5]) rfl ?_
  refine mj_icmp_ge 4 62 rfl (by decide) (fun q => ?_) (fun q => ?_)
  · have hf := (if_pos q).symm.trans hf
    obtain rfl := Option.some.inj hf
    exact mj_end none ⟨mj_dec tok_X2_seeBehind (a := 31) rfl, rfl⟩ ⟨rfl, rfl⟩ (Nat.le_of_ble_eq_true rfl) (Nat.le_of_ble_eq_true rfl)
  · have hf := (if_neg q).symm.trans hf
    refine mj_blk k_X2_ok 5 1 (pc' := 11) (l' := [(0, .ref v0), (1, .ref v1), (2, .int v2), (3, .int v3), (4, .int v4), (5, .int v5)]) (st' := [.ref v1]) rfl ?_
    refine mj_ifnull 6 rfl ?_
    refine mj_blk k_X2_ok 7 2 (pc' := 17) (l' := [(0, .ref v0), (1, .ref v1), (2, .int v2), (3, .int v3), (4, .int v4), (5, .int v5)]) (st' := [.ref v1, .int v5]) rfl ?_
    obtain ⟨x4, ex4, hf⟩ := mj_bd hf
    refine mj_get 9 rfl fl_X2_19 (mj_gI_V ex4) ?_
    refine mj_icmp_ge 10 27 rfl (by decide) (fun q => ?_) (fun q => ?_)
    · have hf := (if_pos q).symm.trans hf
      refine mj_blk k_X2_ok 13 1 (pc' := 28) (l' := [(0, .ref v0), (1, .ref v1), (2, .int v2), (3, .int v3), (4, .int v4), (5, .int v5)]) (st' := [.int (0 : Int32)]) rfl ?_
      exact w_X2_seeBehind_28 K3 hK3 v0 v1 v2 v3 v4 v5 (0 : Int32) h _ hf
    · have hf := (if_neg q).symm.trans hf
      refine mj_blk k_X2_ok 11 2 (pc' := 28) (l' := [(0, .ref v0), (1, .ref v1), (2, .int v2), (3, .int v3), (4, .int v4), (5, .int v5)]) (st' := [.int (1 : Int32)]) rfl ?_
      exact w_X2_seeBehind_28 K3 hK3 v0 v1 v2 v3 v4 v5 (1 : Int32) h _ hf
def f_X2_seeBehind_3 (v0 : Nat) (v1 : Nat) (v2 : Int32) (v3 : Int32) (v4 : Int32) (v5 : Int32) (h : mj_H) : Option (mj_H) := mj_fix (fun (K3 : (Nat × Nat × Int32 × Int32 × Int32 × Int32 × mj_H) → Option (mj_H)) (s : Nat × Nat × Int32 × Int32 × Int32 × Int32 × mj_H) => b_X2_seeBehind_3  (fun v0 v1 v2 v3 v4 v5 h => K3 (v0, v1, v2, v3, v4, v5, h)) s.1 s.2.1 s.2.2.1 s.2.2.2.1 s.2.2.2.2.1 s.2.2.2.2.2.1 s.2.2.2.2.2.2) 1000 (v0, v1, v2, v3, v4, v5, h)
set_option maxHeartbeats 4000000 in
set_option maxRecDepth 100000 in
theorem w_X2_seeBehind_3 (v0 : Nat) (v1 : Nat) (v2 : Int32) (v3 : Int32) (v4 : Int32) (v5 : Int32) (h : mj_H) (p : mj_H) (hf : f_X2_seeBehind_3  v0 v1 v2 v3 v4 v5 h = some p) : mj_W mX2_seeBehind (mj_FV p) 3 [(0, .ref v0), (1, .ref v1), (2, .int v2), (3, .int v3), (4, .int v4), (5, .int v5)] [] h 0 0 := by
  unfold f_X2_seeBehind_3 at hf
  exact mj_fix_ind (F := (fun (K3 : (Nat × Nat × Int32 × Int32 × Int32 × Int32 × mj_H) → Option (mj_H)) (s : Nat × Nat × Int32 × Int32 × Int32 × Int32 × mj_H) => b_X2_seeBehind_3  (fun v0 v1 v2 v3 v4 v5 h => K3 (v0, v1, v2, v3, v4, v5, h)) s.1 s.2.1 s.2.2.1 s.2.2.2.1 s.2.2.2.2.1 s.2.2.2.2.2.1 s.2.2.2.2.2.2)) (P := fun s p => mj_W mX2_seeBehind (mj_FV p) 3 [(0, .ref s.1), (1, .ref s.2.1), (2, .int s.2.2.1), (3, .int s.2.2.2.1), (4, .int s.2.2.2.2.1), (5, .int s.2.2.2.2.2.1)] [] s.2.2.2.2.2.2 0 0) (fun K3 hK3 s p hf => wb_X2_seeBehind_3   (fun v0 v1 v2 v3 v4 v5 h => K3 (v0, v1, v2, v3, v4, v5, h)) (fun v0 v1 v2 v3 v4 v5 h p e => hK3 (v0, v1, v2, v3, v4, v5, h) p e) s.1 s.2.1 s.2.2.1 s.2.2.2.1 s.2.2.2.2.1 s.2.2.2.2.2.1 s.2.2.2.2.2.2 p hf) 1000 (v0, v1, v2, v3, v4, v5, h) p hf
def f_X2_seeBehind (v0 : Nat) (v1 : Nat) (v2 : Int32) (v3 : Int32) (v4 : Int32) (h : mj_H) : Option (mj_H) := f_X2_seeBehind_3 v0 v1 v2 v3 v4 (0 : Int32) h
set_option maxHeartbeats 4000000 in
set_option maxRecDepth 100000 in
theorem c_X2_seeBehind (v0 : Nat) (v1 : Nat) (v2 : Int32) (v3 : Int32) (v4 : Int32) (h : mj_H) (p : mj_H) (hf : f_X2_seeBehind v0 v1 v2 v3 v4 h = some p) : mj_Met mX2_seeBehind [.ref v0, .ref v1, .int v2, .int v3, .int v4] h none p := by
  refine mj_met pl_X2 tok_X2_seeBehind (Nat.le_of_ble_eq_true rfl) ?_
  show mj_W mX2_seeBehind (mj_FV p) 0 [(0, .ref v0), (1, .ref v1), (2, .int v2), (3, .int v3), (4, .int v4)] [] h 0 0
  unfold f_X2_seeBehind at hf
  refine mj_blk k_X2_ok 0 2 (pc' := 3) (l' := [(5, .int (0 : Int32)), (0, .ref v0), (1, .ref v1), (2, .int v2), (3, .int v3), (4, .int v4)]) (st' := []) rfl ?_
  refine mj_locs [1, 2, 3, 4, 5, 0] (l' := [(0, .ref v0), (1, .ref v1), (2, .int v2), (3, .int v3), (4, .int v4), (5, .int (0 : Int32))]) rfl ?_
  exact w_X2_seeBehind_3 v0 v1 v2 v3 v4 (0 : Int32) h _ hf
