/-! printed by wip/whole/gen.py: X8_sift, X8_runs, X8_mayStay, X8_home, X8_spy, X8_looks, X8_isOpen, X8_next, X8_gets, X8_rests, X8_boast -/
def f_X8_sift_26 (v0 : Nat) (h : mj_H) : Option (Int32 × mj_H) := (if mj_ob h v0 8 = true then (f_X8_refusedAs v0 (-2 : Int32) (-10 : Int32) h).bind fun p1 => some (p1.1, p1.2) else none)
set_option maxHeartbeats 4000000 in
set_option maxRecDepth 100000 in
theorem w_X8_sift_26 (v0 : Nat) (h : mj_H) (p : Int32 × mj_H) (hf : f_X8_sift_26  v0 h = some p) : mj_W mX8_sift (mj_FI p) 26 [(0, .ref v0)] [] h 0 0 := by
  unfold f_X8_sift_26 at hf
  refine mj_blk k_X8_ok 13 3 (pc' := 31) (l' := [(0, .ref v0)]) (st' := [.int (-10 : Int32), .int (-2 : Int32), .ref v0]) rfl ?_
  obtain ⟨gp1, hf⟩ := mj_gd hf
  obtain ⟨p1, ep1, hf⟩ := mj_bd hf
  refine mj_callV (T := TX8) (N := 14) (ci := 8) mX8_refusedAs [.int (-2 : Int32), .int (-10 : Int32)] 16 rfl ll_X8_202 lb_X8_refusedAs li_X8_refusedAs ⟨Nat.le_of_ble_eq_true rfl, Nat.le_of_ble_eq_true rfl⟩ rfl gp1 rfl (rest := []) rfl (Nat.le_of_ble_eq_true rfl) ⟨Nat.le_of_ble_eq_true rfl, Nat.le_of_ble_eq_true rfl⟩ (c_X8_refusedAs v0 (-2 : Int32) (-10 : Int32) h p1 ep1) ?_
  show mj_W mX8_sift (mj_FI p) 34 [(0, .ref v0)] [.int p1.1] p1.2 0 0
  obtain rfl := Option.some.inj hf
  exact mj_end (some (.int p1.1)) ⟨mj_dec tok_X8_sift (a := 17) rfl, .int, rfl, rfl⟩ ⟨rfl, rfl⟩ (Nat.le_of_ble_eq_true rfl) (Nat.le_of_ble_eq_true rfl)
def f_X8_sift (v0 : Nat) (v1 : Int32) (v2 : Int32) (v3 : Int32) (h : mj_H) : Option (Int32 × mj_H) := (mj_gR h v0 8 0).bind fun x2 => (if mj_ob h x2 0 = true then (f_X0_has x2 v1 h).bind fun p3 => (if p3.1 = 0 then f_X8_sift_26 v0 p3.2 else (if v2 < 0 then f_X8_sift_26 v0 p3.2 else (if (60 : Int32) < v2 then f_X8_sift_26 v0 p3.2 else (if (-1 : Int32) ≤ v3 then (mj_gR p3.2 v0 8 7).bind fun x4 => (mj_gR p3.2 v0 8 0).bind fun x5 => (if mj_ob p3.2 x4 6 = true then (f_X6_find x4 x5 v1 v2 p3.2).bind fun p6 => (if p6.1 = 0 then some ((-1 : Int32), p6.2) else (if v3 = (-1 : Int32) then (mj_gR p6.2 v0 8 7).bind fun x11 => (mj_gI p6.2 x11 6 2).bind fun x12 => some (x12, p6.2) else (mj_gR p6.2 v0 8 7).bind fun x7 => (mj_gI p6.2 x7 6 2).bind fun x8 => (if x8 ≤ v3 then some ((-5 : Int32), p6.2) else (mj_gR p6.2 v0 8 7).bind fun x9 => (if mj_ob p6.2 x9 6 = true then (f_X6_testAt x9 v3 p6.2).bind fun p10 => some (p10.1, p10.2) else none)))) else none) else f_X8_sift_26 v0 p3.2)))) else none)
set_option maxHeartbeats 4000000 in
set_option maxRecDepth 100000 in
theorem c_X8_sift (v0 : Nat) (v1 : Int32) (v2 : Int32) (v3 : Int32) (h : mj_H) (p : Int32 × mj_H) (hf : f_X8_sift v0 v1 v2 v3 h = some p) : mj_Met mX8_sift [.ref v0, .int v1, .int v2, .int v3] h (some (.int p.1)) p.2 := by
  refine mj_met pl_X8 tok_X8_sift (Nat.le_of_ble_eq_true rfl) ?_
  show mj_W mX8_sift (mj_FI p) 0 [(0, .ref v0), (1, .int v1), (2, .int v2), (3, .int v3)] [] h 0 0
  unfold f_X8_sift at hf
  refine mj_blk k_X8_ok 0 1 (pc' := 1) (l' := [(0, .ref v0), (1, .int v1), (2, .int v2), (3, .int v3)]) (st' := [.ref v0]) rfl ?_
  obtain ⟨x2, ex2, hf⟩ := mj_bd hf
  refine mj_get 1 rfl fl_X8_10 (mj_gR_V ex2) ?_
  refine mj_blk k_X8_ok 2 1 (pc' := 5) (l' := [(0, .ref v0), (1, .int v1), (2, .int v2), (3, .int v3)]) (st' := [.int v1, .ref x2]) rfl ?_
  obtain ⟨gp3, hf⟩ := mj_gd hf
  obtain ⟨p3, ep3, hf⟩ := mj_bd hf
  refine mj_callV (T := TX0) (N := 7) (ci := 0) mX0_has [.int v1] 3 rfl ll_X8_129 lb_X0_has li_X0_has ⟨Nat.le_of_ble_eq_true rfl, Nat.le_of_ble_eq_true rfl⟩ rfl gp3 rfl (rest := []) rfl (Nat.le_of_ble_eq_true rfl) ⟨Nat.le_of_ble_eq_true rfl, Nat.le_of_ble_eq_true rfl⟩ (c_X0_has x2 v1 h p3 ep3) ?_
  show mj_W mX8_sift (mj_FI p) 8 [(0, .ref v0), (1, .int v1), (2, .int v2), (3, .int v3)] [.int p3.1] p3.2 0 0
  refine mj_if_eq 4 26 rfl (by decide) (fun q => ?_) (fun q => ?_)
  · have hf := (if_pos q).symm.trans hf
    refine mj_locs [0] (l' := [(0, .ref v0)]) rfl ?_
    exact w_X8_sift_26 v0 p3.2 _ hf
  · have hf := (if_neg q).symm.trans hf
    refine mj_blk k_X8_ok 5 1 (pc' := 12) (l' := [(0, .ref v0), (1, .int v1), (2, .int v2), (3, .int v3)]) (st' := [.int v2]) rfl ?_
    refine mj_if_lt 6 26 rfl (by decide) (fun q => ?_) (fun q => ?_)
    · have hf := (if_pos q).symm.trans hf
      refine mj_locs [0] (l' := [(0, .ref v0)]) rfl ?_
      exact w_X8_sift_26 v0 p3.2 _ hf
    · have hf := (if_neg q).symm.trans hf
      refine mj_blk k_X8_ok 7 2 (pc' := 18) (l' := [(0, .ref v0), (1, .int v1), (2, .int v2), (3, .int v3)]) (st' := [.int (60 : Int32), .int v2]) rfl ?_
      refine mj_icmp_gt 9 26 rfl (by decide) (fun q => ?_) (fun q => ?_)
      · have hf := (if_pos q).symm.trans hf
        refine mj_locs [0] (l' := [(0, .ref v0)]) rfl ?_
        exact w_X8_sift_26 v0 p3.2 _ hf
      · have hf := (if_neg q).symm.trans hf
        refine mj_blk k_X8_ok 10 2 (pc' := 23) (l' := [(0, .ref v0), (1, .int v1), (2, .int v2), (3, .int v3)]) (st' := [.int (-1 : Int32), .int v3]) rfl ?_
        refine mj_icmp_ge 12 35 rfl (by decide) (fun q => ?_) (fun q => ?_)
        · have hf := (if_pos q).symm.trans hf
          refine mj_blk k_X8_ok 18 1 (pc' := 36) (l' := [(0, .ref v0), (1, .int v1), (2, .int v2), (3, .int v3)]) (st' := [.ref v0]) rfl ?_
          obtain ⟨x4, ex4, hf⟩ := mj_bd hf
          refine mj_get 19 rfl fl_X8_57 (mj_gR_V ex4) ?_
          refine mj_blk k_X8_ok 20 1 (pc' := 40) (l' := [(0, .ref v0), (1, .int v1), (2, .int v2), (3, .int v3)]) (st' := [.ref v0, .ref x4]) rfl ?_
          obtain ⟨x5, ex5, hf⟩ := mj_bd hf
          refine mj_get 21 rfl fl_X8_10 (mj_gR_V ex5) ?_
          refine mj_blk k_X8_ok 22 2 (pc' := 45) (l' := [(0, .ref v0), (1, .int v1), (2, .int v2), (3, .int v3)]) (st' := [.int v2, .int v1, .ref x5, .ref x4]) rfl ?_
          obtain ⟨gp6, hf⟩ := mj_gd hf
          obtain ⟨p6, ep6, hf⟩ := mj_bd hf
          refine mj_callV (T := TX6) (N := 3) (ci := 6) mX6_find [.ref x5, .int v1, .int v2] 24 rfl ll_X8_227 lb_X6_find li_X6_find ⟨Nat.le_of_ble_eq_true rfl, Nat.le_of_ble_eq_true rfl⟩ rfl gp6 rfl (rest := []) rfl (Nat.le_of_ble_eq_true rfl) ⟨Nat.le_of_ble_eq_true rfl, Nat.le_of_ble_eq_true rfl⟩ (c_X6_find x4 x5 v1 v2 p3.2 p6 ep6) ?_
          show mj_W mX8_sift (mj_FI p) 48 [(0, .ref v0), (1, .int v1), (2, .int v2), (3, .int v3)] [.int p6.1] p6.2 0 0
          refine mj_if_ne 25 53 rfl (by decide) (fun q => ?_) (fun q => ?_)
          · have hf := (if_neg q).symm.trans hf
            refine mj_blk k_X8_ok 28 2 (pc' := 55) (l' := [(0, .ref v0), (1, .int v1), (2, .int v2), (3, .int v3)]) (st' := [.int (-1 : Int32), .int v3]) rfl ?_
            refine mj_icmp_ne 30 66 rfl (by decide) (fun q => ?_) (fun q => ?_)
            · have hf := (if_neg q).symm.trans hf
              refine mj_blk k_X8_ok 35 2 (pc' := 68) (l' := [(0, .ref v0), (1, .int v1), (2, .int v2), (3, .int v3)]) (st' := [.ref v0, .int v3]) rfl ?_
              obtain ⟨x7, ex7, hf⟩ := mj_bd hf
              refine mj_get 37 rfl fl_X8_57 (mj_gR_V ex7) ?_
              obtain ⟨x8, ex8, hf⟩ := mj_bd hf
              refine mj_get 38 rfl fl_X8_231 (mj_gI_V ex8) ?_
              refine mj_icmp_ge 39 88 rfl (by decide) (fun q => ?_) (fun q => ?_)
              · have hf := (if_pos q).symm.trans hf
                refine mj_blk k_X8_ok 45 1 (pc' := 90) (l' := [(0, .ref v0), (1, .int v1), (2, .int v2), (3, .int v3)]) (st' := [.int (-5 : Int32)]) rfl ?_
                obtain rfl := Option.some.inj hf
                exact mj_end (some (.int (-5 : Int32))) ⟨mj_dec tok_X8_sift (a := 46) rfl, .int, rfl, rfl⟩ ⟨rfl, rfl⟩ (Nat.le_of_ble_eq_true rfl) (Nat.le_of_ble_eq_true rfl)
              · have hf := (if_neg q).symm.trans hf
                refine mj_blk k_X8_ok 40 1 (pc' := 78) (l' := [(0, .ref v0), (1, .int v1), (2, .int v2), (3, .int v3)]) (st' := [.ref v0]) rfl ?_
                obtain ⟨x9, ex9, hf⟩ := mj_bd hf
                refine mj_get 41 rfl fl_X8_57 (mj_gR_V ex9) ?_
                refine mj_blk k_X8_ok 42 1 (pc' := 82) (l' := [(0, .ref v0), (1, .int v1), (2, .int v2), (3, .int v3)]) (st' := [.int v3, .ref x9]) rfl ?_
                obtain ⟨gp10, hf⟩ := mj_gd hf
                obtain ⟨p10, ep10, hf⟩ := mj_bd hf
                refine mj_callV (T := TX6) (N := 3) (ci := 6) mX6_testAt [.int v3] 43 rfl ll_X8_232 lb_X6_testAt li_X6_testAt ⟨Nat.le_of_ble_eq_true rfl, Nat.le_of_ble_eq_true rfl⟩ rfl gp10 rfl (rest := []) rfl (Nat.le_of_ble_eq_true rfl) ⟨Nat.le_of_ble_eq_true rfl, Nat.le_of_ble_eq_true rfl⟩ (c_X6_testAt x9 v3 p6.2 p10 ep10) ?_
                show mj_W mX8_sift (mj_FI p) 85 [(0, .ref v0), (1, .int v1), (2, .int v2), (3, .int v3)] [.int p10.1] p10.2 0 0
                refine mj_blk k_X8_ok 44 1 (pc' := 90) (l' := [(0, .ref v0), (1, .int v1), (2, .int v2), (3, .int v3)]) (st' := [.int p10.1]) rfl ?_
                obtain rfl := Option.some.inj hf
                exact mj_end (some (.int p10.1)) ⟨mj_dec tok_X8_sift (a := 46) rfl, .int, rfl, rfl⟩ ⟨rfl, rfl⟩ (Nat.le_of_ble_eq_true rfl) (Nat.le_of_ble_eq_true rfl)
            · have hf := (if_pos q).symm.trans hf
              refine mj_blk k_X8_ok 31 1 (pc' := 59) (l' := [(0, .ref v0), (1, .int v1), (2, .int v2), (3, .int v3)]) (st' := [.ref v0]) rfl ?_
              obtain ⟨x11, ex11, hf⟩ := mj_bd hf
              refine mj_get 32 rfl fl_X8_57 (mj_gR_V ex11) ?_
              obtain ⟨x12, ex12, hf⟩ := mj_bd hf
              refine mj_get 33 rfl fl_X8_231 (mj_gI_V ex12) ?_
              obtain rfl := Option.some.inj hf
              exact mj_end (some (.int x12)) ⟨mj_dec tok_X8_sift (a := 34) rfl, .int, rfl, rfl⟩ ⟨rfl, rfl⟩ (Nat.le_of_ble_eq_true rfl) (Nat.le_of_ble_eq_true rfl)
          · have hf := (if_pos q).symm.trans hf
            refine mj_blk k_X8_ok 26 1 (pc' := 52) (l' := [(0, .ref v0), (1, .int v1), (2, .int v2), (3, .int v3)]) (st' := [.int (-1 : Int32)]) rfl ?_
            obtain rfl := Option.some.inj hf
            exact mj_end (some (.int (-1 : Int32))) ⟨mj_dec tok_X8_sift (a := 27) rfl, .int, rfl, rfl⟩ ⟨rfl, rfl⟩ (Nat.le_of_ble_eq_true rfl) (Nat.le_of_ble_eq_true rfl)
        · have hf := (if_neg q).symm.trans hf
          refine mj_locs [0] (l' := [(0, .ref v0)]) rfl ?_
          exact w_X8_sift_26 v0 p3.2 _ hf
def b_X8_runs_31 (K31 : Nat → Int32 → Int32 → Int32 → mj_H → Option (Int32 × mj_H)) (v0 : Nat) (v2 : Int32) (v3 : Int32) (v4 : Int32) (h : mj_H) : Option (Int32 × mj_H) := (mj_gR h v0 8 0).bind fun x1 => (mj_gI h x1 0 4).bind fun x2 => (if x2 ≤ v4 then some (v3, h) else (mj_gR h v0 8 0).bind fun x3 => (if mj_ob h x3 0 = true then (f_X0_besides x3 v4 h).bind fun p4 => K31 v0 (v2 ||| p4.1) (v3 ||| (v2 &&& ((1 : Int32) <<< (v4 &&& 31)))) (v4 + (1 : Int32)) p4.2 else none))
set_option maxHeartbeats 4000000 in
set_option maxRecDepth 100000 in
theorem wb_X8_runs_31 (K31 : Nat → Int32 → Int32 → Int32 → mj_H → Option (Int32 × mj_H)) (hK31 : ∀ (v0 : Nat) (v2 : Int32) (v3 : Int32) (v4 : Int32)  (h : mj_H) (p : Int32 × mj_H), K31 v0 v2 v3 v4 h = some p → mj_W mX8_runs (mj_FI p) 31 [(0, .ref v0), (2, .int v2), (3, .int v3), (4, .int v4)] [] h 0 0) (v0 : Nat) (v2 : Int32) (v3 : Int32) (v4 : Int32) (h : mj_H) (p : Int32 × mj_H) (hf : b_X8_runs_31  K31 v0 v2 v3 v4 h = some p) : mj_W mX8_runs (mj_FI p) 31 [(0, .ref v0), (2, .int v2), (3, .int v3), (4, .int v4)] [] h 0 0 := by
  unfold b_X8_runs_31 at hf
  refine mj_blk k_X8_ok 17 2 (pc' := 34) (l' := [(0, .ref v0), (2, .int v2), (3, .int v3), (4, .int v4)]) (st' := [.ref v0, .int v4]) rfl ?_
  obtain ⟨x1, ex1, hf⟩ := mj_bd hf
  refine mj_get 19 rfl fl_X8_10 (mj_gR_V ex1) ?_
  obtain ⟨x2, ex2, hf⟩ := mj_bd hf
  refine mj_get 20 rfl fl_X8_205 (mj_gI_V ex2) ?_
  refine mj_icmp_ge 21 70 rfl (by decide) (fun q => ?_) (fun q => ?_)
  · have hf := (if_pos q).symm.trans hf
    refine mj_blk k_X8_ok 39 1 (pc' := 71) (l' := [(0, .ref v0), (2, .int v2), (3, .int v3), (4, .int v4)]) (st' := [.int v3]) rfl ?_
    obtain rfl := Option.some.inj hf
    exact mj_end (some (.int v3)) ⟨mj_dec tok_X8_runs (a := 40) rfl, .int, rfl, rfl⟩ ⟨rfl, rfl⟩ (Nat.le_of_ble_eq_true rfl) (Nat.le_of_ble_eq_true rfl)
  · have hf := (if_neg q).symm.trans hf
    refine mj_blk k_X8_ok 22 10 (pc' := 54) (l' := [(3, .int (v3 ||| (v2 &&& ((1 : Int32) <<< (v4 &&& 31))))), (0, .ref v0), (2, .int v2), (4, .int v4)]) (st' := [.ref v0, .int v2]) rfl ?_
    obtain ⟨x3, ex3, hf⟩ := mj_bd hf
    refine mj_get 32 rfl fl_X8_10 (mj_gR_V ex3) ?_
    refine mj_blk k_X8_ok 33 1 (pc' := 59) (l' := [(3, .int (v3 ||| (v2 &&& ((1 : Int32) <<< (v4 &&& 31))))), (0, .ref v0), (2, .int v2), (4, .int v4)]) (st' := [.int v4, .ref x3, .int v2]) rfl ?_
    obtain ⟨gp4, hf⟩ := mj_gd hf
    obtain ⟨p4, ep4, hf⟩ := mj_bd hf
    refine mj_callV (T := TX0) (N := 7) (ci := 0) mX0_besides [.int v4] 34 rfl ll_X8_238 lb_X0_besides li_X0_besides ⟨Nat.le_of_ble_eq_true rfl, Nat.le_of_ble_eq_true rfl⟩ rfl gp4 rfl (rest := [.int v2]) rfl (Nat.le_of_ble_eq_true rfl) ⟨Nat.le_of_ble_eq_true rfl, Nat.le_of_ble_eq_true rfl⟩ (c_X0_besides x3 v4 h p4 ep4) ?_
    show mj_W mX8_runs (mj_FI p) 62 [(3, .int (v3 ||| (v2 &&& ((1 : Int32) <<< (v4 &&& 31))))), (0, .ref v0), (2, .int v2), (4, .int v4)] [.int p4.1, .int v2] p4.2 0 0
    refine mj_blk k_X8_ok 35 4 (pc' := 31) (l' := [(4, .int (v4 + (1 : Int32))), (2, .int (v2 ||| p4.1)), (3, .int (v3 ||| (v2 &&& ((1 : Int32) <<< (v4 &&& 31))))), (0, .ref v0)]) (st' := []) rfl ?_
    refine mj_locs [3, 1, 2, 0] (l' := [(0, .ref v0), (2, .int (v2 ||| p4.1)), (3, .int (v3 ||| (v2 &&& ((1 : Int32) <<< (v4 &&& 31))))), (4, .int (v4 + (1 : Int32)))]) rfl ?_
    exact hK31 v0 (v2 ||| p4.1) (v3 ||| (v2 &&& ((1 : Int32) <<< (v4 &&& 31)))) (v4 + (1 : Int32)) p4.2 _ hf
def f_X8_runs_31 (v0 : Nat) (v2 : Int32) (v3 : Int32) (v4 : Int32) (h : mj_H) : Option (Int32 × mj_H) := mj_fix (fun (K31 : (Nat × Int32 × Int32 × Int32 × mj_H) → Option (Int32 × mj_H)) (s : Nat × Int32 × Int32 × Int32 × mj_H) => b_X8_runs_31  (fun v0 v2 v3 v4 h => K31 (v0, v2, v3, v4, h)) s.1 s.2.1 s.2.2.1 s.2.2.2.1 s.2.2.2.2) 1000 (v0, v2, v3, v4, h)
set_option maxHeartbeats 4000000 in
set_option maxRecDepth 100000 in
theorem w_X8_runs_31 (v0 : Nat) (v2 : Int32) (v3 : Int32) (v4 : Int32) (h : mj_H) (p : Int32 × mj_H) (hf : f_X8_runs_31  v0 v2 v3 v4 h = some p) : mj_W mX8_runs (mj_FI p) 31 [(0, .ref v0), (2, .int v2), (3, .int v3), (4, .int v4)] [] h 0 0 := by
  unfold f_X8_runs_31 at hf
  exact mj_fix_ind (F := (fun (K31 : (Nat × Int32 × Int32 × Int32 × mj_H) → Option (Int32 × mj_H)) (s : Nat × Int32 × Int32 × Int32 × mj_H) => b_X8_runs_31  (fun v0 v2 v3 v4 h => K31 (v0, v2, v3, v4, h)) s.1 s.2.1 s.2.2.1 s.2.2.2.1 s.2.2.2.2)) (P := fun s p => mj_W mX8_runs (mj_FI p) 31 [(0, .ref s.1), (2, .int s.2.1), (3, .int s.2.2.1), (4, .int s.2.2.2.1)] [] s.2.2.2.2 0 0) (fun K31 hK31 s p hf => wb_X8_runs_31   (fun v0 v2 v3 v4 h => K31 (v0, v2, v3, v4, h)) (fun v0 v2 v3 v4 h p e => hK31 (v0, v2, v3, v4, h) p e) s.1 s.2.1 s.2.2.1 s.2.2.2.1 s.2.2.2.2 p hf) 1000 (v0, v2, v3, v4, h) p hf
def f_X8_runs (v0 : Nat) (v1 : Int32) (h : mj_H) : Option (Int32 × mj_H) := (mj_gR h v0 8 0).bind fun x5 => (if mj_ob h x5 0 = true then (f_X0_has x5 v1 h).bind fun p6 => (if p6.1 = 0 then (if mj_ob p6.2 v0 8 = true then (f_X8_refused v0 (-2 : Int32) p6.2).bind fun p9 => some (p9.1, p9.2) else none) else (mj_gR p6.2 v0 8 0).bind fun x7 => (mj_gI p6.2 x7 0 5).bind fun x8 => f_X8_runs_31 v0 x8 (0 : Int32) v1 p6.2) else none)
set_option maxHeartbeats 4000000 in
set_option maxRecDepth 100000 in
theorem c_X8_runs (v0 : Nat) (v1 : Int32) (h : mj_H) (p : Int32 × mj_H) (hf : f_X8_runs v0 v1 h = some p) : mj_Met mX8_runs [.ref v0, .int v1] h (some (.int p.1)) p.2 := by
  refine mj_met pl_X8 tok_X8_runs (Nat.le_of_ble_eq_true rfl) ?_
  show mj_W mX8_runs (mj_FI p) 0 [(0, .ref v0), (1, .int v1)] [] h 0 0
  unfold f_X8_runs at hf
  refine mj_blk k_X8_ok 0 1 (pc' := 1) (l' := [(0, .ref v0), (1, .int v1)]) (st' := [.ref v0]) rfl ?_
  obtain ⟨x5, ex5, hf⟩ := mj_bd hf
  refine mj_get 1 rfl fl_X8_10 (mj_gR_V ex5) ?_
  refine mj_blk k_X8_ok 2 1 (pc' := 5) (l' := [(0, .ref v0), (1, .int v1)]) (st' := [.int v1, .ref x5]) rfl ?_
  obtain ⟨gp6, hf⟩ := mj_gd hf
  obtain ⟨p6, ep6, hf⟩ := mj_bd hf
  refine mj_callV (T := TX0) (N := 7) (ci := 0) mX0_has [.int v1] 3 rfl ll_X8_129 lb_X0_has li_X0_has ⟨Nat.le_of_ble_eq_true rfl, Nat.le_of_ble_eq_true rfl⟩ rfl gp6 rfl (rest := []) rfl (Nat.le_of_ble_eq_true rfl) ⟨Nat.le_of_ble_eq_true rfl, Nat.le_of_ble_eq_true rfl⟩ (c_X0_has x5 v1 h p6 ep6) ?_
  show mj_W mX8_runs (mj_FI p) 8 [(0, .ref v0), (1, .int v1)] [.int p6.1] p6.2 0 0
  refine mj_if_ne 4 18 rfl (by decide) (fun q => ?_) (fun q => ?_)
  · have hf := (if_neg q).symm.trans hf
    refine mj_blk k_X8_ok 9 1 (pc' := 19) (l' := [(0, .ref v0), (1, .int v1)]) (st' := [.ref v0]) rfl ?_
    obtain ⟨x7, ex7, hf⟩ := mj_bd hf
    refine mj_get 10 rfl fl_X8_10 (mj_gR_V ex7) ?_
    obtain ⟨x8, ex8, hf⟩ := mj_bd hf
    refine mj_get 11 rfl fl_X8_235 (mj_gI_V ex8) ?_
    refine mj_blk k_X8_ok 12 5 (pc' := 31) (l' := [(4, .int v1), (3, .int (0 : Int32)), (2, .int x8), (0, .ref v0), (1, .int v1)]) (st' := []) rfl ?_
    refine mj_locs [3, 2, 1, 0] (l' := [(0, .ref v0), (2, .int x8), (3, .int (0 : Int32)), (4, .int v1)]) rfl ?_
    exact w_X8_runs_31 v0 x8 (0 : Int32) v1 p6.2 _ hf
  · have hf := (if_pos q).symm.trans hf
    refine mj_blk k_X8_ok 5 2 (pc' := 14) (l' := [(0, .ref v0), (1, .int v1)]) (st' := [.int (-2 : Int32), .ref v0]) rfl ?_
    obtain ⟨gp9, hf⟩ := mj_gd hf
    obtain ⟨p9, ep9, hf⟩ := mj_bd hf
    refine mj_callV (T := TX8) (N := 14) (ci := 8) mX8_refused [.int (-2 : Int32)] 7 rfl ll_X8_102 lb_X8_refused li_X8_refused ⟨Nat.le_of_ble_eq_true rfl, Nat.le_of_ble_eq_true rfl⟩ rfl gp9 rfl (rest := []) rfl (Nat.le_of_ble_eq_true rfl) ⟨Nat.le_of_ble_eq_true rfl, Nat.le_of_ble_eq_true rfl⟩ (c_X8_refused v0 (-2 : Int32) p6.2 p9 ep9) ?_
    show mj_W mX8_runs (mj_FI p) 17 [(0, .ref v0), (1, .int v1)] [.int p9.1] p9.2 0 0
    obtain rfl := Option.some.inj hf
    exact mj_end (some (.int p9.1)) ⟨mj_dec tok_X8_runs (a := 8) rfl, .int, rfl, rfl⟩ ⟨rfl, rfl⟩ (Nat.le_of_ble_eq_true rfl) (Nat.le_of_ble_eq_true rfl)
def f_X8_mayStay_96 (K2 : Nat → Int32 → Int32 → Int32 → mj_H → Option (Int32 × mj_H)) (K18 : Nat → Int32 → Int32 → Int32 → Int32 → mj_H → Option (Int32 × mj_H)) (v0 : Nat) (v1 : Int32) (v2 : Int32) (v3 : Int32) (v4 : Int32) (h : mj_H) : Option (Int32 × mj_H) := K18 v0 v1 v2 v3 (v4 + (1 : Int32)) h
set_option maxHeartbeats 4000000 in
set_option maxRecDepth 100000 in
theorem w_X8_mayStay_96 (K2 : Nat → Int32 → Int32 → Int32 → mj_H → Option (Int32 × mj_H)) (K18 : Nat → Int32 → Int32 → Int32 → Int32 → mj_H → Option (Int32 × mj_H)) (hK2 : ∀ (v0 : Nat) (v1 : Int32) (v2 : Int32) (v3 : Int32)  (h : mj_H) (p : Int32 × mj_H), K2 v0 v1 v2 v3 h = some p → mj_W mX8_mayStay (mj_FI p) 2 [(0, .ref v0), (1, .int v1), (2, .int v2), (3, .int v3)] [] h 0 0) (hK18 : ∀ (v0 : Nat) (v1 : Int32) (v2 : Int32) (v3 : Int32) (v4 : Int32)  (h : mj_H) (p : Int32 × mj_H), K18 v0 v1 v2 v3 v4 h = some p → mj_W mX8_mayStay (mj_FI p) 18 [(0, .ref v0), (1, .int v1), (2, .int v2), (3, .int v3), (4, .int v4)] [] h 0 0) (v0 : Nat) (v1 : Int32) (v2 : Int32) (v3 : Int32) (v4 : Int32) (h : mj_H) (p : Int32 × mj_H) (hf : f_X8_mayStay_96 K2 K18 v0 v1 v2 v3 v4 h = some p) : mj_W mX8_mayStay (mj_FI p) 96 [(0, .ref v0), (1, .int v1), (2, .int v2), (3, .int v3), (4, .int v4)] [] h 0 0 := by
  unfold f_X8_mayStay_96 at hf
  refine mj_blk k_X8_ok 49 2 (pc' := 18) (l' := [(4, .int (v4 + (1 : Int32))), (0, .ref v0), (1, .int v1), (2, .int v2), (3, .int v3)]) (st' := []) rfl ?_
  refine mj_locs [1, 2, 3, 4, 0] (l' := [(0, .ref v0), (1, .int v1), (2, .int v2), (3, .int v3), (4, .int (v4 + (1 : Int32)))]) rfl ?_
  exact hK18 v0 v1 v2 v3 (v4 + (1 : Int32)) h _ hf
def f_X8_mayStay_52 (K2 : Nat → Int32 → Int32 → Int32 → mj_H → Option (Int32 × mj_H)) (K18 : Nat → Int32 → Int32 → Int32 → Int32 → mj_H → Option (Int32 × mj_H)) (v0 : Nat) (v1 : Int32) (v2 : Int32) (v3 : Int32) (v4 : Int32) (s0 : Int32) (h : mj_H) : Option (Int32 × mj_H) := (if s0 = 0 then f_X8_mayStay_96 K2 K18 v0 v1 v2 v3 v4 h else (mj_gR h v0 8 0).bind fun x1 => (if mj_ob h x1 0 = true then (f_X0_areBrothers x1 v3 v4 h).bind fun p2 => (if p2.1 = 0 then f_X8_mayStay_96 K2 K18 v0 v1 v2 v3 v4 p2.2 else (mj_gR p2.2 v0 8 5).bind fun x3 => (if mj_ob p2.2 x3 2 = true then (f_X2_trustSeen x3 v3 p2.2).bind fun p4 => (mj_gR p4.2 v0 8 5).bind fun x5 => (if mj_ob p4.2 x5 2 = true then (f_X2_trustSeen x5 v4 p4.2).bind fun p6 => (if v2 ≤ (p4.1 + p6.1) then f_X8_mayStay_96 K2 K18 v0 v1 v2 v3 v4 p6.2 else some ((0 : Int32), p6.2)) else none) else none)) else none))
set_option maxHeartbeats 4000000 in
set_option maxRecDepth 100000 in
theorem w_X8_mayStay_52 (K2 : Nat → Int32 → Int32 → Int32 → mj_H → Option (Int32 × mj_H)) (K18 : Nat → Int32 → Int32 → Int32 → Int32 → mj_H → Option (Int32 × mj_H)) (hK2 : ∀ (v0 : Nat) (v1 : Int32) (v2 : Int32) (v3 : Int32)  (h : mj_H) (p : Int32 × mj_H), K2 v0 v1 v2 v3 h = some p → mj_W mX8_mayStay (mj_FI p) 2 [(0, .ref v0), (1, .int v1), (2, .int v2), (3, .int v3)] [] h 0 0) (hK18 : ∀ (v0 : Nat) (v1 : Int32) (v2 : Int32) (v3 : Int32) (v4 : Int32)  (h : mj_H) (p : Int32 × mj_H), K18 v0 v1 v2 v3 v4 h = some p → mj_W mX8_mayStay (mj_FI p) 18 [(0, .ref v0), (1, .int v1), (2, .int v2), (3, .int v3), (4, .int v4)] [] h 0 0) (v0 : Nat) (v1 : Int32) (v2 : Int32) (v3 : Int32) (v4 : Int32) (s0 : Int32) (h : mj_H) (p : Int32 × mj_H) (hf : f_X8_mayStay_52 K2 K18 v0 v1 v2 v3 v4 s0 h = some p) : mj_W mX8_mayStay (mj_FI p) 52 [(0, .ref v0), (1, .int v1), (2, .int v2), (3, .int v3), (4, .int v4)] [.int s0] h 0 0 := by
  unfold f_X8_mayStay_52 at hf
  refine mj_blk k_X8_ok 27 2 (pc' := 56) (l' := [(5, .int s0), (0, .ref v0), (1, .int v1), (2, .int v2), (3, .int v3), (4, .int v4)]) (st' := [.int s0]) rfl ?_
  refine mj_if_eq 29 96 rfl (by decide) (fun q => ?_) (fun q => ?_)
  · have hf := (if_pos q).symm.trans hf
    refine mj_locs [1, 2, 3, 4, 5] (l' := [(0, .ref v0), (1, .int v1), (2, .int v2), (3, .int v3), (4, .int v4)]) rfl ?_
    exact w_X8_mayStay_96 K2 K18 hK2 hK18 v0 v1 v2 v3 v4 h _ hf
  · have hf := (if_neg q).symm.trans hf
    refine mj_blk k_X8_ok 30 1 (pc' := 60) (l' := [(5, .int s0), (0, .ref v0), (1, .int v1), (2, .int v2), (3, .int v3), (4, .int v4)]) (st' := [.ref v0]) rfl ?_
    obtain ⟨x1, ex1, hf⟩ := mj_bd hf
    refine mj_get 31 rfl fl_X8_10 (mj_gR_V ex1) ?_
    refine mj_blk k_X8_ok 32 2 (pc' := 66) (l' := [(5, .int s0), (0, .ref v0), (1, .int v1), (2, .int v2), (3, .int v3), (4, .int v4)]) (st' := [.int v4, .int v3, .ref x1]) rfl ?_
    obtain ⟨gp2, hf⟩ := mj_gd hf
    obtain ⟨p2, ep2, hf⟩ := mj_bd hf
    refine mj_callV (T := TX0) (N := 7) (ci := 0) mX0_areBrothers [.int v3, .int v4] 34 rfl ll_X8_327 lb_X0_areBrothers li_X0_areBrothers ⟨Nat.le_of_ble_eq_true rfl, Nat.le_of_ble_eq_true rfl⟩ rfl gp2 rfl (rest := []) rfl (Nat.le_of_ble_eq_true rfl) ⟨Nat.le_of_ble_eq_true rfl, Nat.le_of_ble_eq_true rfl⟩ (c_X0_areBrothers x1 v3 v4 h p2 ep2) ?_
    show mj_W mX8_mayStay (mj_FI p) 69 [(5, .int s0), (0, .ref v0), (1, .int v1), (2, .int v2), (3, .int v3), (4, .int v4)] [.int p2.1] p2.2 0 0
    refine mj_if_eq 35 96 rfl (by decide) (fun q => ?_) (fun q => ?_)
    · have hf := (if_pos q).symm.trans hf
      refine mj_locs [1, 2, 3, 4, 5] (l' := [(0, .ref v0), (1, .int v1), (2, .int v2), (3, .int v3), (4, .int v4)]) rfl ?_
      exact w_X8_mayStay_96 K2 K18 hK2 hK18 v0 v1 v2 v3 v4 p2.2 _ hf
    · have hf := (if_neg q).symm.trans hf
      refine mj_blk k_X8_ok 36 1 (pc' := 73) (l' := [(5, .int s0), (0, .ref v0), (1, .int v1), (2, .int v2), (3, .int v3), (4, .int v4)]) (st' := [.ref v0]) rfl ?_
      obtain ⟨x3, ex3, hf⟩ := mj_bd hf
      refine mj_get 37 rfl fl_X8_43 (mj_gR_V ex3) ?_
      refine mj_blk k_X8_ok 38 1 (pc' := 77) (l' := [(5, .int s0), (0, .ref v0), (1, .int v1), (2, .int v2), (3, .int v3), (4, .int v4)]) (st' := [.int v3, .ref x3]) rfl ?_
      obtain ⟨gp4, hf⟩ := mj_gd hf
      obtain ⟨p4, ep4, hf⟩ := mj_bd hf
      refine mj_callV (T := TX2) (N := 3) (ci := 2) mX2_trustSeen [.int v3] 39 rfl ll_X8_286 lb_X2_trustSeen li_X2_trustSeen ⟨Nat.le_of_ble_eq_true rfl, Nat.le_of_ble_eq_true rfl⟩ rfl gp4 rfl (rest := []) rfl (Nat.le_of_ble_eq_true rfl) ⟨Nat.le_of_ble_eq_true rfl, Nat.le_of_ble_eq_true rfl⟩ (c_X2_trustSeen x3 v3 p2.2 p4 ep4) ?_
      show mj_W mX8_mayStay (mj_FI p) 80 [(5, .int s0), (0, .ref v0), (1, .int v1), (2, .int v2), (3, .int v3), (4, .int v4)] [.int p4.1] p4.2 0 0
      refine mj_blk k_X8_ok 40 1 (pc' := 81) (l' := [(5, .int s0), (0, .ref v0), (1, .int v1), (2, .int v2), (3, .int v3), (4, .int v4)]) (st' := [.ref v0, .int p4.1]) rfl ?_
      obtain ⟨x5, ex5, hf⟩ := mj_bd hf
      refine mj_get 41 rfl fl_X8_43 (mj_gR_V ex5) ?_
      refine mj_blk k_X8_ok 42 1 (pc' := 86) (l' := [(5, .int s0), (0, .ref v0), (1, .int v1), (2, .int v2), (3, .int v3), (4, .int v4)]) (st' := [.int v4, .ref x5, .int p4.1]) rfl ?_
      obtain ⟨gp6, hf⟩ := mj_gd hf
      obtain ⟨p6, ep6, hf⟩ := mj_bd hf
      refine mj_callV (T := TX2) (N := 3) (ci := 2) mX2_trustSeen [.int v4] 43 rfl ll_X8_286 lb_X2_trustSeen li_X2_trustSeen ⟨Nat.le_of_ble_eq_true rfl, Nat.le_of_ble_eq_true rfl⟩ rfl gp6 rfl (rest := [.int p4.1]) rfl (Nat.le_of_ble_eq_true rfl) ⟨Nat.le_of_ble_eq_true rfl, Nat.le_of_ble_eq_true rfl⟩ (c_X2_trustSeen x5 v4 p4.2 p6 ep6) ?_
      show mj_W mX8_mayStay (mj_FI p) 89 [(5, .int s0), (0, .ref v0), (1, .int v1), (2, .int v2), (3, .int v3), (4, .int v4)] [.int p6.1, .int p4.1] p6.2 0 0
      refine mj_blk k_X8_ok 44 2 (pc' := 91) (l' := [(5, .int s0), (0, .ref v0), (1, .int v1), (2, .int v2), (3, .int v3), (4, .int v4)]) (st' := [.int v2, .int (p4.1 + p6.1)]) rfl ?_
      refine mj_icmp_ge 46 96 rfl (by decide) (fun q => ?_) (fun q => ?_)
      · have hf := (if_pos q).symm.trans hf
        refine mj_locs [1, 2, 3, 4, 5] (l' := [(0, .ref v0), (1, .int v1), (2, .int v2), (3, .int v3), (4, .int v4)]) rfl ?_
        exact w_X8_mayStay_96 K2 K18 hK2 hK18 v0 v1 v2 v3 v4 p6.2 _ hf
      · have hf := (if_neg q).symm.trans hf
        refine mj_blk k_X8_ok 47 1 (pc' := 95) (l' := [(5, .int s0), (0, .ref v0), (1, .int v1), (2, .int v2), (3, .int v3), (4, .int v4)]) (st' := [.int (0 : Int32)]) rfl ?_
        obtain rfl := Option.some.inj hf
        exact mj_end (some (.int (0 : Int32))) ⟨mj_dec tok_X8_mayStay (a := 48) rfl, .boolean, rfl, rfl⟩ ⟨rfl, rfl⟩ (Nat.le_of_ble_eq_true rfl) (Nat.le_of_ble_eq_true rfl)
def f_X8_mayStay_51 (K2 : Nat → Int32 → Int32 → Int32 → mj_H → Option (Int32 × mj_H)) (K18 : Nat → Int32 → Int32 → Int32 → Int32 → mj_H → Option (Int32 × mj_H)) (v0 : Nat) (v1 : Int32) (v2 : Int32) (v3 : Int32) (v4 : Int32) (h : mj_H) : Option (Int32 × mj_H) := f_X8_mayStay_52 K2 K18 v0 v1 v2 v3 v4 (0 : Int32) h
set_option maxHeartbeats 4000000 in
set_option maxRecDepth 100000 in
theorem w_X8_mayStay_51 (K2 : Nat → Int32 → Int32 → Int32 → mj_H → Option (Int32 × mj_H)) (K18 : Nat → Int32 → Int32 → Int32 → Int32 → mj_H → Option (Int32 × mj_H)) (hK2 : ∀ (v0 : Nat) (v1 : Int32) (v2 : Int32) (v3 : Int32)  (h : mj_H) (p : Int32 × mj_H), K2 v0 v1 v2 v3 h = some p → mj_W mX8_mayStay (mj_FI p) 2 [(0, .ref v0), (1, .int v1), (2, .int v2), (3, .int v3)] [] h 0 0) (hK18 : ∀ (v0 : Nat) (v1 : Int32) (v2 : Int32) (v3 : Int32) (v4 : Int32)  (h : mj_H) (p : Int32 × mj_H), K18 v0 v1 v2 v3 v4 h = some p → mj_W mX8_mayStay (mj_FI p) 18 [(0, .ref v0), (1, .int v1), (2, .int v2), (3, .int v3), (4, .int v4)] [] h 0 0) (v0 : Nat) (v1 : Int32) (v2 : Int32) (v3 : Int32) (v4 : Int32) (h : mj_H) (p : Int32 × mj_H) (hf : f_X8_mayStay_51 K2 K18 v0 v1 v2 v3 v4 h = some p) : mj_W mX8_mayStay (mj_FI p) 51 [(0, .ref v0), (1, .int v1), (2, .int v2), (3, .int v3), (4, .int v4)] [] h 0 0 := by
  unfold f_X8_mayStay_51 at hf
  refine mj_blk k_X8_ok 26 1 (pc' := 52) (l' := [(0, .ref v0), (1, .int v1), (2, .int v2), (3, .int v3), (4, .int v4)]) (st' := [.int (0 : Int32)]) rfl ?_
  exact w_X8_mayStay_52 K2 K18 hK2 hK18 v0 v1 v2 v3 v4 (0 : Int32) h _ hf
def b_X8_mayStay_18 (K2 : Nat → Int32 → Int32 → Int32 → mj_H → Option (Int32 × mj_H)) (K18 : Nat → Int32 → Int32 → Int32 → Int32 → mj_H → Option (Int32 × mj_H)) (v0 : Nat) (v1 : Int32) (v2 : Int32) (v3 : Int32) (v4 : Int32) (h : mj_H) : Option (Int32 × mj_H) := (mj_gR h v0 8 0).bind fun x7 => (mj_gI h x7 0 4).bind fun x8 => (if x8 ≤ v4 then K2 v0 v1 v2 (v3 + (1 : Int32)) h else (f_X8_isIn v1 v3 h).bind fun p9 => (if p9.1 = 0 then f_X8_mayStay_51 K2 K18 v0 v1 v2 v3 v4 p9.2 else (f_X8_isIn v1 v4 p9.2).bind fun p10 => (if p10.1 = 0 then f_X8_mayStay_51 K2 K18 v0 v1 v2 v3 v4 p10.2 else f_X8_mayStay_52 K2 K18 v0 v1 v2 v3 v4 (1 : Int32) p10.2)))
set_option maxHeartbeats 4000000 in
set_option maxRecDepth 100000 in
theorem wb_X8_mayStay_18 (K2 : Nat → Int32 → Int32 → Int32 → mj_H → Option (Int32 × mj_H)) (hK2 : ∀ (v0 : Nat) (v1 : Int32) (v2 : Int32) (v3 : Int32)  (h : mj_H) (p : Int32 × mj_H), K2 v0 v1 v2 v3 h = some p → mj_W mX8_mayStay (mj_FI p) 2 [(0, .ref v0), (1, .int v1), (2, .int v2), (3, .int v3)] [] h 0 0) (K18 : Nat → Int32 → Int32 → Int32 → Int32 → mj_H → Option (Int32 × mj_H)) (hK18 : ∀ (v0 : Nat) (v1 : Int32) (v2 : Int32) (v3 : Int32) (v4 : Int32)  (h : mj_H) (p : Int32 × mj_H), K18 v0 v1 v2 v3 v4 h = some p → mj_W mX8_mayStay (mj_FI p) 18 [(0, .ref v0), (1, .int v1), (2, .int v2), (3, .int v3), (4, .int v4)] [] h 0 0) (v0 : Nat) (v1 : Int32) (v2 : Int32) (v3 : Int32) (v4 : Int32) (h : mj_H) (p : Int32 × mj_H) (hf : b_X8_mayStay_18 K2 K18 v0 v1 v2 v3 v4 h = some p) : mj_W mX8_mayStay (mj_FI p) 18 [(0, .ref v0), (1, .int v1), (2, .int v2), (3, .int v3), (4, .int v4)] [] h 0 0 := by
  unfold b_X8_mayStay_18 at hf
  refine mj_blk k_X8_ok 11 2 (pc' := 21) (l' := [(0, .ref v0), (1, .int v1), (2, .int v2), (3, .int v3), (4, .int v4)]) (st' := [.ref v0, .int v4]) rfl ?_
  obtain ⟨x7, ex7, hf⟩ := mj_bd hf
  refine mj_get 13 rfl fl_X8_10 (mj_gR_V ex7) ?_
  obtain ⟨x8, ex8, hf⟩ := mj_bd hf
  refine mj_get 14 rfl fl_X8_205 (mj_gI_V ex8) ?_
  refine mj_icmp_ge 15 102 rfl (by decide) (fun q => ?_) (fun q => ?_)
  · have hf := (if_pos q).symm.trans hf
    refine mj_blk k_X8_ok 51 2 (pc' := 2) (l' := [(3, .int (v3 + (1 : Int32))), (0, .ref v0), (1, .int v1), (2, .int v2), (4, .int v4)]) (st' := []) rfl ?_
    refine mj_locs [1, 2, 3, 0] (l' := [(0, .ref v0), (1, .int v1), (2, .int v2), (3, .int (v3 + (1 : Int32)))]) rfl ?_
    exact hK2 v0 v1 v2 (v3 + (1 : Int32)) h _ hf
  · have hf := (if_neg q).symm.trans hf
    refine mj_blk k_X8_ok 16 2 (pc' := 32) (l' := [(0, .ref v0), (1, .int v1), (2, .int v2), (3, .int v3), (4, .int v4)]) (st' := [.int v3, .int v1]) rfl ?_
    obtain ⟨p9, ep9, hf⟩ := mj_bd hf
    refine mj_callS mX8_isIn [.int v1, .int v3] 18 rfl ll_X8_275 lb_X8_isIn li_X8_isIn ⟨Nat.le_of_ble_eq_true rfl, Nat.le_of_ble_eq_true rfl⟩ rfl (rest := []) rfl (Nat.le_of_ble_eq_true rfl) ⟨Nat.le_of_ble_eq_true rfl, Nat.le_of_ble_eq_true rfl⟩ (c_X8_isIn v1 v3 h p9 ep9) ?_
    show mj_W mX8_mayStay (mj_FI p) 35 [(0, .ref v0), (1, .int v1), (2, .int v2), (3, .int v3), (4, .int v4)] [.int p9.1] p9.2 0 0
    refine mj_if_eq 19 51 rfl (by decide) (fun q => ?_) (fun q => ?_)
    · have hf := (if_pos q).symm.trans hf
      exact w_X8_mayStay_51 K2 K18 hK2 hK18 v0 v1 v2 v3 v4 p9.2 _ hf
    · have hf := (if_neg q).symm.trans hf
      refine mj_blk k_X8_ok 20 2 (pc' := 41) (l' := [(0, .ref v0), (1, .int v1), (2, .int v2), (3, .int v3), (4, .int v4)]) (st' := [.int v4, .int v1]) rfl ?_
      obtain ⟨p10, ep10, hf⟩ := mj_bd hf
      refine mj_callS mX8_isIn [.int v1, .int v4] 22 rfl ll_X8_275 lb_X8_isIn li_X8_isIn ⟨Nat.le_of_ble_eq_true rfl, Nat.le_of_ble_eq_true rfl⟩ rfl (rest := []) rfl (Nat.le_of_ble_eq_true rfl) ⟨Nat.le_of_ble_eq_true rfl, Nat.le_of_ble_eq_true rfl⟩ (c_X8_isIn v1 v4 p9.2 p10 ep10) ?_
      show mj_W mX8_mayStay (mj_FI p) 44 [(0, .ref v0), (1, .int v1), (2, .int v2), (3, .int v3), (4, .int v4)] [.int p10.1] p10.2 0 0
      refine mj_if_eq 23 51 rfl (by decide) (fun q => ?_) (fun q => ?_)
      · have hf := (if_pos q).symm.trans hf
        exact w_X8_mayStay_51 K2 K18 hK2 hK18 v0 v1 v2 v3 v4 p10.2 _ hf
      · have hf := (if_neg q).symm.trans hf
        refine mj_blk k_X8_ok 24 2 (pc' := 52) (l' := [(0, .ref v0), (1, .int v1), (2, .int v2), (3, .int v3), (4, .int v4)]) (st' := [.int (1 : Int32)]) rfl ?_
        exact w_X8_mayStay_52 K2 K18 hK2 hK18 v0 v1 v2 v3 v4 (1 : Int32) p10.2 _ hf
def f_X8_mayStay_18 (K2 : Nat → Int32 → Int32 → Int32 → mj_H → Option (Int32 × mj_H)) (v0 : Nat) (v1 : Int32) (v2 : Int32) (v3 : Int32) (v4 : Int32) (h : mj_H) : Option (Int32 × mj_H) := mj_fix (fun (K18 : (Nat × Int32 × Int32 × Int32 × Int32 × mj_H) → Option (Int32 × mj_H)) (s : Nat × Int32 × Int32 × Int32 × Int32 × mj_H) => b_X8_mayStay_18 K2 (fun v0 v1 v2 v3 v4 h => K18 (v0, v1, v2, v3, v4, h)) s.1 s.2.1 s.2.2.1 s.2.2.2.1 s.2.2.2.2.1 s.2.2.2.2.2) 1000 (v0, v1, v2, v3, v4, h)
set_option maxHeartbeats 4000000 in
set_option maxRecDepth 100000 in
theorem w_X8_mayStay_18 (K2 : Nat → Int32 → Int32 → Int32 → mj_H → Option (Int32 × mj_H)) (hK2 : ∀ (v0 : Nat) (v1 : Int32) (v2 : Int32) (v3 : Int32)  (h : mj_H) (p : Int32 × mj_H), K2 v0 v1 v2 v3 h = some p → mj_W mX8_mayStay (mj_FI p) 2 [(0, .ref v0), (1, .int v1), (2, .int v2), (3, .int v3)] [] h 0 0) (v0 : Nat) (v1 : Int32) (v2 : Int32) (v3 : Int32) (v4 : Int32) (h : mj_H) (p : Int32 × mj_H) (hf : f_X8_mayStay_18 K2 v0 v1 v2 v3 v4 h = some p) : mj_W mX8_mayStay (mj_FI p) 18 [(0, .ref v0), (1, .int v1), (2, .int v2), (3, .int v3), (4, .int v4)] [] h 0 0 := by
  unfold f_X8_mayStay_18 at hf
  exact mj_fix_ind (F := (fun (K18 : (Nat × Int32 × Int32 × Int32 × Int32 × mj_H) → Option (Int32 × mj_H)) (s : Nat × Int32 × Int32 × Int32 × Int32 × mj_H) => b_X8_mayStay_18 K2 (fun v0 v1 v2 v3 v4 h => K18 (v0, v1, v2, v3, v4, h)) s.1 s.2.1 s.2.2.1 s.2.2.2.1 s.2.2.2.2.1 s.2.2.2.2.2)) (P := fun s p => mj_W mX8_mayStay (mj_FI p) 18 [(0, .ref s.1), (1, .int s.2.1), (2, .int s.2.2.1), (3, .int s.2.2.2.1), (4, .int s.2.2.2.2.1)] [] s.2.2.2.2.2 0 0) (fun K18 hK18 s p hf => wb_X8_mayStay_18 K2 hK2 (fun v0 v1 v2 v3 v4 h => K18 (v0, v1, v2, v3, v4, h)) (fun v0 v1 v2 v3 v4 h p e => hK18 (v0, v1, v2, v3, v4, h) p e) s.1 s.2.1 s.2.2.1 s.2.2.2.1 s.2.2.2.2.1 s.2.2.2.2.2 p hf) 1000 (v0, v1, v2, v3, v4, h) p hf
def b_X8_mayStay_2 (K2 : Nat → Int32 → Int32 → Int32 → mj_H → Option (Int32 × mj_H)) (v0 : Nat) (v1 : Int32) (v2 : Int32) (v3 : Int32) (h : mj_H) : Option (Int32 × mj_H) := (mj_gR h v0 8 0).bind fun x11 => (mj_gI h x11 0 4).bind fun x12 => (if x12 ≤ v3 then some ((1 : Int32), h) else f_X8_mayStay_18 K2 v0 v1 v2 v3 (v3 + (1 : Int32)) h)
set_option maxHeartbeats 4000000 in
set_option maxRecDepth 100000 in
theorem wb_X8_mayStay_2 (K2 : Nat → Int32 → Int32 → Int32 → mj_H → Option (Int32 × mj_H)) (hK2 : ∀ (v0 : Nat) (v1 : Int32) (v2 : Int32) (v3 : Int32)  (h : mj_H) (p : Int32 × mj_H), K2 v0 v1 v2 v3 h = some p → mj_W mX8_mayStay (mj_FI p) 2 [(0, .ref v0), (1, .int v1), (2, .int v2), (3, .int v3)] [] h 0 0) (v0 : Nat) (v1 : Int32) (v2 : Int32) (v3 : Int32) (h : mj_H) (p : Int32 × mj_H) (hf : b_X8_mayStay_2  K2 v0 v1 v2 v3 h = some p) : mj_W mX8_mayStay (mj_FI p) 2 [(0, .ref v0), (1, .int v1), (2, .int v2), (3, .int v3)] [] h 0 0 := by
  unfold b_X8_mayStay_2 at hf
  refine mj_blk k_X8_ok 2 2 (pc' := 4) (l' := [(0, .ref v0), (1, .int v1), (2, .int v2), (3, .int v3)]) (st' := [.ref v0, .int v3]) rfl ?_
  obtain ⟨x11, ex11, hf⟩ := mj_bd hf
  refine mj_get 4 rfl fl_X8_10 (mj_gR_V ex11) ?_
  obtain ⟨x12, ex12, hf⟩ := mj_bd hf
  refine mj_get 5 rfl fl_X8_205 (mj_gI_V ex12) ?_
  refine mj_icmp_ge 6 108 rfl (by decide) (fun q => ?_) (fun q => ?_)
  · have hf := (if_pos q).symm.trans hf
    refine mj_blk k_X8_ok 53 1 (pc' := 109) (l' := [(0, .ref v0), (1, .int v1), (2, .int v2), (3, .int v3)]) (st' := [.int (1 : Int32)]) rfl ?_
    obtain rfl := Option.some.inj hf
    exact mj_end (some (.int (1 : Int32))) ⟨mj_dec tok_X8_mayStay (a := 54) rfl, .boolean, rfl, rfl⟩ ⟨rfl, rfl⟩ (Nat.le_of_ble_eq_true rfl) (Nat.le_of_ble_eq_true rfl)
  · have hf := (if_neg q).symm.trans hf
    refine mj_blk k_X8_ok 7 4 (pc' := 18) (l' := [(4, .int (v3 + (1 : Int32))), (0, .ref v0), (1, .int v1), (2, .int v2), (3, .int v3)]) (st' := []) rfl ?_
    refine mj_locs [1, 2, 3, 4, 0] (l' := [(0, .ref v0), (1, .int v1), (2, .int v2), (3, .int v3), (4, .int (v3 + (1 : Int32)))]) rfl ?_
    exact w_X8_mayStay_18 K2 hK2 v0 v1 v2 v3 (v3 + (1 : Int32)) h _ hf
def f_X8_mayStay_2 (v0 : Nat) (v1 : Int32) (v2 : Int32) (v3 : Int32) (h : mj_H) : Option (Int32 × mj_H) := mj_fix (fun (K2 : (Nat × Int32 × Int32 × Int32 × mj_H) → Option (Int32 × mj_H)) (s : Nat × Int32 × Int32 × Int32 × mj_H) => b_X8_mayStay_2  (fun v0 v1 v2 v3 h => K2 (v0, v1, v2, v3, h)) s.1 s.2.1 s.2.2.1 s.2.2.2.1 s.2.2.2.2) 1000 (v0, v1, v2, v3, h)
set_option maxHeartbeats 4000000 in
set_option maxRecDepth 100000 in
theorem w_X8_mayStay_2 (v0 : Nat) (v1 : Int32) (v2 : Int32) (v3 : Int32) (h : mj_H) (p : Int32 × mj_H) (hf : f_X8_mayStay_2  v0 v1 v2 v3 h = some p) : mj_W mX8_mayStay (mj_FI p) 2 [(0, .ref v0), (1, .int v1), (2, .int v2), (3, .int v3)] [] h 0 0 := by
  unfold f_X8_mayStay_2 at hf
  exact mj_fix_ind (F := (fun (K2 : (Nat × Int32 × Int32 × Int32 × mj_H) → Option (Int32 × mj_H)) (s : Nat × Int32 × Int32 × Int32 × mj_H) => b_X8_mayStay_2  (fun v0 v1 v2 v3 h => K2 (v0, v1, v2, v3, h)) s.1 s.2.1 s.2.2.1 s.2.2.2.1 s.2.2.2.2)) (P := fun s p => mj_W mX8_mayStay (mj_FI p) 2 [(0, .ref s.1), (1, .int s.2.1), (2, .int s.2.2.1), (3, .int s.2.2.2.1)] [] s.2.2.2.2 0 0) (fun K2 hK2 s p hf => wb_X8_mayStay_2   (fun v0 v1 v2 v3 h => K2 (v0, v1, v2, v3, h)) (fun v0 v1 v2 v3 h p e => hK2 (v0, v1, v2, v3, h) p e) s.1 s.2.1 s.2.2.1 s.2.2.2.1 s.2.2.2.2 p hf) 1000 (v0, v1, v2, v3, h) p hf
def f_X8_mayStay (v0 : Nat) (v1 : Int32) (v2 : Int32) (h : mj_H) : Option (Int32 × mj_H) := f_X8_mayStay_2 v0 v1 v2 (0 : Int32) h
set_option maxHeartbeats 4000000 in
set_option maxRecDepth 100000 in
theorem c_X8_mayStay (v0 : Nat) (v1 : Int32) (v2 : Int32) (h : mj_H) (p : Int32 × mj_H) (hf : f_X8_mayStay v0 v1 v2 h = some p) : mj_Met mX8_mayStay [.ref v0, .int v1, .int v2] h (some (.int p.1)) p.2 := by
  refine mj_met pl_X8 tok_X8_mayStay (Nat.le_of_ble_eq_true rfl) ?_
  show mj_W mX8_mayStay (mj_FI p) 0 [(0, .ref v0), (1, .int v1), (2, .int v2)] [] h 0 0
  unfold f_X8_mayStay at hf
  refine mj_blk k_X8_ok 0 2 (pc' := 2) (l' := [(3, .int (0 : Int32)), (0, .ref v0), (1, .int v1), (2, .int v2)]) (st' := []) rfl ?_
  refine mj_locs [1, 2, 3, 0] (l' := [(0, .ref v0), (1, .int v1), (2, .int v2), (3, .int (0 : Int32))]) rfl ?_
  exact w_X8_mayStay_2 v0 v1 v2 (0 : Int32) h _ hf
def f_X8_home_79 (K45 : Nat → Int32 → Int32 → Int32 → Int32 → mj_H → Option (Int32 × mj_H)) (v0 : Nat) (v1 : Int32) (v2 : Int32) (v3 : Int32) (v4 : Int32) (h : mj_H) : Option (Int32 × mj_H) := K45 v0 v1 v2 v3 (v4 + (-1 : Int32)) h
set_option maxHeartbeats 4000000 in
set_option maxRecDepth 100000 in
theorem w_X8_home_79 (K45 : Nat → Int32 → Int32 → Int32 → Int32 → mj_H → Option (Int32 × mj_H)) (hK45 : ∀ (v0 : Nat) (v1 : Int32) (v2 : Int32) (v3 : Int32) (v4 : Int32)  (h : mj_H) (p : Int32 × mj_H), K45 v0 v1 v2 v3 v4 h = some p → mj_W mX8_home (mj_FI p) 45 [(0, .ref v0), (1, .int v1), (2, .int v2), (3, .int v3), (4, .int v4)] [] h 0 0) (v0 : Nat) (v1 : Int32) (v2 : Int32) (v3 : Int32) (v4 : Int32) (h : mj_H) (p : Int32 × mj_H) (hf : f_X8_home_79 K45 v0 v1 v2 v3 v4 h = some p) : mj_W mX8_home (mj_FI p) 79 [(0, .ref v0), (1, .int v1), (2, .int v2), (3, .int v3), (4, .int v4)] [] h 0 0 := by
  unfold f_X8_home_79 at hf
  refine mj_blk k_X8_ok 44 2 (pc' := 45) (l' := [(4, .int (v4 + (-1 : Int32))), (0, .ref v0), (1, .int v1), (2, .int v2), (3, .int v3)]) (st' := []) rfl ?_
  refine mj_locs [1, 2, 3, 4, 0] (l' := [(0, .ref v0), (1, .int v1), (2, .int v2), (3, .int v3), (4, .int (v4 + (-1 : Int32)))]) rfl ?_
  exact hK45 v0 v1 v2 v3 (v4 + (-1 : Int32)) h _ hf
def b_X8_home_45 (K45 : Nat → Int32 → Int32 → Int32 → Int32 → mj_H → Option (Int32 × mj_H)) (v0 : Nat) (v1 : Int32) (v2 : Int32) (v3 : Int32) (v4 : Int32) (h : mj_H) : Option (Int32 × mj_H) := (if v4 < 0 then some (v3, h) else (f_J6_bitCount_0f7a4 v4 h).bind fun p1 => (f_J6_bitCount_0f7a4 v3 p1.2).bind fun p2 => (if p2.1 < p1.1 then f_X8_home_79 K45 v0 v1 v2 v3 v4 p2.2 else (if mj_ob p2.2 v0 8 = true then (f_X8_mayStay v0 (v2 &&& (v4 ^^^ (-1 : Int32))) v1 p2.2).bind fun p3 => (if p3.1 = 0 then f_X8_home_79 K45 v0 v1 v2 v3 v4 p3.2 else f_X8_home_79 K45 v0 v1 v2 v4 v4 p3.2) else none)))
set_option maxHeartbeats 4000000 in
set_option maxRecDepth 100000 in
theorem wb_X8_home_45 (K45 : Nat → Int32 → Int32 → Int32 → Int32 → mj_H → Option (Int32 × mj_H)) (hK45 : ∀ (v0 : Nat) (v1 : Int32) (v2 : Int32) (v3 : Int32) (v4 : Int32)  (h : mj_H) (p : Int32 × mj_H), K45 v0 v1 v2 v3 v4 h = some p → mj_W mX8_home (mj_FI p) 45 [(0, .ref v0), (1, .int v1), (2, .int v2), (3, .int v3), (4, .int v4)] [] h 0 0) (v0 : Nat) (v1 : Int32) (v2 : Int32) (v3 : Int32) (v4 : Int32) (h : mj_H) (p : Int32 × mj_H) (hf : b_X8_home_45  K45 v0 v1 v2 v3 v4 h = some p) : mj_W mX8_home (mj_FI p) 45 [(0, .ref v0), (1, .int v1), (2, .int v2), (3, .int v3), (4, .int v4)] [] h 0 0 := by
  unfold b_X8_home_45 at hf
  refine mj_blk k_X8_ok 26 1 (pc' := 47) (l' := [(0, .ref v0), (1, .int v1), (2, .int v2), (3, .int v3), (4, .int v4)]) (st' := [.int v4]) rfl ?_
  refine mj_if_lt 27 85 rfl (by decide) (fun q => ?_) (fun q => ?_)
  · have hf := (if_pos q).symm.trans hf
    refine mj_blk k_X8_ok 46 1 (pc' := 86) (l' := [(0, .ref v0), (1, .int v1), (2, .int v2), (3, .int v3), (4, .int v4)]) (st' := [.int v3]) rfl ?_
    obtain rfl := Option.some.inj hf
    exact mj_end (some (.int v3)) ⟨mj_dec tok_X8_home (a := 47) rfl, .int, rfl, rfl⟩ ⟨rfl, rfl⟩ (Nat.le_of_ble_eq_true rfl) (Nat.le_of_ble_eq_true rfl)
  · have hf := (if_neg q).symm.trans hf
    refine mj_blk k_X8_ok 28 1 (pc' := 52) (l' := [(0, .ref v0), (1, .int v1), (2, .int v2), (3, .int v3), (4, .int v4)]) (st' := [.int v4]) rfl ?_
    obtain ⟨p1, ep1, hf⟩ := mj_bd hf
    refine mj_callS mJ6_bitCount_0f7a4 [.int v4] 29 rfl ll_X8_191 lb_J6_bitCount_0f7a4 li_J6_bitCount_0f7a4 ⟨Nat.le_of_ble_eq_true rfl, Nat.le_of_ble_eq_true rfl⟩ rfl (rest := []) rfl (Nat.le_of_ble_eq_true rfl) ⟨Nat.le_of_ble_eq_true rfl, Nat.le_of_ble_eq_true rfl⟩ (c_J6_bitCount_0f7a4 v4 h p1 ep1) ?_
    show mj_W mX8_home (mj_FI p) 55 [(0, .ref v0), (1, .int v1), (2, .int v2), (3, .int v3), (4, .int v4)] [.int p1.1] p1.2 0 0
    refine mj_blk k_X8_ok 30 1 (pc' := 56) (l' := [(0, .ref v0), (1, .int v1), (2, .int v2), (3, .int v3), (4, .int v4)]) (st' := [.int v3, .int p1.1]) rfl ?_
    obtain ⟨p2, ep2, hf⟩ := mj_bd hf
    refine mj_callS mJ6_bitCount_0f7a4 [.int v3] 31 rfl ll_X8_191 lb_J6_bitCount_0f7a4 li_J6_bitCount_0f7a4 ⟨Nat.le_of_ble_eq_true rfl, Nat.le_of_ble_eq_true rfl⟩ rfl (rest := [.int p1.1]) rfl (Nat.le_of_ble_eq_true rfl) ⟨Nat.le_of_ble_eq_true rfl, Nat.le_of_ble_eq_true rfl⟩ (c_J6_bitCount_0f7a4 v3 p1.2 p2 ep2) ?_
    show mj_W mX8_home (mj_FI p) 59 [(0, .ref v0), (1, .int v1), (2, .int v2), (3, .int v3), (4, .int v4)] [.int p2.1, .int p1.1] p2.2 0 0
    refine mj_icmp_gt 32 79 rfl (by decide) (fun q => ?_) (fun q => ?_)
    · have hf := (if_pos q).symm.trans hf
      exact w_X8_home_79 K45 hK45 v0 v1 v2 v3 v4 p2.2 _ hf
    · have hf := (if_neg q).symm.trans hf
      refine mj_blk k_X8_ok 33 7 (pc' := 70) (l' := [(0, .ref v0), (1, .int v1), (2, .int v2), (3, .int v3), (4, .int v4)]) (st' := [.int v1, .int (v2 &&& (v4 ^^^ (-1 : Int32))), .ref v0]) rfl ?_
      obtain ⟨gp3, hf⟩ := mj_gd hf
      obtain ⟨p3, ep3, hf⟩ := mj_bd hf
      refine mj_callV (T := TX8) (N := 14) (ci := 8) mX8_mayStay [.int (v2 &&& (v4 ^^^ (-1 : Int32))), .int v1] 40 rfl ll_X8_241 lb_X8_mayStay li_X8_mayStay ⟨Nat.le_of_ble_eq_true rfl, Nat.le_of_ble_eq_true rfl⟩ rfl gp3 rfl (rest := []) rfl (Nat.le_of_ble_eq_true rfl) ⟨Nat.le_of_ble_eq_true rfl, Nat.le_of_ble_eq_true rfl⟩ (c_X8_mayStay v0 (v2 &&& (v4 ^^^ (-1 : Int32))) v1 p2.2 p3 ep3) ?_
      show mj_W mX8_home (mj_FI p) 73 [(0, .ref v0), (1, .int v1), (2, .int v2), (3, .int v3), (4, .int v4)] [.int p3.1] p3.2 0 0
      refine mj_if_eq 41 79 rfl (by decide) (fun q => ?_) (fun q => ?_)
      · have hf := (if_pos q).symm.trans hf
        exact w_X8_home_79 K45 hK45 v0 v1 v2 v3 v4 p3.2 _ hf
      · have hf := (if_neg q).symm.trans hf
        refine mj_blk k_X8_ok 42 2 (pc' := 79) (l' := [(3, .int v4), (0, .ref v0), (1, .int v1), (2, .int v2), (4, .int v4)]) (st' := []) rfl ?_
        refine mj_locs [1, 2, 3, 0, 4] (l' := [(0, .ref v0), (1, .int v1), (2, .int v2), (3, .int v4), (4, .int v4)]) rfl ?_
        exact w_X8_home_79 K45 hK45 v0 v1 v2 v4 v4 p3.2 _ hf
def f_X8_home_45 (v0 : Nat) (v1 : Int32) (v2 : Int32) (v3 : Int32) (v4 : Int32) (h : mj_H) : Option (Int32 × mj_H) := mj_fix (fun (K45 : (Nat × Int32 × Int32 × Int32 × Int32 × mj_H) → Option (Int32 × mj_H)) (s : Nat × Int32 × Int32 × Int32 × Int32 × mj_H) => b_X8_home_45  (fun v0 v1 v2 v3 v4 h => K45 (v0, v1, v2, v3, v4, h)) s.1 s.2.1 s.2.2.1 s.2.2.2.1 s.2.2.2.2.1 s.2.2.2.2.2) 1000 (v0, v1, v2, v3, v4, h)
set_option maxHeartbeats 4000000 in
set_option maxRecDepth 100000 in
theorem w_X8_home_45 (v0 : Nat) (v1 : Int32) (v2 : Int32) (v3 : Int32) (v4 : Int32) (h : mj_H) (p : Int32 × mj_H) (hf : f_X8_home_45  v0 v1 v2 v3 v4 h = some p) : mj_W mX8_home (mj_FI p) 45 [(0, .ref v0), (1, .int v1), (2, .int v2), (3, .int v3), (4, .int v4)] [] h 0 0 := by
  unfold f_X8_home_45 at hf
  exact mj_fix_ind (F := (fun (K45 : (Nat × Int32 × Int32 × Int32 × Int32 × mj_H) → Option (Int32 × mj_H)) (s : Nat × Int32 × Int32 × Int32 × Int32 × mj_H) => b_X8_home_45  (fun v0 v1 v2 v3 v4 h => K45 (v0, v1, v2, v3, v4, h)) s.1 s.2.1 s.2.2.1 s.2.2.2.1 s.2.2.2.2.1 s.2.2.2.2.2)) (P := fun s p => mj_W mX8_home (mj_FI p) 45 [(0, .ref s.1), (1, .int s.2.1), (2, .int s.2.2.1), (3, .int s.2.2.2.1), (4, .int s.2.2.2.2.1)] [] s.2.2.2.2.2 0 0) (fun K45 hK45 s p hf => wb_X8_home_45   (fun v0 v1 v2 v3 v4 h => K45 (v0, v1, v2, v3, v4, h)) (fun v0 v1 v2 v3 v4 h p e => hK45 (v0, v1, v2, v3, v4, h) p e) s.1 s.2.1 s.2.2.1 s.2.2.2.1 s.2.2.2.2.1 s.2.2.2.2.2 p hf) 1000 (v0, v1, v2, v3, v4, h) p hf
def f_X8_home_10 (v0 : Nat) (h : mj_H) : Option (Int32 × mj_H) := (if mj_ob h v0 8 = true then (f_X8_refused v0 (-2 : Int32) h).bind fun p4 => some (p4.1, p4.2) else none)
set_option maxHeartbeats 4000000 in
set_option maxRecDepth 100000 in
theorem w_X8_home_10 (v0 : Nat) (h : mj_H) (p : Int32 × mj_H) (hf : f_X8_home_10  v0 h = some p) : mj_W mX8_home (mj_FI p) 10 [(0, .ref v0)] [] h 0 0 := by
  unfold f_X8_home_10 at hf
  refine mj_blk k_X8_ok 5 2 (pc' := 13) (l' := [(0, .ref v0)]) (st' := [.int (-2 : Int32), .ref v0]) rfl ?_
  obtain ⟨gp4, hf⟩ := mj_gd hf
  obtain ⟨p4, ep4, hf⟩ := mj_bd hf
  refine mj_callV (T := TX8) (N := 14) (ci := 8) mX8_refused [.int (-2 : Int32)] 7 rfl ll_X8_102 lb_X8_refused li_X8_refused ⟨Nat.le_of_ble_eq_true rfl, Nat.le_of_ble_eq_true rfl⟩ rfl gp4 rfl (rest := []) rfl (Nat.le_of_ble_eq_true rfl) ⟨Nat.le_of_ble_eq_true rfl, Nat.le_of_ble_eq_true rfl⟩ (c_X8_refused v0 (-2 : Int32) h p4 ep4) ?_
  show mj_W mX8_home (mj_FI p) 16 [(0, .ref v0)] [.int p4.1] p4.2 0 0
  obtain rfl := Option.some.inj hf
  exact mj_end (some (.int p4.1)) ⟨mj_dec tok_X8_home (a := 8) rfl, .int, rfl, rfl⟩ ⟨rfl, rfl⟩ (Nat.le_of_ble_eq_true rfl) (Nat.le_of_ble_eq_true rfl)
def f_X8_home (v0 : Nat) (v1 : Int32) (h : mj_H) : Option (Int32 × mj_H) := (if v1 < 0 then f_X8_home_10 v0 h else (if v1 ≤ (120 : Int32) then (mj_gR h v0 8 5).bind fun x5 => (mj_gR h v0 8 0).bind fun x6 => (if mj_ob h x5 2 = true then (f_X2_seeNow x5 x6 h).bind fun p7 => (mj_gR p7 v0 8 0).bind fun x8 => (mj_gI p7 x8 0 4).bind fun x9 => f_X8_home_45 v0 v1 (((1 : Int32) <<< (x9 &&& 31)) - (1 : Int32)) (((1 : Int32) <<< (x9 &&& 31)) - (1 : Int32)) (((1 : Int32) <<< (x9 &&& 31)) - (1 : Int32)) p7 else none) else f_X8_home_10 v0 h))
set_option maxHeartbeats 4000000 in
set_option maxRecDepth 100000 in
theorem c_X8_home (v0 : Nat) (v1 : Int32) (h : mj_H) (p : Int32 × mj_H) (hf : f_X8_home v0 v1 h = some p) : mj_Met mX8_home [.ref v0, .int v1] h (some (.int p.1)) p.2 := by
  refine mj_met pl_X8 tok_X8_home (Nat.le_of_ble_eq_true rfl) ?_
  show mj_W mX8_home (mj_FI p) 0 [(0, .ref v0), (1, .int v1)] [] h 0 0
  unfold f_X8_home at hf
  refine mj_blk k_X8_ok 0 1 (pc' := 1) (l' := [(0, .ref v0), (1, .int v1)]) (st' := [.int v1]) rfl ?_
  refine mj_if_lt 1 10 rfl (by decide) (fun q => ?_) (fun q => ?_)
  · have hf := (if_pos q).symm.trans hf
    refine mj_locs [0] (l' := [(0, .ref v0)]) rfl ?_
    exact w_X8_home_10 v0 h _ hf
  · have hf := (if_neg q).symm.trans hf
    refine mj_blk k_X8_ok 2 2 (pc' := 7) (l' := [(0, .ref v0), (1, .int v1)]) (st' := [.int (120 : Int32), .int v1]) rfl ?_
    refine mj_icmp_le 4 17 rfl (by decide) (fun q => ?_) (fun q => ?_)
    · have hf := (if_pos q).symm.trans hf
      refine mj_blk k_X8_ok 9 1 (pc' := 18) (l' := [(0, .ref v0), (1, .int v1)]) (st' := [.ref v0]) rfl ?_
      obtain ⟨x5, ex5, hf⟩ := mj_bd hf
      refine mj_get 10 rfl fl_X8_43 (mj_gR_V ex5) ?_
      refine mj_blk k_X8_ok 11 1 (pc' := 22) (l' := [(0, .ref v0), (1, .int v1)]) (st' := [.ref v0, .ref x5]) rfl ?_
      obtain ⟨x6, ex6, hf⟩ := mj_bd hf
      refine mj_get 12 rfl fl_X8_10 (mj_gR_V ex6) ?_
      obtain ⟨gp7, hf⟩ := mj_gd hf
      obtain ⟨p7, ep7, hf⟩ := mj_bd hf
      refine mj_callV (T := TX2) (N := 3) (ci := 2) mX2_seeNow [.ref x6] 13 rfl ll_X8_185 lb_X2_seeNow li_X2_seeNow ⟨Nat.le_of_ble_eq_true rfl, Nat.le_of_ble_eq_true rfl⟩ rfl gp7 rfl (rest := []) rfl (Nat.le_of_ble_eq_true rfl) ⟨Nat.le_of_ble_eq_true rfl, Nat.le_of_ble_eq_true rfl⟩ (c_X2_seeNow x5 x6 h p7 ep7) ?_
      show mj_W mX8_home (mj_FI p) 28 [(0, .ref v0), (1, .int v1)] [] p7 0 0
      refine mj_blk k_X8_ok 14 2 (pc' := 30) (l' := [(0, .ref v0), (1, .int v1)]) (st' := [.ref v0, .int (1 : Int32)]) rfl ?_
      obtain ⟨x8, ex8, hf⟩ := mj_bd hf
      refine mj_get 16 rfl fl_X8_10 (mj_gR_V ex8) ?_
      obtain ⟨x9, ex9, hf⟩ := mj_bd hf
      refine mj_get 17 rfl fl_X8_205 (mj_gI_V ex9) ?_
      refine mj_blk k_X8_ok 18 8 (pc' := 45) (l' := [(4, .int (((1 : Int32) <<< (x9 &&& 31)) - (1 : Int32))), (3, .int (((1 : Int32) <<< (x9 &&& 31)) - (1 : Int32))), (2, .int (((1 : Int32) <<< (x9 &&& 31)) - (1 : Int32))), (0, .ref v0), (1, .int v1)]) (st' := []) rfl ?_
      refine mj_locs [3, 4, 2, 1, 0] (l' := [(0, .ref v0), (1, .int v1), (2, .int (((1 : Int32) <<< (x9 &&& 31)) - (1 : Int32))), (3, .int (((1 : Int32) <<< (x9 &&& 31)) - (1 : Int32))), (4, .int (((1 : Int32) <<< (x9 &&& 31)) - (1 : Int32)))]) rfl ?_
      exact w_X8_home_45 v0 v1 (((1 : Int32) <<< (x9 &&& 31)) - (1 : Int32)) (((1 : Int32) <<< (x9 &&& 31)) - (1 : Int32)) (((1 : Int32) <<< (x9 &&& 31)) - (1 : Int32)) p7 _ hf
    · have hf := (if_neg q).symm.trans hf
      refine mj_locs [0] (l' := [(0, .ref v0)]) rfl ?_
      exact w_X8_home_10 v0 h _ hf
def f_X8_spy_61 (v0 : Nat) (v1 : Int32) (s0 : Int32) (h : mj_H) : Option (Int32 × mj_H) := (mj_gR h v0 8 0).bind fun x1 => (if mj_ob h x1 0 = true then (f_X0_trustOf x1 v1 h).bind fun p2 => some ((s0 - p2.1), p2.2) else none)
set_option maxHeartbeats 4000000 in
set_option maxRecDepth 100000 in
theorem w_X8_spy_61 (v0 : Nat) (v1 : Int32) (s0 : Int32) (h : mj_H) (p : Int32 × mj_H) (hf : f_X8_spy_61  v0 v1 s0 h = some p) : mj_W mX8_spy (mj_FI p) 61 [(0, .ref v0), (1, .int v1)] [.int s0] h 0 0 := by
  unfold f_X8_spy_61 at hf
  refine mj_blk k_X8_ok 29 3 (pc' := 64) (l' := [(2, .int s0), (0, .ref v0), (1, .int v1)]) (st' := [.ref v0, .int s0]) rfl ?_
  obtain ⟨x1, ex1, hf⟩ := mj_bd hf
  refine mj_get 32 rfl fl_X8_10 (mj_gR_V ex1) ?_
  refine mj_blk k_X8_ok 33 1 (pc' := 68) (l' := [(2, .int s0), (0, .ref v0), (1, .int v1)]) (st' := [.int v1, .ref x1, .int s0]) rfl ?_
  obtain ⟨gp2, hf⟩ := mj_gd hf
  obtain ⟨p2, ep2, hf⟩ := mj_bd hf
  refine mj_callV (T := TX0) (N := 7) (ci := 0) mX0_trustOf [.int v1] 34 rfl ll_X8_149 lb_X0_trustOf li_X0_trustOf ⟨Nat.le_of_ble_eq_true rfl, Nat.le_of_ble_eq_true rfl⟩ rfl gp2 rfl (rest := [.int s0]) rfl (Nat.le_of_ble_eq_true rfl) ⟨Nat.le_of_ble_eq_true rfl, Nat.le_of_ble_eq_true rfl⟩ (c_X0_trustOf x1 v1 h p2 ep2) ?_
  show mj_W mX8_spy (mj_FI p) 71 [(2, .int s0), (0, .ref v0), (1, .int v1)] [.int p2.1, .int s0] p2.2 0 0
  refine mj_blk k_X8_ok 35 1 (pc' := 72) (l' := [(2, .int s0), (0, .ref v0), (1, .int v1)]) (st' := [.int (s0 - p2.1)]) rfl ?_
  obtain rfl := Option.some.inj hf
  exact mj_end (some (.int (s0 - p2.1))) ⟨mj_dec tok_X8_spy (a := 36) rfl, .int, rfl, rfl⟩ ⟨rfl, rfl⟩ (Nat.le_of_ble_eq_true rfl) (Nat.le_of_ble_eq_true rfl)
def f_X8_spy (v0 : Nat) (v1 : Int32) (h : mj_H) : Option (Int32 × mj_H) := (mj_gR h v0 8 0).bind fun x3 => (if mj_ob h x3 0 = true then (f_X0_has x3 v1 h).bind fun p4 => (if p4.1 = 0 then (if mj_ob p4.2 v0 8 = true then (f_X8_refused v0 (-2 : Int32) p4.2).bind fun p14 => some (p14.1, p14.2) else none) else (mj_gR p4.2 v0 8 6).bind fun x5 => (mj_gR p4.2 v0 8 0).bind fun x6 => (if mj_ob p4.2 x5 5 = true then (f_X5_load x5 x6 v1 p4.2).bind fun p7 => (mj_gR p7 v0 8 6).bind fun x8 => (if mj_ob p7 x8 5 = true then (f_X5_dropSpy x8 p7).bind fun p9 => (mj_gR p9 v0 8 6).bind fun x10 => (if mj_ob p9 x10 5 = true then (f_X5_isEmpty x10 p9).bind fun p11 => (if p11.1 = 0 then (mj_gR p11.2 v0 8 6).bind fun x12 => (if mj_ob p11.2 x12 5 = true then (f_X5_chance x12 (3 : Int32) (0 : Int32) p11.2).bind fun p13 => f_X8_spy_61 v0 v1 p13.1 p13.2 else none) else f_X8_spy_61 v0 v1 (60 : Int32) p11.2) else none) else none) else none)) else none)
set_option maxHeartbeats 4000000 in
set_option maxRecDepth 100000 in
theorem c_X8_spy (v0 : Nat) (v1 : Int32) (h : mj_H) (p : Int32 × mj_H) (hf : f_X8_spy v0 v1 h = some p) : mj_Met mX8_spy [.ref v0, .int v1] h (some (.int p.1)) p.2 := by
  refine mj_met pl_X8 tok_X8_spy (Nat.le_of_ble_eq_true rfl) ?_
  show mj_W mX8_spy (mj_FI p) 0 [(0, .ref v0), (1, .int v1)] [] h 0 0
  unfold f_X8_spy at hf
  refine mj_blk k_X8_ok 0 1 (pc' := 1) (l' := [(0, .ref v0), (1, .int v1)]) (st' := [.ref v0]) rfl ?_
  obtain ⟨x3, ex3, hf⟩ := mj_bd hf
  refine mj_get 1 rfl fl_X8_10 (mj_gR_V ex3) ?_
  refine mj_blk k_X8_ok 2 1 (pc' := 5) (l' := [(0, .ref v0), (1, .int v1)]) (st' := [.int v1, .ref x3]) rfl ?_
  obtain ⟨gp4, hf⟩ := mj_gd hf
  obtain ⟨p4, ep4, hf⟩ := mj_bd hf
  refine mj_callV (T := TX0) (N := 7) (ci := 0) mX0_has [.int v1] 3 rfl ll_X8_129 lb_X0_has li_X0_has ⟨Nat.le_of_ble_eq_true rfl, Nat.le_of_ble_eq_true rfl⟩ rfl gp4 rfl (rest := []) rfl (Nat.le_of_ble_eq_true rfl) ⟨Nat.le_of_ble_eq_true rfl, Nat.le_of_ble_eq_true rfl⟩ (c_X0_has x3 v1 h p4 ep4) ?_
  show mj_W mX8_spy (mj_FI p) 8 [(0, .ref v0), (1, .int v1)] [.int p4.1] p4.2 0 0
  refine mj_if_ne 4 18 rfl (by decide) (fun q => ?_) (fun q => ?_)
  · have hf := (if_neg q).symm.trans hf
    refine mj_blk k_X8_ok 9 1 (pc' := 19) (l' := [(0, .ref v0), (1, .int v1)]) (st' := [.ref v0]) rfl ?_
    obtain ⟨x5, ex5, hf⟩ := mj_bd hf
    refine mj_get 10 rfl fl_X8_50 (mj_gR_V ex5) ?_
    refine mj_blk k_X8_ok 11 1 (pc' := 23) (l' := [(0, .ref v0), (1, .int v1)]) (st' := [.ref v0, .ref x5]) rfl ?_
    obtain ⟨x6, ex6, hf⟩ := mj_bd hf
    refine mj_get 12 rfl fl_X8_10 (mj_gR_V ex6) ?_
    refine mj_blk k_X8_ok 13 1 (pc' := 27) (l' := [(0, .ref v0), (1, .int v1)]) (st' := [.int v1, .ref x6, .ref x5]) rfl ?_
    obtain ⟨gp7, hf⟩ := mj_gd hf
    obtain ⟨p7, ep7, hf⟩ := mj_bd hf
    refine mj_callV (T := TX5) (N := 1) (ci := 5) mX5_load [.ref x6, .int v1] 14 rfl ll_X8_245 lb_X5_load li_X5_load ⟨Nat.le_of_ble_eq_true rfl, Nat.le_of_ble_eq_true rfl⟩ rfl gp7 rfl (rest := []) rfl (Nat.le_of_ble_eq_true rfl) ⟨Nat.le_of_ble_eq_true rfl, Nat.le_of_ble_eq_true rfl⟩ (c_X5_load x5 x6 v1 p4.2 p7 ep7) ?_
    show mj_W mX8_spy (mj_FI p) 30 [(0, .ref v0), (1, .int v1)] [] p7 0 0
    refine mj_blk k_X8_ok 15 1 (pc' := 31) (l' := [(0, .ref v0), (1, .int v1)]) (st' := [.ref v0]) rfl ?_
    obtain ⟨x8, ex8, hf⟩ := mj_bd hf
    refine mj_get 16 rfl fl_X8_50 (mj_gR_V ex8) ?_
    obtain ⟨gp9, hf⟩ := mj_gd hf
    obtain ⟨p9, ep9, hf⟩ := mj_bd hf
    refine mj_callV (T := TX5) (N := 1) (ci := 5) mX5_dropSpy [] 17 rfl ll_X8_249 lb_X5_dropSpy li_X5_dropSpy ⟨Nat.le_of_ble_eq_true rfl, Nat.le_of_ble_eq_true rfl⟩ rfl gp9 rfl (rest := []) rfl (Nat.le_of_ble_eq_true rfl) ⟨Nat.le_of_ble_eq_true rfl, Nat.le_of_ble_eq_true rfl⟩ (c_X5_dropSpy x8 p7 p9 ep9) ?_
    show mj_W mX8_spy (mj_FI p) 37 [(0, .ref v0), (1, .int v1)] [] p9 0 0
    refine mj_blk k_X8_ok 18 1 (pc' := 38) (l' := [(0, .ref v0), (1, .int v1)]) (st' := [.ref v0]) rfl ?_
    obtain ⟨x10, ex10, hf⟩ := mj_bd hf
    refine mj_get 19 rfl fl_X8_50 (mj_gR_V ex10) ?_
    obtain ⟨gp11, hf⟩ := mj_gd hf
    obtain ⟨p11, ep11, hf⟩ := mj_bd hf
    refine mj_callV (T := TX5) (N := 1) (ci := 5) mX5_isEmpty [] 20 rfl ll_X8_252 lb_X5_isEmpty li_X5_isEmpty ⟨Nat.le_of_ble_eq_true rfl, Nat.le_of_ble_eq_true rfl⟩ rfl gp11 rfl (rest := []) rfl (Nat.le_of_ble_eq_true rfl) ⟨Nat.le_of_ble_eq_true rfl, Nat.le_of_ble_eq_true rfl⟩ (c_X5_isEmpty x10 p9 p11 ep11) ?_
    show mj_W mX8_spy (mj_FI p) 44 [(0, .ref v0), (1, .int v1)] [.int p11.1] p11.2 0 0
    refine mj_if_eq 21 52 rfl (by decide) (fun q => ?_) (fun q => ?_)
    · have hf := (if_pos q).symm.trans hf
      refine mj_blk k_X8_ok 24 1 (pc' := 53) (l' := [(0, .ref v0), (1, .int v1)]) (st' := [.ref v0]) rfl ?_
      obtain ⟨x12, ex12, hf⟩ := mj_bd hf
      refine mj_get 25 rfl fl_X8_50 (mj_gR_V ex12) ?_
      refine mj_blk k_X8_ok 26 2 (pc' := 58) (l' := [(0, .ref v0), (1, .int v1)]) (st' := [.int (0 : Int32), .int (3 : Int32), .ref x12]) rfl ?_
      obtain ⟨gp13, hf⟩ := mj_gd hf
      obtain ⟨p13, ep13, hf⟩ := mj_bd hf
      refine mj_callV (T := TX5) (N := 1) (ci := 5) mX5_chance [.int (3 : Int32), .int (0 : Int32)] 28 rfl ll_X8_256 lb_X5_chance li_X5_chance ⟨Nat.le_of_ble_eq_true rfl, Nat.le_of_ble_eq_true rfl⟩ rfl gp13 rfl (rest := []) rfl (Nat.le_of_ble_eq_true rfl) ⟨Nat.le_of_ble_eq_true rfl, Nat.le_of_ble_eq_true rfl⟩ (c_X5_chance x12 (3 : Int32) (0 : Int32) p11.2 p13 ep13) ?_
      show mj_W mX8_spy (mj_FI p) 61 [(0, .ref v0), (1, .int v1)] [.int p13.1] p13.2 0 0
      exact w_X8_spy_61 v0 v1 p13.1 p13.2 _ hf
    · have hf := (if_neg q).symm.trans hf
      refine mj_blk k_X8_ok 22 2 (pc' := 61) (l' := [(0, .ref v0), (1, .int v1)]) (st' := [.int (60 : Int32)]) rfl ?_
      exact w_X8_spy_61 v0 v1 (60 : Int32) p11.2 _ hf
  · have hf := (if_pos q).symm.trans hf
    refine mj_blk k_X8_ok 5 2 (pc' := 14) (l' := [(0, .ref v0), (1, .int v1)]) (st' := [.int (-2 : Int32), .ref v0]) rfl ?_
    obtain ⟨gp14, hf⟩ := mj_gd hf
    obtain ⟨p14, ep14, hf⟩ := mj_bd hf
    refine mj_callV (T := TX8) (N := 14) (ci := 8) mX8_refused [.int (-2 : Int32)] 7 rfl ll_X8_102 lb_X8_refused li_X8_refused ⟨Nat.le_of_ble_eq_true rfl, Nat.le_of_ble_eq_true rfl⟩ rfl gp14 rfl (rest := []) rfl (Nat.le_of_ble_eq_true rfl) ⟨Nat.le_of_ble_eq_true rfl, Nat.le_of_ble_eq_true rfl⟩ (c_X8_refused v0 (-2 : Int32) p4.2 p14 ep14) ?_
    show mj_W mX8_spy (mj_FI p) 17 [(0, .ref v0), (1, .int v1)] [.int p14.1] p14.2 0 0
    obtain rfl := Option.some.inj hf
    exact mj_end (some (.int p14.1)) ⟨mj_dec tok_X8_spy (a := 8) rfl, .int, rfl, rfl⟩ ⟨rfl, rfl⟩ (Nat.le_of_ble_eq_true rfl) (Nat.le_of_ble_eq_true rfl)
def f_X8_looks_70 (K39 : Nat → Int32 → Int32 → Int32 → Int32 → Int32 → Int32 → mj_H → Option (Int32 × mj_H)) (v0 : Nat) (v1 : Int32) (v2 : Int32) (v3 : Int32) (v4 : Int32) (v5 : Int32) (v6 : Int32) (h : mj_H) : Option (Int32 × mj_H) := K39 v0 v1 v2 v3 v4 v5 (v6 + (1 : Int32)) h
set_option maxHeartbeats 4000000 in
set_option maxRecDepth 100000 in
theorem w_X8_looks_70 (K39 : Nat → Int32 → Int32 → Int32 → Int32 → Int32 → Int32 → mj_H → Option (Int32 × mj_H)) (hK39 : ∀ (v0 : Nat) (v1 : Int32) (v2 : Int32) (v3 : Int32) (v4 : Int32) (v5 : Int32) (v6 : Int32)  (h : mj_H) (p : Int32 × mj_H), K39 v0 v1 v2 v3 v4 v5 v6 h = some p → mj_W mX8_looks (mj_FI p) 39 [(0, .ref v0), (1, .int v1), (2, .int v2), (3, .int v3), (4, .int v4), (5, .int v5), (6, .int v6)] [] h 0 0) (v0 : Nat) (v1 : Int32) (v2 : Int32) (v3 : Int32) (v4 : Int32) (v5 : Int32) (v6 : Int32) (h : mj_H) (p : Int32 × mj_H) (hf : f_X8_looks_70 K39 v0 v1 v2 v3 v4 v5 v6 h = some p) : mj_W mX8_looks (mj_FI p) 70 [(0, .ref v0), (1, .int v1), (2, .int v2), (3, .int v3), (4, .int v4), (5, .int v5), (6, .int v6)] [] h 0 0 := by
  unfold f_X8_looks_70 at hf
  refine mj_blk k_X8_ok 36 2 (pc' := 39) (l' := [(6, .int (v6 + (1 : Int32))), (0, .ref v0), (1, .int v1), (2, .int v2), (3, .int v3), (4, .int v4), (5, .int v5)]) (st' := []) rfl ?_
  refine mj_locs [1, 2, 3, 4, 5, 6, 0] (l' := [(0, .ref v0), (1, .int v1), (2, .int v2), (3, .int v3), (4, .int v4), (5, .int v5), (6, .int (v6 + (1 : Int32)))]) rfl ?_
  exact hK39 v0 v1 v2 v3 v4 v5 (v6 + (1 : Int32)) h _ hf
def b_X8_looks_39 (K39 : Nat → Int32 → Int32 → Int32 → Int32 → Int32 → Int32 → mj_H → Option (Int32 × mj_H)) (v0 : Nat) (v1 : Int32) (v2 : Int32) (v3 : Int32) (v4 : Int32) (v5 : Int32) (v6 : Int32) (h : mj_H) : Option (Int32 × mj_H) := (if (31 : Int32) < v6 then (if v3 = 0 then some (v4, h) else (if v4 = 0 then some ((-1 : Int32), h) else some (v5, h))) else (mj_gR h v0 8 0).bind fun x1 => (if mj_ob h x1 0 = true then (f_X0_wearers x1 v6 v2 h).bind fun p2 => (if p2.1 = v1 then f_X8_looks_70 K39 v0 v1 v2 v3 (v4 + (1 : Int32)) (v5 &&& v6) v6 p2.2 else f_X8_looks_70 K39 v0 v1 v2 v3 v4 v5 v6 p2.2) else none))
set_option maxHeartbeats 4000000 in
set_option maxRecDepth 100000 in
theorem wb_X8_looks_39 (K39 : Nat → Int32 → Int32 → Int32 → Int32 → Int32 → Int32 → mj_H → Option (Int32 × mj_H)) (hK39 : ∀ (v0 : Nat) (v1 : Int32) (v2 : Int32) (v3 : Int32) (v4 : Int32) (v5 : Int32) (v6 : Int32)  (h : mj_H) (p : Int32 × mj_H), K39 v0 v1 v2 v3 v4 v5 v6 h = some p → mj_W mX8_looks (mj_FI p) 39 [(0, .ref v0), (1, .int v1), (2, .int v2), (3, .int v3), (4, .int v4), (5, .int v5), (6, .int v6)] [] h 0 0) (v0 : Nat) (v1 : Int32) (v2 : Int32) (v3 : Int32) (v4 : Int32) (v5 : Int32) (v6 : Int32) (h : mj_H) (p : Int32 × mj_H) (hf : b_X8_looks_39  K39 v0 v1 v2 v3 v4 v5 v6 h = some p) : mj_W mX8_looks (mj_FI p) 39 [(0, .ref v0), (1, .int v1), (2, .int v2), (3, .int v3), (4, .int v4), (5, .int v5), (6, .int v6)] [] h 0 0 := by
  unfold b_X8_looks_39 at hf
  refine mj_blk k_X8_ok 21 2 (pc' := 43) (l' := [(0, .ref v0), (1, .int v1), (2, .int v2), (3, .int v3), (4, .int v4), (5, .int v5), (6, .int v6)]) (st' := [.int (31 : Int32), .int v6]) rfl ?_
  refine mj_icmp_gt 23 76 rfl (by decide) (fun q => ?_) (fun q => ?_)
  · have hf := (if_pos q).symm.trans hf
    refine mj_blk k_X8_ok 38 1 (pc' := 77) (l' := [(0, .ref v0), (1, .int v1), (2, .int v2), (3, .int v3), (4, .int v4), (5, .int v5), (6, .int v6)]) (st' := [.int v3]) rfl ?_
    refine mj_if_ne 39 83 rfl (by decide) (fun q => ?_) (fun q => ?_)
    · have hf := (if_neg q).symm.trans hf
      refine mj_blk k_X8_ok 42 1 (pc' := 85) (l' := [(0, .ref v0), (1, .int v1), (2, .int v2), (3, .int v3), (4, .int v4), (5, .int v5), (6, .int v6)]) (st' := [.int v4]) rfl ?_
      refine mj_if_ne 43 92 rfl (by decide) (fun q => ?_) (fun q => ?_)
      · have hf := (if_neg q).symm.trans hf
        refine mj_blk k_X8_ok 46 1 (pc' := 94) (l' := [(0, .ref v0), (1, .int v1), (2, .int v2), (3, .int v3), (4, .int v4), (5, .int v5), (6, .int v6)]) (st' := [.int v5]) rfl ?_
        obtain rfl := Option.some.inj hf
        exact mj_end (some (.int v5)) ⟨mj_dec tok_X8_looks (a := 47) rfl, .int, rfl, rfl⟩ ⟨rfl, rfl⟩ (Nat.le_of_ble_eq_true rfl) (Nat.le_of_ble_eq_true rfl)
      · have hf := (if_pos q).symm.trans hf
        refine mj_blk k_X8_ok 44 2 (pc' := 94) (l' := [(0, .ref v0), (1, .int v1), (2, .int v2), (3, .int v3), (4, .int v4), (5, .int v5), (6, .int v6)]) (st' := [.int (-1 : Int32)]) rfl ?_
        obtain rfl := Option.some.inj hf
        exact mj_end (some (.int (-1 : Int32))) ⟨mj_dec tok_X8_looks (a := 47) rfl, .int, rfl, rfl⟩ ⟨rfl, rfl⟩ (Nat.le_of_ble_eq_true rfl) (Nat.le_of_ble_eq_true rfl)
    · have hf := (if_pos q).symm.trans hf
      refine mj_blk k_X8_ok 40 1 (pc' := 82) (l' := [(0, .ref v0), (1, .int v1), (2, .int v2), (3, .int v3), (4, .int v4), (5, .int v5), (6, .int v6)]) (st' := [.int v4]) rfl ?_
      obtain rfl := Option.some.inj hf
      exact mj_end (some (.int v4)) ⟨mj_dec tok_X8_looks (a := 41) rfl, .int, rfl, rfl⟩ ⟨rfl, rfl⟩ (Nat.le_of_ble_eq_true rfl) (Nat.le_of_ble_eq_true rfl)
  · have hf := (if_neg q).symm.trans hf
    refine mj_blk k_X8_ok 24 1 (pc' := 47) (l' := [(0, .ref v0), (1, .int v1), (2, .int v2), (3, .int v3), (4, .int v4), (5, .int v5), (6, .int v6)]) (st' := [.ref v0]) rfl ?_
    obtain ⟨x1, ex1, hf⟩ := mj_bd hf
    refine mj_get 25 rfl fl_X8_10 (mj_gR_V ex1) ?_
    refine mj_blk k_X8_ok 26 2 (pc' := 53) (l' := [(0, .ref v0), (1, .int v1), (2, .int v2), (3, .int v3), (4, .int v4), (5, .int v5), (6, .int v6)]) (st' := [.int v2, .int v6, .ref x1]) rfl ?_
    obtain ⟨gp2, hf⟩ := mj_gd hf
    obtain ⟨p2, ep2, hf⟩ := mj_bd hf
    refine mj_callV (T := TX0) (N := 7) (ci := 0) mX0_wearers [.int v6, .int v2] 28 rfl ll_X8_260 lb_X0_wearers li_X0_wearers ⟨Nat.le_of_ble_eq_true rfl, Nat.le_of_ble_eq_true rfl⟩ rfl gp2 rfl (rest := []) rfl (Nat.le_of_ble_eq_true rfl) ⟨Nat.le_of_ble_eq_true rfl, Nat.le_of_ble_eq_true rfl⟩ (c_X0_wearers x1 v6 v2 h p2 ep2) ?_
    show mj_W mX8_looks (mj_FI p) 56 [(0, .ref v0), (1, .int v1), (2, .int v2), (3, .int v3), (4, .int v4), (5, .int v5), (6, .int v6)] [.int p2.1] p2.2 0 0
    refine mj_blk k_X8_ok 29 1 (pc' := 57) (l' := [(0, .ref v0), (1, .int v1), (2, .int v2), (3, .int v3), (4, .int v4), (5, .int v5), (6, .int v6)]) (st' := [.int v1, .int p2.1]) rfl ?_
    refine mj_icmp_ne 30 70 rfl (by decide) (fun q => ?_) (fun q => ?_)
    · have hf := (if_neg q).symm.trans hf
      exact w_X8_looks_70 K39 hK39 v0 v1 v2 v3 v4 v5 v6 p2.2 _ hf
    · have hf := (if_pos q).symm.trans hf
      refine mj_blk k_X8_ok 31 5 (pc' := 70) (l' := [(5, .int (v5 &&& v6)), (4, .int (v4 + (1 : Int32))), (0, .ref v0), (1, .int v1), (2, .int v2), (3, .int v3), (6, .int v6)]) (st' := []) rfl ?_
      refine mj_locs [2, 3, 4, 5, 1, 0, 6] (l' := [(0, .ref v0), (1, .int v1), (2, .int v2), (3, .int v3), (4, .int (v4 + (1 : Int32))), (5, .int (v5 &&& v6)), (6, .int v6)]) rfl ?_
      exact w_X8_looks_70 K39 hK39 v0 v1 v2 v3 (v4 + (1 : Int32)) (v5 &&& v6) v6 p2.2 _ hf
def f_X8_looks_39 (v0 : Nat) (v1 : Int32) (v2 : Int32) (v3 : Int32) (v4 : Int32) (v5 : Int32) (v6 : Int32) (h : mj_H) : Option (Int32 × mj_H) := mj_fix (fun (K39 : (Nat × Int32 × Int32 × Int32 × Int32 × Int32 × Int32 × mj_H) → Option (Int32 × mj_H)) (s : Nat × Int32 × Int32 × Int32 × Int32 × Int32 × Int32 × mj_H) => b_X8_looks_39  (fun v0 v1 v2 v3 v4 v5 v6 h => K39 (v0, v1, v2, v3, v4, v5, v6, h)) s.1 s.2.1 s.2.2.1 s.2.2.2.1 s.2.2.2.2.1 s.2.2.2.2.2.1 s.2.2.2.2.2.2.1 s.2.2.2.2.2.2.2) 1000 (v0, v1, v2, v3, v4, v5, v6, h)
set_option maxHeartbeats 4000000 in
set_option maxRecDepth 100000 in
theorem w_X8_looks_39 (v0 : Nat) (v1 : Int32) (v2 : Int32) (v3 : Int32) (v4 : Int32) (v5 : Int32) (v6 : Int32) (h : mj_H) (p : Int32 × mj_H) (hf : f_X8_looks_39  v0 v1 v2 v3 v4 v5 v6 h = some p) : mj_W mX8_looks (mj_FI p) 39 [(0, .ref v0), (1, .int v1), (2, .int v2), (3, .int v3), (4, .int v4), (5, .int v5), (6, .int v6)] [] h 0 0 := by
  unfold f_X8_looks_39 at hf
  exact mj_fix_ind (F := (fun (K39 : (Nat × Int32 × Int32 × Int32 × Int32 × Int32 × Int32 × mj_H) → Option (Int32 × mj_H)) (s : Nat × Int32 × Int32 × Int32 × Int32 × Int32 × Int32 × mj_H) => b_X8_looks_39  (fun v0 v1 v2 v3 v4 v5 v6 h => K39 (v0, v1, v2, v3, v4, v5, v6, h)) s.1 s.2.1 s.2.2.1 s.2.2.2.1 s.2.2.2.2.1 s.2.2.2.2.2.1 s.2.2.2.2.2.2.1 s.2.2.2.2.2.2.2)) (P := fun s p => mj_W mX8_looks (mj_FI p) 39 [(0, .ref s.1), (1, .int s.2.1), (2, .int s.2.2.1), (3, .int s.2.2.2.1), (4, .int s.2.2.2.2.1), (5, .int s.2.2.2.2.2.1), (6, .int s.2.2.2.2.2.2.1)] [] s.2.2.2.2.2.2.2 0 0) (fun K39 hK39 s p hf => wb_X8_looks_39   (fun v0 v1 v2 v3 v4 v5 v6 h => K39 (v0, v1, v2, v3, v4, v5, v6, h)) (fun v0 v1 v2 v3 v4 v5 v6 h p e => hK39 (v0, v1, v2, v3, v4, v5, v6, h) p e) s.1 s.2.1 s.2.2.1 s.2.2.2.1 s.2.2.2.2.1 s.2.2.2.2.2.1 s.2.2.2.2.2.2.1 s.2.2.2.2.2.2.2 p hf) 1000 (v0, v1, v2, v3, v4, v5, v6, h) p hf
def f_X8_looks_20 (v0 : Nat) (h : mj_H) : Option (Int32 × mj_H) := (if mj_ob h v0 8 = true then (f_X8_refusedAs v0 (-2 : Int32) (-10 : Int32) h).bind fun p3 => some (p3.1, p3.2) else none)
set_option maxHeartbeats 4000000 in
set_option maxRecDepth 100000 in
theorem w_X8_looks_20 (v0 : Nat) (h : mj_H) (p : Int32 × mj_H) (hf : f_X8_looks_20  v0 h = some p) : mj_W mX8_looks (mj_FI p) 20 [(0, .ref v0)] [] h 0 0 := by
  unfold f_X8_looks_20 at hf
  refine mj_blk k_X8_ok 10 3 (pc' := 25) (l' := [(0, .ref v0)]) (st' := [.int (-10 : Int32), .int (-2 : Int32), .ref v0]) rfl ?_
  obtain ⟨gp3, hf⟩ := mj_gd hf
  obtain ⟨p3, ep3, hf⟩ := mj_bd hf
  refine mj_callV (T := TX8) (N := 14) (ci := 8) mX8_refusedAs [.int (-2 : Int32), .int (-10 : Int32)] 13 rfl ll_X8_202 lb_X8_refusedAs li_X8_refusedAs ⟨Nat.le_of_ble_eq_true rfl, Nat.le_of_ble_eq_true rfl⟩ rfl gp3 rfl (rest := []) rfl (Nat.le_of_ble_eq_true rfl) ⟨Nat.le_of_ble_eq_true rfl, Nat.le_of_ble_eq_true rfl⟩ (c_X8_refusedAs v0 (-2 : Int32) (-10 : Int32) h p3 ep3) ?_
  show mj_W mX8_looks (mj_FI p) 28 [(0, .ref v0)] [.int p3.1] p3.2 0 0
  obtain rfl := Option.some.inj hf
  exact mj_end (some (.int p3.1)) ⟨mj_dec tok_X8_looks (a := 14) rfl, .int, rfl, rfl⟩ ⟨rfl, rfl⟩ (Nat.le_of_ble_eq_true rfl) (Nat.le_of_ble_eq_true rfl)
def f_X8_looks (v0 : Nat) (v1 : Int32) (v2 : Int32) (v3 : Int32) (h : mj_H) : Option (Int32 × mj_H) := (mj_gR h v0 8 0).bind fun x4 => (if mj_ob h x4 0 = true then (f_X0_hasAll x4 v1 h).bind fun p5 => (if p5.1 = 0 then f_X8_looks_20 v0 p5.2 else (if v3 < 0 then f_X8_looks_20 v0 p5.2 else (if v3 ≤ (1 : Int32) then f_X8_looks_39 v0 v1 v2 v3 (0 : Int32) (31 : Int32) (0 : Int32) p5.2 else f_X8_looks_20 v0 p5.2))) else none)
set_option maxHeartbeats 4000000 in
set_option maxRecDepth 100000 in
theorem c_X8_looks (v0 : Nat) (v1 : Int32) (v2 : Int32) (v3 : Int32) (h : mj_H) (p : Int32 × mj_H) (hf : f_X8_looks v0 v1 v2 v3 h = some p) : mj_Met mX8_looks [.ref v0, .int v1, .int v2, .int v3] h (some (.int p.1)) p.2 := by
  refine mj_met pl_X8 tok_X8_looks (Nat.le_of_ble_eq_true rfl) ?_
  show mj_W mX8_looks (mj_FI p) 0 [(0, .ref v0), (1, .int v1), (2, .int v2), (3, .int v3)] [] h 0 0
  unfold f_X8_looks at hf
  refine mj_blk k_X8_ok 0 1 (pc' := 1) (l' := [(0, .ref v0), (1, .int v1), (2, .int v2), (3, .int v3)]) (st' := [.ref v0]) rfl ?_
  obtain ⟨x4, ex4, hf⟩ := mj_bd hf
  refine mj_get 1 rfl fl_X8_10 (mj_gR_V ex4) ?_
  refine mj_blk k_X8_ok 2 1 (pc' := 5) (l' := [(0, .ref v0), (1, .int v1), (2, .int v2), (3, .int v3)]) (st' := [.int v1, .ref x4]) rfl ?_
  obtain ⟨gp5, hf⟩ := mj_gd hf
  obtain ⟨p5, ep5, hf⟩ := mj_bd hf
  refine mj_callV (T := TX0) (N := 7) (ci := 0) mX0_hasAll [.int v1] 3 rfl ll_X8_179 lb_X0_hasAll li_X0_hasAll ⟨Nat.le_of_ble_eq_true rfl, Nat.le_of_ble_eq_true rfl⟩ rfl gp5 rfl (rest := []) rfl (Nat.le_of_ble_eq_true rfl) ⟨Nat.le_of_ble_eq_true rfl, Nat.le_of_ble_eq_true rfl⟩ (c_X0_hasAll x4 v1 h p5 ep5) ?_
  show mj_W mX8_looks (mj_FI p) 8 [(0, .ref v0), (1, .int v1), (2, .int v2), (3, .int v3)] [.int p5.1] p5.2 0 0
  refine mj_if_eq 4 20 rfl (by decide) (fun q => ?_) (fun q => ?_)
  · have hf := (if_pos q).symm.trans hf
    refine mj_locs [0] (l' := [(0, .ref v0)]) rfl ?_
    exact w_X8_looks_20 v0 p5.2 _ hf
  · have hf := (if_neg q).symm.trans hf
    refine mj_blk k_X8_ok 5 1 (pc' := 12) (l' := [(0, .ref v0), (1, .int v1), (2, .int v2), (3, .int v3)]) (st' := [.int v3]) rfl ?_
    refine mj_if_lt 6 20 rfl (by decide) (fun q => ?_) (fun q => ?_)
    · have hf := (if_pos q).symm.trans hf
      refine mj_locs [0] (l' := [(0, .ref v0)]) rfl ?_
      exact w_X8_looks_20 v0 p5.2 _ hf
    · have hf := (if_neg q).symm.trans hf
      refine mj_blk k_X8_ok 7 2 (pc' := 17) (l' := [(0, .ref v0), (1, .int v1), (2, .int v2), (3, .int v3)]) (st' := [.int (1 : Int32), .int v3]) rfl ?_
      refine mj_icmp_le 9 29 rfl (by decide) (fun q => ?_) (fun q => ?_)
      · have hf := (if_pos q).symm.trans hf
        refine mj_blk k_X8_ok 15 6 (pc' := 39) (l' := [(6, .int (0 : Int32)), (5, .int (31 : Int32)), (4, .int (0 : Int32)), (0, .ref v0), (1, .int v1), (2, .int v2), (3, .int v3)]) (st' := []) rfl ?_
        refine mj_locs [3, 4, 5, 6, 2, 1, 0] (l' := [(0, .ref v0), (1, .int v1), (2, .int v2), (3, .int v3), (4, .int (0 : Int32)), (5, .int (31 : Int32)), (6, .int (0 : Int32))]) rfl ?_
        exact w_X8_looks_39 v0 v1 v2 v3 (0 : Int32) (31 : Int32) (0 : Int32) p5.2 _ hf
      · have hf := (if_neg q).symm.trans hf
        refine mj_locs [0] (l' := [(0, .ref v0)]) rfl ?_
        exact w_X8_looks_20 v0 p5.2 _ hf
def f_X8_isOpen_74 (K15 : Nat → Int32 → Int32 → Int32 → Int32 → Int32 → Int32 → mj_H → Option (Int32 × mj_H)) (v0 : Nat) (v1 : Int32) (v2 : Int32) (v3 : Int32) (v4 : Int32) (v5 : Int32) (v6 : Int32) (h : mj_H) : Option (Int32 × mj_H) := K15 v0 v1 v2 v3 v4 v5 (v6 + (1 : Int32)) h
set_option maxHeartbeats 4000000 in
set_option maxRecDepth 100000 in
theorem w_X8_isOpen_74 (K15 : Nat → Int32 → Int32 → Int32 → Int32 → Int32 → Int32 → mj_H → Option (Int32 × mj_H)) (hK15 : ∀ (v0 : Nat) (v1 : Int32) (v2 : Int32) (v3 : Int32) (v4 : Int32) (v5 : Int32) (v6 : Int32)  (h : mj_H) (p : Int32 × mj_H), K15 v0 v1 v2 v3 v4 v5 v6 h = some p → mj_W mX8_isOpen (mj_FI p) 15 [(0, .ref v0), (1, .int v1), (2, .int v2), (3, .int v3), (4, .int v4), (5, .int v5), (6, .int v6)] [] h 0 0) (v0 : Nat) (v1 : Int32) (v2 : Int32) (v3 : Int32) (v4 : Int32) (v5 : Int32) (v6 : Int32) (h : mj_H) (p : Int32 × mj_H) (hf : f_X8_isOpen_74 K15 v0 v1 v2 v3 v4 v5 v6 h = some p) : mj_W mX8_isOpen (mj_FI p) 74 [(0, .ref v0), (1, .int v1), (2, .int v2), (3, .int v3), (4, .int v4), (5, .int v5), (6, .int v6)] [] h 0 0 := by
  unfold f_X8_isOpen_74 at hf
  refine mj_blk k_X8_ok 44 2 (pc' := 15) (l' := [(6, .int (v6 + (1 : Int32))), (0, .ref v0), (1, .int v1), (2, .int v2), (3, .int v3), (4, .int v4), (5, .int v5)]) (st' := []) rfl ?_
  refine mj_locs [1, 2, 3, 4, 5, 6, 0] (l' := [(0, .ref v0), (1, .int v1), (2, .int v2), (3, .int v3), (4, .int v4), (5, .int v5), (6, .int (v6 + (1 : Int32)))]) rfl ?_
  exact hK15 v0 v1 v2 v3 v4 v5 (v6 + (1 : Int32)) h _ hf
def f_X8_isOpen_71 (K15 : Nat → Int32 → Int32 → Int32 → Int32 → Int32 → Int32 → mj_H → Option (Int32 × mj_H)) (v0 : Nat) (v1 : Int32) (v2 : Int32) (v3 : Int32) (v4 : Int32) (v6 : Int32) (s0 : Int32) (s1 : Int32) (h : mj_H) : Option (Int32 × mj_H) := f_X8_isOpen_74 K15 v0 v1 v2 v3 v4 (s0 ||| s1) v6 h
set_option maxHeartbeats 4000000 in
set_option maxRecDepth 100000 in
theorem w_X8_isOpen_71 (K15 : Nat → Int32 → Int32 → Int32 → Int32 → Int32 → Int32 → mj_H → Option (Int32 × mj_H)) (hK15 : ∀ (v0 : Nat) (v1 : Int32) (v2 : Int32) (v3 : Int32) (v4 : Int32) (v5 : Int32) (v6 : Int32)  (h : mj_H) (p : Int32 × mj_H), K15 v0 v1 v2 v3 v4 v5 v6 h = some p → mj_W mX8_isOpen (mj_FI p) 15 [(0, .ref v0), (1, .int v1), (2, .int v2), (3, .int v3), (4, .int v4), (5, .int v5), (6, .int v6)] [] h 0 0) (v0 : Nat) (v1 : Int32) (v2 : Int32) (v3 : Int32) (v4 : Int32) (v6 : Int32) (s0 : Int32) (s1 : Int32) (h : mj_H) (p : Int32 × mj_H) (hf : f_X8_isOpen_71 K15 v0 v1 v2 v3 v4 v6 s0 s1 h = some p) : mj_W mX8_isOpen (mj_FI p) 71 [(0, .ref v0), (1, .int v1), (2, .int v2), (3, .int v3), (4, .int v4), (6, .int v6)] [.int s1, .int s0] h 0 0 := by
  unfold f_X8_isOpen_71 at hf
  refine mj_blk k_X8_ok 42 2 (pc' := 74) (l' := [(5, .int (s0 ||| s1)), (0, .ref v0), (1, .int v1), (2, .int v2), (3, .int v3), (4, .int v4), (6, .int v6)]) (st' := []) rfl ?_
  refine mj_locs [1, 2, 3, 4, 5, 0, 6] (l' := [(0, .ref v0), (1, .int v1), (2, .int v2), (3, .int v3), (4, .int v4), (5, .int (s0 ||| s1)), (6, .int v6)]) rfl ?_
  exact w_X8_isOpen_74 K15 hK15 v0 v1 v2 v3 v4 (s0 ||| s1) v6 h _ hf
def b_X8_isOpen_15 (K15 : Nat → Int32 → Int32 → Int32 → Int32 → Int32 → Int32 → mj_H → Option (Int32 × mj_H)) (v0 : Nat) (v1 : Int32) (v2 : Int32) (v3 : Int32) (v4 : Int32) (v5 : Int32) (v6 : Int32) (h : mj_H) : Option (Int32 × mj_H) := (if (31 : Int32) < v6 then (if v4 = 0 then some ((0 : Int32), h) else (if v5 = 0 then some ((0 : Int32), h) else some ((1 : Int32), h))) else (mj_gR h v0 8 0).bind fun x1 => (if mj_ob h x1 0 = true then (f_X0_wearers x1 v6 (1 : Int32) h).bind fun p2 => (if (p2.1 &&& v3) = (v2 &&& v3) then (f_X8_isIn p2.1 v1 p2.2).bind fun p3 => (if p3.1 = 0 then f_X8_isOpen_71 K15 v0 v1 v2 v3 (v4 ||| p3.1) v6 v5 (1 : Int32) p3.2 else f_X8_isOpen_71 K15 v0 v1 v2 v3 (v4 ||| p3.1) v6 v5 (0 : Int32) p3.2) else f_X8_isOpen_74 K15 v0 v1 v2 v3 v4 v5 v6 p2.2) else none))
set_option maxHeartbeats 4000000 in
set_option maxRecDepth 100000 in
theorem wb_X8_isOpen_15 (K15 : Nat → Int32 → Int32 → Int32 → Int32 → Int32 → Int32 → mj_H → Option (Int32 × mj_H)) (hK15 : ∀ (v0 : Nat) (v1 : Int32) (v2 : Int32) (v3 : Int32) (v4 : Int32) (v5 : Int32) (v6 : Int32)  (h : mj_H) (p : Int32 × mj_H), K15 v0 v1 v2 v3 v4 v5 v6 h = some p → mj_W mX8_isOpen (mj_FI p) 15 [(0, .ref v0), (1, .int v1), (2, .int v2), (3, .int v3), (4, .int v4), (5, .int v5), (6, .int v6)] [] h 0 0) (v0 : Nat) (v1 : Int32) (v2 : Int32) (v3 : Int32) (v4 : Int32) (v5 : Int32) (v6 : Int32) (h : mj_H) (p : Int32 × mj_H) (hf : b_X8_isOpen_15  K15 v0 v1 v2 v3 v4 v5 v6 h = some p) : mj_W mX8_isOpen (mj_FI p) 15 [(0, .ref v0), (1, .int v1), (2, .int v2), (3, .int v3), (4, .int v4), (5, .int v5), (6, .int v6)] [] h 0 0 := by
  unfold b_X8_isOpen_15 at hf
  refine mj_blk k_X8_ok 12 2 (pc' := 19) (l' := [(0, .ref v0), (1, .int v1), (2, .int v2), (3, .int v3), (4, .int v4), (5, .int v5), (6, .int v6)]) (st' := [.int (31 : Int32), .int v6]) rfl ?_
  refine mj_icmp_gt 14 80 rfl (by decide) (fun q => ?_) (fun q => ?_)
  · have hf := (if_pos q).symm.trans hf
    refine mj_blk k_X8_ok 46 1 (pc' := 82) (l' := [(0, .ref v0), (1, .int v1), (2, .int v2), (3, .int v3), (4, .int v4), (5, .int v5), (6, .int v6)]) (st' := [.int v4]) rfl ?_
    refine mj_if_eq 47 94 rfl (by decide) (fun q => ?_) (fun q => ?_)
    · have hf := (if_pos q).symm.trans hf
      refine mj_blk k_X8_ok 52 1 (pc' := 95) (l' := [(0, .ref v0), (1, .int v1), (2, .int v2), (3, .int v3), (4, .int v4), (5, .int v5), (6, .int v6)]) (st' := [.int (0 : Int32)]) rfl ?_
      obtain rfl := Option.some.inj hf
      exact mj_end (some (.int (0 : Int32))) ⟨mj_dec tok_X8_isOpen (a := 53) rfl, .boolean, rfl, rfl⟩ ⟨rfl, rfl⟩ (Nat.le_of_ble_eq_true rfl) (Nat.le_of_ble_eq_true rfl)
    · have hf := (if_neg q).symm.trans hf
      refine mj_blk k_X8_ok 48 1 (pc' := 87) (l' := [(0, .ref v0), (1, .int v1), (2, .int v2), (3, .int v3), (4, .int v4), (5, .int v5), (6, .int v6)]) (st' := [.int v5]) rfl ?_
      refine mj_if_eq 49 94 rfl (by decide) (fun q => ?_) (fun q => ?_)
      · have hf := (if_pos q).symm.trans hf
        refine mj_blk k_X8_ok 52 1 (pc' := 95) (l' := [(0, .ref v0), (1, .int v1), (2, .int v2), (3, .int v3), (4, .int v4), (5, .int v5), (6, .int v6)]) (st' := [.int (0 : Int32)]) rfl ?_
        obtain rfl := Option.some.inj hf
        exact mj_end (some (.int (0 : Int32))) ⟨mj_dec tok_X8_isOpen (a := 53) rfl, .boolean, rfl, rfl⟩ ⟨rfl, rfl⟩ (Nat.le_of_ble_eq_true rfl) (Nat.le_of_ble_eq_true rfl)
      · have hf := (if_neg q).symm.trans hf
        refine mj_blk k_X8_ok 50 2 (pc' := 95) (l' := [(0, .ref v0), (1, .int v1), (2, .int v2), (3, .int v3), (4, .int v4), (5, .int v5), (6, .int v6)]) (st' := [.int (1 : Int32)]) rfl ?_
        obtain rfl := Option.some.inj hf
        exact mj_end (some (.int (1 : Int32))) ⟨mj_dec tok_X8_isOpen (a := 53) rfl, .boolean, rfl, rfl⟩ ⟨rfl, rfl⟩ (Nat.le_of_ble_eq_true rfl) (Nat.le_of_ble_eq_true rfl)
  · have hf := (if_neg q).symm.trans hf
    refine mj_blk k_X8_ok 15 1 (pc' := 23) (l' := [(0, .ref v0), (1, .int v1), (2, .int v2), (3, .int v3), (4, .int v4), (5, .int v5), (6, .int v6)]) (st' := [.ref v0]) rfl ?_
    obtain ⟨x1, ex1, hf⟩ := mj_bd hf
    refine mj_get 16 rfl fl_X8_10 (mj_gR_V ex1) ?_
    refine mj_blk k_X8_ok 17 2 (pc' := 29) (l' := [(0, .ref v0), (1, .int v1), (2, .int v2), (3, .int v3), (4, .int v4), (5, .int v5), (6, .int v6)]) (st' := [.int (1 : Int32), .int v6, .ref x1]) rfl ?_
    obtain ⟨gp2, hf⟩ := mj_gd hf
    obtain ⟨p2, ep2, hf⟩ := mj_bd hf
    refine mj_callV (T := TX0) (N := 7) (ci := 0) mX0_wearers [.int v6, .int (1 : Int32)] 19 rfl ll_X8_260 lb_X0_wearers li_X0_wearers ⟨Nat.le_of_ble_eq_true rfl, Nat.le_of_ble_eq_true rfl⟩ rfl gp2 rfl (rest := []) rfl (Nat.le_of_ble_eq_true rfl) ⟨Nat.le_of_ble_eq_true rfl, Nat.le_of_ble_eq_true rfl⟩ (c_X0_wearers x1 v6 (1 : Int32) h p2 ep2) ?_
    show mj_W mX8_isOpen (mj_FI p) 32 [(0, .ref v0), (1, .int v1), (2, .int v2), (3, .int v3), (4, .int v4), (5, .int v5), (6, .int v6)] [.int p2.1] p2.2 0 0
    refine mj_blk k_X8_ok 20 7 (pc' := 41) (l' := [(7, .int p2.1), (0, .ref v0), (1, .int v1), (2, .int v2), (3, .int v3), (4, .int v4), (5, .int v5), (6, .int v6)]) (st' := [.int (v2 &&& v3), .int (p2.1 &&& v3)]) rfl ?_
    refine mj_icmp_ne 27 74 rfl (by decide) (fun q => ?_) (fun q => ?_)
    · have hf := (if_neg q).symm.trans hf
      refine mj_locs [1, 2, 3, 4, 5, 6, 7] (l' := [(0, .ref v0), (1, .int v1), (2, .int v2), (3, .int v3), (4, .int v4), (5, .int v5), (6, .int v6)]) rfl ?_
      exact w_X8_isOpen_74 K15 hK15 v0 v1 v2 v3 v4 v5 v6 p2.2 _ hf
    · have hf := (if_pos q).symm.trans hf
      refine mj_blk k_X8_ok 28 2 (pc' := 47) (l' := [(7, .int p2.1), (0, .ref v0), (1, .int v1), (2, .int v2), (3, .int v3), (4, .int v4), (5, .int v5), (6, .int v6)]) (st' := [.int v1, .int p2.1]) rfl ?_
      obtain ⟨p3, ep3, hf⟩ := mj_bd hf
      refine mj_callS mX8_isIn [.int p2.1, .int v1] 30 rfl ll_X8_275 lb_X8_isIn li_X8_isIn ⟨Nat.le_of_ble_eq_true rfl, Nat.le_of_ble_eq_true rfl⟩ rfl (rest := []) rfl (Nat.le_of_ble_eq_true rfl) ⟨Nat.le_of_ble_eq_true rfl, Nat.le_of_ble_eq_true rfl⟩ (c_X8_isIn p2.1 v1 p2.2 p3 ep3) ?_
      show mj_W mX8_isOpen (mj_FI p) 50 [(7, .int p2.1), (0, .ref v0), (1, .int v1), (2, .int v2), (3, .int v3), (4, .int v4), (5, .int v5), (6, .int v6)] [.int p3.1] p3.2 0 0
      refine mj_blk k_X8_ok 31 7 (pc' := 63) (l' := [(4, .int (v4 ||| p3.1)), (8, .int p3.1), (7, .int p2.1), (0, .ref v0), (1, .int v1), (2, .int v2), (3, .int v3), (5, .int v5), (6, .int v6)]) (st' := [.int p3.1, .int v5]) rfl ?_
      refine mj_if_ne 38 70 rfl (by decide) (fun q => ?_) (fun q => ?_)
      · have hf := (if_neg q).symm.trans hf
        refine mj_blk k_X8_ok 41 1 (pc' := 71) (l' := [(4, .int (v4 ||| p3.1)), (8, .int p3.1), (7, .int p2.1), (0, .ref v0), (1, .int v1), (2, .int v2), (3, .int v3), (5, .int v5), (6, .int v6)]) (st' := [.int (0 : Int32), .int v5]) rfl ?_
        refine mj_locs [3, 4, 5, 6, 0, 8] (l' := [(0, .ref v0), (1, .int v1), (2, .int v2), (3, .int v3), (4, .int (v4 ||| p3.1)), (6, .int v6)]) rfl ?_
        exact w_X8_isOpen_71 K15 hK15 v0 v1 v2 v3 (v4 ||| p3.1) v6 v5 (0 : Int32) p3.2 _ hf
      · have hf := (if_pos q).symm.trans hf
        refine mj_blk k_X8_ok 39 2 (pc' := 71) (l' := [(4, .int (v4 ||| p3.1)), (8, .int p3.1), (7, .int p2.1), (0, .ref v0), (1, .int v1), (2, .int v2), (3, .int v3), (5, .int v5), (6, .int v6)]) (st' := [.int (1 : Int32), .int v5]) rfl ?_
        refine mj_locs [3, 4, 5, 6, 0, 8] (l' := [(0, .ref v0), (1, .int v1), (2, .int v2), (3, .int v3), (4, .int (v4 ||| p3.1)), (6, .int v6)]) rfl ?_
        exact w_X8_isOpen_71 K15 hK15 v0 v1 v2 v3 (v4 ||| p3.1) v6 v5 (1 : Int32) p3.2 _ hf
def f_X8_isOpen_15 (v0 : Nat) (v1 : Int32) (v2 : Int32) (v3 : Int32) (v4 : Int32) (v5 : Int32) (v6 : Int32) (h : mj_H) : Option (Int32 × mj_H) := mj_fix (fun (K15 : (Nat × Int32 × Int32 × Int32 × Int32 × Int32 × Int32 × mj_H) → Option (Int32 × mj_H)) (s : Nat × Int32 × Int32 × Int32 × Int32 × Int32 × Int32 × mj_H) => b_X8_isOpen_15  (fun v0 v1 v2 v3 v4 v5 v6 h => K15 (v0, v1, v2, v3, v4, v5, v6, h)) s.1 s.2.1 s.2.2.1 s.2.2.2.1 s.2.2.2.2.1 s.2.2.2.2.2.1 s.2.2.2.2.2.2.1 s.2.2.2.2.2.2.2) 1000 (v0, v1, v2, v3, v4, v5, v6, h)
set_option maxHeartbeats 4000000 in
set_option maxRecDepth 100000 in
theorem w_X8_isOpen_15 (v0 : Nat) (v1 : Int32) (v2 : Int32) (v3 : Int32) (v4 : Int32) (v5 : Int32) (v6 : Int32) (h : mj_H) (p : Int32 × mj_H) (hf : f_X8_isOpen_15  v0 v1 v2 v3 v4 v5 v6 h = some p) : mj_W mX8_isOpen (mj_FI p) 15 [(0, .ref v0), (1, .int v1), (2, .int v2), (3, .int v3), (4, .int v4), (5, .int v5), (6, .int v6)] [] h 0 0 := by
  unfold f_X8_isOpen_15 at hf
  exact mj_fix_ind (F := (fun (K15 : (Nat × Int32 × Int32 × Int32 × Int32 × Int32 × Int32 × mj_H) → Option (Int32 × mj_H)) (s : Nat × Int32 × Int32 × Int32 × Int32 × Int32 × Int32 × mj_H) => b_X8_isOpen_15  (fun v0 v1 v2 v3 v4 v5 v6 h => K15 (v0, v1, v2, v3, v4, v5, v6, h)) s.1 s.2.1 s.2.2.1 s.2.2.2.1 s.2.2.2.2.1 s.2.2.2.2.2.1 s.2.2.2.2.2.2.1 s.2.2.2.2.2.2.2)) (P := fun s p => mj_W mX8_isOpen (mj_FI p) 15 [(0, .ref s.1), (1, .int s.2.1), (2, .int s.2.2.1), (3, .int s.2.2.2.1), (4, .int s.2.2.2.2.1), (5, .int s.2.2.2.2.2.1), (6, .int s.2.2.2.2.2.2.1)] [] s.2.2.2.2.2.2.2 0 0) (fun K15 hK15 s p hf => wb_X8_isOpen_15   (fun v0 v1 v2 v3 v4 v5 v6 h => K15 (v0, v1, v2, v3, v4, v5, v6, h)) (fun v0 v1 v2 v3 v4 v5 v6 h p e => hK15 (v0, v1, v2, v3, v4, v5, v6, h) p e) s.1 s.2.1 s.2.2.1 s.2.2.2.1 s.2.2.2.2.1 s.2.2.2.2.2.1 s.2.2.2.2.2.2.1 s.2.2.2.2.2.2.2 p hf) 1000 (v0, v1, v2, v3, v4, v5, v6, h) p hf
def f_X8_isOpen (v0 : Nat) (v1 : Int32) (v2 : Int32) (h : mj_H) : Option (Int32 × mj_H) := f_X8_isOpen_15 v0 v1 v2 (((1 : Int32) <<< (v1 &&& 31)) ^^^ (-1 : Int32)) (0 : Int32) (0 : Int32) (0 : Int32) h
set_option maxHeartbeats 4000000 in
set_option maxRecDepth 100000 in
theorem c_X8_isOpen (v0 : Nat) (v1 : Int32) (v2 : Int32) (h : mj_H) (p : Int32 × mj_H) (hf : f_X8_isOpen v0 v1 v2 h = some p) : mj_Met mX8_isOpen [.ref v0, .int v1, .int v2] h (some (.int p.1)) p.2 := by
  refine mj_met pl_X8 tok_X8_isOpen (Nat.le_of_ble_eq_true rfl) ?_
  show mj_W mX8_isOpen (mj_FI p) 0 [(0, .ref v0), (1, .int v1), (2, .int v2)] [] h 0 0
  unfold f_X8_isOpen at hf
  refine mj_blk k_X8_ok 0 12 (pc' := 15) (l' := [(6, .int (0 : Int32)), (5, .int (0 : Int32)), (4, .int (0 : Int32)), (3, .int (((1 : Int32) <<< (v1 &&& 31)) ^^^ (-1 : Int32))), (0, .ref v0), (1, .int v1), (2, .int v2)]) (st' := []) rfl ?_
  refine mj_locs [4, 5, 6, 3, 2, 1, 0] (l' := [(0, .ref v0), (1, .int v1), (2, .int v2), (3, .int (((1 : Int32) <<< (v1 &&& 31)) ^^^ (-1 : Int32))), (4, .int (0 : Int32)), (5, .int (0 : Int32)), (6, .int (0 : Int32))]) rfl ?_
  exact w_X8_isOpen_15 v0 v1 v2 (((1 : Int32) <<< (v1 &&& 31)) ^^^ (-1 : Int32)) (0 : Int32) (0 : Int32) (0 : Int32) h _ hf
def b_X8_next_22 (K22 : Nat → Int32 → Int32 → mj_H → Option (Int32 × mj_H)) (v0 : Nat) (v1 : Int32) (v2 : Int32) (h : mj_H) : Option (Int32 × mj_H) := (mj_gR h v0 8 0).bind fun x1 => (mj_gI h x1 0 4).bind fun x2 => (if x2 ≤ v2 then some ((-1 : Int32), h) else (if mj_ob h v0 8 = true then (f_X8_isOpen v0 v2 v1 h).bind fun p3 => (if p3.1 = 0 then K22 v0 v1 (v2 + (1 : Int32)) p3.2 else some (v2, p3.2)) else none))
set_option maxHeartbeats 4000000 in
set_option maxRecDepth 100000 in
theorem wb_X8_next_22 (K22 : Nat → Int32 → Int32 → mj_H → Option (Int32 × mj_H)) (hK22 : ∀ (v0 : Nat) (v1 : Int32) (v2 : Int32)  (h : mj_H) (p : Int32 × mj_H), K22 v0 v1 v2 h = some p → mj_W mX8_next (mj_FI p) 22 [(0, .ref v0), (1, .int v1), (2, .int v2)] [] h 0 0) (v0 : Nat) (v1 : Int32) (v2 : Int32) (h : mj_H) (p : Int32 × mj_H) (hf : b_X8_next_22  K22 v0 v1 v2 h = some p) : mj_W mX8_next (mj_FI p) 22 [(0, .ref v0), (1, .int v1), (2, .int v2)] [] h 0 0 := by
  unfold b_X8_next_22 at hf
  refine mj_blk k_X8_ok 12 2 (pc' := 24) (l' := [(0, .ref v0), (1, .int v1), (2, .int v2)]) (st' := [.ref v0, .int v2]) rfl ?_
  obtain ⟨x1, ex1, hf⟩ := mj_bd hf
  refine mj_get 14 rfl fl_X8_10 (mj_gR_V ex1) ?_
  obtain ⟨x2, ex2, hf⟩ := mj_bd hf
  refine mj_get 15 rfl fl_X8_205 (mj_gI_V ex2) ?_
  refine mj_icmp_ge 16 50 rfl (by decide) (fun q => ?_) (fun q => ?_)
  · have hf := (if_pos q).symm.trans hf
    refine mj_blk k_X8_ok 26 1 (pc' := 51) (l' := [(0, .ref v0), (1, .int v1), (2, .int v2)]) (st' := [.int (-1 : Int32)]) rfl ?_
    obtain rfl := Option.some.inj hf
    exact mj_end (some (.int (-1 : Int32))) ⟨mj_dec tok_X8_next (a := 27) rfl, .int, rfl, rfl⟩ ⟨rfl, rfl⟩ (Nat.le_of_ble_eq_true rfl) (Nat.le_of_ble_eq_true rfl)
  · have hf := (if_neg q).symm.trans hf
    refine mj_blk k_X8_ok 17 3 (pc' := 36) (l' := [(0, .ref v0), (1, .int v1), (2, .int v2)]) (st' := [.int v1, .int v2, .ref v0]) rfl ?_
    obtain ⟨gp3, hf⟩ := mj_gd hf
    obtain ⟨p3, ep3, hf⟩ := mj_bd hf
    refine mj_callV (T := TX8) (N := 14) (ci := 8) mX8_isOpen [.int v2, .int v1] 20 rfl ll_X8_263 lb_X8_isOpen li_X8_isOpen ⟨Nat.le_of_ble_eq_true rfl, Nat.le_of_ble_eq_true rfl⟩ rfl gp3 rfl (rest := []) rfl (Nat.le_of_ble_eq_true rfl) ⟨Nat.le_of_ble_eq_true rfl, Nat.le_of_ble_eq_true rfl⟩ (c_X8_isOpen v0 v2 v1 h p3 ep3) ?_
    show mj_W mX8_next (mj_FI p) 39 [(0, .ref v0), (1, .int v1), (2, .int v2)] [.int p3.1] p3.2 0 0
    refine mj_if_eq 21 44 rfl (by decide) (fun q => ?_) (fun q => ?_)
    · have hf := (if_pos q).symm.trans hf
      refine mj_blk k_X8_ok 24 2 (pc' := 22) (l' := [(2, .int (v2 + (1 : Int32))), (0, .ref v0), (1, .int v1)]) (st' := []) rfl ?_
      refine mj_locs [1, 2, 0] (l' := [(0, .ref v0), (1, .int v1), (2, .int (v2 + (1 : Int32)))]) rfl ?_
      exact hK22 v0 v1 (v2 + (1 : Int32)) p3.2 _ hf
    · have hf := (if_neg q).symm.trans hf
      refine mj_blk k_X8_ok 22 1 (pc' := 43) (l' := [(0, .ref v0), (1, .int v1), (2, .int v2)]) (st' := [.int v2]) rfl ?_
      obtain rfl := Option.some.inj hf
      exact mj_end (some (.int v2)) ⟨mj_dec tok_X8_next (a := 23) rfl, .int, rfl, rfl⟩ ⟨rfl, rfl⟩ (Nat.le_of_ble_eq_true rfl) (Nat.le_of_ble_eq_true rfl)
def f_X8_next_22 (v0 : Nat) (v1 : Int32) (v2 : Int32) (h : mj_H) : Option (Int32 × mj_H) := mj_fix (fun (K22 : (Nat × Int32 × Int32 × mj_H) → Option (Int32 × mj_H)) (s : Nat × Int32 × Int32 × mj_H) => b_X8_next_22  (fun v0 v1 v2 h => K22 (v0, v1, v2, h)) s.1 s.2.1 s.2.2.1 s.2.2.2) 1000 (v0, v1, v2, h)
set_option maxHeartbeats 4000000 in
set_option maxRecDepth 100000 in
theorem w_X8_next_22 (v0 : Nat) (v1 : Int32) (v2 : Int32) (h : mj_H) (p : Int32 × mj_H) (hf : f_X8_next_22  v0 v1 v2 h = some p) : mj_W mX8_next (mj_FI p) 22 [(0, .ref v0), (1, .int v1), (2, .int v2)] [] h 0 0 := by
  unfold f_X8_next_22 at hf
  exact mj_fix_ind (F := (fun (K22 : (Nat × Int32 × Int32 × mj_H) → Option (Int32 × mj_H)) (s : Nat × Int32 × Int32 × mj_H) => b_X8_next_22  (fun v0 v1 v2 h => K22 (v0, v1, v2, h)) s.1 s.2.1 s.2.2.1 s.2.2.2)) (P := fun s p => mj_W mX8_next (mj_FI p) 22 [(0, .ref s.1), (1, .int s.2.1), (2, .int s.2.2.1)] [] s.2.2.2 0 0) (fun K22 hK22 s p hf => wb_X8_next_22   (fun v0 v1 v2 h => K22 (v0, v1, v2, h)) (fun v0 v1 v2 h p e => hK22 (v0, v1, v2, h) p e) s.1 s.2.1 s.2.2.1 s.2.2.2 p hf) 1000 (v0, v1, v2, h) p hf
def f_X8_next (v0 : Nat) (v1 : Int32) (h : mj_H) : Option (Int32 × mj_H) := (mj_gR h v0 8 0).bind fun x4 => (if mj_ob h x4 0 = true then (f_X0_hasAll x4 v1 h).bind fun p5 => (if p5.1 = 0 then (if mj_ob p5.2 v0 8 = true then (f_X8_refusedAs v0 (-2 : Int32) (-10 : Int32) p5.2).bind fun p6 => some (p6.1, p6.2) else none) else f_X8_next_22 v0 v1 (0 : Int32) p5.2) else none)
set_option maxHeartbeats 4000000 in
set_option maxRecDepth 100000 in
theorem c_X8_next (v0 : Nat) (v1 : Int32) (h : mj_H) (p : Int32 × mj_H) (hf : f_X8_next v0 v1 h = some p) : mj_Met mX8_next [.ref v0, .int v1] h (some (.int p.1)) p.2 := by
  refine mj_met pl_X8 tok_X8_next (Nat.le_of_ble_eq_true rfl) ?_
  show mj_W mX8_next (mj_FI p) 0 [(0, .ref v0), (1, .int v1)] [] h 0 0
  unfold f_X8_next at hf
  refine mj_blk k_X8_ok 0 1 (pc' := 1) (l' := [(0, .ref v0), (1, .int v1)]) (st' := [.ref v0]) rfl ?_
  obtain ⟨x4, ex4, hf⟩ := mj_bd hf
  refine mj_get 1 rfl fl_X8_10 (mj_gR_V ex4) ?_
  refine mj_blk k_X8_ok 2 1 (pc' := 5) (l' := [(0, .ref v0), (1, .int v1)]) (st' := [.int v1, .ref x4]) rfl ?_
  obtain ⟨gp5, hf⟩ := mj_gd hf
  obtain ⟨p5, ep5, hf⟩ := mj_bd hf
  refine mj_callV (T := TX0) (N := 7) (ci := 0) mX0_hasAll [.int v1] 3 rfl ll_X8_179 lb_X0_hasAll li_X0_hasAll ⟨Nat.le_of_ble_eq_true rfl, Nat.le_of_ble_eq_true rfl⟩ rfl gp5 rfl (rest := []) rfl (Nat.le_of_ble_eq_true rfl) ⟨Nat.le_of_ble_eq_true rfl, Nat.le_of_ble_eq_true rfl⟩ (c_X0_hasAll x4 v1 h p5 ep5) ?_
  show mj_W mX8_next (mj_FI p) 8 [(0, .ref v0), (1, .int v1)] [.int p5.1] p5.2 0 0
  refine mj_if_ne 4 20 rfl (by decide) (fun q => ?_) (fun q => ?_)
  · have hf := (if_neg q).symm.trans hf
    refine mj_blk k_X8_ok 10 2 (pc' := 22) (l' := [(2, .int (0 : Int32)), (0, .ref v0), (1, .int v1)]) (st' := []) rfl ?_
    refine mj_locs [1, 2, 0] (l' := [(0, .ref v0), (1, .int v1), (2, .int (0 : Int32))]) rfl ?_
    exact w_X8_next_22 v0 v1 (0 : Int32) p5.2 _ hf
  · have hf := (if_pos q).symm.trans hf
    refine mj_blk k_X8_ok 5 3 (pc' := 16) (l' := [(0, .ref v0), (1, .int v1)]) (st' := [.int (-10 : Int32), .int (-2 : Int32), .ref v0]) rfl ?_
    obtain ⟨gp6, hf⟩ := mj_gd hf
    obtain ⟨p6, ep6, hf⟩ := mj_bd hf
    refine mj_callV (T := TX8) (N := 14) (ci := 8) mX8_refusedAs [.int (-2 : Int32), .int (-10 : Int32)] 8 rfl ll_X8_202 lb_X8_refusedAs li_X8_refusedAs ⟨Nat.le_of_ble_eq_true rfl, Nat.le_of_ble_eq_true rfl⟩ rfl gp6 rfl (rest := []) rfl (Nat.le_of_ble_eq_true rfl) ⟨Nat.le_of_ble_eq_true rfl, Nat.le_of_ble_eq_true rfl⟩ (c_X8_refusedAs v0 (-2 : Int32) (-10 : Int32) p5.2 p6 ep6) ?_
    show mj_W mX8_next (mj_FI p) 19 [(0, .ref v0), (1, .int v1)] [.int p6.1] p6.2 0 0
    obtain rfl := Option.some.inj hf
    exact mj_end (some (.int p6.1)) ⟨mj_dec tok_X8_next (a := 9) rfl, .int, rfl, rfl⟩ ⟨rfl, rfl⟩ (Nat.le_of_ble_eq_true rfl) (Nat.le_of_ble_eq_true rfl)
def f_X8_gets (v0 : Int32) (v1 : Int32) (v2 : Int32) (h : mj_H) : Option (Int32 × mj_H) := (if v1 = 0 then (if (20 : Int32) ≤ v0 then some ((1 : Int32), h) else some ((3 : Int32), h)) else (if v2 = 0 then some ((4 : Int32), h) else some (((2 : Int32) - (v0 / (30 : Int32))), h)))
set_option maxHeartbeats 4000000 in
set_option maxRecDepth 100000 in
theorem c_X8_gets (v0 : Int32) (v1 : Int32) (v2 : Int32) (h : mj_H) (p : Int32 × mj_H) (hf : f_X8_gets v0 v1 v2 h = some p) : mj_Met mX8_gets [.int v0, .int v1, .int v2] h (some (.int p.1)) p.2 := by
  refine mj_met pl_X8 tok_X8_gets (Nat.le_of_ble_eq_true rfl) ?_
  show mj_W mX8_gets (mj_FI p) 0 [(0, .int v0), (1, .int v1), (2, .int v2)] [] h 0 0
  unfold f_X8_gets at hf
  refine mj_blk k_X8_ok 0 1 (pc' := 1) (l' := [(0, .int v0), (1, .int v1), (2, .int v2)]) (st' := [.int v1]) rfl ?_
  refine mj_if_ne 1 16 rfl (by decide) (fun q => ?_) (fun q => ?_)
  · have hf := (if_neg q).symm.trans hf
    refine mj_blk k_X8_ok 9 1 (pc' := 17) (l' := [(0, .int v0), (1, .int v1), (2, .int v2)]) (st' := [.int v2]) rfl ?_
    refine mj_if_ne 10 24 rfl (by decide) (fun q => ?_) (fun q => ?_)
    · have hf := (if_neg q).symm.trans hf
      refine mj_blk k_X8_ok 13 3 (pc' := 28) (l' := [(0, .int v0), (1, .int v1), (2, .int v2)]) (st' := [.int (30 : Int32), .int v0, .int (2 : Int32)]) rfl ?_
      refine mj_idiv 16 rfl (by decide) ?_
      refine mj_blk k_X8_ok 17 1 (pc' := 30) (l' := [(0, .int v0), (1, .int v1), (2, .int v2)]) (st' := [.int ((2 : Int32) - (v0 / (30 : Int32)))]) rfl ?_
      obtain rfl := Option.some.inj hf
      exact mj_end (some (.int ((2 : Int32) - (v0 / (30 : Int32))))) ⟨mj_dec tok_X8_gets (a := 18) rfl, .int, rfl, rfl⟩ ⟨rfl, rfl⟩ (Nat.le_of_ble_eq_true rfl) (Nat.le_of_ble_eq_true rfl)
    · have hf := (if_pos q).symm.trans hf
      refine mj_blk k_X8_ok 11 2 (pc' := 30) (l' := [(0, .int v0), (1, .int v1), (2, .int v2)]) (st' := [.int (4 : Int32)]) rfl ?_
      obtain rfl := Option.some.inj hf
      exact mj_end (some (.int (4 : Int32))) ⟨mj_dec tok_X8_gets (a := 18) rfl, .int, rfl, rfl⟩ ⟨rfl, rfl⟩ (Nat.le_of_ble_eq_true rfl) (Nat.le_of_ble_eq_true rfl)
  · have hf := (if_pos q).symm.trans hf
    refine mj_blk k_X8_ok 2 2 (pc' := 7) (l' := [(0, .int v0), (1, .int v1), (2, .int v2)]) (st' := [.int (20 : Int32), .int v0]) rfl ?_
    refine mj_icmp_ge 4 14 rfl (by decide) (fun q => ?_) (fun q => ?_)
    · have hf := (if_pos q).symm.trans hf
      refine mj_blk k_X8_ok 7 1 (pc' := 15) (l' := [(0, .int v0), (1, .int v1), (2, .int v2)]) (st' := [.int (1 : Int32)]) rfl ?_
      obtain rfl := Option.some.inj hf
      exact mj_end (some (.int (1 : Int32))) ⟨mj_dec tok_X8_gets (a := 8) rfl, .int, rfl, rfl⟩ ⟨rfl, rfl⟩ (Nat.le_of_ble_eq_true rfl) (Nat.le_of_ble_eq_true rfl)
    · have hf := (if_neg q).symm.trans hf
      refine mj_blk k_X8_ok 5 2 (pc' := 15) (l' := [(0, .int v0), (1, .int v1), (2, .int v2)]) (st' := [.int (3 : Int32)]) rfl ?_
      obtain rfl := Option.some.inj hf
      exact mj_end (some (.int (3 : Int32))) ⟨mj_dec tok_X8_gets (a := 8) rfl, .int, rfl, rfl⟩ ⟨rfl, rfl⟩ (Nat.le_of_ble_eq_true rfl) (Nat.le_of_ble_eq_true rfl)
def f_X8_rests (v0 : Int32) (v1 : Int32) (v2 : Int32) (h : mj_H) : Option (Int32 × mj_H) := (f_X8_gets v0 v1 v2 h).bind fun p1 => (f_X8_gets v0 ((1 : Int32) - v1) v2 p1.2).bind fun p2 => (if p1.1 < p2.1 then some ((0 : Int32), p2.2) else some ((1 : Int32), p2.2))
set_option maxHeartbeats 4000000 in
set_option maxRecDepth 100000 in
theorem c_X8_rests (v0 : Int32) (v1 : Int32) (v2 : Int32) (h : mj_H) (p : Int32 × mj_H) (hf : f_X8_rests v0 v1 v2 h = some p) : mj_Met mX8_rests [.int v0, .int v1, .int v2] h (some (.int p.1)) p.2 := by
  refine mj_met pl_X8 tok_X8_rests (Nat.le_of_ble_eq_true rfl) ?_
  show mj_W mX8_rests (mj_FI p) 0 [(0, .int v0), (1, .int v1), (2, .int v2)] [] h 0 0
  unfold f_X8_rests at hf
  refine mj_blk k_X8_ok 0 3 (pc' := 3) (l' := [(0, .int v0), (1, .int v1), (2, .int v2)]) (st' := [.int v2, .int v1, .int v0]) rfl ?_
  obtain ⟨p1, ep1, hf⟩ := mj_bd hf
  refine mj_callS mX8_gets [.int v0, .int v1, .int v2] 3 rfl ll_X8_330 lb_X8_gets li_X8_gets ⟨Nat.le_of_ble_eq_true rfl, Nat.le_of_ble_eq_true rfl⟩ rfl (rest := []) rfl (Nat.le_of_ble_eq_true rfl) ⟨Nat.le_of_ble_eq_true rfl, Nat.le_of_ble_eq_true rfl⟩ (c_X8_gets v0 v1 v2 h p1 ep1) ?_
  show mj_W mX8_rests (mj_FI p) 6 [(0, .int v0), (1, .int v1), (2, .int v2)] [.int p1.1] p1.2 0 0
  refine mj_blk k_X8_ok 4 5 (pc' := 11) (l' := [(0, .int v0), (1, .int v1), (2, .int v2)]) (st' := [.int v2, .int ((1 : Int32) - v1), .int v0, .int p1.1]) rfl ?_
  obtain ⟨p2, ep2, hf⟩ := mj_bd hf
  refine mj_callS mX8_gets [.int v0, .int ((1 : Int32) - v1), .int v2] 9 rfl ll_X8_330 lb_X8_gets li_X8_gets ⟨Nat.le_of_ble_eq_true rfl, Nat.le_of_ble_eq_true rfl⟩ rfl (rest := [.int p1.1]) rfl (Nat.le_of_ble_eq_true rfl) ⟨Nat.le_of_ble_eq_true rfl, Nat.le_of_ble_eq_true rfl⟩ (c_X8_gets v0 ((1 : Int32) - v1) v2 p1.2 p2 ep2) ?_
  show mj_W mX8_rests (mj_FI p) 14 [(0, .int v0), (1, .int v1), (2, .int v2)] [.int p2.1, .int p1.1] p2.2 0 0
  refine mj_icmp_lt 10 21 rfl (by decide) (fun q => ?_) (fun q => ?_)
  · have hf := (if_pos q).symm.trans hf
    refine mj_blk k_X8_ok 13 1 (pc' := 22) (l' := [(0, .int v0), (1, .int v1), (2, .int v2)]) (st' := [.int (0 : Int32)]) rfl ?_
    obtain rfl := Option.some.inj hf
    exact mj_end (some (.int (0 : Int32))) ⟨mj_dec tok_X8_rests (a := 14) rfl, .boolean, rfl, rfl⟩ ⟨rfl, rfl⟩ (Nat.le_of_ble_eq_true rfl) (Nat.le_of_ble_eq_true rfl)
  · have hf := (if_neg q).symm.trans hf
    refine mj_blk k_X8_ok 11 2 (pc' := 22) (l' := [(0, .int v0), (1, .int v1), (2, .int v2)]) (st' := [.int (1 : Int32)]) rfl ?_
    obtain rfl := Option.some.inj hf
    exact mj_end (some (.int (1 : Int32))) ⟨mj_dec tok_X8_rests (a := 14) rfl, .boolean, rfl, rfl⟩ ⟨rfl, rfl⟩ (Nat.le_of_ble_eq_true rfl) (Nat.le_of_ble_eq_true rfl)
def f_X8_boast_155 (K81 : Nat → Int32 → Int32 → Int32 → Int32 → Int32 → Int32 → mj_H → Option (Int32 × mj_H)) (K90 : Nat → Int32 → Int32 → Int32 → Int32 → Int32 → Int32 → Int32 → mj_H → Option (Int32 × mj_H)) (v0 : Nat) (v1 : Int32) (v2 : Int32) (v3 : Int32) (v4 : Int32) (v5 : Int32) (v6 : Int32) (v7 : Int32) (h : mj_H) : Option (Int32 × mj_H) := K90 v0 v1 v2 v3 v4 v5 v6 (v7 + (1 : Int32)) h
set_option maxHeartbeats 4000000 in
set_option maxRecDepth 100000 in
theorem w_X8_boast_155 (K81 : Nat → Int32 → Int32 → Int32 → Int32 → Int32 → Int32 → mj_H → Option (Int32 × mj_H)) (K90 : Nat → Int32 → Int32 → Int32 → Int32 → Int32 → Int32 → Int32 → mj_H → Option (Int32 × mj_H)) (hK81 : ∀ (v0 : Nat) (v1 : Int32) (v2 : Int32) (v3 : Int32) (v4 : Int32) (v5 : Int32) (v6 : Int32)  (h : mj_H) (p : Int32 × mj_H), K81 v0 v1 v2 v3 v4 v5 v6 h = some p → mj_W mX8_boast (mj_FI p) 81 [(0, .ref v0), (1, .int v1), (2, .int v2), (3, .int v3), (4, .int v4), (5, .int v5), (6, .int v6)] [] h 0 0) (hK90 : ∀ (v0 : Nat) (v1 : Int32) (v2 : Int32) (v3 : Int32) (v4 : Int32) (v5 : Int32) (v6 : Int32) (v7 : Int32)  (h : mj_H) (p : Int32 × mj_H), K90 v0 v1 v2 v3 v4 v5 v6 v7 h = some p → mj_W mX8_boast (mj_FI p) 90 [(0, .ref v0), (1, .int v1), (2, .int v2), (3, .int v3), (4, .int v4), (5, .int v5), (6, .int v6), (7, .int v7)] [] h 0 0) (v0 : Nat) (v1 : Int32) (v2 : Int32) (v3 : Int32) (v4 : Int32) (v5 : Int32) (v6 : Int32) (v7 : Int32) (h : mj_H) (p : Int32 × mj_H) (hf : f_X8_boast_155 K81 K90 v0 v1 v2 v3 v4 v5 v6 v7 h = some p) : mj_W mX8_boast (mj_FI p) 155 [(0, .ref v0), (1, .int v1), (2, .int v2), (3, .int v3), (4, .int v4), (5, .int v5), (6, .int v6), (7, .int v7)] [] h 0 0 := by
  unfold f_X8_boast_155 at hf
  refine mj_blk k_X8_ok 77 2 (pc' := 90) (l' := [(7, .int (v7 + (1 : Int32))), (0, .ref v0), (1, .int v1), (2, .int v2), (3, .int v3), (4, .int v4), (5, .int v5), (6, .int v6)]) (st' := []) rfl ?_
  refine mj_locs [1, 2, 3, 4, 5, 6, 7, 0] (l' := [(0, .ref v0), (1, .int v1), (2, .int v2), (3, .int v3), (4, .int v4), (5, .int v5), (6, .int v6), (7, .int (v7 + (1 : Int32)))]) rfl ?_
  exact hK90 v0 v1 v2 v3 v4 v5 v6 (v7 + (1 : Int32)) h _ hf
def f_X8_boast_150 (K81 : Nat → Int32 → Int32 → Int32 → Int32 → Int32 → Int32 → mj_H → Option (Int32 × mj_H)) (K90 : Nat → Int32 → Int32 → Int32 → Int32 → Int32 → Int32 → Int32 → mj_H → Option (Int32 × mj_H)) (v0 : Nat) (v1 : Int32) (v2 : Int32) (v3 : Int32) (v4 : Int32) (v6 : Int32) (v7 : Int32) (s0 : Int32) (h : mj_H) : Option (Int32 × mj_H) := f_X8_boast_155 K81 K90 v0 v1 v2 v3 (v4 + (1 : Int32)) s0 v6 v7 h
set_option maxHeartbeats 4000000 in
set_option maxRecDepth 100000 in
theorem w_X8_boast_150 (K81 : Nat → Int32 → Int32 → Int32 → Int32 → Int32 → Int32 → mj_H → Option (Int32 × mj_H)) (K90 : Nat → Int32 → Int32 → Int32 → Int32 → Int32 → Int32 → Int32 → mj_H → Option (Int32 × mj_H)) (hK81 : ∀ (v0 : Nat) (v1 : Int32) (v2 : Int32) (v3 : Int32) (v4 : Int32) (v5 : Int32) (v6 : Int32)  (h : mj_H) (p : Int32 × mj_H), K81 v0 v1 v2 v3 v4 v5 v6 h = some p → mj_W mX8_boast (mj_FI p) 81 [(0, .ref v0), (1, .int v1), (2, .int v2), (3, .int v3), (4, .int v4), (5, .int v5), (6, .int v6)] [] h 0 0) (hK90 : ∀ (v0 : Nat) (v1 : Int32) (v2 : Int32) (v3 : Int32) (v4 : Int32) (v5 : Int32) (v6 : Int32) (v7 : Int32)  (h : mj_H) (p : Int32 × mj_H), K90 v0 v1 v2 v3 v4 v5 v6 v7 h = some p → mj_W mX8_boast (mj_FI p) 90 [(0, .ref v0), (1, .int v1), (2, .int v2), (3, .int v3), (4, .int v4), (5, .int v5), (6, .int v6), (7, .int v7)] [] h 0 0) (v0 : Nat) (v1 : Int32) (v2 : Int32) (v3 : Int32) (v4 : Int32) (v6 : Int32) (v7 : Int32) (s0 : Int32) (h : mj_H) (p : Int32 × mj_H) (hf : f_X8_boast_150 K81 K90 v0 v1 v2 v3 v4 v6 v7 s0 h = some p) : mj_W mX8_boast (mj_FI p) 150 [(0, .ref v0), (1, .int v1), (2, .int v2), (3, .int v3), (4, .int v4), (6, .int v6), (7, .int v7)] [.int s0] h 0 0 := by
  unfold f_X8_boast_150 at hf
  refine mj_blk k_X8_ok 75 2 (pc' := 155) (l' := [(4, .int (v4 + (1 : Int32))), (5, .int s0), (0, .ref v0), (1, .int v1), (2, .int v2), (3, .int v3), (6, .int v6), (7, .int v7)]) (st' := []) rfl ?_
  refine mj_locs [2, 3, 4, 5, 0, 1, 6, 7] (l' := [(0, .ref v0), (1, .int v1), (2, .int v2), (3, .int v3), (4, .int (v4 + (1 : Int32))), (5, .int s0), (6, .int v6), (7, .int v7)]) rfl ?_
  exact w_X8_boast_155 K81 K90 hK81 hK90 v0 v1 v2 v3 (v4 + (1 : Int32)) s0 v6 v7 h _ hf
def b_X8_boast_90 (K81 : Nat → Int32 → Int32 → Int32 → Int32 → Int32 → Int32 → mj_H → Option (Int32 × mj_H)) (K90 : Nat → Int32 → Int32 → Int32 → Int32 → Int32 → Int32 → Int32 → mj_H → Option (Int32 × mj_H)) (v0 : Nat) (v1 : Int32) (v2 : Int32) (v3 : Int32) (v4 : Int32) (v5 : Int32) (v6 : Int32) (v7 : Int32) (h : mj_H) : Option (Int32 × mj_H) := (if (1 : Int32) < v7 then K81 v0 v1 v2 v3 v4 v5 (v6 + (1 : Int32)) h else (mj_gR h v0 8 0).bind fun x1 => (if mj_ob h x1 0 = true then (f_X0_trustOf x1 v1 h).bind fun p2 => (f_X8_rests p2.1 v6 v7 p2.2).bind fun p3 => (if p3.1 = 0 then f_X8_boast_155 K81 K90 v0 v1 v2 v3 v4 v5 v6 v7 p3.2 else (mj_gR p3.2 v0 8 0).bind fun x4 => (if mj_ob p3.2 x4 0 = true then (f_X0_trustOf x4 v2 p3.2).bind fun p5 => (f_X8_rests p5.1 v7 v6 p5.2).bind fun p6 => (if p6.1 = 0 then f_X8_boast_155 K81 K90 v0 v1 v2 v3 v4 v5 v6 v7 p6.2 else (if v4 = 0 then f_X8_boast_150 K81 K90 v0 v1 v2 v3 v4 v6 v7 (((10 : Int32) * v6) + v7) p6.2 else f_X8_boast_150 K81 K90 v0 v1 v2 v3 v4 v6 v7 v5 p6.2)) else none)) else none))
set_option maxHeartbeats 4000000 in
set_option maxRecDepth 100000 in
theorem wb_X8_boast_90 (K81 : Nat → Int32 → Int32 → Int32 → Int32 → Int32 → Int32 → mj_H → Option (Int32 × mj_H)) (hK81 : ∀ (v0 : Nat) (v1 : Int32) (v2 : Int32) (v3 : Int32) (v4 : Int32) (v5 : Int32) (v6 : Int32)  (h : mj_H) (p : Int32 × mj_H), K81 v0 v1 v2 v3 v4 v5 v6 h = some p → mj_W mX8_boast (mj_FI p) 81 [(0, .ref v0), (1, .int v1), (2, .int v2), (3, .int v3), (4, .int v4), (5, .int v5), (6, .int v6)] [] h 0 0) (K90 : Nat → Int32 → Int32 → Int32 → Int32 → Int32 → Int32 → Int32 → mj_H → Option (Int32 × mj_H)) (hK90 : ∀ (v0 : Nat) (v1 : Int32) (v2 : Int32) (v3 : Int32) (v4 : Int32) (v5 : Int32) (v6 : Int32) (v7 : Int32)  (h : mj_H) (p : Int32 × mj_H), K90 v0 v1 v2 v3 v4 v5 v6 v7 h = some p → mj_W mX8_boast (mj_FI p) 90 [(0, .ref v0), (1, .int v1), (2, .int v2), (3, .int v3), (4, .int v4), (5, .int v5), (6, .int v6), (7, .int v7)] [] h 0 0) (v0 : Nat) (v1 : Int32) (v2 : Int32) (v3 : Int32) (v4 : Int32) (v5 : Int32) (v6 : Int32) (v7 : Int32) (h : mj_H) (p : Int32 × mj_H) (hf : b_X8_boast_90 K81 K90 v0 v1 v2 v3 v4 v5 v6 v7 h = some p) : mj_W mX8_boast (mj_FI p) 90 [(0, .ref v0), (1, .int v1), (2, .int v2), (3, .int v3), (4, .int v4), (5, .int v5), (6, .int v6), (7, .int v7)] [] h 0 0 := by
  unfold b_X8_boast_90 at hf
  refine mj_blk k_X8_ok 47 2 (pc' := 93) (l' := [(0, .ref v0), (1, .int v1), (2, .int v2), (3, .int v3), (4, .int v4), (5, .int v5), (6, .int v6), (7, .int v7)]) (st' := [.int (1 : Int32), .int v7]) rfl ?_
  refine mj_icmp_gt 49 161 rfl (by decide) (fun q => ?_) (fun q => ?_)
  · have hf := (if_pos q).symm.trans hf
    refine mj_blk k_X8_ok 79 2 (pc' := 81) (l' := [(6, .int (v6 + (1 : Int32))), (0, .ref v0), (1, .int v1), (2, .int v2), (3, .int v3), (4, .int v4), (5, .int v5), (7, .int v7)]) (st' := []) rfl ?_
    refine mj_locs [1, 2, 3, 4, 5, 6, 0] (l' := [(0, .ref v0), (1, .int v1), (2, .int v2), (3, .int v3), (4, .int v4), (5, .int v5), (6, .int (v6 + (1 : Int32)))]) rfl ?_
    exact hK81 v0 v1 v2 v3 v4 v5 (v6 + (1 : Int32)) h _ hf
  · have hf := (if_neg q).symm.trans hf
    refine mj_blk k_X8_ok 50 1 (pc' := 97) (l' := [(0, .ref v0), (1, .int v1), (2, .int v2), (3, .int v3), (4, .int v4), (5, .int v5), (6, .int v6), (7, .int v7)]) (st' := [.ref v0]) rfl ?_
    obtain ⟨x1, ex1, hf⟩ := mj_bd hf
    refine mj_get 51 rfl fl_X8_10 (mj_gR_V ex1) ?_
    refine mj_blk k_X8_ok 52 1 (pc' := 101) (l' := [(0, .ref v0), (1, .int v1), (2, .int v2), (3, .int v3), (4, .int v4), (5, .int v5), (6, .int v6), (7, .int v7)]) (st' := [.int v1, .ref x1]) rfl ?_
    obtain ⟨gp2, hf⟩ := mj_gd hf
    obtain ⟨p2, ep2, hf⟩ := mj_bd hf
    refine mj_callV (T := TX0) (N := 7) (ci := 0) mX0_trustOf [.int v1] 53 rfl ll_X8_149 lb_X0_trustOf li_X0_trustOf ⟨Nat.le_of_ble_eq_true rfl, Nat.le_of_ble_eq_true rfl⟩ rfl gp2 rfl (rest := []) rfl (Nat.le_of_ble_eq_true rfl) ⟨Nat.le_of_ble_eq_true rfl, Nat.le_of_ble_eq_true rfl⟩ (c_X0_trustOf x1 v1 h p2 ep2) ?_
    show mj_W mX8_boast (mj_FI p) 104 [(0, .ref v0), (1, .int v1), (2, .int v2), (3, .int v3), (4, .int v4), (5, .int v5), (6, .int v6), (7, .int v7)] [.int p2.1] p2.2 0 0
    refine mj_blk k_X8_ok 54 2 (pc' := 108) (l' := [(0, .ref v0), (1, .int v1), (2, .int v2), (3, .int v3), (4, .int v4), (5, .int v5), (6, .int v6), (7, .int v7)]) (st' := [.int v7, .int v6, .int p2.1]) rfl ?_
    obtain ⟨p3, ep3, hf⟩ := mj_bd hf
    refine mj_callS mX8_rests [.int p2.1, .int v6, .int v7] 56 rfl ll_X8_266 lb_X8_rests li_X8_rests ⟨Nat.le_of_ble_eq_true rfl, Nat.le_of_ble_eq_true rfl⟩ rfl (rest := []) rfl (Nat.le_of_ble_eq_true rfl) ⟨Nat.le_of_ble_eq_true rfl, Nat.le_of_ble_eq_true rfl⟩ (c_X8_rests p2.1 v6 v7 p2.2 p3 ep3) ?_
    show mj_W mX8_boast (mj_FI p) 111 [(0, .ref v0), (1, .int v1), (2, .int v2), (3, .int v3), (4, .int v4), (5, .int v5), (6, .int v6), (7, .int v7)] [.int p3.1] p3.2 0 0
    refine mj_if_eq 57 155 rfl (by decide) (fun q => ?_) (fun q => ?_)
    · have hf := (if_pos q).symm.trans hf
      exact w_X8_boast_155 K81 K90 hK81 hK90 v0 v1 v2 v3 v4 v5 v6 v7 p3.2 _ hf
    · have hf := (if_neg q).symm.trans hf
      refine mj_blk k_X8_ok 58 1 (pc' := 115) (l' := [(0, .ref v0), (1, .int v1), (2, .int v2), (3, .int v3), (4, .int v4), (5, .int v5), (6, .int v6), (7, .int v7)]) (st' := [.ref v0]) rfl ?_
      obtain ⟨x4, ex4, hf⟩ := mj_bd hf
      refine mj_get 59 rfl fl_X8_10 (mj_gR_V ex4) ?_
      refine mj_blk k_X8_ok 60 1 (pc' := 119) (l' := [(0, .ref v0), (1, .int v1), (2, .int v2), (3, .int v3), (4, .int v4), (5, .int v5), (6, .int v6), (7, .int v7)]) (st' := [.int v2, .ref x4]) rfl ?_
      obtain ⟨gp5, hf⟩ := mj_gd hf
      obtain ⟨p5, ep5, hf⟩ := mj_bd hf
      refine mj_callV (T := TX0) (N := 7) (ci := 0) mX0_trustOf [.int v2] 61 rfl ll_X8_149 lb_X0_trustOf li_X0_trustOf ⟨Nat.le_of_ble_eq_true rfl, Nat.le_of_ble_eq_true rfl⟩ rfl gp5 rfl (rest := []) rfl (Nat.le_of_ble_eq_true rfl) ⟨Nat.le_of_ble_eq_true rfl, Nat.le_of_ble_eq_true rfl⟩ (c_X0_trustOf x4 v2 p3.2 p5 ep5) ?_
      show mj_W mX8_boast (mj_FI p) 122 [(0, .ref v0), (1, .int v1), (2, .int v2), (3, .int v3), (4, .int v4), (5, .int v5), (6, .int v6), (7, .int v7)] [.int p5.1] p5.2 0 0
      refine mj_blk k_X8_ok 62 2 (pc' := 126) (l' := [(0, .ref v0), (1, .int v1), (2, .int v2), (3, .int v3), (4, .int v4), (5, .int v5), (6, .int v6), (7, .int v7)]) (st' := [.int v6, .int v7, .int p5.1]) rfl ?_
      obtain ⟨p6, ep6, hf⟩ := mj_bd hf
      refine mj_callS mX8_rests [.int p5.1, .int v7, .int v6] 64 rfl ll_X8_266 lb_X8_rests li_X8_rests ⟨Nat.le_of_ble_eq_true rfl, Nat.le_of_ble_eq_true rfl⟩ rfl (rest := []) rfl (Nat.le_of_ble_eq_true rfl) ⟨Nat.le_of_ble_eq_true rfl, Nat.le_of_ble_eq_true rfl⟩ (c_X8_rests p5.1 v7 v6 p5.2 p6 ep6) ?_
      show mj_W mX8_boast (mj_FI p) 129 [(0, .ref v0), (1, .int v1), (2, .int v2), (3, .int v3), (4, .int v4), (5, .int v5), (6, .int v6), (7, .int v7)] [.int p6.1] p6.2 0 0
      refine mj_if_eq 65 155 rfl (by decide) (fun q => ?_) (fun q => ?_)
      · have hf := (if_pos q).symm.trans hf
        exact w_X8_boast_155 K81 K90 hK81 hK90 v0 v1 v2 v3 v4 v5 v6 v7 p6.2 _ hf
      · have hf := (if_neg q).symm.trans hf
        refine mj_blk k_X8_ok 66 1 (pc' := 134) (l' := [(0, .ref v0), (1, .int v1), (2, .int v2), (3, .int v3), (4, .int v4), (5, .int v5), (6, .int v6), (7, .int v7)]) (st' := [.int v4]) rfl ?_
        refine mj_if_ne 67 148 rfl (by decide) (fun q => ?_) (fun q => ?_)
        · have hf := (if_neg q).symm.trans hf
          refine mj_blk k_X8_ok 74 1 (pc' := 150) (l' := [(0, .ref v0), (1, .int v1), (2, .int v2), (3, .int v3), (4, .int v4), (5, .int v5), (6, .int v6), (7, .int v7)]) (st' := [.int v5]) rfl ?_
          refine mj_locs [0, 1, 2, 3, 4, 6, 7] (l' := [(0, .ref v0), (1, .int v1), (2, .int v2), (3, .int v3), (4, .int v4), (6, .int v6), (7, .int v7)]) rfl ?_
          exact w_X8_boast_150 K81 K90 hK81 hK90 v0 v1 v2 v3 v4 v6 v7 v5 p6.2 _ hf
        · have hf := (if_pos q).symm.trans hf
          refine mj_blk k_X8_ok 68 6 (pc' := 150) (l' := [(0, .ref v0), (1, .int v1), (2, .int v2), (3, .int v3), (4, .int v4), (5, .int v5), (6, .int v6), (7, .int v7)]) (st' := [.int (((10 : Int32) * v6) + v7)]) rfl ?_
          refine mj_locs [0, 1, 2, 3, 4, 6, 7] (l' := [(0, .ref v0), (1, .int v1), (2, .int v2), (3, .int v3), (4, .int v4), (6, .int v6), (7, .int v7)]) rfl ?_
          exact w_X8_boast_150 K81 K90 hK81 hK90 v0 v1 v2 v3 v4 v6 v7 (((10 : Int32) * v6) + v7) p6.2 _ hf
def f_X8_boast_90 (K81 : Nat → Int32 → Int32 → Int32 → Int32 → Int32 → Int32 → mj_H → Option (Int32 × mj_H)) (v0 : Nat) (v1 : Int32) (v2 : Int32) (v3 : Int32) (v4 : Int32) (v5 : Int32) (v6 : Int32) (v7 : Int32) (h : mj_H) : Option (Int32 × mj_H) := mj_fix (fun (K90 : (Nat × Int32 × Int32 × Int32 × Int32 × Int32 × Int32 × Int32 × mj_H) → Option (Int32 × mj_H)) (s : Nat × Int32 × Int32 × Int32 × Int32 × Int32 × Int32 × Int32 × mj_H) => b_X8_boast_90 K81 (fun v0 v1 v2 v3 v4 v5 v6 v7 h => K90 (v0, v1, v2, v3, v4, v5, v6, v7, h)) s.1 s.2.1 s.2.2.1 s.2.2.2.1 s.2.2.2.2.1 s.2.2.2.2.2.1 s.2.2.2.2.2.2.1 s.2.2.2.2.2.2.2.1 s.2.2.2.2.2.2.2.2) 1000 (v0, v1, v2, v3, v4, v5, v6, v7, h)
set_option maxHeartbeats 4000000 in
set_option maxRecDepth 100000 in
theorem w_X8_boast_90 (K81 : Nat → Int32 → Int32 → Int32 → Int32 → Int32 → Int32 → mj_H → Option (Int32 × mj_H)) (hK81 : ∀ (v0 : Nat) (v1 : Int32) (v2 : Int32) (v3 : Int32) (v4 : Int32) (v5 : Int32) (v6 : Int32)  (h : mj_H) (p : Int32 × mj_H), K81 v0 v1 v2 v3 v4 v5 v6 h = some p → mj_W mX8_boast (mj_FI p) 81 [(0, .ref v0), (1, .int v1), (2, .int v2), (3, .int v3), (4, .int v4), (5, .int v5), (6, .int v6)] [] h 0 0) (v0 : Nat) (v1 : Int32) (v2 : Int32) (v3 : Int32) (v4 : Int32) (v5 : Int32) (v6 : Int32) (v7 : Int32) (h : mj_H) (p : Int32 × mj_H) (hf : f_X8_boast_90 K81 v0 v1 v2 v3 v4 v5 v6 v7 h = some p) : mj_W mX8_boast (mj_FI p) 90 [(0, .ref v0), (1, .int v1), (2, .int v2), (3, .int v3), (4, .int v4), (5, .int v5), (6, .int v6), (7, .int v7)] [] h 0 0 := by
  unfold f_X8_boast_90 at hf
  exact mj_fix_ind (F := (fun (K90 : (Nat × Int32 × Int32 × Int32 × Int32 × Int32 × Int32 × Int32 × mj_H) → Option (Int32 × mj_H)) (s : Nat × Int32 × Int32 × Int32 × Int32 × Int32 × Int32 × Int32 × mj_H) => b_X8_boast_90 K81 (fun v0 v1 v2 v3 v4 v5 v6 v7 h => K90 (v0, v1, v2, v3, v4, v5, v6, v7, h)) s.1 s.2.1 s.2.2.1 s.2.2.2.1 s.2.2.2.2.1 s.2.2.2.2.2.1 s.2.2.2.2.2.2.1 s.2.2.2.2.2.2.2.1 s.2.2.2.2.2.2.2.2)) (P := fun s p => mj_W mX8_boast (mj_FI p) 90 [(0, .ref s.1), (1, .int s.2.1), (2, .int s.2.2.1), (3, .int s.2.2.2.1), (4, .int s.2.2.2.2.1), (5, .int s.2.2.2.2.2.1), (6, .int s.2.2.2.2.2.2.1), (7, .int s.2.2.2.2.2.2.2.1)] [] s.2.2.2.2.2.2.2.2 0 0) (fun K90 hK90 s p hf => wb_X8_boast_90 K81 hK81 (fun v0 v1 v2 v3 v4 v5 v6 v7 h => K90 (v0, v1, v2, v3, v4, v5, v6, v7, h)) (fun v0 v1 v2 v3 v4 v5 v6 v7 h p e => hK90 (v0, v1, v2, v3, v4, v5, v6, v7, h) p e) s.1 s.2.1 s.2.2.1 s.2.2.2.1 s.2.2.2.2.1 s.2.2.2.2.2.1 s.2.2.2.2.2.2.1 s.2.2.2.2.2.2.2.1 s.2.2.2.2.2.2.2.2 p hf) 1000 (v0, v1, v2, v3, v4, v5, v6, v7, h) p hf
def b_X8_boast_81 (K81 : Nat → Int32 → Int32 → Int32 → Int32 → Int32 → Int32 → mj_H → Option (Int32 × mj_H)) (v0 : Nat) (v1 : Int32) (v2 : Int32) (v3 : Int32) (v4 : Int32) (v5 : Int32) (v6 : Int32) (h : mj_H) : Option (Int32 × mj_H) := (if (1 : Int32) < v6 then (if v3 = 0 then some (v4, h) else some (v5, h)) else f_X8_boast_90 K81 v0 v1 v2 v3 v4 v5 v6 (0 : Int32) h)
set_option maxHeartbeats 4000000 in
set_option maxRecDepth 100000 in
theorem wb_X8_boast_81 (K81 : Nat → Int32 → Int32 → Int32 → Int32 → Int32 → Int32 → mj_H → Option (Int32 × mj_H)) (hK81 : ∀ (v0 : Nat) (v1 : Int32) (v2 : Int32) (v3 : Int32) (v4 : Int32) (v5 : Int32) (v6 : Int32)  (h : mj_H) (p : Int32 × mj_H), K81 v0 v1 v2 v3 v4 v5 v6 h = some p → mj_W mX8_boast (mj_FI p) 81 [(0, .ref v0), (1, .int v1), (2, .int v2), (3, .int v3), (4, .int v4), (5, .int v5), (6, .int v6)] [] h 0 0) (v0 : Nat) (v1 : Int32) (v2 : Int32) (v3 : Int32) (v4 : Int32) (v5 : Int32) (v6 : Int32) (h : mj_H) (p : Int32 × mj_H) (hf : b_X8_boast_81  K81 v0 v1 v2 v3 v4 v5 v6 h = some p) : mj_W mX8_boast (mj_FI p) 81 [(0, .ref v0), (1, .int v1), (2, .int v2), (3, .int v3), (4, .int v4), (5, .int v5), (6, .int v6)] [] h 0 0 := by
  unfold b_X8_boast_81 at hf
  refine mj_blk k_X8_ok 42 2 (pc' := 84) (l' := [(0, .ref v0), (1, .int v1), (2, .int v2), (3, .int v3), (4, .int v4), (5, .int v5), (6, .int v6)]) (st' := [.int (1 : Int32), .int v6]) rfl ?_
  refine mj_icmp_gt 44 167 rfl (by decide) (fun q => ?_) (fun q => ?_)
  · have hf := (if_pos q).symm.trans hf
    refine mj_blk k_X8_ok 81 1 (pc' := 168) (l' := [(0, .ref v0), (1, .int v1), (2, .int v2), (3, .int v3), (4, .int v4), (5, .int v5), (6, .int v6)]) (st' := [.int v3]) rfl ?_
    refine mj_if_ne 82 176 rfl (by decide) (fun q => ?_) (fun q => ?_)
    · have hf := (if_neg q).symm.trans hf
      refine mj_blk k_X8_ok 85 1 (pc' := 178) (l' := [(0, .ref v0), (1, .int v1), (2, .int v2), (3, .int v3), (4, .int v4), (5, .int v5), (6, .int v6)]) (st' := [.int v5]) rfl ?_
      obtain rfl := Option.some.inj hf
      exact mj_end (some (.int v5)) ⟨mj_dec tok_X8_boast (a := 86) rfl, .int, rfl, rfl⟩ ⟨rfl, rfl⟩ (Nat.le_of_ble_eq_true rfl) (Nat.le_of_ble_eq_true rfl)
    · have hf := (if_pos q).symm.trans hf
      refine mj_blk k_X8_ok 83 2 (pc' := 178) (l' := [(0, .ref v0), (1, .int v1), (2, .int v2), (3, .int v3), (4, .int v4), (5, .int v5), (6, .int v6)]) (st' := [.int v4]) rfl ?_
      obtain rfl := Option.some.inj hf
      exact mj_end (some (.int v4)) ⟨mj_dec tok_X8_boast (a := 86) rfl, .int, rfl, rfl⟩ ⟨rfl, rfl⟩ (Nat.le_of_ble_eq_true rfl) (Nat.le_of_ble_eq_true rfl)
  · have hf := (if_neg q).symm.trans hf
    refine mj_blk k_X8_ok 45 2 (pc' := 90) (l' := [(7, .int (0 : Int32)), (0, .ref v0), (1, .int v1), (2, .int v2), (3, .int v3), (4, .int v4), (5, .int v5), (6, .int v6)]) (st' := []) rfl ?_
    refine mj_locs [1, 2, 3, 4, 5, 6, 7, 0] (l' := [(0, .ref v0), (1, .int v1), (2, .int v2), (3, .int v3), (4, .int v4), (5, .int v5), (6, .int v6), (7, .int (0 : Int32))]) rfl ?_
    exact w_X8_boast_90 K81 hK81 v0 v1 v2 v3 v4 v5 v6 (0 : Int32) h _ hf
def f_X8_boast_81 (v0 : Nat) (v1 : Int32) (v2 : Int32) (v3 : Int32) (v4 : Int32) (v5 : Int32) (v6 : Int32) (h : mj_H) : Option (Int32 × mj_H) := mj_fix (fun (K81 : (Nat × Int32 × Int32 × Int32 × Int32 × Int32 × Int32 × mj_H) → Option (Int32 × mj_H)) (s : Nat × Int32 × Int32 × Int32 × Int32 × Int32 × Int32 × mj_H) => b_X8_boast_81  (fun v0 v1 v2 v3 v4 v5 v6 h => K81 (v0, v1, v2, v3, v4, v5, v6, h)) s.1 s.2.1 s.2.2.1 s.2.2.2.1 s.2.2.2.2.1 s.2.2.2.2.2.1 s.2.2.2.2.2.2.1 s.2.2.2.2.2.2.2) 1000 (v0, v1, v2, v3, v4, v5, v6, h)
set_option maxHeartbeats 4000000 in
set_option maxRecDepth 100000 in
theorem w_X8_boast_81 (v0 : Nat) (v1 : Int32) (v2 : Int32) (v3 : Int32) (v4 : Int32) (v5 : Int32) (v6 : Int32) (h : mj_H) (p : Int32 × mj_H) (hf : f_X8_boast_81  v0 v1 v2 v3 v4 v5 v6 h = some p) : mj_W mX8_boast (mj_FI p) 81 [(0, .ref v0), (1, .int v1), (2, .int v2), (3, .int v3), (4, .int v4), (5, .int v5), (6, .int v6)] [] h 0 0 := by
  unfold f_X8_boast_81 at hf
  exact mj_fix_ind (F := (fun (K81 : (Nat × Int32 × Int32 × Int32 × Int32 × Int32 × Int32 × mj_H) → Option (Int32 × mj_H)) (s : Nat × Int32 × Int32 × Int32 × Int32 × Int32 × Int32 × mj_H) => b_X8_boast_81  (fun v0 v1 v2 v3 v4 v5 v6 h => K81 (v0, v1, v2, v3, v4, v5, v6, h)) s.1 s.2.1 s.2.2.1 s.2.2.2.1 s.2.2.2.2.1 s.2.2.2.2.2.1 s.2.2.2.2.2.2.1 s.2.2.2.2.2.2.2)) (P := fun s p => mj_W mX8_boast (mj_FI p) 81 [(0, .ref s.1), (1, .int s.2.1), (2, .int s.2.2.1), (3, .int s.2.2.2.1), (4, .int s.2.2.2.2.1), (5, .int s.2.2.2.2.2.1), (6, .int s.2.2.2.2.2.2.1)] [] s.2.2.2.2.2.2.2 0 0) (fun K81 hK81 s p hf => wb_X8_boast_81   (fun v0 v1 v2 v3 v4 v5 v6 h => K81 (v0, v1, v2, v3, v4, v5, v6, h)) (fun v0 v1 v2 v3 v4 v5 v6 h p e => hK81 (v0, v1, v2, v3, v4, v5, v6, h) p e) s.1 s.2.1 s.2.2.1 s.2.2.2.1 s.2.2.2.2.1 s.2.2.2.2.2.1 s.2.2.2.2.2.2.1 s.2.2.2.2.2.2.2 p hf) 1000 (v0, v1, v2, v3, v4, v5, v6, h) p hf
def f_X8_boast_65 (v0 : Nat) (h : mj_H) : Option (Int32 × mj_H) := (if mj_ob h v0 8 = true then (f_X8_refused v0 (-3 : Int32) h).bind fun p7 => some (p7.1, p7.2) else none)
set_option maxHeartbeats 4000000 in
set_option maxRecDepth 100000 in
theorem w_X8_boast_65 (v0 : Nat) (h : mj_H) (p : Int32 × mj_H) (hf : f_X8_boast_65  v0 h = some p) : mj_W mX8_boast (mj_FI p) 65 [(0, .ref v0)] [] h 0 0 := by
  unfold f_X8_boast_65 at hf
  refine mj_blk k_X8_ok 32 2 (pc' := 68) (l' := [(0, .ref v0)]) (st' := [.int (-3 : Int32), .ref v0]) rfl ?_
  obtain ⟨gp7, hf⟩ := mj_gd hf
  obtain ⟨p7, ep7, hf⟩ := mj_bd hf
  refine mj_callV (T := TX8) (N := 14) (ci := 8) mX8_refused [.int (-3 : Int32)] 34 rfl ll_X8_102 lb_X8_refused li_X8_refused ⟨Nat.le_of_ble_eq_true rfl, Nat.le_of_ble_eq_true rfl⟩ rfl gp7 rfl (rest := []) rfl (Nat.le_of_ble_eq_true rfl) ⟨Nat.le_of_ble_eq_true rfl, Nat.le_of_ble_eq_true rfl⟩ (c_X8_refused v0 (-3 : Int32) h p7 ep7) ?_
  show mj_W mX8_boast (mj_FI p) 71 [(0, .ref v0)] [.int p7.1] p7.2 0 0
  obtain rfl := Option.some.inj hf
  exact mj_end (some (.int p7.1)) ⟨mj_dec tok_X8_boast (a := 35) rfl, .int, rfl, rfl⟩ ⟨rfl, rfl⟩ (Nat.le_of_ble_eq_true rfl) (Nat.le_of_ble_eq_true rfl)
def f_X8_boast_36 (v0 : Nat) (h : mj_H) : Option (Int32 × mj_H) := (if mj_ob h v0 8 = true then (f_X8_refused v0 (-2 : Int32) h).bind fun p8 => some (p8.1, p8.2) else none)
set_option maxHeartbeats 4000000 in
set_option maxRecDepth 100000 in
theorem w_X8_boast_36 (v0 : Nat) (h : mj_H) (p : Int32 × mj_H) (hf : f_X8_boast_36  v0 h = some p) : mj_W mX8_boast (mj_FI p) 36 [(0, .ref v0)] [] h 0 0 := by
  unfold f_X8_boast_36 at hf
  refine mj_blk k_X8_ok 18 2 (pc' := 39) (l' := [(0, .ref v0)]) (st' := [.int (-2 : Int32), .ref v0]) rfl ?_
  obtain ⟨gp8, hf⟩ := mj_gd hf
  obtain ⟨p8, ep8, hf⟩ := mj_bd hf
  refine mj_callV (T := TX8) (N := 14) (ci := 8) mX8_refused [.int (-2 : Int32)] 20 rfl ll_X8_102 lb_X8_refused li_X8_refused ⟨Nat.le_of_ble_eq_true rfl, Nat.le_of_ble_eq_true rfl⟩ rfl gp8 rfl (rest := []) rfl (Nat.le_of_ble_eq_true rfl) ⟨Nat.le_of_ble_eq_true rfl, Nat.le_of_ble_eq_true rfl⟩ (c_X8_refused v0 (-2 : Int32) h p8 ep8) ?_
  show mj_W mX8_boast (mj_FI p) 42 [(0, .ref v0)] [.int p8.1] p8.2 0 0
  obtain rfl := Option.some.inj hf
  exact mj_end (some (.int p8.1)) ⟨mj_dec tok_X8_boast (a := 21) rfl, .int, rfl, rfl⟩ ⟨rfl, rfl⟩ (Nat.le_of_ble_eq_true rfl) (Nat.le_of_ble_eq_true rfl)
def f_X8_boast (v0 : Nat) (v1 : Int32) (v2 : Int32) (v3 : Int32) (h : mj_H) : Option (Int32 × mj_H) := (mj_gR h v0 8 0).bind fun x9 => (if mj_ob h x9 0 = true then (f_X0_has x9 v1 h).bind fun p10 => (if p10.1 = 0 then f_X8_boast_36 v0 p10.2 else (mj_gR p10.2 v0 8 0).bind fun x11 => (if mj_ob p10.2 x11 0 = true then (f_X0_has x11 v2 p10.2).bind fun p12 => (if p12.1 = 0 then f_X8_boast_36 v0 p12.2 else (if v1 = v2 then f_X8_boast_36 v0 p12.2 else (if v3 < 0 then f_X8_boast_36 v0 p12.2 else (if v3 ≤ (1 : Int32) then (mj_gR p12.2 v0 8 0).bind fun x13 => (if mj_ob p12.2 x13 0 = true then (f_X0_knows x13 v1 p12.2).bind fun p14 => (if p14.1 = 0 then f_X8_boast_65 v0 p14.2 else (mj_gR p14.2 v0 8 0).bind fun x15 => (if mj_ob p14.2 x15 0 = true then (f_X0_knows x15 v2 p14.2).bind fun p16 => (if p16.1 = 0 then f_X8_boast_65 v0 p16.2 else f_X8_boast_81 v0 v1 v2 v3 (0 : Int32) (-1 : Int32) (0 : Int32) p16.2) else none)) else none) else f_X8_boast_36 v0 p12.2)))) else none)) else none)
set_option maxHeartbeats 4000000 in
set_option maxRecDepth 100000 in
theorem c_X8_boast (v0 : Nat) (v1 : Int32) (v2 : Int32) (v3 : Int32) (h : mj_H) (p : Int32 × mj_H) (hf : f_X8_boast v0 v1 v2 v3 h = some p) : mj_Met mX8_boast [.ref v0, .int v1, .int v2, .int v3] h (some (.int p.1)) p.2 := by
  refine mj_met pl_X8 tok_X8_boast (Nat.le_of_ble_eq_true rfl) ?_
  show mj_W mX8_boast (mj_FI p) 0 [(0, .ref v0), (1, .int v1), (2, .int v2), (3, .int v3)] [] h 0 0
  unfold f_X8_boast at hf
  refine mj_blk k_X8_ok 0 1 (pc' := 1) (l' := [(0, .ref v0), (1, .int v1), (2, .int v2), (3, .int v3)]) (st' := [.ref v0]) rfl ?_
  obtain ⟨x9, ex9, hf⟩ := mj_bd hf
  refine mj_get 1 rfl fl_X8_10 (mj_gR_V ex9) ?_
  refine mj_blk k_X8_ok 2 1 (pc' := 5) (l' := [(0, .ref v0), (1, .int v1), (2, .int v2), (3, .int v3)]) (st' := [.int v1, .ref x9]) rfl ?_
  obtain ⟨gp10, hf⟩ := mj_gd hf
  obtain ⟨p10, ep10, hf⟩ := mj_bd hf
  refine mj_callV (T := TX0) (N := 7) (ci := 0) mX0_has [.int v1] 3 rfl ll_X8_129 lb_X0_has li_X0_has ⟨Nat.le_of_ble_eq_true rfl, Nat.le_of_ble_eq_true rfl⟩ rfl gp10 rfl (rest := []) rfl (Nat.le_of_ble_eq_true rfl) ⟨Nat.le_of_ble_eq_true rfl, Nat.le_of_ble_eq_true rfl⟩ (c_X0_has x9 v1 h p10 ep10) ?_
  show mj_W mX8_boast (mj_FI p) 8 [(0, .ref v0), (1, .int v1), (2, .int v2), (3, .int v3)] [.int p10.1] p10.2 0 0
  refine mj_if_eq 4 36 rfl (by decide) (fun q => ?_) (fun q => ?_)
  · have hf := (if_pos q).symm.trans hf
    refine mj_locs [0] (l' := [(0, .ref v0)]) rfl ?_
    exact w_X8_boast_36 v0 p10.2 _ hf
  · have hf := (if_neg q).symm.trans hf
    refine mj_blk k_X8_ok 5 1 (pc' := 12) (l' := [(0, .ref v0), (1, .int v1), (2, .int v2), (3, .int v3)]) (st' := [.ref v0]) rfl ?_
    obtain ⟨x11, ex11, hf⟩ := mj_bd hf
    refine mj_get 6 rfl fl_X8_10 (mj_gR_V ex11) ?_
    refine mj_blk k_X8_ok 7 1 (pc' := 16) (l' := [(0, .ref v0), (1, .int v1), (2, .int v2), (3, .int v3)]) (st' := [.int v2, .ref x11]) rfl ?_
    obtain ⟨gp12, hf⟩ := mj_gd hf
    obtain ⟨p12, ep12, hf⟩ := mj_bd hf
    refine mj_callV (T := TX0) (N := 7) (ci := 0) mX0_has [.int v2] 8 rfl ll_X8_129 lb_X0_has li_X0_has ⟨Nat.le_of_ble_eq_true rfl, Nat.le_of_ble_eq_true rfl⟩ rfl gp12 rfl (rest := []) rfl (Nat.le_of_ble_eq_true rfl) ⟨Nat.le_of_ble_eq_true rfl, Nat.le_of_ble_eq_true rfl⟩ (c_X0_has x11 v2 p10.2 p12 ep12) ?_
    show mj_W mX8_boast (mj_FI p) 19 [(0, .ref v0), (1, .int v1), (2, .int v2), (3, .int v3)] [.int p12.1] p12.2 0 0
    refine mj_if_eq 9 36 rfl (by decide) (fun q => ?_) (fun q => ?_)
    · have hf := (if_pos q).symm.trans hf
      refine mj_locs [0] (l' := [(0, .ref v0)]) rfl ?_
      exact w_X8_boast_36 v0 p12.2 _ hf
    · have hf := (if_neg q).symm.trans hf
      refine mj_blk k_X8_ok 10 2 (pc' := 24) (l' := [(0, .ref v0), (1, .int v1), (2, .int v2), (3, .int v3)]) (st' := [.int v2, .int v1]) rfl ?_
      refine mj_icmp_eq 12 36 rfl (by decide) (fun q => ?_) (fun q => ?_)
      · have hf := (if_pos q).symm.trans hf
        refine mj_locs [0] (l' := [(0, .ref v0)]) rfl ?_
        exact w_X8_boast_36 v0 p12.2 _ hf
      · have hf := (if_neg q).symm.trans hf
        refine mj_blk k_X8_ok 13 1 (pc' := 28) (l' := [(0, .ref v0), (1, .int v1), (2, .int v2), (3, .int v3)]) (st' := [.int v3]) rfl ?_
        refine mj_if_lt 14 36 rfl (by decide) (fun q => ?_) (fun q => ?_)
        · have hf := (if_pos q).symm.trans hf
          refine mj_locs [0] (l' := [(0, .ref v0)]) rfl ?_
          exact w_X8_boast_36 v0 p12.2 _ hf
        · have hf := (if_neg q).symm.trans hf
          refine mj_blk k_X8_ok 15 2 (pc' := 33) (l' := [(0, .ref v0), (1, .int v1), (2, .int v2), (3, .int v3)]) (st' := [.int (1 : Int32), .int v3]) rfl ?_
          refine mj_icmp_le 17 43 rfl (by decide) (fun q => ?_) (fun q => ?_)
          · have hf := (if_pos q).symm.trans hf
            refine mj_blk k_X8_ok 22 1 (pc' := 44) (l' := [(0, .ref v0), (1, .int v1), (2, .int v2), (3, .int v3)]) (st' := [.ref v0]) rfl ?_
            obtain ⟨x13, ex13, hf⟩ := mj_bd hf
            refine mj_get 23 rfl fl_X8_10 (mj_gR_V ex13) ?_
            refine mj_blk k_X8_ok 24 1 (pc' := 48) (l' := [(0, .ref v0), (1, .int v1), (2, .int v2), (3, .int v3)]) (st' := [.int v1, .ref x13]) rfl ?_
            obtain ⟨gp14, hf⟩ := mj_gd hf
            obtain ⟨p14, ep14, hf⟩ := mj_bd hf
            refine mj_callV (T := TX0) (N := 7) (ci := 0) mX0_knows [.int v1] 25 rfl ll_X8_173 lb_X0_knows li_X0_knows ⟨Nat.le_of_ble_eq_true rfl, Nat.le_of_ble_eq_true rfl⟩ rfl gp14 rfl (rest := []) rfl (Nat.le_of_ble_eq_true rfl) ⟨Nat.le_of_ble_eq_true rfl, Nat.le_of_ble_eq_true rfl⟩ (c_X0_knows x13 v1 p12.2 p14 ep14) ?_
            show mj_W mX8_boast (mj_FI p) 51 [(0, .ref v0), (1, .int v1), (2, .int v2), (3, .int v3)] [.int p14.1] p14.2 0 0
            refine mj_if_eq 26 65 rfl (by decide) (fun q => ?_) (fun q => ?_)
            · have hf := (if_pos q).symm.trans hf
              refine mj_locs [0] (l' := [(0, .ref v0)]) rfl ?_
              exact w_X8_boast_65 v0 p14.2 _ hf
            · have hf := (if_neg q).symm.trans hf
              refine mj_blk k_X8_ok 27 1 (pc' := 55) (l' := [(0, .ref v0), (1, .int v1), (2, .int v2), (3, .int v3)]) (st' := [.ref v0]) rfl ?_
              obtain ⟨x15, ex15, hf⟩ := mj_bd hf
              refine mj_get 28 rfl fl_X8_10 (mj_gR_V ex15) ?_
              refine mj_blk k_X8_ok 29 1 (pc' := 59) (l' := [(0, .ref v0), (1, .int v1), (2, .int v2), (3, .int v3)]) (st' := [.int v2, .ref x15]) rfl ?_
              obtain ⟨gp16, hf⟩ := mj_gd hf
              obtain ⟨p16, ep16, hf⟩ := mj_bd hf
              refine mj_callV (T := TX0) (N := 7) (ci := 0) mX0_knows [.int v2] 30 rfl ll_X8_173 lb_X0_knows li_X0_knows ⟨Nat.le_of_ble_eq_true rfl, Nat.le_of_ble_eq_true rfl⟩ rfl gp16 rfl (rest := []) rfl (Nat.le_of_ble_eq_true rfl) ⟨Nat.le_of_ble_eq_true rfl, Nat.le_of_ble_eq_true rfl⟩ (c_X0_knows x15 v2 p14.2 p16 ep16) ?_
              show mj_W mX8_boast (mj_FI p) 62 [(0, .ref v0), (1, .int v1), (2, .int v2), (3, .int v3)] [.int p16.1] p16.2 0 0
              refine mj_if_ne 31 72 rfl (by decide) (fun q => ?_) (fun q => ?_)
              · have hf := (if_neg q).symm.trans hf
                refine mj_blk k_X8_ok 36 6 (pc' := 81) (l' := [(6, .int (0 : Int32)), (5, .int (-1 : Int32)), (4, .int (0 : Int32)), (0, .ref v0), (1, .int v1), (2, .int v2), (3, .int v3)]) (st' := []) rfl ?_
                refine mj_locs [3, 4, 5, 6, 2, 1, 0] (l' := [(0, .ref v0), (1, .int v1), (2, .int v2), (3, .int v3), (4, .int (0 : Int32)), (5, .int (-1 : Int32)), (6, .int (0 : Int32))]) rfl ?_
                exact w_X8_boast_81 v0 v1 v2 v3 (0 : Int32) (-1 : Int32) (0 : Int32) p16.2 _ hf
              · have hf := (if_pos q).symm.trans hf
                refine mj_locs [0] (l' := [(0, .ref v0)]) rfl ?_
                exact w_X8_boast_65 v0 p16.2 _ hf
          · have hf := (if_neg q).symm.trans hf
            refine mj_locs [0] (l' := [(0, .ref v0)]) rfl ?_
            exact w_X8_boast_36 v0 p12.2 _ hf
