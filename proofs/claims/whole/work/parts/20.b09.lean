/-! printed by wip/whole/gen.py: X9_undo, X9_weight, X9_cases, X9_trust, X9_showsOn, X9_shows, X9_of, X9_holdOn, X9_fraction, X9_hold, X9_keepOn, X9_keep, X9_layDay, X9_behind, X9_worthOf -/
def f_X9_undo (v0 : Nat) (h : mj_H) : Option (Int32 × mj_H) := (mj_gR h v0 9 0).bind fun x1 => (mj_aI h x1 (3 : Int32)).bind fun x2 => (if x2 = 0 then (if mj_ob h v0 9 = true then (f_X9_no v0 (-3 : Int32) h).bind fun p19 => some (p19.1, p19.2) else none) else (mj_gR h v0 9 0).bind fun x3 => (mj_aI h x3 (3 : Int32)).bind fun x4 => (mj_uI h x3 (3 : Int32) (x4 - (1 : Int32))).bind fun h5 => (mj_gR h5 v0 9 0).bind fun x6 => (mj_aI h5 x6 (3 : Int32)).bind fun x7 => (mj_gR h5 v0 9 0).bind fun x8 => (mj_gR h5 v0 9 0).bind fun x9 => (mj_aI h5 x9 ((52 : Int32) + ((38 : Int32) * x7))).bind fun x10 => (mj_uI h5 x8 (1 : Int32) x10).bind fun h11 => (mj_gR h11 v0 9 0).bind fun x12 => (mj_gR h11 v0 9 0).bind fun x13 => (mj_aI h11 x13 (((52 : Int32) + ((38 : Int32) * x7)) + (1 : Int32))).bind fun x14 => (mj_uI h11 x12 (2 : Int32) x14).bind fun h15 => (mj_gR h15 v0 9 0).bind fun x16 => (mj_gR h15 v0 9 0).bind fun x17 => (f_X9_copies x16 (((52 : Int32) + ((38 : Int32) * x7)) + (2 : Int32)) x17 (16 : Int32) (36 : Int32) h15).bind fun p18 => some ((1 : Int32), p18))
set_option maxHeartbeats 4000000 in
set_option maxRecDepth 100000 in
theorem c_X9_undo (v0 : Nat) (h : mj_H) (p : Int32 × mj_H) (hf : f_X9_undo v0 h = some p) : mj_Met mX9_undo [.ref v0] h (some (.int p.1)) p.2 := by
  refine mj_met pl_X9 tok_X9_undo (Nat.le_of_ble_eq_true rfl) ?_
  show mj_W mX9_undo (mj_FI p) 0 [(0, .ref v0)] [] h 0 0
  unfold f_X9_undo at hf
  refine mj_blk k_X9_ok 0 1 (pc' := 1) (l' := [(0, .ref v0)]) (st' := [.ref v0]) rfl ?_
  obtain ⟨x1, ex1, hf⟩ := mj_bd hf
  refine mj_get 1 rfl fl_X9_7 (mj_gR_V ex1) ?_
  refine mj_blk k_X9_ok 2 1 (pc' := 5) (l' := [(0, .ref v0)]) (st' := [.int (3 : Int32), .ref x1]) rfl ?_
  obtain ⟨x2, ex2, hf⟩ := mj_bd hf
  refine mj_iald 3 rfl ex2 ?_
  refine mj_if_ne 4 16 rfl (by decide) (fun q => ?_) (fun q => ?_)
  · have hf := (if_neg q).symm.trans hf
    refine mj_blk k_X9_ok 9 1 (pc' := 17) (l' := [(0, .ref v0)]) (st' := [.ref v0]) rfl ?_
    obtain ⟨x3, ex3, hf⟩ := mj_bd hf
    refine mj_get 10 rfl fl_X9_7 (mj_gR_V ex3) ?_
    refine mj_blk k_X9_ok 11 2 (pc' := 22) (l' := [(0, .ref v0)]) (st' := [.int (3 : Int32), .ref x3, .int (3 : Int32), .ref x3]) rfl ?_
    obtain ⟨x4, ex4, hf⟩ := mj_bd hf
    refine mj_iald 13 rfl ex4 ?_
    refine mj_blk k_X9_ok 14 2 (pc' := 25) (l' := [(0, .ref v0)]) (st' := [.int (x4 - (1 : Int32)), .int (3 : Int32), .ref x3]) rfl ?_
    obtain ⟨h5, eh5, hf⟩ := mj_bd hf
    refine mj_iast 16 rfl eh5 ?_
    refine mj_blk k_X9_ok 17 3 (pc' := 31) (l' := [(0, .ref v0)]) (st' := [.ref v0, .int (38 : Int32), .int (52 : Int32)]) rfl ?_
    obtain ⟨x6, ex6, hf⟩ := mj_bd hf
    refine mj_get 20 rfl fl_X9_7 (mj_gR_V ex6) ?_
    refine mj_blk k_X9_ok 21 1 (pc' := 35) (l' := [(0, .ref v0)]) (st' := [.int (3 : Int32), .ref x6, .int (38 : Int32), .int (52 : Int32)]) rfl ?_
    obtain ⟨x7, ex7, hf⟩ := mj_bd hf
    refine mj_iald 22 rfl ex7 ?_
    refine mj_blk k_X9_ok 23 4 (pc' := 40) (l' := [(1, .int ((52 : Int32) + ((38 : Int32) * x7))), (0, .ref v0)]) (st' := [.ref v0]) rfl ?_
    obtain ⟨x8, ex8, hf⟩ := mj_bd hf
    refine mj_get 27 rfl fl_X9_7 (mj_gR_V ex8) ?_
    refine mj_blk k_X9_ok 28 2 (pc' := 45) (l' := [(1, .int ((52 : Int32) + ((38 : Int32) * x7))), (0, .ref v0)]) (st' := [.ref v0, .int (1 : Int32), .ref x8]) rfl ?_
    obtain ⟨x9, ex9, hf⟩ := mj_bd hf
    refine mj_get 30 rfl fl_X9_7 (mj_gR_V ex9) ?_
    refine mj_blk k_X9_ok 31 1 (pc' := 49) (l' := [(1, .int ((52 : Int32) + ((38 : Int32) * x7))), (0, .ref v0)]) (st' := [.int ((52 : Int32) + ((38 : Int32) * x7)), .ref x9, .int (1 : Int32), .ref x8]) rfl ?_
    obtain ⟨x10, ex10, hf⟩ := mj_bd hf
    refine mj_iald 32 rfl ex10 ?_
    obtain ⟨h11, eh11, hf⟩ := mj_bd hf
    refine mj_iast 33 rfl eh11 ?_
    refine mj_blk k_X9_ok 34 1 (pc' := 52) (l' := [(1, .int ((52 : Int32) + ((38 : Int32) * x7))), (0, .ref v0)]) (st' := [.ref v0]) rfl ?_
    obtain ⟨x12, ex12, hf⟩ := mj_bd hf
    refine mj_get 35 rfl fl_X9_7 (mj_gR_V ex12) ?_
    refine mj_blk k_X9_ok 36 2 (pc' := 57) (l' := [(1, .int ((52 : Int32) + ((38 : Int32) * x7))), (0, .ref v0)]) (st' := [.ref v0, .int (2 : Int32), .ref x12]) rfl ?_
    obtain ⟨x13, ex13, hf⟩ := mj_bd hf
    refine mj_get 38 rfl fl_X9_7 (mj_gR_V ex13) ?_
    refine mj_blk k_X9_ok 39 3 (pc' := 63) (l' := [(1, .int ((52 : Int32) + ((38 : Int32) * x7))), (0, .ref v0)]) (st' := [.int (((52 : Int32) + ((38 : Int32) * x7)) + (1 : Int32)), .ref x13, .int (2 : Int32), .ref x12]) rfl ?_
    obtain ⟨x14, ex14, hf⟩ := mj_bd hf
    refine mj_iald 42 rfl ex14 ?_
    obtain ⟨h15, eh15, hf⟩ := mj_bd hf
    refine mj_iast 43 rfl eh15 ?_
    refine mj_blk k_X9_ok 44 1 (pc' := 66) (l' := [(1, .int ((52 : Int32) + ((38 : Int32) * x7))), (0, .ref v0)]) (st' := [.ref v0]) rfl ?_
    obtain ⟨x16, ex16, hf⟩ := mj_bd hf
    refine mj_get 45 rfl fl_X9_7 (mj_gR_V ex16) ?_
    refine mj_blk k_X9_ok 46 4 (pc' := 73) (l' := [(1, .int ((52 : Int32) + ((38 : Int32) * x7))), (0, .ref v0)]) (st' := [.ref v0, .int (((52 : Int32) + ((38 : Int32) * x7)) + (2 : Int32)), .ref x16]) rfl ?_
    obtain ⟨x17, ex17, hf⟩ := mj_bd hf
    refine mj_get 50 rfl fl_X9_7 (mj_gR_V ex17) ?_
    refine mj_blk k_X9_ok 51 2 (pc' := 80) (l' := [(1, .int ((52 : Int32) + ((38 : Int32) * x7))), (0, .ref v0)]) (st' := [.int (36 : Int32), .int (16 : Int32), .ref x17, .int (((52 : Int32) + ((38 : Int32) * x7)) + (2 : Int32)), .ref x16]) rfl ?_
    obtain ⟨p18, ep18, hf⟩ := mj_bd hf
    refine mj_callS mX9_copies [.ref x16, .int (((52 : Int32) + ((38 : Int32) * x7)) + (2 : Int32)), .ref x17, .int (16 : Int32), .int (36 : Int32)] 53 rfl ll_X9_59 lb_X9_copies li_X9_copies ⟨Nat.le_of_ble_eq_true rfl, Nat.le_of_ble_eq_true rfl⟩ rfl (rest := []) rfl (Nat.le_of_ble_eq_true rfl) ⟨Nat.le_of_ble_eq_true rfl, Nat.le_of_ble_eq_true rfl⟩ (c_X9_copies x16 (((52 : Int32) + ((38 : Int32) * x7)) + (2 : Int32)) x17 (16 : Int32) (36 : Int32) h15 p18 ep18) ?_
    show mj_W mX9_undo (mj_FI p) 83 [(1, .int ((52 : Int32) + ((38 : Int32) * x7))), (0, .ref v0)] [] p18 0 0
    refine mj_blk k_X9_ok 54 1 (pc' := 84) (l' := [(1, .int ((52 : Int32) + ((38 : Int32) * x7))), (0, .ref v0)]) (st' := [.int (1 : Int32)]) rfl ?_
    obtain rfl := Option.some.inj hf
    exact mj_end (some (.int (1 : Int32))) ⟨mj_dec tok_X9_undo (a := 55) rfl, .int, rfl, rfl⟩ ⟨rfl, rfl⟩ (Nat.le_of_ble_eq_true rfl) (Nat.le_of_ble_eq_true rfl)
  · have hf := (if_pos q).symm.trans hf
    refine mj_blk k_X9_ok 5 2 (pc' := 12) (l' := [(0, .ref v0)]) (st' := [.int (-3 : Int32), .ref v0]) rfl ?_
    obtain ⟨gp19, hf⟩ := mj_gd hf
    obtain ⟨p19, ep19, hf⟩ := mj_bd hf
    refine mj_callV (T := TX9) (N := 20) (ci := 9) mX9_no [.int (-3 : Int32)] 7 rfl ll_X9_191 lb_X9_no li_X9_no ⟨Nat.le_of_ble_eq_true rfl, Nat.le_of_ble_eq_true rfl⟩ rfl gp19 rfl (rest := []) rfl (Nat.le_of_ble_eq_true rfl) ⟨Nat.le_of_ble_eq_true rfl, Nat.le_of_ble_eq_true rfl⟩ (c_X9_no v0 (-3 : Int32) h p19 ep19) ?_
    show mj_W mX9_undo (mj_FI p) 15 [(0, .ref v0)] [.int p19.1] p19.2 0 0
    obtain rfl := Option.some.inj hf
    exact mj_end (some (.int p19.1)) ⟨mj_dec tok_X9_undo (a := 8) rfl, .int, rfl, rfl⟩ ⟨rfl, rfl⟩ (Nat.le_of_ble_eq_true rfl) (Nat.le_of_ble_eq_true rfl)
def f_X9_weight_38 (v0 : Nat) (h : mj_H) : Option (Int64 × mj_H) := (if mj_ob h v0 9 = true then (f_X9_bad v0 (-2 : Int32) h).bind fun p1 => some (((p1.1).toInt64), p1.2) else none)
set_option maxHeartbeats 4000000 in
set_option maxRecDepth 100000 in
theorem w_X9_weight_38 (v0 : Nat) (h : mj_H) (p : Int64 × mj_H) (hf : f_X9_weight_38  v0 h = some p) : mj_W mX9_weight (mj_FJ p) 38 [(0, .ref v0)] [] h 0 0 := by
  unfold f_X9_weight_38 at hf
  refine mj_blk k_X9_ok 22 2 (pc' := 41) (l' := [(0, .ref v0)]) (st' := [.int (-2 : Int32), .ref v0]) rfl ?_
  obtain ⟨gp1, hf⟩ := mj_gd hf
  obtain ⟨p1, ep1, hf⟩ := mj_bd hf
  refine mj_callV (T := TX9) (N := 20) (ci := 9) mX9_bad [.int (-2 : Int32)] 24 rfl ll_X9_75 lb_X9_bad li_X9_bad ⟨Nat.le_of_ble_eq_true rfl, Nat.le_of_ble_eq_true rfl⟩ rfl gp1 rfl (rest := []) rfl (Nat.le_of_ble_eq_true rfl) ⟨Nat.le_of_ble_eq_true rfl, Nat.le_of_ble_eq_true rfl⟩ (c_X9_bad v0 (-2 : Int32) h p1 ep1) ?_
  show mj_W mX9_weight (mj_FJ p) 44 [(0, .ref v0)] [.int p1.1] p1.2 0 0
  refine mj_blk k_X9_ok 25 1 (pc' := 45) (l' := [(0, .ref v0)]) (st' := [.long ((p1.1).toInt64)]) rfl ?_
  obtain rfl := Option.some.inj hf
  exact mj_end (some (.long ((p1.1).toInt64))) ⟨mj_dec tok_X9_weight (a := 26) rfl, rfl⟩ ⟨rfl, rfl⟩ (Nat.le_of_ble_eq_true rfl) (Nat.le_of_ble_eq_true rfl)
def f_X9_weight (v0 : Nat) (v1 : Int32) (v2 : Int32) (h : mj_H) : Option (Int64 × mj_H) := (if mj_ob h v0 9 = true then (f_X9_isMan v0 v1 h).bind fun p2 => (if p2.1 = 0 then f_X9_weight_38 v0 p2.2 else (f_X9_in ((v2).toInt64) (0 : Int64) (5 : Int64) p2.2).bind fun p3 => (if p3.1 = 0 then f_X9_weight_38 v0 p3.2 else (mj_gR p3.2 v0 9 0).bind fun x4 => (mj_aI p3.2 x4 (((16 : Int32) + ((6 : Int32) * v1)) + v2)).bind fun x5 => some (((x5).toInt64), p3.2))) else none)
set_option maxHeartbeats 4000000 in
set_option maxRecDepth 100000 in
theorem c_X9_weight (v0 : Nat) (v1 : Int32) (v2 : Int32) (h : mj_H) (p : Int64 × mj_H) (hf : f_X9_weight v0 v1 v2 h = some p) : mj_Met mX9_weight [.ref v0, .int v1, .int v2] h (some (.long p.1)) p.2 := by
  refine mj_met pl_X9 tok_X9_weight (Nat.le_of_ble_eq_true rfl) ?_
  show mj_W mX9_weight (mj_FJ p) 0 [(0, .ref v0), (1, .int v1), (2, .int v2)] [] h 0 0
  unfold f_X9_weight at hf
  refine mj_blk k_X9_ok 0 2 (pc' := 2) (l' := [(0, .ref v0), (1, .int v1), (2, .int v2)]) (st' := [.int v1, .ref v0]) rfl ?_
  obtain ⟨gp2, hf⟩ := mj_gd hf
  obtain ⟨p2, ep2, hf⟩ := mj_bd hf
  refine mj_callV (T := TX9) (N := 20) (ci := 9) mX9_isMan [.int v1] 2 rfl ll_X9_63 lb_X9_isMan li_X9_isMan ⟨Nat.le_of_ble_eq_true rfl, Nat.le_of_ble_eq_true rfl⟩ rfl gp2 rfl (rest := []) rfl (Nat.le_of_ble_eq_true rfl) ⟨Nat.le_of_ble_eq_true rfl, Nat.le_of_ble_eq_true rfl⟩ (c_X9_isMan v0 v1 h p2 ep2) ?_
  show mj_W mX9_weight (mj_FJ p) 5 [(0, .ref v0), (1, .int v1), (2, .int v2)] [.int p2.1] p2.2 0 0
  refine mj_if_eq 3 38 rfl (by decide) (fun q => ?_) (fun q => ?_)
  · have hf := (if_pos q).symm.trans hf
    refine mj_locs [0] (l' := [(0, .ref v0)]) rfl ?_
    exact w_X9_weight_38 v0 p2.2 _ hf
  · have hf := (if_neg q).symm.trans hf
    refine mj_blk k_X9_ok 4 4 (pc' := 14) (l' := [(0, .ref v0), (1, .int v1), (2, .int v2)]) (st' := [.long (5 : Int64), .long (0 : Int64), .long ((v2).toInt64)]) rfl ?_
    obtain ⟨p3, ep3, hf⟩ := mj_bd hf
    refine mj_callS mX9_in [.long ((v2).toInt64), .long (0 : Int64), .long (5 : Int64)] 8 rfl ll_X9_53 lb_X9_in li_X9_in ⟨Nat.le_of_ble_eq_true rfl, Nat.le_of_ble_eq_true rfl⟩ rfl (rest := []) rfl (Nat.le_of_ble_eq_true rfl) ⟨Nat.le_of_ble_eq_true rfl, Nat.le_of_ble_eq_true rfl⟩ (c_X9_in ((v2).toInt64) (0 : Int64) (5 : Int64) p2.2 p3 ep3) ?_
    show mj_W mX9_weight (mj_FJ p) 17 [(0, .ref v0), (1, .int v1), (2, .int v2)] [.int p3.1] p3.2 0 0
    refine mj_if_eq 9 38 rfl (by decide) (fun q => ?_) (fun q => ?_)
    · have hf := (if_pos q).symm.trans hf
      refine mj_locs [0] (l' := [(0, .ref v0)]) rfl ?_
      exact w_X9_weight_38 v0 p3.2 _ hf
    · have hf := (if_neg q).symm.trans hf
      refine mj_blk k_X9_ok 10 1 (pc' := 21) (l' := [(0, .ref v0), (1, .int v1), (2, .int v2)]) (st' := [.ref v0]) rfl ?_
      obtain ⟨x4, ex4, hf⟩ := mj_bd hf
      refine mj_get 11 rfl fl_X9_7 (mj_gR_V ex4) ?_
      refine mj_blk k_X9_ok 12 7 (pc' := 33) (l' := [(0, .ref v0), (1, .int v1), (2, .int v2)]) (st' := [.int (((16 : Int32) + ((6 : Int32) * v1)) + v2), .ref x4]) rfl ?_
      obtain ⟨x5, ex5, hf⟩ := mj_bd hf
      refine mj_iald 19 rfl ex5 ?_
      refine mj_blk k_X9_ok 20 2 (pc' := 45) (l' := [(0, .ref v0), (1, .int v1), (2, .int v2)]) (st' := [.long ((x5).toInt64)]) rfl ?_
      obtain rfl := Option.some.inj hf
      exact mj_end (some (.long ((x5).toInt64))) ⟨mj_dec tok_X9_weight (a := 26) rfl, rfl⟩ ⟨rfl, rfl⟩ (Nat.le_of_ble_eq_true rfl) (Nat.le_of_ble_eq_true rfl)
def f_X9_cases_33 (v0 : Nat) (h : mj_H) : Option (Int32 × mj_H) := (if mj_ob h v0 9 = true then (f_X9_bad v0 (-2 : Int32) h).bind fun p1 => some (p1.1, p1.2) else none)
set_option maxHeartbeats 4000000 in
set_option maxRecDepth 100000 in
theorem w_X9_cases_33 (v0 : Nat) (h : mj_H) (p : Int32 × mj_H) (hf : f_X9_cases_33  v0 h = some p) : mj_W mX9_cases (mj_FI p) 33 [(0, .ref v0)] [] h 0 0 := by
  unfold f_X9_cases_33 at hf
  refine mj_blk k_X9_ok 17 2 (pc' := 36) (l' := [(0, .ref v0)]) (st' := [.int (-2 : Int32), .ref v0]) rfl ?_
  obtain ⟨gp1, hf⟩ := mj_gd hf
  obtain ⟨p1, ep1, hf⟩ := mj_bd hf
  refine mj_callV (T := TX9) (N := 20) (ci := 9) mX9_bad [.int (-2 : Int32)] 19 rfl ll_X9_75 lb_X9_bad li_X9_bad ⟨Nat.le_of_ble_eq_true rfl, Nat.le_of_ble_eq_true rfl⟩ rfl gp1 rfl (rest := []) rfl (Nat.le_of_ble_eq_true rfl) ⟨Nat.le_of_ble_eq_true rfl, Nat.le_of_ble_eq_true rfl⟩ (c_X9_bad v0 (-2 : Int32) h p1 ep1) ?_
  show mj_W mX9_cases (mj_FI p) 39 [(0, .ref v0)] [.int p1.1] p1.2 0 0
  obtain rfl := Option.some.inj hf
  exact mj_end (some (.int p1.1)) ⟨mj_dec tok_X9_cases (a := 20) rfl, .int, rfl, rfl⟩ ⟨rfl, rfl⟩ (Nat.le_of_ble_eq_true rfl) (Nat.le_of_ble_eq_true rfl)
def f_X9_cases (v0 : Nat) (v1 : Int32) (v2 : Int32) (v3 : Int32) (h : mj_H) : Option (Int32 × mj_H) := (f_X9_in ((v1).toInt64) (0 : Int64) (5 : Int64) h).bind fun p2 => (if p2.1 = 0 then f_X9_cases_33 v0 p2.2 else (f_X9_in ((v2).toInt64) (0 : Int64) (3 : Int64) p2.2).bind fun p3 => (if p3.1 = 0 then f_X9_cases_33 v0 p3.2 else (f_X9_casesOf v1 v2 v3 p3.2).bind fun p4 => some (p4.1, p4.2)))
set_option maxHeartbeats 4000000 in
set_option maxRecDepth 100000 in
theorem c_X9_cases (v0 : Nat) (v1 : Int32) (v2 : Int32) (v3 : Int32) (h : mj_H) (p : Int32 × mj_H) (hf : f_X9_cases v0 v1 v2 v3 h = some p) : mj_Met mX9_cases [.ref v0, .int v1, .int v2, .int v3] h (some (.int p.1)) p.2 := by
  refine mj_met pl_X9 tok_X9_cases (Nat.le_of_ble_eq_true rfl) ?_
  show mj_W mX9_cases (mj_FI p) 0 [(0, .ref v0), (1, .int v1), (2, .int v2), (3, .int v3)] [] h 0 0
  unfold f_X9_cases at hf
  refine mj_blk k_X9_ok 0 4 (pc' := 6) (l' := [(0, .ref v0), (1, .int v1), (2, .int v2), (3, .int v3)]) (st' := [.long (5 : Int64), .long (0 : Int64), .long ((v1).toInt64)]) rfl ?_
  obtain ⟨p2, ep2, hf⟩ := mj_bd hf
  refine mj_callS mX9_in [.long ((v1).toInt64), .long (0 : Int64), .long (5 : Int64)] 4 rfl ll_X9_53 lb_X9_in li_X9_in ⟨Nat.le_of_ble_eq_true rfl, Nat.le_of_ble_eq_true rfl⟩ rfl (rest := []) rfl (Nat.le_of_ble_eq_true rfl) ⟨Nat.le_of_ble_eq_true rfl, Nat.le_of_ble_eq_true rfl⟩ (c_X9_in ((v1).toInt64) (0 : Int64) (5 : Int64) h p2 ep2) ?_
  show mj_W mX9_cases (mj_FI p) 9 [(0, .ref v0), (1, .int v1), (2, .int v2), (3, .int v3)] [.int p2.1] p2.2 0 0
  refine mj_if_eq 5 33 rfl (by decide) (fun q => ?_) (fun q => ?_)
  · have hf := (if_pos q).symm.trans hf
    refine mj_locs [0] (l' := [(0, .ref v0)]) rfl ?_
    exact w_X9_cases_33 v0 p2.2 _ hf
  · have hf := (if_neg q).symm.trans hf
    refine mj_blk k_X9_ok 6 4 (pc' := 18) (l' := [(0, .ref v0), (1, .int v1), (2, .int v2), (3, .int v3)]) (st' := [.long (3 : Int64), .long (0 : Int64), .long ((v2).toInt64)]) rfl ?_
    obtain ⟨p3, ep3, hf⟩ := mj_bd hf
    refine mj_callS mX9_in [.long ((v2).toInt64), .long (0 : Int64), .long (3 : Int64)] 10 rfl ll_X9_53 lb_X9_in li_X9_in ⟨Nat.le_of_ble_eq_true rfl, Nat.le_of_ble_eq_true rfl⟩ rfl (rest := []) rfl (Nat.le_of_ble_eq_true rfl) ⟨Nat.le_of_ble_eq_true rfl, Nat.le_of_ble_eq_true rfl⟩ (c_X9_in ((v2).toInt64) (0 : Int64) (3 : Int64) p2.2 p3 ep3) ?_
    show mj_W mX9_cases (mj_FI p) 21 [(0, .ref v0), (1, .int v1), (2, .int v2), (3, .int v3)] [.int p3.1] p3.2 0 0
    refine mj_if_eq 11 33 rfl (by decide) (fun q => ?_) (fun q => ?_)
    · have hf := (if_pos q).symm.trans hf
      refine mj_locs [0] (l' := [(0, .ref v0)]) rfl ?_
      exact w_X9_cases_33 v0 p3.2 _ hf
    · have hf := (if_neg q).symm.trans hf
      refine mj_blk k_X9_ok 12 3 (pc' := 27) (l' := [(0, .ref v0), (1, .int v1), (2, .int v2), (3, .int v3)]) (st' := [.int v3, .int v2, .int v1]) rfl ?_
      obtain ⟨p4, ep4, hf⟩ := mj_bd hf
      refine mj_callS mX9_casesOf [.int v1, .int v2, .int v3] 15 rfl ll_X9_157 lb_X9_casesOf li_X9_casesOf ⟨Nat.le_of_ble_eq_true rfl, Nat.le_of_ble_eq_true rfl⟩ rfl (rest := []) rfl (Nat.le_of_ble_eq_true rfl) ⟨Nat.le_of_ble_eq_true rfl, Nat.le_of_ble_eq_true rfl⟩ (c_X9_casesOf v1 v2 v3 p3.2 p4 ep4) ?_
      show mj_W mX9_cases (mj_FI p) 30 [(0, .ref v0), (1, .int v1), (2, .int v2), (3, .int v3)] [.int p4.1] p4.2 0 0
      refine mj_blk k_X9_ok 16 1 (pc' := 39) (l' := [(0, .ref v0), (1, .int v1), (2, .int v2), (3, .int v3)]) (st' := [.int p4.1]) rfl ?_
      obtain rfl := Option.some.inj hf
      exact mj_end (some (.int p4.1)) ⟨mj_dec tok_X9_cases (a := 20) rfl, .int, rfl, rfl⟩ ⟨rfl, rfl⟩ (Nat.le_of_ble_eq_true rfl) (Nat.le_of_ble_eq_true rfl)
def f_X9_trust (v0 : Nat) (v1 : Int32) (h : mj_H) : Option (Int32 × mj_H) := (if mj_ob h v0 9 = true then (f_X9_isMan v0 v1 h).bind fun p1 => (if p1.1 = 0 then (if mj_ob p1.2 v0 9 = true then (f_X9_bad v0 (-2 : Int32) p1.2).bind fun p2 => some (p2.1, p2.2) else none) else (mj_gR p1.2 v0 9 0).bind fun x3 => (f_X9_trustOn x3 v1 p1.2).bind fun p4 => some (p4.1, p4.2)) else none)
set_option maxHeartbeats 4000000 in
set_option maxRecDepth 100000 in
theorem c_X9_trust (v0 : Nat) (v1 : Int32) (h : mj_H) (p : Int32 × mj_H) (hf : f_X9_trust v0 v1 h = some p) : mj_Met mX9_trust [.ref v0, .int v1] h (some (.int p.1)) p.2 := by
  refine mj_met pl_X9 tok_X9_trust (Nat.le_of_ble_eq_true rfl) ?_
  show mj_W mX9_trust (mj_FI p) 0 [(0, .ref v0), (1, .int v1)] [] h 0 0
  unfold f_X9_trust at hf
  refine mj_blk k_X9_ok 0 2 (pc' := 2) (l' := [(0, .ref v0), (1, .int v1)]) (st' := [.int v1, .ref v0]) rfl ?_
  obtain ⟨gp1, hf⟩ := mj_gd hf
  obtain ⟨p1, ep1, hf⟩ := mj_bd hf
  refine mj_callV (T := TX9) (N := 20) (ci := 9) mX9_isMan [.int v1] 2 rfl ll_X9_63 lb_X9_isMan li_X9_isMan ⟨Nat.le_of_ble_eq_true rfl, Nat.le_of_ble_eq_true rfl⟩ rfl gp1 rfl (rest := []) rfl (Nat.le_of_ble_eq_true rfl) ⟨Nat.le_of_ble_eq_true rfl, Nat.le_of_ble_eq_true rfl⟩ (c_X9_isMan v0 v1 h p1 ep1) ?_
  show mj_W mX9_trust (mj_FI p) 5 [(0, .ref v0), (1, .int v1)] [.int p1.1] p1.2 0 0
  refine mj_if_eq 3 19 rfl (by decide) (fun q => ?_) (fun q => ?_)
  · have hf := (if_pos q).symm.trans hf
    refine mj_blk k_X9_ok 9 2 (pc' := 22) (l' := [(0, .ref v0), (1, .int v1)]) (st' := [.int (-2 : Int32), .ref v0]) rfl ?_
    obtain ⟨gp2, hf⟩ := mj_gd hf
    obtain ⟨p2, ep2, hf⟩ := mj_bd hf
    refine mj_callV (T := TX9) (N := 20) (ci := 9) mX9_bad [.int (-2 : Int32)] 11 rfl ll_X9_75 lb_X9_bad li_X9_bad ⟨Nat.le_of_ble_eq_true rfl, Nat.le_of_ble_eq_true rfl⟩ rfl gp2 rfl (rest := []) rfl (Nat.le_of_ble_eq_true rfl) ⟨Nat.le_of_ble_eq_true rfl, Nat.le_of_ble_eq_true rfl⟩ (c_X9_bad v0 (-2 : Int32) p1.2 p2 ep2) ?_
    show mj_W mX9_trust (mj_FI p) 25 [(0, .ref v0), (1, .int v1)] [.int p2.1] p2.2 0 0
    obtain rfl := Option.some.inj hf
    exact mj_end (some (.int p2.1)) ⟨mj_dec tok_X9_trust (a := 12) rfl, .int, rfl, rfl⟩ ⟨rfl, rfl⟩ (Nat.le_of_ble_eq_true rfl) (Nat.le_of_ble_eq_true rfl)
  · have hf := (if_neg q).symm.trans hf
    refine mj_blk k_X9_ok 4 1 (pc' := 9) (l' := [(0, .ref v0), (1, .int v1)]) (st' := [.ref v0]) rfl ?_
    obtain ⟨x3, ex3, hf⟩ := mj_bd hf
    refine mj_get 5 rfl fl_X9_7 (mj_gR_V ex3) ?_
    refine mj_blk k_X9_ok 6 1 (pc' := 13) (l' := [(0, .ref v0), (1, .int v1)]) (st' := [.int v1, .ref x3]) rfl ?_
    obtain ⟨p4, ep4, hf⟩ := mj_bd hf
    refine mj_callS mX9_trustOn [.ref x3, .int v1] 7 rfl ll_X9_200 lb_X9_trustOn li_X9_trustOn ⟨Nat.le_of_ble_eq_true rfl, Nat.le_of_ble_eq_true rfl⟩ rfl (rest := []) rfl (Nat.le_of_ble_eq_true rfl) ⟨Nat.le_of_ble_eq_true rfl, Nat.le_of_ble_eq_true rfl⟩ (c_X9_trustOn x3 v1 p1.2 p4 ep4) ?_
    show mj_W mX9_trust (mj_FI p) 16 [(0, .ref v0), (1, .int v1)] [.int p4.1] p4.2 0 0
    refine mj_blk k_X9_ok 8 1 (pc' := 25) (l' := [(0, .ref v0), (1, .int v1)]) (st' := [.int p4.1]) rfl ?_
    obtain rfl := Option.some.inj hf
    exact mj_end (some (.int p4.1)) ⟨mj_dec tok_X9_trust (a := 12) rfl, .int, rfl, rfl⟩ ⟨rfl, rfl⟩ (Nat.le_of_ble_eq_true rfl) (Nat.le_of_ble_eq_true rfl)
def f_X9_showsOn (v0 : Nat) (v1 : Int32) (v2 : Int32) (h : mj_H) : Option (Int32 × mj_H) := (mj_gR h v0 9 0).bind fun x1 => (mj_gR h v0 9 0).bind fun x2 => (mj_aI h x2 (2 : Int32)).bind fun x3 => (f_X9_has x3 v1 h).bind fun p4 => (f_X9_shareOf x1 v1 v2 p4.1 p4.2).bind fun p5 => some (p5.1, p5.2)
set_option maxHeartbeats 4000000 in
set_option maxRecDepth 100000 in
theorem c_X9_showsOn (v0 : Nat) (v1 : Int32) (v2 : Int32) (h : mj_H) (p : Int32 × mj_H) (hf : f_X9_showsOn v0 v1 v2 h = some p) : mj_Met mX9_showsOn [.ref v0, .int v1, .int v2] h (some (.int p.1)) p.2 := by
  refine mj_met pl_X9 tok_X9_showsOn (Nat.le_of_ble_eq_true rfl) ?_
  show mj_W mX9_showsOn (mj_FI p) 0 [(0, .ref v0), (1, .int v1), (2, .int v2)] [] h 0 0
  unfold f_X9_showsOn at hf
  refine mj_blk k_X9_ok 0 1 (pc' := 1) (l' := [(0, .ref v0), (1, .int v1), (2, .int v2)]) (st' := [.ref v0]) rfl ?_
  obtain ⟨x1, ex1, hf⟩ := mj_bd hf
  refine mj_get 1 rfl fl_X9_7 (mj_gR_V ex1) ?_
  refine mj_blk k_X9_ok 2 3 (pc' := 7) (l' := [(0, .ref v0), (1, .int v1), (2, .int v2)]) (st' := [.ref v0, .int v2, .int v1, .ref x1]) rfl ?_
  obtain ⟨x2, ex2, hf⟩ := mj_bd hf
  refine mj_get 5 rfl fl_X9_7 (mj_gR_V ex2) ?_
  refine mj_blk k_X9_ok 6 1 (pc' := 11) (l' := [(0, .ref v0), (1, .int v1), (2, .int v2)]) (st' := [.int (2 : Int32), .ref x2, .int v2, .int v1, .ref x1]) rfl ?_
  obtain ⟨x3, ex3, hf⟩ := mj_bd hf
  refine mj_iald 7 rfl ex3 ?_
  refine mj_blk k_X9_ok 8 1 (pc' := 13) (l' := [(0, .ref v0), (1, .int v1), (2, .int v2)]) (st' := [.int v1, .int x3, .int v2, .int v1, .ref x1]) rfl ?_
  obtain ⟨p4, ep4, hf⟩ := mj_bd hf
  refine mj_callS mX9_has [.int x3, .int v1] 9 rfl ll_X9_69 lb_X9_has li_X9_has ⟨Nat.le_of_ble_eq_true rfl, Nat.le_of_ble_eq_true rfl⟩ rfl (rest := [.int v2, .int v1, .ref x1]) rfl (Nat.le_of_ble_eq_true rfl) ⟨Nat.le_of_ble_eq_true rfl, Nat.le_of_ble_eq_true rfl⟩ (c_X9_has x3 v1 h p4 ep4) ?_
  show mj_W mX9_showsOn (mj_FI p) 16 [(0, .ref v0), (1, .int v1), (2, .int v2)] [.int p4.1, .int v2, .int v1, .ref x1] p4.2 0 0
  obtain ⟨p5, ep5, hf⟩ := mj_bd hf
  refine mj_callS mX9_shareOf [.ref x1, .int v1, .int v2, .int p4.1] 10 rfl ll_X9_173 lb_X9_shareOf li_X9_shareOf ⟨Nat.le_of_ble_eq_true rfl, Nat.le_of_ble_eq_true rfl⟩ rfl (rest := []) rfl (Nat.le_of_ble_eq_true rfl) ⟨Nat.le_of_ble_eq_true rfl, Nat.le_of_ble_eq_true rfl⟩ (c_X9_shareOf x1 v1 v2 p4.1 p4.2 p5 ep5) ?_
  show mj_W mX9_showsOn (mj_FI p) 19 [(0, .ref v0), (1, .int v1), (2, .int v2)] [.int p5.1] p5.2 0 0
  obtain rfl := Option.some.inj hf
  exact mj_end (some (.int p5.1)) ⟨mj_dec tok_X9_showsOn (a := 11) rfl, .int, rfl, rfl⟩ ⟨rfl, rfl⟩ (Nat.le_of_ble_eq_true rfl) (Nat.le_of_ble_eq_true rfl)
def f_X9_shows_24 (v0 : Nat) (h : mj_H) : Option (Int32 × mj_H) := (if mj_ob h v0 9 = true then (f_X9_bad v0 (-2 : Int32) h).bind fun p1 => some (p1.1, p1.2) else none)
set_option maxHeartbeats 4000000 in
set_option maxRecDepth 100000 in
theorem w_X9_shows_24 (v0 : Nat) (h : mj_H) (p : Int32 × mj_H) (hf : f_X9_shows_24  v0 h = some p) : mj_W mX9_shows (mj_FI p) 24 [(0, .ref v0)] [] h 0 0 := by
  unfold f_X9_shows_24 at hf
  refine mj_blk k_X9_ok 12 2 (pc' := 27) (l' := [(0, .ref v0)]) (st' := [.int (-2 : Int32), .ref v0]) rfl ?_
  obtain ⟨gp1, hf⟩ := mj_gd hf
  obtain ⟨p1, ep1, hf⟩ := mj_bd hf
  refine mj_callV (T := TX9) (N := 20) (ci := 9) mX9_bad [.int (-2 : Int32)] 14 rfl ll_X9_75 lb_X9_bad li_X9_bad ⟨Nat.le_of_ble_eq_true rfl, Nat.le_of_ble_eq_true rfl⟩ rfl gp1 rfl (rest := []) rfl (Nat.le_of_ble_eq_true rfl) ⟨Nat.le_of_ble_eq_true rfl, Nat.le_of_ble_eq_true rfl⟩ (c_X9_bad v0 (-2 : Int32) h p1 ep1) ?_
  show mj_W mX9_shows (mj_FI p) 30 [(0, .ref v0)] [.int p1.1] p1.2 0 0
  obtain rfl := Option.some.inj hf
  exact mj_end (some (.int p1.1)) ⟨mj_dec tok_X9_shows (a := 15) rfl, .int, rfl, rfl⟩ ⟨rfl, rfl⟩ (Nat.le_of_ble_eq_true rfl) (Nat.le_of_ble_eq_true rfl)
def f_X9_shows (v0 : Nat) (v1 : Int32) (v2 : Int32) (h : mj_H) : Option (Int32 × mj_H) := (if mj_ob h v0 9 = true then (f_X9_isMan v0 v1 h).bind fun p2 => (if p2.1 = 0 then f_X9_shows_24 v0 p2.2 else (f_X9_isTest v2 p2.2).bind fun p3 => (if p3.1 = 0 then f_X9_shows_24 v0 p3.2 else (if mj_ob p3.2 v0 9 = true then (f_X9_showsOn v0 v1 v2 p3.2).bind fun p4 => some (p4.1, p4.2) else none))) else none)
set_option maxHeartbeats 4000000 in
set_option maxRecDepth 100000 in
theorem c_X9_shows (v0 : Nat) (v1 : Int32) (v2 : Int32) (h : mj_H) (p : Int32 × mj_H) (hf : f_X9_shows v0 v1 v2 h = some p) : mj_Met mX9_shows [.ref v0, .int v1, .int v2] h (some (.int p.1)) p.2 := by
  refine mj_met pl_X9 tok_X9_shows (Nat.le_of_ble_eq_true rfl) ?_
  show mj_W mX9_shows (mj_FI p) 0 [(0, .ref v0), (1, .int v1), (2, .int v2)] [] h 0 0
  unfold f_X9_shows at hf
  refine mj_blk k_X9_ok 0 2 (pc' := 2) (l' := [(0, .ref v0), (1, .int v1), (2, .int v2)]) (st' := [.int v1, .ref v0]) rfl ?_
  obtain ⟨gp2, hf⟩ := mj_gd hf
  obtain ⟨p2, ep2, hf⟩ := mj_bd hf
  refine mj_callV (T := TX9) (N := 20) (ci := 9) mX9_isMan [.int v1] 2 rfl ll_X9_63 lb_X9_isMan li_X9_isMan ⟨Nat.le_of_ble_eq_true rfl, Nat.le_of_ble_eq_true rfl⟩ rfl gp2 rfl (rest := []) rfl (Nat.le_of_ble_eq_true rfl) ⟨Nat.le_of_ble_eq_true rfl, Nat.le_of_ble_eq_true rfl⟩ (c_X9_isMan v0 v1 h p2 ep2) ?_
  show mj_W mX9_shows (mj_FI p) 5 [(0, .ref v0), (1, .int v1), (2, .int v2)] [.int p2.1] p2.2 0 0
  refine mj_if_eq 3 24 rfl (by decide) (fun q => ?_) (fun q => ?_)
  · have hf := (if_pos q).symm.trans hf
    refine mj_locs [0] (l' := [(0, .ref v0)]) rfl ?_
    exact w_X9_shows_24 v0 p2.2 _ hf
  · have hf := (if_neg q).symm.trans hf
    refine mj_blk k_X9_ok 4 1 (pc' := 9) (l' := [(0, .ref v0), (1, .int v1), (2, .int v2)]) (st' := [.int v2]) rfl ?_
    obtain ⟨p3, ep3, hf⟩ := mj_bd hf
    refine mj_callS mX9_isTest [.int v2] 5 rfl ll_X9_188 lb_X9_isTest li_X9_isTest ⟨Nat.le_of_ble_eq_true rfl, Nat.le_of_ble_eq_true rfl⟩ rfl (rest := []) rfl (Nat.le_of_ble_eq_true rfl) ⟨Nat.le_of_ble_eq_true rfl, Nat.le_of_ble_eq_true rfl⟩ (c_X9_isTest v2 p2.2 p3 ep3) ?_
    show mj_W mX9_shows (mj_FI p) 12 [(0, .ref v0), (1, .int v1), (2, .int v2)] [.int p3.1] p3.2 0 0
    refine mj_if_eq 6 24 rfl (by decide) (fun q => ?_) (fun q => ?_)
    · have hf := (if_pos q).symm.trans hf
      refine mj_locs [0] (l' := [(0, .ref v0)]) rfl ?_
      exact w_X9_shows_24 v0 p3.2 _ hf
    · have hf := (if_neg q).symm.trans hf
      refine mj_blk k_X9_ok 7 3 (pc' := 18) (l' := [(0, .ref v0), (1, .int v1), (2, .int v2)]) (st' := [.int v2, .int v1, .ref v0]) rfl ?_
      obtain ⟨gp4, hf⟩ := mj_gd hf
      obtain ⟨p4, ep4, hf⟩ := mj_bd hf
      refine mj_callV (T := TX9) (N := 20) (ci := 9) mX9_showsOn [.int v1, .int v2] 10 rfl ll_X9_208 lb_X9_showsOn li_X9_showsOn ⟨Nat.le_of_ble_eq_true rfl, Nat.le_of_ble_eq_true rfl⟩ rfl gp4 rfl (rest := []) rfl (Nat.le_of_ble_eq_true rfl) ⟨Nat.le_of_ble_eq_true rfl, Nat.le_of_ble_eq_true rfl⟩ (c_X9_showsOn v0 v1 v2 p3.2 p4 ep4) ?_
      show mj_W mX9_shows (mj_FI p) 21 [(0, .ref v0), (1, .int v1), (2, .int v2)] [.int p4.1] p4.2 0 0
      refine mj_blk k_X9_ok 11 1 (pc' := 30) (l' := [(0, .ref v0), (1, .int v1), (2, .int v2)]) (st' := [.int p4.1]) rfl ?_
      obtain rfl := Option.some.inj hf
      exact mj_end (some (.int p4.1)) ⟨mj_dec tok_X9_shows (a := 15) rfl, .int, rfl, rfl⟩ ⟨rfl, rfl⟩ (Nat.le_of_ble_eq_true rfl) (Nat.le_of_ble_eq_true rfl)
def f_X9_of_136 (K91 : Nat → Int32 → Int32 → Int32 → mj_H → Option (Int32 × mj_H)) (v0 : Nat) (v1 : Int32) (v4 : Int32) (s0 : Int32) (h : mj_H) : Option (Int32 × mj_H) := K91 v0 v1 s0 (v4 + (1 : Int32)) h
set_option maxHeartbeats 4000000 in
set_option maxRecDepth 100000 in
theorem w_X9_of_136 (K91 : Nat → Int32 → Int32 → Int32 → mj_H → Option (Int32 × mj_H)) (hK91 : ∀ (v0 : Nat) (v1 : Int32) (v3 : Int32) (v4 : Int32)  (h : mj_H) (p : Int32 × mj_H), K91 v0 v1 v3 v4 h = some p → mj_W mX9_of (mj_FI p) 91 [(0, .ref v0), (1, .int v1), (3, .int v3), (4, .int v4)] [] h 0 0) (v0 : Nat) (v1 : Int32) (v4 : Int32) (s0 : Int32) (h : mj_H) (p : Int32 × mj_H) (hf : f_X9_of_136 K91 v0 v1 v4 s0 h = some p) : mj_W mX9_of (mj_FI p) 136 [(0, .ref v0), (1, .int v1), (4, .int v4)] [.int s0] h 0 0 := by
  unfold f_X9_of_136 at hf
  refine mj_blk k_X9_ok 70 3 (pc' := 91) (l' := [(4, .int (v4 + (1 : Int32))), (3, .int s0), (0, .ref v0), (1, .int v1)]) (st' := []) rfl ?_
  refine mj_locs [2, 3, 1, 0] (l' := [(0, .ref v0), (1, .int v1), (3, .int s0), (4, .int (v4 + (1 : Int32)))]) rfl ?_
  exact hK91 v0 v1 s0 (v4 + (1 : Int32)) h _ hf
def b_X9_of_91 (K91 : Nat → Int32 → Int32 → Int32 → mj_H → Option (Int32 × mj_H)) (v0 : Nat) (v1 : Int32) (v3 : Int32) (v4 : Int32) (h : mj_H) : Option (Int32 × mj_H) := (if (6 : Int32) ≤ v4 then some (v3, h) else (mj_gR h v0 9 0).bind fun x1 => (mj_aI h x1 (((16 : Int32) + ((6 : Int32) * v1)) + v4)).bind fun x2 => (mj_gR h v0 9 0).bind fun x3 => (mj_aI h x3 (((16 : Int32) + ((6 : Int32) * v1)) + v3)).bind fun x4 => (if x2 ≤ x4 then f_X9_of_136 K91 v0 v1 v4 v3 h else f_X9_of_136 K91 v0 v1 v4 v4 h))
set_option maxHeartbeats 4000000 in
set_option maxRecDepth 100000 in
theorem wb_X9_of_91 (K91 : Nat → Int32 → Int32 → Int32 → mj_H → Option (Int32 × mj_H)) (hK91 : ∀ (v0 : Nat) (v1 : Int32) (v3 : Int32) (v4 : Int32)  (h : mj_H) (p : Int32 × mj_H), K91 v0 v1 v3 v4 h = some p → mj_W mX9_of (mj_FI p) 91 [(0, .ref v0), (1, .int v1), (3, .int v3), (4, .int v4)] [] h 0 0) (v0 : Nat) (v1 : Int32) (v3 : Int32) (v4 : Int32) (h : mj_H) (p : Int32 × mj_H) (hf : b_X9_of_91  K91 v0 v1 v3 v4 h = some p) : mj_W mX9_of (mj_FI p) 91 [(0, .ref v0), (1, .int v1), (3, .int v3), (4, .int v4)] [] h 0 0 := by
  unfold b_X9_of_91 at hf
  refine mj_blk k_X9_ok 43 2 (pc' := 95) (l' := [(0, .ref v0), (1, .int v1), (3, .int v3), (4, .int v4)]) (st' := [.int (6 : Int32), .int v4]) rfl ?_
  refine mj_icmp_ge 45 143 rfl (by decide) (fun q => ?_) (fun q => ?_)
  · have hf := (if_pos q).symm.trans hf
    refine mj_blk k_X9_ok 73 1 (pc' := 144) (l' := [(0, .ref v0), (1, .int v1), (3, .int v3), (4, .int v4)]) (st' := [.int v3]) rfl ?_
    obtain rfl := Option.some.inj hf
    exact mj_end (some (.int v3)) ⟨mj_dec tok_X9_of (a := 74) rfl, .int, rfl, rfl⟩ ⟨rfl, rfl⟩ (Nat.le_of_ble_eq_true rfl) (Nat.le_of_ble_eq_true rfl)
  · have hf := (if_neg q).symm.trans hf
    refine mj_blk k_X9_ok 46 1 (pc' := 99) (l' := [(0, .ref v0), (1, .int v1), (3, .int v3), (4, .int v4)]) (st' := [.ref v0]) rfl ?_
    obtain ⟨x1, ex1, hf⟩ := mj_bd hf
    refine mj_get 47 rfl fl_X9_7 (mj_gR_V ex1) ?_
    refine mj_blk k_X9_ok 48 7 (pc' := 112) (l' := [(0, .ref v0), (1, .int v1), (3, .int v3), (4, .int v4)]) (st' := [.int (((16 : Int32) + ((6 : Int32) * v1)) + v4), .ref x1]) rfl ?_
    obtain ⟨x2, ex2, hf⟩ := mj_bd hf
    refine mj_iald 55 rfl ex2 ?_
    refine mj_blk k_X9_ok 56 1 (pc' := 114) (l' := [(0, .ref v0), (1, .int v1), (3, .int v3), (4, .int v4)]) (st' := [.ref v0, .int x2]) rfl ?_
    obtain ⟨x3, ex3, hf⟩ := mj_bd hf
    refine mj_get 57 rfl fl_X9_7 (mj_gR_V ex3) ?_
    refine mj_blk k_X9_ok 58 7 (pc' := 126) (l' := [(0, .ref v0), (1, .int v1), (3, .int v3), (4, .int v4)]) (st' := [.int (((16 : Int32) + ((6 : Int32) * v1)) + v3), .ref x3, .int x2]) rfl ?_
    obtain ⟨x4, ex4, hf⟩ := mj_bd hf
    refine mj_iald 65 rfl ex4 ?_
    refine mj_icmp_le 66 135 rfl (by decide) (fun q => ?_) (fun q => ?_)
    · have hf := (if_pos q).symm.trans hf
      refine mj_blk k_X9_ok 69 1 (pc' := 136) (l' := [(0, .ref v0), (1, .int v1), (3, .int v3), (4, .int v4)]) (st' := [.int v3]) rfl ?_
      refine mj_locs [0, 1, 3] (l' := [(0, .ref v0), (1, .int v1), (4, .int v4)]) rfl ?_
      exact w_X9_of_136 K91 hK91 v0 v1 v4 v3 h _ hf
    · have hf := (if_neg q).symm.trans hf
      refine mj_blk k_X9_ok 67 2 (pc' := 136) (l' := [(0, .ref v0), (1, .int v1), (3, .int v3), (4, .int v4)]) (st' := [.int v4]) rfl ?_
      refine mj_locs [0, 1, 3] (l' := [(0, .ref v0), (1, .int v1), (4, .int v4)]) rfl ?_
      exact w_X9_of_136 K91 hK91 v0 v1 v4 v4 h _ hf
def f_X9_of_91 (v0 : Nat) (v1 : Int32) (v3 : Int32) (v4 : Int32) (h : mj_H) : Option (Int32 × mj_H) := mj_fix (fun (K91 : (Nat × Int32 × Int32 × Int32 × mj_H) → Option (Int32 × mj_H)) (s : Nat × Int32 × Int32 × Int32 × mj_H) => b_X9_of_91  (fun v0 v1 v3 v4 h => K91 (v0, v1, v3, v4, h)) s.1 s.2.1 s.2.2.1 s.2.2.2.1 s.2.2.2.2) 1000 (v0, v1, v3, v4, h)
set_option maxHeartbeats 4000000 in
set_option maxRecDepth 100000 in
theorem w_X9_of_91 (v0 : Nat) (v1 : Int32) (v3 : Int32) (v4 : Int32) (h : mj_H) (p : Int32 × mj_H) (hf : f_X9_of_91  v0 v1 v3 v4 h = some p) : mj_W mX9_of (mj_FI p) 91 [(0, .ref v0), (1, .int v1), (3, .int v3), (4, .int v4)] [] h 0 0 := by
  unfold f_X9_of_91 at hf
  exact mj_fix_ind (F := (fun (K91 : (Nat × Int32 × Int32 × Int32 × mj_H) → Option (Int32 × mj_H)) (s : Nat × Int32 × Int32 × Int32 × mj_H) => b_X9_of_91  (fun v0 v1 v3 v4 h => K91 (v0, v1, v3, v4, h)) s.1 s.2.1 s.2.2.1 s.2.2.2.1 s.2.2.2.2)) (P := fun s p => mj_W mX9_of (mj_FI p) 91 [(0, .ref s.1), (1, .int s.2.1), (3, .int s.2.2.1), (4, .int s.2.2.2.1)] [] s.2.2.2.2 0 0) (fun K91 hK91 s p hf => wb_X9_of_91   (fun v0 v1 v3 v4 h => K91 (v0, v1, v3, v4, h)) (fun v0 v1 v3 v4 h p e => hK91 (v0, v1, v3, v4, h) p e) s.1 s.2.1 s.2.2.1 s.2.2.2.1 s.2.2.2.2 p hf) 1000 (v0, v1, v3, v4, h) p hf
def f_X9_of_20 (v0 : Nat) (h : mj_H) : Option (Int32 × mj_H) := (if mj_ob h v0 9 = true then (f_X9_bad v0 (-2 : Int32) h).bind fun p5 => some (p5.1, p5.2) else none)
set_option maxHeartbeats 4000000 in
set_option maxRecDepth 100000 in
theorem w_X9_of_20 (v0 : Nat) (h : mj_H) (p : Int32 × mj_H) (hf : f_X9_of_20  v0 h = some p) : mj_W mX9_of (mj_FI p) 20 [(0, .ref v0)] [] h 0 0 := by
  unfold f_X9_of_20 at hf
  refine mj_blk k_X9_ok 10 2 (pc' := 23) (l' := [(0, .ref v0)]) (st' := [.int (-2 : Int32), .ref v0]) rfl ?_
  obtain ⟨gp5, hf⟩ := mj_gd hf
  obtain ⟨p5, ep5, hf⟩ := mj_bd hf
  refine mj_callV (T := TX9) (N := 20) (ci := 9) mX9_bad [.int (-2 : Int32)] 12 rfl ll_X9_75 lb_X9_bad li_X9_bad ⟨Nat.le_of_ble_eq_true rfl, Nat.le_of_ble_eq_true rfl⟩ rfl gp5 rfl (rest := []) rfl (Nat.le_of_ble_eq_true rfl) ⟨Nat.le_of_ble_eq_true rfl, Nat.le_of_ble_eq_true rfl⟩ (c_X9_bad v0 (-2 : Int32) h p5 ep5) ?_
  show mj_W mX9_of (mj_FI p) 26 [(0, .ref v0)] [.int p5.1] p5.2 0 0
  obtain rfl := Option.some.inj hf
  exact mj_end (some (.int p5.1)) ⟨mj_dec tok_X9_of (a := 13) rfl, .int, rfl, rfl⟩ ⟨rfl, rfl⟩ (Nat.le_of_ble_eq_true rfl) (Nat.le_of_ble_eq_true rfl)
def f_X9_of (v0 : Nat) (v1 : Int32) (v2 : Int32) (h : mj_H) : Option (Int32 × mj_H) := (if mj_ob h v0 9 = true then (f_X9_isMan v0 v1 h).bind fun p6 => (if p6.1 = 0 then f_X9_of_20 v0 p6.2 else (f_X9_in ((v2).toInt64) (0 : Int64) (3 : Int64) p6.2).bind fun p7 => (if p7.1 = 0 then f_X9_of_20 v0 p7.2 else (if v2 = (0 : Int32) then (mj_gR p7.2 v0 9 0).bind fun x8 => (mj_aI p7.2 x8 ((4 : Int32) + v1)).bind fun x9 => some (x9, p7.2) else (if v2 = (1 : Int32) then (mj_gR p7.2 v0 9 0).bind fun x10 => (mj_aI p7.2 x10 ((10 : Int32) + v1)).bind fun x11 => some (x11, p7.2) else (if v2 = (2 : Int32) then (mj_gR p7.2 v0 9 0).bind fun x12 => (mj_aI p7.2 x12 (2 : Int32)).bind fun x13 => some (((x13 >>> (v1 &&& 31)) &&& (1 : Int32)), p7.2) else f_X9_of_91 v0 v1 (0 : Int32) (1 : Int32) p7.2))))) else none)
set_option maxHeartbeats 4000000 in
set_option maxRecDepth 100000 in
theorem c_X9_of (v0 : Nat) (v1 : Int32) (v2 : Int32) (h : mj_H) (p : Int32 × mj_H) (hf : f_X9_of v0 v1 v2 h = some p) : mj_Met mX9_of [.ref v0, .int v1, .int v2] h (some (.int p.1)) p.2 := by
  refine mj_met pl_X9 tok_X9_of (Nat.le_of_ble_eq_true rfl) ?_
  show mj_W mX9_of (mj_FI p) 0 [(0, .ref v0), (1, .int v1), (2, .int v2)] [] h 0 0
  unfold f_X9_of at hf
  refine mj_blk k_X9_ok 0 2 (pc' := 2) (l' := [(0, .ref v0), (1, .int v1), (2, .int v2)]) (st' := [.int v1, .ref v0]) rfl ?_
  obtain ⟨gp6, hf⟩ := mj_gd hf
  obtain ⟨p6, ep6, hf⟩ := mj_bd hf
  refine mj_callV (T := TX9) (N := 20) (ci := 9) mX9_isMan [.int v1] 2 rfl ll_X9_63 lb_X9_isMan li_X9_isMan ⟨Nat.le_of_ble_eq_true rfl, Nat.le_of_ble_eq_true rfl⟩ rfl gp6 rfl (rest := []) rfl (Nat.le_of_ble_eq_true rfl) ⟨Nat.le_of_ble_eq_true rfl, Nat.le_of_ble_eq_true rfl⟩ (c_X9_isMan v0 v1 h p6 ep6) ?_
  show mj_W mX9_of (mj_FI p) 5 [(0, .ref v0), (1, .int v1), (2, .int v2)] [.int p6.1] p6.2 0 0
  refine mj_if_eq 3 20 rfl (by decide) (fun q => ?_) (fun q => ?_)
  · have hf := (if_pos q).symm.trans hf
    refine mj_locs [0] (l' := [(0, .ref v0)]) rfl ?_
    exact w_X9_of_20 v0 p6.2 _ hf
  · have hf := (if_neg q).symm.trans hf
    refine mj_blk k_X9_ok 4 4 (pc' := 14) (l' := [(0, .ref v0), (1, .int v1), (2, .int v2)]) (st' := [.long (3 : Int64), .long (0 : Int64), .long ((v2).toInt64)]) rfl ?_
    obtain ⟨p7, ep7, hf⟩ := mj_bd hf
    refine mj_callS mX9_in [.long ((v2).toInt64), .long (0 : Int64), .long (3 : Int64)] 8 rfl ll_X9_53 lb_X9_in li_X9_in ⟨Nat.le_of_ble_eq_true rfl, Nat.le_of_ble_eq_true rfl⟩ rfl (rest := []) rfl (Nat.le_of_ble_eq_true rfl) ⟨Nat.le_of_ble_eq_true rfl, Nat.le_of_ble_eq_true rfl⟩ (c_X9_in ((v2).toInt64) (0 : Int64) (3 : Int64) p6.2 p7 ep7) ?_
    show mj_W mX9_of (mj_FI p) 17 [(0, .ref v0), (1, .int v1), (2, .int v2)] [.int p7.1] p7.2 0 0
    refine mj_if_ne 9 27 rfl (by decide) (fun q => ?_) (fun q => ?_)
    · have hf := (if_neg q).symm.trans hf
      refine mj_blk k_X9_ok 14 1 (pc' := 28) (l' := [(0, .ref v0), (1, .int v1), (2, .int v2)]) (st' := [.int v2]) rfl ?_
      by_cases q0 : v2 = (0 : Int32)
      · have hf := (if_pos q0).symm.trans hf
        refine mj_swIn 15 (0 : Int32) 56 q0 rfl (by decide) (by decide) rfl (by decide) ?_
        refine mj_blk k_X9_ok 16 1 (pc' := 57) (l' := [(0, .ref v0), (1, .int v1), (2, .int v2)]) (st' := [.ref v0]) rfl ?_
        obtain ⟨x8, ex8, hf⟩ := mj_bd hf
        refine mj_get 17 rfl fl_X9_7 (mj_gR_V ex8) ?_
        refine mj_blk k_X9_ok 18 3 (pc' := 63) (l' := [(0, .ref v0), (1, .int v1), (2, .int v2)]) (st' := [.int ((4 : Int32) + v1), .ref x8]) rfl ?_
        obtain ⟨x9, ex9, hf⟩ := mj_bd hf
        refine mj_iald 21 rfl ex9 ?_
        obtain rfl := Option.some.inj hf
        exact mj_end (some (.int x9)) ⟨mj_dec tok_X9_of (a := 22) rfl, .int, rfl, rfl⟩ ⟨rfl, rfl⟩ (Nat.le_of_ble_eq_true rfl) (Nat.le_of_ble_eq_true rfl)
      have hf := (if_neg q0).symm.trans hf
      by_cases q1 : v2 = (1 : Int32)
      · have hf := (if_pos q1).symm.trans hf
        refine mj_swIn 15 (1 : Int32) 65 q1 rfl (by decide) (by decide) rfl (by decide) ?_
        refine mj_blk k_X9_ok 23 1 (pc' := 66) (l' := [(0, .ref v0), (1, .int v1), (2, .int v2)]) (st' := [.ref v0]) rfl ?_
        obtain ⟨x10, ex10, hf⟩ := mj_bd hf
        refine mj_get 24 rfl fl_X9_7 (mj_gR_V ex10) ?_
        refine mj_blk k_X9_ok 25 3 (pc' := 73) (l' := [(0, .ref v0), (1, .int v1), (2, .int v2)]) (st' := [.int ((10 : Int32) + v1), .ref x10]) rfl ?_
        obtain ⟨x11, ex11, hf⟩ := mj_bd hf
        refine mj_iald 28 rfl ex11 ?_
        obtain rfl := Option.some.inj hf
        exact mj_end (some (.int x11)) ⟨mj_dec tok_X9_of (a := 29) rfl, .int, rfl, rfl⟩ ⟨rfl, rfl⟩ (Nat.le_of_ble_eq_true rfl) (Nat.le_of_ble_eq_true rfl)
      have hf := (if_neg q1).symm.trans hf
      by_cases q2 : v2 = (2 : Int32)
      · have hf := (if_pos q2).symm.trans hf
        refine mj_swIn 15 (2 : Int32) 75 q2 rfl (by decide) (by decide) rfl (by decide) ?_
        refine mj_blk k_X9_ok 30 1 (pc' := 76) (l' := [(0, .ref v0), (1, .int v1), (2, .int v2)]) (st' := [.ref v0]) rfl ?_
        obtain ⟨x12, ex12, hf⟩ := mj_bd hf
        refine mj_get 31 rfl fl_X9_7 (mj_gR_V ex12) ?_
        refine mj_blk k_X9_ok 32 1 (pc' := 80) (l' := [(0, .ref v0), (1, .int v1), (2, .int v2)]) (st' := [.int (2 : Int32), .ref x12]) rfl ?_
        obtain ⟨x13, ex13, hf⟩ := mj_bd hf
        refine mj_iald 33 rfl ex13 ?_
        refine mj_blk k_X9_ok 34 4 (pc' := 85) (l' := [(0, .ref v0), (1, .int v1), (2, .int v2)]) (st' := [.int ((x13 >>> (v1 &&& 31)) &&& (1 : Int32))]) rfl ?_
        obtain rfl := Option.some.inj hf
        exact mj_end (some (.int ((x13 >>> (v1 &&& 31)) &&& (1 : Int32)))) ⟨mj_dec tok_X9_of (a := 38) rfl, .int, rfl, rfl⟩ ⟨rfl, rfl⟩ (Nat.le_of_ble_eq_true rfl) (Nat.le_of_ble_eq_true rfl)
      have hf := (if_neg q2).symm.trans hf
      refine mj_swOut 15 86 rfl (by have z0 := mj_neI (i := 0) (by decide) q0; have z1 := mj_neI (i := 1) (by decide) q1; have z2 := mj_neI (i := 2) (by decide) q2; omega) (by decide) ?_
      refine mj_blk k_X9_ok 39 4 (pc' := 91) (l' := [(4, .int (1 : Int32)), (3, .int (0 : Int32)), (0, .ref v0), (1, .int v1), (2, .int v2)]) (st' := []) rfl ?_
      refine mj_locs [2, 3, 1, 0] (l' := [(0, .ref v0), (1, .int v1), (3, .int (0 : Int32)), (4, .int (1 : Int32))]) rfl ?_
      exact w_X9_of_91 v0 v1 (0 : Int32) (1 : Int32) p7.2 _ hf
    · have hf := (if_pos q).symm.trans hf
      refine mj_locs [0] (l' := [(0, .ref v0)]) rfl ?_
      exact w_X9_of_20 v0 p7.2 _ hf
def b_X9_holdOn_132 (K132 : Nat → Int64 → Int32 → mj_H → Option (Int64 × mj_H)) (v0 : Nat) (v4 : Int64) (v6 : Int32) (h : mj_H) : Option (Int64 × mj_H) := (if (7 : Int32) ≤ v6 then some (v4, h) else (mj_gR h v0 9 17).bind fun x1 => (mj_aJ h x1 v6).bind fun x2 => K132 v0 (v4 + x2) (v6 + (1 : Int32)) h)
set_option maxHeartbeats 4000000 in
set_option maxRecDepth 100000 in
theorem wb_X9_holdOn_132 (K132 : Nat → Int64 → Int32 → mj_H → Option (Int64 × mj_H)) (hK132 : ∀ (v0 : Nat) (v4 : Int64) (v6 : Int32)  (h : mj_H) (p : Int64 × mj_H), K132 v0 v4 v6 h = some p → mj_W mX9_holdOn (mj_FJ p) 132 [(0, .ref v0), (4, .long v4), (6, .int v6)] [] h 0 0) (v0 : Nat) (v4 : Int64) (v6 : Int32) (h : mj_H) (p : Int64 × mj_H) (hf : b_X9_holdOn_132  K132 v0 v4 v6 h = some p) : mj_W mX9_holdOn (mj_FJ p) 132 [(0, .ref v0), (4, .long v4), (6, .int v6)] [] h 0 0 := by
  unfold b_X9_holdOn_132 at hf
  refine mj_blk k_X9_ok 70 2 (pc' := 136) (l' := [(0, .ref v0), (4, .long v4), (6, .int v6)]) (st' := [.int (7 : Int32), .int v6]) rfl ?_
  refine mj_icmp_ge 72 157 rfl (by decide) (fun q => ?_) (fun q => ?_)
  · have hf := (if_pos q).symm.trans hf
    refine mj_blk k_X9_ok 82 1 (pc' := 159) (l' := [(0, .ref v0), (4, .long v4), (6, .int v6)]) (st' := [.long v4]) rfl ?_
    obtain rfl := Option.some.inj hf
    exact mj_end (some (.long v4)) ⟨mj_dec tok_X9_holdOn (a := 83) rfl, rfl⟩ ⟨rfl, rfl⟩ (Nat.le_of_ble_eq_true rfl) (Nat.le_of_ble_eq_true rfl)
  · have hf := (if_neg q).symm.trans hf
    refine mj_blk k_X9_ok 73 2 (pc' := 142) (l' := [(0, .ref v0), (4, .long v4), (6, .int v6)]) (st' := [.ref v0, .long v4]) rfl ?_
    obtain ⟨x1, ex1, hf⟩ := mj_bd hf
    refine mj_get 75 rfl fl_X9_39 (mj_gR_V ex1) ?_
    refine mj_blk k_X9_ok 76 1 (pc' := 147) (l' := [(0, .ref v0), (4, .long v4), (6, .int v6)]) (st' := [.int v6, .ref x1, .long v4]) rfl ?_
    obtain ⟨x2, ex2, hf⟩ := mj_bd hf
    refine mj_lald 77 rfl ex2 ?_
    refine mj_blk k_X9_ok 78 4 (pc' := 132) (l' := [(6, .int (v6 + (1 : Int32))), (4, .long (v4 + x2)), (0, .ref v0)]) (st' := []) rfl ?_
    refine mj_locs [2, 1, 0] (l' := [(0, .ref v0), (4, .long (v4 + x2)), (6, .int (v6 + (1 : Int32)))]) rfl ?_
    exact hK132 v0 (v4 + x2) (v6 + (1 : Int32)) h _ hf
def f_X9_holdOn_132 (v0 : Nat) (v4 : Int64) (v6 : Int32) (h : mj_H) : Option (Int64 × mj_H) := mj_fix (fun (K132 : (Nat × Int64 × Int32 × mj_H) → Option (Int64 × mj_H)) (s : Nat × Int64 × Int32 × mj_H) => b_X9_holdOn_132  (fun v0 v4 v6 h => K132 (v0, v4, v6, h)) s.1 s.2.1 s.2.2.1 s.2.2.2) 1000 (v0, v4, v6, h)
set_option maxHeartbeats 4000000 in
set_option maxRecDepth 100000 in
theorem w_X9_holdOn_132 (v0 : Nat) (v4 : Int64) (v6 : Int32) (h : mj_H) (p : Int64 × mj_H) (hf : f_X9_holdOn_132  v0 v4 v6 h = some p) : mj_W mX9_holdOn (mj_FJ p) 132 [(0, .ref v0), (4, .long v4), (6, .int v6)] [] h 0 0 := by
  unfold f_X9_holdOn_132 at hf
  exact mj_fix_ind (F := (fun (K132 : (Nat × Int64 × Int32 × mj_H) → Option (Int64 × mj_H)) (s : Nat × Int64 × Int32 × mj_H) => b_X9_holdOn_132  (fun v0 v4 v6 h => K132 (v0, v4, v6, h)) s.1 s.2.1 s.2.2.1 s.2.2.2)) (P := fun s p => mj_W mX9_holdOn (mj_FJ p) 132 [(0, .ref s.1), (4, .long s.2.1), (6, .int s.2.2.1)] [] s.2.2.2 0 0) (fun K132 hK132 s p hf => wb_X9_holdOn_132   (fun v0 v4 v6 h => K132 (v0, v4, v6, h)) (fun v0 v4 v6 h p e => hK132 (v0, v4, v6, h) p e) s.1 s.2.1 s.2.2.1 s.2.2.2 p hf) 1000 (v0, v4, v6, h) p hf
def f_X9_holdOn_120 (K36 : Nat → Nat → Int32 → Int32 → Int32 → mj_H → Option (Int64 × mj_H)) (v0 : Nat) (v1 : Nat) (v2 : Int32) (v3 : Int32) (v4 : Int32) (h : mj_H) : Option (Int64 × mj_H) := K36 v0 v1 v2 v3 (v4 + (1 : Int32)) h
set_option maxHeartbeats 4000000 in
set_option maxRecDepth 100000 in
theorem w_X9_holdOn_120 (K36 : Nat → Nat → Int32 → Int32 → Int32 → mj_H → Option (Int64 × mj_H)) (hK36 : ∀ (v0 : Nat) (v1 : Nat) (v2 : Int32) (v3 : Int32) (v4 : Int32)  (h : mj_H) (p : Int64 × mj_H), K36 v0 v1 v2 v3 v4 h = some p → mj_W mX9_holdOn (mj_FJ p) 36 [(0, .ref v0), (1, .ref v1), (2, .int v2), (3, .int v3), (4, .int v4)] [] h 0 0) (v0 : Nat) (v1 : Nat) (v2 : Int32) (v3 : Int32) (v4 : Int32) (h : mj_H) (p : Int64 × mj_H) (hf : f_X9_holdOn_120 K36 v0 v1 v2 v3 v4 h = some p) : mj_W mX9_holdOn (mj_FJ p) 120 [(0, .ref v0), (1, .ref v1), (2, .int v2), (3, .int v3), (4, .int v4)] [] h 0 0 := by
  unfold f_X9_holdOn_120 at hf
  refine mj_blk k_X9_ok 64 2 (pc' := 36) (l' := [(4, .int (v4 + (1 : Int32))), (0, .ref v0), (1, .ref v1), (2, .int v2), (3, .int v3)]) (st' := []) rfl ?_
  refine mj_locs [1, 2, 3, 4, 0] (l' := [(0, .ref v0), (1, .ref v1), (2, .int v2), (3, .int v3), (4, .int (v4 + (1 : Int32)))]) rfl ?_
  exact hK36 v0 v1 v2 v3 (v4 + (1 : Int32)) h _ hf
def f_X9_holdOn_112 (K36 : Nat → Nat → Int32 → Int32 → Int32 → mj_H → Option (Int64 × mj_H)) (K65 : Nat → Nat → Int32 → Int32 → Int32 → Int32 → Int32 → mj_H → Option (Int64 × mj_H)) (v0 : Nat) (v1 : Nat) (v2 : Int32) (v3 : Int32) (v4 : Int32) (v5 : Int32) (v6 : Int32) (s0 : Nat) (s1 : Int32) (s2 : Int64) (s3 : Int64) (h : mj_H) : Option (Int64 × mj_H) := (mj_uJ h s0 s1 (s2 + s3)).bind fun h3 => K65 v0 v1 v2 v3 v4 v5 (v6 + (-1 : Int32)) h3
set_option maxHeartbeats 4000000 in
set_option maxRecDepth 100000 in
theorem w_X9_holdOn_112 (K36 : Nat → Nat → Int32 → Int32 → Int32 → mj_H → Option (Int64 × mj_H)) (K65 : Nat → Nat → Int32 → Int32 → Int32 → Int32 → Int32 → mj_H → Option (Int64 × mj_H)) (hK36 : ∀ (v0 : Nat) (v1 : Nat) (v2 : Int32) (v3 : Int32) (v4 : Int32)  (h : mj_H) (p : Int64 × mj_H), K36 v0 v1 v2 v3 v4 h = some p → mj_W mX9_holdOn (mj_FJ p) 36 [(0, .ref v0), (1, .ref v1), (2, .int v2), (3, .int v3), (4, .int v4)] [] h 0 0) (hK65 : ∀ (v0 : Nat) (v1 : Nat) (v2 : Int32) (v3 : Int32) (v4 : Int32) (v5 : Int32) (v6 : Int32)  (h : mj_H) (p : Int64 × mj_H), K65 v0 v1 v2 v3 v4 v5 v6 h = some p → mj_W mX9_holdOn (mj_FJ p) 65 [(0, .ref v0), (1, .ref v1), (2, .int v2), (3, .int v3), (4, .int v4), (5, .int v5), (6, .int v6)] [] h 0 0) (v0 : Nat) (v1 : Nat) (v2 : Int32) (v3 : Int32) (v4 : Int32) (v5 : Int32) (v6 : Int32) (s0 : Nat) (s1 : Int32) (s2 : Int64) (s3 : Int64) (h : mj_H) (p : Int64 × mj_H) (hf : f_X9_holdOn_112 K36 K65 v0 v1 v2 v3 v4 v5 v6 s0 s1 s2 s3 h = some p) : mj_W mX9_holdOn (mj_FJ p) 112 [(0, .ref v0), (1, .ref v1), (2, .int v2), (3, .int v3), (4, .int v4), (5, .int v5), (6, .int v6)] [.long s3, .long s2, .int s1, .ref s0] h 0 0 := by
  unfold f_X9_holdOn_112 at hf
  refine mj_blk k_X9_ok 60 1 (pc' := 113) (l' := [(0, .ref v0), (1, .ref v1), (2, .int v2), (3, .int v3), (4, .int v4), (5, .int v5), (6, .int v6)]) (st' := [.long (s2 + s3), .int s1, .ref s0]) rfl ?_
  obtain ⟨h3, eh3, hf⟩ := mj_bd hf
  refine mj_last 61 rfl eh3 ?_
  refine mj_blk k_X9_ok 62 2 (pc' := 65) (l' := [(6, .int (v6 + (-1 : Int32))), (0, .ref v0), (1, .ref v1), (2, .int v2), (3, .int v3), (4, .int v4), (5, .int v5)]) (st' := []) rfl ?_
  refine mj_locs [1, 2, 3, 4, 5, 6, 0] (l' := [(0, .ref v0), (1, .ref v1), (2, .int v2), (3, .int v3), (4, .int v4), (5, .int v5), (6, .int (v6 + (-1 : Int32)))]) rfl ?_
  exact hK65 v0 v1 v2 v3 v4 v5 (v6 + (-1 : Int32)) h3 _ hf
def b_X9_holdOn_65 (K36 : Nat → Nat → Int32 → Int32 → Int32 → mj_H → Option (Int64 × mj_H)) (K65 : Nat → Nat → Int32 → Int32 → Int32 → Int32 → Int32 → mj_H → Option (Int64 × mj_H)) (v0 : Nat) (v1 : Nat) (v2 : Int32) (v3 : Int32) (v4 : Int32) (v5 : Int32) (v6 : Int32) (h : mj_H) : Option (Int64 × mj_H) := (if v6 < 0 then f_X9_holdOn_120 K36 v0 v1 v2 v3 v4 h else (mj_gR h v0 9 17).bind fun x4 => (mj_gR h v0 9 17).bind fun x5 => (mj_aJ h x5 v6).bind fun x6 => (if v6 ≤ 0 then f_X9_holdOn_112 K36 K65 v0 v1 v2 v3 v4 v5 v6 x4 v6 (x6 * ((((60 : Int32) - v5)).toInt64)) (0 : Int64) h else (mj_gR h v0 9 17).bind fun x7 => (mj_aJ h x7 (v6 - (1 : Int32))).bind fun x8 => f_X9_holdOn_112 K36 K65 v0 v1 v2 v3 v4 v5 v6 x4 v6 (x6 * ((((60 : Int32) - v5)).toInt64)) (x8 * ((v5).toInt64)) h))
set_option maxHeartbeats 4000000 in
set_option maxRecDepth 100000 in
theorem wb_X9_holdOn_65 (K36 : Nat → Nat → Int32 → Int32 → Int32 → mj_H → Option (Int64 × mj_H)) (hK36 : ∀ (v0 : Nat) (v1 : Nat) (v2 : Int32) (v3 : Int32) (v4 : Int32)  (h : mj_H) (p : Int64 × mj_H), K36 v0 v1 v2 v3 v4 h = some p → mj_W mX9_holdOn (mj_FJ p) 36 [(0, .ref v0), (1, .ref v1), (2, .int v2), (3, .int v3), (4, .int v4)] [] h 0 0) (K65 : Nat → Nat → Int32 → Int32 → Int32 → Int32 → Int32 → mj_H → Option (Int64 × mj_H)) (hK65 : ∀ (v0 : Nat) (v1 : Nat) (v2 : Int32) (v3 : Int32) (v4 : Int32) (v5 : Int32) (v6 : Int32)  (h : mj_H) (p : Int64 × mj_H), K65 v0 v1 v2 v3 v4 v5 v6 h = some p → mj_W mX9_holdOn (mj_FJ p) 65 [(0, .ref v0), (1, .ref v1), (2, .int v2), (3, .int v3), (4, .int v4), (5, .int v5), (6, .int v6)] [] h 0 0) (v0 : Nat) (v1 : Nat) (v2 : Int32) (v3 : Int32) (v4 : Int32) (v5 : Int32) (v6 : Int32) (h : mj_H) (p : Int64 × mj_H) (hf : b_X9_holdOn_65 K36 K65 v0 v1 v2 v3 v4 v5 v6 h = some p) : mj_W mX9_holdOn (mj_FJ p) 65 [(0, .ref v0), (1, .ref v1), (2, .int v2), (3, .int v3), (4, .int v4), (5, .int v5), (6, .int v6)] [] h 0 0 := by
  unfold b_X9_holdOn_65 at hf
  refine mj_blk k_X9_ok 33 1 (pc' := 67) (l' := [(0, .ref v0), (1, .ref v1), (2, .int v2), (3, .int v3), (4, .int v4), (5, .int v5), (6, .int v6)]) (st' := [.int v6]) rfl ?_
  refine mj_if_lt 34 120 rfl (by decide) (fun q => ?_) (fun q => ?_)
  · have hf := (if_pos q).symm.trans hf
    refine mj_locs [0, 1, 2, 3, 4] (l' := [(0, .ref v0), (1, .ref v1), (2, .int v2), (3, .int v3), (4, .int v4)]) rfl ?_
    exact w_X9_holdOn_120 K36 hK36 v0 v1 v2 v3 v4 h _ hf
  · have hf := (if_neg q).symm.trans hf
    refine mj_blk k_X9_ok 35 1 (pc' := 71) (l' := [(0, .ref v0), (1, .ref v1), (2, .int v2), (3, .int v3), (4, .int v4), (5, .int v5), (6, .int v6)]) (st' := [.ref v0]) rfl ?_
    obtain ⟨x4, ex4, hf⟩ := mj_bd hf
    refine mj_get 36 rfl fl_X9_39 (mj_gR_V ex4) ?_
    refine mj_blk k_X9_ok 37 2 (pc' := 77) (l' := [(0, .ref v0), (1, .ref v1), (2, .int v2), (3, .int v3), (4, .int v4), (5, .int v5), (6, .int v6)]) (st' := [.ref v0, .int v6, .ref x4]) rfl ?_
    obtain ⟨x5, ex5, hf⟩ := mj_bd hf
    refine mj_get 39 rfl fl_X9_39 (mj_gR_V ex5) ?_
    refine mj_blk k_X9_ok 40 1 (pc' := 82) (l' := [(0, .ref v0), (1, .ref v1), (2, .int v2), (3, .int v3), (4, .int v4), (5, .int v5), (6, .int v6)]) (st' := [.int v6, .ref x5, .int v6, .ref x4]) rfl ?_
    obtain ⟨x6, ex6, hf⟩ := mj_bd hf
    refine mj_lald 41 rfl ex6 ?_
    refine mj_blk k_X9_ok 42 6 (pc' := 92) (l' := [(0, .ref v0), (1, .ref v1), (2, .int v2), (3, .int v3), (4, .int v4), (5, .int v5), (6, .int v6)]) (st' := [.int v6, .long (x6 * ((((60 : Int32) - v5)).toInt64)), .int v6, .ref x4]) rfl ?_
    refine mj_if_le 48 111 rfl (by decide) (fun q => ?_) (fun q => ?_)
    · have hf := (if_pos q).symm.trans hf
      refine mj_blk k_X9_ok 59 1 (pc' := 112) (l' := [(0, .ref v0), (1, .ref v1), (2, .int v2), (3, .int v3), (4, .int v4), (5, .int v5), (6, .int v6)]) (st' := [.long (0 : Int64), .long (x6 * ((((60 : Int32) - v5)).toInt64)), .int v6, .ref x4]) rfl ?_
      exact w_X9_holdOn_112 K36 K65 hK36 hK65 v0 v1 v2 v3 v4 v5 v6 x4 v6 (x6 * ((((60 : Int32) - v5)).toInt64)) (0 : Int64) h _ hf
    · have hf := (if_neg q).symm.trans hf
      refine mj_blk k_X9_ok 49 1 (pc' := 96) (l' := [(0, .ref v0), (1, .ref v1), (2, .int v2), (3, .int v3), (4, .int v4), (5, .int v5), (6, .int v6)]) (st' := [.ref v0, .long (x6 * ((((60 : Int32) - v5)).toInt64)), .int v6, .ref x4]) rfl ?_
      obtain ⟨x7, ex7, hf⟩ := mj_bd hf
      refine mj_get 50 rfl fl_X9_39 (mj_gR_V ex7) ?_
      refine mj_blk k_X9_ok 51 3 (pc' := 103) (l' := [(0, .ref v0), (1, .ref v1), (2, .int v2), (3, .int v3), (4, .int v4), (5, .int v5), (6, .int v6)]) (st' := [.int (v6 - (1 : Int32)), .ref x7, .long (x6 * ((((60 : Int32) - v5)).toInt64)), .int v6, .ref x4]) rfl ?_
      obtain ⟨x8, ex8, hf⟩ := mj_bd hf
      refine mj_lald 54 rfl ex8 ?_
      refine mj_blk k_X9_ok 55 4 (pc' := 112) (l' := [(0, .ref v0), (1, .ref v1), (2, .int v2), (3, .int v3), (4, .int v4), (5, .int v5), (6, .int v6)]) (st' := [.long (x8 * ((v5).toInt64)), .long (x6 * ((((60 : Int32) - v5)).toInt64)), .int v6, .ref x4]) rfl ?_
      exact w_X9_holdOn_112 K36 K65 hK36 hK65 v0 v1 v2 v3 v4 v5 v6 x4 v6 (x6 * ((((60 : Int32) - v5)).toInt64)) (x8 * ((v5).toInt64)) h _ hf
def f_X9_holdOn_65 (K36 : Nat → Nat → Int32 → Int32 → Int32 → mj_H → Option (Int64 × mj_H)) (v0 : Nat) (v1 : Nat) (v2 : Int32) (v3 : Int32) (v4 : Int32) (v5 : Int32) (v6 : Int32) (h : mj_H) : Option (Int64 × mj_H) := mj_fix (fun (K65 : (Nat × Nat × Int32 × Int32 × Int32 × Int32 × Int32 × mj_H) → Option (Int64 × mj_H)) (s : Nat × Nat × Int32 × Int32 × Int32 × Int32 × Int32 × mj_H) => b_X9_holdOn_65 K36 (fun v0 v1 v2 v3 v4 v5 v6 h => K65 (v0, v1, v2, v3, v4, v5, v6, h)) s.1 s.2.1 s.2.2.1 s.2.2.2.1 s.2.2.2.2.1 s.2.2.2.2.2.1 s.2.2.2.2.2.2.1 s.2.2.2.2.2.2.2) 1000 (v0, v1, v2, v3, v4, v5, v6, h)
set_option maxHeartbeats 4000000 in
set_option maxRecDepth 100000 in
theorem w_X9_holdOn_65 (K36 : Nat → Nat → Int32 → Int32 → Int32 → mj_H → Option (Int64 × mj_H)) (hK36 : ∀ (v0 : Nat) (v1 : Nat) (v2 : Int32) (v3 : Int32) (v4 : Int32)  (h : mj_H) (p : Int64 × mj_H), K36 v0 v1 v2 v3 v4 h = some p → mj_W mX9_holdOn (mj_FJ p) 36 [(0, .ref v0), (1, .ref v1), (2, .int v2), (3, .int v3), (4, .int v4)] [] h 0 0) (v0 : Nat) (v1 : Nat) (v2 : Int32) (v3 : Int32) (v4 : Int32) (v5 : Int32) (v6 : Int32) (h : mj_H) (p : Int64 × mj_H) (hf : f_X9_holdOn_65 K36 v0 v1 v2 v3 v4 v5 v6 h = some p) : mj_W mX9_holdOn (mj_FJ p) 65 [(0, .ref v0), (1, .ref v1), (2, .int v2), (3, .int v3), (4, .int v4), (5, .int v5), (6, .int v6)] [] h 0 0 := by
  unfold f_X9_holdOn_65 at hf
  exact mj_fix_ind (F := (fun (K65 : (Nat × Nat × Int32 × Int32 × Int32 × Int32 × Int32 × mj_H) → Option (Int64 × mj_H)) (s : Nat × Nat × Int32 × Int32 × Int32 × Int32 × Int32 × mj_H) => b_X9_holdOn_65 K36 (fun v0 v1 v2 v3 v4 v5 v6 h => K65 (v0, v1, v2, v3, v4, v5, v6, h)) s.1 s.2.1 s.2.2.1 s.2.2.2.1 s.2.2.2.2.1 s.2.2.2.2.2.1 s.2.2.2.2.2.2.1 s.2.2.2.2.2.2.2)) (P := fun s p => mj_W mX9_holdOn (mj_FJ p) 65 [(0, .ref s.1), (1, .ref s.2.1), (2, .int s.2.2.1), (3, .int s.2.2.2.1), (4, .int s.2.2.2.2.1), (5, .int s.2.2.2.2.2.1), (6, .int s.2.2.2.2.2.2.1)] [] s.2.2.2.2.2.2.2 0 0) (fun K65 hK65 s p hf => wb_X9_holdOn_65 K36 hK36 (fun v0 v1 v2 v3 v4 v5 v6 h => K65 (v0, v1, v2, v3, v4, v5, v6, h)) (fun v0 v1 v2 v3 v4 v5 v6 h p e => hK65 (v0, v1, v2, v3, v4, v5, v6, h) p e) s.1 s.2.1 s.2.2.1 s.2.2.2.1 s.2.2.2.2.1 s.2.2.2.2.2.1 s.2.2.2.2.2.2.1 s.2.2.2.2.2.2.2 p hf) 1000 (v0, v1, v2, v3, v4, v5, v6, h) p hf
def b_X9_holdOn_36 (K36 : Nat → Nat → Int32 → Int32 → Int32 → mj_H → Option (Int64 × mj_H)) (v0 : Nat) (v1 : Nat) (v2 : Int32) (v3 : Int32) (v4 : Int32) (h : mj_H) : Option (Int64 × mj_H) := (mj_aI h v1 (0 : Int32)).bind fun x9 => (if x9 ≤ v4 then f_X9_holdOn_132 v0 (0 : Int64) v3 h else (f_X9_has v2 v4 h).bind fun p10 => (if p10.1 = 0 then f_X9_holdOn_120 K36 v0 v1 v2 v3 v4 p10.2 else (f_X9_trustOn v1 v4 p10.2).bind fun p11 => f_X9_holdOn_65 K36 v0 v1 v2 v3 v4 p11.1 (6 : Int32) p11.2))
set_option maxHeartbeats 4000000 in
set_option maxRecDepth 100000 in
theorem wb_X9_holdOn_36 (K36 : Nat → Nat → Int32 → Int32 → Int32 → mj_H → Option (Int64 × mj_H)) (hK36 : ∀ (v0 : Nat) (v1 : Nat) (v2 : Int32) (v3 : Int32) (v4 : Int32)  (h : mj_H) (p : Int64 × mj_H), K36 v0 v1 v2 v3 v4 h = some p → mj_W mX9_holdOn (mj_FJ p) 36 [(0, .ref v0), (1, .ref v1), (2, .int v2), (3, .int v3), (4, .int v4)] [] h 0 0) (v0 : Nat) (v1 : Nat) (v2 : Int32) (v3 : Int32) (v4 : Int32) (h : mj_H) (p : Int64 × mj_H) (hf : b_X9_holdOn_36  K36 v0 v1 v2 v3 v4 h = some p) : mj_W mX9_holdOn (mj_FJ p) 36 [(0, .ref v0), (1, .ref v1), (2, .int v2), (3, .int v3), (4, .int v4)] [] h 0 0 := by
  unfold b_X9_holdOn_36 at hf
  refine mj_blk k_X9_ok 18 3 (pc' := 40) (l' := [(0, .ref v0), (1, .ref v1), (2, .int v2), (3, .int v3), (4, .int v4)]) (st' := [.int (0 : Int32), .ref v1, .int v4]) rfl ?_
  obtain ⟨x9, ex9, hf⟩ := mj_bd hf
  refine mj_iald 21 rfl ex9 ?_
  refine mj_icmp_ge 22 126 rfl (by decide) (fun q => ?_) (fun q => ?_)
  · have hf := (if_pos q).symm.trans hf
    refine mj_blk k_X9_ok 66 4 (pc' := 132) (l' := [(6, .int v3), (4, .long (0 : Int64)), (0, .ref v0), (1, .ref v1), (2, .int v2), (3, .int v3)]) (st' := []) rfl ?_
    refine mj_locs [2, 1, 0] (l' := [(0, .ref v0), (4, .long (0 : Int64)), (6, .int v3)]) rfl ?_
    exact w_X9_holdOn_132 v0 (0 : Int64) v3 h _ hf
  · have hf := (if_neg q).symm.trans hf
    refine mj_blk k_X9_ok 23 2 (pc' := 47) (l' := [(0, .ref v0), (1, .ref v1), (2, .int v2), (3, .int v3), (4, .int v4)]) (st' := [.int v4, .int v2]) rfl ?_
    obtain ⟨p10, ep10, hf⟩ := mj_bd hf
    refine mj_callS mX9_has [.int v2, .int v4] 25 rfl ll_X9_69 lb_X9_has li_X9_has ⟨Nat.le_of_ble_eq_true rfl, Nat.le_of_ble_eq_true rfl⟩ rfl (rest := []) rfl (Nat.le_of_ble_eq_true rfl) ⟨Nat.le_of_ble_eq_true rfl, Nat.le_of_ble_eq_true rfl⟩ (c_X9_has v2 v4 h p10 ep10) ?_
    show mj_W mX9_holdOn (mj_FJ p) 50 [(0, .ref v0), (1, .ref v1), (2, .int v2), (3, .int v3), (4, .int v4)] [.int p10.1] p10.2 0 0
    refine mj_if_eq 26 120 rfl (by decide) (fun q => ?_) (fun q => ?_)
    · have hf := (if_pos q).symm.trans hf
      exact w_X9_holdOn_120 K36 hK36 v0 v1 v2 v3 v4 p10.2 _ hf
    · have hf := (if_neg q).symm.trans hf
      refine mj_blk k_X9_ok 27 2 (pc' := 56) (l' := [(0, .ref v0), (1, .ref v1), (2, .int v2), (3, .int v3), (4, .int v4)]) (st' := [.int v4, .ref v1]) rfl ?_
      obtain ⟨p11, ep11, hf⟩ := mj_bd hf
      refine mj_callS mX9_trustOn [.ref v1, .int v4] 29 rfl ll_X9_200 lb_X9_trustOn li_X9_trustOn ⟨Nat.le_of_ble_eq_true rfl, Nat.le_of_ble_eq_true rfl⟩ rfl (rest := []) rfl (Nat.le_of_ble_eq_true rfl) ⟨Nat.le_of_ble_eq_true rfl, Nat.le_of_ble_eq_true rfl⟩ (c_X9_trustOn v1 v4 p10.2 p11 ep11) ?_
      show mj_W mX9_holdOn (mj_FJ p) 59 [(0, .ref v0), (1, .ref v1), (2, .int v2), (3, .int v3), (4, .int v4)] [.int p11.1] p11.2 0 0
      refine mj_blk k_X9_ok 30 3 (pc' := 65) (l' := [(6, .int (6 : Int32)), (5, .int p11.1), (0, .ref v0), (1, .ref v1), (2, .int v2), (3, .int v3), (4, .int v4)]) (st' := []) rfl ?_
      refine mj_locs [2, 3, 4, 5, 6, 1, 0] (l' := [(0, .ref v0), (1, .ref v1), (2, .int v2), (3, .int v3), (4, .int v4), (5, .int p11.1), (6, .int (6 : Int32))]) rfl ?_
      exact w_X9_holdOn_65 K36 hK36 v0 v1 v2 v3 v4 p11.1 (6 : Int32) p11.2 _ hf
def f_X9_holdOn_36 (v0 : Nat) (v1 : Nat) (v2 : Int32) (v3 : Int32) (v4 : Int32) (h : mj_H) : Option (Int64 × mj_H) := mj_fix (fun (K36 : (Nat × Nat × Int32 × Int32 × Int32 × mj_H) → Option (Int64 × mj_H)) (s : Nat × Nat × Int32 × Int32 × Int32 × mj_H) => b_X9_holdOn_36  (fun v0 v1 v2 v3 v4 h => K36 (v0, v1, v2, v3, v4, h)) s.1 s.2.1 s.2.2.1 s.2.2.2.1 s.2.2.2.2.1 s.2.2.2.2.2) 1000 (v0, v1, v2, v3, v4, h)
set_option maxHeartbeats 4000000 in
set_option maxRecDepth 100000 in
theorem w_X9_holdOn_36 (v0 : Nat) (v1 : Nat) (v2 : Int32) (v3 : Int32) (v4 : Int32) (h : mj_H) (p : Int64 × mj_H) (hf : f_X9_holdOn_36  v0 v1 v2 v3 v4 h = some p) : mj_W mX9_holdOn (mj_FJ p) 36 [(0, .ref v0), (1, .ref v1), (2, .int v2), (3, .int v3), (4, .int v4)] [] h 0 0 := by
  unfold f_X9_holdOn_36 at hf
  exact mj_fix_ind (F := (fun (K36 : (Nat × Nat × Int32 × Int32 × Int32 × mj_H) → Option (Int64 × mj_H)) (s : Nat × Nat × Int32 × Int32 × Int32 × mj_H) => b_X9_holdOn_36  (fun v0 v1 v2 v3 v4 h => K36 (v0, v1, v2, v3, v4, h)) s.1 s.2.1 s.2.2.1 s.2.2.2.1 s.2.2.2.2.1 s.2.2.2.2.2)) (P := fun s p => mj_W mX9_holdOn (mj_FJ p) 36 [(0, .ref s.1), (1, .ref s.2.1), (2, .int s.2.2.1), (3, .int s.2.2.2.1), (4, .int s.2.2.2.2.1)] [] s.2.2.2.2.2 0 0) (fun K36 hK36 s p hf => wb_X9_holdOn_36   (fun v0 v1 v2 v3 v4 h => K36 (v0, v1, v2, v3, v4, h)) (fun v0 v1 v2 v3 v4 h p e => hK36 (v0, v1, v2, v3, v4, h) p e) s.1 s.2.1 s.2.2.1 s.2.2.2.1 s.2.2.2.2.1 s.2.2.2.2.2 p hf) 1000 (v0, v1, v2, v3, v4, h) p hf
def f_X9_holdOn_26 (K3 : Nat → Nat → Int32 → Int32 → Int32 → mj_H → Option (Int64 × mj_H)) (v0 : Nat) (v1 : Nat) (v2 : Int32) (v3 : Int32) (v4 : Int32) (s0 : Nat) (s1 : Int32) (s2 : Int64) (h : mj_H) : Option (Int64 × mj_H) := (mj_uJ h s0 s1 s2).bind fun h12 => K3 v0 v1 v2 v3 (v4 + (1 : Int32)) h12
set_option maxHeartbeats 4000000 in
set_option maxRecDepth 100000 in
theorem w_X9_holdOn_26 (K3 : Nat → Nat → Int32 → Int32 → Int32 → mj_H → Option (Int64 × mj_H)) (hK3 : ∀ (v0 : Nat) (v1 : Nat) (v2 : Int32) (v3 : Int32) (v4 : Int32)  (h : mj_H) (p : Int64 × mj_H), K3 v0 v1 v2 v3 v4 h = some p → mj_W mX9_holdOn (mj_FJ p) 3 [(0, .ref v0), (1, .ref v1), (2, .int v2), (3, .int v3), (4, .int v4)] [] h 0 0) (v0 : Nat) (v1 : Nat) (v2 : Int32) (v3 : Int32) (v4 : Int32) (s0 : Nat) (s1 : Int32) (s2 : Int64) (h : mj_H) (p : Int64 × mj_H) (hf : f_X9_holdOn_26 K3 v0 v1 v2 v3 v4 s0 s1 s2 h = some p) : mj_W mX9_holdOn (mj_FJ p) 26 [(0, .ref v0), (1, .ref v1), (2, .int v2), (3, .int v3), (4, .int v4)] [.long s2, .int s1, .ref s0] h 0 0 := by
  unfold f_X9_holdOn_26 at hf
  obtain ⟨h12, eh12, hf⟩ := mj_bd hf
  refine mj_last 13 rfl eh12 ?_
  refine mj_blk k_X9_ok 14 2 (pc' := 3) (l' := [(4, .int (v4 + (1 : Int32))), (0, .ref v0), (1, .ref v1), (2, .int v2), (3, .int v3)]) (st' := []) rfl ?_
  refine mj_locs [1, 2, 3, 4, 0] (l' := [(0, .ref v0), (1, .ref v1), (2, .int v2), (3, .int v3), (4, .int (v4 + (1 : Int32)))]) rfl ?_
  exact hK3 v0 v1 v2 v3 (v4 + (1 : Int32)) h12 _ hf
def b_X9_holdOn_3 (K3 : Nat → Nat → Int32 → Int32 → Int32 → mj_H → Option (Int64 × mj_H)) (v0 : Nat) (v1 : Nat) (v2 : Int32) (v3 : Int32) (v4 : Int32) (h : mj_H) : Option (Int64 × mj_H) := (if (7 : Int32) ≤ v4 then f_X9_holdOn_36 v0 v1 v2 v3 (0 : Int32) h else (mj_gR h v0 9 17).bind fun x13 => (if v4 = 0 then f_X9_holdOn_26 K3 v0 v1 v2 v3 v4 x13 v4 (1 : Int64) h else f_X9_holdOn_26 K3 v0 v1 v2 v3 v4 x13 v4 (0 : Int64) h))
set_option maxHeartbeats 4000000 in
set_option maxRecDepth 100000 in
theorem wb_X9_holdOn_3 (K3 : Nat → Nat → Int32 → Int32 → Int32 → mj_H → Option (Int64 × mj_H)) (hK3 : ∀ (v0 : Nat) (v1 : Nat) (v2 : Int32) (v3 : Int32) (v4 : Int32)  (h : mj_H) (p : Int64 × mj_H), K3 v0 v1 v2 v3 v4 h = some p → mj_W mX9_holdOn (mj_FJ p) 3 [(0, .ref v0), (1, .ref v1), (2, .int v2), (3, .int v3), (4, .int v4)] [] h 0 0) (v0 : Nat) (v1 : Nat) (v2 : Int32) (v3 : Int32) (v4 : Int32) (h : mj_H) (p : Int64 × mj_H) (hf : b_X9_holdOn_3  K3 v0 v1 v2 v3 v4 h = some p) : mj_W mX9_holdOn (mj_FJ p) 3 [(0, .ref v0), (1, .ref v1), (2, .int v2), (3, .int v3), (4, .int v4)] [] h 0 0 := by
  unfold b_X9_holdOn_3 at hf
  refine mj_blk k_X9_ok 2 2 (pc' := 7) (l' := [(0, .ref v0), (1, .ref v1), (2, .int v2), (3, .int v3), (4, .int v4)]) (st' := [.int (7 : Int32), .int v4]) rfl ?_
  refine mj_icmp_ge 4 33 rfl (by decide) (fun q => ?_) (fun q => ?_)
  · have hf := (if_pos q).symm.trans hf
    refine mj_blk k_X9_ok 16 2 (pc' := 36) (l' := [(4, .int (0 : Int32)), (0, .ref v0), (1, .ref v1), (2, .int v2), (3, .int v3)]) (st' := []) rfl ?_
    refine mj_locs [1, 2, 3, 4, 0] (l' := [(0, .ref v0), (1, .ref v1), (2, .int v2), (3, .int v3), (4, .int (0 : Int32))]) rfl ?_
    exact w_X9_holdOn_36 v0 v1 v2 v3 (0 : Int32) h _ hf
  · have hf := (if_neg q).symm.trans hf
    refine mj_blk k_X9_ok 5 1 (pc' := 11) (l' := [(0, .ref v0), (1, .ref v1), (2, .int v2), (3, .int v3), (4, .int v4)]) (st' := [.ref v0]) rfl ?_
    obtain ⟨x13, ex13, hf⟩ := mj_bd hf
    refine mj_get 6 rfl fl_X9_39 (mj_gR_V ex13) ?_
    refine mj_blk k_X9_ok 7 2 (pc' := 18) (l' := [(0, .ref v0), (1, .ref v1), (2, .int v2), (3, .int v3), (4, .int v4)]) (st' := [.int v4, .int v4, .ref x13]) rfl ?_
    refine mj_if_ne 9 25 rfl (by decide) (fun q => ?_) (fun q => ?_)
    · have hf := (if_neg q).symm.trans hf
      refine mj_blk k_X9_ok 12 1 (pc' := 26) (l' := [(0, .ref v0), (1, .ref v1), (2, .int v2), (3, .int v3), (4, .int v4)]) (st' := [.long (0 : Int64), .int v4, .ref x13]) rfl ?_
      exact w_X9_holdOn_26 K3 hK3 v0 v1 v2 v3 v4 x13 v4 (0 : Int64) h _ hf
    · have hf := (if_pos q).symm.trans hf
      refine mj_blk k_X9_ok 10 2 (pc' := 26) (l' := [(0, .ref v0), (1, .ref v1), (2, .int v2), (3, .int v3), (4, .int v4)]) (st' := [.long (1 : Int64), .int v4, .ref x13]) rfl ?_
      exact w_X9_holdOn_26 K3 hK3 v0 v1 v2 v3 v4 x13 v4 (1 : Int64) h _ hf
def f_X9_holdOn_3 (v0 : Nat) (v1 : Nat) (v2 : Int32) (v3 : Int32) (v4 : Int32) (h : mj_H) : Option (Int64 × mj_H) := mj_fix (fun (K3 : (Nat × Nat × Int32 × Int32 × Int32 × mj_H) → Option (Int64 × mj_H)) (s : Nat × Nat × Int32 × Int32 × Int32 × mj_H) => b_X9_holdOn_3  (fun v0 v1 v2 v3 v4 h => K3 (v0, v1, v2, v3, v4, h)) s.1 s.2.1 s.2.2.1 s.2.2.2.1 s.2.2.2.2.1 s.2.2.2.2.2) 1000 (v0, v1, v2, v3, v4, h)
set_option maxHeartbeats 4000000 in
set_option maxRecDepth 100000 in
theorem w_X9_holdOn_3 (v0 : Nat) (v1 : Nat) (v2 : Int32) (v3 : Int32) (v4 : Int32) (h : mj_H) (p : Int64 × mj_H) (hf : f_X9_holdOn_3  v0 v1 v2 v3 v4 h = some p) : mj_W mX9_holdOn (mj_FJ p) 3 [(0, .ref v0), (1, .ref v1), (2, .int v2), (3, .int v3), (4, .int v4)] [] h 0 0 := by
  unfold f_X9_holdOn_3 at hf
  exact mj_fix_ind (F := (fun (K3 : (Nat × Nat × Int32 × Int32 × Int32 × mj_H) → Option (Int64 × mj_H)) (s : Nat × Nat × Int32 × Int32 × Int32 × mj_H) => b_X9_holdOn_3  (fun v0 v1 v2 v3 v4 h => K3 (v0, v1, v2, v3, v4, h)) s.1 s.2.1 s.2.2.1 s.2.2.2.1 s.2.2.2.2.1 s.2.2.2.2.2)) (P := fun s p => mj_W mX9_holdOn (mj_FJ p) 3 [(0, .ref s.1), (1, .ref s.2.1), (2, .int s.2.2.1), (3, .int s.2.2.2.1), (4, .int s.2.2.2.2.1)] [] s.2.2.2.2.2 0 0) (fun K3 hK3 s p hf => wb_X9_holdOn_3   (fun v0 v1 v2 v3 v4 h => K3 (v0, v1, v2, v3, v4, h)) (fun v0 v1 v2 v3 v4 h p e => hK3 (v0, v1, v2, v3, v4, h) p e) s.1 s.2.1 s.2.2.1 s.2.2.2.1 s.2.2.2.2.1 s.2.2.2.2.2 p hf) 1000 (v0, v1, v2, v3, v4, h) p hf
def f_X9_holdOn (v0 : Nat) (v1 : Nat) (v2 : Int32) (v3 : Int32) (h : mj_H) : Option (Int64 × mj_H) := f_X9_holdOn_3 v0 v1 v2 v3 (0 : Int32) h
set_option maxHeartbeats 4000000 in
set_option maxRecDepth 100000 in
theorem c_X9_holdOn (v0 : Nat) (v1 : Nat) (v2 : Int32) (v3 : Int32) (h : mj_H) (p : Int64 × mj_H) (hf : f_X9_holdOn v0 v1 v2 v3 h = some p) : mj_Met mX9_holdOn [.ref v0, .ref v1, .int v2, .int v3] h (some (.long p.1)) p.2 := by
  refine mj_met pl_X9 tok_X9_holdOn (Nat.le_of_ble_eq_true rfl) ?_
  show mj_W mX9_holdOn (mj_FJ p) 0 [(0, .ref v0), (1, .ref v1), (2, .int v2), (3, .int v3)] [] h 0 0
  unfold f_X9_holdOn at hf
  refine mj_blk k_X9_ok 0 2 (pc' := 3) (l' := [(4, .int (0 : Int32)), (0, .ref v0), (1, .ref v1), (2, .int v2), (3, .int v3)]) (st' := []) rfl ?_
  refine mj_locs [1, 2, 3, 4, 0] (l' := [(0, .ref v0), (1, .ref v1), (2, .int v2), (3, .int v3), (4, .int (0 : Int32))]) rfl ?_
  exact w_X9_holdOn_3 v0 v1 v2 v3 (0 : Int32) h _ hf
def b_X9_fraction_6 (K6 : Nat → Int64 → Int64 → Int64 → Int64 → mj_H → Option (mj_H)) (v0 : Nat) (v1 : Int64) (v3 : Int64) (v5 : Int64) (v7 : Int64) (h : mj_H) : Option (mj_H) := (if v7 = (0 : Int64) then (if v5 = 0 then none else (mj_sV h v0 9 5 (.long (v1 / v5))).bind fun h1 => (if v5 = 0 then none else (mj_sV h1 v0 9 6 (.long (v3 / v5))).bind fun h2 => some h2)) else (if v7 = 0 then none else K6 v0 v1 v3 v7 (v5 - v5 / v7 * v7) h))
set_option maxHeartbeats 4000000 in
set_option maxRecDepth 100000 in
theorem wb_X9_fraction_6 (K6 : Nat → Int64 → Int64 → Int64 → Int64 → mj_H → Option (mj_H)) (hK6 : ∀ (v0 : Nat) (v1 : Int64) (v3 : Int64) (v5 : Int64) (v7 : Int64)  (h : mj_H) (p : mj_H), K6 v0 v1 v3 v5 v7 h = some p → mj_W mX9_fraction (mj_FV p) 6 [(0, .ref v0), (1, .long v1), (3, .long v3), (5, .long v5), (7, .long v7)] [] h 0 0) (v0 : Nat) (v1 : Int64) (v3 : Int64) (v5 : Int64) (v7 : Int64) (h : mj_H) (p : mj_H) (hf : b_X9_fraction_6  K6 v0 v1 v3 v5 v7 h = some p) : mj_W mX9_fraction (mj_FV p) 6 [(0, .ref v0), (1, .long v1), (3, .long v3), (5, .long v5), (7, .long v7)] [] h 0 0 := by
  unfold b_X9_fraction_6 at hf
  refine mj_blk k_X9_ok 4 2 (pc' := 9) (l' := [(0, .ref v0), (1, .long v1), (3, .long v3), (5, .long v5), (7, .long v7)]) (st' := [.long (0 : Int64), .long v7]) rfl ?_
  refine mj_lcmp_eq 6 31 rfl rfl (by decide) (fun q => ?_) (fun q => ?_)
  · have hf := (if_pos q).symm.trans hf
    refine mj_blk k_X9_ok 17 3 (pc' := 35) (l' := [(0, .ref v0), (1, .long v1), (3, .long v3), (5, .long v5), (7, .long v7)]) (st' := [.long v5, .long v1, .ref v0]) rfl ?_
    obtain ⟨g, hf⟩ := mj_g0 hf
    refine mj_ldiv 20 rfl g ?_
    obtain ⟨h1, eh1, hf⟩ := mj_bd hf
    refine mj_put 21 rfl fp_X9_211 (fun _ => ⟨rfl, rfl⟩) eh1 ?_
    refine mj_blk k_X9_ok 22 3 (pc' := 43) (l' := [(0, .ref v0), (1, .long v1), (3, .long v3), (5, .long v5), (7, .long v7)]) (st' := [.long v5, .long v3, .ref v0]) rfl ?_
    obtain ⟨g, hf⟩ := mj_g0 hf
    refine mj_ldiv 25 rfl g ?_
    obtain ⟨h2, eh2, hf⟩ := mj_bd hf
    refine mj_put 26 rfl fp_X9_23 (fun _ => ⟨rfl, rfl⟩) eh2 ?_
    obtain rfl := Option.some.inj hf
    exact mj_end none ⟨mj_dec tok_X9_fraction (a := 27) rfl, rfl⟩ ⟨rfl, rfl⟩ (Nat.le_of_ble_eq_true rfl) (Nat.le_of_ble_eq_true rfl)
  · have hf := (if_neg q).symm.trans hf
    refine mj_blk k_X9_ok 8 2 (pc' := 17) (l' := [(0, .ref v0), (1, .long v1), (3, .long v3), (5, .long v5), (7, .long v7)]) (st' := [.long v7, .long v5]) rfl ?_
    obtain ⟨g, hf⟩ := mj_g0 hf
    refine mj_lrem 10 rfl g ?_
    refine mj_blk k_X9_ok 11 6 (pc' := 6) (l' := [(7, .long (v5 - v5 / v7 * v7)), (5, .long v7), (9, .long (v5 - v5 / v7 * v7)), (0, .ref v0), (1, .long v1), (3, .long v3)]) (st' := []) rfl ?_
    refine mj_locs [3, 4, 5, 1, 0] (l' := [(0, .ref v0), (1, .long v1), (3, .long v3), (5, .long v7), (7, .long (v5 - v5 / v7 * v7))]) rfl ?_
    exact hK6 v0 v1 v3 v7 (v5 - v5 / v7 * v7) h _ hf
def f_X9_fraction_6 (v0 : Nat) (v1 : Int64) (v3 : Int64) (v5 : Int64) (v7 : Int64) (h : mj_H) : Option (mj_H) := mj_fix (fun (K6 : (Nat × Int64 × Int64 × Int64 × Int64 × mj_H) → Option (mj_H)) (s : Nat × Int64 × Int64 × Int64 × Int64 × mj_H) => b_X9_fraction_6  (fun v0 v1 v3 v5 v7 h => K6 (v0, v1, v3, v5, v7, h)) s.1 s.2.1 s.2.2.1 s.2.2.2.1 s.2.2.2.2.1 s.2.2.2.2.2) 1000 (v0, v1, v3, v5, v7, h)
set_option maxHeartbeats 4000000 in
set_option maxRecDepth 100000 in
theorem w_X9_fraction_6 (v0 : Nat) (v1 : Int64) (v3 : Int64) (v5 : Int64) (v7 : Int64) (h : mj_H) (p : mj_H) (hf : f_X9_fraction_6  v0 v1 v3 v5 v7 h = some p) : mj_W mX9_fraction (mj_FV p) 6 [(0, .ref v0), (1, .long v1), (3, .long v3), (5, .long v5), (7, .long v7)] [] h 0 0 := by
  unfold f_X9_fraction_6 at hf
  exact mj_fix_ind (F := (fun (K6 : (Nat × Int64 × Int64 × Int64 × Int64 × mj_H) → Option (mj_H)) (s : Nat × Int64 × Int64 × Int64 × Int64 × mj_H) => b_X9_fraction_6  (fun v0 v1 v3 v5 v7 h => K6 (v0, v1, v3, v5, v7, h)) s.1 s.2.1 s.2.2.1 s.2.2.2.1 s.2.2.2.2.1 s.2.2.2.2.2)) (P := fun s p => mj_W mX9_fraction (mj_FV p) 6 [(0, .ref s.1), (1, .long s.2.1), (3, .long s.2.2.1), (5, .long s.2.2.2.1), (7, .long s.2.2.2.2.1)] [] s.2.2.2.2.2 0 0) (fun K6 hK6 s p hf => wb_X9_fraction_6   (fun v0 v1 v3 v5 v7 h => K6 (v0, v1, v3, v5, v7, h)) (fun v0 v1 v3 v5 v7 h p e => hK6 (v0, v1, v3, v5, v7, h) p e) s.1 s.2.1 s.2.2.1 s.2.2.2.1 s.2.2.2.2.1 s.2.2.2.2.2 p hf) 1000 (v0, v1, v3, v5, v7, h) p hf
def f_X9_fraction (v0 : Nat) (v1 : Int64) (v3 : Int64) (h : mj_H) : Option (mj_H) := f_X9_fraction_6 v0 v1 v3 v1 v3 h
set_option maxHeartbeats 4000000 in
set_option maxRecDepth 100000 in
theorem c_X9_fraction (v0 : Nat) (v1 : Int64) (v3 : Int64) (h : mj_H) (p : mj_H) (hf : f_X9_fraction v0 v1 v3 h = some p) : mj_Met mX9_fraction [.ref v0, .long v1, .long v3] h none p := by
  refine mj_met pl_X9 tok_X9_fraction (Nat.le_of_ble_eq_true rfl) ?_
  show mj_W mX9_fraction (mj_FV p) 0 [(0, .ref v0), (1, .long v1), (3, .long v3)] [] h 0 0
  unfold f_X9_fraction at hf
  refine mj_blk k_X9_ok 0 4 (pc' := 6) (l' := [(7, .long v3), (5, .long v1), (0, .ref v0), (1, .long v1), (3, .long v3)]) (st' := []) rfl ?_
  refine mj_locs [2, 3, 4, 1, 0] (l' := [(0, .ref v0), (1, .long v1), (3, .long v3), (5, .long v1), (7, .long v3)]) rfl ?_
  exact w_X9_fraction_6 v0 v1 v3 v1 v3 h _ hf
def b_X9_hold_32 (K32 : Nat → Int32 → Int32 → Int64 → Int32 → mj_H → Option (Int32 × mj_H)) (v0 : Nat) (v1 : Int32) (v2 : Int32) (v3 : Int64) (v5 : Int32) (h : mj_H) : Option (Int32 × mj_H) := (f_X9_bits v1 h).bind fun p1 => (if p1.1 ≤ v5 then (mj_gR p1.2 v0 9 0).bind fun x2 => (if mj_ob p1.2 v0 9 = true then (f_X9_holdOn v0 x2 v1 v2 p1.2).bind fun p3 => (if mj_ob p3.2 v0 9 = true then (f_X9_fraction v0 p3.1 v3 p3.2).bind fun p4 => some ((1 : Int32), p4) else none) else none) else K32 v0 v1 v2 (v3 * (60 : Int64)) (v5 + (1 : Int32)) p1.2)
set_option maxHeartbeats 4000000 in
set_option maxRecDepth 100000 in
theorem wb_X9_hold_32 (K32 : Nat → Int32 → Int32 → Int64 → Int32 → mj_H → Option (Int32 × mj_H)) (hK32 : ∀ (v0 : Nat) (v1 : Int32) (v2 : Int32) (v3 : Int64) (v5 : Int32)  (h : mj_H) (p : Int32 × mj_H), K32 v0 v1 v2 v3 v5 h = some p → mj_W mX9_hold (mj_FI p) 32 [(0, .ref v0), (1, .int v1), (2, .int v2), (3, .long v3), (5, .int v5)] [] h 0 0) (v0 : Nat) (v1 : Int32) (v2 : Int32) (v3 : Int64) (v5 : Int32) (h : mj_H) (p : Int32 × mj_H) (hf : b_X9_hold_32  K32 v0 v1 v2 v3 v5 h = some p) : mj_W mX9_hold (mj_FI p) 32 [(0, .ref v0), (1, .int v1), (2, .int v2), (3, .long v3), (5, .int v5)] [] h 0 0 := by
  unfold b_X9_hold_32 at hf
  refine mj_blk k_X9_ok 18 2 (pc' := 35) (l' := [(0, .ref v0), (1, .int v1), (2, .int v2), (3, .long v3), (5, .int v5)]) (st' := [.int v1, .int v5]) rfl ?_
  obtain ⟨p1, ep1, hf⟩ := mj_bd hf
  refine mj_callS mX9_bits [.int v1] 20 rfl ll_X9_219 lb_X9_bits li_X9_bits ⟨Nat.le_of_ble_eq_true rfl, Nat.le_of_ble_eq_true rfl⟩ rfl (rest := [.int v5]) rfl (Nat.le_of_ble_eq_true rfl) ⟨Nat.le_of_ble_eq_true rfl, Nat.le_of_ble_eq_true rfl⟩ (c_X9_bits v1 h p1 ep1) ?_
  show mj_W mX9_hold (mj_FI p) 38 [(0, .ref v0), (1, .int v1), (2, .int v2), (3, .long v3), (5, .int v5)] [.int p1.1, .int v5] p1.2 0 0
  refine mj_icmp_ge 21 53 rfl (by decide) (fun q => ?_) (fun q => ?_)
  · have hf := (if_pos q).symm.trans hf
    refine mj_blk k_X9_ok 28 3 (pc' := 56) (l' := [(0, .ref v0), (1, .int v1), (2, .int v2), (3, .long v3), (5, .int v5)]) (st' := [.ref v0, .ref v0, .ref v0]) rfl ?_
    obtain ⟨x2, ex2, hf⟩ := mj_bd hf
    refine mj_get 31 rfl fl_X9_7 (mj_gR_V ex2) ?_
    refine mj_blk k_X9_ok 32 2 (pc' := 61) (l' := [(0, .ref v0), (1, .int v1), (2, .int v2), (3, .long v3), (5, .int v5)]) (st' := [.int v2, .int v1, .ref x2, .ref v0, .ref v0]) rfl ?_
    obtain ⟨gp3, hf⟩ := mj_gd hf
    obtain ⟨p3, ep3, hf⟩ := mj_bd hf
    refine mj_callV (T := TX9) (N := 20) (ci := 9) mX9_holdOn [.ref x2, .int v1, .int v2] 34 rfl ll_X9_222 lb_X9_holdOn li_X9_holdOn ⟨Nat.le_of_ble_eq_true rfl, Nat.le_of_ble_eq_true rfl⟩ rfl gp3 rfl (rest := [.ref v0]) rfl (Nat.le_of_ble_eq_true rfl) ⟨Nat.le_of_ble_eq_true rfl, Nat.le_of_ble_eq_true rfl⟩ (c_X9_holdOn v0 x2 v1 v2 p1.2 p3 ep3) ?_
    show mj_W mX9_hold (mj_FI p) 64 [(0, .ref v0), (1, .int v1), (2, .int v2), (3, .long v3), (5, .int v5)] [.long p3.1, .ref v0] p3.2 0 0
    refine mj_blk k_X9_ok 35 1 (pc' := 65) (l' := [(0, .ref v0), (1, .int v1), (2, .int v2), (3, .long v3), (5, .int v5)]) (st' := [.long v3, .long p3.1, .ref v0]) rfl ?_
    obtain ⟨gp4, hf⟩ := mj_gd hf
    obtain ⟨p4, ep4, hf⟩ := mj_bd hf
    refine mj_callV (T := TX9) (N := 20) (ci := 9) mX9_fraction [.long p3.1, .long v3] 36 rfl ll_X9_226 lb_X9_fraction li_X9_fraction ⟨Nat.le_of_ble_eq_true rfl, Nat.le_of_ble_eq_true rfl⟩ rfl gp4 rfl (rest := []) rfl (Nat.le_of_ble_eq_true rfl) ⟨Nat.le_of_ble_eq_true rfl, Nat.le_of_ble_eq_true rfl⟩ (c_X9_fraction v0 p3.1 v3 p3.2 p4 ep4) ?_
    show mj_W mX9_hold (mj_FI p) 68 [(0, .ref v0), (1, .int v1), (2, .int v2), (3, .long v3), (5, .int v5)] [] p4 0 0
    refine mj_blk k_X9_ok 37 1 (pc' := 69) (l' := [(0, .ref v0), (1, .int v1), (2, .int v2), (3, .long v3), (5, .int v5)]) (st' := [.int (1 : Int32)]) rfl ?_
    obtain rfl := Option.some.inj hf
    exact mj_end (some (.int (1 : Int32))) ⟨mj_dec tok_X9_hold (a := 38) rfl, .int, rfl, rfl⟩ ⟨rfl, rfl⟩ (Nat.le_of_ble_eq_true rfl) (Nat.le_of_ble_eq_true rfl)
  · have hf := (if_neg q).symm.trans hf
    refine mj_blk k_X9_ok 22 6 (pc' := 32) (l' := [(5, .int (v5 + (1 : Int32))), (3, .long (v3 * (60 : Int64))), (0, .ref v0), (1, .int v1), (2, .int v2)]) (st' := []) rfl ?_
    refine mj_locs [2, 3, 4, 1, 0] (l' := [(0, .ref v0), (1, .int v1), (2, .int v2), (3, .long (v3 * (60 : Int64))), (5, .int (v5 + (1 : Int32)))]) rfl ?_
    exact hK32 v0 v1 v2 (v3 * (60 : Int64)) (v5 + (1 : Int32)) p1.2 _ hf
def f_X9_hold_32 (v0 : Nat) (v1 : Int32) (v2 : Int32) (v3 : Int64) (v5 : Int32) (h : mj_H) : Option (Int32 × mj_H) := mj_fix (fun (K32 : (Nat × Int32 × Int32 × Int64 × Int32 × mj_H) → Option (Int32 × mj_H)) (s : Nat × Int32 × Int32 × Int64 × Int32 × mj_H) => b_X9_hold_32  (fun v0 v1 v2 v3 v5 h => K32 (v0, v1, v2, v3, v5, h)) s.1 s.2.1 s.2.2.1 s.2.2.2.1 s.2.2.2.2.1 s.2.2.2.2.2) 1000 (v0, v1, v2, v3, v5, h)
set_option maxHeartbeats 4000000 in
set_option maxRecDepth 100000 in
theorem w_X9_hold_32 (v0 : Nat) (v1 : Int32) (v2 : Int32) (v3 : Int64) (v5 : Int32) (h : mj_H) (p : Int32 × mj_H) (hf : f_X9_hold_32  v0 v1 v2 v3 v5 h = some p) : mj_W mX9_hold (mj_FI p) 32 [(0, .ref v0), (1, .int v1), (2, .int v2), (3, .long v3), (5, .int v5)] [] h 0 0 := by
  unfold f_X9_hold_32 at hf
  exact mj_fix_ind (F := (fun (K32 : (Nat × Int32 × Int32 × Int64 × Int32 × mj_H) → Option (Int32 × mj_H)) (s : Nat × Int32 × Int32 × Int64 × Int32 × mj_H) => b_X9_hold_32  (fun v0 v1 v2 v3 v5 h => K32 (v0, v1, v2, v3, v5, h)) s.1 s.2.1 s.2.2.1 s.2.2.2.1 s.2.2.2.2.1 s.2.2.2.2.2)) (P := fun s p => mj_W mX9_hold (mj_FI p) 32 [(0, .ref s.1), (1, .int s.2.1), (2, .int s.2.2.1), (3, .long s.2.2.2.1), (5, .int s.2.2.2.2.1)] [] s.2.2.2.2.2 0 0) (fun K32 hK32 s p hf => wb_X9_hold_32   (fun v0 v1 v2 v3 v5 h => K32 (v0, v1, v2, v3, v5, h)) (fun v0 v1 v2 v3 v5 h p e => hK32 (v0, v1, v2, v3, v5, h) p e) s.1 s.2.1 s.2.2.1 s.2.2.2.1 s.2.2.2.2.1 s.2.2.2.2.2 p hf) 1000 (v0, v1, v2, v3, v5, h) p hf
def f_X9_hold_20 (v0 : Nat) (h : mj_H) : Option (Int32 × mj_H) := (if mj_ob h v0 9 = true then (f_X9_bad v0 (-2 : Int32) h).bind fun p5 => some (p5.1, p5.2) else none)
set_option maxHeartbeats 4000000 in
set_option maxRecDepth 100000 in
theorem w_X9_hold_20 (v0 : Nat) (h : mj_H) (p : Int32 × mj_H) (hf : f_X9_hold_20  v0 h = some p) : mj_W mX9_hold (mj_FI p) 20 [(0, .ref v0)] [] h 0 0 := by
  unfold f_X9_hold_20 at hf
  refine mj_blk k_X9_ok 10 2 (pc' := 23) (l' := [(0, .ref v0)]) (st' := [.int (-2 : Int32), .ref v0]) rfl ?_
  obtain ⟨gp5, hf⟩ := mj_gd hf
  obtain ⟨p5, ep5, hf⟩ := mj_bd hf
  refine mj_callV (T := TX9) (N := 20) (ci := 9) mX9_bad [.int (-2 : Int32)] 12 rfl ll_X9_75 lb_X9_bad li_X9_bad ⟨Nat.le_of_ble_eq_true rfl, Nat.le_of_ble_eq_true rfl⟩ rfl gp5 rfl (rest := []) rfl (Nat.le_of_ble_eq_true rfl) ⟨Nat.le_of_ble_eq_true rfl, Nat.le_of_ble_eq_true rfl⟩ (c_X9_bad v0 (-2 : Int32) h p5 ep5) ?_
  show mj_W mX9_hold (mj_FI p) 26 [(0, .ref v0)] [.int p5.1] p5.2 0 0
  obtain rfl := Option.some.inj hf
  exact mj_end (some (.int p5.1)) ⟨mj_dec tok_X9_hold (a := 13) rfl, .int, rfl, rfl⟩ ⟨rfl, rfl⟩ (Nat.le_of_ble_eq_true rfl) (Nat.le_of_ble_eq_true rfl)
def f_X9_hold (v0 : Nat) (v1 : Int32) (v2 : Int32) (h : mj_H) : Option (Int32 × mj_H) := (if mj_ob h v0 9 = true then (f_X9_areMen v0 v1 h).bind fun p6 => (if p6.1 = 0 then f_X9_hold_20 v0 p6.2 else (f_X9_in ((v2).toInt64) (0 : Int64) (6 : Int64) p6.2).bind fun p7 => (if p7.1 = 0 then f_X9_hold_20 v0 p7.2 else f_X9_hold_32 v0 v1 v2 (1 : Int64) (0 : Int32) p7.2)) else none)
set_option maxHeartbeats 4000000 in
set_option maxRecDepth 100000 in
theorem c_X9_hold (v0 : Nat) (v1 : Int32) (v2 : Int32) (h : mj_H) (p : Int32 × mj_H) (hf : f_X9_hold v0 v1 v2 h = some p) : mj_Met mX9_hold [.ref v0, .int v1, .int v2] h (some (.int p.1)) p.2 := by
  refine mj_met pl_X9 tok_X9_hold (Nat.le_of_ble_eq_true rfl) ?_
  show mj_W mX9_hold (mj_FI p) 0 [(0, .ref v0), (1, .int v1), (2, .int v2)] [] h 0 0
  unfold f_X9_hold at hf
  refine mj_blk k_X9_ok 0 2 (pc' := 2) (l' := [(0, .ref v0), (1, .int v1), (2, .int v2)]) (st' := [.int v1, .ref v0]) rfl ?_
  obtain ⟨gp6, hf⟩ := mj_gd hf
  obtain ⟨p6, ep6, hf⟩ := mj_bd hf
  refine mj_callV (T := TX9) (N := 20) (ci := 9) mX9_areMen [.int v1] 2 rfl ll_X9_214 lb_X9_areMen li_X9_areMen ⟨Nat.le_of_ble_eq_true rfl, Nat.le_of_ble_eq_true rfl⟩ rfl gp6 rfl (rest := []) rfl (Nat.le_of_ble_eq_true rfl) ⟨Nat.le_of_ble_eq_true rfl, Nat.le_of_ble_eq_true rfl⟩ (c_X9_areMen v0 v1 h p6 ep6) ?_
  show mj_W mX9_hold (mj_FI p) 5 [(0, .ref v0), (1, .int v1), (2, .int v2)] [.int p6.1] p6.2 0 0
  refine mj_if_eq 3 20 rfl (by decide) (fun q => ?_) (fun q => ?_)
  · have hf := (if_pos q).symm.trans hf
    refine mj_locs [0] (l' := [(0, .ref v0)]) rfl ?_
    exact w_X9_hold_20 v0 p6.2 _ hf
  · have hf := (if_neg q).symm.trans hf
    refine mj_blk k_X9_ok 4 4 (pc' := 14) (l' := [(0, .ref v0), (1, .int v1), (2, .int v2)]) (st' := [.long (6 : Int64), .long (0 : Int64), .long ((v2).toInt64)]) rfl ?_
    obtain ⟨p7, ep7, hf⟩ := mj_bd hf
    refine mj_callS mX9_in [.long ((v2).toInt64), .long (0 : Int64), .long (6 : Int64)] 8 rfl ll_X9_53 lb_X9_in li_X9_in ⟨Nat.le_of_ble_eq_true rfl, Nat.le_of_ble_eq_true rfl⟩ rfl (rest := []) rfl (Nat.le_of_ble_eq_true rfl) ⟨Nat.le_of_ble_eq_true rfl, Nat.le_of_ble_eq_true rfl⟩ (c_X9_in ((v2).toInt64) (0 : Int64) (6 : Int64) p6.2 p7 ep7) ?_
    show mj_W mX9_hold (mj_FI p) 17 [(0, .ref v0), (1, .int v1), (2, .int v2)] [.int p7.1] p7.2 0 0
    refine mj_if_ne 9 27 rfl (by decide) (fun q => ?_) (fun q => ?_)
    · have hf := (if_neg q).symm.trans hf
      refine mj_blk k_X9_ok 14 4 (pc' := 32) (l' := [(5, .int (0 : Int32)), (3, .long (1 : Int64)), (0, .ref v0), (1, .int v1), (2, .int v2)]) (st' := []) rfl ?_
      refine mj_locs [2, 3, 4, 1, 0] (l' := [(0, .ref v0), (1, .int v1), (2, .int v2), (3, .long (1 : Int64)), (5, .int (0 : Int32))]) rfl ?_
      exact w_X9_hold_32 v0 v1 v2 (1 : Int64) (0 : Int32) p7.2 _ hf
    · have hf := (if_pos q).symm.trans hf
      refine mj_locs [0] (l' := [(0, .ref v0)]) rfl ?_
      exact w_X9_hold_20 v0 p7.2 _ hf
def f_X9_keepOn_78 (K11 : Nat → Nat → Int32 → Int32 → Int32 → Int64 → Int32 → mj_H → Option (Int32 × mj_H)) (v0 : Nat) (v1 : Nat) (v2 : Int32) (v3 : Int32) (v4 : Int32) (v7 : Int32) (s0 : Int64) (h : mj_H) : Option (Int32 × mj_H) := K11 v0 v1 v2 v3 v4 s0 (v7 + (1 : Int32)) h
set_option maxHeartbeats 4000000 in
set_option maxRecDepth 100000 in
theorem w_X9_keepOn_78 (K11 : Nat → Nat → Int32 → Int32 → Int32 → Int64 → Int32 → mj_H → Option (Int32 × mj_H)) (hK11 : ∀ (v0 : Nat) (v1 : Nat) (v2 : Int32) (v3 : Int32) (v4 : Int32) (v5 : Int64) (v7 : Int32)  (h : mj_H) (p : Int32 × mj_H), K11 v0 v1 v2 v3 v4 v5 v7 h = some p → mj_W mX9_keepOn (mj_FI p) 11 [(0, .ref v0), (1, .ref v1), (2, .int v2), (3, .int v3), (4, .int v4), (5, .long v5), (7, .int v7)] [] h 0 0) (v0 : Nat) (v1 : Nat) (v2 : Int32) (v3 : Int32) (v4 : Int32) (v7 : Int32) (s0 : Int64) (h : mj_H) (p : Int32 × mj_H) (hf : f_X9_keepOn_78 K11 v0 v1 v2 v3 v4 v7 s0 h = some p) : mj_W mX9_keepOn (mj_FI p) 78 [(0, .ref v0), (1, .ref v1), (2, .int v2), (3, .int v3), (4, .int v4), (7, .int v7)] [.long s0] h 0 0 := by
  unfold f_X9_keepOn_78 at hf
  refine mj_blk k_X9_ok 40 3 (pc' := 11) (l' := [(7, .int (v7 + (1 : Int32))), (5, .long s0), (0, .ref v0), (1, .ref v1), (2, .int v2), (3, .int v3), (4, .int v4)]) (st' := []) rfl ?_
  refine mj_locs [2, 3, 4, 5, 6, 1, 0] (l' := [(0, .ref v0), (1, .ref v1), (2, .int v2), (3, .int v3), (4, .int v4), (5, .long s0), (7, .int (v7 + (1 : Int32)))]) rfl ?_
  exact hK11 v0 v1 v2 v3 v4 s0 (v7 + (1 : Int32)) h _ hf
def f_X9_keepOn_61 (K11 : Nat → Nat → Int32 → Int32 → Int32 → Int64 → Int32 → mj_H → Option (Int32 × mj_H)) (v0 : Nat) (v1 : Nat) (v2 : Int32) (v3 : Int32) (v5 : Int64) (v7 : Int32) (v8 : Int64) (s0 : Int32) (h : mj_H) : Option (Int32 × mj_H) := (if v8 ≤ v5 then f_X9_keepOn_78 K11 v0 v1 v2 v3 s0 v7 v5 h else f_X9_keepOn_78 K11 v0 v1 v2 v3 s0 v7 v8 h)
set_option maxHeartbeats 4000000 in
set_option maxRecDepth 100000 in
theorem w_X9_keepOn_61 (K11 : Nat → Nat → Int32 → Int32 → Int32 → Int64 → Int32 → mj_H → Option (Int32 × mj_H)) (hK11 : ∀ (v0 : Nat) (v1 : Nat) (v2 : Int32) (v3 : Int32) (v4 : Int32) (v5 : Int64) (v7 : Int32)  (h : mj_H) (p : Int32 × mj_H), K11 v0 v1 v2 v3 v4 v5 v7 h = some p → mj_W mX9_keepOn (mj_FI p) 11 [(0, .ref v0), (1, .ref v1), (2, .int v2), (3, .int v3), (4, .int v4), (5, .long v5), (7, .int v7)] [] h 0 0) (v0 : Nat) (v1 : Nat) (v2 : Int32) (v3 : Int32) (v5 : Int64) (v7 : Int32) (v8 : Int64) (s0 : Int32) (h : mj_H) (p : Int32 × mj_H) (hf : f_X9_keepOn_61 K11 v0 v1 v2 v3 v5 v7 v8 s0 h = some p) : mj_W mX9_keepOn (mj_FI p) 61 [(0, .ref v0), (1, .ref v1), (2, .int v2), (3, .int v3), (5, .long v5), (7, .int v7), (8, .long v8)] [.int s0] h 0 0 := by
  unfold f_X9_keepOn_61 at hf
  refine mj_blk k_X9_ok 32 3 (pc' := 67) (l' := [(4, .int s0), (0, .ref v0), (1, .ref v1), (2, .int v2), (3, .int v3), (5, .long v5), (7, .int v7), (8, .long v8)]) (st' := [.long v5, .long v8]) rfl ?_
  refine mj_lcmp_le 35 76 rfl rfl (by decide) (fun q => ?_) (fun q => ?_)
  · have hf := (if_pos q).symm.trans hf
    refine mj_blk k_X9_ok 39 1 (pc' := 78) (l' := [(4, .int s0), (0, .ref v0), (1, .ref v1), (2, .int v2), (3, .int v3), (5, .long v5), (7, .int v7), (8, .long v8)]) (st' := [.long v5]) rfl ?_
    refine mj_locs [1, 2, 3, 4, 0, 6] (l' := [(0, .ref v0), (1, .ref v1), (2, .int v2), (3, .int v3), (4, .int s0), (7, .int v7)]) rfl ?_
    exact w_X9_keepOn_78 K11 hK11 v0 v1 v2 v3 s0 v7 v5 h _ hf
  · have hf := (if_neg q).symm.trans hf
    refine mj_blk k_X9_ok 37 2 (pc' := 78) (l' := [(4, .int s0), (0, .ref v0), (1, .ref v1), (2, .int v2), (3, .int v3), (5, .long v5), (7, .int v7), (8, .long v8)]) (st' := [.long v8]) rfl ?_
    refine mj_locs [1, 2, 3, 4, 0, 6] (l' := [(0, .ref v0), (1, .ref v1), (2, .int v2), (3, .int v3), (4, .int s0), (7, .int v7)]) rfl ?_
    exact w_X9_keepOn_78 K11 hK11 v0 v1 v2 v3 s0 v7 v8 h _ hf
def f_X9_keepOn_44 (K11 : Nat → Nat → Int32 → Int32 → Int32 → Int64 → Int32 → mj_H → Option (Int32 × mj_H)) (v0 : Nat) (v1 : Nat) (v2 : Int32) (v3 : Int32) (v4 : Int32) (v5 : Int64) (v7 : Int32) (s0 : Int64) (h : mj_H) : Option (Int32 × mj_H) := (if s0 ≤ v5 then f_X9_keepOn_61 K11 v0 v1 v2 v3 v5 v7 s0 v4 h else f_X9_keepOn_61 K11 v0 v1 v2 v3 v5 v7 s0 v7 h)
set_option maxHeartbeats 4000000 in
set_option maxRecDepth 100000 in
theorem w_X9_keepOn_44 (K11 : Nat → Nat → Int32 → Int32 → Int32 → Int64 → Int32 → mj_H → Option (Int32 × mj_H)) (hK11 : ∀ (v0 : Nat) (v1 : Nat) (v2 : Int32) (v3 : Int32) (v4 : Int32) (v5 : Int64) (v7 : Int32)  (h : mj_H) (p : Int32 × mj_H), K11 v0 v1 v2 v3 v4 v5 v7 h = some p → mj_W mX9_keepOn (mj_FI p) 11 [(0, .ref v0), (1, .ref v1), (2, .int v2), (3, .int v3), (4, .int v4), (5, .long v5), (7, .int v7)] [] h 0 0) (v0 : Nat) (v1 : Nat) (v2 : Int32) (v3 : Int32) (v4 : Int32) (v5 : Int64) (v7 : Int32) (s0 : Int64) (h : mj_H) (p : Int32 × mj_H) (hf : f_X9_keepOn_44 K11 v0 v1 v2 v3 v4 v5 v7 s0 h = some p) : mj_W mX9_keepOn (mj_FI p) 44 [(0, .ref v0), (1, .ref v1), (2, .int v2), (3, .int v3), (4, .int v4), (5, .long v5), (7, .int v7)] [.long s0] h 0 0 := by
  unfold f_X9_keepOn_44 at hf
  refine mj_blk k_X9_ok 24 3 (pc' := 50) (l' := [(8, .long s0), (0, .ref v0), (1, .ref v1), (2, .int v2), (3, .int v3), (4, .int v4), (5, .long v5), (7, .int v7)]) (st' := [.long v5, .long s0]) rfl ?_
  refine mj_lcmp_le 27 59 rfl rfl (by decide) (fun q => ?_) (fun q => ?_)
  · have hf := (if_pos q).symm.trans hf
    refine mj_blk k_X9_ok 31 1 (pc' := 61) (l' := [(8, .long s0), (0, .ref v0), (1, .ref v1), (2, .int v2), (3, .int v3), (4, .int v4), (5, .long v5), (7, .int v7)]) (st' := [.int v4]) rfl ?_
    refine mj_locs [1, 2, 3, 4, 6, 7, 0] (l' := [(0, .ref v0), (1, .ref v1), (2, .int v2), (3, .int v3), (5, .long v5), (7, .int v7), (8, .long s0)]) rfl ?_
    exact w_X9_keepOn_61 K11 hK11 v0 v1 v2 v3 v5 v7 s0 v4 h _ hf
  · have hf := (if_neg q).symm.trans hf
    refine mj_blk k_X9_ok 29 2 (pc' := 61) (l' := [(8, .long s0), (0, .ref v0), (1, .ref v1), (2, .int v2), (3, .int v3), (4, .int v4), (5, .long v5), (7, .int v7)]) (st' := [.int v7]) rfl ?_
    refine mj_locs [1, 2, 3, 4, 6, 7, 0] (l' := [(0, .ref v0), (1, .ref v1), (2, .int v2), (3, .int v3), (5, .long v5), (7, .int v7), (8, .long s0)]) rfl ?_
    exact w_X9_keepOn_61 K11 hK11 v0 v1 v2 v3 v5 v7 s0 v7 h _ hf
def b_X9_keepOn_11 (K11 : Nat → Nat → Int32 → Int32 → Int32 → Int64 → Int32 → mj_H → Option (Int32 × mj_H)) (v0 : Nat) (v1 : Nat) (v2 : Int32) (v3 : Int32) (v4 : Int32) (v5 : Int64) (v7 : Int32) (h : mj_H) : Option (Int32 × mj_H) := (mj_aI h v1 (0 : Int32)).bind fun x1 => (if ((1 : Int32) <<< (x1 &&& 31)) ≤ v7 then some (v4, h) else (f_X9_bits v7 h).bind fun p2 => (if p2.1 = v2 then (if mj_ob p2.2 v0 9 = true then (f_X9_holdOn v0 v1 v7 v3 p2.2).bind fun p3 => f_X9_keepOn_44 K11 v0 v1 v2 v3 v4 v5 v7 p3.1 p3.2 else none) else f_X9_keepOn_44 K11 v0 v1 v2 v3 v4 v5 v7 (-1 : Int64) p2.2))
set_option maxHeartbeats 4000000 in
set_option maxRecDepth 100000 in
theorem wb_X9_keepOn_11 (K11 : Nat → Nat → Int32 → Int32 → Int32 → Int64 → Int32 → mj_H → Option (Int32 × mj_H)) (hK11 : ∀ (v0 : Nat) (v1 : Nat) (v2 : Int32) (v3 : Int32) (v4 : Int32) (v5 : Int64) (v7 : Int32)  (h : mj_H) (p : Int32 × mj_H), K11 v0 v1 v2 v3 v4 v5 v7 h = some p → mj_W mX9_keepOn (mj_FI p) 11 [(0, .ref v0), (1, .ref v1), (2, .int v2), (3, .int v3), (4, .int v4), (5, .long v5), (7, .int v7)] [] h 0 0) (v0 : Nat) (v1 : Nat) (v2 : Int32) (v3 : Int32) (v4 : Int32) (v5 : Int64) (v7 : Int32) (h : mj_H) (p : Int32 × mj_H) (hf : b_X9_keepOn_11  K11 v0 v1 v2 v3 v4 v5 v7 h = some p) : mj_W mX9_keepOn (mj_FI p) 11 [(0, .ref v0), (1, .ref v1), (2, .int v2), (3, .int v3), (4, .int v4), (5, .long v5), (7, .int v7)] [] h 0 0 := by
  unfold b_X9_keepOn_11 at hf
  refine mj_blk k_X9_ok 6 4 (pc' := 16) (l' := [(0, .ref v0), (1, .ref v1), (2, .int v2), (3, .int v3), (4, .int v4), (5, .long v5), (7, .int v7)]) (st' := [.int (0 : Int32), .ref v1, .int (1 : Int32), .int v7]) rfl ?_
  obtain ⟨x1, ex1, hf⟩ := mj_bd hf
  refine mj_iald 10 rfl ex1 ?_
  refine mj_blk k_X9_ok 11 1 (pc' := 18) (l' := [(0, .ref v0), (1, .ref v1), (2, .int v2), (3, .int v3), (4, .int v4), (5, .long v5), (7, .int v7)]) (st' := [.int ((1 : Int32) <<< (x1 &&& 31)), .int v7]) rfl ?_
  refine mj_icmp_ge 12 86 rfl (by decide) (fun q => ?_) (fun q => ?_)
  · have hf := (if_pos q).symm.trans hf
    refine mj_blk k_X9_ok 43 1 (pc' := 88) (l' := [(0, .ref v0), (1, .ref v1), (2, .int v2), (3, .int v3), (4, .int v4), (5, .long v5), (7, .int v7)]) (st' := [.int v4]) rfl ?_
    obtain rfl := Option.some.inj hf
    exact mj_end (some (.int v4)) ⟨mj_dec tok_X9_keepOn (a := 44) rfl, .int, rfl, rfl⟩ ⟨rfl, rfl⟩ (Nat.le_of_ble_eq_true rfl) (Nat.le_of_ble_eq_true rfl)
  · have hf := (if_neg q).symm.trans hf
    refine mj_blk k_X9_ok 13 1 (pc' := 23) (l' := [(0, .ref v0), (1, .ref v1), (2, .int v2), (3, .int v3), (4, .int v4), (5, .long v5), (7, .int v7)]) (st' := [.int v7]) rfl ?_
    obtain ⟨p2, ep2, hf⟩ := mj_bd hf
    refine mj_callS mX9_bits [.int v7] 14 rfl ll_X9_219 lb_X9_bits li_X9_bits ⟨Nat.le_of_ble_eq_true rfl, Nat.le_of_ble_eq_true rfl⟩ rfl (rest := []) rfl (Nat.le_of_ble_eq_true rfl) ⟨Nat.le_of_ble_eq_true rfl, Nat.le_of_ble_eq_true rfl⟩ (c_X9_bits v7 h p2 ep2) ?_
    show mj_W mX9_keepOn (mj_FI p) 26 [(0, .ref v0), (1, .ref v1), (2, .int v2), (3, .int v3), (4, .int v4), (5, .long v5), (7, .int v7)] [.int p2.1] p2.2 0 0
    refine mj_blk k_X9_ok 15 1 (pc' := 27) (l' := [(0, .ref v0), (1, .ref v1), (2, .int v2), (3, .int v3), (4, .int v4), (5, .long v5), (7, .int v7)]) (st' := [.int v2, .int p2.1]) rfl ?_
    refine mj_icmp_ne 16 41 rfl (by decide) (fun q => ?_) (fun q => ?_)
    · have hf := (if_neg q).symm.trans hf
      refine mj_blk k_X9_ok 23 1 (pc' := 44) (l' := [(0, .ref v0), (1, .ref v1), (2, .int v2), (3, .int v3), (4, .int v4), (5, .long v5), (7, .int v7)]) (st' := [.long (-1 : Int64)]) rfl ?_
      exact w_X9_keepOn_44 K11 hK11 v0 v1 v2 v3 v4 v5 v7 (-1 : Int64) p2.2 _ hf
    · have hf := (if_pos q).symm.trans hf
      refine mj_blk k_X9_ok 17 4 (pc' := 35) (l' := [(0, .ref v0), (1, .ref v1), (2, .int v2), (3, .int v3), (4, .int v4), (5, .long v5), (7, .int v7)]) (st' := [.int v3, .int v7, .ref v1, .ref v0]) rfl ?_
      obtain ⟨gp3, hf⟩ := mj_gd hf
      obtain ⟨p3, ep3, hf⟩ := mj_bd hf
      refine mj_callV (T := TX9) (N := 20) (ci := 9) mX9_holdOn [.ref v1, .int v7, .int v3] 21 rfl ll_X9_222 lb_X9_holdOn li_X9_holdOn ⟨Nat.le_of_ble_eq_true rfl, Nat.le_of_ble_eq_true rfl⟩ rfl gp3 rfl (rest := []) rfl (Nat.le_of_ble_eq_true rfl) ⟨Nat.le_of_ble_eq_true rfl, Nat.le_of_ble_eq_true rfl⟩ (c_X9_holdOn v0 v1 v7 v3 p2.2 p3 ep3) ?_
      show mj_W mX9_keepOn (mj_FI p) 38 [(0, .ref v0), (1, .ref v1), (2, .int v2), (3, .int v3), (4, .int v4), (5, .long v5), (7, .int v7)] [.long p3.1] p3.2 0 0
      refine mj_blk k_X9_ok 22 1 (pc' := 44) (l' := [(0, .ref v0), (1, .ref v1), (2, .int v2), (3, .int v3), (4, .int v4), (5, .long v5), (7, .int v7)]) (st' := [.long p3.1]) rfl ?_
      exact w_X9_keepOn_44 K11 hK11 v0 v1 v2 v3 v4 v5 v7 p3.1 p3.2 _ hf
def f_X9_keepOn_11 (v0 : Nat) (v1 : Nat) (v2 : Int32) (v3 : Int32) (v4 : Int32) (v5 : Int64) (v7 : Int32) (h : mj_H) : Option (Int32 × mj_H) := mj_fix (fun (K11 : (Nat × Nat × Int32 × Int32 × Int32 × Int64 × Int32 × mj_H) → Option (Int32 × mj_H)) (s : Nat × Nat × Int32 × Int32 × Int32 × Int64 × Int32 × mj_H) => b_X9_keepOn_11  (fun v0 v1 v2 v3 v4 v5 v7 h => K11 (v0, v1, v2, v3, v4, v5, v7, h)) s.1 s.2.1 s.2.2.1 s.2.2.2.1 s.2.2.2.2.1 s.2.2.2.2.2.1 s.2.2.2.2.2.2.1 s.2.2.2.2.2.2.2) 1000 (v0, v1, v2, v3, v4, v5, v7, h)
set_option maxHeartbeats 4000000 in
set_option maxRecDepth 100000 in
theorem w_X9_keepOn_11 (v0 : Nat) (v1 : Nat) (v2 : Int32) (v3 : Int32) (v4 : Int32) (v5 : Int64) (v7 : Int32) (h : mj_H) (p : Int32 × mj_H) (hf : f_X9_keepOn_11  v0 v1 v2 v3 v4 v5 v7 h = some p) : mj_W mX9_keepOn (mj_FI p) 11 [(0, .ref v0), (1, .ref v1), (2, .int v2), (3, .int v3), (4, .int v4), (5, .long v5), (7, .int v7)] [] h 0 0 := by
  unfold f_X9_keepOn_11 at hf
  exact mj_fix_ind (F := (fun (K11 : (Nat × Nat × Int32 × Int32 × Int32 × Int64 × Int32 × mj_H) → Option (Int32 × mj_H)) (s : Nat × Nat × Int32 × Int32 × Int32 × Int64 × Int32 × mj_H) => b_X9_keepOn_11  (fun v0 v1 v2 v3 v4 v5 v7 h => K11 (v0, v1, v2, v3, v4, v5, v7, h)) s.1 s.2.1 s.2.2.1 s.2.2.2.1 s.2.2.2.2.1 s.2.2.2.2.2.1 s.2.2.2.2.2.2.1 s.2.2.2.2.2.2.2)) (P := fun s p => mj_W mX9_keepOn (mj_FI p) 11 [(0, .ref s.1), (1, .ref s.2.1), (2, .int s.2.2.1), (3, .int s.2.2.2.1), (4, .int s.2.2.2.2.1), (5, .long s.2.2.2.2.2.1), (7, .int s.2.2.2.2.2.2.1)] [] s.2.2.2.2.2.2.2 0 0) (fun K11 hK11 s p hf => wb_X9_keepOn_11   (fun v0 v1 v2 v3 v4 v5 v7 h => K11 (v0, v1, v2, v3, v4, v5, v7, h)) (fun v0 v1 v2 v3 v4 v5 v7 h p e => hK11 (v0, v1, v2, v3, v4, v5, v7, h) p e) s.1 s.2.1 s.2.2.1 s.2.2.2.1 s.2.2.2.2.1 s.2.2.2.2.2.1 s.2.2.2.2.2.2.1 s.2.2.2.2.2.2.2 p hf) 1000 (v0, v1, v2, v3, v4, v5, v7, h) p hf
def f_X9_keepOn (v0 : Nat) (v1 : Nat) (v2 : Int32) (v3 : Int32) (h : mj_H) : Option (Int32 × mj_H) := f_X9_keepOn_11 v0 v1 v2 v3 (-1 : Int32) (-1 : Int64) (0 : Int32) h
set_option maxHeartbeats 4000000 in
set_option maxRecDepth 100000 in
theorem c_X9_keepOn (v0 : Nat) (v1 : Nat) (v2 : Int32) (v3 : Int32) (h : mj_H) (p : Int32 × mj_H) (hf : f_X9_keepOn v0 v1 v2 v3 h = some p) : mj_Met mX9_keepOn [.ref v0, .ref v1, .int v2, .int v3] h (some (.int p.1)) p.2 := by
  refine mj_met pl_X9 tok_X9_keepOn (Nat.le_of_ble_eq_true rfl) ?_
  show mj_W mX9_keepOn (mj_FI p) 0 [(0, .ref v0), (1, .ref v1), (2, .int v2), (3, .int v3)] [] h 0 0
  unfold f_X9_keepOn at hf
  refine mj_blk k_X9_ok 0 6 (pc' := 11) (l' := [(7, .int (0 : Int32)), (5, .long (-1 : Int64)), (4, .int (-1 : Int32)), (0, .ref v0), (1, .ref v1), (2, .int v2), (3, .int v3)]) (st' := []) rfl ?_
  refine mj_locs [3, 4, 5, 6, 2, 1, 0] (l' := [(0, .ref v0), (1, .ref v1), (2, .int v2), (3, .int v3), (4, .int (-1 : Int32)), (5, .long (-1 : Int64)), (7, .int (0 : Int32))]) rfl ?_
  exact w_X9_keepOn_11 v0 v1 v2 v3 (-1 : Int32) (-1 : Int64) (0 : Int32) h _ hf
def f_X9_keep_37 (v0 : Nat) (h : mj_H) : Option (Int32 × mj_H) := (if mj_ob h v0 9 = true then (f_X9_bad v0 (-10 : Int32) h).bind fun p1 => some (p1.1, p1.2) else none)
set_option maxHeartbeats 4000000 in
set_option maxRecDepth 100000 in
theorem w_X9_keep_37 (v0 : Nat) (h : mj_H) (p : Int32 × mj_H) (hf : f_X9_keep_37  v0 h = some p) : mj_W mX9_keep (mj_FI p) 37 [(0, .ref v0)] [] h 0 0 := by
  unfold f_X9_keep_37 at hf
  refine mj_blk k_X9_ok 19 2 (pc' := 40) (l' := [(0, .ref v0)]) (st' := [.int (-10 : Int32), .ref v0]) rfl ?_
  obtain ⟨gp1, hf⟩ := mj_gd hf
  obtain ⟨p1, ep1, hf⟩ := mj_bd hf
  refine mj_callV (T := TX9) (N := 20) (ci := 9) mX9_bad [.int (-10 : Int32)] 21 rfl ll_X9_75 lb_X9_bad li_X9_bad ⟨Nat.le_of_ble_eq_true rfl, Nat.le_of_ble_eq_true rfl⟩ rfl gp1 rfl (rest := []) rfl (Nat.le_of_ble_eq_true rfl) ⟨Nat.le_of_ble_eq_true rfl, Nat.le_of_ble_eq_true rfl⟩ (c_X9_bad v0 (-10 : Int32) h p1 ep1) ?_
  show mj_W mX9_keep (mj_FI p) 43 [(0, .ref v0)] [.int p1.1] p1.2 0 0
  obtain rfl := Option.some.inj hf
  exact mj_end (some (.int p1.1)) ⟨mj_dec tok_X9_keep (a := 22) rfl, .int, rfl, rfl⟩ ⟨rfl, rfl⟩ (Nat.le_of_ble_eq_true rfl) (Nat.le_of_ble_eq_true rfl)
def f_X9_keep (v0 : Nat) (v1 : Int32) (v2 : Int32) (h : mj_H) : Option (Int32 × mj_H) := (f_X9_in ((v1).toInt64) (0 : Int64) (6 : Int64) h).bind fun p2 => (if p2.1 = 0 then f_X9_keep_37 v0 p2.2 else (f_X9_in ((v2).toInt64) (0 : Int64) (6 : Int64) p2.2).bind fun p3 => (if p3.1 = 0 then f_X9_keep_37 v0 p3.2 else (mj_gR p3.2 v0 9 0).bind fun x4 => (if mj_ob p3.2 v0 9 = true then (f_X9_keepOn v0 x4 v1 v2 p3.2).bind fun p5 => some (p5.1, p5.2) else none)))
set_option maxHeartbeats 4000000 in
set_option maxRecDepth 100000 in
theorem c_X9_keep (v0 : Nat) (v1 : Int32) (v2 : Int32) (h : mj_H) (p : Int32 × mj_H) (hf : f_X9_keep v0 v1 v2 h = some p) : mj_Met mX9_keep [.ref v0, .int v1, .int v2] h (some (.int p.1)) p.2 := by
  refine mj_met pl_X9 tok_X9_keep (Nat.le_of_ble_eq_true rfl) ?_
  show mj_W mX9_keep (mj_FI p) 0 [(0, .ref v0), (1, .int v1), (2, .int v2)] [] h 0 0
  unfold f_X9_keep at hf
  refine mj_blk k_X9_ok 0 4 (pc' := 6) (l' := [(0, .ref v0), (1, .int v1), (2, .int v2)]) (st' := [.long (6 : Int64), .long (0 : Int64), .long ((v1).toInt64)]) rfl ?_
  obtain ⟨p2, ep2, hf⟩ := mj_bd hf
  refine mj_callS mX9_in [.long ((v1).toInt64), .long (0 : Int64), .long (6 : Int64)] 4 rfl ll_X9_53 lb_X9_in li_X9_in ⟨Nat.le_of_ble_eq_true rfl, Nat.le_of_ble_eq_true rfl⟩ rfl (rest := []) rfl (Nat.le_of_ble_eq_true rfl) ⟨Nat.le_of_ble_eq_true rfl, Nat.le_of_ble_eq_true rfl⟩ (c_X9_in ((v1).toInt64) (0 : Int64) (6 : Int64) h p2 ep2) ?_
  show mj_W mX9_keep (mj_FI p) 9 [(0, .ref v0), (1, .int v1), (2, .int v2)] [.int p2.1] p2.2 0 0
  refine mj_if_eq 5 37 rfl (by decide) (fun q => ?_) (fun q => ?_)
  · have hf := (if_pos q).symm.trans hf
    refine mj_locs [0] (l' := [(0, .ref v0)]) rfl ?_
    exact w_X9_keep_37 v0 p2.2 _ hf
  · have hf := (if_neg q).symm.trans hf
    refine mj_blk k_X9_ok 6 4 (pc' := 18) (l' := [(0, .ref v0), (1, .int v1), (2, .int v2)]) (st' := [.long (6 : Int64), .long (0 : Int64), .long ((v2).toInt64)]) rfl ?_
    obtain ⟨p3, ep3, hf⟩ := mj_bd hf
    refine mj_callS mX9_in [.long ((v2).toInt64), .long (0 : Int64), .long (6 : Int64)] 10 rfl ll_X9_53 lb_X9_in li_X9_in ⟨Nat.le_of_ble_eq_true rfl, Nat.le_of_ble_eq_true rfl⟩ rfl (rest := []) rfl (Nat.le_of_ble_eq_true rfl) ⟨Nat.le_of_ble_eq_true rfl, Nat.le_of_ble_eq_true rfl⟩ (c_X9_in ((v2).toInt64) (0 : Int64) (6 : Int64) p2.2 p3 ep3) ?_
    show mj_W mX9_keep (mj_FI p) 21 [(0, .ref v0), (1, .int v1), (2, .int v2)] [.int p3.1] p3.2 0 0
    refine mj_if_eq 11 37 rfl (by decide) (fun q => ?_) (fun q => ?_)
    · have hf := (if_pos q).symm.trans hf
      refine mj_locs [0] (l' := [(0, .ref v0)]) rfl ?_
      exact w_X9_keep_37 v0 p3.2 _ hf
    · have hf := (if_neg q).symm.trans hf
      refine mj_blk k_X9_ok 12 2 (pc' := 26) (l' := [(0, .ref v0), (1, .int v1), (2, .int v2)]) (st' := [.ref v0, .ref v0]) rfl ?_
      obtain ⟨x4, ex4, hf⟩ := mj_bd hf
      refine mj_get 14 rfl fl_X9_7 (mj_gR_V ex4) ?_
      refine mj_blk k_X9_ok 15 2 (pc' := 31) (l' := [(0, .ref v0), (1, .int v1), (2, .int v2)]) (st' := [.int v2, .int v1, .ref x4, .ref v0]) rfl ?_
      obtain ⟨gp5, hf⟩ := mj_gd hf
      obtain ⟨p5, ep5, hf⟩ := mj_bd hf
      refine mj_callV (T := TX9) (N := 20) (ci := 9) mX9_keepOn [.ref x4, .int v1, .int v2] 17 rfl ll_X9_230 lb_X9_keepOn li_X9_keepOn ⟨Nat.le_of_ble_eq_true rfl, Nat.le_of_ble_eq_true rfl⟩ rfl gp5 rfl (rest := []) rfl (Nat.le_of_ble_eq_true rfl) ⟨Nat.le_of_ble_eq_true rfl, Nat.le_of_ble_eq_true rfl⟩ (c_X9_keepOn v0 x4 v1 v2 p3.2 p5 ep5) ?_
      show mj_W mX9_keep (mj_FI p) 34 [(0, .ref v0), (1, .int v1), (2, .int v2)] [.int p5.1] p5.2 0 0
      refine mj_blk k_X9_ok 18 1 (pc' := 43) (l' := [(0, .ref v0), (1, .int v1), (2, .int v2)]) (st' := [.int p5.1]) rfl ?_
      obtain rfl := Option.some.inj hf
      exact mj_end (some (.int p5.1)) ⟨mj_dec tok_X9_keep (a := 22) rfl, .int, rfl, rfl⟩ ⟨rfl, rfl⟩ (Nat.le_of_ble_eq_true rfl) (Nat.le_of_ble_eq_true rfl)
def f_X9_layDay (v0 : Nat) (h : mj_H) : Option (mj_H) := (mj_gR h v0 9 0).bind fun x1 => (mj_gR h v0 9 18).bind fun x2 => (f_X9_copies x1 (0 : Int32) x2 (0 : Int32) (52 : Int32) h).bind fun p3 => some p3
set_option maxHeartbeats 4000000 in
set_option maxRecDepth 100000 in
theorem c_X9_layDay (v0 : Nat) (h : mj_H) (p : mj_H) (hf : f_X9_layDay v0 h = some p) : mj_Met mX9_layDay [.ref v0] h none p := by
  refine mj_met pl_X9 tok_X9_layDay (Nat.le_of_ble_eq_true rfl) ?_
  show mj_W mX9_layDay (mj_FV p) 0 [(0, .ref v0)] [] h 0 0
  unfold f_X9_layDay at hf
  refine mj_blk k_X9_ok 0 1 (pc' := 1) (l' := [(0, .ref v0)]) (st' := [.ref v0]) rfl ?_
  obtain ⟨x1, ex1, hf⟩ := mj_bd hf
  refine mj_get 1 rfl fl_X9_7 (mj_gR_V ex1) ?_
  refine mj_blk k_X9_ok 2 2 (pc' := 6) (l' := [(0, .ref v0)]) (st' := [.ref v0, .int (0 : Int32), .ref x1]) rfl ?_
  obtain ⟨x2, ex2, hf⟩ := mj_bd hf
  refine mj_get 4 rfl fl_X9_43 (mj_gR_V ex2) ?_
  refine mj_blk k_X9_ok 5 2 (pc' := 12) (l' := [(0, .ref v0)]) (st' := [.int (52 : Int32), .int (0 : Int32), .ref x2, .int (0 : Int32), .ref x1]) rfl ?_
  obtain ⟨p3, ep3, hf⟩ := mj_bd hf
  refine mj_callS mX9_copies [.ref x1, .int (0 : Int32), .ref x2, .int (0 : Int32), .int (52 : Int32)] 7 rfl ll_X9_59 lb_X9_copies li_X9_copies ⟨Nat.le_of_ble_eq_true rfl, Nat.le_of_ble_eq_true rfl⟩ rfl (rest := []) rfl (Nat.le_of_ble_eq_true rfl) ⟨Nat.le_of_ble_eq_true rfl, Nat.le_of_ble_eq_true rfl⟩ (c_X9_copies x1 (0 : Int32) x2 (0 : Int32) (52 : Int32) h p3 ep3) ?_
  show mj_W mX9_layDay (mj_FV p) 15 [(0, .ref v0)] [] p3 0 0
  obtain rfl := Option.some.inj hf
  exact mj_end none ⟨mj_dec tok_X9_layDay (a := 8) rfl, rfl⟩ ⟨rfl, rfl⟩ (Nat.le_of_ble_eq_true rfl) (Nat.le_of_ble_eq_true rfl)
def f_X9_behind (v0 : Nat) (v1 : Int32) (v2 : Int32) (v3 : Int32) (v4 : Int32) (v5 : Int32) (h : mj_H) : Option (Int64 × mj_H) := (if mj_ob h v0 9 = true then (f_X9_layDay v0 h).bind fun p1 => (mj_gR p1 v0 9 18).bind fun x2 => (f_X9_tests x2 v1 v2 v3 p1).bind fun p3 => (mj_gR p3 v0 9 18).bind fun x4 => (mj_gR p3 v0 9 18).bind fun x5 => (if mj_ob p3 v0 9 = true then (f_X9_keepOn v0 x5 v4 v5 p3).bind fun p6 => (if mj_ob p6.2 v0 9 = true then (f_X9_holdOn v0 x4 p6.1 v5 p6.2).bind fun p7 => some (p7.1, p7.2) else none) else none) else none)
set_option maxHeartbeats 4000000 in
set_option maxRecDepth 100000 in
theorem c_X9_behind (v0 : Nat) (v1 : Int32) (v2 : Int32) (v3 : Int32) (v4 : Int32) (v5 : Int32) (h : mj_H) (p : Int64 × mj_H) (hf : f_X9_behind v0 v1 v2 v3 v4 v5 h = some p) : mj_Met mX9_behind [.ref v0, .int v1, .int v2, .int v3, .int v4, .int v5] h (some (.long p.1)) p.2 := by
  refine mj_met pl_X9 tok_X9_behind (Nat.le_of_ble_eq_true rfl) ?_
  show mj_W mX9_behind (mj_FJ p) 0 [(0, .ref v0), (1, .int v1), (2, .int v2), (3, .int v3), (4, .int v4), (5, .int v5)] [] h 0 0
  unfold f_X9_behind at hf
  refine mj_blk k_X9_ok 0 1 (pc' := 1) (l' := [(0, .ref v0), (1, .int v1), (2, .int v2), (3, .int v3), (4, .int v4), (5, .int v5)]) (st' := [.ref v0]) rfl ?_
  obtain ⟨gp1, hf⟩ := mj_gd hf
  obtain ⟨p1, ep1, hf⟩ := mj_bd hf
  refine mj_callV (T := TX9) (N := 20) (ci := 9) mX9_layDay [] 1 rfl ll_X9_234 lb_X9_layDay li_X9_layDay ⟨Nat.le_of_ble_eq_true rfl, Nat.le_of_ble_eq_true rfl⟩ rfl gp1 rfl (rest := []) rfl (Nat.le_of_ble_eq_true rfl) ⟨Nat.le_of_ble_eq_true rfl, Nat.le_of_ble_eq_true rfl⟩ (c_X9_layDay v0 h p1 ep1) ?_
  show mj_W mX9_behind (mj_FJ p) 4 [(0, .ref v0), (1, .int v1), (2, .int v2), (3, .int v3), (4, .int v4), (5, .int v5)] [] p1 0 0
  refine mj_blk k_X9_ok 2 1 (pc' := 5) (l' := [(0, .ref v0), (1, .int v1), (2, .int v2), (3, .int v3), (4, .int v4), (5, .int v5)]) (st' := [.ref v0]) rfl ?_
  obtain ⟨x2, ex2, hf⟩ := mj_bd hf
  refine mj_get 3 rfl fl_X9_43 (mj_gR_V ex2) ?_
  refine mj_blk k_X9_ok 4 3 (pc' := 11) (l' := [(0, .ref v0), (1, .int v1), (2, .int v2), (3, .int v3), (4, .int v4), (5, .int v5)]) (st' := [.int v3, .int v2, .int v1, .ref x2]) rfl ?_
  obtain ⟨p3, ep3, hf⟩ := mj_bd hf
  refine mj_callS mX9_tests [.ref x2, .int v1, .int v2, .int v3] 7 rfl ll_X9_197 lb_X9_tests li_X9_tests ⟨Nat.le_of_ble_eq_true rfl, Nat.le_of_ble_eq_true rfl⟩ rfl (rest := []) rfl (Nat.le_of_ble_eq_true rfl) ⟨Nat.le_of_ble_eq_true rfl, Nat.le_of_ble_eq_true rfl⟩ (c_X9_tests x2 v1 v2 v3 p1 p3 ep3) ?_
  show mj_W mX9_behind (mj_FJ p) 14 [(0, .ref v0), (1, .int v1), (2, .int v2), (3, .int v3), (4, .int v4), (5, .int v5)] [] p3 0 0
  refine mj_blk k_X9_ok 8 2 (pc' := 16) (l' := [(0, .ref v0), (1, .int v1), (2, .int v2), (3, .int v3), (4, .int v4), (5, .int v5)]) (st' := [.ref v0, .ref v0]) rfl ?_
  obtain ⟨x4, ex4, hf⟩ := mj_bd hf
  refine mj_get 10 rfl fl_X9_43 (mj_gR_V ex4) ?_
  refine mj_blk k_X9_ok 11 2 (pc' := 21) (l' := [(0, .ref v0), (1, .int v1), (2, .int v2), (3, .int v3), (4, .int v4), (5, .int v5)]) (st' := [.ref v0, .ref v0, .ref x4, .ref v0]) rfl ?_
  obtain ⟨x5, ex5, hf⟩ := mj_bd hf
  refine mj_get 13 rfl fl_X9_43 (mj_gR_V ex5) ?_
  refine mj_blk k_X9_ok 14 2 (pc' := 28) (l' := [(0, .ref v0), (1, .int v1), (2, .int v2), (3, .int v3), (4, .int v4), (5, .int v5)]) (st' := [.int v5, .int v4, .ref x5, .ref v0, .ref x4, .ref v0]) rfl ?_
  obtain ⟨gp6, hf⟩ := mj_gd hf
  obtain ⟨p6, ep6, hf⟩ := mj_bd hf
  refine mj_callV (T := TX9) (N := 20) (ci := 9) mX9_keepOn [.ref x5, .int v4, .int v5] 16 rfl ll_X9_230 lb_X9_keepOn li_X9_keepOn ⟨Nat.le_of_ble_eq_true rfl, Nat.le_of_ble_eq_true rfl⟩ rfl gp6 rfl (rest := [.ref x4, .ref v0]) rfl (Nat.le_of_ble_eq_true rfl) ⟨Nat.le_of_ble_eq_true rfl, Nat.le_of_ble_eq_true rfl⟩ (c_X9_keepOn v0 x5 v4 v5 p3 p6 ep6) ?_
  show mj_W mX9_behind (mj_FJ p) 31 [(0, .ref v0), (1, .int v1), (2, .int v2), (3, .int v3), (4, .int v4), (5, .int v5)] [.int p6.1, .ref x4, .ref v0] p6.2 0 0
  refine mj_blk k_X9_ok 17 1 (pc' := 33) (l' := [(0, .ref v0), (1, .int v1), (2, .int v2), (3, .int v3), (4, .int v4), (5, .int v5)]) (st' := [.int v5, .int p6.1, .ref x4, .ref v0]) rfl ?_
  obtain ⟨gp7, hf⟩ := mj_gd hf
  obtain ⟨p7, ep7, hf⟩ := mj_bd hf
  refine mj_callV (T := TX9) (N := 20) (ci := 9) mX9_holdOn [.ref x4, .int p6.1, .int v5] 18 rfl ll_X9_222 lb_X9_holdOn li_X9_holdOn ⟨Nat.le_of_ble_eq_true rfl, Nat.le_of_ble_eq_true rfl⟩ rfl gp7 rfl (rest := []) rfl (Nat.le_of_ble_eq_true rfl) ⟨Nat.le_of_ble_eq_true rfl, Nat.le_of_ble_eq_true rfl⟩ (c_X9_holdOn v0 x4 p6.1 v5 p6.2 p7 ep7) ?_
  show mj_W mX9_behind (mj_FJ p) 36 [(0, .ref v0), (1, .int v1), (2, .int v2), (3, .int v3), (4, .int v4), (5, .int v5)] [.long p7.1] p7.2 0 0
  obtain rfl := Option.some.inj hf
  exact mj_end (some (.long p7.1)) ⟨mj_dec tok_X9_behind (a := 19) rfl, rfl⟩ ⟨rfl, rfl⟩ (Nat.le_of_ble_eq_true rfl) (Nat.le_of_ble_eq_true rfl)
def f_X9_worthOf (v0 : Nat) (v1 : Int32) (v2 : Int32) (v3 : Int32) (v4 : Int32) (h : mj_H) : Option (Int32 × mj_H) := (if mj_ob h v0 9 = true then (f_X9_showsOn v0 v1 v2 h).bind fun p1 => (if mj_ob p1.2 v0 9 = true then (f_X9_behind v0 v1 v2 (1 : Int32) v3 v4 p1.2).bind fun p2 => (if mj_ob p2.2 v0 9 = true then (f_X9_behind v0 v1 v2 (0 : Int32) v3 v4 p2.2).bind fun p3 => (mj_gR p3.2 v0 9 0).bind fun x4 => (mj_gR p3.2 v0 9 0).bind fun x5 => (if mj_ob p3.2 v0 9 = true then (f_X9_keepOn v0 x5 v3 v4 p3.2).bind fun p6 => (if mj_ob p6.2 v0 9 = true then (f_X9_holdOn v0 x4 p6.1 v4 p6.2).bind fun p7 => some ((((((((p1.1).toInt64) * p2.1) + (((((60 : Int32) - p1.1)).toInt64) * p3.1)) - ((60 : Int64) * p7.1))).toInt32), p7.2) else none) else none) else none) else none) else none)
set_option maxHeartbeats 4000000 in
set_option maxRecDepth 100000 in
theorem c_X9_worthOf (v0 : Nat) (v1 : Int32) (v2 : Int32) (v3 : Int32) (v4 : Int32) (h : mj_H) (p : Int32 × mj_H) (hf : f_X9_worthOf v0 v1 v2 v3 v4 h = some p) : mj_Met mX9_worthOf [.ref v0, .int v1, .int v2, .int v3, .int v4] h (some (.int p.1)) p.2 := by
  refine mj_met pl_X9 tok_X9_worthOf (Nat.le_of_ble_eq_true rfl) ?_
  show mj_W mX9_worthOf (mj_FI p) 0 [(0, .ref v0), (1, .int v1), (2, .int v2), (3, .int v3), (4, .int v4)] [] h 0 0
  unfold f_X9_worthOf at hf
  refine mj_blk k_X9_ok 0 3 (pc' := 3) (l' := [(0, .ref v0), (1, .int v1), (2, .int v2), (3, .int v3), (4, .int v4)]) (st' := [.int v2, .int v1, .ref v0]) rfl ?_
  obtain ⟨gp1, hf⟩ := mj_gd hf
  obtain ⟨p1, ep1, hf⟩ := mj_bd hf
  refine mj_callV (T := TX9) (N := 20) (ci := 9) mX9_showsOn [.int v1, .int v2] 3 rfl ll_X9_208 lb_X9_showsOn li_X9_showsOn ⟨Nat.le_of_ble_eq_true rfl, Nat.le_of_ble_eq_true rfl⟩ rfl gp1 rfl (rest := []) rfl (Nat.le_of_ble_eq_true rfl) ⟨Nat.le_of_ble_eq_true rfl, Nat.le_of_ble_eq_true rfl⟩ (c_X9_showsOn v0 v1 v2 h p1 ep1) ?_
  show mj_W mX9_worthOf (mj_FI p) 6 [(0, .ref v0), (1, .int v1), (2, .int v2), (3, .int v3), (4, .int v4)] [.int p1.1] p1.2 0 0
  refine mj_blk k_X9_ok 4 7 (pc' := 15) (l' := [(5, .int p1.1), (0, .ref v0), (1, .int v1), (2, .int v2), (3, .int v3), (4, .int v4)]) (st' := [.int v4, .int v3, .int (1 : Int32), .int v2, .int v1, .ref v0]) rfl ?_
  obtain ⟨gp2, hf⟩ := mj_gd hf
  obtain ⟨p2, ep2, hf⟩ := mj_bd hf
  refine mj_callV (T := TX9) (N := 20) (ci := 9) mX9_behind [.int v1, .int v2, .int (1 : Int32), .int v3, .int v4] 11 rfl ll_X9_237 lb_X9_behind li_X9_behind ⟨Nat.le_of_ble_eq_true rfl, Nat.le_of_ble_eq_true rfl⟩ rfl gp2 rfl (rest := []) rfl (Nat.le_of_ble_eq_true rfl) ⟨Nat.le_of_ble_eq_true rfl, Nat.le_of_ble_eq_true rfl⟩ (c_X9_behind v0 v1 v2 (1 : Int32) v3 v4 p1.2 p2 ep2) ?_
  show mj_W mX9_worthOf (mj_FI p) 18 [(5, .int p1.1), (0, .ref v0), (1, .int v1), (2, .int v2), (3, .int v3), (4, .int v4)] [.long p2.1] p2.2 0 0
  refine mj_blk k_X9_ok 12 7 (pc' := 27) (l' := [(6, .long p2.1), (5, .int p1.1), (0, .ref v0), (1, .int v1), (2, .int v2), (3, .int v3), (4, .int v4)]) (st' := [.int v4, .int v3, .int (0 : Int32), .int v2, .int v1, .ref v0]) rfl ?_
  obtain ⟨gp3, hf⟩ := mj_gd hf
  obtain ⟨p3, ep3, hf⟩ := mj_bd hf
  refine mj_callV (T := TX9) (N := 20) (ci := 9) mX9_behind [.int v1, .int v2, .int (0 : Int32), .int v3, .int v4] 19 rfl ll_X9_237 lb_X9_behind li_X9_behind ⟨Nat.le_of_ble_eq_true rfl, Nat.le_of_ble_eq_true rfl⟩ rfl gp3 rfl (rest := []) rfl (Nat.le_of_ble_eq_true rfl) ⟨Nat.le_of_ble_eq_true rfl, Nat.le_of_ble_eq_true rfl⟩ (c_X9_behind v0 v1 v2 (0 : Int32) v3 v4 p2.2 p3 ep3) ?_
  show mj_W mX9_worthOf (mj_FI p) 30 [(6, .long p2.1), (5, .int p1.1), (0, .ref v0), (1, .int v1), (2, .int v2), (3, .int v3), (4, .int v4)] [.long p3.1] p3.2 0 0
  refine mj_blk k_X9_ok 20 15 (pc' := 53) (l' := [(8, .long p3.1), (6, .long p2.1), (5, .int p1.1), (0, .ref v0), (1, .int v1), (2, .int v2), (3, .int v3), (4, .int v4)]) (st' := [.ref v0, .ref v0, .long (60 : Int64), .long ((((p1.1).toInt64) * p2.1) + (((((60 : Int32) - p1.1)).toInt64) * p3.1))]) rfl ?_
  obtain ⟨x4, ex4, hf⟩ := mj_bd hf
  refine mj_get 35 rfl fl_X9_7 (mj_gR_V ex4) ?_
  refine mj_blk k_X9_ok 36 2 (pc' := 58) (l' := [(8, .long p3.1), (6, .long p2.1), (5, .int p1.1), (0, .ref v0), (1, .int v1), (2, .int v2), (3, .int v3), (4, .int v4)]) (st' := [.ref v0, .ref v0, .ref x4, .ref v0, .long (60 : Int64), .long ((((p1.1).toInt64) * p2.1) + (((((60 : Int32) - p1.1)).toInt64) * p3.1))]) rfl ?_
  obtain ⟨x5, ex5, hf⟩ := mj_bd hf
  refine mj_get 38 rfl fl_X9_7 (mj_gR_V ex5) ?_
  refine mj_blk k_X9_ok 39 2 (pc' := 64) (l' := [(8, .long p3.1), (6, .long p2.1), (5, .int p1.1), (0, .ref v0), (1, .int v1), (2, .int v2), (3, .int v3), (4, .int v4)]) (st' := [.int v4, .int v3, .ref x5, .ref v0, .ref x4, .ref v0, .long (60 : Int64), .long ((((p1.1).toInt64) * p2.1) + (((((60 : Int32) - p1.1)).toInt64) * p3.1))]) rfl ?_
  obtain ⟨gp6, hf⟩ := mj_gd hf
  obtain ⟨p6, ep6, hf⟩ := mj_bd hf
  refine mj_callV (T := TX9) (N := 20) (ci := 9) mX9_keepOn [.ref x5, .int v3, .int v4] 41 rfl ll_X9_230 lb_X9_keepOn li_X9_keepOn ⟨Nat.le_of_ble_eq_true rfl, Nat.le_of_ble_eq_true rfl⟩ rfl gp6 rfl (rest := [.ref x4, .ref v0, .long (60 : Int64), .long ((((p1.1).toInt64) * p2.1) + (((((60 : Int32) - p1.1)).toInt64) * p3.1))]) rfl (Nat.le_of_ble_eq_true rfl) ⟨Nat.le_of_ble_eq_true rfl, Nat.le_of_ble_eq_true rfl⟩ (c_X9_keepOn v0 x5 v3 v4 p3.2 p6 ep6) ?_
  show mj_W mX9_worthOf (mj_FI p) 67 [(8, .long p3.1), (6, .long p2.1), (5, .int p1.1), (0, .ref v0), (1, .int v1), (2, .int v2), (3, .int v3), (4, .int v4)] [.int p6.1, .ref x4, .ref v0, .long (60 : Int64), .long ((((p1.1).toInt64) * p2.1) + (((((60 : Int32) - p1.1)).toInt64) * p3.1))] p6.2 0 0
  refine mj_blk k_X9_ok 42 1 (pc' := 69) (l' := [(8, .long p3.1), (6, .long p2.1), (5, .int p1.1), (0, .ref v0), (1, .int v1), (2, .int v2), (3, .int v3), (4, .int v4)]) (st' := [.int v4, .int p6.1, .ref x4, .ref v0, .long (60 : Int64), .long ((((p1.1).toInt64) * p2.1) + (((((60 : Int32) - p1.1)).toInt64) * p3.1))]) rfl ?_
  obtain ⟨gp7, hf⟩ := mj_gd hf
  obtain ⟨p7, ep7, hf⟩ := mj_bd hf
  refine mj_callV (T := TX9) (N := 20) (ci := 9) mX9_holdOn [.ref x4, .int p6.1, .int v4] 43 rfl ll_X9_222 lb_X9_holdOn li_X9_holdOn ⟨Nat.le_of_ble_eq_true rfl, Nat.le_of_ble_eq_true rfl⟩ rfl gp7 rfl (rest := [.long (60 : Int64), .long ((((p1.1).toInt64) * p2.1) + (((((60 : Int32) - p1.1)).toInt64) * p3.1))]) rfl (Nat.le_of_ble_eq_true rfl) ⟨Nat.le_of_ble_eq_true rfl, Nat.le_of_ble_eq_true rfl⟩ (c_X9_holdOn v0 x4 p6.1 v4 p6.2 p7 ep7) ?_
  show mj_W mX9_worthOf (mj_FI p) 72 [(8, .long p3.1), (6, .long p2.1), (5, .int p1.1), (0, .ref v0), (1, .int v1), (2, .int v2), (3, .int v3), (4, .int v4)] [.long p7.1, .long (60 : Int64), .long ((((p1.1).toInt64) * p2.1) + (((((60 : Int32) - p1.1)).toInt64) * p3.1))] p7.2 0 0
  refine mj_blk k_X9_ok 44 3 (pc' := 75) (l' := [(8, .long p3.1), (6, .long p2.1), (5, .int p1.1), (0, .ref v0), (1, .int v1), (2, .int v2), (3, .int v3), (4, .int v4)]) (st' := [.int (((((((p1.1).toInt64) * p2.1) + (((((60 : Int32) - p1.1)).toInt64) * p3.1)) - ((60 : Int64) * p7.1))).toInt32)]) rfl ?_
  obtain rfl := Option.some.inj hf
  exact mj_end (some (.int (((((((p1.1).toInt64) * p2.1) + (((((60 : Int32) - p1.1)).toInt64) * p3.1)) - ((60 : Int64) * p7.1))).toInt32))) ⟨mj_dec tok_X9_worthOf (a := 47) rfl, .int, rfl, rfl⟩ ⟨rfl, rfl⟩ (Nat.le_of_ble_eq_true rfl) (Nat.le_of_ble_eq_true rfl)
