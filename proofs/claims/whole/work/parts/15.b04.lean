/-! printed by wip/whole/gen.py: X8_worn, X8_pair, X8_word, X8_type, X8_clear, X8_read, X8_isTest, X8_test, X8_undo, X8_weight, X8_cases, X8_trust, X8_shows, X8_of, X8_isNeed, X8_hold, X8_keep, X8_isWeighed, X8_waysNow, X8_gainOf, X8_worth, X8_best -/
def f_X8_worn (v0 : Nat) (v1 : Int32) (v2 : Int32) (h : mj_H) : Option (Int32 × mj_H) := (mj_gR h v0 8 0).bind fun x1 => (if mj_ob h x1 0 = true then (f_X0_dress x1 v1 v2 h).bind fun p2 => (if mj_ob p2.2 v0 8 = true then (f_X8_accepted v0 p2.1 p2.2).bind fun p3 => some (p3.1, p3.2) else none) else none)
set_option maxHeartbeats 4000000 in
set_option maxRecDepth 100000 in
theorem c_X8_worn (v0 : Nat) (v1 : Int32) (v2 : Int32) (h : mj_H) (p : Int32 × mj_H) (hf : f_X8_worn v0 v1 v2 h = some p) : mj_Met mX8_worn [.ref v0, .int v1, .int v2] h (some (.int p.1)) p.2 := by
  refine mj_met pl_X8 tok_X8_worn (Nat.le_of_ble_eq_true rfl) ?_
  show mj_W mX8_worn (mj_FI p) 0 [(0, .ref v0), (1, .int v1), (2, .int v2)] [] h 0 0
  unfold f_X8_worn at hf
  refine mj_blk k_X8_ok 0 2 (pc' := 2) (l' := [(0, .ref v0), (1, .int v1), (2, .int v2)]) (st' := [.ref v0, .ref v0]) rfl ?_
  obtain ⟨x1, ex1, hf⟩ := mj_bd hf
  refine mj_get 2 rfl fl_X8_10 (mj_gR_V ex1) ?_
  refine mj_blk k_X8_ok 3 2 (pc' := 7) (l' := [(0, .ref v0), (1, .int v1), (2, .int v2)]) (st' := [.int v2, .int v1, .ref x1, .ref v0]) rfl ?_
  obtain ⟨gp2, hf⟩ := mj_gd hf
  obtain ⟨p2, ep2, hf⟩ := mj_bd hf
  refine mj_callV (T := TX0) (N := 7) (ci := 0) mX0_dress [.int v1, .int v2] 5 rfl ll_X8_83 lb_X0_dress li_X0_dress ⟨Nat.le_of_ble_eq_true rfl, Nat.le_of_ble_eq_true rfl⟩ rfl gp2 rfl (rest := [.ref v0]) rfl (Nat.le_of_ble_eq_true rfl) ⟨Nat.le_of_ble_eq_true rfl, Nat.le_of_ble_eq_true rfl⟩ (c_X0_dress x1 v1 v2 h p2 ep2) ?_
  show mj_W mX8_worn (mj_FI p) 10 [(0, .ref v0), (1, .int v1), (2, .int v2)] [.int p2.1, .ref v0] p2.2 0 0
  obtain ⟨gp3, hf⟩ := mj_gd hf
  obtain ⟨p3, ep3, hf⟩ := mj_bd hf
  refine mj_callV (T := TX8) (N := 14) (ci := 8) mX8_accepted [.int p2.1] 6 rfl ll_X8_76 lb_X8_accepted li_X8_accepted ⟨Nat.le_of_ble_eq_true rfl, Nat.le_of_ble_eq_true rfl⟩ rfl gp3 rfl (rest := []) rfl (Nat.le_of_ble_eq_true rfl) ⟨Nat.le_of_ble_eq_true rfl, Nat.le_of_ble_eq_true rfl⟩ (c_X8_accepted v0 p2.1 p2.2 p3 ep3) ?_
  show mj_W mX8_worn (mj_FI p) 13 [(0, .ref v0), (1, .int v1), (2, .int v2)] [.int p3.1] p3.2 0 0
  obtain rfl := Option.some.inj hf
  exact mj_end (some (.int p3.1)) ⟨mj_dec tok_X8_worn (a := 7) rfl, .int, rfl, rfl⟩ ⟨rfl, rfl⟩ (Nat.le_of_ble_eq_true rfl) (Nat.le_of_ble_eq_true rfl)
def f_X8_pair (v0 : Nat) (v1 : Int32) (v2 : Int32) (h : mj_H) : Option (Int32 × mj_H) := (mj_gR h v0 8 0).bind fun x1 => (if mj_ob h x1 0 = true then (f_X0_bind x1 v1 v2 h).bind fun p2 => (if mj_ob p2.2 v0 8 = true then (f_X8_accepted v0 p2.1 p2.2).bind fun p3 => some (p3.1, p3.2) else none) else none)
set_option maxHeartbeats 4000000 in
set_option maxRecDepth 100000 in
theorem c_X8_pair (v0 : Nat) (v1 : Int32) (v2 : Int32) (h : mj_H) (p : Int32 × mj_H) (hf : f_X8_pair v0 v1 v2 h = some p) : mj_Met mX8_pair [.ref v0, .int v1, .int v2] h (some (.int p.1)) p.2 := by
  refine mj_met pl_X8 tok_X8_pair (Nat.le_of_ble_eq_true rfl) ?_
  show mj_W mX8_pair (mj_FI p) 0 [(0, .ref v0), (1, .int v1), (2, .int v2)] [] h 0 0
  unfold f_X8_pair at hf
  refine mj_blk k_X8_ok 0 2 (pc' := 2) (l' := [(0, .ref v0), (1, .int v1), (2, .int v2)]) (st' := [.ref v0, .ref v0]) rfl ?_
  obtain ⟨x1, ex1, hf⟩ := mj_bd hf
  refine mj_get 2 rfl fl_X8_10 (mj_gR_V ex1) ?_
  refine mj_blk k_X8_ok 3 2 (pc' := 7) (l' := [(0, .ref v0), (1, .int v1), (2, .int v2)]) (st' := [.int v2, .int v1, .ref x1, .ref v0]) rfl ?_
  obtain ⟨gp2, hf⟩ := mj_gd hf
  obtain ⟨p2, ep2, hf⟩ := mj_bd hf
  refine mj_callV (T := TX0) (N := 7) (ci := 0) mX0_bind [.int v1, .int v2] 5 rfl ll_X8_87 lb_X0_bind li_X0_bind ⟨Nat.le_of_ble_eq_true rfl, Nat.le_of_ble_eq_true rfl⟩ rfl gp2 rfl (rest := [.ref v0]) rfl (Nat.le_of_ble_eq_true rfl) ⟨Nat.le_of_ble_eq_true rfl, Nat.le_of_ble_eq_true rfl⟩ (c_X0_bind x1 v1 v2 h p2 ep2) ?_
  show mj_W mX8_pair (mj_FI p) 10 [(0, .ref v0), (1, .int v1), (2, .int v2)] [.int p2.1, .ref v0] p2.2 0 0
  obtain ⟨gp3, hf⟩ := mj_gd hf
  obtain ⟨p3, ep3, hf⟩ := mj_bd hf
  refine mj_callV (T := TX8) (N := 14) (ci := 8) mX8_accepted [.int p2.1] 6 rfl ll_X8_76 lb_X8_accepted li_X8_accepted ⟨Nat.le_of_ble_eq_true rfl, Nat.le_of_ble_eq_true rfl⟩ rfl gp3 rfl (rest := []) rfl (Nat.le_of_ble_eq_true rfl) ⟨Nat.le_of_ble_eq_true rfl, Nat.le_of_ble_eq_true rfl⟩ (c_X8_accepted v0 p2.1 p2.2 p3 ep3) ?_
  show mj_W mX8_pair (mj_FI p) 13 [(0, .ref v0), (1, .int v1), (2, .int v2)] [.int p3.1] p3.2 0 0
  obtain rfl := Option.some.inj hf
  exact mj_end (some (.int p3.1)) ⟨mj_dec tok_X8_pair (a := 7) rfl, .int, rfl, rfl⟩ ⟨rfl, rfl⟩ (Nat.le_of_ble_eq_true rfl) (Nat.le_of_ble_eq_true rfl)
def f_X8_word (v0 : Nat) (v1 : Int32) (h : mj_H) : Option (Int32 × mj_H) := (mj_gR h v0 8 0).bind fun x1 => (if mj_ob h x1 0 = true then (f_X0_inform x1 v1 h).bind fun p2 => (if mj_ob p2.2 v0 8 = true then (f_X8_accepted v0 p2.1 p2.2).bind fun p3 => some (p3.1, p3.2) else none) else none)
set_option maxHeartbeats 4000000 in
set_option maxRecDepth 100000 in
theorem c_X8_word (v0 : Nat) (v1 : Int32) (h : mj_H) (p : Int32 × mj_H) (hf : f_X8_word v0 v1 h = some p) : mj_Met mX8_word [.ref v0, .int v1] h (some (.int p.1)) p.2 := by
  refine mj_met pl_X8 tok_X8_word (Nat.le_of_ble_eq_true rfl) ?_
  show mj_W mX8_word (mj_FI p) 0 [(0, .ref v0), (1, .int v1)] [] h 0 0
  unfold f_X8_word at hf
  refine mj_blk k_X8_ok 0 2 (pc' := 2) (l' := [(0, .ref v0), (1, .int v1)]) (st' := [.ref v0, .ref v0]) rfl ?_
  obtain ⟨x1, ex1, hf⟩ := mj_bd hf
  refine mj_get 2 rfl fl_X8_10 (mj_gR_V ex1) ?_
  refine mj_blk k_X8_ok 3 1 (pc' := 6) (l' := [(0, .ref v0), (1, .int v1)]) (st' := [.int v1, .ref x1, .ref v0]) rfl ?_
  obtain ⟨gp2, hf⟩ := mj_gd hf
  obtain ⟨p2, ep2, hf⟩ := mj_bd hf
  refine mj_callV (T := TX0) (N := 7) (ci := 0) mX0_inform [.int v1] 4 rfl ll_X8_90 lb_X0_inform li_X0_inform ⟨Nat.le_of_ble_eq_true rfl, Nat.le_of_ble_eq_true rfl⟩ rfl gp2 rfl (rest := [.ref v0]) rfl (Nat.le_of_ble_eq_true rfl) ⟨Nat.le_of_ble_eq_true rfl, Nat.le_of_ble_eq_true rfl⟩ (c_X0_inform x1 v1 h p2 ep2) ?_
  show mj_W mX8_word (mj_FI p) 9 [(0, .ref v0), (1, .int v1)] [.int p2.1, .ref v0] p2.2 0 0
  obtain ⟨gp3, hf⟩ := mj_gd hf
  obtain ⟨p3, ep3, hf⟩ := mj_bd hf
  refine mj_callV (T := TX8) (N := 14) (ci := 8) mX8_accepted [.int p2.1] 5 rfl ll_X8_76 lb_X8_accepted li_X8_accepted ⟨Nat.le_of_ble_eq_true rfl, Nat.le_of_ble_eq_true rfl⟩ rfl gp3 rfl (rest := []) rfl (Nat.le_of_ble_eq_true rfl) ⟨Nat.le_of_ble_eq_true rfl, Nat.le_of_ble_eq_true rfl⟩ (c_X8_accepted v0 p2.1 p2.2 p3 ep3) ?_
  show mj_W mX8_word (mj_FI p) 12 [(0, .ref v0), (1, .int v1)] [.int p3.1] p3.2 0 0
  obtain rfl := Option.some.inj hf
  exact mj_end (some (.int p3.1)) ⟨mj_dec tok_X8_word (a := 6) rfl, .int, rfl, rfl⟩ ⟨rfl, rfl⟩ (Nat.le_of_ble_eq_true rfl) (Nat.le_of_ble_eq_true rfl)
def f_X8_type (v0 : Nat) (v1 : Int32) (h : mj_H) : Option (Int32 × mj_H) := (mj_gR h v0 8 4).bind fun x1 => (mj_gR h x1 4 0).bind fun x2 => (if mj_ob h x2 7 = true then (f_X7_append x2 v1 h).bind fun p3 => (if 0 ≤ p3.1 then some (p3.1, p3.2) else (if mj_ob p3.2 v0 8 = true then (f_X8_refused v0 p3.1 p3.2).bind fun p4 => some (p4.1, p4.2) else none)) else none)
set_option maxHeartbeats 4000000 in
set_option maxRecDepth 100000 in
theorem c_X8_type (v0 : Nat) (v1 : Int32) (h : mj_H) (p : Int32 × mj_H) (hf : f_X8_type v0 v1 h = some p) : mj_Met mX8_type [.ref v0, .int v1] h (some (.int p.1)) p.2 := by
  refine mj_met pl_X8 tok_X8_type (Nat.le_of_ble_eq_true rfl) ?_
  show mj_W mX8_type (mj_FI p) 0 [(0, .ref v0), (1, .int v1)] [] h 0 0
  unfold f_X8_type at hf
  refine mj_blk k_X8_ok 0 1 (pc' := 1) (l' := [(0, .ref v0), (1, .int v1)]) (st' := [.ref v0]) rfl ?_
  obtain ⟨x1, ex1, hf⟩ := mj_bd hf
  refine mj_get 1 rfl fl_X8_36 (mj_gR_V ex1) ?_
  obtain ⟨x2, ex2, hf⟩ := mj_bd hf
  refine mj_get 2 rfl fl_X8_93 (mj_gR_V ex2) ?_
  refine mj_blk k_X8_ok 3 1 (pc' := 8) (l' := [(0, .ref v0), (1, .int v1)]) (st' := [.int v1, .ref x2]) rfl ?_
  obtain ⟨gp3, hf⟩ := mj_gd hf
  obtain ⟨p3, ep3, hf⟩ := mj_bd hf
  refine mj_callV (T := TX7) (N := 2) (ci := 7) mX7_append [.int v1] 4 rfl ll_X8_97 lb_X7_append li_X7_append ⟨Nat.le_of_ble_eq_true rfl, Nat.le_of_ble_eq_true rfl⟩ rfl gp3 rfl (rest := []) rfl (Nat.le_of_ble_eq_true rfl) ⟨Nat.le_of_ble_eq_true rfl, Nat.le_of_ble_eq_true rfl⟩ (c_X7_append x2 v1 h p3 ep3) ?_
  show mj_W mX8_type (mj_FI p) 11 [(0, .ref v0), (1, .int v1)] [.int p3.1] p3.2 0 0
  refine mj_blk k_X8_ok 5 2 (pc' := 13) (l' := [(2, .int p3.1), (0, .ref v0), (1, .int v1)]) (st' := [.int p3.1]) rfl ?_
  refine mj_if_ge 7 24 rfl (by decide) (fun q => ?_) (fun q => ?_)
  · have hf := (if_pos q).symm.trans hf
    refine mj_blk k_X8_ok 12 1 (pc' := 25) (l' := [(2, .int p3.1), (0, .ref v0), (1, .int v1)]) (st' := [.int p3.1]) rfl ?_
    obtain rfl := Option.some.inj hf
    exact mj_end (some (.int p3.1)) ⟨mj_dec tok_X8_type (a := 13) rfl, .int, rfl, rfl⟩ ⟨rfl, rfl⟩ (Nat.le_of_ble_eq_true rfl) (Nat.le_of_ble_eq_true rfl)
  · have hf := (if_neg q).symm.trans hf
    refine mj_blk k_X8_ok 8 2 (pc' := 18) (l' := [(2, .int p3.1), (0, .ref v0), (1, .int v1)]) (st' := [.int p3.1, .ref v0]) rfl ?_
    obtain ⟨gp4, hf⟩ := mj_gd hf
    obtain ⟨p4, ep4, hf⟩ := mj_bd hf
    refine mj_callV (T := TX8) (N := 14) (ci := 8) mX8_refused [.int p3.1] 10 rfl ll_X8_102 lb_X8_refused li_X8_refused ⟨Nat.le_of_ble_eq_true rfl, Nat.le_of_ble_eq_true rfl⟩ rfl gp4 rfl (rest := []) rfl (Nat.le_of_ble_eq_true rfl) ⟨Nat.le_of_ble_eq_true rfl, Nat.le_of_ble_eq_true rfl⟩ (c_X8_refused v0 p3.1 p3.2 p4 ep4) ?_
    show mj_W mX8_type (mj_FI p) 21 [(2, .int p3.1), (0, .ref v0), (1, .int v1)] [.int p4.1] p4.2 0 0
    refine mj_blk k_X8_ok 11 1 (pc' := 25) (l' := [(2, .int p3.1), (0, .ref v0), (1, .int v1)]) (st' := [.int p4.1]) rfl ?_
    obtain rfl := Option.some.inj hf
    exact mj_end (some (.int p4.1)) ⟨mj_dec tok_X8_type (a := 13) rfl, .int, rfl, rfl⟩ ⟨rfl, rfl⟩ (Nat.le_of_ble_eq_true rfl) (Nat.le_of_ble_eq_true rfl)
def f_X8_clear (v0 : Nat) (h : mj_H) : Option (Int32 × mj_H) := (mj_gR h v0 8 4).bind fun x1 => (mj_gR h x1 4 0).bind fun x2 => (if mj_ob h x2 7 = true then (f_X7_empty x2 h).bind fun p3 => some (p3.1, p3.2) else none)
set_option maxHeartbeats 4000000 in
set_option maxRecDepth 100000 in
theorem c_X8_clear (v0 : Nat) (h : mj_H) (p : Int32 × mj_H) (hf : f_X8_clear v0 h = some p) : mj_Met mX8_clear [.ref v0] h (some (.int p.1)) p.2 := by
  refine mj_met pl_X8 tok_X8_clear (Nat.le_of_ble_eq_true rfl) ?_
  show mj_W mX8_clear (mj_FI p) 0 [(0, .ref v0)] [] h 0 0
  unfold f_X8_clear at hf
  refine mj_blk k_X8_ok 0 1 (pc' := 1) (l' := [(0, .ref v0)]) (st' := [.ref v0]) rfl ?_
  obtain ⟨x1, ex1, hf⟩ := mj_bd hf
  refine mj_get 1 rfl fl_X8_36 (mj_gR_V ex1) ?_
  obtain ⟨x2, ex2, hf⟩ := mj_bd hf
  refine mj_get 2 rfl fl_X8_93 (mj_gR_V ex2) ?_
  obtain ⟨gp3, hf⟩ := mj_gd hf
  obtain ⟨p3, ep3, hf⟩ := mj_bd hf
  refine mj_callV (T := TX7) (N := 2) (ci := 7) mX7_empty [] 3 rfl ll_X8_105 lb_X7_empty li_X7_empty ⟨Nat.le_of_ble_eq_true rfl, Nat.le_of_ble_eq_true rfl⟩ rfl gp3 rfl (rest := []) rfl (Nat.le_of_ble_eq_true rfl) ⟨Nat.le_of_ble_eq_true rfl, Nat.le_of_ble_eq_true rfl⟩ (c_X7_empty x2 h p3 ep3) ?_
  show mj_W mX8_clear (mj_FI p) 10 [(0, .ref v0)] [.int p3.1] p3.2 0 0
  obtain rfl := Option.some.inj hf
  exact mj_end (some (.int p3.1)) ⟨mj_dec tok_X8_clear (a := 4) rfl, .int, rfl, rfl⟩ ⟨rfl, rfl⟩ (Nat.le_of_ble_eq_true rfl) (Nat.le_of_ble_eq_true rfl)
def f_X8_read (v0 : Nat) (h : mj_H) : Option (Int32 × mj_H) := (mj_gR h v0 8 4).bind fun x1 => (if mj_ob h x1 4 = true then (f_X4_findFault x1 h).bind fun p2 => (if p2.1 = (-1 : Int32) then (mj_gR p2.2 v0 8 4).bind fun x3 => (if mj_ob p2.2 x3 4 = true then (f_X4_tellDraft x3 p2.2).bind fun p4 => (if p4.1 = (-1 : Int32) then (mj_gR p4.2 v0 8 0).bind fun x5 => (mj_gR p4.2 v0 8 4).bind fun x6 => (mj_gR p4.2 x6 4 1).bind fun x7 => (if mj_ob p4.2 x5 0 = true then (f_X0_become x5 x7 p4.2).bind fun p8 => (mj_gR p8 v0 8 1).bind fun x9 => (if mj_ob p8 x9 3 = true then (f_X3_forget x9 p8).bind fun p10 => (mj_gR p10 v0 8 4).bind fun x11 => (mj_gI p10 x11 4 8).bind fun x12 => some (x12, p10) else none) else none) else some (((-1000 : Int32) - p4.1), p4.2)) else none) else some (((-10 : Int32) - p2.1), p2.2)) else none)
set_option maxHeartbeats 4000000 in
set_option maxRecDepth 100000 in
theorem c_X8_read (v0 : Nat) (h : mj_H) (p : Int32 × mj_H) (hf : f_X8_read v0 h = some p) : mj_Met mX8_read [.ref v0] h (some (.int p.1)) p.2 := by
  refine mj_met pl_X8 tok_X8_read (Nat.le_of_ble_eq_true rfl) ?_
  show mj_W mX8_read (mj_FI p) 0 [(0, .ref v0)] [] h 0 0
  unfold f_X8_read at hf
  refine mj_blk k_X8_ok 0 1 (pc' := 1) (l' := [(0, .ref v0)]) (st' := [.ref v0]) rfl ?_
  obtain ⟨x1, ex1, hf⟩ := mj_bd hf
  refine mj_get 1 rfl fl_X8_36 (mj_gR_V ex1) ?_
  obtain ⟨gp2, hf⟩ := mj_gd hf
  obtain ⟨p2, ep2, hf⟩ := mj_bd hf
  refine mj_callV (T := TX4) (N := 9) (ci := 4) mX4_findFault [] 2 rfl ll_X8_109 lb_X4_findFault li_X4_findFault ⟨Nat.le_of_ble_eq_true rfl, Nat.le_of_ble_eq_true rfl⟩ rfl gp2 rfl (rest := []) rfl (Nat.le_of_ble_eq_true rfl) ⟨Nat.le_of_ble_eq_true rfl, Nat.le_of_ble_eq_true rfl⟩ (c_X4_findFault x1 h p2 ep2) ?_
  show mj_W mX8_read (mj_FI p) 7 [(0, .ref v0)] [.int p2.1] p2.2 0 0
  refine mj_blk k_X8_ok 3 3 (pc' := 10) (l' := [(1, .int p2.1), (0, .ref v0)]) (st' := [.int (-1 : Int32), .int p2.1]) rfl ?_
  refine mj_icmp_eq 6 18 rfl (by decide) (fun q => ?_) (fun q => ?_)
  · have hf := (if_pos q).symm.trans hf
    refine mj_blk k_X8_ok 11 1 (pc' := 19) (l' := [(1, .int p2.1), (0, .ref v0)]) (st' := [.ref v0]) rfl ?_
    obtain ⟨x3, ex3, hf⟩ := mj_bd hf
    refine mj_get 12 rfl fl_X8_36 (mj_gR_V ex3) ?_
    obtain ⟨gp4, hf⟩ := mj_gd hf
    obtain ⟨p4, ep4, hf⟩ := mj_bd hf
    refine mj_callV (T := TX4) (N := 9) (ci := 4) mX4_tellDraft [] 13 rfl ll_X8_112 lb_X4_tellDraft li_X4_tellDraft ⟨Nat.le_of_ble_eq_true rfl, Nat.le_of_ble_eq_true rfl⟩ rfl gp4 rfl (rest := []) rfl (Nat.le_of_ble_eq_true rfl) ⟨Nat.le_of_ble_eq_true rfl, Nat.le_of_ble_eq_true rfl⟩ (c_X4_tellDraft x3 p2.2 p4 ep4) ?_
    show mj_W mX8_read (mj_FI p) 25 [(1, .int p2.1), (0, .ref v0)] [.int p4.1] p4.2 0 0
    refine mj_blk k_X8_ok 14 3 (pc' := 28) (l' := [(2, .int p4.1), (1, .int p2.1), (0, .ref v0)]) (st' := [.int (-1 : Int32), .int p4.1]) rfl ?_
    refine mj_icmp_eq 17 37 rfl (by decide) (fun q => ?_) (fun q => ?_)
    · have hf := (if_pos q).symm.trans hf
      refine mj_blk k_X8_ok 22 1 (pc' := 38) (l' := [(2, .int p4.1), (1, .int p2.1), (0, .ref v0)]) (st' := [.ref v0]) rfl ?_
      obtain ⟨x5, ex5, hf⟩ := mj_bd hf
      refine mj_get 23 rfl fl_X8_10 (mj_gR_V ex5) ?_
      refine mj_blk k_X8_ok 24 1 (pc' := 42) (l' := [(2, .int p4.1), (1, .int p2.1), (0, .ref v0)]) (st' := [.ref v0, .ref x5]) rfl ?_
      obtain ⟨x6, ex6, hf⟩ := mj_bd hf
      refine mj_get 25 rfl fl_X8_36 (mj_gR_V ex6) ?_
      obtain ⟨x7, ex7, hf⟩ := mj_bd hf
      refine mj_get 26 rfl fl_X8_115 (mj_gR_V ex7) ?_
      obtain ⟨gp8, hf⟩ := mj_gd hf
      obtain ⟨p8, ep8, hf⟩ := mj_bd hf
      refine mj_callV (T := TX0) (N := 7) (ci := 0) mX0_become [.ref x7] 27 rfl ll_X8_118 lb_X0_become li_X0_become ⟨Nat.le_of_ble_eq_true rfl, Nat.le_of_ble_eq_true rfl⟩ rfl gp8 rfl (rest := []) rfl (Nat.le_of_ble_eq_true rfl) ⟨Nat.le_of_ble_eq_true rfl, Nat.le_of_ble_eq_true rfl⟩ (c_X0_become x5 x7 p4.2 p8 ep8) ?_
      show mj_W mX8_read (mj_FI p) 51 [(2, .int p4.1), (1, .int p2.1), (0, .ref v0)] [] p8 0 0
      refine mj_blk k_X8_ok 28 1 (pc' := 52) (l' := [(2, .int p4.1), (1, .int p2.1), (0, .ref v0)]) (st' := [.ref v0]) rfl ?_
      obtain ⟨x9, ex9, hf⟩ := mj_bd hf
      refine mj_get 29 rfl fl_X8_19 (mj_gR_V ex9) ?_
      obtain ⟨gp10, hf⟩ := mj_gd hf
      obtain ⟨p10, ep10, hf⟩ := mj_bd hf
      refine mj_callV (T := TX3) (N := 5) (ci := 3) mX3_forget [] 30 rfl ll_X8_122 lb_X3_forget li_X3_forget ⟨Nat.le_of_ble_eq_true rfl, Nat.le_of_ble_eq_true rfl⟩ rfl gp10 rfl (rest := []) rfl (Nat.le_of_ble_eq_true rfl) ⟨Nat.le_of_ble_eq_true rfl, Nat.le_of_ble_eq_true rfl⟩ (c_X3_forget x9 p8 p10 ep10) ?_
      show mj_W mX8_read (mj_FI p) 58 [(2, .int p4.1), (1, .int p2.1), (0, .ref v0)] [] p10 0 0
      refine mj_blk k_X8_ok 31 1 (pc' := 59) (l' := [(2, .int p4.1), (1, .int p2.1), (0, .ref v0)]) (st' := [.ref v0]) rfl ?_
      obtain ⟨x11, ex11, hf⟩ := mj_bd hf
      refine mj_get 32 rfl fl_X8_36 (mj_gR_V ex11) ?_
      obtain ⟨x12, ex12, hf⟩ := mj_bd hf
      refine mj_get 33 rfl fl_X8_125 (mj_gI_V ex12) ?_
      obtain rfl := Option.some.inj hf
      exact mj_end (some (.int x12)) ⟨mj_dec tok_X8_read (a := 34) rfl, .int, rfl, rfl⟩ ⟨rfl, rfl⟩ (Nat.le_of_ble_eq_true rfl) (Nat.le_of_ble_eq_true rfl)
    · have hf := (if_neg q).symm.trans hf
      refine mj_blk k_X8_ok 18 3 (pc' := 36) (l' := [(2, .int p4.1), (1, .int p2.1), (0, .ref v0)]) (st' := [.int ((-1000 : Int32) - p4.1)]) rfl ?_
      obtain rfl := Option.some.inj hf
      exact mj_end (some (.int ((-1000 : Int32) - p4.1))) ⟨mj_dec tok_X8_read (a := 21) rfl, .int, rfl, rfl⟩ ⟨rfl, rfl⟩ (Nat.le_of_ble_eq_true rfl) (Nat.le_of_ble_eq_true rfl)
  · have hf := (if_neg q).symm.trans hf
    refine mj_blk k_X8_ok 7 3 (pc' := 17) (l' := [(1, .int p2.1), (0, .ref v0)]) (st' := [.int ((-10 : Int32) - p2.1)]) rfl ?_
    obtain rfl := Option.some.inj hf
    exact mj_end (some (.int ((-10 : Int32) - p2.1))) ⟨mj_dec tok_X8_read (a := 10) rfl, .int, rfl, rfl⟩ ⟨rfl, rfl⟩ (Nat.le_of_ble_eq_true rfl) (Nat.le_of_ble_eq_true rfl)
def f_X8_isTest (v0 : Int32) (h : mj_H) : Option (Int32 × mj_H) := (if v0 < 0 then some ((0 : Int32), h) else (if (3 : Int32) ≤ v0 then some ((0 : Int32), h) else some ((1 : Int32), h)))
set_option maxHeartbeats 4000000 in
set_option maxRecDepth 100000 in
theorem c_X8_isTest (v0 : Int32) (h : mj_H) (p : Int32 × mj_H) (hf : f_X8_isTest v0 h = some p) : mj_Met mX8_isTest [.int v0] h (some (.int p.1)) p.2 := by
  refine mj_met pl_X8 tok_X8_isTest (Nat.le_of_ble_eq_true rfl) ?_
  show mj_W mX8_isTest (mj_FI p) 0 [(0, .int v0)] [] h 0 0
  unfold f_X8_isTest at hf
  refine mj_blk k_X8_ok 0 1 (pc' := 1) (l' := [(0, .int v0)]) (st' := [.int v0]) rfl ?_
  refine mj_if_lt 1 13 rfl (by decide) (fun q => ?_) (fun q => ?_)
  · have hf := (if_pos q).symm.trans hf
    refine mj_blk k_X8_ok 7 1 (pc' := 14) (l' := [(0, .int v0)]) (st' := [.int (0 : Int32)]) rfl ?_
    obtain rfl := Option.some.inj hf
    exact mj_end (some (.int (0 : Int32))) ⟨mj_dec tok_X8_isTest (a := 8) rfl, .boolean, rfl, rfl⟩ ⟨rfl, rfl⟩ (Nat.le_of_ble_eq_true rfl) (Nat.le_of_ble_eq_true rfl)
  · have hf := (if_neg q).symm.trans hf
    refine mj_blk k_X8_ok 2 2 (pc' := 6) (l' := [(0, .int v0)]) (st' := [.int (3 : Int32), .int v0]) rfl ?_
    refine mj_icmp_ge 4 13 rfl (by decide) (fun q => ?_) (fun q => ?_)
    · have hf := (if_pos q).symm.trans hf
      refine mj_blk k_X8_ok 7 1 (pc' := 14) (l' := [(0, .int v0)]) (st' := [.int (0 : Int32)]) rfl ?_
      obtain rfl := Option.some.inj hf
      exact mj_end (some (.int (0 : Int32))) ⟨mj_dec tok_X8_isTest (a := 8) rfl, .boolean, rfl, rfl⟩ ⟨rfl, rfl⟩ (Nat.le_of_ble_eq_true rfl) (Nat.le_of_ble_eq_true rfl)
    · have hf := (if_neg q).symm.trans hf
      refine mj_blk k_X8_ok 5 2 (pc' := 14) (l' := [(0, .int v0)]) (st' := [.int (1 : Int32)]) rfl ?_
      obtain rfl := Option.some.inj hf
      exact mj_end (some (.int (1 : Int32))) ⟨mj_dec tok_X8_isTest (a := 8) rfl, .boolean, rfl, rfl⟩ ⟨rfl, rfl⟩ (Nat.le_of_ble_eq_true rfl) (Nat.le_of_ble_eq_true rfl)
def f_X8_test_18 (v0 : Nat) (h : mj_H) : Option (Int32 × mj_H) := (if mj_ob h v0 8 = true then (f_X8_refused v0 (-2 : Int32) h).bind fun p1 => some (p1.1, p1.2) else none)
set_option maxHeartbeats 4000000 in
set_option maxRecDepth 100000 in
theorem w_X8_test_18 (v0 : Nat) (h : mj_H) (p : Int32 × mj_H) (hf : f_X8_test_18  v0 h = some p) : mj_W mX8_test (mj_FI p) 18 [(0, .ref v0)] [] h 0 0 := by
  unfold f_X8_test_18 at hf
  refine mj_blk k_X8_ok 8 2 (pc' := 21) (l' := [(0, .ref v0)]) (st' := [.int (-2 : Int32), .ref v0]) rfl ?_
  obtain ⟨gp1, hf⟩ := mj_gd hf
  obtain ⟨p1, ep1, hf⟩ := mj_bd hf
  refine mj_callV (T := TX8) (N := 14) (ci := 8) mX8_refused [.int (-2 : Int32)] 10 rfl ll_X8_102 lb_X8_refused li_X8_refused ⟨Nat.le_of_ble_eq_true rfl, Nat.le_of_ble_eq_true rfl⟩ rfl gp1 rfl (rest := []) rfl (Nat.le_of_ble_eq_true rfl) ⟨Nat.le_of_ble_eq_true rfl, Nat.le_of_ble_eq_true rfl⟩ (c_X8_refused v0 (-2 : Int32) h p1 ep1) ?_
  show mj_W mX8_test (mj_FI p) 24 [(0, .ref v0)] [.int p1.1] p1.2 0 0
  obtain rfl := Option.some.inj hf
  exact mj_end (some (.int p1.1)) ⟨mj_dec tok_X8_test (a := 11) rfl, .int, rfl, rfl⟩ ⟨rfl, rfl⟩ (Nat.le_of_ble_eq_true rfl) (Nat.le_of_ble_eq_true rfl)
def f_X8_test (v0 : Nat) (v1 : Int32) (v2 : Int32) (v3 : Int32) (h : mj_H) : Option (Int32 × mj_H) := (mj_gR h v0 8 0).bind fun x2 => (if mj_ob h x2 0 = true then (f_X0_has x2 v1 h).bind fun p3 => (if p3.1 = 0 then f_X8_test_18 v0 p3.2 else (f_X8_isTest v2 p3.2).bind fun p4 => (if p4.1 = 0 then f_X8_test_18 v0 p4.2 else (mj_gR p4.2 v0 8 0).bind fun x5 => (mj_gI p4.2 x5 0 6).bind fun x6 => (f_X8_costOf v2 p4.2).bind fun p7 => (if p7.1 ≤ x6 then (mj_gR p7.2 v0 8 1).bind fun x8 => (mj_gR p7.2 v0 8 0).bind fun x9 => (if mj_ob p7.2 x8 3 = true then (f_X3_push x8 x9 p7.2).bind fun p10 => (mj_gR p10 v0 8 0).bind fun x11 => (if mj_ob p10 x11 0 = true then (f_X0_pass x11 v1 v2 v3 p10).bind fun p12 => (mj_gR p12 v0 8 0).bind fun x13 => (if mj_ob p12 x13 0 = true then (f_X0_trustOf x13 v1 p12).bind fun p14 => some (p14.1, p14.2) else none) else none) else none) else (if mj_ob p7.2 v0 8 = true then (f_X8_refused v0 (-3 : Int32) p7.2).bind fun p15 => some (p15.1, p15.2) else none)))) else none)
set_option maxHeartbeats 4000000 in
set_option maxRecDepth 100000 in
theorem c_X8_test (v0 : Nat) (v1 : Int32) (v2 : Int32) (v3 : Int32) (h : mj_H) (p : Int32 × mj_H) (hf : f_X8_test v0 v1 v2 v3 h = some p) : mj_Met mX8_test [.ref v0, .int v1, .int v2, .int v3] h (some (.int p.1)) p.2 := by
  refine mj_met pl_X8 tok_X8_test (Nat.le_of_ble_eq_true rfl) ?_
  show mj_W mX8_test (mj_FI p) 0 [(0, .ref v0), (1, .int v1), (2, .int v2), (3, .int v3)] [] h 0 0
  unfold f_X8_test at hf
  refine mj_blk k_X8_ok 0 1 (pc' := 1) (l' := [(0, .ref v0), (1, .int v1), (2, .int v2), (3, .int v3)]) (st' := [.ref v0]) rfl ?_
  obtain ⟨x2, ex2, hf⟩ := mj_bd hf
  refine mj_get 1 rfl fl_X8_10 (mj_gR_V ex2) ?_
  refine mj_blk k_X8_ok 2 1 (pc' := 5) (l' := [(0, .ref v0), (1, .int v1), (2, .int v2), (3, .int v3)]) (st' := [.int v1, .ref x2]) rfl ?_
  obtain ⟨gp3, hf⟩ := mj_gd hf
  obtain ⟨p3, ep3, hf⟩ := mj_bd hf
  refine mj_callV (T := TX0) (N := 7) (ci := 0) mX0_has [.int v1] 3 rfl ll_X8_129 lb_X0_has li_X0_has ⟨Nat.le_of_ble_eq_true rfl, Nat.le_of_ble_eq_true rfl⟩ rfl gp3 rfl (rest := []) rfl (Nat.le_of_ble_eq_true rfl) ⟨Nat.le_of_ble_eq_true rfl, Nat.le_of_ble_eq_true rfl⟩ (c_X0_has x2 v1 h p3 ep3) ?_
  show mj_W mX8_test (mj_FI p) 8 [(0, .ref v0), (1, .int v1), (2, .int v2), (3, .int v3)] [.int p3.1] p3.2 0 0
  refine mj_if_eq 4 18 rfl (by decide) (fun q => ?_) (fun q => ?_)
  · have hf := (if_pos q).symm.trans hf
    refine mj_locs [0] (l' := [(0, .ref v0)]) rfl ?_
    exact w_X8_test_18 v0 p3.2 _ hf
  · have hf := (if_neg q).symm.trans hf
    refine mj_blk k_X8_ok 5 1 (pc' := 12) (l' := [(0, .ref v0), (1, .int v1), (2, .int v2), (3, .int v3)]) (st' := [.int v2]) rfl ?_
    obtain ⟨p4, ep4, hf⟩ := mj_bd hf
    refine mj_callS mX8_isTest [.int v2] 6 rfl ll_X8_133 lb_X8_isTest li_X8_isTest ⟨Nat.le_of_ble_eq_true rfl, Nat.le_of_ble_eq_true rfl⟩ rfl (rest := []) rfl (Nat.le_of_ble_eq_true rfl) ⟨Nat.le_of_ble_eq_true rfl, Nat.le_of_ble_eq_true rfl⟩ (c_X8_isTest v2 p3.2 p4 ep4) ?_
    show mj_W mX8_test (mj_FI p) 15 [(0, .ref v0), (1, .int v1), (2, .int v2), (3, .int v3)] [.int p4.1] p4.2 0 0
    refine mj_if_ne 7 25 rfl (by decide) (fun q => ?_) (fun q => ?_)
    · have hf := (if_neg q).symm.trans hf
      refine mj_blk k_X8_ok 12 1 (pc' := 26) (l' := [(0, .ref v0), (1, .int v1), (2, .int v2), (3, .int v3)]) (st' := [.ref v0]) rfl ?_
      obtain ⟨x5, ex5, hf⟩ := mj_bd hf
      refine mj_get 13 rfl fl_X8_10 (mj_gR_V ex5) ?_
      obtain ⟨x6, ex6, hf⟩ := mj_bd hf
      refine mj_get 14 rfl fl_X8_136 (mj_gI_V ex6) ?_
      refine mj_blk k_X8_ok 15 1 (pc' := 33) (l' := [(0, .ref v0), (1, .int v1), (2, .int v2), (3, .int v3)]) (st' := [.int v2, .int x6]) rfl ?_
      obtain ⟨p7, ep7, hf⟩ := mj_bd hf
      refine mj_callS mX8_costOf [.int v2] 16 rfl ll_X8_139 lb_X8_costOf li_X8_costOf ⟨Nat.le_of_ble_eq_true rfl, Nat.le_of_ble_eq_true rfl⟩ rfl (rest := [.int x6]) rfl (Nat.le_of_ble_eq_true rfl) ⟨Nat.le_of_ble_eq_true rfl, Nat.le_of_ble_eq_true rfl⟩ (c_X8_costOf v2 p4.2 p7 ep7) ?_
      show mj_W mX8_test (mj_FI p) 36 [(0, .ref v0), (1, .int v1), (2, .int v2), (3, .int v3)] [.int p7.1, .int x6] p7.2 0 0
      refine mj_icmp_ge 17 46 rfl (by decide) (fun q => ?_) (fun q => ?_)
      · have hf := (if_pos q).symm.trans hf
        refine mj_blk k_X8_ok 22 1 (pc' := 47) (l' := [(0, .ref v0), (1, .int v1), (2, .int v2), (3, .int v3)]) (st' := [.ref v0]) rfl ?_
        obtain ⟨x8, ex8, hf⟩ := mj_bd hf
        refine mj_get 23 rfl fl_X8_19 (mj_gR_V ex8) ?_
        refine mj_blk k_X8_ok 24 1 (pc' := 51) (l' := [(0, .ref v0), (1, .int v1), (2, .int v2), (3, .int v3)]) (st' := [.ref v0, .ref x8]) rfl ?_
        obtain ⟨x9, ex9, hf⟩ := mj_bd hf
        refine mj_get 25 rfl fl_X8_10 (mj_gR_V ex9) ?_
        obtain ⟨gp10, hf⟩ := mj_gd hf
        obtain ⟨p10, ep10, hf⟩ := mj_bd hf
        refine mj_callV (T := TX3) (N := 5) (ci := 3) mX3_push [.ref x9] 26 rfl ll_X8_142 lb_X3_push li_X3_push ⟨Nat.le_of_ble_eq_true rfl, Nat.le_of_ble_eq_true rfl⟩ rfl gp10 rfl (rest := []) rfl (Nat.le_of_ble_eq_true rfl) ⟨Nat.le_of_ble_eq_true rfl, Nat.le_of_ble_eq_true rfl⟩ (c_X3_push x8 x9 p7.2 p10 ep10) ?_
        show mj_W mX8_test (mj_FI p) 57 [(0, .ref v0), (1, .int v1), (2, .int v2), (3, .int v3)] [] p10 0 0
        refine mj_blk k_X8_ok 27 1 (pc' := 58) (l' := [(0, .ref v0), (1, .int v1), (2, .int v2), (3, .int v3)]) (st' := [.ref v0]) rfl ?_
        obtain ⟨x11, ex11, hf⟩ := mj_bd hf
        refine mj_get 28 rfl fl_X8_10 (mj_gR_V ex11) ?_
        refine mj_blk k_X8_ok 29 3 (pc' := 64) (l' := [(0, .ref v0), (1, .int v1), (2, .int v2), (3, .int v3)]) (st' := [.int v3, .int v2, .int v1, .ref x11]) rfl ?_
        obtain ⟨gp12, hf⟩ := mj_gd hf
        obtain ⟨p12, ep12, hf⟩ := mj_bd hf
        refine mj_callV (T := TX0) (N := 7) (ci := 0) mX0_pass [.int v1, .int v2, .int v3] 32 rfl ll_X8_145 lb_X0_pass li_X0_pass ⟨Nat.le_of_ble_eq_true rfl, Nat.le_of_ble_eq_true rfl⟩ rfl gp12 rfl (rest := []) rfl (Nat.le_of_ble_eq_true rfl) ⟨Nat.le_of_ble_eq_true rfl, Nat.le_of_ble_eq_true rfl⟩ (c_X0_pass x11 v1 v2 v3 p10 p12 ep12) ?_
        show mj_W mX8_test (mj_FI p) 67 [(0, .ref v0), (1, .int v1), (2, .int v2), (3, .int v3)] [] p12 0 0
        refine mj_blk k_X8_ok 33 1 (pc' := 68) (l' := [(0, .ref v0), (1, .int v1), (2, .int v2), (3, .int v3)]) (st' := [.ref v0]) rfl ?_
        obtain ⟨x13, ex13, hf⟩ := mj_bd hf
        refine mj_get 34 rfl fl_X8_10 (mj_gR_V ex13) ?_
        refine mj_blk k_X8_ok 35 1 (pc' := 72) (l' := [(0, .ref v0), (1, .int v1), (2, .int v2), (3, .int v3)]) (st' := [.int v1, .ref x13]) rfl ?_
        obtain ⟨gp14, hf⟩ := mj_gd hf
        obtain ⟨p14, ep14, hf⟩ := mj_bd hf
        refine mj_callV (T := TX0) (N := 7) (ci := 0) mX0_trustOf [.int v1] 36 rfl ll_X8_149 lb_X0_trustOf li_X0_trustOf ⟨Nat.le_of_ble_eq_true rfl, Nat.le_of_ble_eq_true rfl⟩ rfl gp14 rfl (rest := []) rfl (Nat.le_of_ble_eq_true rfl) ⟨Nat.le_of_ble_eq_true rfl, Nat.le_of_ble_eq_true rfl⟩ (c_X0_trustOf x13 v1 p12 p14 ep14) ?_
        show mj_W mX8_test (mj_FI p) 75 [(0, .ref v0), (1, .int v1), (2, .int v2), (3, .int v3)] [.int p14.1] p14.2 0 0
        obtain rfl := Option.some.inj hf
        exact mj_end (some (.int p14.1)) ⟨mj_dec tok_X8_test (a := 37) rfl, .int, rfl, rfl⟩ ⟨rfl, rfl⟩ (Nat.le_of_ble_eq_true rfl) (Nat.le_of_ble_eq_true rfl)
      · have hf := (if_neg q).symm.trans hf
        refine mj_blk k_X8_ok 18 2 (pc' := 42) (l' := [(0, .ref v0), (1, .int v1), (2, .int v2), (3, .int v3)]) (st' := [.int (-3 : Int32), .ref v0]) rfl ?_
        obtain ⟨gp15, hf⟩ := mj_gd hf
        obtain ⟨p15, ep15, hf⟩ := mj_bd hf
        refine mj_callV (T := TX8) (N := 14) (ci := 8) mX8_refused [.int (-3 : Int32)] 20 rfl ll_X8_102 lb_X8_refused li_X8_refused ⟨Nat.le_of_ble_eq_true rfl, Nat.le_of_ble_eq_true rfl⟩ rfl gp15 rfl (rest := []) rfl (Nat.le_of_ble_eq_true rfl) ⟨Nat.le_of_ble_eq_true rfl, Nat.le_of_ble_eq_true rfl⟩ (c_X8_refused v0 (-3 : Int32) p7.2 p15 ep15) ?_
        show mj_W mX8_test (mj_FI p) 45 [(0, .ref v0), (1, .int v1), (2, .int v2), (3, .int v3)] [.int p15.1] p15.2 0 0
        obtain rfl := Option.some.inj hf
        exact mj_end (some (.int p15.1)) ⟨mj_dec tok_X8_test (a := 21) rfl, .int, rfl, rfl⟩ ⟨rfl, rfl⟩ (Nat.le_of_ble_eq_true rfl) (Nat.le_of_ble_eq_true rfl)
    · have hf := (if_pos q).symm.trans hf
      refine mj_locs [0] (l' := [(0, .ref v0)]) rfl ?_
      exact w_X8_test_18 v0 p4.2 _ hf
def f_X8_undo (v0 : Nat) (h : mj_H) : Option (Int32 × mj_H) := (mj_gR h v0 8 1).bind fun x1 => (mj_gR h v0 8 0).bind fun x2 => (if mj_ob h x1 3 = true then (f_X3_pop x1 x2 h).bind fun p3 => (if p3.1 = 0 then (if mj_ob p3.2 v0 8 = true then (f_X8_refused v0 (-3 : Int32) p3.2).bind fun p4 => some (p4.1, p4.2) else none) else some ((1 : Int32), p3.2)) else none)
set_option maxHeartbeats 4000000 in
set_option maxRecDepth 100000 in
theorem c_X8_undo (v0 : Nat) (h : mj_H) (p : Int32 × mj_H) (hf : f_X8_undo v0 h = some p) : mj_Met mX8_undo [.ref v0] h (some (.int p.1)) p.2 := by
  refine mj_met pl_X8 tok_X8_undo (Nat.le_of_ble_eq_true rfl) ?_
  show mj_W mX8_undo (mj_FI p) 0 [(0, .ref v0)] [] h 0 0
  unfold f_X8_undo at hf
  refine mj_blk k_X8_ok 0 1 (pc' := 1) (l' := [(0, .ref v0)]) (st' := [.ref v0]) rfl ?_
  obtain ⟨x1, ex1, hf⟩ := mj_bd hf
  refine mj_get 1 rfl fl_X8_19 (mj_gR_V ex1) ?_
  refine mj_blk k_X8_ok 2 1 (pc' := 5) (l' := [(0, .ref v0)]) (st' := [.ref v0, .ref x1]) rfl ?_
  obtain ⟨x2, ex2, hf⟩ := mj_bd hf
  refine mj_get 3 rfl fl_X8_10 (mj_gR_V ex2) ?_
  obtain ⟨gp3, hf⟩ := mj_gd hf
  obtain ⟨p3, ep3, hf⟩ := mj_bd hf
  refine mj_callV (T := TX3) (N := 5) (ci := 3) mX3_pop [.ref x2] 4 rfl ll_X8_152 lb_X3_pop li_X3_pop ⟨Nat.le_of_ble_eq_true rfl, Nat.le_of_ble_eq_true rfl⟩ rfl gp3 rfl (rest := []) rfl (Nat.le_of_ble_eq_true rfl) ⟨Nat.le_of_ble_eq_true rfl, Nat.le_of_ble_eq_true rfl⟩ (c_X3_pop x1 x2 h p3 ep3) ?_
  show mj_W mX8_undo (mj_FI p) 11 [(0, .ref v0)] [.int p3.1] p3.2 0 0
  refine mj_if_eq 5 18 rfl (by decide) (fun q => ?_) (fun q => ?_)
  · have hf := (if_pos q).symm.trans hf
    refine mj_blk k_X8_ok 8 2 (pc' := 21) (l' := [(0, .ref v0)]) (st' := [.int (-3 : Int32), .ref v0]) rfl ?_
    obtain ⟨gp4, hf⟩ := mj_gd hf
    obtain ⟨p4, ep4, hf⟩ := mj_bd hf
    refine mj_callV (T := TX8) (N := 14) (ci := 8) mX8_refused [.int (-3 : Int32)] 10 rfl ll_X8_102 lb_X8_refused li_X8_refused ⟨Nat.le_of_ble_eq_true rfl, Nat.le_of_ble_eq_true rfl⟩ rfl gp4 rfl (rest := []) rfl (Nat.le_of_ble_eq_true rfl) ⟨Nat.le_of_ble_eq_true rfl, Nat.le_of_ble_eq_true rfl⟩ (c_X8_refused v0 (-3 : Int32) p3.2 p4 ep4) ?_
    show mj_W mX8_undo (mj_FI p) 24 [(0, .ref v0)] [.int p4.1] p4.2 0 0
    obtain rfl := Option.some.inj hf
    exact mj_end (some (.int p4.1)) ⟨mj_dec tok_X8_undo (a := 11) rfl, .int, rfl, rfl⟩ ⟨rfl, rfl⟩ (Nat.le_of_ble_eq_true rfl) (Nat.le_of_ble_eq_true rfl)
  · have hf := (if_neg q).symm.trans hf
    refine mj_blk k_X8_ok 6 2 (pc' := 24) (l' := [(0, .ref v0)]) (st' := [.int (1 : Int32)]) rfl ?_
    obtain rfl := Option.some.inj hf
    exact mj_end (some (.int (1 : Int32))) ⟨mj_dec tok_X8_undo (a := 11) rfl, .int, rfl, rfl⟩ ⟨rfl, rfl⟩ (Nat.le_of_ble_eq_true rfl) (Nat.le_of_ble_eq_true rfl)
def f_X8_weight_21 (v0 : Nat) (h : mj_H) : Option (Int64 × mj_H) := (if mj_ob h v0 8 = true then (f_X8_refused v0 (-2 : Int32) h).bind fun p1 => some (((p1.1).toInt64), p1.2) else none)
set_option maxHeartbeats 4000000 in
set_option maxRecDepth 100000 in
theorem w_X8_weight_21 (v0 : Nat) (h : mj_H) (p : Int64 × mj_H) (hf : f_X8_weight_21  v0 h = some p) : mj_W mX8_weight (mj_FJ p) 21 [(0, .ref v0)] [] h 0 0 := by
  unfold f_X8_weight_21 at hf
  refine mj_blk k_X8_ok 10 2 (pc' := 24) (l' := [(0, .ref v0)]) (st' := [.int (-2 : Int32), .ref v0]) rfl ?_
  obtain ⟨gp1, hf⟩ := mj_gd hf
  obtain ⟨p1, ep1, hf⟩ := mj_bd hf
  refine mj_callV (T := TX8) (N := 14) (ci := 8) mX8_refused [.int (-2 : Int32)] 12 rfl ll_X8_102 lb_X8_refused li_X8_refused ⟨Nat.le_of_ble_eq_true rfl, Nat.le_of_ble_eq_true rfl⟩ rfl gp1 rfl (rest := []) rfl (Nat.le_of_ble_eq_true rfl) ⟨Nat.le_of_ble_eq_true rfl, Nat.le_of_ble_eq_true rfl⟩ (c_X8_refused v0 (-2 : Int32) h p1 ep1) ?_
  show mj_W mX8_weight (mj_FJ p) 27 [(0, .ref v0)] [.int p1.1] p1.2 0 0
  refine mj_blk k_X8_ok 13 1 (pc' := 28) (l' := [(0, .ref v0)]) (st' := [.long ((p1.1).toInt64)]) rfl ?_
  obtain rfl := Option.some.inj hf
  exact mj_end (some (.long ((p1.1).toInt64))) ⟨mj_dec tok_X8_weight (a := 14) rfl, rfl⟩ ⟨rfl, rfl⟩ (Nat.le_of_ble_eq_true rfl) (Nat.le_of_ble_eq_true rfl)
def f_X8_weight (v0 : Nat) (v1 : Int32) (v2 : Int32) (h : mj_H) : Option (Int64 × mj_H) := (mj_gR h v0 8 0).bind fun x2 => (if mj_ob h x2 0 = true then (f_X0_has x2 v1 h).bind fun p3 => (if p3.1 = 0 then f_X8_weight_21 v0 p3.2 else (if v2 < 0 then f_X8_weight_21 v0 p3.2 else (if v2 < (6 : Int32) then (mj_gR p3.2 v0 8 0).bind fun x4 => (if mj_ob p3.2 x4 0 = true then (f_X0_weightOf x4 v1 v2 p3.2).bind fun p5 => some (p5.1, p5.2) else none) else f_X8_weight_21 v0 p3.2))) else none)
set_option maxHeartbeats 4000000 in
set_option maxRecDepth 100000 in
theorem c_X8_weight (v0 : Nat) (v1 : Int32) (v2 : Int32) (h : mj_H) (p : Int64 × mj_H) (hf : f_X8_weight v0 v1 v2 h = some p) : mj_Met mX8_weight [.ref v0, .int v1, .int v2] h (some (.long p.1)) p.2 := by
  refine mj_met pl_X8 tok_X8_weight (Nat.le_of_ble_eq_true rfl) ?_
  show mj_W mX8_weight (mj_FJ p) 0 [(0, .ref v0), (1, .int v1), (2, .int v2)] [] h 0 0
  unfold f_X8_weight at hf
  refine mj_blk k_X8_ok 0 1 (pc' := 1) (l' := [(0, .ref v0), (1, .int v1), (2, .int v2)]) (st' := [.ref v0]) rfl ?_
  obtain ⟨x2, ex2, hf⟩ := mj_bd hf
  refine mj_get 1 rfl fl_X8_10 (mj_gR_V ex2) ?_
  refine mj_blk k_X8_ok 2 1 (pc' := 5) (l' := [(0, .ref v0), (1, .int v1), (2, .int v2)]) (st' := [.int v1, .ref x2]) rfl ?_
  obtain ⟨gp3, hf⟩ := mj_gd hf
  obtain ⟨p3, ep3, hf⟩ := mj_bd hf
  refine mj_callV (T := TX0) (N := 7) (ci := 0) mX0_has [.int v1] 3 rfl ll_X8_129 lb_X0_has li_X0_has ⟨Nat.le_of_ble_eq_true rfl, Nat.le_of_ble_eq_true rfl⟩ rfl gp3 rfl (rest := []) rfl (Nat.le_of_ble_eq_true rfl) ⟨Nat.le_of_ble_eq_true rfl, Nat.le_of_ble_eq_true rfl⟩ (c_X0_has x2 v1 h p3 ep3) ?_
  show mj_W mX8_weight (mj_FJ p) 8 [(0, .ref v0), (1, .int v1), (2, .int v2)] [.int p3.1] p3.2 0 0
  refine mj_if_eq 4 21 rfl (by decide) (fun q => ?_) (fun q => ?_)
  · have hf := (if_pos q).symm.trans hf
    refine mj_locs [0] (l' := [(0, .ref v0)]) rfl ?_
    exact w_X8_weight_21 v0 p3.2 _ hf
  · have hf := (if_neg q).symm.trans hf
    refine mj_blk k_X8_ok 5 1 (pc' := 12) (l' := [(0, .ref v0), (1, .int v1), (2, .int v2)]) (st' := [.int v2]) rfl ?_
    refine mj_if_lt 6 21 rfl (by decide) (fun q => ?_) (fun q => ?_)
    · have hf := (if_pos q).symm.trans hf
      refine mj_locs [0] (l' := [(0, .ref v0)]) rfl ?_
      exact w_X8_weight_21 v0 p3.2 _ hf
    · have hf := (if_neg q).symm.trans hf
      refine mj_blk k_X8_ok 7 2 (pc' := 18) (l' := [(0, .ref v0), (1, .int v1), (2, .int v2)]) (st' := [.int (6 : Int32), .int v2]) rfl ?_
      refine mj_icmp_lt 9 29 rfl (by decide) (fun q => ?_) (fun q => ?_)
      · have hf := (if_pos q).symm.trans hf
        refine mj_blk k_X8_ok 15 1 (pc' := 30) (l' := [(0, .ref v0), (1, .int v1), (2, .int v2)]) (st' := [.ref v0]) rfl ?_
        obtain ⟨x4, ex4, hf⟩ := mj_bd hf
        refine mj_get 16 rfl fl_X8_10 (mj_gR_V ex4) ?_
        refine mj_blk k_X8_ok 17 2 (pc' := 35) (l' := [(0, .ref v0), (1, .int v1), (2, .int v2)]) (st' := [.int v2, .int v1, .ref x4]) rfl ?_
        obtain ⟨gp5, hf⟩ := mj_gd hf
        obtain ⟨p5, ep5, hf⟩ := mj_bd hf
        refine mj_callV (T := TX0) (N := 7) (ci := 0) mX0_weightOf [.int v1, .int v2] 19 rfl ll_X8_156 lb_X0_weightOf li_X0_weightOf ⟨Nat.le_of_ble_eq_true rfl, Nat.le_of_ble_eq_true rfl⟩ rfl gp5 rfl (rest := []) rfl (Nat.le_of_ble_eq_true rfl) ⟨Nat.le_of_ble_eq_true rfl, Nat.le_of_ble_eq_true rfl⟩ (c_X0_weightOf x4 v1 v2 p3.2 p5 ep5) ?_
        show mj_W mX8_weight (mj_FJ p) 38 [(0, .ref v0), (1, .int v1), (2, .int v2)] [.long p5.1] p5.2 0 0
        obtain rfl := Option.some.inj hf
        exact mj_end (some (.long p5.1)) ⟨mj_dec tok_X8_weight (a := 20) rfl, rfl⟩ ⟨rfl, rfl⟩ (Nat.le_of_ble_eq_true rfl) (Nat.le_of_ble_eq_true rfl)
      · have hf := (if_neg q).symm.trans hf
        refine mj_locs [0] (l' := [(0, .ref v0)]) rfl ?_
        exact w_X8_weight_21 v0 p3.2 _ hf
def f_X8_cases_19 (v0 : Nat) (h : mj_H) : Option (Int32 × mj_H) := (if mj_ob h v0 8 = true then (f_X8_refused v0 (-2 : Int32) h).bind fun p1 => some (p1.1, p1.2) else none)
set_option maxHeartbeats 4000000 in
set_option maxRecDepth 100000 in
theorem w_X8_cases_19 (v0 : Nat) (h : mj_H) (p : Int32 × mj_H) (hf : f_X8_cases_19  v0 h = some p) : mj_W mX8_cases (mj_FI p) 19 [(0, .ref v0)] [] h 0 0 := by
  unfold f_X8_cases_19 at hf
  refine mj_blk k_X8_ok 10 2 (pc' := 22) (l' := [(0, .ref v0)]) (st' := [.int (-2 : Int32), .ref v0]) rfl ?_
  obtain ⟨gp1, hf⟩ := mj_gd hf
  obtain ⟨p1, ep1, hf⟩ := mj_bd hf
  refine mj_callV (T := TX8) (N := 14) (ci := 8) mX8_refused [.int (-2 : Int32)] 12 rfl ll_X8_102 lb_X8_refused li_X8_refused ⟨Nat.le_of_ble_eq_true rfl, Nat.le_of_ble_eq_true rfl⟩ rfl gp1 rfl (rest := []) rfl (Nat.le_of_ble_eq_true rfl) ⟨Nat.le_of_ble_eq_true rfl, Nat.le_of_ble_eq_true rfl⟩ (c_X8_refused v0 (-2 : Int32) h p1 ep1) ?_
  show mj_W mX8_cases (mj_FI p) 25 [(0, .ref v0)] [.int p1.1] p1.2 0 0
  obtain rfl := Option.some.inj hf
  exact mj_end (some (.int p1.1)) ⟨mj_dec tok_X8_cases (a := 13) rfl, .int, rfl, rfl⟩ ⟨rfl, rfl⟩ (Nat.le_of_ble_eq_true rfl) (Nat.le_of_ble_eq_true rfl)
def f_X8_cases (v0 : Nat) (v1 : Int32) (v2 : Int32) (v3 : Int32) (h : mj_H) : Option (Int32 × mj_H) := (if v1 < 0 then f_X8_cases_19 v0 h else (if (6 : Int32) ≤ v1 then f_X8_cases_19 v0 h else (if v2 < 0 then f_X8_cases_19 v0 h else (if v2 ≤ (3 : Int32) then (f_X8_casesOf v1 v2 v3 h).bind fun p2 => some (p2.1, p2.2) else f_X8_cases_19 v0 h))))
set_option maxHeartbeats 4000000 in
set_option maxRecDepth 100000 in
theorem c_X8_cases (v0 : Nat) (v1 : Int32) (v2 : Int32) (v3 : Int32) (h : mj_H) (p : Int32 × mj_H) (hf : f_X8_cases v0 v1 v2 v3 h = some p) : mj_Met mX8_cases [.ref v0, .int v1, .int v2, .int v3] h (some (.int p.1)) p.2 := by
  refine mj_met pl_X8 tok_X8_cases (Nat.le_of_ble_eq_true rfl) ?_
  show mj_W mX8_cases (mj_FI p) 0 [(0, .ref v0), (1, .int v1), (2, .int v2), (3, .int v3)] [] h 0 0
  unfold f_X8_cases at hf
  refine mj_blk k_X8_ok 0 1 (pc' := 1) (l' := [(0, .ref v0), (1, .int v1), (2, .int v2), (3, .int v3)]) (st' := [.int v1]) rfl ?_
  refine mj_if_lt 1 19 rfl (by decide) (fun q => ?_) (fun q => ?_)
  · have hf := (if_pos q).symm.trans hf
    refine mj_locs [0] (l' := [(0, .ref v0)]) rfl ?_
    exact w_X8_cases_19 v0 h _ hf
  · have hf := (if_neg q).symm.trans hf
    refine mj_blk k_X8_ok 2 2 (pc' := 7) (l' := [(0, .ref v0), (1, .int v1), (2, .int v2), (3, .int v3)]) (st' := [.int (6 : Int32), .int v1]) rfl ?_
    refine mj_icmp_ge 4 19 rfl (by decide) (fun q => ?_) (fun q => ?_)
    · have hf := (if_pos q).symm.trans hf
      refine mj_locs [0] (l' := [(0, .ref v0)]) rfl ?_
      exact w_X8_cases_19 v0 h _ hf
    · have hf := (if_neg q).symm.trans hf
      refine mj_blk k_X8_ok 5 1 (pc' := 11) (l' := [(0, .ref v0), (1, .int v1), (2, .int v2), (3, .int v3)]) (st' := [.int v2]) rfl ?_
      refine mj_if_lt 6 19 rfl (by decide) (fun q => ?_) (fun q => ?_)
      · have hf := (if_pos q).symm.trans hf
        refine mj_locs [0] (l' := [(0, .ref v0)]) rfl ?_
        exact w_X8_cases_19 v0 h _ hf
      · have hf := (if_neg q).symm.trans hf
        refine mj_blk k_X8_ok 7 2 (pc' := 16) (l' := [(0, .ref v0), (1, .int v1), (2, .int v2), (3, .int v3)]) (st' := [.int (3 : Int32), .int v2]) rfl ?_
        refine mj_icmp_le 9 26 rfl (by decide) (fun q => ?_) (fun q => ?_)
        · have hf := (if_pos q).symm.trans hf
          refine mj_blk k_X8_ok 14 3 (pc' := 29) (l' := [(0, .ref v0), (1, .int v1), (2, .int v2), (3, .int v3)]) (st' := [.int v3, .int v2, .int v1]) rfl ?_
          obtain ⟨p2, ep2, hf⟩ := mj_bd hf
          refine mj_callS mX8_casesOf [.int v1, .int v2, .int v3] 17 rfl ll_X8_160 lb_X8_casesOf li_X8_casesOf ⟨Nat.le_of_ble_eq_true rfl, Nat.le_of_ble_eq_true rfl⟩ rfl (rest := []) rfl (Nat.le_of_ble_eq_true rfl) ⟨Nat.le_of_ble_eq_true rfl, Nat.le_of_ble_eq_true rfl⟩ (c_X8_casesOf v1 v2 v3 h p2 ep2) ?_
          show mj_W mX8_cases (mj_FI p) 32 [(0, .ref v0), (1, .int v1), (2, .int v2), (3, .int v3)] [.int p2.1] p2.2 0 0
          obtain rfl := Option.some.inj hf
          exact mj_end (some (.int p2.1)) ⟨mj_dec tok_X8_cases (a := 18) rfl, .int, rfl, rfl⟩ ⟨rfl, rfl⟩ (Nat.le_of_ble_eq_true rfl) (Nat.le_of_ble_eq_true rfl)
        · have hf := (if_neg q).symm.trans hf
          refine mj_locs [0] (l' := [(0, .ref v0)]) rfl ?_
          exact w_X8_cases_19 v0 h _ hf
def f_X8_trust (v0 : Nat) (v1 : Int32) (h : mj_H) : Option (Int32 × mj_H) := (mj_gR h v0 8 0).bind fun x1 => (if mj_ob h x1 0 = true then (f_X0_has x1 v1 h).bind fun p2 => (if p2.1 = 0 then (if mj_ob p2.2 v0 8 = true then (f_X8_refused v0 (-2 : Int32) p2.2).bind fun p3 => some (p3.1, p3.2) else none) else (mj_gR p2.2 v0 8 0).bind fun x4 => (if mj_ob p2.2 x4 0 = true then (f_X0_trustOf x4 v1 p2.2).bind fun p5 => some (p5.1, p5.2) else none)) else none)
set_option maxHeartbeats 4000000 in
set_option maxRecDepth 100000 in
theorem c_X8_trust (v0 : Nat) (v1 : Int32) (h : mj_H) (p : Int32 × mj_H) (hf : f_X8_trust v0 v1 h = some p) : mj_Met mX8_trust [.ref v0, .int v1] h (some (.int p.1)) p.2 := by
  refine mj_met pl_X8 tok_X8_trust (Nat.le_of_ble_eq_true rfl) ?_
  show mj_W mX8_trust (mj_FI p) 0 [(0, .ref v0), (1, .int v1)] [] h 0 0
  unfold f_X8_trust at hf
  refine mj_blk k_X8_ok 0 1 (pc' := 1) (l' := [(0, .ref v0), (1, .int v1)]) (st' := [.ref v0]) rfl ?_
  obtain ⟨x1, ex1, hf⟩ := mj_bd hf
  refine mj_get 1 rfl fl_X8_10 (mj_gR_V ex1) ?_
  refine mj_blk k_X8_ok 2 1 (pc' := 5) (l' := [(0, .ref v0), (1, .int v1)]) (st' := [.int v1, .ref x1]) rfl ?_
  obtain ⟨gp2, hf⟩ := mj_gd hf
  obtain ⟨p2, ep2, hf⟩ := mj_bd hf
  refine mj_callV (T := TX0) (N := 7) (ci := 0) mX0_has [.int v1] 3 rfl ll_X8_129 lb_X0_has li_X0_has ⟨Nat.le_of_ble_eq_true rfl, Nat.le_of_ble_eq_true rfl⟩ rfl gp2 rfl (rest := []) rfl (Nat.le_of_ble_eq_true rfl) ⟨Nat.le_of_ble_eq_true rfl, Nat.le_of_ble_eq_true rfl⟩ (c_X0_has x1 v1 h p2 ep2) ?_
  show mj_W mX8_trust (mj_FI p) 8 [(0, .ref v0), (1, .int v1)] [.int p2.1] p2.2 0 0
  refine mj_if_eq 4 22 rfl (by decide) (fun q => ?_) (fun q => ?_)
  · have hf := (if_pos q).symm.trans hf
    refine mj_blk k_X8_ok 10 2 (pc' := 25) (l' := [(0, .ref v0), (1, .int v1)]) (st' := [.int (-2 : Int32), .ref v0]) rfl ?_
    obtain ⟨gp3, hf⟩ := mj_gd hf
    obtain ⟨p3, ep3, hf⟩ := mj_bd hf
    refine mj_callV (T := TX8) (N := 14) (ci := 8) mX8_refused [.int (-2 : Int32)] 12 rfl ll_X8_102 lb_X8_refused li_X8_refused ⟨Nat.le_of_ble_eq_true rfl, Nat.le_of_ble_eq_true rfl⟩ rfl gp3 rfl (rest := []) rfl (Nat.le_of_ble_eq_true rfl) ⟨Nat.le_of_ble_eq_true rfl, Nat.le_of_ble_eq_true rfl⟩ (c_X8_refused v0 (-2 : Int32) p2.2 p3 ep3) ?_
    show mj_W mX8_trust (mj_FI p) 28 [(0, .ref v0), (1, .int v1)] [.int p3.1] p3.2 0 0
    obtain rfl := Option.some.inj hf
    exact mj_end (some (.int p3.1)) ⟨mj_dec tok_X8_trust (a := 13) rfl, .int, rfl, rfl⟩ ⟨rfl, rfl⟩ (Nat.le_of_ble_eq_true rfl) (Nat.le_of_ble_eq_true rfl)
  · have hf := (if_neg q).symm.trans hf
    refine mj_blk k_X8_ok 5 1 (pc' := 12) (l' := [(0, .ref v0), (1, .int v1)]) (st' := [.ref v0]) rfl ?_
    obtain ⟨x4, ex4, hf⟩ := mj_bd hf
    refine mj_get 6 rfl fl_X8_10 (mj_gR_V ex4) ?_
    refine mj_blk k_X8_ok 7 1 (pc' := 16) (l' := [(0, .ref v0), (1, .int v1)]) (st' := [.int v1, .ref x4]) rfl ?_
    obtain ⟨gp5, hf⟩ := mj_gd hf
    obtain ⟨p5, ep5, hf⟩ := mj_bd hf
    refine mj_callV (T := TX0) (N := 7) (ci := 0) mX0_trustOf [.int v1] 8 rfl ll_X8_149 lb_X0_trustOf li_X0_trustOf ⟨Nat.le_of_ble_eq_true rfl, Nat.le_of_ble_eq_true rfl⟩ rfl gp5 rfl (rest := []) rfl (Nat.le_of_ble_eq_true rfl) ⟨Nat.le_of_ble_eq_true rfl, Nat.le_of_ble_eq_true rfl⟩ (c_X0_trustOf x4 v1 p2.2 p5 ep5) ?_
    show mj_W mX8_trust (mj_FI p) 19 [(0, .ref v0), (1, .int v1)] [.int p5.1] p5.2 0 0
    refine mj_blk k_X8_ok 9 1 (pc' := 28) (l' := [(0, .ref v0), (1, .int v1)]) (st' := [.int p5.1]) rfl ?_
    obtain rfl := Option.some.inj hf
    exact mj_end (some (.int p5.1)) ⟨mj_dec tok_X8_trust (a := 13) rfl, .int, rfl, rfl⟩ ⟨rfl, rfl⟩ (Nat.le_of_ble_eq_true rfl) (Nat.le_of_ble_eq_true rfl)
def f_X8_shows_30 (v0 : Nat) (h : mj_H) : Option (Int32 × mj_H) := (if mj_ob h v0 8 = true then (f_X8_refused v0 (-2 : Int32) h).bind fun p1 => some (p1.1, p1.2) else none)
set_option maxHeartbeats 4000000 in
set_option maxRecDepth 100000 in
theorem w_X8_shows_30 (v0 : Nat) (h : mj_H) (p : Int32 × mj_H) (hf : f_X8_shows_30  v0 h = some p) : mj_W mX8_shows (mj_FI p) 30 [(0, .ref v0)] [] h 0 0 := by
  unfold f_X8_shows_30 at hf
  refine mj_blk k_X8_ok 14 2 (pc' := 33) (l' := [(0, .ref v0)]) (st' := [.int (-2 : Int32), .ref v0]) rfl ?_
  obtain ⟨gp1, hf⟩ := mj_gd hf
  obtain ⟨p1, ep1, hf⟩ := mj_bd hf
  refine mj_callV (T := TX8) (N := 14) (ci := 8) mX8_refused [.int (-2 : Int32)] 16 rfl ll_X8_102 lb_X8_refused li_X8_refused ⟨Nat.le_of_ble_eq_true rfl, Nat.le_of_ble_eq_true rfl⟩ rfl gp1 rfl (rest := []) rfl (Nat.le_of_ble_eq_true rfl) ⟨Nat.le_of_ble_eq_true rfl, Nat.le_of_ble_eq_true rfl⟩ (c_X8_refused v0 (-2 : Int32) h p1 ep1) ?_
  show mj_W mX8_shows (mj_FI p) 36 [(0, .ref v0)] [.int p1.1] p1.2 0 0
  obtain rfl := Option.some.inj hf
  exact mj_end (some (.int p1.1)) ⟨mj_dec tok_X8_shows (a := 17) rfl, .int, rfl, rfl⟩ ⟨rfl, rfl⟩ (Nat.le_of_ble_eq_true rfl) (Nat.le_of_ble_eq_true rfl)
def f_X8_shows (v0 : Nat) (v1 : Int32) (v2 : Int32) (h : mj_H) : Option (Int32 × mj_H) := (mj_gR h v0 8 0).bind fun x2 => (if mj_ob h x2 0 = true then (f_X0_has x2 v1 h).bind fun p3 => (if p3.1 = 0 then f_X8_shows_30 v0 p3.2 else (f_X8_isTest v2 p3.2).bind fun p4 => (if p4.1 = 0 then f_X8_shows_30 v0 p4.2 else (mj_gR p4.2 v0 8 0).bind fun x5 => (if mj_ob p4.2 x5 0 = true then (f_X0_showsOf x5 v1 v2 p4.2).bind fun p6 => some (p6.1, p6.2) else none))) else none)
set_option maxHeartbeats 4000000 in
set_option maxRecDepth 100000 in
theorem c_X8_shows (v0 : Nat) (v1 : Int32) (v2 : Int32) (h : mj_H) (p : Int32 × mj_H) (hf : f_X8_shows v0 v1 v2 h = some p) : mj_Met mX8_shows [.ref v0, .int v1, .int v2] h (some (.int p.1)) p.2 := by
  refine mj_met pl_X8 tok_X8_shows (Nat.le_of_ble_eq_true rfl) ?_
  show mj_W mX8_shows (mj_FI p) 0 [(0, .ref v0), (1, .int v1), (2, .int v2)] [] h 0 0
  unfold f_X8_shows at hf
  refine mj_blk k_X8_ok 0 1 (pc' := 1) (l' := [(0, .ref v0), (1, .int v1), (2, .int v2)]) (st' := [.ref v0]) rfl ?_
  obtain ⟨x2, ex2, hf⟩ := mj_bd hf
  refine mj_get 1 rfl fl_X8_10 (mj_gR_V ex2) ?_
  refine mj_blk k_X8_ok 2 1 (pc' := 5) (l' := [(0, .ref v0), (1, .int v1), (2, .int v2)]) (st' := [.int v1, .ref x2]) rfl ?_
  obtain ⟨gp3, hf⟩ := mj_gd hf
  obtain ⟨p3, ep3, hf⟩ := mj_bd hf
  refine mj_callV (T := TX0) (N := 7) (ci := 0) mX0_has [.int v1] 3 rfl ll_X8_129 lb_X0_has li_X0_has ⟨Nat.le_of_ble_eq_true rfl, Nat.le_of_ble_eq_true rfl⟩ rfl gp3 rfl (rest := []) rfl (Nat.le_of_ble_eq_true rfl) ⟨Nat.le_of_ble_eq_true rfl, Nat.le_of_ble_eq_true rfl⟩ (c_X0_has x2 v1 h p3 ep3) ?_
  show mj_W mX8_shows (mj_FI p) 8 [(0, .ref v0), (1, .int v1), (2, .int v2)] [.int p3.1] p3.2 0 0
  refine mj_if_eq 4 30 rfl (by decide) (fun q => ?_) (fun q => ?_)
  · have hf := (if_pos q).symm.trans hf
    refine mj_locs [0] (l' := [(0, .ref v0)]) rfl ?_
    exact w_X8_shows_30 v0 p3.2 _ hf
  · have hf := (if_neg q).symm.trans hf
    refine mj_blk k_X8_ok 5 1 (pc' := 12) (l' := [(0, .ref v0), (1, .int v1), (2, .int v2)]) (st' := [.int v2]) rfl ?_
    obtain ⟨p4, ep4, hf⟩ := mj_bd hf
    refine mj_callS mX8_isTest [.int v2] 6 rfl ll_X8_133 lb_X8_isTest li_X8_isTest ⟨Nat.le_of_ble_eq_true rfl, Nat.le_of_ble_eq_true rfl⟩ rfl (rest := []) rfl (Nat.le_of_ble_eq_true rfl) ⟨Nat.le_of_ble_eq_true rfl, Nat.le_of_ble_eq_true rfl⟩ (c_X8_isTest v2 p3.2 p4 ep4) ?_
    show mj_W mX8_shows (mj_FI p) 15 [(0, .ref v0), (1, .int v1), (2, .int v2)] [.int p4.1] p4.2 0 0
    refine mj_if_eq 7 30 rfl (by decide) (fun q => ?_) (fun q => ?_)
    · have hf := (if_pos q).symm.trans hf
      refine mj_locs [0] (l' := [(0, .ref v0)]) rfl ?_
      exact w_X8_shows_30 v0 p4.2 _ hf
    · have hf := (if_neg q).symm.trans hf
      refine mj_blk k_X8_ok 8 1 (pc' := 19) (l' := [(0, .ref v0), (1, .int v1), (2, .int v2)]) (st' := [.ref v0]) rfl ?_
      obtain ⟨x5, ex5, hf⟩ := mj_bd hf
      refine mj_get 9 rfl fl_X8_10 (mj_gR_V ex5) ?_
      refine mj_blk k_X8_ok 10 2 (pc' := 24) (l' := [(0, .ref v0), (1, .int v1), (2, .int v2)]) (st' := [.int v2, .int v1, .ref x5]) rfl ?_
      obtain ⟨gp6, hf⟩ := mj_gd hf
      obtain ⟨p6, ep6, hf⟩ := mj_bd hf
      refine mj_callV (T := TX0) (N := 7) (ci := 0) mX0_showsOf [.int v1, .int v2] 12 rfl ll_X8_164 lb_X0_showsOf li_X0_showsOf ⟨Nat.le_of_ble_eq_true rfl, Nat.le_of_ble_eq_true rfl⟩ rfl gp6 rfl (rest := []) rfl (Nat.le_of_ble_eq_true rfl) ⟨Nat.le_of_ble_eq_true rfl, Nat.le_of_ble_eq_true rfl⟩ (c_X0_showsOf x5 v1 v2 p4.2 p6 ep6) ?_
      show mj_W mX8_shows (mj_FI p) 27 [(0, .ref v0), (1, .int v1), (2, .int v2)] [.int p6.1] p6.2 0 0
      refine mj_blk k_X8_ok 13 1 (pc' := 36) (l' := [(0, .ref v0), (1, .int v1), (2, .int v2)]) (st' := [.int p6.1]) rfl ?_
      obtain rfl := Option.some.inj hf
      exact mj_end (some (.int p6.1)) ⟨mj_dec tok_X8_shows (a := 17) rfl, .int, rfl, rfl⟩ ⟨rfl, rfl⟩ (Nat.le_of_ble_eq_true rfl) (Nat.le_of_ble_eq_true rfl)
def f_X8_of (v0 : Nat) (v1 : Int32) (v2 : Int32) (h : mj_H) : Option (Int32 × mj_H) := (mj_gR h v0 8 0).bind fun x1 => (if mj_ob h x1 0 = true then (f_X0_has x1 v1 h).bind fun p2 => (if p2.1 = 0 then (if mj_ob p2.2 v0 8 = true then (f_X8_refused v0 (-2 : Int32) p2.2).bind fun p12 => some (p12.1, p12.2) else none) else (if v2 = (0 : Int32) then (mj_gR p2.2 v0 8 0).bind fun x3 => (if mj_ob p2.2 x3 0 = true then (f_X0_signsOf x3 v1 p2.2).bind fun p4 => some (p4.1, p4.2) else none) else (if v2 = (1 : Int32) then (mj_gR p2.2 v0 8 0).bind fun x5 => (if mj_ob p2.2 x5 0 = true then (f_X0_brothersOf x5 v1 p2.2).bind fun p6 => some (p6.1, p6.2) else none) else (if v2 = (2 : Int32) then (mj_gR p2.2 v0 8 0).bind fun x7 => (if mj_ob p2.2 x7 0 = true then (f_X0_knows x7 v1 p2.2).bind fun p8 => (if p8.1 = 0 then some ((0 : Int32), p8.2) else some ((1 : Int32), p8.2)) else none) else (if v2 = (3 : Int32) then (mj_gR p2.2 v0 8 0).bind fun x9 => (if mj_ob p2.2 x9 0 = true then (f_X0_likeliestOf x9 v1 p2.2).bind fun p10 => some (p10.1, p10.2) else none) else (if mj_ob p2.2 v0 8 = true then (f_X8_refused v0 (-2 : Int32) p2.2).bind fun p11 => some (p11.1, p11.2) else none)))))) else none)
set_option maxHeartbeats 4000000 in
set_option maxRecDepth 100000 in
theorem c_X8_of (v0 : Nat) (v1 : Int32) (v2 : Int32) (h : mj_H) (p : Int32 × mj_H) (hf : f_X8_of v0 v1 v2 h = some p) : mj_Met mX8_of [.ref v0, .int v1, .int v2] h (some (.int p.1)) p.2 := by
  refine mj_met pl_X8 tok_X8_of (Nat.le_of_ble_eq_true rfl) ?_
  show mj_W mX8_of (mj_FI p) 0 [(0, .ref v0), (1, .int v1), (2, .int v2)] [] h 0 0
  unfold f_X8_of at hf
  refine mj_blk k_X8_ok 0 1 (pc' := 1) (l' := [(0, .ref v0), (1, .int v1), (2, .int v2)]) (st' := [.ref v0]) rfl ?_
  obtain ⟨x1, ex1, hf⟩ := mj_bd hf
  refine mj_get 1 rfl fl_X8_10 (mj_gR_V ex1) ?_
  refine mj_blk k_X8_ok 2 1 (pc' := 5) (l' := [(0, .ref v0), (1, .int v1), (2, .int v2)]) (st' := [.int v1, .ref x1]) rfl ?_
  obtain ⟨gp2, hf⟩ := mj_gd hf
  obtain ⟨p2, ep2, hf⟩ := mj_bd hf
  refine mj_callV (T := TX0) (N := 7) (ci := 0) mX0_has [.int v1] 3 rfl ll_X8_129 lb_X0_has li_X0_has ⟨Nat.le_of_ble_eq_true rfl, Nat.le_of_ble_eq_true rfl⟩ rfl gp2 rfl (rest := []) rfl (Nat.le_of_ble_eq_true rfl) ⟨Nat.le_of_ble_eq_true rfl, Nat.le_of_ble_eq_true rfl⟩ (c_X0_has x1 v1 h p2 ep2) ?_
  show mj_W mX8_of (mj_FI p) 8 [(0, .ref v0), (1, .int v1), (2, .int v2)] [.int p2.1] p2.2 0 0
  refine mj_if_ne 4 18 rfl (by decide) (fun q => ?_) (fun q => ?_)
  · have hf := (if_neg q).symm.trans hf
    refine mj_blk k_X8_ok 9 1 (pc' := 19) (l' := [(0, .ref v0), (1, .int v1), (2, .int v2)]) (st' := [.int v2]) rfl ?_
    by_cases q0 : v2 = (0 : Int32)
    · have hf := (if_pos q0).symm.trans hf
      refine mj_swIn 10 (0 : Int32) 48 q0 rfl (by decide) (by decide) rfl (by decide) ?_
      refine mj_blk k_X8_ok 11 1 (pc' := 49) (l' := [(0, .ref v0), (1, .int v1), (2, .int v2)]) (st' := [.ref v0]) rfl ?_
      obtain ⟨x3, ex3, hf⟩ := mj_bd hf
      refine mj_get 12 rfl fl_X8_10 (mj_gR_V ex3) ?_
      refine mj_blk k_X8_ok 13 1 (pc' := 53) (l' := [(0, .ref v0), (1, .int v1), (2, .int v2)]) (st' := [.int v1, .ref x3]) rfl ?_
      obtain ⟨gp4, hf⟩ := mj_gd hf
      obtain ⟨p4, ep4, hf⟩ := mj_bd hf
      refine mj_callV (T := TX0) (N := 7) (ci := 0) mX0_signsOf [.int v1] 14 rfl ll_X8_167 lb_X0_signsOf li_X0_signsOf ⟨Nat.le_of_ble_eq_true rfl, Nat.le_of_ble_eq_true rfl⟩ rfl gp4 rfl (rest := []) rfl (Nat.le_of_ble_eq_true rfl) ⟨Nat.le_of_ble_eq_true rfl, Nat.le_of_ble_eq_true rfl⟩ (c_X0_signsOf x3 v1 p2.2 p4 ep4) ?_
      show mj_W mX8_of (mj_FI p) 56 [(0, .ref v0), (1, .int v1), (2, .int v2)] [.int p4.1] p4.2 0 0
      obtain rfl := Option.some.inj hf
      exact mj_end (some (.int p4.1)) ⟨mj_dec tok_X8_of (a := 15) rfl, .int, rfl, rfl⟩ ⟨rfl, rfl⟩ (Nat.le_of_ble_eq_true rfl) (Nat.le_of_ble_eq_true rfl)
    have hf := (if_neg q0).symm.trans hf
    by_cases q1 : v2 = (1 : Int32)
    · have hf := (if_pos q1).symm.trans hf
      refine mj_swIn 10 (1 : Int32) 57 q1 rfl (by decide) (by decide) rfl (by decide) ?_
      refine mj_blk k_X8_ok 16 1 (pc' := 58) (l' := [(0, .ref v0), (1, .int v1), (2, .int v2)]) (st' := [.ref v0]) rfl ?_
      obtain ⟨x5, ex5, hf⟩ := mj_bd hf
      refine mj_get 17 rfl fl_X8_10 (mj_gR_V ex5) ?_
      refine mj_blk k_X8_ok 18 1 (pc' := 62) (l' := [(0, .ref v0), (1, .int v1), (2, .int v2)]) (st' := [.int v1, .ref x5]) rfl ?_
      obtain ⟨gp6, hf⟩ := mj_gd hf
      obtain ⟨p6, ep6, hf⟩ := mj_bd hf
      refine mj_callV (T := TX0) (N := 7) (ci := 0) mX0_brothersOf [.int v1] 19 rfl ll_X8_170 lb_X0_brothersOf li_X0_brothersOf ⟨Nat.le_of_ble_eq_true rfl, Nat.le_of_ble_eq_true rfl⟩ rfl gp6 rfl (rest := []) rfl (Nat.le_of_ble_eq_true rfl) ⟨Nat.le_of_ble_eq_true rfl, Nat.le_of_ble_eq_true rfl⟩ (c_X0_brothersOf x5 v1 p2.2 p6 ep6) ?_
      show mj_W mX8_of (mj_FI p) 65 [(0, .ref v0), (1, .int v1), (2, .int v2)] [.int p6.1] p6.2 0 0
      obtain rfl := Option.some.inj hf
      exact mj_end (some (.int p6.1)) ⟨mj_dec tok_X8_of (a := 20) rfl, .int, rfl, rfl⟩ ⟨rfl, rfl⟩ (Nat.le_of_ble_eq_true rfl) (Nat.le_of_ble_eq_true rfl)
    have hf := (if_neg q1).symm.trans hf
    by_cases q2 : v2 = (2 : Int32)
    · have hf := (if_pos q2).symm.trans hf
      refine mj_swIn 10 (2 : Int32) 66 q2 rfl (by decide) (by decide) rfl (by decide) ?_
      refine mj_blk k_X8_ok 21 1 (pc' := 67) (l' := [(0, .ref v0), (1, .int v1), (2, .int v2)]) (st' := [.ref v0]) rfl ?_
      obtain ⟨x7, ex7, hf⟩ := mj_bd hf
      refine mj_get 22 rfl fl_X8_10 (mj_gR_V ex7) ?_
      refine mj_blk k_X8_ok 23 1 (pc' := 71) (l' := [(0, .ref v0), (1, .int v1), (2, .int v2)]) (st' := [.int v1, .ref x7]) rfl ?_
      obtain ⟨gp8, hf⟩ := mj_gd hf
      obtain ⟨p8, ep8, hf⟩ := mj_bd hf
      refine mj_callV (T := TX0) (N := 7) (ci := 0) mX0_knows [.int v1] 24 rfl ll_X8_173 lb_X0_knows li_X0_knows ⟨Nat.le_of_ble_eq_true rfl, Nat.le_of_ble_eq_true rfl⟩ rfl gp8 rfl (rest := []) rfl (Nat.le_of_ble_eq_true rfl) ⟨Nat.le_of_ble_eq_true rfl, Nat.le_of_ble_eq_true rfl⟩ (c_X0_knows x7 v1 p2.2 p8 ep8) ?_
      show mj_W mX8_of (mj_FI p) 74 [(0, .ref v0), (1, .int v1), (2, .int v2)] [.int p8.1] p8.2 0 0
      refine mj_if_eq 25 81 rfl (by decide) (fun q => ?_) (fun q => ?_)
      · have hf := (if_pos q).symm.trans hf
        refine mj_blk k_X8_ok 28 1 (pc' := 82) (l' := [(0, .ref v0), (1, .int v1), (2, .int v2)]) (st' := [.int (0 : Int32)]) rfl ?_
        obtain rfl := Option.some.inj hf
        exact mj_end (some (.int (0 : Int32))) ⟨mj_dec tok_X8_of (a := 29) rfl, .int, rfl, rfl⟩ ⟨rfl, rfl⟩ (Nat.le_of_ble_eq_true rfl) (Nat.le_of_ble_eq_true rfl)
      · have hf := (if_neg q).symm.trans hf
        refine mj_blk k_X8_ok 26 2 (pc' := 82) (l' := [(0, .ref v0), (1, .int v1), (2, .int v2)]) (st' := [.int (1 : Int32)]) rfl ?_
        obtain rfl := Option.some.inj hf
        exact mj_end (some (.int (1 : Int32))) ⟨mj_dec tok_X8_of (a := 29) rfl, .int, rfl, rfl⟩ ⟨rfl, rfl⟩ (Nat.le_of_ble_eq_true rfl) (Nat.le_of_ble_eq_true rfl)
    have hf := (if_neg q2).symm.trans hf
    by_cases q3 : v2 = (3 : Int32)
    · have hf := (if_pos q3).symm.trans hf
      refine mj_swIn 10 (3 : Int32) 83 q3 rfl (by decide) (by decide) rfl (by decide) ?_
      refine mj_blk k_X8_ok 30 1 (pc' := 84) (l' := [(0, .ref v0), (1, .int v1), (2, .int v2)]) (st' := [.ref v0]) rfl ?_
      obtain ⟨x9, ex9, hf⟩ := mj_bd hf
      refine mj_get 31 rfl fl_X8_10 (mj_gR_V ex9) ?_
      refine mj_blk k_X8_ok 32 1 (pc' := 88) (l' := [(0, .ref v0), (1, .int v1), (2, .int v2)]) (st' := [.int v1, .ref x9]) rfl ?_
      obtain ⟨gp10, hf⟩ := mj_gd hf
      obtain ⟨p10, ep10, hf⟩ := mj_bd hf
      refine mj_callV (T := TX0) (N := 7) (ci := 0) mX0_likeliestOf [.int v1] 33 rfl ll_X8_176 lb_X0_likeliestOf li_X0_likeliestOf ⟨Nat.le_of_ble_eq_true rfl, Nat.le_of_ble_eq_true rfl⟩ rfl gp10 rfl (rest := []) rfl (Nat.le_of_ble_eq_true rfl) ⟨Nat.le_of_ble_eq_true rfl, Nat.le_of_ble_eq_true rfl⟩ (c_X0_likeliestOf x9 v1 p2.2 p10 ep10) ?_
      show mj_W mX8_of (mj_FI p) 91 [(0, .ref v0), (1, .int v1), (2, .int v2)] [.int p10.1] p10.2 0 0
      obtain rfl := Option.some.inj hf
      exact mj_end (some (.int p10.1)) ⟨mj_dec tok_X8_of (a := 34) rfl, .int, rfl, rfl⟩ ⟨rfl, rfl⟩ (Nat.le_of_ble_eq_true rfl) (Nat.le_of_ble_eq_true rfl)
    have hf := (if_neg q3).symm.trans hf
    refine mj_swOut 10 92 rfl (by have z0 := mj_neI (i := 0) (by decide) q0; have z1 := mj_neI (i := 1) (by decide) q1; have z2 := mj_neI (i := 2) (by decide) q2; have z3 := mj_neI (i := 3) (by decide) q3; omega) (by decide) ?_
    refine mj_blk k_X8_ok 35 2 (pc' := 95) (l' := [(0, .ref v0), (1, .int v1), (2, .int v2)]) (st' := [.int (-2 : Int32), .ref v0]) rfl ?_
    obtain ⟨gp11, hf⟩ := mj_gd hf
    obtain ⟨p11, ep11, hf⟩ := mj_bd hf
    refine mj_callV (T := TX8) (N := 14) (ci := 8) mX8_refused [.int (-2 : Int32)] 37 rfl ll_X8_102 lb_X8_refused li_X8_refused ⟨Nat.le_of_ble_eq_true rfl, Nat.le_of_ble_eq_true rfl⟩ rfl gp11 rfl (rest := []) rfl (Nat.le_of_ble_eq_true rfl) ⟨Nat.le_of_ble_eq_true rfl, Nat.le_of_ble_eq_true rfl⟩ (c_X8_refused v0 (-2 : Int32) p2.2 p11 ep11) ?_
    show mj_W mX8_of (mj_FI p) 98 [(0, .ref v0), (1, .int v1), (2, .int v2)] [.int p11.1] p11.2 0 0
    obtain rfl := Option.some.inj hf
    exact mj_end (some (.int p11.1)) ⟨mj_dec tok_X8_of (a := 38) rfl, .int, rfl, rfl⟩ ⟨rfl, rfl⟩ (Nat.le_of_ble_eq_true rfl) (Nat.le_of_ble_eq_true rfl)
  · have hf := (if_pos q).symm.trans hf
    refine mj_blk k_X8_ok 5 2 (pc' := 14) (l' := [(0, .ref v0), (1, .int v1), (2, .int v2)]) (st' := [.int (-2 : Int32), .ref v0]) rfl ?_
    obtain ⟨gp12, hf⟩ := mj_gd hf
    obtain ⟨p12, ep12, hf⟩ := mj_bd hf
    refine mj_callV (T := TX8) (N := 14) (ci := 8) mX8_refused [.int (-2 : Int32)] 7 rfl ll_X8_102 lb_X8_refused li_X8_refused ⟨Nat.le_of_ble_eq_true rfl, Nat.le_of_ble_eq_true rfl⟩ rfl gp12 rfl (rest := []) rfl (Nat.le_of_ble_eq_true rfl) ⟨Nat.le_of_ble_eq_true rfl, Nat.le_of_ble_eq_true rfl⟩ (c_X8_refused v0 (-2 : Int32) p2.2 p12 ep12) ?_
    show mj_W mX8_of (mj_FI p) 17 [(0, .ref v0), (1, .int v1), (2, .int v2)] [.int p12.1] p12.2 0 0
    obtain rfl := Option.some.inj hf
    exact mj_end (some (.int p12.1)) ⟨mj_dec tok_X8_of (a := 8) rfl, .int, rfl, rfl⟩ ⟨rfl, rfl⟩ (Nat.le_of_ble_eq_true rfl) (Nat.le_of_ble_eq_true rfl)
def f_X8_isNeed (v0 : Int32) (h : mj_H) : Option (Int32 × mj_H) := (if v0 < 0 then some ((0 : Int32), h) else (if (6 : Int32) < v0 then some ((0 : Int32), h) else some ((1 : Int32), h)))
set_option maxHeartbeats 4000000 in
set_option maxRecDepth 100000 in
theorem c_X8_isNeed (v0 : Int32) (h : mj_H) (p : Int32 × mj_H) (hf : f_X8_isNeed v0 h = some p) : mj_Met mX8_isNeed [.int v0] h (some (.int p.1)) p.2 := by
  refine mj_met pl_X8 tok_X8_isNeed (Nat.le_of_ble_eq_true rfl) ?_
  show mj_W mX8_isNeed (mj_FI p) 0 [(0, .int v0)] [] h 0 0
  unfold f_X8_isNeed at hf
  refine mj_blk k_X8_ok 0 1 (pc' := 1) (l' := [(0, .int v0)]) (st' := [.int v0]) rfl ?_
  refine mj_if_lt 1 14 rfl (by decide) (fun q => ?_) (fun q => ?_)
  · have hf := (if_pos q).symm.trans hf
    refine mj_blk k_X8_ok 7 1 (pc' := 15) (l' := [(0, .int v0)]) (st' := [.int (0 : Int32)]) rfl ?_
    obtain rfl := Option.some.inj hf
    exact mj_end (some (.int (0 : Int32))) ⟨mj_dec tok_X8_isNeed (a := 8) rfl, .boolean, rfl, rfl⟩ ⟨rfl, rfl⟩ (Nat.le_of_ble_eq_true rfl) (Nat.le_of_ble_eq_true rfl)
  · have hf := (if_neg q).symm.trans hf
    refine mj_blk k_X8_ok 2 2 (pc' := 7) (l' := [(0, .int v0)]) (st' := [.int (6 : Int32), .int v0]) rfl ?_
    refine mj_icmp_gt 4 14 rfl (by decide) (fun q => ?_) (fun q => ?_)
    · have hf := (if_pos q).symm.trans hf
      refine mj_blk k_X8_ok 7 1 (pc' := 15) (l' := [(0, .int v0)]) (st' := [.int (0 : Int32)]) rfl ?_
      obtain rfl := Option.some.inj hf
      exact mj_end (some (.int (0 : Int32))) ⟨mj_dec tok_X8_isNeed (a := 8) rfl, .boolean, rfl, rfl⟩ ⟨rfl, rfl⟩ (Nat.le_of_ble_eq_true rfl) (Nat.le_of_ble_eq_true rfl)
    · have hf := (if_neg q).symm.trans hf
      refine mj_blk k_X8_ok 5 2 (pc' := 15) (l' := [(0, .int v0)]) (st' := [.int (1 : Int32)]) rfl ?_
      obtain rfl := Option.some.inj hf
      exact mj_end (some (.int (1 : Int32))) ⟨mj_dec tok_X8_isNeed (a := 8) rfl, .boolean, rfl, rfl⟩ ⟨rfl, rfl⟩ (Nat.le_of_ble_eq_true rfl) (Nat.le_of_ble_eq_true rfl)
def b_X8_hold_52 (K52 : Nat → Int32 → Int64 → Int64 → Int32 → mj_H → Option (Int32 × mj_H)) (v0 : Nat) (v1 : Int32) (v3 : Int64) (v5 : Int64) (v7 : Int32) (h : mj_H) : Option (Int32 × mj_H) := (f_J6_bitCount_0f7a4 v1 h).bind fun p1 => (if p1.1 ≤ v7 then (f_X8_greatestCommon v3 v5 p1.2).bind fun p2 => (if p2.1 ≤ (0 : Int64) then some ((1 : Int32), p2.2) else (if p2.1 = 0 then none else (mj_sV p2.2 v0 8 9 (.long (v3 / p2.1))).bind fun h3 => (if p2.1 = 0 then none else (mj_sV h3 v0 8 10 (.long (v5 / p2.1))).bind fun h4 => some ((1 : Int32), h4)))) else K52 v0 v1 v3 (v5 * (60 : Int64)) (v7 + (1 : Int32)) p1.2)
set_option maxHeartbeats 4000000 in
set_option maxRecDepth 100000 in
theorem wb_X8_hold_52 (K52 : Nat → Int32 → Int64 → Int64 → Int32 → mj_H → Option (Int32 × mj_H)) (hK52 : ∀ (v0 : Nat) (v1 : Int32) (v3 : Int64) (v5 : Int64) (v7 : Int32)  (h : mj_H) (p : Int32 × mj_H), K52 v0 v1 v3 v5 v7 h = some p → mj_W mX8_hold (mj_FI p) 52 [(0, .ref v0), (1, .int v1), (3, .long v3), (5, .long v5), (7, .int v7)] [] h 0 0) (v0 : Nat) (v1 : Int32) (v3 : Int64) (v5 : Int64) (v7 : Int32) (h : mj_H) (p : Int32 × mj_H) (hf : b_X8_hold_52  K52 v0 v1 v3 v5 v7 h = some p) : mj_W mX8_hold (mj_FI p) 52 [(0, .ref v0), (1, .int v1), (3, .long v3), (5, .long v5), (7, .int v7)] [] h 0 0 := by
  unfold b_X8_hold_52 at hf
  refine mj_blk k_X8_ok 27 2 (pc' := 55) (l' := [(0, .ref v0), (1, .int v1), (3, .long v3), (5, .long v5), (7, .int v7)]) (st' := [.int v1, .int v7]) rfl ?_
  obtain ⟨p1, ep1, hf⟩ := mj_bd hf
  refine mj_callS mJ6_bitCount_0f7a4 [.int v1] 29 rfl ll_X8_191 lb_J6_bitCount_0f7a4 li_J6_bitCount_0f7a4 ⟨Nat.le_of_ble_eq_true rfl, Nat.le_of_ble_eq_true rfl⟩ rfl (rest := [.int v7]) rfl (Nat.le_of_ble_eq_true rfl) ⟨Nat.le_of_ble_eq_true rfl, Nat.le_of_ble_eq_true rfl⟩ (c_J6_bitCount_0f7a4 v1 h p1 ep1) ?_
  show mj_W mX8_hold (mj_FI p) 58 [(0, .ref v0), (1, .int v1), (3, .long v3), (5, .long v5), (7, .int v7)] [.int p1.1, .int v7] p1.2 0 0
  refine mj_icmp_ge 30 75 rfl (by decide) (fun q => ?_) (fun q => ?_)
  · have hf := (if_pos q).symm.trans hf
    refine mj_blk k_X8_ok 37 2 (pc' := 78) (l' := [(0, .ref v0), (1, .int v1), (3, .long v3), (5, .long v5), (7, .int v7)]) (st' := [.long v5, .long v3]) rfl ?_
    obtain ⟨p2, ep2, hf⟩ := mj_bd hf
    refine mj_callS mX8_greatestCommon [.long v3, .long v5] 39 rfl ll_X8_198 lb_X8_greatestCommon li_X8_greatestCommon ⟨Nat.le_of_ble_eq_true rfl, Nat.le_of_ble_eq_true rfl⟩ rfl (rest := []) rfl (Nat.le_of_ble_eq_true rfl) ⟨Nat.le_of_ble_eq_true rfl, Nat.le_of_ble_eq_true rfl⟩ (c_X8_greatestCommon v3 v5 p1.2 p2 ep2) ?_
    show mj_W mX8_hold (mj_FI p) 81 [(0, .ref v0), (1, .int v1), (3, .long v3), (5, .long v5), (7, .int v7)] [.long p2.1] p2.2 0 0
    refine mj_blk k_X8_ok 40 3 (pc' := 86) (l' := [(7, .long p2.1), (0, .ref v0), (1, .int v1), (3, .long v3), (5, .long v5)]) (st' := [.long (0 : Int64), .long p2.1]) rfl ?_
    refine mj_lcmp_le 43 107 rfl rfl (by decide) (fun q => ?_) (fun q => ?_)
    · have hf := (if_pos q).symm.trans hf
      refine mj_blk k_X8_ok 55 1 (pc' := 108) (l' := [(7, .long p2.1), (0, .ref v0), (1, .int v1), (3, .long v3), (5, .long v5)]) (st' := [.int (1 : Int32)]) rfl ?_
      obtain rfl := Option.some.inj hf
      exact mj_end (some (.int (1 : Int32))) ⟨mj_dec tok_X8_hold (a := 56) rfl, .int, rfl, rfl⟩ ⟨rfl, rfl⟩ (Nat.le_of_ble_eq_true rfl) (Nat.le_of_ble_eq_true rfl)
    · have hf := (if_neg q).symm.trans hf
      refine mj_blk k_X8_ok 45 3 (pc' := 94) (l' := [(7, .long p2.1), (0, .ref v0), (1, .int v1), (3, .long v3), (5, .long v5)]) (st' := [.long p2.1, .long v3, .ref v0]) rfl ?_
      obtain ⟨g, hf⟩ := mj_g0 hf
      refine mj_ldiv 48 rfl g ?_
      obtain ⟨h3, eh3, hf⟩ := mj_bd hf
      refine mj_put 49 rfl fp_X8_65 (fun _ => ⟨rfl, rfl⟩) eh3 ?_
      refine mj_blk k_X8_ok 50 3 (pc' := 103) (l' := [(7, .long p2.1), (0, .ref v0), (1, .int v1), (3, .long v3), (5, .long v5)]) (st' := [.long p2.1, .long v5, .ref v0]) rfl ?_
      obtain ⟨g, hf⟩ := mj_g0 hf
      refine mj_ldiv 53 rfl g ?_
      obtain ⟨h4, eh4, hf⟩ := mj_bd hf
      refine mj_put 54 rfl fp_X8_69 (fun _ => ⟨rfl, rfl⟩) eh4 ?_
      refine mj_blk k_X8_ok 55 1 (pc' := 108) (l' := [(7, .long p2.1), (0, .ref v0), (1, .int v1), (3, .long v3), (5, .long v5)]) (st' := [.int (1 : Int32)]) rfl ?_
      obtain rfl := Option.some.inj hf
      exact mj_end (some (.int (1 : Int32))) ⟨mj_dec tok_X8_hold (a := 56) rfl, .int, rfl, rfl⟩ ⟨rfl, rfl⟩ (Nat.le_of_ble_eq_true rfl) (Nat.le_of_ble_eq_true rfl)
  · have hf := (if_neg q).symm.trans hf
    refine mj_blk k_X8_ok 31 6 (pc' := 52) (l' := [(7, .int (v7 + (1 : Int32))), (5, .long (v5 * (60 : Int64))), (0, .ref v0), (1, .int v1), (3, .long v3)]) (st' := []) rfl ?_
    refine mj_locs [2, 3, 4, 1, 0] (l' := [(0, .ref v0), (1, .int v1), (3, .long v3), (5, .long (v5 * (60 : Int64))), (7, .int (v7 + (1 : Int32)))]) rfl ?_
    exact hK52 v0 v1 v3 (v5 * (60 : Int64)) (v7 + (1 : Int32)) p1.2 _ hf
def f_X8_hold_52 (v0 : Nat) (v1 : Int32) (v3 : Int64) (v5 : Int64) (v7 : Int32) (h : mj_H) : Option (Int32 × mj_H) := mj_fix (fun (K52 : (Nat × Int32 × Int64 × Int64 × Int32 × mj_H) → Option (Int32 × mj_H)) (s : Nat × Int32 × Int64 × Int64 × Int32 × mj_H) => b_X8_hold_52  (fun v0 v1 v3 v5 v7 h => K52 (v0, v1, v3, v5, v7, h)) s.1 s.2.1 s.2.2.1 s.2.2.2.1 s.2.2.2.2.1 s.2.2.2.2.2) 1000 (v0, v1, v3, v5, v7, h)
set_option maxHeartbeats 4000000 in
set_option maxRecDepth 100000 in
theorem w_X8_hold_52 (v0 : Nat) (v1 : Int32) (v3 : Int64) (v5 : Int64) (v7 : Int32) (h : mj_H) (p : Int32 × mj_H) (hf : f_X8_hold_52  v0 v1 v3 v5 v7 h = some p) : mj_W mX8_hold (mj_FI p) 52 [(0, .ref v0), (1, .int v1), (3, .long v3), (5, .long v5), (7, .int v7)] [] h 0 0 := by
  unfold f_X8_hold_52 at hf
  exact mj_fix_ind (F := (fun (K52 : (Nat × Int32 × Int64 × Int64 × Int32 × mj_H) → Option (Int32 × mj_H)) (s : Nat × Int32 × Int64 × Int64 × Int32 × mj_H) => b_X8_hold_52  (fun v0 v1 v3 v5 v7 h => K52 (v0, v1, v3, v5, v7, h)) s.1 s.2.1 s.2.2.1 s.2.2.2.1 s.2.2.2.2.1 s.2.2.2.2.2)) (P := fun s p => mj_W mX8_hold (mj_FI p) 52 [(0, .ref s.1), (1, .int s.2.1), (3, .long s.2.2.1), (5, .long s.2.2.2.1), (7, .int s.2.2.2.2.1)] [] s.2.2.2.2.2 0 0) (fun K52 hK52 s p hf => wb_X8_hold_52   (fun v0 v1 v3 v5 v7 h => K52 (v0, v1, v3, v5, v7, h)) (fun v0 v1 v3 v5 v7 h p e => hK52 (v0, v1, v3, v5, v7, h) p e) s.1 s.2.1 s.2.2.1 s.2.2.2.1 s.2.2.2.2.1 s.2.2.2.2.2 p hf) 1000 (v0, v1, v3, v5, v7, h) p hf
def f_X8_hold_18 (v0 : Nat) (h : mj_H) : Option (Int32 × mj_H) := (if mj_ob h v0 8 = true then (f_X8_refused v0 (-2 : Int32) h).bind fun p5 => some (p5.1, p5.2) else none)
set_option maxHeartbeats 4000000 in
set_option maxRecDepth 100000 in
theorem w_X8_hold_18 (v0 : Nat) (h : mj_H) (p : Int32 × mj_H) (hf : f_X8_hold_18  v0 h = some p) : mj_W mX8_hold (mj_FI p) 18 [(0, .ref v0)] [] h 0 0 := by
  unfold f_X8_hold_18 at hf
  refine mj_blk k_X8_ok 8 2 (pc' := 21) (l' := [(0, .ref v0)]) (st' := [.int (-2 : Int32), .ref v0]) rfl ?_
  obtain ⟨gp5, hf⟩ := mj_gd hf
  obtain ⟨p5, ep5, hf⟩ := mj_bd hf
  refine mj_callV (T := TX8) (N := 14) (ci := 8) mX8_refused [.int (-2 : Int32)] 10 rfl ll_X8_102 lb_X8_refused li_X8_refused ⟨Nat.le_of_ble_eq_true rfl, Nat.le_of_ble_eq_true rfl⟩ rfl gp5 rfl (rest := []) rfl (Nat.le_of_ble_eq_true rfl) ⟨Nat.le_of_ble_eq_true rfl, Nat.le_of_ble_eq_true rfl⟩ (c_X8_refused v0 (-2 : Int32) h p5 ep5) ?_
  show mj_W mX8_hold (mj_FI p) 24 [(0, .ref v0)] [.int p5.1] p5.2 0 0
  obtain rfl := Option.some.inj hf
  exact mj_end (some (.int p5.1)) ⟨mj_dec tok_X8_hold (a := 11) rfl, .int, rfl, rfl⟩ ⟨rfl, rfl⟩ (Nat.le_of_ble_eq_true rfl) (Nat.le_of_ble_eq_true rfl)
def f_X8_hold (v0 : Nat) (v1 : Int32) (v2 : Int32) (h : mj_H) : Option (Int32 × mj_H) := (mj_gR h v0 8 0).bind fun x6 => (if mj_ob h x6 0 = true then (f_X0_hasAll x6 v1 h).bind fun p7 => (if p7.1 = 0 then f_X8_hold_18 v0 p7.2 else (f_X8_isNeed v2 p7.2).bind fun p8 => (if p8.1 = 0 then f_X8_hold_18 v0 p8.2 else (mj_gR p8.2 v0 8 5).bind fun x9 => (mj_gR p8.2 v0 8 0).bind fun x10 => (if mj_ob p8.2 x9 2 = true then (f_X2_seeNow x9 x10 p8.2).bind fun p11 => (mj_gR p11 v0 8 5).bind fun x12 => (if mj_ob p11 x12 2 = true then (f_X2_waysToHold x12 v1 v2 p11).bind fun p13 => f_X8_hold_52 v0 v1 p13.1 (1 : Int64) (0 : Int32) p13.2 else none) else none))) else none)
set_option maxHeartbeats 4000000 in
set_option maxRecDepth 100000 in
theorem c_X8_hold (v0 : Nat) (v1 : Int32) (v2 : Int32) (h : mj_H) (p : Int32 × mj_H) (hf : f_X8_hold v0 v1 v2 h = some p) : mj_Met mX8_hold [.ref v0, .int v1, .int v2] h (some (.int p.1)) p.2 := by
  refine mj_met pl_X8 tok_X8_hold (Nat.le_of_ble_eq_true rfl) ?_
  show mj_W mX8_hold (mj_FI p) 0 [(0, .ref v0), (1, .int v1), (2, .int v2)] [] h 0 0
  unfold f_X8_hold at hf
  refine mj_blk k_X8_ok 0 1 (pc' := 1) (l' := [(0, .ref v0), (1, .int v1), (2, .int v2)]) (st' := [.ref v0]) rfl ?_
  obtain ⟨x6, ex6, hf⟩ := mj_bd hf
  refine mj_get 1 rfl fl_X8_10 (mj_gR_V ex6) ?_
  refine mj_blk k_X8_ok 2 1 (pc' := 5) (l' := [(0, .ref v0), (1, .int v1), (2, .int v2)]) (st' := [.int v1, .ref x6]) rfl ?_
  obtain ⟨gp7, hf⟩ := mj_gd hf
  obtain ⟨p7, ep7, hf⟩ := mj_bd hf
  refine mj_callV (T := TX0) (N := 7) (ci := 0) mX0_hasAll [.int v1] 3 rfl ll_X8_179 lb_X0_hasAll li_X0_hasAll ⟨Nat.le_of_ble_eq_true rfl, Nat.le_of_ble_eq_true rfl⟩ rfl gp7 rfl (rest := []) rfl (Nat.le_of_ble_eq_true rfl) ⟨Nat.le_of_ble_eq_true rfl, Nat.le_of_ble_eq_true rfl⟩ (c_X0_hasAll x6 v1 h p7 ep7) ?_
  show mj_W mX8_hold (mj_FI p) 8 [(0, .ref v0), (1, .int v1), (2, .int v2)] [.int p7.1] p7.2 0 0
  refine mj_if_eq 4 18 rfl (by decide) (fun q => ?_) (fun q => ?_)
  · have hf := (if_pos q).symm.trans hf
    refine mj_locs [0] (l' := [(0, .ref v0)]) rfl ?_
    exact w_X8_hold_18 v0 p7.2 _ hf
  · have hf := (if_neg q).symm.trans hf
    refine mj_blk k_X8_ok 5 1 (pc' := 12) (l' := [(0, .ref v0), (1, .int v1), (2, .int v2)]) (st' := [.int v2]) rfl ?_
    obtain ⟨p8, ep8, hf⟩ := mj_bd hf
    refine mj_callS mX8_isNeed [.int v2] 6 rfl ll_X8_182 lb_X8_isNeed li_X8_isNeed ⟨Nat.le_of_ble_eq_true rfl, Nat.le_of_ble_eq_true rfl⟩ rfl (rest := []) rfl (Nat.le_of_ble_eq_true rfl) ⟨Nat.le_of_ble_eq_true rfl, Nat.le_of_ble_eq_true rfl⟩ (c_X8_isNeed v2 p7.2 p8 ep8) ?_
    show mj_W mX8_hold (mj_FI p) 15 [(0, .ref v0), (1, .int v1), (2, .int v2)] [.int p8.1] p8.2 0 0
    refine mj_if_ne 7 25 rfl (by decide) (fun q => ?_) (fun q => ?_)
    · have hf := (if_neg q).symm.trans hf
      refine mj_blk k_X8_ok 12 1 (pc' := 26) (l' := [(0, .ref v0), (1, .int v1), (2, .int v2)]) (st' := [.ref v0]) rfl ?_
      obtain ⟨x9, ex9, hf⟩ := mj_bd hf
      refine mj_get 13 rfl fl_X8_43 (mj_gR_V ex9) ?_
      refine mj_blk k_X8_ok 14 1 (pc' := 30) (l' := [(0, .ref v0), (1, .int v1), (2, .int v2)]) (st' := [.ref v0, .ref x9]) rfl ?_
      obtain ⟨x10, ex10, hf⟩ := mj_bd hf
      refine mj_get 15 rfl fl_X8_10 (mj_gR_V ex10) ?_
      obtain ⟨gp11, hf⟩ := mj_gd hf
      obtain ⟨p11, ep11, hf⟩ := mj_bd hf
      refine mj_callV (T := TX2) (N := 3) (ci := 2) mX2_seeNow [.ref x10] 16 rfl ll_X8_185 lb_X2_seeNow li_X2_seeNow ⟨Nat.le_of_ble_eq_true rfl, Nat.le_of_ble_eq_true rfl⟩ rfl gp11 rfl (rest := []) rfl (Nat.le_of_ble_eq_true rfl) ⟨Nat.le_of_ble_eq_true rfl, Nat.le_of_ble_eq_true rfl⟩ (c_X2_seeNow x9 x10 p8.2 p11 ep11) ?_
      show mj_W mX8_hold (mj_FI p) 36 [(0, .ref v0), (1, .int v1), (2, .int v2)] [] p11 0 0
      refine mj_blk k_X8_ok 17 1 (pc' := 37) (l' := [(0, .ref v0), (1, .int v1), (2, .int v2)]) (st' := [.ref v0]) rfl ?_
      obtain ⟨x12, ex12, hf⟩ := mj_bd hf
      refine mj_get 18 rfl fl_X8_43 (mj_gR_V ex12) ?_
      refine mj_blk k_X8_ok 19 2 (pc' := 42) (l' := [(0, .ref v0), (1, .int v1), (2, .int v2)]) (st' := [.int v2, .int v1, .ref x12]) rfl ?_
      obtain ⟨gp13, hf⟩ := mj_gd hf
      obtain ⟨p13, ep13, hf⟩ := mj_bd hf
      refine mj_callV (T := TX2) (N := 3) (ci := 2) mX2_waysToHold [.int v1, .int v2] 21 rfl ll_X8_188 lb_X2_waysToHold li_X2_waysToHold ⟨Nat.le_of_ble_eq_true rfl, Nat.le_of_ble_eq_true rfl⟩ rfl gp13 rfl (rest := []) rfl (Nat.le_of_ble_eq_true rfl) ⟨Nat.le_of_ble_eq_true rfl, Nat.le_of_ble_eq_true rfl⟩ (c_X2_waysToHold x12 v1 v2 p11 p13 ep13) ?_
      show mj_W mX8_hold (mj_FI p) 45 [(0, .ref v0), (1, .int v1), (2, .int v2)] [.long p13.1] p13.2 0 0
      refine mj_blk k_X8_ok 22 5 (pc' := 52) (l' := [(7, .int (0 : Int32)), (5, .long (1 : Int64)), (3, .long p13.1), (0, .ref v0), (1, .int v1), (2, .int v2)]) (st' := []) rfl ?_
      refine mj_locs [3, 4, 2, 1, 0] (l' := [(0, .ref v0), (1, .int v1), (3, .long p13.1), (5, .long (1 : Int64)), (7, .int (0 : Int32))]) rfl ?_
      exact w_X8_hold_52 v0 v1 p13.1 (1 : Int64) (0 : Int32) p13.2 _ hf
    · have hf := (if_pos q).symm.trans hf
      refine mj_locs [0] (l' := [(0, .ref v0)]) rfl ?_
      exact w_X8_hold_18 v0 p8.2 _ hf
def f_X8_keep_17 (v0 : Nat) (h : mj_H) : Option (Int32 × mj_H) := (if mj_ob h v0 8 = true then (f_X8_refusedAs v0 (-2 : Int32) (-10 : Int32) h).bind fun p1 => some (p1.1, p1.2) else none)
set_option maxHeartbeats 4000000 in
set_option maxRecDepth 100000 in
theorem w_X8_keep_17 (v0 : Nat) (h : mj_H) (p : Int32 × mj_H) (hf : f_X8_keep_17  v0 h = some p) : mj_W mX8_keep (mj_FI p) 17 [(0, .ref v0)] [] h 0 0 := by
  unfold f_X8_keep_17 at hf
  refine mj_blk k_X8_ok 8 3 (pc' := 22) (l' := [(0, .ref v0)]) (st' := [.int (-10 : Int32), .int (-2 : Int32), .ref v0]) rfl ?_
  obtain ⟨gp1, hf⟩ := mj_gd hf
  obtain ⟨p1, ep1, hf⟩ := mj_bd hf
  refine mj_callV (T := TX8) (N := 14) (ci := 8) mX8_refusedAs [.int (-2 : Int32), .int (-10 : Int32)] 11 rfl ll_X8_202 lb_X8_refusedAs li_X8_refusedAs ⟨Nat.le_of_ble_eq_true rfl, Nat.le_of_ble_eq_true rfl⟩ rfl gp1 rfl (rest := []) rfl (Nat.le_of_ble_eq_true rfl) ⟨Nat.le_of_ble_eq_true rfl, Nat.le_of_ble_eq_true rfl⟩ (c_X8_refusedAs v0 (-2 : Int32) (-10 : Int32) h p1 ep1) ?_
  show mj_W mX8_keep (mj_FI p) 25 [(0, .ref v0)] [.int p1.1] p1.2 0 0
  obtain rfl := Option.some.inj hf
  exact mj_end (some (.int p1.1)) ⟨mj_dec tok_X8_keep (a := 12) rfl, .int, rfl, rfl⟩ ⟨rfl, rfl⟩ (Nat.le_of_ble_eq_true rfl) (Nat.le_of_ble_eq_true rfl)
def f_X8_keep (v0 : Nat) (v1 : Int32) (v2 : Int32) (h : mj_H) : Option (Int32 × mj_H) := (if v1 < 0 then f_X8_keep_17 v0 h else (if (6 : Int32) < v1 then f_X8_keep_17 v0 h else (f_X8_isNeed v2 h).bind fun p2 => (if p2.1 = 0 then f_X8_keep_17 v0 p2.2 else (mj_gR p2.2 v0 8 0).bind fun x3 => (mj_gI p2.2 x3 0 4).bind fun x4 => (if v1 ≤ x4 then (mj_gR p2.2 v0 8 5).bind fun x5 => (mj_gR p2.2 v0 8 0).bind fun x6 => (if mj_ob p2.2 x5 2 = true then (f_X2_seeNow x5 x6 p2.2).bind fun p7 => (mj_gR p7 v0 8 5).bind fun x8 => (mj_gR p7 v0 8 0).bind fun x9 => (mj_gI p7 x9 0 4).bind fun x10 => (if mj_ob p7 x8 2 = true then (f_X2_chooseBest x8 x10 v1 v2 p7).bind fun p11 => (mj_gR p11.2 v0 8 5).bind fun x12 => (mj_gI p11.2 x12 2 2).bind fun x13 => some (x13, p11.2) else none) else none) else some ((-1 : Int32), p2.2)))))
set_option maxHeartbeats 4000000 in
set_option maxRecDepth 100000 in
theorem c_X8_keep (v0 : Nat) (v1 : Int32) (v2 : Int32) (h : mj_H) (p : Int32 × mj_H) (hf : f_X8_keep v0 v1 v2 h = some p) : mj_Met mX8_keep [.ref v0, .int v1, .int v2] h (some (.int p.1)) p.2 := by
  refine mj_met pl_X8 tok_X8_keep (Nat.le_of_ble_eq_true rfl) ?_
  show mj_W mX8_keep (mj_FI p) 0 [(0, .ref v0), (1, .int v1), (2, .int v2)] [] h 0 0
  unfold f_X8_keep at hf
  refine mj_blk k_X8_ok 0 1 (pc' := 1) (l' := [(0, .ref v0), (1, .int v1), (2, .int v2)]) (st' := [.int v1]) rfl ?_
  refine mj_if_lt 1 17 rfl (by decide) (fun q => ?_) (fun q => ?_)
  · have hf := (if_pos q).symm.trans hf
    refine mj_locs [0] (l' := [(0, .ref v0)]) rfl ?_
    exact w_X8_keep_17 v0 h _ hf
  · have hf := (if_neg q).symm.trans hf
    refine mj_blk k_X8_ok 2 2 (pc' := 7) (l' := [(0, .ref v0), (1, .int v1), (2, .int v2)]) (st' := [.int (6 : Int32), .int v1]) rfl ?_
    refine mj_icmp_gt 4 17 rfl (by decide) (fun q => ?_) (fun q => ?_)
    · have hf := (if_pos q).symm.trans hf
      refine mj_locs [0] (l' := [(0, .ref v0)]) rfl ?_
      exact w_X8_keep_17 v0 h _ hf
    · have hf := (if_neg q).symm.trans hf
      refine mj_blk k_X8_ok 5 1 (pc' := 11) (l' := [(0, .ref v0), (1, .int v1), (2, .int v2)]) (st' := [.int v2]) rfl ?_
      obtain ⟨p2, ep2, hf⟩ := mj_bd hf
      refine mj_callS mX8_isNeed [.int v2] 6 rfl ll_X8_182 lb_X8_isNeed li_X8_isNeed ⟨Nat.le_of_ble_eq_true rfl, Nat.le_of_ble_eq_true rfl⟩ rfl (rest := []) rfl (Nat.le_of_ble_eq_true rfl) ⟨Nat.le_of_ble_eq_true rfl, Nat.le_of_ble_eq_true rfl⟩ (c_X8_isNeed v2 h p2 ep2) ?_
      show mj_W mX8_keep (mj_FI p) 14 [(0, .ref v0), (1, .int v1), (2, .int v2)] [.int p2.1] p2.2 0 0
      refine mj_if_ne 7 26 rfl (by decide) (fun q => ?_) (fun q => ?_)
      · have hf := (if_neg q).symm.trans hf
        refine mj_blk k_X8_ok 13 2 (pc' := 28) (l' := [(0, .ref v0), (1, .int v1), (2, .int v2)]) (st' := [.ref v0, .int v1]) rfl ?_
        obtain ⟨x3, ex3, hf⟩ := mj_bd hf
        refine mj_get 15 rfl fl_X8_10 (mj_gR_V ex3) ?_
        obtain ⟨x4, ex4, hf⟩ := mj_bd hf
        refine mj_get 16 rfl fl_X8_205 (mj_gI_V ex4) ?_
        refine mj_icmp_le 17 39 rfl (by decide) (fun q => ?_) (fun q => ?_)
        · have hf := (if_pos q).symm.trans hf
          refine mj_blk k_X8_ok 20 1 (pc' := 40) (l' := [(0, .ref v0), (1, .int v1), (2, .int v2)]) (st' := [.ref v0]) rfl ?_
          obtain ⟨x5, ex5, hf⟩ := mj_bd hf
          refine mj_get 21 rfl fl_X8_43 (mj_gR_V ex5) ?_
          refine mj_blk k_X8_ok 22 1 (pc' := 44) (l' := [(0, .ref v0), (1, .int v1), (2, .int v2)]) (st' := [.ref v0, .ref x5]) rfl ?_
          obtain ⟨x6, ex6, hf⟩ := mj_bd hf
          refine mj_get 23 rfl fl_X8_10 (mj_gR_V ex6) ?_
          obtain ⟨gp7, hf⟩ := mj_gd hf
          obtain ⟨p7, ep7, hf⟩ := mj_bd hf
          refine mj_callV (T := TX2) (N := 3) (ci := 2) mX2_seeNow [.ref x6] 24 rfl ll_X8_185 lb_X2_seeNow li_X2_seeNow ⟨Nat.le_of_ble_eq_true rfl, Nat.le_of_ble_eq_true rfl⟩ rfl gp7 rfl (rest := []) rfl (Nat.le_of_ble_eq_true rfl) ⟨Nat.le_of_ble_eq_true rfl, Nat.le_of_ble_eq_true rfl⟩ (c_X2_seeNow x5 x6 p2.2 p7 ep7) ?_
          show mj_W mX8_keep (mj_FI p) 50 [(0, .ref v0), (1, .int v1), (2, .int v2)] [] p7 0 0
          refine mj_blk k_X8_ok 25 1 (pc' := 51) (l' := [(0, .ref v0), (1, .int v1), (2, .int v2)]) (st' := [.ref v0]) rfl ?_
          obtain ⟨x8, ex8, hf⟩ := mj_bd hf
          refine mj_get 26 rfl fl_X8_43 (mj_gR_V ex8) ?_
          refine mj_blk k_X8_ok 27 1 (pc' := 55) (l' := [(0, .ref v0), (1, .int v1), (2, .int v2)]) (st' := [.ref v0, .ref x8]) rfl ?_
          obtain ⟨x9, ex9, hf⟩ := mj_bd hf
          refine mj_get 28 rfl fl_X8_10 (mj_gR_V ex9) ?_
          obtain ⟨x10, ex10, hf⟩ := mj_bd hf
          refine mj_get 29 rfl fl_X8_205 (mj_gI_V ex10) ?_
          refine mj_blk k_X8_ok 30 2 (pc' := 63) (l' := [(0, .ref v0), (1, .int v1), (2, .int v2)]) (st' := [.int v2, .int v1, .int x10, .ref x8]) rfl ?_
          obtain ⟨gp11, hf⟩ := mj_gd hf
          obtain ⟨p11, ep11, hf⟩ := mj_bd hf
          refine mj_callV (T := TX2) (N := 3) (ci := 2) mX2_chooseBest [.int x10, .int v1, .int v2] 32 rfl ll_X8_208 lb_X2_chooseBest li_X2_chooseBest ⟨Nat.le_of_ble_eq_true rfl, Nat.le_of_ble_eq_true rfl⟩ rfl gp11 rfl (rest := []) rfl (Nat.le_of_ble_eq_true rfl) ⟨Nat.le_of_ble_eq_true rfl, Nat.le_of_ble_eq_true rfl⟩ (c_X2_chooseBest x8 x10 v1 v2 p7 p11 ep11) ?_
          show mj_W mX8_keep (mj_FI p) 66 [(0, .ref v0), (1, .int v1), (2, .int v2)] [.long p11.1] p11.2 0 0
          refine mj_blk k_X8_ok 33 2 (pc' := 68) (l' := [(0, .ref v0), (1, .int v1), (2, .int v2)]) (st' := [.ref v0]) rfl ?_
          obtain ⟨x12, ex12, hf⟩ := mj_bd hf
          refine mj_get 35 rfl fl_X8_43 (mj_gR_V ex12) ?_
          obtain ⟨x13, ex13, hf⟩ := mj_bd hf
          refine mj_get 36 rfl fl_X8_212 (mj_gI_V ex13) ?_
          obtain rfl := Option.some.inj hf
          exact mj_end (some (.int x13)) ⟨mj_dec tok_X8_keep (a := 37) rfl, .int, rfl, rfl⟩ ⟨rfl, rfl⟩ (Nat.le_of_ble_eq_true rfl) (Nat.le_of_ble_eq_true rfl)
        · have hf := (if_neg q).symm.trans hf
          refine mj_blk k_X8_ok 18 1 (pc' := 38) (l' := [(0, .ref v0), (1, .int v1), (2, .int v2)]) (st' := [.int (-1 : Int32)]) rfl ?_
          obtain rfl := Option.some.inj hf
          exact mj_end (some (.int (-1 : Int32))) ⟨mj_dec tok_X8_keep (a := 19) rfl, .int, rfl, rfl⟩ ⟨rfl, rfl⟩ (Nat.le_of_ble_eq_true rfl) (Nat.le_of_ble_eq_true rfl)
      · have hf := (if_pos q).symm.trans hf
        refine mj_locs [0] (l' := [(0, .ref v0)]) rfl ?_
        exact w_X8_keep_17 v0 p2.2 _ hf
def f_X8_isWeighed (v0 : Int32) (h : mj_H) : Option (Int32 × mj_H) := (if v0 < 0 then some ((0 : Int32), h) else (if (3 : Int32) < v0 then some ((0 : Int32), h) else some ((1 : Int32), h)))
set_option maxHeartbeats 4000000 in
set_option maxRecDepth 100000 in
theorem c_X8_isWeighed (v0 : Int32) (h : mj_H) (p : Int32 × mj_H) (hf : f_X8_isWeighed v0 h = some p) : mj_Met mX8_isWeighed [.int v0] h (some (.int p.1)) p.2 := by
  refine mj_met pl_X8 tok_X8_isWeighed (Nat.le_of_ble_eq_true rfl) ?_
  show mj_W mX8_isWeighed (mj_FI p) 0 [(0, .int v0)] [] h 0 0
  unfold f_X8_isWeighed at hf
  refine mj_blk k_X8_ok 0 1 (pc' := 1) (l' := [(0, .int v0)]) (st' := [.int v0]) rfl ?_
  refine mj_if_lt 1 13 rfl (by decide) (fun q => ?_) (fun q => ?_)
  · have hf := (if_pos q).symm.trans hf
    refine mj_blk k_X8_ok 7 1 (pc' := 14) (l' := [(0, .int v0)]) (st' := [.int (0 : Int32)]) rfl ?_
    obtain rfl := Option.some.inj hf
    exact mj_end (some (.int (0 : Int32))) ⟨mj_dec tok_X8_isWeighed (a := 8) rfl, .boolean, rfl, rfl⟩ ⟨rfl, rfl⟩ (Nat.le_of_ble_eq_true rfl) (Nat.le_of_ble_eq_true rfl)
  · have hf := (if_neg q).symm.trans hf
    refine mj_blk k_X8_ok 2 2 (pc' := 6) (l' := [(0, .int v0)]) (st' := [.int (3 : Int32), .int v0]) rfl ?_
    refine mj_icmp_gt 4 13 rfl (by decide) (fun q => ?_) (fun q => ?_)
    · have hf := (if_pos q).symm.trans hf
      refine mj_blk k_X8_ok 7 1 (pc' := 14) (l' := [(0, .int v0)]) (st' := [.int (0 : Int32)]) rfl ?_
      obtain rfl := Option.some.inj hf
      exact mj_end (some (.int (0 : Int32))) ⟨mj_dec tok_X8_isWeighed (a := 8) rfl, .boolean, rfl, rfl⟩ ⟨rfl, rfl⟩ (Nat.le_of_ble_eq_true rfl) (Nat.le_of_ble_eq_true rfl)
    · have hf := (if_neg q).symm.trans hf
      refine mj_blk k_X8_ok 5 2 (pc' := 14) (l' := [(0, .int v0)]) (st' := [.int (1 : Int32)]) rfl ?_
      obtain rfl := Option.some.inj hf
      exact mj_end (some (.int (1 : Int32))) ⟨mj_dec tok_X8_isWeighed (a := 8) rfl, .boolean, rfl, rfl⟩ ⟨rfl, rfl⟩ (Nat.le_of_ble_eq_true rfl) (Nat.le_of_ble_eq_true rfl)
def f_X8_waysNow (v0 : Nat) (v1 : Int32) (v2 : Int32) (h : mj_H) : Option (Int64 × mj_H) := (mj_gR h v0 8 5).bind fun x1 => (mj_gR h v0 8 0).bind fun x2 => (if mj_ob h x1 2 = true then (f_X2_seeNow x1 x2 h).bind fun p3 => (mj_gR p3 v0 8 5).bind fun x4 => (mj_gR p3 v0 8 0).bind fun x5 => (mj_gI p3 x5 0 4).bind fun x6 => (if mj_ob p3 x4 2 = true then (f_X2_chooseBest x4 x6 v1 v2 p3).bind fun p7 => some (p7.1, p7.2) else none) else none)
set_option maxHeartbeats 4000000 in
set_option maxRecDepth 100000 in
theorem c_X8_waysNow (v0 : Nat) (v1 : Int32) (v2 : Int32) (h : mj_H) (p : Int64 × mj_H) (hf : f_X8_waysNow v0 v1 v2 h = some p) : mj_Met mX8_waysNow [.ref v0, .int v1, .int v2] h (some (.long p.1)) p.2 := by
  refine mj_met pl_X8 tok_X8_waysNow (Nat.le_of_ble_eq_true rfl) ?_
  show mj_W mX8_waysNow (mj_FJ p) 0 [(0, .ref v0), (1, .int v1), (2, .int v2)] [] h 0 0
  unfold f_X8_waysNow at hf
  refine mj_blk k_X8_ok 0 1 (pc' := 1) (l' := [(0, .ref v0), (1, .int v1), (2, .int v2)]) (st' := [.ref v0]) rfl ?_
  obtain ⟨x1, ex1, hf⟩ := mj_bd hf
  refine mj_get 1 rfl fl_X8_43 (mj_gR_V ex1) ?_
  refine mj_blk k_X8_ok 2 1 (pc' := 5) (l' := [(0, .ref v0), (1, .int v1), (2, .int v2)]) (st' := [.ref v0, .ref x1]) rfl ?_
  obtain ⟨x2, ex2, hf⟩ := mj_bd hf
  refine mj_get 3 rfl fl_X8_10 (mj_gR_V ex2) ?_
  obtain ⟨gp3, hf⟩ := mj_gd hf
  obtain ⟨p3, ep3, hf⟩ := mj_bd hf
  refine mj_callV (T := TX2) (N := 3) (ci := 2) mX2_seeNow [.ref x2] 4 rfl ll_X8_185 lb_X2_seeNow li_X2_seeNow ⟨Nat.le_of_ble_eq_true rfl, Nat.le_of_ble_eq_true rfl⟩ rfl gp3 rfl (rest := []) rfl (Nat.le_of_ble_eq_true rfl) ⟨Nat.le_of_ble_eq_true rfl, Nat.le_of_ble_eq_true rfl⟩ (c_X2_seeNow x1 x2 h p3 ep3) ?_
  show mj_W mX8_waysNow (mj_FJ p) 11 [(0, .ref v0), (1, .int v1), (2, .int v2)] [] p3 0 0
  refine mj_blk k_X8_ok 5 1 (pc' := 12) (l' := [(0, .ref v0), (1, .int v1), (2, .int v2)]) (st' := [.ref v0]) rfl ?_
  obtain ⟨x4, ex4, hf⟩ := mj_bd hf
  refine mj_get 6 rfl fl_X8_43 (mj_gR_V ex4) ?_
  refine mj_blk k_X8_ok 7 1 (pc' := 16) (l' := [(0, .ref v0), (1, .int v1), (2, .int v2)]) (st' := [.ref v0, .ref x4]) rfl ?_
  obtain ⟨x5, ex5, hf⟩ := mj_bd hf
  refine mj_get 8 rfl fl_X8_10 (mj_gR_V ex5) ?_
  obtain ⟨x6, ex6, hf⟩ := mj_bd hf
  refine mj_get 9 rfl fl_X8_205 (mj_gI_V ex6) ?_
  refine mj_blk k_X8_ok 10 2 (pc' := 24) (l' := [(0, .ref v0), (1, .int v1), (2, .int v2)]) (st' := [.int v2, .int v1, .int x6, .ref x4]) rfl ?_
  obtain ⟨gp7, hf⟩ := mj_gd hf
  obtain ⟨p7, ep7, hf⟩ := mj_bd hf
  refine mj_callV (T := TX2) (N := 3) (ci := 2) mX2_chooseBest [.int x6, .int v1, .int v2] 12 rfl ll_X8_208 lb_X2_chooseBest li_X2_chooseBest ⟨Nat.le_of_ble_eq_true rfl, Nat.le_of_ble_eq_true rfl⟩ rfl gp7 rfl (rest := []) rfl (Nat.le_of_ble_eq_true rfl) ⟨Nat.le_of_ble_eq_true rfl, Nat.le_of_ble_eq_true rfl⟩ (c_X2_chooseBest x4 x6 v1 v2 p3 p7 ep7) ?_
  show mj_W mX8_waysNow (mj_FJ p) 27 [(0, .ref v0), (1, .int v1), (2, .int v2)] [.long p7.1] p7.2 0 0
  obtain rfl := Option.some.inj hf
  exact mj_end (some (.long p7.1)) ⟨mj_dec tok_X8_waysNow (a := 13) rfl, rfl⟩ ⟨rfl, rfl⟩ (Nat.le_of_ble_eq_true rfl) (Nat.le_of_ble_eq_true rfl)
def f_X8_gainOf (v0 : Nat) (v1 : Int32) (v2 : Int32) (v3 : Int32) (v4 : Int32) (v5 : Int64) (h : mj_H) : Option (Int32 × mj_H) := (mj_gR h v0 8 0).bind fun x1 => (if mj_ob h x1 0 = true then (f_X0_showsOf x1 v1 v2 h).bind fun p2 => (mj_gR p2.2 v0 8 5).bind fun x3 => (mj_gR p2.2 v0 8 0).bind fun x4 => (if mj_ob p2.2 x3 2 = true then (f_X2_seeBehind x3 x4 v1 v2 (1 : Int32) p2.2).bind fun p5 => (mj_gR p5 v0 8 5).bind fun x6 => (mj_gR p5 v0 8 0).bind fun x7 => (mj_gI p5 x7 0 4).bind fun x8 => (if mj_ob p5 x6 2 = true then (f_X2_chooseBest x6 x8 v3 v4 p5).bind fun p9 => (mj_gR p9.2 v0 8 5).bind fun x10 => (mj_gR p9.2 v0 8 0).bind fun x11 => (if mj_ob p9.2 x10 2 = true then (f_X2_seeBehind x10 x11 v1 v2 (0 : Int32) p9.2).bind fun p12 => (mj_gR p12 v0 8 5).bind fun x13 => (mj_gR p12 v0 8 0).bind fun x14 => (mj_gI p12 x14 0 4).bind fun x15 => (if mj_ob p12 x13 2 = true then (f_X2_chooseBest x13 x15 v3 v4 p12).bind fun p16 => some ((((((((p2.1).toInt64) * p9.1) + (((60 : Int64) - ((p2.1).toInt64)) * p16.1)) - ((60 : Int64) * v5))).toInt32), p16.2) else none) else none) else none) else none) else none)
set_option maxHeartbeats 4000000 in
set_option maxRecDepth 100000 in
theorem c_X8_gainOf (v0 : Nat) (v1 : Int32) (v2 : Int32) (v3 : Int32) (v4 : Int32) (v5 : Int64) (h : mj_H) (p : Int32 × mj_H) (hf : f_X8_gainOf v0 v1 v2 v3 v4 v5 h = some p) : mj_Met mX8_gainOf [.ref v0, .int v1, .int v2, .int v3, .int v4, .long v5] h (some (.int p.1)) p.2 := by
  refine mj_met pl_X8 tok_X8_gainOf (Nat.le_of_ble_eq_true rfl) ?_
  show mj_W mX8_gainOf (mj_FI p) 0 [(0, .ref v0), (1, .int v1), (2, .int v2), (3, .int v3), (4, .int v4), (5, .long v5)] [] h 0 0
  unfold f_X8_gainOf at hf
  refine mj_blk k_X8_ok 0 1 (pc' := 1) (l' := [(0, .ref v0), (1, .int v1), (2, .int v2), (3, .int v3), (4, .int v4), (5, .long v5)]) (st' := [.ref v0]) rfl ?_
  obtain ⟨x1, ex1, hf⟩ := mj_bd hf
  refine mj_get 1 rfl fl_X8_10 (mj_gR_V ex1) ?_
  refine mj_blk k_X8_ok 2 2 (pc' := 6) (l' := [(0, .ref v0), (1, .int v1), (2, .int v2), (3, .int v3), (4, .int v4), (5, .long v5)]) (st' := [.int v2, .int v1, .ref x1]) rfl ?_
  obtain ⟨gp2, hf⟩ := mj_gd hf
  obtain ⟨p2, ep2, hf⟩ := mj_bd hf
  refine mj_callV (T := TX0) (N := 7) (ci := 0) mX0_showsOf [.int v1, .int v2] 4 rfl ll_X8_164 lb_X0_showsOf li_X0_showsOf ⟨Nat.le_of_ble_eq_true rfl, Nat.le_of_ble_eq_true rfl⟩ rfl gp2 rfl (rest := []) rfl (Nat.le_of_ble_eq_true rfl) ⟨Nat.le_of_ble_eq_true rfl, Nat.le_of_ble_eq_true rfl⟩ (c_X0_showsOf x1 v1 v2 h p2 ep2) ?_
  show mj_W mX8_gainOf (mj_FI p) 9 [(0, .ref v0), (1, .int v1), (2, .int v2), (3, .int v3), (4, .int v4), (5, .long v5)] [.int p2.1] p2.2 0 0
  refine mj_blk k_X8_ok 5 3 (pc' := 13) (l' := [(7, .long ((p2.1).toInt64)), (0, .ref v0), (1, .int v1), (2, .int v2), (3, .int v3), (4, .int v4), (5, .long v5)]) (st' := [.ref v0]) rfl ?_
  obtain ⟨x3, ex3, hf⟩ := mj_bd hf
  refine mj_get 8 rfl fl_X8_43 (mj_gR_V ex3) ?_
  refine mj_blk k_X8_ok 9 1 (pc' := 17) (l' := [(7, .long ((p2.1).toInt64)), (0, .ref v0), (1, .int v1), (2, .int v2), (3, .int v3), (4, .int v4), (5, .long v5)]) (st' := [.ref v0, .ref x3]) rfl ?_
  obtain ⟨x4, ex4, hf⟩ := mj_bd hf
  refine mj_get 10 rfl fl_X8_10 (mj_gR_V ex4) ?_
  refine mj_blk k_X8_ok 11 3 (pc' := 23) (l' := [(7, .long ((p2.1).toInt64)), (0, .ref v0), (1, .int v1), (2, .int v2), (3, .int v3), (4, .int v4), (5, .long v5)]) (st' := [.int (1 : Int32), .int v2, .int v1, .ref x4, .ref x3]) rfl ?_
  obtain ⟨gp5, hf⟩ := mj_gd hf
  obtain ⟨p5, ep5, hf⟩ := mj_bd hf
  refine mj_callV (T := TX2) (N := 3) (ci := 2) mX2_seeBehind [.ref x4, .int v1, .int v2, .int (1 : Int32)] 14 rfl ll_X8_323 lb_X2_seeBehind li_X2_seeBehind ⟨Nat.le_of_ble_eq_true rfl, Nat.le_of_ble_eq_true rfl⟩ rfl gp5 rfl (rest := []) rfl (Nat.le_of_ble_eq_true rfl) ⟨Nat.le_of_ble_eq_true rfl, Nat.le_of_ble_eq_true rfl⟩ (c_X2_seeBehind x3 x4 v1 v2 (1 : Int32) p2.2 p5 ep5) ?_
  show mj_W mX8_gainOf (mj_FI p) 26 [(7, .long ((p2.1).toInt64)), (0, .ref v0), (1, .int v1), (2, .int v2), (3, .int v3), (4, .int v4), (5, .long v5)] [] p5 0 0
  refine mj_blk k_X8_ok 15 2 (pc' := 29) (l' := [(7, .long ((p2.1).toInt64)), (0, .ref v0), (1, .int v1), (2, .int v2), (3, .int v3), (4, .int v4), (5, .long v5)]) (st' := [.ref v0, .long ((p2.1).toInt64)]) rfl ?_
  obtain ⟨x6, ex6, hf⟩ := mj_bd hf
  refine mj_get 17 rfl fl_X8_43 (mj_gR_V ex6) ?_
  refine mj_blk k_X8_ok 18 1 (pc' := 33) (l' := [(7, .long ((p2.1).toInt64)), (0, .ref v0), (1, .int v1), (2, .int v2), (3, .int v3), (4, .int v4), (5, .long v5)]) (st' := [.ref v0, .ref x6, .long ((p2.1).toInt64)]) rfl ?_
  obtain ⟨x7, ex7, hf⟩ := mj_bd hf
  refine mj_get 19 rfl fl_X8_10 (mj_gR_V ex7) ?_
  obtain ⟨x8, ex8, hf⟩ := mj_bd hf
  refine mj_get 20 rfl fl_X8_205 (mj_gI_V ex8) ?_
  refine mj_blk k_X8_ok 21 2 (pc' := 42) (l' := [(7, .long ((p2.1).toInt64)), (0, .ref v0), (1, .int v1), (2, .int v2), (3, .int v3), (4, .int v4), (5, .long v5)]) (st' := [.int v4, .int v3, .int x8, .ref x6, .long ((p2.1).toInt64)]) rfl ?_
  obtain ⟨gp9, hf⟩ := mj_gd hf
  obtain ⟨p9, ep9, hf⟩ := mj_bd hf
  refine mj_callV (T := TX2) (N := 3) (ci := 2) mX2_chooseBest [.int x8, .int v3, .int v4] 23 rfl ll_X8_208 lb_X2_chooseBest li_X2_chooseBest ⟨Nat.le_of_ble_eq_true rfl, Nat.le_of_ble_eq_true rfl⟩ rfl gp9 rfl (rest := [.long ((p2.1).toInt64)]) rfl (Nat.le_of_ble_eq_true rfl) ⟨Nat.le_of_ble_eq_true rfl, Nat.le_of_ble_eq_true rfl⟩ (c_X2_chooseBest x6 x8 v3 v4 p5 p9 ep9) ?_
  show mj_W mX8_gainOf (mj_FI p) 45 [(7, .long ((p2.1).toInt64)), (0, .ref v0), (1, .int v1), (2, .int v2), (3, .int v3), (4, .int v4), (5, .long v5)] [.long p9.1, .long ((p2.1).toInt64)] p9.2 0 0
  refine mj_blk k_X8_ok 24 3 (pc' := 49) (l' := [(9, .long (((p2.1).toInt64) * p9.1)), (7, .long ((p2.1).toInt64)), (0, .ref v0), (1, .int v1), (2, .int v2), (3, .int v3), (4, .int v4), (5, .long v5)]) (st' := [.ref v0]) rfl ?_
  obtain ⟨x10, ex10, hf⟩ := mj_bd hf
  refine mj_get 27 rfl fl_X8_43 (mj_gR_V ex10) ?_
  refine mj_blk k_X8_ok 28 1 (pc' := 53) (l' := [(9, .long (((p2.1).toInt64) * p9.1)), (7, .long ((p2.1).toInt64)), (0, .ref v0), (1, .int v1), (2, .int v2), (3, .int v3), (4, .int v4), (5, .long v5)]) (st' := [.ref v0, .ref x10]) rfl ?_
  obtain ⟨x11, ex11, hf⟩ := mj_bd hf
  refine mj_get 29 rfl fl_X8_10 (mj_gR_V ex11) ?_
  refine mj_blk k_X8_ok 30 3 (pc' := 59) (l' := [(9, .long (((p2.1).toInt64) * p9.1)), (7, .long ((p2.1).toInt64)), (0, .ref v0), (1, .int v1), (2, .int v2), (3, .int v3), (4, .int v4), (5, .long v5)]) (st' := [.int (0 : Int32), .int v2, .int v1, .ref x11, .ref x10]) rfl ?_
  obtain ⟨gp12, hf⟩ := mj_gd hf
  obtain ⟨p12, ep12, hf⟩ := mj_bd hf
  refine mj_callV (T := TX2) (N := 3) (ci := 2) mX2_seeBehind [.ref x11, .int v1, .int v2, .int (0 : Int32)] 33 rfl ll_X8_323 lb_X2_seeBehind li_X2_seeBehind ⟨Nat.le_of_ble_eq_true rfl, Nat.le_of_ble_eq_true rfl⟩ rfl gp12 rfl (rest := []) rfl (Nat.le_of_ble_eq_true rfl) ⟨Nat.le_of_ble_eq_true rfl, Nat.le_of_ble_eq_true rfl⟩ (c_X2_seeBehind x10 x11 v1 v2 (0 : Int32) p9.2 p12 ep12) ?_
  show mj_W mX8_gainOf (mj_FI p) 62 [(9, .long (((p2.1).toInt64) * p9.1)), (7, .long ((p2.1).toInt64)), (0, .ref v0), (1, .int v1), (2, .int v2), (3, .int v3), (4, .int v4), (5, .long v5)] [] p12 0 0
  refine mj_blk k_X8_ok 34 5 (pc' := 71) (l' := [(9, .long (((p2.1).toInt64) * p9.1)), (7, .long ((p2.1).toInt64)), (0, .ref v0), (1, .int v1), (2, .int v2), (3, .int v3), (4, .int v4), (5, .long v5)]) (st' := [.ref v0, .long ((60 : Int64) - ((p2.1).toInt64)), .long (((p2.1).toInt64) * p9.1)]) rfl ?_
  obtain ⟨x13, ex13, hf⟩ := mj_bd hf
  refine mj_get 39 rfl fl_X8_43 (mj_gR_V ex13) ?_
  refine mj_blk k_X8_ok 40 1 (pc' := 75) (l' := [(9, .long (((p2.1).toInt64) * p9.1)), (7, .long ((p2.1).toInt64)), (0, .ref v0), (1, .int v1), (2, .int v2), (3, .int v3), (4, .int v4), (5, .long v5)]) (st' := [.ref v0, .ref x13, .long ((60 : Int64) - ((p2.1).toInt64)), .long (((p2.1).toInt64) * p9.1)]) rfl ?_
  obtain ⟨x14, ex14, hf⟩ := mj_bd hf
  refine mj_get 41 rfl fl_X8_10 (mj_gR_V ex14) ?_
  obtain ⟨x15, ex15, hf⟩ := mj_bd hf
  refine mj_get 42 rfl fl_X8_205 (mj_gI_V ex15) ?_
  refine mj_blk k_X8_ok 43 2 (pc' := 84) (l' := [(9, .long (((p2.1).toInt64) * p9.1)), (7, .long ((p2.1).toInt64)), (0, .ref v0), (1, .int v1), (2, .int v2), (3, .int v3), (4, .int v4), (5, .long v5)]) (st' := [.int v4, .int v3, .int x15, .ref x13, .long ((60 : Int64) - ((p2.1).toInt64)), .long (((p2.1).toInt64) * p9.1)]) rfl ?_
  obtain ⟨gp16, hf⟩ := mj_gd hf
  obtain ⟨p16, ep16, hf⟩ := mj_bd hf
  refine mj_callV (T := TX2) (N := 3) (ci := 2) mX2_chooseBest [.int x15, .int v3, .int v4] 45 rfl ll_X8_208 lb_X2_chooseBest li_X2_chooseBest ⟨Nat.le_of_ble_eq_true rfl, Nat.le_of_ble_eq_true rfl⟩ rfl gp16 rfl (rest := [.long ((60 : Int64) - ((p2.1).toInt64)), .long (((p2.1).toInt64) * p9.1)]) rfl (Nat.le_of_ble_eq_true rfl) ⟨Nat.le_of_ble_eq_true rfl, Nat.le_of_ble_eq_true rfl⟩ (c_X2_chooseBest x13 x15 v3 v4 p12 p16 ep16) ?_
  show mj_W mX8_gainOf (mj_FI p) 87 [(9, .long (((p2.1).toInt64) * p9.1)), (7, .long ((p2.1).toInt64)), (0, .ref v0), (1, .int v1), (2, .int v2), (3, .int v3), (4, .int v4), (5, .long v5)] [.long p16.1, .long ((60 : Int64) - ((p2.1).toInt64)), .long (((p2.1).toInt64) * p9.1)] p16.2 0 0
  refine mj_blk k_X8_ok 46 9 (pc' := 101) (l' := [(9, .long ((((p2.1).toInt64) * p9.1) + (((60 : Int64) - ((p2.1).toInt64)) * p16.1))), (7, .long ((p2.1).toInt64)), (0, .ref v0), (1, .int v1), (2, .int v2), (3, .int v3), (4, .int v4), (5, .long v5)]) (st' := [.int (((((((p2.1).toInt64) * p9.1) + (((60 : Int64) - ((p2.1).toInt64)) * p16.1)) - ((60 : Int64) * v5))).toInt32)]) rfl ?_
  obtain rfl := Option.some.inj hf
  exact mj_end (some (.int (((((((p2.1).toInt64) * p9.1) + (((60 : Int64) - ((p2.1).toInt64)) * p16.1)) - ((60 : Int64) * v5))).toInt32))) ⟨mj_dec tok_X8_gainOf (a := 55) rfl, .int, rfl, rfl⟩ ⟨rfl, rfl⟩ (Nat.le_of_ble_eq_true rfl) (Nat.le_of_ble_eq_true rfl)
def f_X8_worth_67 (v0 : Nat) (h : mj_H) : Option (Int32 × mj_H) := (if mj_ob h v0 8 = true then (f_X8_refusedAs v0 (-3 : Int32) (-200000000 : Int32) h).bind fun p1 => some (p1.1, p1.2) else none)
set_option maxHeartbeats 4000000 in
set_option maxRecDepth 100000 in
theorem w_X8_worth_67 (v0 : Nat) (h : mj_H) (p : Int32 × mj_H) (hf : f_X8_worth_67  v0 h = some p) : mj_W mX8_worth (mj_FI p) 67 [(0, .ref v0)] [] h 0 0 := by
  unfold f_X8_worth_67 at hf
  refine mj_blk k_X8_ok 30 3 (pc' := 72) (l' := [(0, .ref v0)]) (st' := [.int (-200000000 : Int32), .int (-3 : Int32), .ref v0]) rfl ?_
  obtain ⟨gp1, hf⟩ := mj_gd hf
  obtain ⟨p1, ep1, hf⟩ := mj_bd hf
  refine mj_callV (T := TX8) (N := 14) (ci := 8) mX8_refusedAs [.int (-3 : Int32), .int (-200000000 : Int32)] 33 rfl ll_X8_202 lb_X8_refusedAs li_X8_refusedAs ⟨Nat.le_of_ble_eq_true rfl, Nat.le_of_ble_eq_true rfl⟩ rfl gp1 rfl (rest := []) rfl (Nat.le_of_ble_eq_true rfl) ⟨Nat.le_of_ble_eq_true rfl, Nat.le_of_ble_eq_true rfl⟩ (c_X8_refusedAs v0 (-3 : Int32) (-200000000 : Int32) h p1 ep1) ?_
  show mj_W mX8_worth (mj_FI p) 75 [(0, .ref v0)] [.int p1.1] p1.2 0 0
  obtain rfl := Option.some.inj hf
  exact mj_end (some (.int p1.1)) ⟨mj_dec tok_X8_worth (a := 34) rfl, .int, rfl, rfl⟩ ⟨rfl, rfl⟩ (Nat.le_of_ble_eq_true rfl) (Nat.le_of_ble_eq_true rfl)
def f_X8_worth_33 (v0 : Nat) (h : mj_H) : Option (Int32 × mj_H) := (if mj_ob h v0 8 = true then (f_X8_refusedAs v0 (-2 : Int32) (-100000000 : Int32) h).bind fun p2 => some (p2.1, p2.2) else none)
set_option maxHeartbeats 4000000 in
set_option maxRecDepth 100000 in
theorem w_X8_worth_33 (v0 : Nat) (h : mj_H) (p : Int32 × mj_H) (hf : f_X8_worth_33  v0 h = some p) : mj_W mX8_worth (mj_FI p) 33 [(0, .ref v0)] [] h 0 0 := by
  unfold f_X8_worth_33 at hf
  refine mj_blk k_X8_ok 14 3 (pc' := 38) (l' := [(0, .ref v0)]) (st' := [.int (-100000000 : Int32), .int (-2 : Int32), .ref v0]) rfl ?_
  obtain ⟨gp2, hf⟩ := mj_gd hf
  obtain ⟨p2, ep2, hf⟩ := mj_bd hf
  refine mj_callV (T := TX8) (N := 14) (ci := 8) mX8_refusedAs [.int (-2 : Int32), .int (-100000000 : Int32)] 17 rfl ll_X8_202 lb_X8_refusedAs li_X8_refusedAs ⟨Nat.le_of_ble_eq_true rfl, Nat.le_of_ble_eq_true rfl⟩ rfl gp2 rfl (rest := []) rfl (Nat.le_of_ble_eq_true rfl) ⟨Nat.le_of_ble_eq_true rfl, Nat.le_of_ble_eq_true rfl⟩ (c_X8_refusedAs v0 (-2 : Int32) (-100000000 : Int32) h p2 ep2) ?_
  show mj_W mX8_worth (mj_FI p) 41 [(0, .ref v0)] [.int p2.1] p2.2 0 0
  obtain rfl := Option.some.inj hf
  exact mj_end (some (.int p2.1)) ⟨mj_dec tok_X8_worth (a := 18) rfl, .int, rfl, rfl⟩ ⟨rfl, rfl⟩ (Nat.le_of_ble_eq_true rfl) (Nat.le_of_ble_eq_true rfl)
def f_X8_worth (v0 : Nat) (v1 : Int32) (v2 : Int32) (v3 : Int32) (v4 : Int32) (h : mj_H) : Option (Int32 × mj_H) := (mj_gR h v0 8 0).bind fun x3 => (if mj_ob h x3 0 = true then (f_X0_has x3 v1 h).bind fun p4 => (if p4.1 = 0 then f_X8_worth_33 v0 p4.2 else (f_X8_isTest v2 p4.2).bind fun p5 => (if p5.1 = 0 then f_X8_worth_33 v0 p5.2 else (f_X8_isWeighed v3 p5.2).bind fun p6 => (if p6.1 = 0 then f_X8_worth_33 v0 p6.2 else (f_X8_isNeed v4 p6.2).bind fun p7 => (if p7.1 = 0 then f_X8_worth_33 v0 p7.2 else (mj_gR p7.2 v0 8 0).bind fun x8 => (mj_gI p7.2 x8 0 6).bind fun x9 => (f_X8_costOf v2 p7.2).bind fun p10 => (if x9 < p10.1 then f_X8_worth_67 v0 p10.2 else (mj_gR p10.2 v0 8 0).bind fun x11 => (mj_gI p10.2 x11 0 4).bind fun x12 => (if v3 ≤ x12 then (if mj_ob p10.2 v0 8 = true then (f_X8_waysNow v0 v3 v4 p10.2).bind fun p13 => (if mj_ob p13.2 v0 8 = true then (f_X8_gainOf v0 v1 v2 v3 v4 p13.1 p13.2).bind fun p14 => some (p14.1, p14.2) else none) else none) else f_X8_worth_67 v0 p10.2)))))) else none)
set_option maxHeartbeats 4000000 in
set_option maxRecDepth 100000 in
theorem c_X8_worth (v0 : Nat) (v1 : Int32) (v2 : Int32) (v3 : Int32) (v4 : Int32) (h : mj_H) (p : Int32 × mj_H) (hf : f_X8_worth v0 v1 v2 v3 v4 h = some p) : mj_Met mX8_worth [.ref v0, .int v1, .int v2, .int v3, .int v4] h (some (.int p.1)) p.2 := by
  refine mj_met pl_X8 tok_X8_worth (Nat.le_of_ble_eq_true rfl) ?_
  show mj_W mX8_worth (mj_FI p) 0 [(0, .ref v0), (1, .int v1), (2, .int v2), (3, .int v3), (4, .int v4)] [] h 0 0
  unfold f_X8_worth at hf
  refine mj_blk k_X8_ok 0 1 (pc' := 1) (l' := [(0, .ref v0), (1, .int v1), (2, .int v2), (3, .int v3), (4, .int v4)]) (st' := [.ref v0]) rfl ?_
  obtain ⟨x3, ex3, hf⟩ := mj_bd hf
  refine mj_get 1 rfl fl_X8_10 (mj_gR_V ex3) ?_
  refine mj_blk k_X8_ok 2 1 (pc' := 5) (l' := [(0, .ref v0), (1, .int v1), (2, .int v2), (3, .int v3), (4, .int v4)]) (st' := [.int v1, .ref x3]) rfl ?_
  obtain ⟨gp4, hf⟩ := mj_gd hf
  obtain ⟨p4, ep4, hf⟩ := mj_bd hf
  refine mj_callV (T := TX0) (N := 7) (ci := 0) mX0_has [.int v1] 3 rfl ll_X8_129 lb_X0_has li_X0_has ⟨Nat.le_of_ble_eq_true rfl, Nat.le_of_ble_eq_true rfl⟩ rfl gp4 rfl (rest := []) rfl (Nat.le_of_ble_eq_true rfl) ⟨Nat.le_of_ble_eq_true rfl, Nat.le_of_ble_eq_true rfl⟩ (c_X0_has x3 v1 h p4 ep4) ?_
  show mj_W mX8_worth (mj_FI p) 8 [(0, .ref v0), (1, .int v1), (2, .int v2), (3, .int v3), (4, .int v4)] [.int p4.1] p4.2 0 0
  refine mj_if_eq 4 33 rfl (by decide) (fun q => ?_) (fun q => ?_)
  · have hf := (if_pos q).symm.trans hf
    refine mj_locs [0] (l' := [(0, .ref v0)]) rfl ?_
    exact w_X8_worth_33 v0 p4.2 _ hf
  · have hf := (if_neg q).symm.trans hf
    refine mj_blk k_X8_ok 5 1 (pc' := 12) (l' := [(0, .ref v0), (1, .int v1), (2, .int v2), (3, .int v3), (4, .int v4)]) (st' := [.int v2]) rfl ?_
    obtain ⟨p5, ep5, hf⟩ := mj_bd hf
    refine mj_callS mX8_isTest [.int v2] 6 rfl ll_X8_133 lb_X8_isTest li_X8_isTest ⟨Nat.le_of_ble_eq_true rfl, Nat.le_of_ble_eq_true rfl⟩ rfl (rest := []) rfl (Nat.le_of_ble_eq_true rfl) ⟨Nat.le_of_ble_eq_true rfl, Nat.le_of_ble_eq_true rfl⟩ (c_X8_isTest v2 p4.2 p5 ep5) ?_
    show mj_W mX8_worth (mj_FI p) 15 [(0, .ref v0), (1, .int v1), (2, .int v2), (3, .int v3), (4, .int v4)] [.int p5.1] p5.2 0 0
    refine mj_if_eq 7 33 rfl (by decide) (fun q => ?_) (fun q => ?_)
    · have hf := (if_pos q).symm.trans hf
      refine mj_locs [0] (l' := [(0, .ref v0)]) rfl ?_
      exact w_X8_worth_33 v0 p5.2 _ hf
    · have hf := (if_neg q).symm.trans hf
      refine mj_blk k_X8_ok 8 1 (pc' := 19) (l' := [(0, .ref v0), (1, .int v1), (2, .int v2), (3, .int v3), (4, .int v4)]) (st' := [.int v3]) rfl ?_
      obtain ⟨p6, ep6, hf⟩ := mj_bd hf
      refine mj_callS mX8_isWeighed [.int v3] 9 rfl ll_X8_215 lb_X8_isWeighed li_X8_isWeighed ⟨Nat.le_of_ble_eq_true rfl, Nat.le_of_ble_eq_true rfl⟩ rfl (rest := []) rfl (Nat.le_of_ble_eq_true rfl) ⟨Nat.le_of_ble_eq_true rfl, Nat.le_of_ble_eq_true rfl⟩ (c_X8_isWeighed v3 p5.2 p6 ep6) ?_
      show mj_W mX8_worth (mj_FI p) 22 [(0, .ref v0), (1, .int v1), (2, .int v2), (3, .int v3), (4, .int v4)] [.int p6.1] p6.2 0 0
      refine mj_if_eq 10 33 rfl (by decide) (fun q => ?_) (fun q => ?_)
      · have hf := (if_pos q).symm.trans hf
        refine mj_locs [0] (l' := [(0, .ref v0)]) rfl ?_
        exact w_X8_worth_33 v0 p6.2 _ hf
      · have hf := (if_neg q).symm.trans hf
        refine mj_blk k_X8_ok 11 1 (pc' := 27) (l' := [(0, .ref v0), (1, .int v1), (2, .int v2), (3, .int v3), (4, .int v4)]) (st' := [.int v4]) rfl ?_
        obtain ⟨p7, ep7, hf⟩ := mj_bd hf
        refine mj_callS mX8_isNeed [.int v4] 12 rfl ll_X8_182 lb_X8_isNeed li_X8_isNeed ⟨Nat.le_of_ble_eq_true rfl, Nat.le_of_ble_eq_true rfl⟩ rfl (rest := []) rfl (Nat.le_of_ble_eq_true rfl) ⟨Nat.le_of_ble_eq_true rfl, Nat.le_of_ble_eq_true rfl⟩ (c_X8_isNeed v4 p6.2 p7 ep7) ?_
        show mj_W mX8_worth (mj_FI p) 30 [(0, .ref v0), (1, .int v1), (2, .int v2), (3, .int v3), (4, .int v4)] [.int p7.1] p7.2 0 0
        refine mj_if_ne 13 42 rfl (by decide) (fun q => ?_) (fun q => ?_)
        · have hf := (if_neg q).symm.trans hf
          refine mj_blk k_X8_ok 19 1 (pc' := 43) (l' := [(0, .ref v0), (1, .int v1), (2, .int v2), (3, .int v3), (4, .int v4)]) (st' := [.ref v0]) rfl ?_
          obtain ⟨x8, ex8, hf⟩ := mj_bd hf
          refine mj_get 20 rfl fl_X8_10 (mj_gR_V ex8) ?_
          obtain ⟨x9, ex9, hf⟩ := mj_bd hf
          refine mj_get 21 rfl fl_X8_136 (mj_gI_V ex9) ?_
          refine mj_blk k_X8_ok 22 1 (pc' := 50) (l' := [(0, .ref v0), (1, .int v1), (2, .int v2), (3, .int v3), (4, .int v4)]) (st' := [.int v2, .int x9]) rfl ?_
          obtain ⟨p10, ep10, hf⟩ := mj_bd hf
          refine mj_callS mX8_costOf [.int v2] 23 rfl ll_X8_139 lb_X8_costOf li_X8_costOf ⟨Nat.le_of_ble_eq_true rfl, Nat.le_of_ble_eq_true rfl⟩ rfl (rest := [.int x9]) rfl (Nat.le_of_ble_eq_true rfl) ⟨Nat.le_of_ble_eq_true rfl, Nat.le_of_ble_eq_true rfl⟩ (c_X8_costOf v2 p7.2 p10 ep10) ?_
          show mj_W mX8_worth (mj_FI p) 53 [(0, .ref v0), (1, .int v1), (2, .int v2), (3, .int v3), (4, .int v4)] [.int p10.1, .int x9] p10.2 0 0
          refine mj_icmp_lt 24 67 rfl (by decide) (fun q => ?_) (fun q => ?_)
          · have hf := (if_pos q).symm.trans hf
            refine mj_locs [0] (l' := [(0, .ref v0)]) rfl ?_
            exact w_X8_worth_67 v0 p10.2 _ hf
          · have hf := (if_neg q).symm.trans hf
            refine mj_blk k_X8_ok 25 2 (pc' := 58) (l' := [(0, .ref v0), (1, .int v1), (2, .int v2), (3, .int v3), (4, .int v4)]) (st' := [.ref v0, .int v3]) rfl ?_
            obtain ⟨x11, ex11, hf⟩ := mj_bd hf
            refine mj_get 27 rfl fl_X8_10 (mj_gR_V ex11) ?_
            obtain ⟨x12, ex12, hf⟩ := mj_bd hf
            refine mj_get 28 rfl fl_X8_205 (mj_gI_V ex12) ?_
            refine mj_icmp_le 29 76 rfl (by decide) (fun q => ?_) (fun q => ?_)
            · have hf := (if_pos q).symm.trans hf
              refine mj_blk k_X8_ok 35 8 (pc' := 86) (l' := [(0, .ref v0), (1, .int v1), (2, .int v2), (3, .int v3), (4, .int v4)]) (st' := [.int v4, .int v3, .ref v0, .int v4, .int v3, .int v2, .int v1, .ref v0]) rfl ?_
              obtain ⟨gp13, hf⟩ := mj_gd hf
              obtain ⟨p13, ep13, hf⟩ := mj_bd hf
              refine mj_callV (T := TX8) (N := 14) (ci := 8) mX8_waysNow [.int v3, .int v4] 43 rfl ll_X8_220 lb_X8_waysNow li_X8_waysNow ⟨Nat.le_of_ble_eq_true rfl, Nat.le_of_ble_eq_true rfl⟩ rfl gp13 rfl (rest := [.int v4, .int v3, .int v2, .int v1, .ref v0]) rfl (Nat.le_of_ble_eq_true rfl) ⟨Nat.le_of_ble_eq_true rfl, Nat.le_of_ble_eq_true rfl⟩ (c_X8_waysNow v0 v3 v4 p10.2 p13 ep13) ?_
              show mj_W mX8_worth (mj_FI p) 89 [(0, .ref v0), (1, .int v1), (2, .int v2), (3, .int v3), (4, .int v4)] [.long p13.1, .int v4, .int v3, .int v2, .int v1, .ref v0] p13.2 0 0
              obtain ⟨gp14, hf⟩ := mj_gd hf
              obtain ⟨p14, ep14, hf⟩ := mj_bd hf
              refine mj_callV (T := TX8) (N := 14) (ci := 8) mX8_gainOf [.int v1, .int v2, .int v3, .int v4, .long p13.1] 44 rfl ll_X8_223 lb_X8_gainOf li_X8_gainOf ⟨Nat.le_of_ble_eq_true rfl, Nat.le_of_ble_eq_true rfl⟩ rfl gp14 rfl (rest := []) rfl (Nat.le_of_ble_eq_true rfl) ⟨Nat.le_of_ble_eq_true rfl, Nat.le_of_ble_eq_true rfl⟩ (c_X8_gainOf v0 v1 v2 v3 v4 p13.1 p13.2 p14 ep14) ?_
              show mj_W mX8_worth (mj_FI p) 92 [(0, .ref v0), (1, .int v1), (2, .int v2), (3, .int v3), (4, .int v4)] [.int p14.1] p14.2 0 0
              obtain rfl := Option.some.inj hf
              exact mj_end (some (.int p14.1)) ⟨mj_dec tok_X8_worth (a := 45) rfl, .int, rfl, rfl⟩ ⟨rfl, rfl⟩ (Nat.le_of_ble_eq_true rfl) (Nat.le_of_ble_eq_true rfl)
            · have hf := (if_neg q).symm.trans hf
              refine mj_locs [0] (l' := [(0, .ref v0)]) rfl ?_
              exact w_X8_worth_67 v0 p10.2 _ hf
        · have hf := (if_pos q).symm.trans hf
          refine mj_locs [0] (l' := [(0, .ref v0)]) rfl ?_
          exact w_X8_worth_33 v0 p7.2 _ hf
def f_X8_best_131 (K52 : Nat → Int32 → Int32 → Int64 → Int32 → Int32 → Int32 → mj_H → Option (Int32 × mj_H)) (K67 : Nat → Int32 → Int32 → Int64 → Int32 → Int32 → Int32 → Int32 → mj_H → Option (Int32 × mj_H)) (v0 : Nat) (v1 : Int32) (v2 : Int32) (v3 : Int64) (v5 : Int32) (v6 : Int32) (v7 : Int32) (v8 : Int32) (h : mj_H) : Option (Int32 × mj_H) := K67 v0 v1 v2 v3 v5 v6 v7 (v8 + (1 : Int32)) h
set_option maxHeartbeats 4000000 in
set_option maxRecDepth 100000 in
theorem w_X8_best_131 (K52 : Nat → Int32 → Int32 → Int64 → Int32 → Int32 → Int32 → mj_H → Option (Int32 × mj_H)) (K67 : Nat → Int32 → Int32 → Int64 → Int32 → Int32 → Int32 → Int32 → mj_H → Option (Int32 × mj_H)) (hK52 : ∀ (v0 : Nat) (v1 : Int32) (v2 : Int32) (v3 : Int64) (v5 : Int32) (v6 : Int32) (v7 : Int32)  (h : mj_H) (p : Int32 × mj_H), K52 v0 v1 v2 v3 v5 v6 v7 h = some p → mj_W mX8_best (mj_FI p) 52 [(0, .ref v0), (1, .int v1), (2, .int v2), (3, .long v3), (5, .int v5), (6, .int v6), (7, .int v7)] [] h 0 0) (hK67 : ∀ (v0 : Nat) (v1 : Int32) (v2 : Int32) (v3 : Int64) (v5 : Int32) (v6 : Int32) (v7 : Int32) (v8 : Int32)  (h : mj_H) (p : Int32 × mj_H), K67 v0 v1 v2 v3 v5 v6 v7 v8 h = some p → mj_W mX8_best (mj_FI p) 67 [(0, .ref v0), (1, .int v1), (2, .int v2), (3, .long v3), (5, .int v5), (6, .int v6), (7, .int v7), (8, .int v8)] [] h 0 0) (v0 : Nat) (v1 : Int32) (v2 : Int32) (v3 : Int64) (v5 : Int32) (v6 : Int32) (v7 : Int32) (v8 : Int32) (h : mj_H) (p : Int32 × mj_H) (hf : f_X8_best_131 K52 K67 v0 v1 v2 v3 v5 v6 v7 v8 h = some p) : mj_W mX8_best (mj_FI p) 131 [(0, .ref v0), (1, .int v1), (2, .int v2), (3, .long v3), (5, .int v5), (6, .int v6), (7, .int v7), (8, .int v8)] [] h 0 0 := by
  unfold f_X8_best_131 at hf
  refine mj_blk k_X8_ok 68 2 (pc' := 67) (l' := [(8, .int (v8 + (1 : Int32))), (0, .ref v0), (1, .int v1), (2, .int v2), (3, .long v3), (5, .int v5), (6, .int v6), (7, .int v7)]) (st' := []) rfl ?_
  refine mj_locs [1, 2, 3, 4, 5, 6, 7, 0] (l' := [(0, .ref v0), (1, .int v1), (2, .int v2), (3, .long v3), (5, .int v5), (6, .int v6), (7, .int v7), (8, .int (v8 + (1 : Int32)))]) rfl ?_
  exact hK67 v0 v1 v2 v3 v5 v6 v7 (v8 + (1 : Int32)) h _ hf
def f_X8_best_117 (K52 : Nat → Int32 → Int32 → Int64 → Int32 → Int32 → Int32 → mj_H → Option (Int32 × mj_H)) (K67 : Nat → Int32 → Int32 → Int64 → Int32 → Int32 → Int32 → Int32 → mj_H → Option (Int32 × mj_H)) (v0 : Nat) (v1 : Int32) (v2 : Int32) (v3 : Int64) (v7 : Int32) (v8 : Int32) (v9 : Int32) (h : mj_H) : Option (Int32 × mj_H) := f_X8_best_131 K52 K67 v0 v1 v2 v3 (((10 : Int32) * v7) + v8) v9 v7 v8 h
set_option maxHeartbeats 4000000 in
set_option maxRecDepth 100000 in
theorem w_X8_best_117 (K52 : Nat → Int32 → Int32 → Int64 → Int32 → Int32 → Int32 → mj_H → Option (Int32 × mj_H)) (K67 : Nat → Int32 → Int32 → Int64 → Int32 → Int32 → Int32 → Int32 → mj_H → Option (Int32 × mj_H)) (hK52 : ∀ (v0 : Nat) (v1 : Int32) (v2 : Int32) (v3 : Int64) (v5 : Int32) (v6 : Int32) (v7 : Int32)  (h : mj_H) (p : Int32 × mj_H), K52 v0 v1 v2 v3 v5 v6 v7 h = some p → mj_W mX8_best (mj_FI p) 52 [(0, .ref v0), (1, .int v1), (2, .int v2), (3, .long v3), (5, .int v5), (6, .int v6), (7, .int v7)] [] h 0 0) (hK67 : ∀ (v0 : Nat) (v1 : Int32) (v2 : Int32) (v3 : Int64) (v5 : Int32) (v6 : Int32) (v7 : Int32) (v8 : Int32)  (h : mj_H) (p : Int32 × mj_H), K67 v0 v1 v2 v3 v5 v6 v7 v8 h = some p → mj_W mX8_best (mj_FI p) 67 [(0, .ref v0), (1, .int v1), (2, .int v2), (3, .long v3), (5, .int v5), (6, .int v6), (7, .int v7), (8, .int v8)] [] h 0 0) (v0 : Nat) (v1 : Int32) (v2 : Int32) (v3 : Int64) (v7 : Int32) (v8 : Int32) (v9 : Int32) (h : mj_H) (p : Int32 × mj_H) (hf : f_X8_best_117 K52 K67 v0 v1 v2 v3 v7 v8 v9 h = some p) : mj_W mX8_best (mj_FI p) 117 [(0, .ref v0), (1, .int v1), (2, .int v2), (3, .long v3), (7, .int v7), (8, .int v8), (9, .int v9)] [] h 0 0 := by
  unfold f_X8_best_117 at hf
  refine mj_blk k_X8_ok 60 8 (pc' := 131) (l' := [(6, .int v9), (5, .int (((10 : Int32) * v7) + v8)), (0, .ref v0), (1, .int v1), (2, .int v2), (3, .long v3), (7, .int v7), (8, .int v8), (9, .int v9)]) (st' := []) rfl ?_
  refine mj_locs [2, 3, 4, 5, 1, 0, 6, 7] (l' := [(0, .ref v0), (1, .int v1), (2, .int v2), (3, .long v3), (5, .int (((10 : Int32) * v7) + v8)), (6, .int v9), (7, .int v7), (8, .int v8)]) rfl ?_
  exact w_X8_best_131 K52 K67 hK52 hK67 v0 v1 v2 v3 (((10 : Int32) * v7) + v8) v9 v7 v8 h _ hf
def b_X8_best_67 (K52 : Nat → Int32 → Int32 → Int64 → Int32 → Int32 → Int32 → mj_H → Option (Int32 × mj_H)) (K67 : Nat → Int32 → Int32 → Int64 → Int32 → Int32 → Int32 → Int32 → mj_H → Option (Int32 × mj_H)) (v0 : Nat) (v1 : Int32) (v2 : Int32) (v3 : Int64) (v5 : Int32) (v6 : Int32) (v7 : Int32) (v8 : Int32) (h : mj_H) : Option (Int32 × mj_H) := (if (3 : Int32) ≤ v8 then K52 v0 v1 v2 v3 v5 v6 (v7 + (1 : Int32)) h else (mj_gR h v0 8 0).bind fun x1 => (mj_gI h x1 0 6).bind fun x2 => (f_X8_costOf v8 h).bind fun p3 => (if p3.1 ≤ x2 then (if mj_ob p3.2 v0 8 = true then (f_X8_gainOf v0 v7 v8 v1 v2 v3 p3.2).bind fun p4 => (if v5 = (-1 : Int32) then f_X8_best_117 K52 K67 v0 v1 v2 v3 v7 v8 p4.1 p4.2 else (if p4.1 ≤ v6 then f_X8_best_131 K52 K67 v0 v1 v2 v3 v5 v6 v7 v8 p4.2 else f_X8_best_117 K52 K67 v0 v1 v2 v3 v7 v8 p4.1 p4.2)) else none) else f_X8_best_131 K52 K67 v0 v1 v2 v3 v5 v6 v7 v8 p3.2))
set_option maxHeartbeats 4000000 in
set_option maxRecDepth 100000 in
theorem wb_X8_best_67 (K52 : Nat → Int32 → Int32 → Int64 → Int32 → Int32 → Int32 → mj_H → Option (Int32 × mj_H)) (hK52 : ∀ (v0 : Nat) (v1 : Int32) (v2 : Int32) (v3 : Int64) (v5 : Int32) (v6 : Int32) (v7 : Int32)  (h : mj_H) (p : Int32 × mj_H), K52 v0 v1 v2 v3 v5 v6 v7 h = some p → mj_W mX8_best (mj_FI p) 52 [(0, .ref v0), (1, .int v1), (2, .int v2), (3, .long v3), (5, .int v5), (6, .int v6), (7, .int v7)] [] h 0 0) (K67 : Nat → Int32 → Int32 → Int64 → Int32 → Int32 → Int32 → Int32 → mj_H → Option (Int32 × mj_H)) (hK67 : ∀ (v0 : Nat) (v1 : Int32) (v2 : Int32) (v3 : Int64) (v5 : Int32) (v6 : Int32) (v7 : Int32) (v8 : Int32)  (h : mj_H) (p : Int32 × mj_H), K67 v0 v1 v2 v3 v5 v6 v7 v8 h = some p → mj_W mX8_best (mj_FI p) 67 [(0, .ref v0), (1, .int v1), (2, .int v2), (3, .long v3), (5, .int v5), (6, .int v6), (7, .int v7), (8, .int v8)] [] h 0 0) (v0 : Nat) (v1 : Int32) (v2 : Int32) (v3 : Int64) (v5 : Int32) (v6 : Int32) (v7 : Int32) (v8 : Int32) (h : mj_H) (p : Int32 × mj_H) (hf : b_X8_best_67 K52 K67 v0 v1 v2 v3 v5 v6 v7 v8 h = some p) : mj_W mX8_best (mj_FI p) 67 [(0, .ref v0), (1, .int v1), (2, .int v2), (3, .long v3), (5, .int v5), (6, .int v6), (7, .int v7), (8, .int v8)] [] h 0 0 := by
  unfold b_X8_best_67 at hf
  refine mj_blk k_X8_ok 36 2 (pc' := 70) (l' := [(0, .ref v0), (1, .int v1), (2, .int v2), (3, .long v3), (5, .int v5), (6, .int v6), (7, .int v7), (8, .int v8)]) (st' := [.int (3 : Int32), .int v8]) rfl ?_
  refine mj_icmp_ge 38 137 rfl (by decide) (fun q => ?_) (fun q => ?_)
  · have hf := (if_pos q).symm.trans hf
    refine mj_blk k_X8_ok 70 2 (pc' := 52) (l' := [(7, .int (v7 + (1 : Int32))), (0, .ref v0), (1, .int v1), (2, .int v2), (3, .long v3), (5, .int v5), (6, .int v6), (8, .int v8)]) (st' := []) rfl ?_
    refine mj_locs [1, 2, 3, 4, 5, 6, 0] (l' := [(0, .ref v0), (1, .int v1), (2, .int v2), (3, .long v3), (5, .int v5), (6, .int v6), (7, .int (v7 + (1 : Int32)))]) rfl ?_
    exact hK52 v0 v1 v2 v3 v5 v6 (v7 + (1 : Int32)) h _ hf
  · have hf := (if_neg q).symm.trans hf
    refine mj_blk k_X8_ok 39 1 (pc' := 74) (l' := [(0, .ref v0), (1, .int v1), (2, .int v2), (3, .long v3), (5, .int v5), (6, .int v6), (7, .int v7), (8, .int v8)]) (st' := [.ref v0]) rfl ?_
    obtain ⟨x1, ex1, hf⟩ := mj_bd hf
    refine mj_get 40 rfl fl_X8_10 (mj_gR_V ex1) ?_
    obtain ⟨x2, ex2, hf⟩ := mj_bd hf
    refine mj_get 41 rfl fl_X8_136 (mj_gI_V ex2) ?_
    refine mj_blk k_X8_ok 42 1 (pc' := 82) (l' := [(0, .ref v0), (1, .int v1), (2, .int v2), (3, .long v3), (5, .int v5), (6, .int v6), (7, .int v7), (8, .int v8)]) (st' := [.int v8, .int x2]) rfl ?_
    obtain ⟨p3, ep3, hf⟩ := mj_bd hf
    refine mj_callS mX8_costOf [.int v8] 43 rfl ll_X8_139 lb_X8_costOf li_X8_costOf ⟨Nat.le_of_ble_eq_true rfl, Nat.le_of_ble_eq_true rfl⟩ rfl (rest := [.int x2]) rfl (Nat.le_of_ble_eq_true rfl) ⟨Nat.le_of_ble_eq_true rfl, Nat.le_of_ble_eq_true rfl⟩ (c_X8_costOf v8 h p3 ep3) ?_
    show mj_W mX8_best (mj_FI p) 85 [(0, .ref v0), (1, .int v1), (2, .int v2), (3, .long v3), (5, .int v5), (6, .int v6), (7, .int v7), (8, .int v8)] [.int p3.1, .int x2] p3.2 0 0
    refine mj_icmp_ge 44 91 rfl (by decide) (fun q => ?_) (fun q => ?_)
    · have hf := (if_pos q).symm.trans hf
      refine mj_blk k_X8_ok 46 6 (pc' := 99) (l' := [(0, .ref v0), (1, .int v1), (2, .int v2), (3, .long v3), (5, .int v5), (6, .int v6), (7, .int v7), (8, .int v8)]) (st' := [.long v3, .int v2, .int v1, .int v8, .int v7, .ref v0]) rfl ?_
      obtain ⟨gp4, hf⟩ := mj_gd hf
      obtain ⟨p4, ep4, hf⟩ := mj_bd hf
      refine mj_callV (T := TX8) (N := 14) (ci := 8) mX8_gainOf [.int v7, .int v8, .int v1, .int v2, .long v3] 52 rfl ll_X8_223 lb_X8_gainOf li_X8_gainOf ⟨Nat.le_of_ble_eq_true rfl, Nat.le_of_ble_eq_true rfl⟩ rfl gp4 rfl (rest := []) rfl (Nat.le_of_ble_eq_true rfl) ⟨Nat.le_of_ble_eq_true rfl, Nat.le_of_ble_eq_true rfl⟩ (c_X8_gainOf v0 v7 v8 v1 v2 v3 p3.2 p4 ep4) ?_
      show mj_W mX8_best (mj_FI p) 102 [(0, .ref v0), (1, .int v1), (2, .int v2), (3, .long v3), (5, .int v5), (6, .int v6), (7, .int v7), (8, .int v8)] [.int p4.1] p4.2 0 0
      refine mj_blk k_X8_ok 53 3 (pc' := 107) (l' := [(9, .int p4.1), (0, .ref v0), (1, .int v1), (2, .int v2), (3, .long v3), (5, .int v5), (6, .int v6), (7, .int v7), (8, .int v8)]) (st' := [.int (-1 : Int32), .int v5]) rfl ?_
      refine mj_icmp_eq 56 117 rfl (by decide) (fun q => ?_) (fun q => ?_)
      · have hf := (if_pos q).symm.trans hf
        refine mj_locs [1, 2, 3, 4, 7, 8, 0] (l' := [(0, .ref v0), (1, .int v1), (2, .int v2), (3, .long v3), (7, .int v7), (8, .int v8), (9, .int p4.1)]) rfl ?_
        exact w_X8_best_117 K52 K67 hK52 hK67 v0 v1 v2 v3 v7 v8 p4.1 p4.2 _ hf
      · have hf := (if_neg q).symm.trans hf
        refine mj_blk k_X8_ok 57 2 (pc' := 114) (l' := [(9, .int p4.1), (0, .ref v0), (1, .int v1), (2, .int v2), (3, .long v3), (5, .int v5), (6, .int v6), (7, .int v7), (8, .int v8)]) (st' := [.int v6, .int p4.1]) rfl ?_
        refine mj_icmp_le 59 131 rfl (by decide) (fun q => ?_) (fun q => ?_)
        · have hf := (if_pos q).symm.trans hf
          refine mj_locs [1, 2, 3, 4, 5, 6, 7, 8] (l' := [(0, .ref v0), (1, .int v1), (2, .int v2), (3, .long v3), (5, .int v5), (6, .int v6), (7, .int v7), (8, .int v8)]) rfl ?_
          exact w_X8_best_131 K52 K67 hK52 hK67 v0 v1 v2 v3 v5 v6 v7 v8 p4.2 _ hf
        · have hf := (if_neg q).symm.trans hf
          refine mj_locs [1, 2, 3, 4, 7, 8, 0] (l' := [(0, .ref v0), (1, .int v1), (2, .int v2), (3, .long v3), (7, .int v7), (8, .int v8), (9, .int p4.1)]) rfl ?_
          exact w_X8_best_117 K52 K67 hK52 hK67 v0 v1 v2 v3 v7 v8 p4.1 p4.2 _ hf
    · have hf := (if_neg q).symm.trans hf
      refine mj_blk k_X8_ok 45 1 (pc' := 131) (l' := [(0, .ref v0), (1, .int v1), (2, .int v2), (3, .long v3), (5, .int v5), (6, .int v6), (7, .int v7), (8, .int v8)]) (st' := []) rfl ?_
      exact w_X8_best_131 K52 K67 hK52 hK67 v0 v1 v2 v3 v5 v6 v7 v8 p3.2 _ hf
def f_X8_best_67 (K52 : Nat → Int32 → Int32 → Int64 → Int32 → Int32 → Int32 → mj_H → Option (Int32 × mj_H)) (v0 : Nat) (v1 : Int32) (v2 : Int32) (v3 : Int64) (v5 : Int32) (v6 : Int32) (v7 : Int32) (v8 : Int32) (h : mj_H) : Option (Int32 × mj_H) := mj_fix (fun (K67 : (Nat × Int32 × Int32 × Int64 × Int32 × Int32 × Int32 × Int32 × mj_H) → Option (Int32 × mj_H)) (s : Nat × Int32 × Int32 × Int64 × Int32 × Int32 × Int32 × Int32 × mj_H) => b_X8_best_67 K52 (fun v0 v1 v2 v3 v5 v6 v7 v8 h => K67 (v0, v1, v2, v3, v5, v6, v7, v8, h)) s.1 s.2.1 s.2.2.1 s.2.2.2.1 s.2.2.2.2.1 s.2.2.2.2.2.1 s.2.2.2.2.2.2.1 s.2.2.2.2.2.2.2.1 s.2.2.2.2.2.2.2.2) 1000 (v0, v1, v2, v3, v5, v6, v7, v8, h)
set_option maxHeartbeats 4000000 in
set_option maxRecDepth 100000 in
theorem w_X8_best_67 (K52 : Nat → Int32 → Int32 → Int64 → Int32 → Int32 → Int32 → mj_H → Option (Int32 × mj_H)) (hK52 : ∀ (v0 : Nat) (v1 : Int32) (v2 : Int32) (v3 : Int64) (v5 : Int32) (v6 : Int32) (v7 : Int32)  (h : mj_H) (p : Int32 × mj_H), K52 v0 v1 v2 v3 v5 v6 v7 h = some p → mj_W mX8_best (mj_FI p) 52 [(0, .ref v0), (1, .int v1), (2, .int v2), (3, .long v3), (5, .int v5), (6, .int v6), (7, .int v7)] [] h 0 0) (v0 : Nat) (v1 : Int32) (v2 : Int32) (v3 : Int64) (v5 : Int32) (v6 : Int32) (v7 : Int32) (v8 : Int32) (h : mj_H) (p : Int32 × mj_H) (hf : f_X8_best_67 K52 v0 v1 v2 v3 v5 v6 v7 v8 h = some p) : mj_W mX8_best (mj_FI p) 67 [(0, .ref v0), (1, .int v1), (2, .int v2), (3, .long v3), (5, .int v5), (6, .int v6), (7, .int v7), (8, .int v8)] [] h 0 0 := by
  unfold f_X8_best_67 at hf
  exact mj_fix_ind (F := (fun (K67 : (Nat × Int32 × Int32 × Int64 × Int32 × Int32 × Int32 × Int32 × mj_H) → Option (Int32 × mj_H)) (s : Nat × Int32 × Int32 × Int64 × Int32 × Int32 × Int32 × Int32 × mj_H) => b_X8_best_67 K52 (fun v0 v1 v2 v3 v5 v6 v7 v8 h => K67 (v0, v1, v2, v3, v5, v6, v7, v8, h)) s.1 s.2.1 s.2.2.1 s.2.2.2.1 s.2.2.2.2.1 s.2.2.2.2.2.1 s.2.2.2.2.2.2.1 s.2.2.2.2.2.2.2.1 s.2.2.2.2.2.2.2.2)) (P := fun s p => mj_W mX8_best (mj_FI p) 67 [(0, .ref s.1), (1, .int s.2.1), (2, .int s.2.2.1), (3, .long s.2.2.2.1), (5, .int s.2.2.2.2.1), (6, .int s.2.2.2.2.2.1), (7, .int s.2.2.2.2.2.2.1), (8, .int s.2.2.2.2.2.2.2.1)] [] s.2.2.2.2.2.2.2.2 0 0) (fun K67 hK67 s p hf => wb_X8_best_67 K52 hK52 (fun v0 v1 v2 v3 v5 v6 v7 v8 h => K67 (v0, v1, v2, v3, v5, v6, v7, v8, h)) (fun v0 v1 v2 v3 v5 v6 v7 v8 h p e => hK67 (v0, v1, v2, v3, v5, v6, v7, v8, h) p e) s.1 s.2.1 s.2.2.1 s.2.2.2.1 s.2.2.2.2.1 s.2.2.2.2.2.1 s.2.2.2.2.2.2.1 s.2.2.2.2.2.2.2.1 s.2.2.2.2.2.2.2.2 p hf) 1000 (v0, v1, v2, v3, v5, v6, v7, v8, h) p hf
def b_X8_best_52 (K52 : Nat → Int32 → Int32 → Int64 → Int32 → Int32 → Int32 → mj_H → Option (Int32 × mj_H)) (v0 : Nat) (v1 : Int32) (v2 : Int32) (v3 : Int64) (v5 : Int32) (v6 : Int32) (v7 : Int32) (h : mj_H) : Option (Int32 × mj_H) := (mj_gR h v0 8 0).bind fun x5 => (mj_gI h x5 0 4).bind fun x6 => (if x6 ≤ v7 then some (v5, h) else f_X8_best_67 K52 v0 v1 v2 v3 v5 v6 v7 (0 : Int32) h)
set_option maxHeartbeats 4000000 in
set_option maxRecDepth 100000 in
theorem wb_X8_best_52 (K52 : Nat → Int32 → Int32 → Int64 → Int32 → Int32 → Int32 → mj_H → Option (Int32 × mj_H)) (hK52 : ∀ (v0 : Nat) (v1 : Int32) (v2 : Int32) (v3 : Int64) (v5 : Int32) (v6 : Int32) (v7 : Int32)  (h : mj_H) (p : Int32 × mj_H), K52 v0 v1 v2 v3 v5 v6 v7 h = some p → mj_W mX8_best (mj_FI p) 52 [(0, .ref v0), (1, .int v1), (2, .int v2), (3, .long v3), (5, .int v5), (6, .int v6), (7, .int v7)] [] h 0 0) (v0 : Nat) (v1 : Int32) (v2 : Int32) (v3 : Int64) (v5 : Int32) (v6 : Int32) (v7 : Int32) (h : mj_H) (p : Int32 × mj_H) (hf : b_X8_best_52  K52 v0 v1 v2 v3 v5 v6 v7 h = some p) : mj_W mX8_best (mj_FI p) 52 [(0, .ref v0), (1, .int v1), (2, .int v2), (3, .long v3), (5, .int v5), (6, .int v6), (7, .int v7)] [] h 0 0 := by
  unfold b_X8_best_52 at hf
  refine mj_blk k_X8_ok 29 2 (pc' := 55) (l' := [(0, .ref v0), (1, .int v1), (2, .int v2), (3, .long v3), (5, .int v5), (6, .int v6), (7, .int v7)]) (st' := [.ref v0, .int v7]) rfl ?_
  obtain ⟨x5, ex5, hf⟩ := mj_bd hf
  refine mj_get 31 rfl fl_X8_10 (mj_gR_V ex5) ?_
  obtain ⟨x6, ex6, hf⟩ := mj_bd hf
  refine mj_get 32 rfl fl_X8_205 (mj_gI_V ex6) ?_
  refine mj_icmp_ge 33 143 rfl (by decide) (fun q => ?_) (fun q => ?_)
  · have hf := (if_pos q).symm.trans hf
    refine mj_blk k_X8_ok 72 1 (pc' := 145) (l' := [(0, .ref v0), (1, .int v1), (2, .int v2), (3, .long v3), (5, .int v5), (6, .int v6), (7, .int v7)]) (st' := [.int v5]) rfl ?_
    obtain rfl := Option.some.inj hf
    exact mj_end (some (.int v5)) ⟨mj_dec tok_X8_best (a := 73) rfl, .int, rfl, rfl⟩ ⟨rfl, rfl⟩ (Nat.le_of_ble_eq_true rfl) (Nat.le_of_ble_eq_true rfl)
  · have hf := (if_neg q).symm.trans hf
    refine mj_blk k_X8_ok 34 2 (pc' := 67) (l' := [(8, .int (0 : Int32)), (0, .ref v0), (1, .int v1), (2, .int v2), (3, .long v3), (5, .int v5), (6, .int v6), (7, .int v7)]) (st' := []) rfl ?_
    refine mj_locs [1, 2, 3, 4, 5, 6, 7, 0] (l' := [(0, .ref v0), (1, .int v1), (2, .int v2), (3, .long v3), (5, .int v5), (6, .int v6), (7, .int v7), (8, .int (0 : Int32))]) rfl ?_
    exact w_X8_best_67 K52 hK52 v0 v1 v2 v3 v5 v6 v7 (0 : Int32) h _ hf
def f_X8_best_52 (v0 : Nat) (v1 : Int32) (v2 : Int32) (v3 : Int64) (v5 : Int32) (v6 : Int32) (v7 : Int32) (h : mj_H) : Option (Int32 × mj_H) := mj_fix (fun (K52 : (Nat × Int32 × Int32 × Int64 × Int32 × Int32 × Int32 × mj_H) → Option (Int32 × mj_H)) (s : Nat × Int32 × Int32 × Int64 × Int32 × Int32 × Int32 × mj_H) => b_X8_best_52  (fun v0 v1 v2 v3 v5 v6 v7 h => K52 (v0, v1, v2, v3, v5, v6, v7, h)) s.1 s.2.1 s.2.2.1 s.2.2.2.1 s.2.2.2.2.1 s.2.2.2.2.2.1 s.2.2.2.2.2.2.1 s.2.2.2.2.2.2.2) 1000 (v0, v1, v2, v3, v5, v6, v7, h)
set_option maxHeartbeats 4000000 in
set_option maxRecDepth 100000 in
theorem w_X8_best_52 (v0 : Nat) (v1 : Int32) (v2 : Int32) (v3 : Int64) (v5 : Int32) (v6 : Int32) (v7 : Int32) (h : mj_H) (p : Int32 × mj_H) (hf : f_X8_best_52  v0 v1 v2 v3 v5 v6 v7 h = some p) : mj_W mX8_best (mj_FI p) 52 [(0, .ref v0), (1, .int v1), (2, .int v2), (3, .long v3), (5, .int v5), (6, .int v6), (7, .int v7)] [] h 0 0 := by
  unfold f_X8_best_52 at hf
  exact mj_fix_ind (F := (fun (K52 : (Nat × Int32 × Int32 × Int64 × Int32 × Int32 × Int32 × mj_H) → Option (Int32 × mj_H)) (s : Nat × Int32 × Int32 × Int64 × Int32 × Int32 × Int32 × mj_H) => b_X8_best_52  (fun v0 v1 v2 v3 v5 v6 v7 h => K52 (v0, v1, v2, v3, v5, v6, v7, h)) s.1 s.2.1 s.2.2.1 s.2.2.2.1 s.2.2.2.2.1 s.2.2.2.2.2.1 s.2.2.2.2.2.2.1 s.2.2.2.2.2.2.2)) (P := fun s p => mj_W mX8_best (mj_FI p) 52 [(0, .ref s.1), (1, .int s.2.1), (2, .int s.2.2.1), (3, .long s.2.2.2.1), (5, .int s.2.2.2.2.1), (6, .int s.2.2.2.2.2.1), (7, .int s.2.2.2.2.2.2.1)] [] s.2.2.2.2.2.2.2 0 0) (fun K52 hK52 s p hf => wb_X8_best_52   (fun v0 v1 v2 v3 v5 v6 v7 h => K52 (v0, v1, v2, v3, v5, v6, v7, h)) (fun v0 v1 v2 v3 v5 v6 v7 h p e => hK52 (v0, v1, v2, v3, v5, v6, v7, h) p e) s.1 s.2.1 s.2.2.1 s.2.2.2.1 s.2.2.2.2.1 s.2.2.2.2.2.1 s.2.2.2.2.2.2.1 s.2.2.2.2.2.2.2 p hf) 1000 (v0, v1, v2, v3, v5, v6, v7, h) p hf
def f_X8_best_14 (v0 : Nat) (h : mj_H) : Option (Int32 × mj_H) := (if mj_ob h v0 8 = true then (f_X8_refusedAs v0 (-2 : Int32) (-10 : Int32) h).bind fun p7 => some (p7.1, p7.2) else none)
set_option maxHeartbeats 4000000 in
set_option maxRecDepth 100000 in
theorem w_X8_best_14 (v0 : Nat) (h : mj_H) (p : Int32 × mj_H) (hf : f_X8_best_14  v0 h = some p) : mj_W mX8_best (mj_FI p) 14 [(0, .ref v0)] [] h 0 0 := by
  unfold f_X8_best_14 at hf
  refine mj_blk k_X8_ok 6 3 (pc' := 19) (l' := [(0, .ref v0)]) (st' := [.int (-10 : Int32), .int (-2 : Int32), .ref v0]) rfl ?_
  obtain ⟨gp7, hf⟩ := mj_gd hf
  obtain ⟨p7, ep7, hf⟩ := mj_bd hf
  refine mj_callV (T := TX8) (N := 14) (ci := 8) mX8_refusedAs [.int (-2 : Int32), .int (-10 : Int32)] 9 rfl ll_X8_202 lb_X8_refusedAs li_X8_refusedAs ⟨Nat.le_of_ble_eq_true rfl, Nat.le_of_ble_eq_true rfl⟩ rfl gp7 rfl (rest := []) rfl (Nat.le_of_ble_eq_true rfl) ⟨Nat.le_of_ble_eq_true rfl, Nat.le_of_ble_eq_true rfl⟩ (c_X8_refusedAs v0 (-2 : Int32) (-10 : Int32) h p7 ep7) ?_
  show mj_W mX8_best (mj_FI p) 22 [(0, .ref v0)] [.int p7.1] p7.2 0 0
  obtain rfl := Option.some.inj hf
  exact mj_end (some (.int p7.1)) ⟨mj_dec tok_X8_best (a := 10) rfl, .int, rfl, rfl⟩ ⟨rfl, rfl⟩ (Nat.le_of_ble_eq_true rfl) (Nat.le_of_ble_eq_true rfl)
def f_X8_best (v0 : Nat) (v1 : Int32) (v2 : Int32) (h : mj_H) : Option (Int32 × mj_H) := (f_X8_isWeighed v1 h).bind fun p8 => (if p8.1 = 0 then f_X8_best_14 v0 p8.2 else (f_X8_isNeed v2 p8.2).bind fun p9 => (if p9.1 = 0 then f_X8_best_14 v0 p9.2 else (mj_gR p9.2 v0 8 0).bind fun x10 => (mj_gI p9.2 x10 0 4).bind fun x11 => (if v1 ≤ x11 then (if mj_ob p9.2 v0 8 = true then (f_X8_waysNow v0 v1 v2 p9.2).bind fun p12 => f_X8_best_52 v0 v1 v2 p12.1 (-1 : Int32) (0 : Int32) (0 : Int32) p12.2 else none) else some ((-1 : Int32), p9.2))))
set_option maxHeartbeats 4000000 in
set_option maxRecDepth 100000 in
theorem c_X8_best (v0 : Nat) (v1 : Int32) (v2 : Int32) (h : mj_H) (p : Int32 × mj_H) (hf : f_X8_best v0 v1 v2 h = some p) : mj_Met mX8_best [.ref v0, .int v1, .int v2] h (some (.int p.1)) p.2 := by
  refine mj_met pl_X8 tok_X8_best (Nat.le_of_ble_eq_true rfl) ?_
  show mj_W mX8_best (mj_FI p) 0 [(0, .ref v0), (1, .int v1), (2, .int v2)] [] h 0 0
  unfold f_X8_best at hf
  refine mj_blk k_X8_ok 0 1 (pc' := 1) (l' := [(0, .ref v0), (1, .int v1), (2, .int v2)]) (st' := [.int v1]) rfl ?_
  obtain ⟨p8, ep8, hf⟩ := mj_bd hf
  refine mj_callS mX8_isWeighed [.int v1] 1 rfl ll_X8_215 lb_X8_isWeighed li_X8_isWeighed ⟨Nat.le_of_ble_eq_true rfl, Nat.le_of_ble_eq_true rfl⟩ rfl (rest := []) rfl (Nat.le_of_ble_eq_true rfl) ⟨Nat.le_of_ble_eq_true rfl, Nat.le_of_ble_eq_true rfl⟩ (c_X8_isWeighed v1 h p8 ep8) ?_
  show mj_W mX8_best (mj_FI p) 4 [(0, .ref v0), (1, .int v1), (2, .int v2)] [.int p8.1] p8.2 0 0
  refine mj_if_eq 2 14 rfl (by decide) (fun q => ?_) (fun q => ?_)
  · have hf := (if_pos q).symm.trans hf
    refine mj_locs [0] (l' := [(0, .ref v0)]) rfl ?_
    exact w_X8_best_14 v0 p8.2 _ hf
  · have hf := (if_neg q).symm.trans hf
    refine mj_blk k_X8_ok 3 1 (pc' := 8) (l' := [(0, .ref v0), (1, .int v1), (2, .int v2)]) (st' := [.int v2]) rfl ?_
    obtain ⟨p9, ep9, hf⟩ := mj_bd hf
    refine mj_callS mX8_isNeed [.int v2] 4 rfl ll_X8_182 lb_X8_isNeed li_X8_isNeed ⟨Nat.le_of_ble_eq_true rfl, Nat.le_of_ble_eq_true rfl⟩ rfl (rest := []) rfl (Nat.le_of_ble_eq_true rfl) ⟨Nat.le_of_ble_eq_true rfl, Nat.le_of_ble_eq_true rfl⟩ (c_X8_isNeed v2 p8.2 p9 ep9) ?_
    show mj_W mX8_best (mj_FI p) 11 [(0, .ref v0), (1, .int v1), (2, .int v2)] [.int p9.1] p9.2 0 0
    refine mj_if_ne 5 23 rfl (by decide) (fun q => ?_) (fun q => ?_)
    · have hf := (if_neg q).symm.trans hf
      refine mj_blk k_X8_ok 11 2 (pc' := 25) (l' := [(0, .ref v0), (1, .int v1), (2, .int v2)]) (st' := [.ref v0, .int v1]) rfl ?_
      obtain ⟨x10, ex10, hf⟩ := mj_bd hf
      refine mj_get 13 rfl fl_X8_10 (mj_gR_V ex10) ?_
      obtain ⟨x11, ex11, hf⟩ := mj_bd hf
      refine mj_get 14 rfl fl_X8_205 (mj_gI_V ex11) ?_
      refine mj_icmp_le 15 36 rfl (by decide) (fun q => ?_) (fun q => ?_)
      · have hf := (if_pos q).symm.trans hf
        refine mj_blk k_X8_ok 18 3 (pc' := 39) (l' := [(0, .ref v0), (1, .int v1), (2, .int v2)]) (st' := [.int v2, .int v1, .ref v0]) rfl ?_
        obtain ⟨gp12, hf⟩ := mj_gd hf
        obtain ⟨p12, ep12, hf⟩ := mj_bd hf
        refine mj_callV (T := TX8) (N := 14) (ci := 8) mX8_waysNow [.int v1, .int v2] 21 rfl ll_X8_220 lb_X8_waysNow li_X8_waysNow ⟨Nat.le_of_ble_eq_true rfl, Nat.le_of_ble_eq_true rfl⟩ rfl gp12 rfl (rest := []) rfl (Nat.le_of_ble_eq_true rfl) ⟨Nat.le_of_ble_eq_true rfl, Nat.le_of_ble_eq_true rfl⟩ (c_X8_waysNow v0 v1 v2 p9.2 p12 ep12) ?_
        show mj_W mX8_best (mj_FI p) 42 [(0, .ref v0), (1, .int v1), (2, .int v2)] [.long p12.1] p12.2 0 0
        refine mj_blk k_X8_ok 22 7 (pc' := 52) (l' := [(7, .int (0 : Int32)), (6, .int (0 : Int32)), (5, .int (-1 : Int32)), (3, .long p12.1), (0, .ref v0), (1, .int v1), (2, .int v2)]) (st' := []) rfl ?_
        refine mj_locs [4, 5, 6, 3, 2, 1, 0] (l' := [(0, .ref v0), (1, .int v1), (2, .int v2), (3, .long p12.1), (5, .int (-1 : Int32)), (6, .int (0 : Int32)), (7, .int (0 : Int32))]) rfl ?_
        exact w_X8_best_52 v0 v1 v2 p12.1 (-1 : Int32) (0 : Int32) (0 : Int32) p12.2 _ hf
      · have hf := (if_neg q).symm.trans hf
        refine mj_blk k_X8_ok 16 1 (pc' := 35) (l' := [(0, .ref v0), (1, .int v1), (2, .int v2)]) (st' := [.int (-1 : Int32)]) rfl ?_
        obtain rfl := Option.some.inj hf
        exact mj_end (some (.int (-1 : Int32))) ⟨mj_dec tok_X8_best (a := 17) rfl, .int, rfl, rfl⟩ ⟨rfl, rfl⟩ (Nat.le_of_ble_eq_true rfl) (Nat.le_of_ble_eq_true rfl)
    · have hf := (if_pos q).symm.trans hf
      refine mj_locs [0] (l' := [(0, .ref v0)]) rfl ?_
      exact w_X8_best_14 v0 p9.2 _ hf
