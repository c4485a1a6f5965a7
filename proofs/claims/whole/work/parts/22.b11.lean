/-! printed by wip/whole/gen.py: X9_home, X9_spy, X9_wearing, X9_looks, X9_next, X9_gets, X9_boast -/
def f_X9_home_73 (K35 : Nat → Int32 → Int32 → Int32 → Int32 → mj_H → Option (Int32 × mj_H)) (v0 : Nat) (v1 : Int32) (v2 : Int32) (v4 : Int32) (s0 : Int32) (h : mj_H) : Option (Int32 × mj_H) := K35 v0 v1 v2 s0 (v4 + (1 : Int32)) h
set_option maxHeartbeats 4000000 in
set_option maxRecDepth 100000 in
theorem w_X9_home_73 (K35 : Nat → Int32 → Int32 → Int32 → Int32 → mj_H → Option (Int32 × mj_H)) (hK35 : ∀ (v0 : Nat) (v1 : Int32) (v2 : Int32) (v3 : Int32) (v4 : Int32)  (h : mj_H) (p : Int32 × mj_H), K35 v0 v1 v2 v3 v4 h = some p → mj_W mX9_home (mj_FI p) 35 [(0, .ref v0), (1, .int v1), (2, .int v2), (3, .int v3), (4, .int v4)] [] h 0 0) (v0 : Nat) (v1 : Int32) (v2 : Int32) (v4 : Int32) (s0 : Int32) (h : mj_H) (p : Int32 × mj_H) (hf : f_X9_home_73 K35 v0 v1 v2 v4 s0 h = some p) : mj_W mX9_home (mj_FI p) 73 [(0, .ref v0), (1, .int v1), (2, .int v2), (4, .int v4)] [.int s0] h 0 0 := by
  unfold f_X9_home_73 at hf
  refine mj_blk k_X9_ok 43 3 (pc' := 35) (l' := [(4, .int (v4 + (1 : Int32))), (3, .int s0), (0, .ref v0), (1, .int v1), (2, .int v2)]) (st' := []) rfl ?_
  refine mj_locs [2, 3, 4, 1, 0] (l' := [(0, .ref v0), (1, .int v1), (2, .int v2), (3, .int s0), (4, .int (v4 + (1 : Int32)))]) rfl ?_
  exact hK35 v0 v1 v2 s0 (v4 + (1 : Int32)) h _ hf
def f_X9_home_72 (K35 : Nat → Int32 → Int32 → Int32 → Int32 → mj_H → Option (Int32 × mj_H)) (v0 : Nat) (v1 : Int32) (v2 : Int32) (v3 : Int32) (v4 : Int32) (h : mj_H) : Option (Int32 × mj_H) := f_X9_home_73 K35 v0 v1 v2 v4 v3 h
set_option maxHeartbeats 4000000 in
set_option maxRecDepth 100000 in
theorem w_X9_home_72 (K35 : Nat → Int32 → Int32 → Int32 → Int32 → mj_H → Option (Int32 × mj_H)) (hK35 : ∀ (v0 : Nat) (v1 : Int32) (v2 : Int32) (v3 : Int32) (v4 : Int32)  (h : mj_H) (p : Int32 × mj_H), K35 v0 v1 v2 v3 v4 h = some p → mj_W mX9_home (mj_FI p) 35 [(0, .ref v0), (1, .int v1), (2, .int v2), (3, .int v3), (4, .int v4)] [] h 0 0) (v0 : Nat) (v1 : Int32) (v2 : Int32) (v3 : Int32) (v4 : Int32) (h : mj_H) (p : Int32 × mj_H) (hf : f_X9_home_72 K35 v0 v1 v2 v3 v4 h = some p) : mj_W mX9_home (mj_FI p) 72 [(0, .ref v0), (1, .int v1), (2, .int v2), (3, .int v3), (4, .int v4)] [] h 0 0 := by
  unfold f_X9_home_72 at hf
  refine mj_blk k_X9_ok 42 1 (pc' := 73) (l' := [(0, .ref v0), (1, .int v1), (2, .int v2), (3, .int v3), (4, .int v4)]) (st' := [.int v3]) rfl ?_
  refine mj_locs [0, 1, 2, 4] (l' := [(0, .ref v0), (1, .int v1), (2, .int v2), (4, .int v4)]) rfl ?_
  exact w_X9_home_73 K35 hK35 v0 v1 v2 v4 v3 h _ hf
def b_X9_home_35 (K35 : Nat → Int32 → Int32 → Int32 → Int32 → mj_H → Option (Int32 × mj_H)) (v0 : Nat) (v1 : Int32) (v2 : Int32) (v3 : Int32) (v4 : Int32) (h : mj_H) : Option (Int32 × mj_H) := (if v2 < v4 then some (v3, h) else (f_X9_bits v4 h).bind fun p1 => (f_X9_bits v3 p1.2).bind fun p2 => (if p2.1 ≤ p1.1 then f_X9_home_72 K35 v0 v1 v2 v3 v4 p2.2 else (if mj_ob p2.2 v0 9 = true then (f_X9_areWell v0 (v2 &&& (v4 ^^^ (-1 : Int32))) v1 p2.2).bind fun p3 => (if p3.1 = 0 then f_X9_home_72 K35 v0 v1 v2 v3 v4 p3.2 else f_X9_home_73 K35 v0 v1 v2 v4 v4 p3.2) else none)))
set_option maxHeartbeats 4000000 in
set_option maxRecDepth 100000 in
theorem wb_X9_home_35 (K35 : Nat → Int32 → Int32 → Int32 → Int32 → mj_H → Option (Int32 × mj_H)) (hK35 : ∀ (v0 : Nat) (v1 : Int32) (v2 : Int32) (v3 : Int32) (v4 : Int32)  (h : mj_H) (p : Int32 × mj_H), K35 v0 v1 v2 v3 v4 h = some p → mj_W mX9_home (mj_FI p) 35 [(0, .ref v0), (1, .int v1), (2, .int v2), (3, .int v3), (4, .int v4)] [] h 0 0) (v0 : Nat) (v1 : Int32) (v2 : Int32) (v3 : Int32) (v4 : Int32) (h : mj_H) (p : Int32 × mj_H) (hf : b_X9_home_35  K35 v0 v1 v2 v3 v4 h = some p) : mj_W mX9_home (mj_FI p) 35 [(0, .ref v0), (1, .int v1), (2, .int v2), (3, .int v3), (4, .int v4)] [] h 0 0 := by
  unfold b_X9_home_35 at hf
  refine mj_blk k_X9_ok 23 2 (pc' := 38) (l' := [(0, .ref v0), (1, .int v1), (2, .int v2), (3, .int v3), (4, .int v4)]) (st' := [.int v2, .int v4]) rfl ?_
  refine mj_icmp_gt 25 80 rfl (by decide) (fun q => ?_) (fun q => ?_)
  · have hf := (if_pos q).symm.trans hf
    refine mj_blk k_X9_ok 46 1 (pc' := 81) (l' := [(0, .ref v0), (1, .int v1), (2, .int v2), (3, .int v3), (4, .int v4)]) (st' := [.int v3]) rfl ?_
    obtain rfl := Option.some.inj hf
    exact mj_end (some (.int v3)) ⟨mj_dec tok_X9_home (a := 47) rfl, .int, rfl, rfl⟩ ⟨rfl, rfl⟩ (Nat.le_of_ble_eq_true rfl) (Nat.le_of_ble_eq_true rfl)
  · have hf := (if_neg q).symm.trans hf
    refine mj_blk k_X9_ok 26 1 (pc' := 43) (l' := [(0, .ref v0), (1, .int v1), (2, .int v2), (3, .int v3), (4, .int v4)]) (st' := [.int v4]) rfl ?_
    obtain ⟨p1, ep1, hf⟩ := mj_bd hf
    refine mj_callS mX9_bits [.int v4] 27 rfl ll_X9_219 lb_X9_bits li_X9_bits ⟨Nat.le_of_ble_eq_true rfl, Nat.le_of_ble_eq_true rfl⟩ rfl (rest := []) rfl (Nat.le_of_ble_eq_true rfl) ⟨Nat.le_of_ble_eq_true rfl, Nat.le_of_ble_eq_true rfl⟩ (c_X9_bits v4 h p1 ep1) ?_
    show mj_W mX9_home (mj_FI p) 46 [(0, .ref v0), (1, .int v1), (2, .int v2), (3, .int v3), (4, .int v4)] [.int p1.1] p1.2 0 0
    refine mj_blk k_X9_ok 28 1 (pc' := 47) (l' := [(0, .ref v0), (1, .int v1), (2, .int v2), (3, .int v3), (4, .int v4)]) (st' := [.int v3, .int p1.1]) rfl ?_
    obtain ⟨p2, ep2, hf⟩ := mj_bd hf
    refine mj_callS mX9_bits [.int v3] 29 rfl ll_X9_219 lb_X9_bits li_X9_bits ⟨Nat.le_of_ble_eq_true rfl, Nat.le_of_ble_eq_true rfl⟩ rfl (rest := [.int p1.1]) rfl (Nat.le_of_ble_eq_true rfl) ⟨Nat.le_of_ble_eq_true rfl, Nat.le_of_ble_eq_true rfl⟩ (c_X9_bits v3 p1.2 p2 ep2) ?_
    show mj_W mX9_home (mj_FI p) 50 [(0, .ref v0), (1, .int v1), (2, .int v2), (3, .int v3), (4, .int v4)] [.int p2.1, .int p1.1] p2.2 0 0
    refine mj_icmp_ge 30 72 rfl (by decide) (fun q => ?_) (fun q => ?_)
    · have hf := (if_pos q).symm.trans hf
      exact w_X9_home_72 K35 hK35 v0 v1 v2 v3 v4 p2.2 _ hf
    · have hf := (if_neg q).symm.trans hf
      refine mj_blk k_X9_ok 31 7 (pc' := 61) (l' := [(0, .ref v0), (1, .int v1), (2, .int v2), (3, .int v3), (4, .int v4)]) (st' := [.int v1, .int (v2 &&& (v4 ^^^ (-1 : Int32))), .ref v0]) rfl ?_
      obtain ⟨gp3, hf⟩ := mj_gd hf
      obtain ⟨p3, ep3, hf⟩ := mj_bd hf
      refine mj_callV (T := TX9) (N := 20) (ci := 9) mX9_areWell [.int (v2 &&& (v4 ^^^ (-1 : Int32))), .int v1] 38 rfl ll_X9_253 lb_X9_areWell li_X9_areWell ⟨Nat.le_of_ble_eq_true rfl, Nat.le_of_ble_eq_true rfl⟩ rfl gp3 rfl (rest := []) rfl (Nat.le_of_ble_eq_true rfl) ⟨Nat.le_of_ble_eq_true rfl, Nat.le_of_ble_eq_true rfl⟩ (c_X9_areWell v0 (v2 &&& (v4 ^^^ (-1 : Int32))) v1 p2.2 p3 ep3) ?_
      show mj_W mX9_home (mj_FI p) 64 [(0, .ref v0), (1, .int v1), (2, .int v2), (3, .int v3), (4, .int v4)] [.int p3.1] p3.2 0 0
      refine mj_if_eq 39 72 rfl (by decide) (fun q => ?_) (fun q => ?_)
      · have hf := (if_pos q).symm.trans hf
        exact w_X9_home_72 K35 hK35 v0 v1 v2 v3 v4 p3.2 _ hf
      · have hf := (if_neg q).symm.trans hf
        refine mj_blk k_X9_ok 40 2 (pc' := 73) (l' := [(0, .ref v0), (1, .int v1), (2, .int v2), (3, .int v3), (4, .int v4)]) (st' := [.int v4]) rfl ?_
        refine mj_locs [0, 1, 2, 4] (l' := [(0, .ref v0), (1, .int v1), (2, .int v2), (4, .int v4)]) rfl ?_
        exact w_X9_home_73 K35 hK35 v0 v1 v2 v4 v4 p3.2 _ hf
def f_X9_home_35 (v0 : Nat) (v1 : Int32) (v2 : Int32) (v3 : Int32) (v4 : Int32) (h : mj_H) : Option (Int32 × mj_H) := mj_fix (fun (K35 : (Nat × Int32 × Int32 × Int32 × Int32 × mj_H) → Option (Int32 × mj_H)) (s : Nat × Int32 × Int32 × Int32 × Int32 × mj_H) => b_X9_home_35  (fun v0 v1 v2 v3 v4 h => K35 (v0, v1, v2, v3, v4, h)) s.1 s.2.1 s.2.2.1 s.2.2.2.1 s.2.2.2.2.1 s.2.2.2.2.2) 1000 (v0, v1, v2, v3, v4, h)
set_option maxHeartbeats 4000000 in
set_option maxRecDepth 100000 in
theorem w_X9_home_35 (v0 : Nat) (v1 : Int32) (v2 : Int32) (v3 : Int32) (v4 : Int32) (h : mj_H) (p : Int32 × mj_H) (hf : f_X9_home_35  v0 v1 v2 v3 v4 h = some p) : mj_W mX9_home (mj_FI p) 35 [(0, .ref v0), (1, .int v1), (2, .int v2), (3, .int v3), (4, .int v4)] [] h 0 0 := by
  unfold f_X9_home_35 at hf
  exact mj_fix_ind (F := (fun (K35 : (Nat × Int32 × Int32 × Int32 × Int32 × mj_H) → Option (Int32 × mj_H)) (s : Nat × Int32 × Int32 × Int32 × Int32 × mj_H) => b_X9_home_35  (fun v0 v1 v2 v3 v4 h => K35 (v0, v1, v2, v3, v4, h)) s.1 s.2.1 s.2.2.1 s.2.2.2.1 s.2.2.2.2.1 s.2.2.2.2.2)) (P := fun s p => mj_W mX9_home (mj_FI p) 35 [(0, .ref s.1), (1, .int s.2.1), (2, .int s.2.2.1), (3, .int s.2.2.2.1), (4, .int s.2.2.2.2.1)] [] s.2.2.2.2.2 0 0) (fun K35 hK35 s p hf => wb_X9_home_35   (fun v0 v1 v2 v3 v4 h => K35 (v0, v1, v2, v3, v4, h)) (fun v0 v1 v2 v3 v4 h p e => hK35 (v0, v1, v2, v3, v4, h) p e) s.1 s.2.1 s.2.2.1 s.2.2.2.1 s.2.2.2.2.1 s.2.2.2.2.2 p hf) 1000 (v0, v1, v2, v3, v4, h) p hf
def f_X9_home (v0 : Nat) (v1 : Int32) (h : mj_H) : Option (Int32 × mj_H) := (f_X9_in ((v1).toInt64) (0 : Int64) (120 : Int64) h).bind fun p4 => (if p4.1 = 0 then (if mj_ob p4.2 v0 9 = true then (f_X9_bad v0 (-2 : Int32) p4.2).bind fun p7 => some (p7.1, p7.2) else none) else (mj_gR p4.2 v0 9 0).bind fun x5 => (mj_aI p4.2 x5 (0 : Int32)).bind fun x6 => f_X9_home_35 v0 v1 (((1 : Int32) <<< (x6 &&& 31)) - (1 : Int32)) (((1 : Int32) <<< (x6 &&& 31)) - (1 : Int32)) (0 : Int32) p4.2)
set_option maxHeartbeats 4000000 in
set_option maxRecDepth 100000 in
theorem c_X9_home (v0 : Nat) (v1 : Int32) (h : mj_H) (p : Int32 × mj_H) (hf : f_X9_home v0 v1 h = some p) : mj_Met mX9_home [.ref v0, .int v1] h (some (.int p.1)) p.2 := by
  refine mj_met pl_X9 tok_X9_home (Nat.le_of_ble_eq_true rfl) ?_
  show mj_W mX9_home (mj_FI p) 0 [(0, .ref v0), (1, .int v1)] [] h 0 0
  unfold f_X9_home at hf
  refine mj_blk k_X9_ok 0 4 (pc' := 6) (l' := [(0, .ref v0), (1, .int v1)]) (st' := [.long (120 : Int64), .long (0 : Int64), .long ((v1).toInt64)]) rfl ?_
  obtain ⟨p4, ep4, hf⟩ := mj_bd hf
  refine mj_callS mX9_in [.long ((v1).toInt64), .long (0 : Int64), .long (120 : Int64)] 4 rfl ll_X9_53 lb_X9_in li_X9_in ⟨Nat.le_of_ble_eq_true rfl, Nat.le_of_ble_eq_true rfl⟩ rfl (rest := []) rfl (Nat.le_of_ble_eq_true rfl) ⟨Nat.le_of_ble_eq_true rfl, Nat.le_of_ble_eq_true rfl⟩ (c_X9_in ((v1).toInt64) (0 : Int64) (120 : Int64) h p4 ep4) ?_
  show mj_W mX9_home (mj_FI p) 9 [(0, .ref v0), (1, .int v1)] [.int p4.1] p4.2 0 0
  refine mj_if_ne 5 19 rfl (by decide) (fun q => ?_) (fun q => ?_)
  · have hf := (if_neg q).symm.trans hf
    refine mj_blk k_X9_ok 10 2 (pc' := 21) (l' := [(0, .ref v0), (1, .int v1)]) (st' := [.ref v0, .int (1 : Int32)]) rfl ?_
    obtain ⟨x5, ex5, hf⟩ := mj_bd hf
    refine mj_get 12 rfl fl_X9_7 (mj_gR_V ex5) ?_
    refine mj_blk k_X9_ok 13 1 (pc' := 25) (l' := [(0, .ref v0), (1, .int v1)]) (st' := [.int (0 : Int32), .ref x5, .int (1 : Int32)]) rfl ?_
    obtain ⟨x6, ex6, hf⟩ := mj_bd hf
    refine mj_iald 14 rfl ex6 ?_
    refine mj_blk k_X9_ok 15 8 (pc' := 35) (l' := [(4, .int (0 : Int32)), (3, .int (((1 : Int32) <<< (x6 &&& 31)) - (1 : Int32))), (2, .int (((1 : Int32) <<< (x6 &&& 31)) - (1 : Int32))), (0, .ref v0), (1, .int v1)]) (st' := []) rfl ?_
    refine mj_locs [3, 4, 2, 1, 0] (l' := [(0, .ref v0), (1, .int v1), (2, .int (((1 : Int32) <<< (x6 &&& 31)) - (1 : Int32))), (3, .int (((1 : Int32) <<< (x6 &&& 31)) - (1 : Int32))), (4, .int (0 : Int32))]) rfl ?_
    exact w_X9_home_35 v0 v1 (((1 : Int32) <<< (x6 &&& 31)) - (1 : Int32)) (((1 : Int32) <<< (x6 &&& 31)) - (1 : Int32)) (0 : Int32) p4.2 _ hf
  · have hf := (if_pos q).symm.trans hf
    refine mj_blk k_X9_ok 6 2 (pc' := 15) (l' := [(0, .ref v0), (1, .int v1)]) (st' := [.int (-2 : Int32), .ref v0]) rfl ?_
    obtain ⟨gp7, hf⟩ := mj_gd hf
    obtain ⟨p7, ep7, hf⟩ := mj_bd hf
    refine mj_callV (T := TX9) (N := 20) (ci := 9) mX9_bad [.int (-2 : Int32)] 8 rfl ll_X9_75 lb_X9_bad li_X9_bad ⟨Nat.le_of_ble_eq_true rfl, Nat.le_of_ble_eq_true rfl⟩ rfl gp7 rfl (rest := []) rfl (Nat.le_of_ble_eq_true rfl) ⟨Nat.le_of_ble_eq_true rfl, Nat.le_of_ble_eq_true rfl⟩ (c_X9_bad v0 (-2 : Int32) p4.2 p7 ep7) ?_
    show mj_W mX9_home (mj_FI p) 18 [(0, .ref v0), (1, .int v1)] [.int p7.1] p7.2 0 0
    obtain rfl := Option.some.inj hf
    exact mj_end (some (.int p7.1)) ⟨mj_dec tok_X9_home (a := 9) rfl, .int, rfl, rfl⟩ ⟨rfl, rfl⟩ (Nat.le_of_ble_eq_true rfl) (Nat.le_of_ble_eq_true rfl)
def f_X9_spy_60 (v0 : Nat) (v1 : Int32) (s0 : Int32) (h : mj_H) : Option (Int32 × mj_H) := (mj_gR h v0 9 0).bind fun x1 => (f_X9_trustOn x1 v1 h).bind fun p2 => some ((s0 - p2.1), p2.2)
set_option maxHeartbeats 4000000 in
set_option maxRecDepth 100000 in
theorem w_X9_spy_60 (v0 : Nat) (v1 : Int32) (s0 : Int32) (h : mj_H) (p : Int32 × mj_H) (hf : f_X9_spy_60  v0 v1 s0 h = some p) : mj_W mX9_spy (mj_FI p) 60 [(0, .ref v0), (1, .int v1)] [.int s0] h 0 0 := by
  unfold f_X9_spy_60 at hf
  refine mj_blk k_X9_ok 34 3 (pc' := 63) (l' := [(2, .int s0), (0, .ref v0), (1, .int v1)]) (st' := [.ref v0, .int s0]) rfl ?_
  obtain ⟨x1, ex1, hf⟩ := mj_bd hf
  refine mj_get 37 rfl fl_X9_7 (mj_gR_V ex1) ?_
  refine mj_blk k_X9_ok 38 1 (pc' := 67) (l' := [(2, .int s0), (0, .ref v0), (1, .int v1)]) (st' := [.int v1, .ref x1, .int s0]) rfl ?_
  obtain ⟨p2, ep2, hf⟩ := mj_bd hf
  refine mj_callS mX9_trustOn [.ref x1, .int v1] 39 rfl ll_X9_200 lb_X9_trustOn li_X9_trustOn ⟨Nat.le_of_ble_eq_true rfl, Nat.le_of_ble_eq_true rfl⟩ rfl (rest := [.int s0]) rfl (Nat.le_of_ble_eq_true rfl) ⟨Nat.le_of_ble_eq_true rfl, Nat.le_of_ble_eq_true rfl⟩ (c_X9_trustOn x1 v1 h p2 ep2) ?_
  show mj_W mX9_spy (mj_FI p) 70 [(2, .int s0), (0, .ref v0), (1, .int v1)] [.int p2.1, .int s0] p2.2 0 0
  refine mj_blk k_X9_ok 40 1 (pc' := 71) (l' := [(2, .int s0), (0, .ref v0), (1, .int v1)]) (st' := [.int (s0 - p2.1)]) rfl ?_
  obtain rfl := Option.some.inj hf
  exact mj_end (some (.int (s0 - p2.1))) ⟨mj_dec tok_X9_spy (a := 41) rfl, .int, rfl, rfl⟩ ⟨rfl, rfl⟩ (Nat.le_of_ble_eq_true rfl) (Nat.le_of_ble_eq_true rfl)
def f_X9_spy (v0 : Nat) (v1 : Int32) (h : mj_H) : Option (Int32 × mj_H) := (if mj_ob h v0 9 = true then (f_X9_isMan v0 v1 h).bind fun p3 => (if p3.1 = 0 then (if mj_ob p3.2 v0 9 = true then (f_X9_bad v0 (-2 : Int32) p3.2).bind fun p11 => some (p11.1, p11.2) else none) else (if mj_ob p3.2 v0 9 = true then (f_X9_layDay v0 p3.2).bind fun p4 => (mj_gR p4 v0 9 18).bind fun x5 => (mj_uI p4 x5 (((16 : Int32) + ((6 : Int32) * v1)) + (5 : Int32)) (0 : Int32)).bind fun h6 => (mj_gR h6 v0 9 18).bind fun x7 => (f_X9_allOf x7 v1 h6).bind fun p8 => (if p8.1 = (0 : Int64) then f_X9_spy_60 v0 v1 (60 : Int32) p8.2 else (mj_gR p8.2 v0 9 18).bind fun x9 => (f_X9_trustOn x9 v1 p8.2).bind fun p10 => f_X9_spy_60 v0 v1 p10.1 p10.2) else none)) else none)
set_option maxHeartbeats 4000000 in
set_option maxRecDepth 100000 in
theorem c_X9_spy (v0 : Nat) (v1 : Int32) (h : mj_H) (p : Int32 × mj_H) (hf : f_X9_spy v0 v1 h = some p) : mj_Met mX9_spy [.ref v0, .int v1] h (some (.int p.1)) p.2 := by
  refine mj_met pl_X9 tok_X9_spy (Nat.le_of_ble_eq_true rfl) ?_
  show mj_W mX9_spy (mj_FI p) 0 [(0, .ref v0), (1, .int v1)] [] h 0 0
  unfold f_X9_spy at hf
  refine mj_blk k_X9_ok 0 2 (pc' := 2) (l' := [(0, .ref v0), (1, .int v1)]) (st' := [.int v1, .ref v0]) rfl ?_
  obtain ⟨gp3, hf⟩ := mj_gd hf
  obtain ⟨p3, ep3, hf⟩ := mj_bd hf
  refine mj_callV (T := TX9) (N := 20) (ci := 9) mX9_isMan [.int v1] 2 rfl ll_X9_63 lb_X9_isMan li_X9_isMan ⟨Nat.le_of_ble_eq_true rfl, Nat.le_of_ble_eq_true rfl⟩ rfl gp3 rfl (rest := []) rfl (Nat.le_of_ble_eq_true rfl) ⟨Nat.le_of_ble_eq_true rfl, Nat.le_of_ble_eq_true rfl⟩ (c_X9_isMan v0 v1 h p3 ep3) ?_
  show mj_W mX9_spy (mj_FI p) 5 [(0, .ref v0), (1, .int v1)] [.int p3.1] p3.2 0 0
  refine mj_if_ne 3 15 rfl (by decide) (fun q => ?_) (fun q => ?_)
  · have hf := (if_neg q).symm.trans hf
    refine mj_blk k_X9_ok 8 1 (pc' := 16) (l' := [(0, .ref v0), (1, .int v1)]) (st' := [.ref v0]) rfl ?_
    obtain ⟨gp4, hf⟩ := mj_gd hf
    obtain ⟨p4, ep4, hf⟩ := mj_bd hf
    refine mj_callV (T := TX9) (N := 20) (ci := 9) mX9_layDay [] 9 rfl ll_X9_234 lb_X9_layDay li_X9_layDay ⟨Nat.le_of_ble_eq_true rfl, Nat.le_of_ble_eq_true rfl⟩ rfl gp4 rfl (rest := []) rfl (Nat.le_of_ble_eq_true rfl) ⟨Nat.le_of_ble_eq_true rfl, Nat.le_of_ble_eq_true rfl⟩ (c_X9_layDay v0 p3.2 p4 ep4) ?_
    show mj_W mX9_spy (mj_FI p) 19 [(0, .ref v0), (1, .int v1)] [] p4 0 0
    refine mj_blk k_X9_ok 10 1 (pc' := 20) (l' := [(0, .ref v0), (1, .int v1)]) (st' := [.ref v0]) rfl ?_
    obtain ⟨x5, ex5, hf⟩ := mj_bd hf
    refine mj_get 11 rfl fl_X9_43 (mj_gR_V ex5) ?_
    refine mj_blk k_X9_ok 12 8 (pc' := 33) (l' := [(0, .ref v0), (1, .int v1)]) (st' := [.int (0 : Int32), .int (((16 : Int32) + ((6 : Int32) * v1)) + (5 : Int32)), .ref x5]) rfl ?_
    obtain ⟨h6, eh6, hf⟩ := mj_bd hf
    refine mj_iast 20 rfl eh6 ?_
    refine mj_blk k_X9_ok 21 1 (pc' := 35) (l' := [(0, .ref v0), (1, .int v1)]) (st' := [.ref v0]) rfl ?_
    obtain ⟨x7, ex7, hf⟩ := mj_bd hf
    refine mj_get 22 rfl fl_X9_43 (mj_gR_V ex7) ?_
    refine mj_blk k_X9_ok 23 1 (pc' := 39) (l' := [(0, .ref v0), (1, .int v1)]) (st' := [.int v1, .ref x7]) rfl ?_
    obtain ⟨p8, ep8, hf⟩ := mj_bd hf
    refine mj_callS mX9_allOf [.ref x7, .int v1] 24 rfl ll_X9_169 lb_X9_allOf li_X9_allOf ⟨Nat.le_of_ble_eq_true rfl, Nat.le_of_ble_eq_true rfl⟩ rfl (rest := []) rfl (Nat.le_of_ble_eq_true rfl) ⟨Nat.le_of_ble_eq_true rfl, Nat.le_of_ble_eq_true rfl⟩ (c_X9_allOf x7 v1 h6 p8 ep8) ?_
    show mj_W mX9_spy (mj_FI p) 42 [(0, .ref v0), (1, .int v1)] [.long p8.1] p8.2 0 0
    refine mj_blk k_X9_ok 25 1 (pc' := 43) (l' := [(0, .ref v0), (1, .int v1)]) (st' := [.long (0 : Int64), .long p8.1]) rfl ?_
    refine mj_lcmp_ne 26 52 rfl rfl (by decide) (fun q => ?_) (fun q => ?_)
    · have hf := (if_neg q).symm.trans hf
      refine mj_blk k_X9_ok 30 1 (pc' := 53) (l' := [(0, .ref v0), (1, .int v1)]) (st' := [.ref v0]) rfl ?_
      obtain ⟨x9, ex9, hf⟩ := mj_bd hf
      refine mj_get 31 rfl fl_X9_43 (mj_gR_V ex9) ?_
      refine mj_blk k_X9_ok 32 1 (pc' := 57) (l' := [(0, .ref v0), (1, .int v1)]) (st' := [.int v1, .ref x9]) rfl ?_
      obtain ⟨p10, ep10, hf⟩ := mj_bd hf
      refine mj_callS mX9_trustOn [.ref x9, .int v1] 33 rfl ll_X9_200 lb_X9_trustOn li_X9_trustOn ⟨Nat.le_of_ble_eq_true rfl, Nat.le_of_ble_eq_true rfl⟩ rfl (rest := []) rfl (Nat.le_of_ble_eq_true rfl) ⟨Nat.le_of_ble_eq_true rfl, Nat.le_of_ble_eq_true rfl⟩ (c_X9_trustOn x9 v1 p8.2 p10 ep10) ?_
      show mj_W mX9_spy (mj_FI p) 60 [(0, .ref v0), (1, .int v1)] [.int p10.1] p10.2 0 0
      exact w_X9_spy_60 v0 v1 p10.1 p10.2 _ hf
    · have hf := (if_pos q).symm.trans hf
      refine mj_blk k_X9_ok 28 2 (pc' := 60) (l' := [(0, .ref v0), (1, .int v1)]) (st' := [.int (60 : Int32)]) rfl ?_
      exact w_X9_spy_60 v0 v1 (60 : Int32) p8.2 _ hf
  · have hf := (if_pos q).symm.trans hf
    refine mj_blk k_X9_ok 4 2 (pc' := 11) (l' := [(0, .ref v0), (1, .int v1)]) (st' := [.int (-2 : Int32), .ref v0]) rfl ?_
    obtain ⟨gp11, hf⟩ := mj_gd hf
    obtain ⟨p11, ep11, hf⟩ := mj_bd hf
    refine mj_callV (T := TX9) (N := 20) (ci := 9) mX9_bad [.int (-2 : Int32)] 6 rfl ll_X9_75 lb_X9_bad li_X9_bad ⟨Nat.le_of_ble_eq_true rfl, Nat.le_of_ble_eq_true rfl⟩ rfl gp11 rfl (rest := []) rfl (Nat.le_of_ble_eq_true rfl) ⟨Nat.le_of_ble_eq_true rfl, Nat.le_of_ble_eq_true rfl⟩ (c_X9_bad v0 (-2 : Int32) p3.2 p11 ep11) ?_
    show mj_W mX9_spy (mj_FI p) 14 [(0, .ref v0), (1, .int v1)] [.int p11.1] p11.2 0 0
    obtain rfl := Option.some.inj hf
    exact mj_end (some (.int p11.1)) ⟨mj_dec tok_X9_spy (a := 7) rfl, .int, rfl, rfl⟩ ⟨rfl, rfl⟩ (Nat.le_of_ble_eq_true rfl) (Nat.le_of_ble_eq_true rfl)
def f_X9_wearing_56 (K5 : Nat → Int32 → Int32 → Int32 → Int32 → mj_H → Option (Int32 × mj_H)) (v0 : Nat) (v1 : Int32) (v2 : Int32) (v4 : Int32) (s0 : Int32) (s1 : Int32) (h : mj_H) : Option (Int32 × mj_H) := K5 v0 v1 v2 (s0 ||| s1) (v4 + (1 : Int32)) h
set_option maxHeartbeats 4000000 in
set_option maxRecDepth 100000 in
theorem w_X9_wearing_56 (K5 : Nat → Int32 → Int32 → Int32 → Int32 → mj_H → Option (Int32 × mj_H)) (hK5 : ∀ (v0 : Nat) (v1 : Int32) (v2 : Int32) (v3 : Int32) (v4 : Int32)  (h : mj_H) (p : Int32 × mj_H), K5 v0 v1 v2 v3 v4 h = some p → mj_W mX9_wearing (mj_FI p) 5 [(0, .ref v0), (1, .int v1), (2, .int v2), (3, .int v3), (4, .int v4)] [] h 0 0) (v0 : Nat) (v1 : Int32) (v2 : Int32) (v4 : Int32) (s0 : Int32) (s1 : Int32) (h : mj_H) (p : Int32 × mj_H) (hf : f_X9_wearing_56 K5 v0 v1 v2 v4 s0 s1 h = some p) : mj_W mX9_wearing (mj_FI p) 56 [(0, .ref v0), (1, .int v1), (2, .int v2), (4, .int v4)] [.int s1, .int s0] h 0 0 := by
  unfold f_X9_wearing_56 at hf
  refine mj_blk k_X9_ok 33 4 (pc' := 5) (l' := [(4, .int (v4 + (1 : Int32))), (3, .int (s0 ||| s1)), (0, .ref v0), (1, .int v1), (2, .int v2)]) (st' := []) rfl ?_
  refine mj_locs [2, 3, 4, 1, 0] (l' := [(0, .ref v0), (1, .int v1), (2, .int v2), (3, .int (s0 ||| s1)), (4, .int (v4 + (1 : Int32)))]) rfl ?_
  exact hK5 v0 v1 v2 (s0 ||| s1) (v4 + (1 : Int32)) h _ hf
def f_X9_wearing_55 (K5 : Nat → Int32 → Int32 → Int32 → Int32 → mj_H → Option (Int32 × mj_H)) (v0 : Nat) (v1 : Int32) (v2 : Int32) (v4 : Int32) (s0 : Int32) (h : mj_H) : Option (Int32 × mj_H) := f_X9_wearing_56 K5 v0 v1 v2 v4 s0 (0 : Int32) h
set_option maxHeartbeats 4000000 in
set_option maxRecDepth 100000 in
theorem w_X9_wearing_55 (K5 : Nat → Int32 → Int32 → Int32 → Int32 → mj_H → Option (Int32 × mj_H)) (hK5 : ∀ (v0 : Nat) (v1 : Int32) (v2 : Int32) (v3 : Int32) (v4 : Int32)  (h : mj_H) (p : Int32 × mj_H), K5 v0 v1 v2 v3 v4 h = some p → mj_W mX9_wearing (mj_FI p) 5 [(0, .ref v0), (1, .int v1), (2, .int v2), (3, .int v3), (4, .int v4)] [] h 0 0) (v0 : Nat) (v1 : Int32) (v2 : Int32) (v4 : Int32) (s0 : Int32) (h : mj_H) (p : Int32 × mj_H) (hf : f_X9_wearing_55 K5 v0 v1 v2 v4 s0 h = some p) : mj_W mX9_wearing (mj_FI p) 55 [(0, .ref v0), (1, .int v1), (2, .int v2), (4, .int v4)] [.int s0] h 0 0 := by
  unfold f_X9_wearing_55 at hf
  refine mj_blk k_X9_ok 32 1 (pc' := 56) (l' := [(0, .ref v0), (1, .int v1), (2, .int v2), (4, .int v4)]) (st' := [.int (0 : Int32), .int s0]) rfl ?_
  exact w_X9_wearing_56 K5 hK5 v0 v1 v2 v4 s0 (0 : Int32) h _ hf
def f_X9_wearing_48 (K5 : Nat → Int32 → Int32 → Int32 → Int32 → mj_H → Option (Int32 × mj_H)) (v0 : Nat) (v1 : Int32) (v2 : Int32) (v4 : Int32) (s0 : Int32) (h : mj_H) : Option (Int32 × mj_H) := f_X9_wearing_56 K5 v0 v1 v2 v4 s0 ((1 : Int32) <<< (v4 &&& 31)) h
set_option maxHeartbeats 4000000 in
set_option maxRecDepth 100000 in
theorem w_X9_wearing_48 (K5 : Nat → Int32 → Int32 → Int32 → Int32 → mj_H → Option (Int32 × mj_H)) (hK5 : ∀ (v0 : Nat) (v1 : Int32) (v2 : Int32) (v3 : Int32) (v4 : Int32)  (h : mj_H) (p : Int32 × mj_H), K5 v0 v1 v2 v3 v4 h = some p → mj_W mX9_wearing (mj_FI p) 5 [(0, .ref v0), (1, .int v1), (2, .int v2), (3, .int v3), (4, .int v4)] [] h 0 0) (v0 : Nat) (v1 : Int32) (v2 : Int32) (v4 : Int32) (s0 : Int32) (h : mj_H) (p : Int32 × mj_H) (hf : f_X9_wearing_48 K5 v0 v1 v2 v4 s0 h = some p) : mj_W mX9_wearing (mj_FI p) 48 [(0, .ref v0), (1, .int v1), (2, .int v2), (4, .int v4)] [.int s0] h 0 0 := by
  unfold f_X9_wearing_48 at hf
  refine mj_blk k_X9_ok 28 4 (pc' := 56) (l' := [(0, .ref v0), (1, .int v1), (2, .int v2), (4, .int v4)]) (st' := [.int ((1 : Int32) <<< (v4 &&& 31)), .int s0]) rfl ?_
  exact w_X9_wearing_56 K5 hK5 v0 v1 v2 v4 s0 ((1 : Int32) <<< (v4 &&& 31)) h _ hf
def b_X9_wearing_5 (K5 : Nat → Int32 → Int32 → Int32 → Int32 → mj_H → Option (Int32 × mj_H)) (v0 : Nat) (v1 : Int32) (v2 : Int32) (v3 : Int32) (v4 : Int32) (h : mj_H) : Option (Int32 × mj_H) := (mj_gR h v0 9 0).bind fun x1 => (mj_aI h x1 (0 : Int32)).bind fun x2 => (if x2 ≤ v4 then some (v3, h) else (mj_gR h v0 9 0).bind fun x3 => (mj_aI h x3 ((4 : Int32) + v4)).bind fun x4 => (if v2 = 0 then (if (x4 &&& v1) = 0 then f_X9_wearing_55 K5 v0 v1 v2 v4 v3 h else f_X9_wearing_48 K5 v0 v1 v2 v4 v3 h) else (if (x4 &&& v1) = v1 then f_X9_wearing_48 K5 v0 v1 v2 v4 v3 h else f_X9_wearing_55 K5 v0 v1 v2 v4 v3 h)))
set_option maxHeartbeats 4000000 in
set_option maxRecDepth 100000 in
theorem wb_X9_wearing_5 (K5 : Nat → Int32 → Int32 → Int32 → Int32 → mj_H → Option (Int32 × mj_H)) (hK5 : ∀ (v0 : Nat) (v1 : Int32) (v2 : Int32) (v3 : Int32) (v4 : Int32)  (h : mj_H) (p : Int32 × mj_H), K5 v0 v1 v2 v3 v4 h = some p → mj_W mX9_wearing (mj_FI p) 5 [(0, .ref v0), (1, .int v1), (2, .int v2), (3, .int v3), (4, .int v4)] [] h 0 0) (v0 : Nat) (v1 : Int32) (v2 : Int32) (v3 : Int32) (v4 : Int32) (h : mj_H) (p : Int32 × mj_H) (hf : b_X9_wearing_5  K5 v0 v1 v2 v3 v4 h = some p) : mj_W mX9_wearing (mj_FI p) 5 [(0, .ref v0), (1, .int v1), (2, .int v2), (3, .int v3), (4, .int v4)] [] h 0 0 := by
  unfold b_X9_wearing_5 at hf
  refine mj_blk k_X9_ok 4 2 (pc' := 8) (l' := [(0, .ref v0), (1, .int v1), (2, .int v2), (3, .int v3), (4, .int v4)]) (st' := [.ref v0, .int v4]) rfl ?_
  obtain ⟨x1, ex1, hf⟩ := mj_bd hf
  refine mj_get 6 rfl fl_X9_7 (mj_gR_V ex1) ?_
  refine mj_blk k_X9_ok 7 1 (pc' := 12) (l' := [(0, .ref v0), (1, .int v1), (2, .int v2), (3, .int v3), (4, .int v4)]) (st' := [.int (0 : Int32), .ref x1, .int v4]) rfl ?_
  obtain ⟨x2, ex2, hf⟩ := mj_bd hf
  refine mj_iald 8 rfl ex2 ?_
  refine mj_icmp_ge 9 64 rfl (by decide) (fun q => ?_) (fun q => ?_)
  · have hf := (if_pos q).symm.trans hf
    refine mj_blk k_X9_ok 37 1 (pc' := 65) (l' := [(0, .ref v0), (1, .int v1), (2, .int v2), (3, .int v3), (4, .int v4)]) (st' := [.int v3]) rfl ?_
    obtain rfl := Option.some.inj hf
    exact mj_end (some (.int v3)) ⟨mj_dec tok_X9_wearing (a := 38) rfl, .int, rfl, rfl⟩ ⟨rfl, rfl⟩ (Nat.le_of_ble_eq_true rfl) (Nat.le_of_ble_eq_true rfl)
  · have hf := (if_neg q).symm.trans hf
    refine mj_blk k_X9_ok 10 1 (pc' := 17) (l' := [(0, .ref v0), (1, .int v1), (2, .int v2), (3, .int v3), (4, .int v4)]) (st' := [.ref v0]) rfl ?_
    obtain ⟨x3, ex3, hf⟩ := mj_bd hf
    refine mj_get 11 rfl fl_X9_7 (mj_gR_V ex3) ?_
    refine mj_blk k_X9_ok 12 3 (pc' := 24) (l' := [(0, .ref v0), (1, .int v1), (2, .int v2), (3, .int v3), (4, .int v4)]) (st' := [.int ((4 : Int32) + v4), .ref x3]) rfl ?_
    obtain ⟨x4, ex4, hf⟩ := mj_bd hf
    refine mj_iald 15 rfl ex4 ?_
    refine mj_blk k_X9_ok 16 5 (pc' := 31) (l' := [(5, .int (x4 &&& v1)), (0, .ref v0), (1, .int v1), (2, .int v2), (3, .int v3), (4, .int v4)]) (st' := [.int v2, .int v3]) rfl ?_
    refine mj_if_eq 21 43 rfl (by decide) (fun q => ?_) (fun q => ?_)
    · have hf := (if_pos q).symm.trans hf
      refine mj_blk k_X9_ok 26 1 (pc' := 45) (l' := [(5, .int (x4 &&& v1)), (0, .ref v0), (1, .int v1), (2, .int v2), (3, .int v3), (4, .int v4)]) (st' := [.int (x4 &&& v1), .int v3]) rfl ?_
      refine mj_if_eq 27 55 rfl (by decide) (fun q => ?_) (fun q => ?_)
      · have hf := (if_pos q).symm.trans hf
        refine mj_locs [1, 2, 3, 5] (l' := [(0, .ref v0), (1, .int v1), (2, .int v2), (4, .int v4)]) rfl ?_
        exact w_X9_wearing_55 K5 hK5 v0 v1 v2 v4 v3 h _ hf
      · have hf := (if_neg q).symm.trans hf
        refine mj_locs [1, 2, 3, 5] (l' := [(0, .ref v0), (1, .int v1), (2, .int v2), (4, .int v4)]) rfl ?_
        exact w_X9_wearing_48 K5 hK5 v0 v1 v2 v4 v3 h _ hf
    · have hf := (if_neg q).symm.trans hf
      refine mj_blk k_X9_ok 22 2 (pc' := 37) (l' := [(5, .int (x4 &&& v1)), (0, .ref v0), (1, .int v1), (2, .int v2), (3, .int v3), (4, .int v4)]) (st' := [.int v1, .int (x4 &&& v1), .int v3]) rfl ?_
      refine mj_icmp_ne 24 55 rfl (by decide) (fun q => ?_) (fun q => ?_)
      · have hf := (if_neg q).symm.trans hf
        refine mj_locs [1, 2, 3, 5] (l' := [(0, .ref v0), (1, .int v1), (2, .int v2), (4, .int v4)]) rfl ?_
        exact w_X9_wearing_55 K5 hK5 v0 v1 v2 v4 v3 h _ hf
      · have hf := (if_pos q).symm.trans hf
        refine mj_blk k_X9_ok 25 1 (pc' := 48) (l' := [(5, .int (x4 &&& v1)), (0, .ref v0), (1, .int v1), (2, .int v2), (3, .int v3), (4, .int v4)]) (st' := [.int v3]) rfl ?_
        refine mj_locs [1, 2, 3, 5] (l' := [(0, .ref v0), (1, .int v1), (2, .int v2), (4, .int v4)]) rfl ?_
        exact w_X9_wearing_48 K5 hK5 v0 v1 v2 v4 v3 h _ hf
def f_X9_wearing_5 (v0 : Nat) (v1 : Int32) (v2 : Int32) (v3 : Int32) (v4 : Int32) (h : mj_H) : Option (Int32 × mj_H) := mj_fix (fun (K5 : (Nat × Int32 × Int32 × Int32 × Int32 × mj_H) → Option (Int32 × mj_H)) (s : Nat × Int32 × Int32 × Int32 × Int32 × mj_H) => b_X9_wearing_5  (fun v0 v1 v2 v3 v4 h => K5 (v0, v1, v2, v3, v4, h)) s.1 s.2.1 s.2.2.1 s.2.2.2.1 s.2.2.2.2.1 s.2.2.2.2.2) 1000 (v0, v1, v2, v3, v4, h)
set_option maxHeartbeats 4000000 in
set_option maxRecDepth 100000 in
theorem w_X9_wearing_5 (v0 : Nat) (v1 : Int32) (v2 : Int32) (v3 : Int32) (v4 : Int32) (h : mj_H) (p : Int32 × mj_H) (hf : f_X9_wearing_5  v0 v1 v2 v3 v4 h = some p) : mj_W mX9_wearing (mj_FI p) 5 [(0, .ref v0), (1, .int v1), (2, .int v2), (3, .int v3), (4, .int v4)] [] h 0 0 := by
  unfold f_X9_wearing_5 at hf
  exact mj_fix_ind (F := (fun (K5 : (Nat × Int32 × Int32 × Int32 × Int32 × mj_H) → Option (Int32 × mj_H)) (s : Nat × Int32 × Int32 × Int32 × Int32 × mj_H) => b_X9_wearing_5  (fun v0 v1 v2 v3 v4 h => K5 (v0, v1, v2, v3, v4, h)) s.1 s.2.1 s.2.2.1 s.2.2.2.1 s.2.2.2.2.1 s.2.2.2.2.2)) (P := fun s p => mj_W mX9_wearing (mj_FI p) 5 [(0, .ref s.1), (1, .int s.2.1), (2, .int s.2.2.1), (3, .int s.2.2.2.1), (4, .int s.2.2.2.2.1)] [] s.2.2.2.2.2 0 0) (fun K5 hK5 s p hf => wb_X9_wearing_5   (fun v0 v1 v2 v3 v4 h => K5 (v0, v1, v2, v3, v4, h)) (fun v0 v1 v2 v3 v4 h p e => hK5 (v0, v1, v2, v3, v4, h) p e) s.1 s.2.1 s.2.2.1 s.2.2.2.1 s.2.2.2.2.1 s.2.2.2.2.2 p hf) 1000 (v0, v1, v2, v3, v4, h) p hf
def f_X9_wearing (v0 : Nat) (v1 : Int32) (v2 : Int32) (h : mj_H) : Option (Int32 × mj_H) := f_X9_wearing_5 v0 v1 v2 (0 : Int32) (0 : Int32) h
set_option maxHeartbeats 4000000 in
set_option maxRecDepth 100000 in
theorem c_X9_wearing (v0 : Nat) (v1 : Int32) (v2 : Int32) (h : mj_H) (p : Int32 × mj_H) (hf : f_X9_wearing v0 v1 v2 h = some p) : mj_Met mX9_wearing [.ref v0, .int v1, .int v2] h (some (.int p.1)) p.2 := by
  refine mj_met pl_X9 tok_X9_wearing (Nat.le_of_ble_eq_true rfl) ?_
  show mj_W mX9_wearing (mj_FI p) 0 [(0, .ref v0), (1, .int v1), (2, .int v2)] [] h 0 0
  unfold f_X9_wearing at hf
  refine mj_blk k_X9_ok 0 4 (pc' := 5) (l' := [(4, .int (0 : Int32)), (3, .int (0 : Int32)), (0, .ref v0), (1, .int v1), (2, .int v2)]) (st' := []) rfl ?_
  refine mj_locs [2, 3, 4, 1, 0] (l' := [(0, .ref v0), (1, .int v1), (2, .int v2), (3, .int (0 : Int32)), (4, .int (0 : Int32))]) rfl ?_
  exact w_X9_wearing_5 v0 v1 v2 (0 : Int32) (0 : Int32) h _ hf
def f_X9_looks_86 (K32 : Nat → Int32 → Int32 → Int32 → Int32 → Int32 → Int32 → mj_H → Option (Int32 × mj_H)) (v0 : Nat) (v1 : Int32) (v2 : Int32) (v3 : Int32) (v4 : Int32) (v6 : Int32) (s0 : Int32) (s1 : Int32) (h : mj_H) : Option (Int32 × mj_H) := K32 v0 v1 v2 v3 v4 (s0 &&& s1) (v6 + (1 : Int32)) h
set_option maxHeartbeats 4000000 in
set_option maxRecDepth 100000 in
theorem w_X9_looks_86 (K32 : Nat → Int32 → Int32 → Int32 → Int32 → Int32 → Int32 → mj_H → Option (Int32 × mj_H)) (hK32 : ∀ (v0 : Nat) (v1 : Int32) (v2 : Int32) (v3 : Int32) (v4 : Int32) (v5 : Int32) (v6 : Int32)  (h : mj_H) (p : Int32 × mj_H), K32 v0 v1 v2 v3 v4 v5 v6 h = some p → mj_W mX9_looks (mj_FI p) 32 [(0, .ref v0), (1, .int v1), (2, .int v2), (3, .int v3), (4, .int v4), (5, .int v5), (6, .int v6)] [] h 0 0) (v0 : Nat) (v1 : Int32) (v2 : Int32) (v3 : Int32) (v4 : Int32) (v6 : Int32) (s0 : Int32) (s1 : Int32) (h : mj_H) (p : Int32 × mj_H) (hf : f_X9_looks_86 K32 v0 v1 v2 v3 v4 v6 s0 s1 h = some p) : mj_W mX9_looks (mj_FI p) 86 [(0, .ref v0), (1, .int v1), (2, .int v2), (3, .int v3), (4, .int v4), (6, .int v6)] [.int s1, .int s0] h 0 0 := by
  unfold f_X9_looks_86 at hf
  refine mj_blk k_X9_ok 44 4 (pc' := 32) (l' := [(6, .int (v6 + (1 : Int32))), (5, .int (s0 &&& s1)), (0, .ref v0), (1, .int v1), (2, .int v2), (3, .int v3), (4, .int v4)]) (st' := []) rfl ?_
  refine mj_locs [2, 3, 4, 5, 6, 1, 0] (l' := [(0, .ref v0), (1, .int v1), (2, .int v2), (3, .int v3), (4, .int v4), (5, .int (s0 &&& s1)), (6, .int (v6 + (1 : Int32)))]) rfl ?_
  exact hK32 v0 v1 v2 v3 v4 (s0 &&& s1) (v6 + (1 : Int32)) h _ hf
def f_X9_looks_69 (K32 : Nat → Int32 → Int32 → Int32 → Int32 → Int32 → Int32 → mj_H → Option (Int32 × mj_H)) (v0 : Nat) (v1 : Int32) (v2 : Int32) (v3 : Int32) (v5 : Int32) (v6 : Int32) (v7 : Int32) (s0 : Int32) (s1 : Int32) (h : mj_H) : Option (Int32 × mj_H) := (if v7 = 0 then f_X9_looks_86 K32 v0 v1 v2 v3 (s0 + s1) v6 v5 (31 : Int32) h else f_X9_looks_86 K32 v0 v1 v2 v3 (s0 + s1) v6 v5 v6 h)
set_option maxHeartbeats 4000000 in
set_option maxRecDepth 100000 in
theorem w_X9_looks_69 (K32 : Nat → Int32 → Int32 → Int32 → Int32 → Int32 → Int32 → mj_H → Option (Int32 × mj_H)) (hK32 : ∀ (v0 : Nat) (v1 : Int32) (v2 : Int32) (v3 : Int32) (v4 : Int32) (v5 : Int32) (v6 : Int32)  (h : mj_H) (p : Int32 × mj_H), K32 v0 v1 v2 v3 v4 v5 v6 h = some p → mj_W mX9_looks (mj_FI p) 32 [(0, .ref v0), (1, .int v1), (2, .int v2), (3, .int v3), (4, .int v4), (5, .int v5), (6, .int v6)] [] h 0 0) (v0 : Nat) (v1 : Int32) (v2 : Int32) (v3 : Int32) (v5 : Int32) (v6 : Int32) (v7 : Int32) (s0 : Int32) (s1 : Int32) (h : mj_H) (p : Int32 × mj_H) (hf : f_X9_looks_69 K32 v0 v1 v2 v3 v5 v6 v7 s0 s1 h = some p) : mj_W mX9_looks (mj_FI p) 69 [(0, .ref v0), (1, .int v1), (2, .int v2), (3, .int v3), (5, .int v5), (6, .int v6), (7, .int v7)] [.int s1, .int s0] h 0 0 := by
  unfold f_X9_looks_69 at hf
  refine mj_blk k_X9_ok 36 4 (pc' := 76) (l' := [(4, .int (s0 + s1)), (0, .ref v0), (1, .int v1), (2, .int v2), (3, .int v3), (5, .int v5), (6, .int v6), (7, .int v7)]) (st' := [.int v7, .int v5]) rfl ?_
  refine mj_if_eq 40 84 rfl (by decide) (fun q => ?_) (fun q => ?_)
  · have hf := (if_pos q).symm.trans hf
    refine mj_blk k_X9_ok 43 1 (pc' := 86) (l' := [(4, .int (s0 + s1)), (0, .ref v0), (1, .int v1), (2, .int v2), (3, .int v3), (5, .int v5), (6, .int v6), (7, .int v7)]) (st' := [.int (31 : Int32), .int v5]) rfl ?_
    refine mj_locs [1, 2, 3, 4, 0, 6] (l' := [(0, .ref v0), (1, .int v1), (2, .int v2), (3, .int v3), (4, .int (s0 + s1)), (6, .int v6)]) rfl ?_
    exact w_X9_looks_86 K32 hK32 v0 v1 v2 v3 (s0 + s1) v6 v5 (31 : Int32) h _ hf
  · have hf := (if_neg q).symm.trans hf
    refine mj_blk k_X9_ok 41 2 (pc' := 86) (l' := [(4, .int (s0 + s1)), (0, .ref v0), (1, .int v1), (2, .int v2), (3, .int v3), (5, .int v5), (6, .int v6), (7, .int v7)]) (st' := [.int v6, .int v5]) rfl ?_
    refine mj_locs [1, 2, 3, 4, 0, 6] (l' := [(0, .ref v0), (1, .int v1), (2, .int v2), (3, .int v3), (4, .int (s0 + s1)), (6, .int v6)]) rfl ?_
    exact w_X9_looks_86 K32 hK32 v0 v1 v2 v3 (s0 + s1) v6 v5 v6 h _ hf
def f_X9_looks_55 (K32 : Nat → Int32 → Int32 → Int32 → Int32 → Int32 → Int32 → mj_H → Option (Int32 × mj_H)) (v0 : Nat) (v1 : Int32) (v2 : Int32) (v3 : Int32) (v4 : Int32) (v5 : Int32) (v6 : Int32) (s0 : Int32) (h : mj_H) : Option (Int32 × mj_H) := (if s0 = 0 then f_X9_looks_69 K32 v0 v1 v2 v3 v5 v6 s0 v4 (0 : Int32) h else f_X9_looks_69 K32 v0 v1 v2 v3 v5 v6 s0 v4 (1 : Int32) h)
set_option maxHeartbeats 4000000 in
set_option maxRecDepth 100000 in
theorem w_X9_looks_55 (K32 : Nat → Int32 → Int32 → Int32 → Int32 → Int32 → Int32 → mj_H → Option (Int32 × mj_H)) (hK32 : ∀ (v0 : Nat) (v1 : Int32) (v2 : Int32) (v3 : Int32) (v4 : Int32) (v5 : Int32) (v6 : Int32)  (h : mj_H) (p : Int32 × mj_H), K32 v0 v1 v2 v3 v4 v5 v6 h = some p → mj_W mX9_looks (mj_FI p) 32 [(0, .ref v0), (1, .int v1), (2, .int v2), (3, .int v3), (4, .int v4), (5, .int v5), (6, .int v6)] [] h 0 0) (v0 : Nat) (v1 : Int32) (v2 : Int32) (v3 : Int32) (v4 : Int32) (v5 : Int32) (v6 : Int32) (s0 : Int32) (h : mj_H) (p : Int32 × mj_H) (hf : f_X9_looks_55 K32 v0 v1 v2 v3 v4 v5 v6 s0 h = some p) : mj_W mX9_looks (mj_FI p) 55 [(0, .ref v0), (1, .int v1), (2, .int v2), (3, .int v3), (4, .int v4), (5, .int v5), (6, .int v6)] [.int s0] h 0 0 := by
  unfold f_X9_looks_55 at hf
  refine mj_blk k_X9_ok 29 3 (pc' := 61) (l' := [(7, .int s0), (0, .ref v0), (1, .int v1), (2, .int v2), (3, .int v3), (4, .int v4), (5, .int v5), (6, .int v6)]) (st' := [.int s0, .int v4]) rfl ?_
  refine mj_if_eq 32 68 rfl (by decide) (fun q => ?_) (fun q => ?_)
  · have hf := (if_pos q).symm.trans hf
    refine mj_blk k_X9_ok 35 1 (pc' := 69) (l' := [(7, .int s0), (0, .ref v0), (1, .int v1), (2, .int v2), (3, .int v3), (4, .int v4), (5, .int v5), (6, .int v6)]) (st' := [.int (0 : Int32), .int v4]) rfl ?_
    refine mj_locs [1, 2, 3, 4, 6, 7, 0] (l' := [(0, .ref v0), (1, .int v1), (2, .int v2), (3, .int v3), (5, .int v5), (6, .int v6), (7, .int s0)]) rfl ?_
    exact w_X9_looks_69 K32 hK32 v0 v1 v2 v3 v5 v6 s0 v4 (0 : Int32) h _ hf
  · have hf := (if_neg q).symm.trans hf
    refine mj_blk k_X9_ok 33 2 (pc' := 69) (l' := [(7, .int s0), (0, .ref v0), (1, .int v1), (2, .int v2), (3, .int v3), (4, .int v4), (5, .int v5), (6, .int v6)]) (st' := [.int (1 : Int32), .int v4]) rfl ?_
    refine mj_locs [1, 2, 3, 4, 6, 7, 0] (l' := [(0, .ref v0), (1, .int v1), (2, .int v2), (3, .int v3), (5, .int v5), (6, .int v6), (7, .int s0)]) rfl ?_
    exact w_X9_looks_69 K32 hK32 v0 v1 v2 v3 v5 v6 s0 v4 (1 : Int32) h _ hf
def b_X9_looks_32 (K32 : Nat → Int32 → Int32 → Int32 → Int32 → Int32 → Int32 → mj_H → Option (Int32 × mj_H)) (v0 : Nat) (v1 : Int32) (v2 : Int32) (v3 : Int32) (v4 : Int32) (v5 : Int32) (v6 : Int32) (h : mj_H) : Option (Int32 × mj_H) := (if (32 : Int32) ≤ v6 then (if v3 = 0 then some (v4, h) else (if v4 = 0 then some ((-1 : Int32), h) else some (v5, h))) else (if mj_ob h v0 9 = true then (f_X9_wearing v0 v6 v2 h).bind fun p1 => (if p1.1 = v1 then f_X9_looks_55 K32 v0 v1 v2 v3 v4 v5 v6 (1 : Int32) p1.2 else f_X9_looks_55 K32 v0 v1 v2 v3 v4 v5 v6 (0 : Int32) p1.2) else none))
set_option maxHeartbeats 4000000 in
set_option maxRecDepth 100000 in
theorem wb_X9_looks_32 (K32 : Nat → Int32 → Int32 → Int32 → Int32 → Int32 → Int32 → mj_H → Option (Int32 × mj_H)) (hK32 : ∀ (v0 : Nat) (v1 : Int32) (v2 : Int32) (v3 : Int32) (v4 : Int32) (v5 : Int32) (v6 : Int32)  (h : mj_H) (p : Int32 × mj_H), K32 v0 v1 v2 v3 v4 v5 v6 h = some p → mj_W mX9_looks (mj_FI p) 32 [(0, .ref v0), (1, .int v1), (2, .int v2), (3, .int v3), (4, .int v4), (5, .int v5), (6, .int v6)] [] h 0 0) (v0 : Nat) (v1 : Int32) (v2 : Int32) (v3 : Int32) (v4 : Int32) (v5 : Int32) (v6 : Int32) (h : mj_H) (p : Int32 × mj_H) (hf : b_X9_looks_32  K32 v0 v1 v2 v3 v4 v5 v6 h = some p) : mj_W mX9_looks (mj_FI p) 32 [(0, .ref v0), (1, .int v1), (2, .int v2), (3, .int v3), (4, .int v4), (5, .int v5), (6, .int v6)] [] h 0 0 := by
  unfold b_X9_looks_32 at hf
  refine mj_blk k_X9_ok 17 2 (pc' := 36) (l' := [(0, .ref v0), (1, .int v1), (2, .int v2), (3, .int v3), (4, .int v4), (5, .int v5), (6, .int v6)]) (st' := [.int (32 : Int32), .int v6]) rfl ?_
  refine mj_icmp_ge 19 95 rfl (by decide) (fun q => ?_) (fun q => ?_)
  · have hf := (if_pos q).symm.trans hf
    refine mj_blk k_X9_ok 48 1 (pc' := 96) (l' := [(0, .ref v0), (1, .int v1), (2, .int v2), (3, .int v3), (4, .int v4), (5, .int v5), (6, .int v6)]) (st' := [.int v3]) rfl ?_
    refine mj_if_ne 49 104 rfl (by decide) (fun q => ?_) (fun q => ?_)
    · have hf := (if_neg q).symm.trans hf
      refine mj_blk k_X9_ok 52 1 (pc' := 106) (l' := [(0, .ref v0), (1, .int v1), (2, .int v2), (3, .int v3), (4, .int v4), (5, .int v5), (6, .int v6)]) (st' := [.int v4]) rfl ?_
      refine mj_if_ne 53 113 rfl (by decide) (fun q => ?_) (fun q => ?_)
      · have hf := (if_neg q).symm.trans hf
        refine mj_blk k_X9_ok 56 1 (pc' := 115) (l' := [(0, .ref v0), (1, .int v1), (2, .int v2), (3, .int v3), (4, .int v4), (5, .int v5), (6, .int v6)]) (st' := [.int v5]) rfl ?_
        obtain rfl := Option.some.inj hf
        exact mj_end (some (.int v5)) ⟨mj_dec tok_X9_looks (a := 57) rfl, .int, rfl, rfl⟩ ⟨rfl, rfl⟩ (Nat.le_of_ble_eq_true rfl) (Nat.le_of_ble_eq_true rfl)
      · have hf := (if_pos q).symm.trans hf
        refine mj_blk k_X9_ok 54 2 (pc' := 115) (l' := [(0, .ref v0), (1, .int v1), (2, .int v2), (3, .int v3), (4, .int v4), (5, .int v5), (6, .int v6)]) (st' := [.int (-1 : Int32)]) rfl ?_
        obtain rfl := Option.some.inj hf
        exact mj_end (some (.int (-1 : Int32))) ⟨mj_dec tok_X9_looks (a := 57) rfl, .int, rfl, rfl⟩ ⟨rfl, rfl⟩ (Nat.le_of_ble_eq_true rfl) (Nat.le_of_ble_eq_true rfl)
    · have hf := (if_pos q).symm.trans hf
      refine mj_blk k_X9_ok 50 2 (pc' := 115) (l' := [(0, .ref v0), (1, .int v1), (2, .int v2), (3, .int v3), (4, .int v4), (5, .int v5), (6, .int v6)]) (st' := [.int v4]) rfl ?_
      obtain rfl := Option.some.inj hf
      exact mj_end (some (.int v4)) ⟨mj_dec tok_X9_looks (a := 57) rfl, .int, rfl, rfl⟩ ⟨rfl, rfl⟩ (Nat.le_of_ble_eq_true rfl) (Nat.le_of_ble_eq_true rfl)
  · have hf := (if_neg q).symm.trans hf
    refine mj_blk k_X9_ok 20 3 (pc' := 43) (l' := [(0, .ref v0), (1, .int v1), (2, .int v2), (3, .int v3), (4, .int v4), (5, .int v5), (6, .int v6)]) (st' := [.int v2, .int v6, .ref v0]) rfl ?_
    obtain ⟨gp1, hf⟩ := mj_gd hf
    obtain ⟨p1, ep1, hf⟩ := mj_bd hf
    refine mj_callV (T := TX9) (N := 20) (ci := 9) mX9_wearing [.int v6, .int v2] 23 rfl ll_X9_259 lb_X9_wearing li_X9_wearing ⟨Nat.le_of_ble_eq_true rfl, Nat.le_of_ble_eq_true rfl⟩ rfl gp1 rfl (rest := []) rfl (Nat.le_of_ble_eq_true rfl) ⟨Nat.le_of_ble_eq_true rfl, Nat.le_of_ble_eq_true rfl⟩ (c_X9_wearing v0 v6 v2 h p1 ep1) ?_
    show mj_W mX9_looks (mj_FI p) 46 [(0, .ref v0), (1, .int v1), (2, .int v2), (3, .int v3), (4, .int v4), (5, .int v5), (6, .int v6)] [.int p1.1] p1.2 0 0
    refine mj_blk k_X9_ok 24 1 (pc' := 47) (l' := [(0, .ref v0), (1, .int v1), (2, .int v2), (3, .int v3), (4, .int v4), (5, .int v5), (6, .int v6)]) (st' := [.int v1, .int p1.1]) rfl ?_
    refine mj_icmp_ne 25 54 rfl (by decide) (fun q => ?_) (fun q => ?_)
    · have hf := (if_neg q).symm.trans hf
      refine mj_blk k_X9_ok 28 1 (pc' := 55) (l' := [(0, .ref v0), (1, .int v1), (2, .int v2), (3, .int v3), (4, .int v4), (5, .int v5), (6, .int v6)]) (st' := [.int (0 : Int32)]) rfl ?_
      exact w_X9_looks_55 K32 hK32 v0 v1 v2 v3 v4 v5 v6 (0 : Int32) p1.2 _ hf
    · have hf := (if_pos q).symm.trans hf
      refine mj_blk k_X9_ok 26 2 (pc' := 55) (l' := [(0, .ref v0), (1, .int v1), (2, .int v2), (3, .int v3), (4, .int v4), (5, .int v5), (6, .int v6)]) (st' := [.int (1 : Int32)]) rfl ?_
      exact w_X9_looks_55 K32 hK32 v0 v1 v2 v3 v4 v5 v6 (1 : Int32) p1.2 _ hf
def f_X9_looks_32 (v0 : Nat) (v1 : Int32) (v2 : Int32) (v3 : Int32) (v4 : Int32) (v5 : Int32) (v6 : Int32) (h : mj_H) : Option (Int32 × mj_H) := mj_fix (fun (K32 : (Nat × Int32 × Int32 × Int32 × Int32 × Int32 × Int32 × mj_H) → Option (Int32 × mj_H)) (s : Nat × Int32 × Int32 × Int32 × Int32 × Int32 × Int32 × mj_H) => b_X9_looks_32  (fun v0 v1 v2 v3 v4 v5 v6 h => K32 (v0, v1, v2, v3, v4, v5, v6, h)) s.1 s.2.1 s.2.2.1 s.2.2.2.1 s.2.2.2.2.1 s.2.2.2.2.2.1 s.2.2.2.2.2.2.1 s.2.2.2.2.2.2.2) 1000 (v0, v1, v2, v3, v4, v5, v6, h)
set_option maxHeartbeats 4000000 in
set_option maxRecDepth 100000 in
theorem w_X9_looks_32 (v0 : Nat) (v1 : Int32) (v2 : Int32) (v3 : Int32) (v4 : Int32) (v5 : Int32) (v6 : Int32) (h : mj_H) (p : Int32 × mj_H) (hf : f_X9_looks_32  v0 v1 v2 v3 v4 v5 v6 h = some p) : mj_W mX9_looks (mj_FI p) 32 [(0, .ref v0), (1, .int v1), (2, .int v2), (3, .int v3), (4, .int v4), (5, .int v5), (6, .int v6)] [] h 0 0 := by
  unfold f_X9_looks_32 at hf
  exact mj_fix_ind (F := (fun (K32 : (Nat × Int32 × Int32 × Int32 × Int32 × Int32 × Int32 × mj_H) → Option (Int32 × mj_H)) (s : Nat × Int32 × Int32 × Int32 × Int32 × Int32 × Int32 × mj_H) => b_X9_looks_32  (fun v0 v1 v2 v3 v4 v5 v6 h => K32 (v0, v1, v2, v3, v4, v5, v6, h)) s.1 s.2.1 s.2.2.1 s.2.2.2.1 s.2.2.2.2.1 s.2.2.2.2.2.1 s.2.2.2.2.2.2.1 s.2.2.2.2.2.2.2)) (P := fun s p => mj_W mX9_looks (mj_FI p) 32 [(0, .ref s.1), (1, .int s.2.1), (2, .int s.2.2.1), (3, .int s.2.2.2.1), (4, .int s.2.2.2.2.1), (5, .int s.2.2.2.2.2.1), (6, .int s.2.2.2.2.2.2.1)] [] s.2.2.2.2.2.2.2 0 0) (fun K32 hK32 s p hf => wb_X9_looks_32   (fun v0 v1 v2 v3 v4 v5 v6 h => K32 (v0, v1, v2, v3, v4, v5, v6, h)) (fun v0 v1 v2 v3 v4 v5 v6 h p e => hK32 (v0, v1, v2, v3, v4, v5, v6, h) p e) s.1 s.2.1 s.2.2.1 s.2.2.2.1 s.2.2.2.2.1 s.2.2.2.2.2.1 s.2.2.2.2.2.2.1 s.2.2.2.2.2.2.2 p hf) 1000 (v0, v1, v2, v3, v4, v5, v6, h) p hf
def f_X9_looks_15 (v0 : Nat) (h : mj_H) : Option (Int32 × mj_H) := (if mj_ob h v0 9 = true then (f_X9_bad v0 (-10 : Int32) h).bind fun p2 => some (p2.1, p2.2) else none)
set_option maxHeartbeats 4000000 in
set_option maxRecDepth 100000 in
theorem w_X9_looks_15 (v0 : Nat) (h : mj_H) (p : Int32 × mj_H) (hf : f_X9_looks_15  v0 h = some p) : mj_W mX9_looks (mj_FI p) 15 [(0, .ref v0)] [] h 0 0 := by
  unfold f_X9_looks_15 at hf
  refine mj_blk k_X9_ok 7 2 (pc' := 18) (l' := [(0, .ref v0)]) (st' := [.int (-10 : Int32), .ref v0]) rfl ?_
  obtain ⟨gp2, hf⟩ := mj_gd hf
  obtain ⟨p2, ep2, hf⟩ := mj_bd hf
  refine mj_callV (T := TX9) (N := 20) (ci := 9) mX9_bad [.int (-10 : Int32)] 9 rfl ll_X9_75 lb_X9_bad li_X9_bad ⟨Nat.le_of_ble_eq_true rfl, Nat.le_of_ble_eq_true rfl⟩ rfl gp2 rfl (rest := []) rfl (Nat.le_of_ble_eq_true rfl) ⟨Nat.le_of_ble_eq_true rfl, Nat.le_of_ble_eq_true rfl⟩ (c_X9_bad v0 (-10 : Int32) h p2 ep2) ?_
  show mj_W mX9_looks (mj_FI p) 21 [(0, .ref v0)] [.int p2.1] p2.2 0 0
  obtain rfl := Option.some.inj hf
  exact mj_end (some (.int p2.1)) ⟨mj_dec tok_X9_looks (a := 10) rfl, .int, rfl, rfl⟩ ⟨rfl, rfl⟩ (Nat.le_of_ble_eq_true rfl) (Nat.le_of_ble_eq_true rfl)
def f_X9_looks (v0 : Nat) (v1 : Int32) (v2 : Int32) (v3 : Int32) (h : mj_H) : Option (Int32 × mj_H) := (if mj_ob h v0 9 = true then (f_X9_areMen v0 v1 h).bind fun p3 => (if p3.1 = 0 then f_X9_looks_15 v0 p3.2 else (f_X9_isTwo v3 p3.2).bind fun p4 => (if p4.1 = 0 then f_X9_looks_15 v0 p4.2 else f_X9_looks_32 v0 v1 v2 v3 (0 : Int32) (31 : Int32) (0 : Int32) p4.2)) else none)
set_option maxHeartbeats 4000000 in
set_option maxRecDepth 100000 in
theorem c_X9_looks (v0 : Nat) (v1 : Int32) (v2 : Int32) (v3 : Int32) (h : mj_H) (p : Int32 × mj_H) (hf : f_X9_looks v0 v1 v2 v3 h = some p) : mj_Met mX9_looks [.ref v0, .int v1, .int v2, .int v3] h (some (.int p.1)) p.2 := by
  refine mj_met pl_X9 tok_X9_looks (Nat.le_of_ble_eq_true rfl) ?_
  show mj_W mX9_looks (mj_FI p) 0 [(0, .ref v0), (1, .int v1), (2, .int v2), (3, .int v3)] [] h 0 0
  unfold f_X9_looks at hf
  refine mj_blk k_X9_ok 0 2 (pc' := 2) (l' := [(0, .ref v0), (1, .int v1), (2, .int v2), (3, .int v3)]) (st' := [.int v1, .ref v0]) rfl ?_
  obtain ⟨gp3, hf⟩ := mj_gd hf
  obtain ⟨p3, ep3, hf⟩ := mj_bd hf
  refine mj_callV (T := TX9) (N := 20) (ci := 9) mX9_areMen [.int v1] 2 rfl ll_X9_214 lb_X9_areMen li_X9_areMen ⟨Nat.le_of_ble_eq_true rfl, Nat.le_of_ble_eq_true rfl⟩ rfl gp3 rfl (rest := []) rfl (Nat.le_of_ble_eq_true rfl) ⟨Nat.le_of_ble_eq_true rfl, Nat.le_of_ble_eq_true rfl⟩ (c_X9_areMen v0 v1 h p3 ep3) ?_
  show mj_W mX9_looks (mj_FI p) 5 [(0, .ref v0), (1, .int v1), (2, .int v2), (3, .int v3)] [.int p3.1] p3.2 0 0
  refine mj_if_eq 3 15 rfl (by decide) (fun q => ?_) (fun q => ?_)
  · have hf := (if_pos q).symm.trans hf
    refine mj_locs [0] (l' := [(0, .ref v0)]) rfl ?_
    exact w_X9_looks_15 v0 p3.2 _ hf
  · have hf := (if_neg q).symm.trans hf
    refine mj_blk k_X9_ok 4 1 (pc' := 9) (l' := [(0, .ref v0), (1, .int v1), (2, .int v2), (3, .int v3)]) (st' := [.int v3]) rfl ?_
    obtain ⟨p4, ep4, hf⟩ := mj_bd hf
    refine mj_callS mX9_isTwo [.int v3] 5 rfl ll_X9_256 lb_X9_isTwo li_X9_isTwo ⟨Nat.le_of_ble_eq_true rfl, Nat.le_of_ble_eq_true rfl⟩ rfl (rest := []) rfl (Nat.le_of_ble_eq_true rfl) ⟨Nat.le_of_ble_eq_true rfl, Nat.le_of_ble_eq_true rfl⟩ (c_X9_isTwo v3 p3.2 p4 ep4) ?_
    show mj_W mX9_looks (mj_FI p) 12 [(0, .ref v0), (1, .int v1), (2, .int v2), (3, .int v3)] [.int p4.1] p4.2 0 0
    refine mj_if_ne 6 22 rfl (by decide) (fun q => ?_) (fun q => ?_)
    · have hf := (if_neg q).symm.trans hf
      refine mj_blk k_X9_ok 11 6 (pc' := 32) (l' := [(6, .int (0 : Int32)), (5, .int (31 : Int32)), (4, .int (0 : Int32)), (0, .ref v0), (1, .int v1), (2, .int v2), (3, .int v3)]) (st' := []) rfl ?_
      refine mj_locs [3, 4, 5, 6, 2, 1, 0] (l' := [(0, .ref v0), (1, .int v1), (2, .int v2), (3, .int v3), (4, .int (0 : Int32)), (5, .int (31 : Int32)), (6, .int (0 : Int32))]) rfl ?_
      exact w_X9_looks_32 v0 v1 v2 v3 (0 : Int32) (31 : Int32) (0 : Int32) p4.2 _ hf
    · have hf := (if_pos q).symm.trans hf
      refine mj_locs [0] (l' := [(0, .ref v0)]) rfl ?_
      exact w_X9_looks_15 v0 p4.2 _ hf
def f_X9_next_139 (K17 : Nat → Int32 → Int32 → mj_H → Option (Int32 × mj_H)) (v0 : Nat) (v1 : Int32) (v2 : Int32) (h : mj_H) : Option (Int32 × mj_H) := K17 v0 v1 (v2 + (1 : Int32)) h
set_option maxHeartbeats 4000000 in
set_option maxRecDepth 100000 in
theorem w_X9_next_139 (K17 : Nat → Int32 → Int32 → mj_H → Option (Int32 × mj_H)) (hK17 : ∀ (v0 : Nat) (v1 : Int32) (v2 : Int32)  (h : mj_H) (p : Int32 × mj_H), K17 v0 v1 v2 h = some p → mj_W mX9_next (mj_FI p) 17 [(0, .ref v0), (1, .int v1), (2, .int v2)] [] h 0 0) (v0 : Nat) (v1 : Int32) (v2 : Int32) (h : mj_H) (p : Int32 × mj_H) (hf : f_X9_next_139 K17 v0 v1 v2 h = some p) : mj_W mX9_next (mj_FI p) 139 [(0, .ref v0), (1, .int v1), (2, .int v2)] [] h 0 0 := by
  unfold f_X9_next_139 at hf
  refine mj_blk k_X9_ok 77 2 (pc' := 17) (l' := [(2, .int (v2 + (1 : Int32))), (0, .ref v0), (1, .int v1)]) (st' := []) rfl ?_
  refine mj_locs [1, 2, 0] (l' := [(0, .ref v0), (1, .int v1), (2, .int (v2 + (1 : Int32)))]) rfl ?_
  exact hK17 v0 v1 (v2 + (1 : Int32)) h _ hf
def f_X9_next_120 (K17 : Nat → Int32 → Int32 → mj_H → Option (Int32 × mj_H)) (K35 : Nat → Int32 → Int32 → Int32 → Int32 → Int32 → mj_H → Option (Int32 × mj_H)) (v0 : Nat) (v1 : Int32) (v2 : Int32) (v3 : Int32) (v5 : Int32) (s0 : Int32) (h : mj_H) : Option (Int32 × mj_H) := K35 v0 v1 v2 v3 s0 (v5 + (1 : Int32)) h
set_option maxHeartbeats 4000000 in
set_option maxRecDepth 100000 in
theorem w_X9_next_120 (K17 : Nat → Int32 → Int32 → mj_H → Option (Int32 × mj_H)) (K35 : Nat → Int32 → Int32 → Int32 → Int32 → Int32 → mj_H → Option (Int32 × mj_H)) (hK17 : ∀ (v0 : Nat) (v1 : Int32) (v2 : Int32)  (h : mj_H) (p : Int32 × mj_H), K17 v0 v1 v2 h = some p → mj_W mX9_next (mj_FI p) 17 [(0, .ref v0), (1, .int v1), (2, .int v2)] [] h 0 0) (hK35 : ∀ (v0 : Nat) (v1 : Int32) (v2 : Int32) (v3 : Int32) (v4 : Int32) (v5 : Int32)  (h : mj_H) (p : Int32 × mj_H), K35 v0 v1 v2 v3 v4 v5 h = some p → mj_W mX9_next (mj_FI p) 35 [(0, .ref v0), (1, .int v1), (2, .int v2), (3, .int v3), (4, .int v4), (5, .int v5)] [] h 0 0) (v0 : Nat) (v1 : Int32) (v2 : Int32) (v3 : Int32) (v5 : Int32) (s0 : Int32) (h : mj_H) (p : Int32 × mj_H) (hf : f_X9_next_120 K17 K35 v0 v1 v2 v3 v5 s0 h = some p) : mj_W mX9_next (mj_FI p) 120 [(0, .ref v0), (1, .int v1), (2, .int v2), (3, .int v3), (5, .int v5)] [.int s0] h 0 0 := by
  unfold f_X9_next_120 at hf
  refine mj_blk k_X9_ok 68 3 (pc' := 35) (l' := [(5, .int (v5 + (1 : Int32))), (4, .int s0), (0, .ref v0), (1, .int v1), (2, .int v2), (3, .int v3)]) (st' := []) rfl ?_
  refine mj_locs [2, 3, 4, 5, 1, 0] (l' := [(0, .ref v0), (1, .int v1), (2, .int v2), (3, .int v3), (4, .int s0), (5, .int (v5 + (1 : Int32)))]) rfl ?_
  exact hK35 v0 v1 v2 v3 s0 (v5 + (1 : Int32)) h _ hf
def f_X9_next_119 (K17 : Nat → Int32 → Int32 → mj_H → Option (Int32 × mj_H)) (K35 : Nat → Int32 → Int32 → Int32 → Int32 → Int32 → mj_H → Option (Int32 × mj_H)) (v0 : Nat) (v1 : Int32) (v2 : Int32) (v3 : Int32) (v5 : Int32) (h : mj_H) : Option (Int32 × mj_H) := f_X9_next_120 K17 K35 v0 v1 v2 v3 v5 (0 : Int32) h
set_option maxHeartbeats 4000000 in
set_option maxRecDepth 100000 in
theorem w_X9_next_119 (K17 : Nat → Int32 → Int32 → mj_H → Option (Int32 × mj_H)) (K35 : Nat → Int32 → Int32 → Int32 → Int32 → Int32 → mj_H → Option (Int32 × mj_H)) (hK17 : ∀ (v0 : Nat) (v1 : Int32) (v2 : Int32)  (h : mj_H) (p : Int32 × mj_H), K17 v0 v1 v2 h = some p → mj_W mX9_next (mj_FI p) 17 [(0, .ref v0), (1, .int v1), (2, .int v2)] [] h 0 0) (hK35 : ∀ (v0 : Nat) (v1 : Int32) (v2 : Int32) (v3 : Int32) (v4 : Int32) (v5 : Int32)  (h : mj_H) (p : Int32 × mj_H), K35 v0 v1 v2 v3 v4 v5 h = some p → mj_W mX9_next (mj_FI p) 35 [(0, .ref v0), (1, .int v1), (2, .int v2), (3, .int v3), (4, .int v4), (5, .int v5)] [] h 0 0) (v0 : Nat) (v1 : Int32) (v2 : Int32) (v3 : Int32) (v5 : Int32) (h : mj_H) (p : Int32 × mj_H) (hf : f_X9_next_119 K17 K35 v0 v1 v2 v3 v5 h = some p) : mj_W mX9_next (mj_FI p) 119 [(0, .ref v0), (1, .int v1), (2, .int v2), (3, .int v3), (5, .int v5)] [] h 0 0 := by
  unfold f_X9_next_119 at hf
  refine mj_blk k_X9_ok 67 1 (pc' := 120) (l' := [(0, .ref v0), (1, .int v1), (2, .int v2), (3, .int v3), (5, .int v5)]) (st' := [.int (0 : Int32)]) rfl ?_
  exact w_X9_next_120 K17 K35 hK17 hK35 v0 v1 v2 v3 v5 (0 : Int32) h _ hf
def f_X9_next_115 (K17 : Nat → Int32 → Int32 → mj_H → Option (Int32 × mj_H)) (K35 : Nat → Int32 → Int32 → Int32 → Int32 → Int32 → mj_H → Option (Int32 × mj_H)) (v0 : Nat) (v1 : Int32) (v2 : Int32) (v3 : Int32) (v5 : Int32) (h : mj_H) : Option (Int32 × mj_H) := f_X9_next_120 K17 K35 v0 v1 v2 v3 v5 (1 : Int32) h
set_option maxHeartbeats 4000000 in
set_option maxRecDepth 100000 in
theorem w_X9_next_115 (K17 : Nat → Int32 → Int32 → mj_H → Option (Int32 × mj_H)) (K35 : Nat → Int32 → Int32 → Int32 → Int32 → Int32 → mj_H → Option (Int32 × mj_H)) (hK17 : ∀ (v0 : Nat) (v1 : Int32) (v2 : Int32)  (h : mj_H) (p : Int32 × mj_H), K17 v0 v1 v2 h = some p → mj_W mX9_next (mj_FI p) 17 [(0, .ref v0), (1, .int v1), (2, .int v2)] [] h 0 0) (hK35 : ∀ (v0 : Nat) (v1 : Int32) (v2 : Int32) (v3 : Int32) (v4 : Int32) (v5 : Int32)  (h : mj_H) (p : Int32 × mj_H), K35 v0 v1 v2 v3 v4 v5 h = some p → mj_W mX9_next (mj_FI p) 35 [(0, .ref v0), (1, .int v1), (2, .int v2), (3, .int v3), (4, .int v4), (5, .int v5)] [] h 0 0) (v0 : Nat) (v1 : Int32) (v2 : Int32) (v3 : Int32) (v5 : Int32) (h : mj_H) (p : Int32 × mj_H) (hf : f_X9_next_115 K17 K35 v0 v1 v2 v3 v5 h = some p) : mj_W mX9_next (mj_FI p) 115 [(0, .ref v0), (1, .int v1), (2, .int v2), (3, .int v3), (5, .int v5)] [] h 0 0 := by
  unfold f_X9_next_115 at hf
  refine mj_blk k_X9_ok 65 2 (pc' := 120) (l' := [(0, .ref v0), (1, .int v1), (2, .int v2), (3, .int v3), (5, .int v5)]) (st' := [.int (1 : Int32)]) rfl ?_
  exact w_X9_next_120 K17 K35 hK17 hK35 v0 v1 v2 v3 v5 (1 : Int32) h _ hf
def f_X9_next_95 (K17 : Nat → Int32 → Int32 → mj_H → Option (Int32 × mj_H)) (K35 : Nat → Int32 → Int32 → Int32 → Int32 → Int32 → mj_H → Option (Int32 × mj_H)) (v0 : Nat) (v1 : Int32) (v2 : Int32) (v4 : Int32) (v5 : Int32) (v6 : Int32) (v7 : Int32) (s0 : Int32) (h : mj_H) : Option (Int32 × mj_H) := (if v4 = 0 then (if v7 = 0 then f_X9_next_119 K17 K35 v0 v1 v2 s0 v5 h else (f_X9_has v6 v2 h).bind fun p1 => (if p1.1 = 0 then f_X9_next_115 K17 K35 v0 v1 v2 s0 v5 p1.2 else f_X9_next_119 K17 K35 v0 v1 v2 s0 v5 p1.2)) else f_X9_next_115 K17 K35 v0 v1 v2 s0 v5 h)
set_option maxHeartbeats 4000000 in
set_option maxRecDepth 100000 in
theorem w_X9_next_95 (K17 : Nat → Int32 → Int32 → mj_H → Option (Int32 × mj_H)) (K35 : Nat → Int32 → Int32 → Int32 → Int32 → Int32 → mj_H → Option (Int32 × mj_H)) (hK17 : ∀ (v0 : Nat) (v1 : Int32) (v2 : Int32)  (h : mj_H) (p : Int32 × mj_H), K17 v0 v1 v2 h = some p → mj_W mX9_next (mj_FI p) 17 [(0, .ref v0), (1, .int v1), (2, .int v2)] [] h 0 0) (hK35 : ∀ (v0 : Nat) (v1 : Int32) (v2 : Int32) (v3 : Int32) (v4 : Int32) (v5 : Int32)  (h : mj_H) (p : Int32 × mj_H), K35 v0 v1 v2 v3 v4 v5 h = some p → mj_W mX9_next (mj_FI p) 35 [(0, .ref v0), (1, .int v1), (2, .int v2), (3, .int v3), (4, .int v4), (5, .int v5)] [] h 0 0) (v0 : Nat) (v1 : Int32) (v2 : Int32) (v4 : Int32) (v5 : Int32) (v6 : Int32) (v7 : Int32) (s0 : Int32) (h : mj_H) (p : Int32 × mj_H) (hf : f_X9_next_95 K17 K35 v0 v1 v2 v4 v5 v6 v7 s0 h = some p) : mj_W mX9_next (mj_FI p) 95 [(0, .ref v0), (1, .int v1), (2, .int v2), (4, .int v4), (5, .int v5), (6, .int v6), (7, .int v7)] [.int s0] h 0 0 := by
  unfold f_X9_next_95 at hf
  refine mj_blk k_X9_ok 56 2 (pc' := 98) (l' := [(3, .int s0), (0, .ref v0), (1, .int v1), (2, .int v2), (4, .int v4), (5, .int v5), (6, .int v6), (7, .int v7)]) (st' := [.int v4]) rfl ?_
  refine mj_if_ne 58 115 rfl (by decide) (fun q => ?_) (fun q => ?_)
  · have hf := (if_neg q).symm.trans hf
    refine mj_locs [1, 2, 3, 0, 5] (l' := [(0, .ref v0), (1, .int v1), (2, .int v2), (3, .int s0), (5, .int v5)]) rfl ?_
    exact w_X9_next_115 K17 K35 hK17 hK35 v0 v1 v2 s0 v5 h _ hf
  · have hf := (if_pos q).symm.trans hf
    refine mj_blk k_X9_ok 59 1 (pc' := 103) (l' := [(3, .int s0), (0, .ref v0), (1, .int v1), (2, .int v2), (4, .int v4), (5, .int v5), (6, .int v6), (7, .int v7)]) (st' := [.int v7]) rfl ?_
    refine mj_if_eq 60 119 rfl (by decide) (fun q => ?_) (fun q => ?_)
    · have hf := (if_pos q).symm.trans hf
      refine mj_locs [1, 2, 3, 0, 5] (l' := [(0, .ref v0), (1, .int v1), (2, .int v2), (3, .int s0), (5, .int v5)]) rfl ?_
      exact w_X9_next_119 K17 K35 hK17 hK35 v0 v1 v2 s0 v5 h _ hf
    · have hf := (if_neg q).symm.trans hf
      refine mj_blk k_X9_ok 61 2 (pc' := 109) (l' := [(3, .int s0), (0, .ref v0), (1, .int v1), (2, .int v2), (4, .int v4), (5, .int v5), (6, .int v6), (7, .int v7)]) (st' := [.int v2, .int v6]) rfl ?_
      obtain ⟨p1, ep1, hf⟩ := mj_bd hf
      refine mj_callS mX9_has [.int v6, .int v2] 63 rfl ll_X9_69 lb_X9_has li_X9_has ⟨Nat.le_of_ble_eq_true rfl, Nat.le_of_ble_eq_true rfl⟩ rfl (rest := []) rfl (Nat.le_of_ble_eq_true rfl) ⟨Nat.le_of_ble_eq_true rfl, Nat.le_of_ble_eq_true rfl⟩ (c_X9_has v6 v2 h p1 ep1) ?_
      show mj_W mX9_next (mj_FI p) 112 [(3, .int s0), (0, .ref v0), (1, .int v1), (2, .int v2), (4, .int v4), (5, .int v5), (6, .int v6), (7, .int v7)] [.int p1.1] p1.2 0 0
      refine mj_if_ne 64 119 rfl (by decide) (fun q => ?_) (fun q => ?_)
      · have hf := (if_neg q).symm.trans hf
        refine mj_locs [1, 2, 3, 0, 5] (l' := [(0, .ref v0), (1, .int v1), (2, .int v2), (3, .int s0), (5, .int v5)]) rfl ?_
        exact w_X9_next_119 K17 K35 hK17 hK35 v0 v1 v2 s0 v5 p1.2 _ hf
      · have hf := (if_pos q).symm.trans hf
        refine mj_locs [1, 2, 3, 0, 5] (l' := [(0, .ref v0), (1, .int v1), (2, .int v2), (3, .int s0), (5, .int v5)]) rfl ?_
        exact w_X9_next_115 K17 K35 hK17 hK35 v0 v1 v2 s0 v5 p1.2 _ hf
def f_X9_next_94 (K17 : Nat → Int32 → Int32 → mj_H → Option (Int32 × mj_H)) (K35 : Nat → Int32 → Int32 → Int32 → Int32 → Int32 → mj_H → Option (Int32 × mj_H)) (v0 : Nat) (v1 : Int32) (v2 : Int32) (v4 : Int32) (v5 : Int32) (v6 : Int32) (v7 : Int32) (h : mj_H) : Option (Int32 × mj_H) := f_X9_next_95 K17 K35 v0 v1 v2 v4 v5 v6 v7 (0 : Int32) h
set_option maxHeartbeats 4000000 in
set_option maxRecDepth 100000 in
theorem w_X9_next_94 (K17 : Nat → Int32 → Int32 → mj_H → Option (Int32 × mj_H)) (K35 : Nat → Int32 → Int32 → Int32 → Int32 → Int32 → mj_H → Option (Int32 × mj_H)) (hK17 : ∀ (v0 : Nat) (v1 : Int32) (v2 : Int32)  (h : mj_H) (p : Int32 × mj_H), K17 v0 v1 v2 h = some p → mj_W mX9_next (mj_FI p) 17 [(0, .ref v0), (1, .int v1), (2, .int v2)] [] h 0 0) (hK35 : ∀ (v0 : Nat) (v1 : Int32) (v2 : Int32) (v3 : Int32) (v4 : Int32) (v5 : Int32)  (h : mj_H) (p : Int32 × mj_H), K35 v0 v1 v2 v3 v4 v5 h = some p → mj_W mX9_next (mj_FI p) 35 [(0, .ref v0), (1, .int v1), (2, .int v2), (3, .int v3), (4, .int v4), (5, .int v5)] [] h 0 0) (v0 : Nat) (v1 : Int32) (v2 : Int32) (v4 : Int32) (v5 : Int32) (v6 : Int32) (v7 : Int32) (h : mj_H) (p : Int32 × mj_H) (hf : f_X9_next_94 K17 K35 v0 v1 v2 v4 v5 v6 v7 h = some p) : mj_W mX9_next (mj_FI p) 94 [(0, .ref v0), (1, .int v1), (2, .int v2), (4, .int v4), (5, .int v5), (6, .int v6), (7, .int v7)] [] h 0 0 := by
  unfold f_X9_next_94 at hf
  refine mj_blk k_X9_ok 55 1 (pc' := 95) (l' := [(0, .ref v0), (1, .int v1), (2, .int v2), (4, .int v4), (5, .int v5), (6, .int v6), (7, .int v7)]) (st' := [.int (0 : Int32)]) rfl ?_
  exact w_X9_next_95 K17 K35 hK17 hK35 v0 v1 v2 v4 v5 v6 v7 (0 : Int32) h _ hf
def f_X9_next_90 (K17 : Nat → Int32 → Int32 → mj_H → Option (Int32 × mj_H)) (K35 : Nat → Int32 → Int32 → Int32 → Int32 → Int32 → mj_H → Option (Int32 × mj_H)) (v0 : Nat) (v1 : Int32) (v2 : Int32) (v4 : Int32) (v5 : Int32) (v6 : Int32) (v7 : Int32) (h : mj_H) : Option (Int32 × mj_H) := f_X9_next_95 K17 K35 v0 v1 v2 v4 v5 v6 v7 (1 : Int32) h
set_option maxHeartbeats 4000000 in
set_option maxRecDepth 100000 in
theorem w_X9_next_90 (K17 : Nat → Int32 → Int32 → mj_H → Option (Int32 × mj_H)) (K35 : Nat → Int32 → Int32 → Int32 → Int32 → Int32 → mj_H → Option (Int32 × mj_H)) (hK17 : ∀ (v0 : Nat) (v1 : Int32) (v2 : Int32)  (h : mj_H) (p : Int32 × mj_H), K17 v0 v1 v2 h = some p → mj_W mX9_next (mj_FI p) 17 [(0, .ref v0), (1, .int v1), (2, .int v2)] [] h 0 0) (hK35 : ∀ (v0 : Nat) (v1 : Int32) (v2 : Int32) (v3 : Int32) (v4 : Int32) (v5 : Int32)  (h : mj_H) (p : Int32 × mj_H), K35 v0 v1 v2 v3 v4 v5 h = some p → mj_W mX9_next (mj_FI p) 35 [(0, .ref v0), (1, .int v1), (2, .int v2), (3, .int v3), (4, .int v4), (5, .int v5)] [] h 0 0) (v0 : Nat) (v1 : Int32) (v2 : Int32) (v4 : Int32) (v5 : Int32) (v6 : Int32) (v7 : Int32) (h : mj_H) (p : Int32 × mj_H) (hf : f_X9_next_90 K17 K35 v0 v1 v2 v4 v5 v6 v7 h = some p) : mj_W mX9_next (mj_FI p) 90 [(0, .ref v0), (1, .int v1), (2, .int v2), (4, .int v4), (5, .int v5), (6, .int v6), (7, .int v7)] [] h 0 0 := by
  unfold f_X9_next_90 at hf
  refine mj_blk k_X9_ok 53 2 (pc' := 95) (l' := [(0, .ref v0), (1, .int v1), (2, .int v2), (4, .int v4), (5, .int v5), (6, .int v6), (7, .int v7)]) (st' := [.int (1 : Int32)]) rfl ?_
  exact w_X9_next_95 K17 K35 hK17 hK35 v0 v1 v2 v4 v5 v6 v7 (1 : Int32) h _ hf
def f_X9_next_70 (K17 : Nat → Int32 → Int32 → mj_H → Option (Int32 × mj_H)) (K35 : Nat → Int32 → Int32 → Int32 → Int32 → Int32 → mj_H → Option (Int32 × mj_H)) (v0 : Nat) (v1 : Int32) (v2 : Int32) (v3 : Int32) (v4 : Int32) (v5 : Int32) (v6 : Int32) (s0 : Int32) (h : mj_H) : Option (Int32 × mj_H) := (if v3 = 0 then (if s0 = 0 then f_X9_next_94 K17 K35 v0 v1 v2 v4 v5 v6 s0 h else (f_X9_has v6 v2 h).bind fun p2 => (if p2.1 = 0 then f_X9_next_94 K17 K35 v0 v1 v2 v4 v5 v6 s0 p2.2 else f_X9_next_90 K17 K35 v0 v1 v2 v4 v5 v6 s0 p2.2)) else f_X9_next_90 K17 K35 v0 v1 v2 v4 v5 v6 s0 h)
set_option maxHeartbeats 4000000 in
set_option maxRecDepth 100000 in
theorem w_X9_next_70 (K17 : Nat → Int32 → Int32 → mj_H → Option (Int32 × mj_H)) (K35 : Nat → Int32 → Int32 → Int32 → Int32 → Int32 → mj_H → Option (Int32 × mj_H)) (hK17 : ∀ (v0 : Nat) (v1 : Int32) (v2 : Int32)  (h : mj_H) (p : Int32 × mj_H), K17 v0 v1 v2 h = some p → mj_W mX9_next (mj_FI p) 17 [(0, .ref v0), (1, .int v1), (2, .int v2)] [] h 0 0) (hK35 : ∀ (v0 : Nat) (v1 : Int32) (v2 : Int32) (v3 : Int32) (v4 : Int32) (v5 : Int32)  (h : mj_H) (p : Int32 × mj_H), K35 v0 v1 v2 v3 v4 v5 h = some p → mj_W mX9_next (mj_FI p) 35 [(0, .ref v0), (1, .int v1), (2, .int v2), (3, .int v3), (4, .int v4), (5, .int v5)] [] h 0 0) (v0 : Nat) (v1 : Int32) (v2 : Int32) (v3 : Int32) (v4 : Int32) (v5 : Int32) (v6 : Int32) (s0 : Int32) (h : mj_H) (p : Int32 × mj_H) (hf : f_X9_next_70 K17 K35 v0 v1 v2 v3 v4 v5 v6 s0 h = some p) : mj_W mX9_next (mj_FI p) 70 [(0, .ref v0), (1, .int v1), (2, .int v2), (3, .int v3), (4, .int v4), (5, .int v5), (6, .int v6)] [.int s0] h 0 0 := by
  unfold f_X9_next_70 at hf
  refine mj_blk k_X9_ok 44 2 (pc' := 73) (l' := [(7, .int s0), (0, .ref v0), (1, .int v1), (2, .int v2), (3, .int v3), (4, .int v4), (5, .int v5), (6, .int v6)]) (st' := [.int v3]) rfl ?_
  refine mj_if_ne 46 90 rfl (by decide) (fun q => ?_) (fun q => ?_)
  · have hf := (if_neg q).symm.trans hf
    refine mj_locs [1, 2, 3, 5, 6, 7, 0] (l' := [(0, .ref v0), (1, .int v1), (2, .int v2), (4, .int v4), (5, .int v5), (6, .int v6), (7, .int s0)]) rfl ?_
    exact w_X9_next_90 K17 K35 hK17 hK35 v0 v1 v2 v4 v5 v6 s0 h _ hf
  · have hf := (if_pos q).symm.trans hf
    refine mj_blk k_X9_ok 47 1 (pc' := 78) (l' := [(7, .int s0), (0, .ref v0), (1, .int v1), (2, .int v2), (3, .int v3), (4, .int v4), (5, .int v5), (6, .int v6)]) (st' := [.int s0]) rfl ?_
    refine mj_if_eq 48 94 rfl (by decide) (fun q => ?_) (fun q => ?_)
    · have hf := (if_pos q).symm.trans hf
      refine mj_locs [1, 2, 3, 5, 6, 7, 0] (l' := [(0, .ref v0), (1, .int v1), (2, .int v2), (4, .int v4), (5, .int v5), (6, .int v6), (7, .int s0)]) rfl ?_
      exact w_X9_next_94 K17 K35 hK17 hK35 v0 v1 v2 v4 v5 v6 s0 h _ hf
    · have hf := (if_neg q).symm.trans hf
      refine mj_blk k_X9_ok 49 2 (pc' := 84) (l' := [(7, .int s0), (0, .ref v0), (1, .int v1), (2, .int v2), (3, .int v3), (4, .int v4), (5, .int v5), (6, .int v6)]) (st' := [.int v2, .int v6]) rfl ?_
      obtain ⟨p2, ep2, hf⟩ := mj_bd hf
      refine mj_callS mX9_has [.int v6, .int v2] 51 rfl ll_X9_69 lb_X9_has li_X9_has ⟨Nat.le_of_ble_eq_true rfl, Nat.le_of_ble_eq_true rfl⟩ rfl (rest := []) rfl (Nat.le_of_ble_eq_true rfl) ⟨Nat.le_of_ble_eq_true rfl, Nat.le_of_ble_eq_true rfl⟩ (c_X9_has v6 v2 h p2 ep2) ?_
      show mj_W mX9_next (mj_FI p) 87 [(7, .int s0), (0, .ref v0), (1, .int v1), (2, .int v2), (3, .int v3), (4, .int v4), (5, .int v5), (6, .int v6)] [.int p2.1] p2.2 0 0
      refine mj_if_eq 52 94 rfl (by decide) (fun q => ?_) (fun q => ?_)
      · have hf := (if_pos q).symm.trans hf
        refine mj_locs [1, 2, 3, 5, 6, 7, 0] (l' := [(0, .ref v0), (1, .int v1), (2, .int v2), (4, .int v4), (5, .int v5), (6, .int v6), (7, .int s0)]) rfl ?_
        exact w_X9_next_94 K17 K35 hK17 hK35 v0 v1 v2 v4 v5 v6 s0 p2.2 _ hf
      · have hf := (if_neg q).symm.trans hf
        refine mj_locs [1, 2, 3, 5, 6, 7, 0] (l' := [(0, .ref v0), (1, .int v1), (2, .int v2), (4, .int v4), (5, .int v5), (6, .int v6), (7, .int s0)]) rfl ?_
        exact w_X9_next_90 K17 K35 hK17 hK35 v0 v1 v2 v4 v5 v6 s0 p2.2 _ hf
def b_X9_next_35 (K17 : Nat → Int32 → Int32 → mj_H → Option (Int32 × mj_H)) (K35 : Nat → Int32 → Int32 → Int32 → Int32 → Int32 → mj_H → Option (Int32 × mj_H)) (v0 : Nat) (v1 : Int32) (v2 : Int32) (v3 : Int32) (v4 : Int32) (v5 : Int32) (h : mj_H) : Option (Int32 × mj_H) := (if (32 : Int32) ≤ v5 then (if v3 = 0 then f_X9_next_139 K17 v0 v1 v2 h else (if v4 = 0 then f_X9_next_139 K17 v0 v1 v2 h else some (v2, h))) else (if mj_ob h v0 9 = true then (f_X9_wearing v0 v5 (1 : Int32) h).bind fun p3 => (if (p3.1 ||| ((1 : Int32) <<< (v2 &&& 31))) = (v1 ||| ((1 : Int32) <<< (v2 &&& 31))) then f_X9_next_70 K17 K35 v0 v1 v2 v3 v4 v5 p3.1 (1 : Int32) p3.2 else f_X9_next_70 K17 K35 v0 v1 v2 v3 v4 v5 p3.1 (0 : Int32) p3.2) else none))
set_option maxHeartbeats 4000000 in
set_option maxRecDepth 100000 in
theorem wb_X9_next_35 (K17 : Nat → Int32 → Int32 → mj_H → Option (Int32 × mj_H)) (hK17 : ∀ (v0 : Nat) (v1 : Int32) (v2 : Int32)  (h : mj_H) (p : Int32 × mj_H), K17 v0 v1 v2 h = some p → mj_W mX9_next (mj_FI p) 17 [(0, .ref v0), (1, .int v1), (2, .int v2)] [] h 0 0) (K35 : Nat → Int32 → Int32 → Int32 → Int32 → Int32 → mj_H → Option (Int32 × mj_H)) (hK35 : ∀ (v0 : Nat) (v1 : Int32) (v2 : Int32) (v3 : Int32) (v4 : Int32) (v5 : Int32)  (h : mj_H) (p : Int32 × mj_H), K35 v0 v1 v2 v3 v4 v5 h = some p → mj_W mX9_next (mj_FI p) 35 [(0, .ref v0), (1, .int v1), (2, .int v2), (3, .int v3), (4, .int v4), (5, .int v5)] [] h 0 0) (v0 : Nat) (v1 : Int32) (v2 : Int32) (v3 : Int32) (v4 : Int32) (v5 : Int32) (h : mj_H) (p : Int32 × mj_H) (hf : b_X9_next_35 K17 K35 v0 v1 v2 v3 v4 v5 h = some p) : mj_W mX9_next (mj_FI p) 35 [(0, .ref v0), (1, .int v1), (2, .int v2), (3, .int v3), (4, .int v4), (5, .int v5)] [] h 0 0 := by
  unfold b_X9_next_35 at hf
  refine mj_blk k_X9_ok 22 2 (pc' := 39) (l' := [(0, .ref v0), (1, .int v1), (2, .int v2), (3, .int v3), (4, .int v4), (5, .int v5)]) (st' := [.int (32 : Int32), .int v5]) rfl ?_
  refine mj_icmp_ge 24 128 rfl (by decide) (fun q => ?_) (fun q => ?_)
  · have hf := (if_pos q).symm.trans hf
    refine mj_blk k_X9_ok 71 1 (pc' := 129) (l' := [(0, .ref v0), (1, .int v1), (2, .int v2), (3, .int v3), (4, .int v4), (5, .int v5)]) (st' := [.int v3]) rfl ?_
    refine mj_if_eq 72 139 rfl (by decide) (fun q => ?_) (fun q => ?_)
    · have hf := (if_pos q).symm.trans hf
      refine mj_locs [0, 1, 2] (l' := [(0, .ref v0), (1, .int v1), (2, .int v2)]) rfl ?_
      exact w_X9_next_139 K17 hK17 v0 v1 v2 h _ hf
    · have hf := (if_neg q).symm.trans hf
      refine mj_blk k_X9_ok 73 1 (pc' := 134) (l' := [(0, .ref v0), (1, .int v1), (2, .int v2), (3, .int v3), (4, .int v4), (5, .int v5)]) (st' := [.int v4]) rfl ?_
      refine mj_if_eq 74 139 rfl (by decide) (fun q => ?_) (fun q => ?_)
      · have hf := (if_pos q).symm.trans hf
        refine mj_locs [0, 1, 2] (l' := [(0, .ref v0), (1, .int v1), (2, .int v2)]) rfl ?_
        exact w_X9_next_139 K17 hK17 v0 v1 v2 h _ hf
      · have hf := (if_neg q).symm.trans hf
        refine mj_blk k_X9_ok 75 1 (pc' := 138) (l' := [(0, .ref v0), (1, .int v1), (2, .int v2), (3, .int v3), (4, .int v4), (5, .int v5)]) (st' := [.int v2]) rfl ?_
        obtain rfl := Option.some.inj hf
        exact mj_end (some (.int v2)) ⟨mj_dec tok_X9_next (a := 76) rfl, .int, rfl, rfl⟩ ⟨rfl, rfl⟩ (Nat.le_of_ble_eq_true rfl) (Nat.le_of_ble_eq_true rfl)
  · have hf := (if_neg q).symm.trans hf
    refine mj_blk k_X9_ok 25 3 (pc' := 46) (l' := [(0, .ref v0), (1, .int v1), (2, .int v2), (3, .int v3), (4, .int v4), (5, .int v5)]) (st' := [.int (1 : Int32), .int v5, .ref v0]) rfl ?_
    obtain ⟨gp3, hf⟩ := mj_gd hf
    obtain ⟨p3, ep3, hf⟩ := mj_bd hf
    refine mj_callV (T := TX9) (N := 20) (ci := 9) mX9_wearing [.int v5, .int (1 : Int32)] 28 rfl ll_X9_259 lb_X9_wearing li_X9_wearing ⟨Nat.le_of_ble_eq_true rfl, Nat.le_of_ble_eq_true rfl⟩ rfl gp3 rfl (rest := []) rfl (Nat.le_of_ble_eq_true rfl) ⟨Nat.le_of_ble_eq_true rfl, Nat.le_of_ble_eq_true rfl⟩ (c_X9_wearing v0 v5 (1 : Int32) h p3 ep3) ?_
    show mj_W mX9_next (mj_FI p) 49 [(0, .ref v0), (1, .int v1), (2, .int v2), (3, .int v3), (4, .int v4), (5, .int v5)] [.int p3.1] p3.2 0 0
    refine mj_blk k_X9_ok 29 11 (pc' := 62) (l' := [(6, .int p3.1), (0, .ref v0), (1, .int v1), (2, .int v2), (3, .int v3), (4, .int v4), (5, .int v5)]) (st' := [.int (v1 ||| ((1 : Int32) <<< (v2 &&& 31))), .int (p3.1 ||| ((1 : Int32) <<< (v2 &&& 31)))]) rfl ?_
    refine mj_icmp_ne 40 69 rfl (by decide) (fun q => ?_) (fun q => ?_)
    · have hf := (if_neg q).symm.trans hf
      refine mj_blk k_X9_ok 43 1 (pc' := 70) (l' := [(6, .int p3.1), (0, .ref v0), (1, .int v1), (2, .int v2), (3, .int v3), (4, .int v4), (5, .int v5)]) (st' := [.int (0 : Int32)]) rfl ?_
      refine mj_locs [1, 2, 3, 4, 5, 6, 0] (l' := [(0, .ref v0), (1, .int v1), (2, .int v2), (3, .int v3), (4, .int v4), (5, .int v5), (6, .int p3.1)]) rfl ?_
      exact w_X9_next_70 K17 K35 hK17 hK35 v0 v1 v2 v3 v4 v5 p3.1 (0 : Int32) p3.2 _ hf
    · have hf := (if_pos q).symm.trans hf
      refine mj_blk k_X9_ok 41 2 (pc' := 70) (l' := [(6, .int p3.1), (0, .ref v0), (1, .int v1), (2, .int v2), (3, .int v3), (4, .int v4), (5, .int v5)]) (st' := [.int (1 : Int32)]) rfl ?_
      refine mj_locs [1, 2, 3, 4, 5, 6, 0] (l' := [(0, .ref v0), (1, .int v1), (2, .int v2), (3, .int v3), (4, .int v4), (5, .int v5), (6, .int p3.1)]) rfl ?_
      exact w_X9_next_70 K17 K35 hK17 hK35 v0 v1 v2 v3 v4 v5 p3.1 (1 : Int32) p3.2 _ hf
def f_X9_next_35 (K17 : Nat → Int32 → Int32 → mj_H → Option (Int32 × mj_H)) (v0 : Nat) (v1 : Int32) (v2 : Int32) (v3 : Int32) (v4 : Int32) (v5 : Int32) (h : mj_H) : Option (Int32 × mj_H) := mj_fix (fun (K35 : (Nat × Int32 × Int32 × Int32 × Int32 × Int32 × mj_H) → Option (Int32 × mj_H)) (s : Nat × Int32 × Int32 × Int32 × Int32 × Int32 × mj_H) => b_X9_next_35 K17 (fun v0 v1 v2 v3 v4 v5 h => K35 (v0, v1, v2, v3, v4, v5, h)) s.1 s.2.1 s.2.2.1 s.2.2.2.1 s.2.2.2.2.1 s.2.2.2.2.2.1 s.2.2.2.2.2.2) 1000 (v0, v1, v2, v3, v4, v5, h)
set_option maxHeartbeats 4000000 in
set_option maxRecDepth 100000 in
theorem w_X9_next_35 (K17 : Nat → Int32 → Int32 → mj_H → Option (Int32 × mj_H)) (hK17 : ∀ (v0 : Nat) (v1 : Int32) (v2 : Int32)  (h : mj_H) (p : Int32 × mj_H), K17 v0 v1 v2 h = some p → mj_W mX9_next (mj_FI p) 17 [(0, .ref v0), (1, .int v1), (2, .int v2)] [] h 0 0) (v0 : Nat) (v1 : Int32) (v2 : Int32) (v3 : Int32) (v4 : Int32) (v5 : Int32) (h : mj_H) (p : Int32 × mj_H) (hf : f_X9_next_35 K17 v0 v1 v2 v3 v4 v5 h = some p) : mj_W mX9_next (mj_FI p) 35 [(0, .ref v0), (1, .int v1), (2, .int v2), (3, .int v3), (4, .int v4), (5, .int v5)] [] h 0 0 := by
  unfold f_X9_next_35 at hf
  exact mj_fix_ind (F := (fun (K35 : (Nat × Int32 × Int32 × Int32 × Int32 × Int32 × mj_H) → Option (Int32 × mj_H)) (s : Nat × Int32 × Int32 × Int32 × Int32 × Int32 × mj_H) => b_X9_next_35 K17 (fun v0 v1 v2 v3 v4 v5 h => K35 (v0, v1, v2, v3, v4, v5, h)) s.1 s.2.1 s.2.2.1 s.2.2.2.1 s.2.2.2.2.1 s.2.2.2.2.2.1 s.2.2.2.2.2.2)) (P := fun s p => mj_W mX9_next (mj_FI p) 35 [(0, .ref s.1), (1, .int s.2.1), (2, .int s.2.2.1), (3, .int s.2.2.2.1), (4, .int s.2.2.2.2.1), (5, .int s.2.2.2.2.2.1)] [] s.2.2.2.2.2.2 0 0) (fun K35 hK35 s p hf => wb_X9_next_35 K17 hK17 (fun v0 v1 v2 v3 v4 v5 h => K35 (v0, v1, v2, v3, v4, v5, h)) (fun v0 v1 v2 v3 v4 v5 h p e => hK35 (v0, v1, v2, v3, v4, v5, h) p e) s.1 s.2.1 s.2.2.1 s.2.2.2.1 s.2.2.2.2.1 s.2.2.2.2.2.1 s.2.2.2.2.2.2 p hf) 1000 (v0, v1, v2, v3, v4, v5, h) p hf
def b_X9_next_17 (K17 : Nat → Int32 → Int32 → mj_H → Option (Int32 × mj_H)) (v0 : Nat) (v1 : Int32) (v2 : Int32) (h : mj_H) : Option (Int32 × mj_H) := (mj_gR h v0 9 0).bind fun x4 => (mj_aI h x4 (0 : Int32)).bind fun x5 => (if x5 ≤ v2 then some ((-1 : Int32), h) else f_X9_next_35 K17 v0 v1 v2 (0 : Int32) (0 : Int32) (0 : Int32) h)
set_option maxHeartbeats 4000000 in
set_option maxRecDepth 100000 in
theorem wb_X9_next_17 (K17 : Nat → Int32 → Int32 → mj_H → Option (Int32 × mj_H)) (hK17 : ∀ (v0 : Nat) (v1 : Int32) (v2 : Int32)  (h : mj_H) (p : Int32 × mj_H), K17 v0 v1 v2 h = some p → mj_W mX9_next (mj_FI p) 17 [(0, .ref v0), (1, .int v1), (2, .int v2)] [] h 0 0) (v0 : Nat) (v1 : Int32) (v2 : Int32) (h : mj_H) (p : Int32 × mj_H) (hf : b_X9_next_17  K17 v0 v1 v2 h = some p) : mj_W mX9_next (mj_FI p) 17 [(0, .ref v0), (1, .int v1), (2, .int v2)] [] h 0 0 := by
  unfold b_X9_next_17 at hf
  refine mj_blk k_X9_ok 10 2 (pc' := 19) (l' := [(0, .ref v0), (1, .int v1), (2, .int v2)]) (st' := [.ref v0, .int v2]) rfl ?_
  obtain ⟨x4, ex4, hf⟩ := mj_bd hf
  refine mj_get 12 rfl fl_X9_7 (mj_gR_V ex4) ?_
  refine mj_blk k_X9_ok 13 1 (pc' := 23) (l' := [(0, .ref v0), (1, .int v1), (2, .int v2)]) (st' := [.int (0 : Int32), .ref x4, .int v2]) rfl ?_
  obtain ⟨x5, ex5, hf⟩ := mj_bd hf
  refine mj_iald 14 rfl ex5 ?_
  refine mj_icmp_ge 15 145 rfl (by decide) (fun q => ?_) (fun q => ?_)
  · have hf := (if_pos q).symm.trans hf
    refine mj_blk k_X9_ok 79 1 (pc' := 146) (l' := [(0, .ref v0), (1, .int v1), (2, .int v2)]) (st' := [.int (-1 : Int32)]) rfl ?_
    obtain rfl := Option.some.inj hf
    exact mj_end (some (.int (-1 : Int32))) ⟨mj_dec tok_X9_next (a := 80) rfl, .int, rfl, rfl⟩ ⟨rfl, rfl⟩ (Nat.le_of_ble_eq_true rfl) (Nat.le_of_ble_eq_true rfl)
  · have hf := (if_neg q).symm.trans hf
    refine mj_blk k_X9_ok 16 6 (pc' := 35) (l' := [(5, .int (0 : Int32)), (4, .int (0 : Int32)), (3, .int (0 : Int32)), (0, .ref v0), (1, .int v1), (2, .int v2)]) (st' := []) rfl ?_
    refine mj_locs [3, 4, 5, 2, 1, 0] (l' := [(0, .ref v0), (1, .int v1), (2, .int v2), (3, .int (0 : Int32)), (4, .int (0 : Int32)), (5, .int (0 : Int32))]) rfl ?_
    exact w_X9_next_35 K17 hK17 v0 v1 v2 (0 : Int32) (0 : Int32) (0 : Int32) h _ hf
def f_X9_next_17 (v0 : Nat) (v1 : Int32) (v2 : Int32) (h : mj_H) : Option (Int32 × mj_H) := mj_fix (fun (K17 : (Nat × Int32 × Int32 × mj_H) → Option (Int32 × mj_H)) (s : Nat × Int32 × Int32 × mj_H) => b_X9_next_17  (fun v0 v1 v2 h => K17 (v0, v1, v2, h)) s.1 s.2.1 s.2.2.1 s.2.2.2) 1000 (v0, v1, v2, h)
set_option maxHeartbeats 4000000 in
set_option maxRecDepth 100000 in
theorem w_X9_next_17 (v0 : Nat) (v1 : Int32) (v2 : Int32) (h : mj_H) (p : Int32 × mj_H) (hf : f_X9_next_17  v0 v1 v2 h = some p) : mj_W mX9_next (mj_FI p) 17 [(0, .ref v0), (1, .int v1), (2, .int v2)] [] h 0 0 := by
  unfold f_X9_next_17 at hf
  exact mj_fix_ind (F := (fun (K17 : (Nat × Int32 × Int32 × mj_H) → Option (Int32 × mj_H)) (s : Nat × Int32 × Int32 × mj_H) => b_X9_next_17  (fun v0 v1 v2 h => K17 (v0, v1, v2, h)) s.1 s.2.1 s.2.2.1 s.2.2.2)) (P := fun s p => mj_W mX9_next (mj_FI p) 17 [(0, .ref s.1), (1, .int s.2.1), (2, .int s.2.2.1)] [] s.2.2.2 0 0) (fun K17 hK17 s p hf => wb_X9_next_17   (fun v0 v1 v2 h => K17 (v0, v1, v2, h)) (fun v0 v1 v2 h p e => hK17 (v0, v1, v2, h) p e) s.1 s.2.1 s.2.2.1 s.2.2.2 p hf) 1000 (v0, v1, v2, h) p hf
def f_X9_next (v0 : Nat) (v1 : Int32) (h : mj_H) : Option (Int32 × mj_H) := (if mj_ob h v0 9 = true then (f_X9_areMen v0 v1 h).bind fun p6 => (if p6.1 = 0 then (if mj_ob p6.2 v0 9 = true then (f_X9_bad v0 (-10 : Int32) p6.2).bind fun p7 => some (p7.1, p7.2) else none) else f_X9_next_17 v0 v1 (0 : Int32) p6.2) else none)
set_option maxHeartbeats 4000000 in
set_option maxRecDepth 100000 in
theorem c_X9_next (v0 : Nat) (v1 : Int32) (h : mj_H) (p : Int32 × mj_H) (hf : f_X9_next v0 v1 h = some p) : mj_Met mX9_next [.ref v0, .int v1] h (some (.int p.1)) p.2 := by
  refine mj_met pl_X9 tok_X9_next (Nat.le_of_ble_eq_true rfl) ?_
  show mj_W mX9_next (mj_FI p) 0 [(0, .ref v0), (1, .int v1)] [] h 0 0
  unfold f_X9_next at hf
  refine mj_blk k_X9_ok 0 2 (pc' := 2) (l' := [(0, .ref v0), (1, .int v1)]) (st' := [.int v1, .ref v0]) rfl ?_
  obtain ⟨gp6, hf⟩ := mj_gd hf
  obtain ⟨p6, ep6, hf⟩ := mj_bd hf
  refine mj_callV (T := TX9) (N := 20) (ci := 9) mX9_areMen [.int v1] 2 rfl ll_X9_214 lb_X9_areMen li_X9_areMen ⟨Nat.le_of_ble_eq_true rfl, Nat.le_of_ble_eq_true rfl⟩ rfl gp6 rfl (rest := []) rfl (Nat.le_of_ble_eq_true rfl) ⟨Nat.le_of_ble_eq_true rfl, Nat.le_of_ble_eq_true rfl⟩ (c_X9_areMen v0 v1 h p6 ep6) ?_
  show mj_W mX9_next (mj_FI p) 5 [(0, .ref v0), (1, .int v1)] [.int p6.1] p6.2 0 0
  refine mj_if_ne 3 15 rfl (by decide) (fun q => ?_) (fun q => ?_)
  · have hf := (if_neg q).symm.trans hf
    refine mj_blk k_X9_ok 8 2 (pc' := 17) (l' := [(2, .int (0 : Int32)), (0, .ref v0), (1, .int v1)]) (st' := []) rfl ?_
    refine mj_locs [1, 2, 0] (l' := [(0, .ref v0), (1, .int v1), (2, .int (0 : Int32))]) rfl ?_
    exact w_X9_next_17 v0 v1 (0 : Int32) p6.2 _ hf
  · have hf := (if_pos q).symm.trans hf
    refine mj_blk k_X9_ok 4 2 (pc' := 11) (l' := [(0, .ref v0), (1, .int v1)]) (st' := [.int (-10 : Int32), .ref v0]) rfl ?_
    obtain ⟨gp7, hf⟩ := mj_gd hf
    obtain ⟨p7, ep7, hf⟩ := mj_bd hf
    refine mj_callV (T := TX9) (N := 20) (ci := 9) mX9_bad [.int (-10 : Int32)] 6 rfl ll_X9_75 lb_X9_bad li_X9_bad ⟨Nat.le_of_ble_eq_true rfl, Nat.le_of_ble_eq_true rfl⟩ rfl gp7 rfl (rest := []) rfl (Nat.le_of_ble_eq_true rfl) ⟨Nat.le_of_ble_eq_true rfl, Nat.le_of_ble_eq_true rfl⟩ (c_X9_bad v0 (-10 : Int32) p6.2 p7 ep7) ?_
    show mj_W mX9_next (mj_FI p) 14 [(0, .ref v0), (1, .int v1)] [.int p7.1] p7.2 0 0
    obtain rfl := Option.some.inj hf
    exact mj_end (some (.int p7.1)) ⟨mj_dec tok_X9_next (a := 7) rfl, .int, rfl, rfl⟩ ⟨rfl, rfl⟩ (Nat.le_of_ble_eq_true rfl) (Nat.le_of_ble_eq_true rfl)
def f_X9_gets (v0 : Nat) (v1 : Int32) (v2 : Int32) (v3 : Int32) (h : mj_H) : Option (Int32 × mj_H) := (mj_gR h v0 9 0).bind fun x1 => (f_X9_trustOn x1 v1 h).bind fun p2 => (if v2 = (1 : Int32) then (if v3 = (1 : Int32) then some (((2 : Int32) - (p2.1 / (30 : Int32))), p2.2) else some ((4 : Int32), p2.2)) else (if (20 : Int32) ≤ p2.1 then some ((1 : Int32), p2.2) else some ((3 : Int32), p2.2)))
set_option maxHeartbeats 4000000 in
set_option maxRecDepth 100000 in
theorem c_X9_gets (v0 : Nat) (v1 : Int32) (v2 : Int32) (v3 : Int32) (h : mj_H) (p : Int32 × mj_H) (hf : f_X9_gets v0 v1 v2 v3 h = some p) : mj_Met mX9_gets [.ref v0, .int v1, .int v2, .int v3] h (some (.int p.1)) p.2 := by
  refine mj_met pl_X9 tok_X9_gets (Nat.le_of_ble_eq_true rfl) ?_
  show mj_W mX9_gets (mj_FI p) 0 [(0, .ref v0), (1, .int v1), (2, .int v2), (3, .int v3)] [] h 0 0
  unfold f_X9_gets at hf
  refine mj_blk k_X9_ok 0 1 (pc' := 1) (l' := [(0, .ref v0), (1, .int v1), (2, .int v2), (3, .int v3)]) (st' := [.ref v0]) rfl ?_
  obtain ⟨x1, ex1, hf⟩ := mj_bd hf
  refine mj_get 1 rfl fl_X9_7 (mj_gR_V ex1) ?_
  refine mj_blk k_X9_ok 2 1 (pc' := 5) (l' := [(0, .ref v0), (1, .int v1), (2, .int v2), (3, .int v3)]) (st' := [.int v1, .ref x1]) rfl ?_
  obtain ⟨p2, ep2, hf⟩ := mj_bd hf
  refine mj_callS mX9_trustOn [.ref x1, .int v1] 3 rfl ll_X9_200 lb_X9_trustOn li_X9_trustOn ⟨Nat.le_of_ble_eq_true rfl, Nat.le_of_ble_eq_true rfl⟩ rfl (rest := []) rfl (Nat.le_of_ble_eq_true rfl) ⟨Nat.le_of_ble_eq_true rfl, Nat.le_of_ble_eq_true rfl⟩ (c_X9_trustOn x1 v1 h p2 ep2) ?_
  show mj_W mX9_gets (mj_FI p) 8 [(0, .ref v0), (1, .int v1), (2, .int v2), (3, .int v3)] [.int p2.1] p2.2 0 0
  refine mj_blk k_X9_ok 4 3 (pc' := 12) (l' := [(4, .int p2.1), (0, .ref v0), (1, .int v1), (2, .int v2), (3, .int v3)]) (st' := [.int (1 : Int32), .int v2]) rfl ?_
  refine mj_icmp_ne 7 34 rfl (by decide) (fun q => ?_) (fun q => ?_)
  · have hf := (if_neg q).symm.trans hf
    refine mj_blk k_X9_ok 19 2 (pc' := 38) (l' := [(4, .int p2.1), (0, .ref v0), (1, .int v1), (2, .int v2), (3, .int v3)]) (st' := [.int (20 : Int32), .int p2.1]) rfl ?_
    refine mj_icmp_ge 21 45 rfl (by decide) (fun q => ?_) (fun q => ?_)
    · have hf := (if_pos q).symm.trans hf
      refine mj_blk k_X9_ok 24 1 (pc' := 46) (l' := [(4, .int p2.1), (0, .ref v0), (1, .int v1), (2, .int v2), (3, .int v3)]) (st' := [.int (1 : Int32)]) rfl ?_
      obtain rfl := Option.some.inj hf
      exact mj_end (some (.int (1 : Int32))) ⟨mj_dec tok_X9_gets (a := 25) rfl, .int, rfl, rfl⟩ ⟨rfl, rfl⟩ (Nat.le_of_ble_eq_true rfl) (Nat.le_of_ble_eq_true rfl)
    · have hf := (if_neg q).symm.trans hf
      refine mj_blk k_X9_ok 22 2 (pc' := 46) (l' := [(4, .int p2.1), (0, .ref v0), (1, .int v1), (2, .int v2), (3, .int v3)]) (st' := [.int (3 : Int32)]) rfl ?_
      obtain rfl := Option.some.inj hf
      exact mj_end (some (.int (3 : Int32))) ⟨mj_dec tok_X9_gets (a := 25) rfl, .int, rfl, rfl⟩ ⟨rfl, rfl⟩ (Nat.le_of_ble_eq_true rfl) (Nat.le_of_ble_eq_true rfl)
  · have hf := (if_pos q).symm.trans hf
    refine mj_blk k_X9_ok 8 2 (pc' := 17) (l' := [(4, .int p2.1), (0, .ref v0), (1, .int v1), (2, .int v2), (3, .int v3)]) (st' := [.int (1 : Int32), .int v3]) rfl ?_
    refine mj_icmp_ne 10 30 rfl (by decide) (fun q => ?_) (fun q => ?_)
    · have hf := (if_neg q).symm.trans hf
      refine mj_blk k_X9_ok 17 2 (pc' := 46) (l' := [(4, .int p2.1), (0, .ref v0), (1, .int v1), (2, .int v2), (3, .int v3)]) (st' := [.int (4 : Int32)]) rfl ?_
      obtain rfl := Option.some.inj hf
      exact mj_end (some (.int (4 : Int32))) ⟨mj_dec tok_X9_gets (a := 25) rfl, .int, rfl, rfl⟩ ⟨rfl, rfl⟩ (Nat.le_of_ble_eq_true rfl) (Nat.le_of_ble_eq_true rfl)
    · have hf := (if_pos q).symm.trans hf
      refine mj_blk k_X9_ok 11 3 (pc' := 25) (l' := [(4, .int p2.1), (0, .ref v0), (1, .int v1), (2, .int v2), (3, .int v3)]) (st' := [.int (30 : Int32), .int p2.1, .int (2 : Int32)]) rfl ?_
      refine mj_idiv 14 rfl (by decide) ?_
      refine mj_blk k_X9_ok 15 2 (pc' := 46) (l' := [(4, .int p2.1), (0, .ref v0), (1, .int v1), (2, .int v2), (3, .int v3)]) (st' := [.int ((2 : Int32) - (p2.1 / (30 : Int32)))]) rfl ?_
      obtain rfl := Option.some.inj hf
      exact mj_end (some (.int ((2 : Int32) - (p2.1 / (30 : Int32))))) ⟨mj_dec tok_X9_gets (a := 25) rfl, .int, rfl, rfl⟩ ⟨rfl, rfl⟩ (Nat.le_of_ble_eq_true rfl) (Nat.le_of_ble_eq_true rfl)
def f_X9_boast_180 (K77 : Nat → Int32 → Int32 → Int32 → Int32 → Int32 → Int32 → mj_H → Option (Int32 × mj_H)) (v0 : Nat) (v1 : Int32) (v2 : Int32) (v3 : Int32) (v4 : Int32) (v6 : Int32) (s0 : Int32) (h : mj_H) : Option (Int32 × mj_H) := K77 v0 v1 v2 v3 v4 s0 (v6 + (-1 : Int32)) h
set_option maxHeartbeats 4000000 in
set_option maxRecDepth 100000 in
theorem w_X9_boast_180 (K77 : Nat → Int32 → Int32 → Int32 → Int32 → Int32 → Int32 → mj_H → Option (Int32 × mj_H)) (hK77 : ∀ (v0 : Nat) (v1 : Int32) (v2 : Int32) (v3 : Int32) (v4 : Int32) (v5 : Int32) (v6 : Int32)  (h : mj_H) (p : Int32 × mj_H), K77 v0 v1 v2 v3 v4 v5 v6 h = some p → mj_W mX9_boast (mj_FI p) 77 [(0, .ref v0), (1, .int v1), (2, .int v2), (3, .int v3), (4, .int v4), (5, .int v5), (6, .int v6)] [] h 0 0) (v0 : Nat) (v1 : Int32) (v2 : Int32) (v3 : Int32) (v4 : Int32) (v6 : Int32) (s0 : Int32) (h : mj_H) (p : Int32 × mj_H) (hf : f_X9_boast_180 K77 v0 v1 v2 v3 v4 v6 s0 h = some p) : mj_W mX9_boast (mj_FI p) 180 [(0, .ref v0), (1, .int v1), (2, .int v2), (3, .int v3), (4, .int v4), (6, .int v6)] [.int s0] h 0 0 := by
  unfold f_X9_boast_180 at hf
  refine mj_blk k_X9_ok 99 3 (pc' := 77) (l' := [(6, .int (v6 + (-1 : Int32))), (5, .int s0), (0, .ref v0), (1, .int v1), (2, .int v2), (3, .int v3), (4, .int v4)]) (st' := []) rfl ?_
  refine mj_locs [2, 3, 4, 5, 6, 1, 0] (l' := [(0, .ref v0), (1, .int v1), (2, .int v2), (3, .int v3), (4, .int v4), (5, .int s0), (6, .int (v6 + (-1 : Int32)))]) rfl ?_
  exact hK77 v0 v1 v2 v3 v4 s0 (v6 + (-1 : Int32)) h _ hf
def f_X9_boast_159 (K77 : Nat → Int32 → Int32 → Int32 → Int32 → Int32 → Int32 → mj_H → Option (Int32 × mj_H)) (v0 : Nat) (v1 : Int32) (v2 : Int32) (v3 : Int32) (v5 : Int32) (v6 : Int32) (v7 : Int32) (v8 : Int32) (v9 : Int32) (s0 : Int32) (s1 : Int32) (h : mj_H) : Option (Int32 × mj_H) := (if v9 = 0 then f_X9_boast_180 K77 v0 v1 v2 v3 (s0 + s1) v6 v5 h else f_X9_boast_180 K77 v0 v1 v2 v3 (s0 + s1) v6 (((10 : Int32) * v7) + v8) h)
set_option maxHeartbeats 4000000 in
set_option maxRecDepth 100000 in
theorem w_X9_boast_159 (K77 : Nat → Int32 → Int32 → Int32 → Int32 → Int32 → Int32 → mj_H → Option (Int32 × mj_H)) (hK77 : ∀ (v0 : Nat) (v1 : Int32) (v2 : Int32) (v3 : Int32) (v4 : Int32) (v5 : Int32) (v6 : Int32)  (h : mj_H) (p : Int32 × mj_H), K77 v0 v1 v2 v3 v4 v5 v6 h = some p → mj_W mX9_boast (mj_FI p) 77 [(0, .ref v0), (1, .int v1), (2, .int v2), (3, .int v3), (4, .int v4), (5, .int v5), (6, .int v6)] [] h 0 0) (v0 : Nat) (v1 : Int32) (v2 : Int32) (v3 : Int32) (v5 : Int32) (v6 : Int32) (v7 : Int32) (v8 : Int32) (v9 : Int32) (s0 : Int32) (s1 : Int32) (h : mj_H) (p : Int32 × mj_H) (hf : f_X9_boast_159 K77 v0 v1 v2 v3 v5 v6 v7 v8 v9 s0 s1 h = some p) : mj_W mX9_boast (mj_FI p) 159 [(0, .ref v0), (1, .int v1), (2, .int v2), (3, .int v3), (5, .int v5), (6, .int v6), (7, .int v7), (8, .int v8), (9, .int v9)] [.int s1, .int s0] h 0 0 := by
  unfold f_X9_boast_159 at hf
  refine mj_blk k_X9_ok 88 3 (pc' := 164) (l' := [(4, .int (s0 + s1)), (0, .ref v0), (1, .int v1), (2, .int v2), (3, .int v3), (5, .int v5), (6, .int v6), (7, .int v7), (8, .int v8), (9, .int v9)]) (st' := [.int v9]) rfl ?_
  refine mj_if_eq 91 178 rfl (by decide) (fun q => ?_) (fun q => ?_)
  · have hf := (if_pos q).symm.trans hf
    refine mj_blk k_X9_ok 98 1 (pc' := 180) (l' := [(4, .int (s0 + s1)), (0, .ref v0), (1, .int v1), (2, .int v2), (3, .int v3), (5, .int v5), (6, .int v6), (7, .int v7), (8, .int v8), (9, .int v9)]) (st' := [.int v5]) rfl ?_
    refine mj_locs [1, 2, 3, 4, 0, 6] (l' := [(0, .ref v0), (1, .int v1), (2, .int v2), (3, .int v3), (4, .int (s0 + s1)), (6, .int v6)]) rfl ?_
    exact w_X9_boast_180 K77 hK77 v0 v1 v2 v3 (s0 + s1) v6 v5 h _ hf
  · have hf := (if_neg q).symm.trans hf
    refine mj_blk k_X9_ok 92 6 (pc' := 180) (l' := [(4, .int (s0 + s1)), (0, .ref v0), (1, .int v1), (2, .int v2), (3, .int v3), (5, .int v5), (6, .int v6), (7, .int v7), (8, .int v8), (9, .int v9)]) (st' := [.int (((10 : Int32) * v7) + v8)]) rfl ?_
    refine mj_locs [1, 2, 3, 4, 0, 6] (l' := [(0, .ref v0), (1, .int v1), (2, .int v2), (3, .int v3), (4, .int (s0 + s1)), (6, .int v6)]) rfl ?_
    exact w_X9_boast_180 K77 hK77 v0 v1 v2 v3 (s0 + s1) v6 (((10 : Int32) * v7) + v8) h _ hf
def f_X9_boast_145 (K77 : Nat → Int32 → Int32 → Int32 → Int32 → Int32 → Int32 → mj_H → Option (Int32 × mj_H)) (v0 : Nat) (v1 : Int32) (v2 : Int32) (v3 : Int32) (v4 : Int32) (v5 : Int32) (v6 : Int32) (v7 : Int32) (v8 : Int32) (s0 : Int32) (h : mj_H) : Option (Int32 × mj_H) := (if s0 = 0 then f_X9_boast_159 K77 v0 v1 v2 v3 v5 v6 v7 v8 s0 v4 (0 : Int32) h else f_X9_boast_159 K77 v0 v1 v2 v3 v5 v6 v7 v8 s0 v4 (1 : Int32) h)
set_option maxHeartbeats 4000000 in
set_option maxRecDepth 100000 in
theorem w_X9_boast_145 (K77 : Nat → Int32 → Int32 → Int32 → Int32 → Int32 → Int32 → mj_H → Option (Int32 × mj_H)) (hK77 : ∀ (v0 : Nat) (v1 : Int32) (v2 : Int32) (v3 : Int32) (v4 : Int32) (v5 : Int32) (v6 : Int32)  (h : mj_H) (p : Int32 × mj_H), K77 v0 v1 v2 v3 v4 v5 v6 h = some p → mj_W mX9_boast (mj_FI p) 77 [(0, .ref v0), (1, .int v1), (2, .int v2), (3, .int v3), (4, .int v4), (5, .int v5), (6, .int v6)] [] h 0 0) (v0 : Nat) (v1 : Int32) (v2 : Int32) (v3 : Int32) (v4 : Int32) (v5 : Int32) (v6 : Int32) (v7 : Int32) (v8 : Int32) (s0 : Int32) (h : mj_H) (p : Int32 × mj_H) (hf : f_X9_boast_145 K77 v0 v1 v2 v3 v4 v5 v6 v7 v8 s0 h = some p) : mj_W mX9_boast (mj_FI p) 145 [(0, .ref v0), (1, .int v1), (2, .int v2), (3, .int v3), (4, .int v4), (5, .int v5), (6, .int v6), (7, .int v7), (8, .int v8)] [.int s0] h 0 0 := by
  unfold f_X9_boast_145 at hf
  refine mj_blk k_X9_ok 81 3 (pc' := 151) (l' := [(9, .int s0), (0, .ref v0), (1, .int v1), (2, .int v2), (3, .int v3), (4, .int v4), (5, .int v5), (6, .int v6), (7, .int v7), (8, .int v8)]) (st' := [.int s0, .int v4]) rfl ?_
  refine mj_if_eq 84 158 rfl (by decide) (fun q => ?_) (fun q => ?_)
  · have hf := (if_pos q).symm.trans hf
    refine mj_blk k_X9_ok 87 1 (pc' := 159) (l' := [(9, .int s0), (0, .ref v0), (1, .int v1), (2, .int v2), (3, .int v3), (4, .int v4), (5, .int v5), (6, .int v6), (7, .int v7), (8, .int v8)]) (st' := [.int (0 : Int32), .int v4]) rfl ?_
    refine mj_locs [1, 2, 3, 4, 6, 7, 8, 9, 0] (l' := [(0, .ref v0), (1, .int v1), (2, .int v2), (3, .int v3), (5, .int v5), (6, .int v6), (7, .int v7), (8, .int v8), (9, .int s0)]) rfl ?_
    exact w_X9_boast_159 K77 hK77 v0 v1 v2 v3 v5 v6 v7 v8 s0 v4 (0 : Int32) h _ hf
  · have hf := (if_neg q).symm.trans hf
    refine mj_blk k_X9_ok 85 2 (pc' := 159) (l' := [(9, .int s0), (0, .ref v0), (1, .int v1), (2, .int v2), (3, .int v3), (4, .int v4), (5, .int v5), (6, .int v6), (7, .int v7), (8, .int v8)]) (st' := [.int (1 : Int32), .int v4]) rfl ?_
    refine mj_locs [1, 2, 3, 4, 6, 7, 8, 9, 0] (l' := [(0, .ref v0), (1, .int v1), (2, .int v2), (3, .int v3), (5, .int v5), (6, .int v6), (7, .int v7), (8, .int v8), (9, .int s0)]) rfl ?_
    exact w_X9_boast_159 K77 hK77 v0 v1 v2 v3 v5 v6 v7 v8 s0 v4 (1 : Int32) h _ hf
def f_X9_boast_144 (K77 : Nat → Int32 → Int32 → Int32 → Int32 → Int32 → Int32 → mj_H → Option (Int32 × mj_H)) (v0 : Nat) (v1 : Int32) (v2 : Int32) (v3 : Int32) (v4 : Int32) (v5 : Int32) (v6 : Int32) (v7 : Int32) (v8 : Int32) (h : mj_H) : Option (Int32 × mj_H) := f_X9_boast_145 K77 v0 v1 v2 v3 v4 v5 v6 v7 v8 (0 : Int32) h
set_option maxHeartbeats 4000000 in
set_option maxRecDepth 100000 in
theorem w_X9_boast_144 (K77 : Nat → Int32 → Int32 → Int32 → Int32 → Int32 → Int32 → mj_H → Option (Int32 × mj_H)) (hK77 : ∀ (v0 : Nat) (v1 : Int32) (v2 : Int32) (v3 : Int32) (v4 : Int32) (v5 : Int32) (v6 : Int32)  (h : mj_H) (p : Int32 × mj_H), K77 v0 v1 v2 v3 v4 v5 v6 h = some p → mj_W mX9_boast (mj_FI p) 77 [(0, .ref v0), (1, .int v1), (2, .int v2), (3, .int v3), (4, .int v4), (5, .int v5), (6, .int v6)] [] h 0 0) (v0 : Nat) (v1 : Int32) (v2 : Int32) (v3 : Int32) (v4 : Int32) (v5 : Int32) (v6 : Int32) (v7 : Int32) (v8 : Int32) (h : mj_H) (p : Int32 × mj_H) (hf : f_X9_boast_144 K77 v0 v1 v2 v3 v4 v5 v6 v7 v8 h = some p) : mj_W mX9_boast (mj_FI p) 144 [(0, .ref v0), (1, .int v1), (2, .int v2), (3, .int v3), (4, .int v4), (5, .int v5), (6, .int v6), (7, .int v7), (8, .int v8)] [] h 0 0 := by
  unfold f_X9_boast_144 at hf
  refine mj_blk k_X9_ok 80 1 (pc' := 145) (l' := [(0, .ref v0), (1, .int v1), (2, .int v2), (3, .int v3), (4, .int v4), (5, .int v5), (6, .int v6), (7, .int v7), (8, .int v8)]) (st' := [.int (0 : Int32)]) rfl ?_
  exact w_X9_boast_145 K77 hK77 v0 v1 v2 v3 v4 v5 v6 v7 v8 (0 : Int32) h _ hf
def b_X9_boast_77 (K77 : Nat → Int32 → Int32 → Int32 → Int32 → Int32 → Int32 → mj_H → Option (Int32 × mj_H)) (v0 : Nat) (v1 : Int32) (v2 : Int32) (v3 : Int32) (v4 : Int32) (v5 : Int32) (v6 : Int32) (h : mj_H) : Option (Int32 × mj_H) := (if v6 < 0 then (if v3 = 0 then some (v4, h) else some (v5, h)) else (if mj_ob h v0 9 = true then (f_X9_gets v0 v1 (v6 / (2 : Int32)) (v6 - v6 / (2 : Int32) * (2 : Int32)) h).bind fun p1 => (if mj_ob p1.2 v0 9 = true then (f_X9_gets v0 v1 ((1 : Int32) - (v6 / (2 : Int32))) (v6 - v6 / (2 : Int32) * (2 : Int32)) p1.2).bind fun p2 => (if p1.1 < p2.1 then f_X9_boast_144 K77 v0 v1 v2 v3 v4 v5 v6 (v6 / (2 : Int32)) (v6 - v6 / (2 : Int32) * (2 : Int32)) p2.2 else (if mj_ob p2.2 v0 9 = true then (f_X9_gets v0 v2 (v6 - v6 / (2 : Int32) * (2 : Int32)) (v6 / (2 : Int32)) p2.2).bind fun p3 => (if mj_ob p3.2 v0 9 = true then (f_X9_gets v0 v2 ((1 : Int32) - (v6 - v6 / (2 : Int32) * (2 : Int32))) (v6 / (2 : Int32)) p3.2).bind fun p4 => (if p3.1 < p4.1 then f_X9_boast_144 K77 v0 v1 v2 v3 v4 v5 v6 (v6 / (2 : Int32)) (v6 - v6 / (2 : Int32) * (2 : Int32)) p4.2 else f_X9_boast_145 K77 v0 v1 v2 v3 v4 v5 v6 (v6 / (2 : Int32)) (v6 - v6 / (2 : Int32) * (2 : Int32)) (1 : Int32) p4.2) else none) else none)) else none) else none))
set_option maxHeartbeats 4000000 in
set_option maxRecDepth 100000 in
theorem wb_X9_boast_77 (K77 : Nat → Int32 → Int32 → Int32 → Int32 → Int32 → Int32 → mj_H → Option (Int32 × mj_H)) (hK77 : ∀ (v0 : Nat) (v1 : Int32) (v2 : Int32) (v3 : Int32) (v4 : Int32) (v5 : Int32) (v6 : Int32)  (h : mj_H) (p : Int32 × mj_H), K77 v0 v1 v2 v3 v4 v5 v6 h = some p → mj_W mX9_boast (mj_FI p) 77 [(0, .ref v0), (1, .int v1), (2, .int v2), (3, .int v3), (4, .int v4), (5, .int v5), (6, .int v6)] [] h 0 0) (v0 : Nat) (v1 : Int32) (v2 : Int32) (v3 : Int32) (v4 : Int32) (v5 : Int32) (v6 : Int32) (h : mj_H) (p : Int32 × mj_H) (hf : b_X9_boast_77  K77 v0 v1 v2 v3 v4 v5 v6 h = some p) : mj_W mX9_boast (mj_FI p) 77 [(0, .ref v0), (1, .int v1), (2, .int v2), (3, .int v3), (4, .int v4), (5, .int v5), (6, .int v6)] [] h 0 0 := by
  unfold b_X9_boast_77 at hf
  refine mj_blk k_X9_ok 42 1 (pc' := 79) (l' := [(0, .ref v0), (1, .int v1), (2, .int v2), (3, .int v3), (4, .int v4), (5, .int v5), (6, .int v6)]) (st' := [.int v6]) rfl ?_
  refine mj_if_lt 43 188 rfl (by decide) (fun q => ?_) (fun q => ?_)
  · have hf := (if_pos q).symm.trans hf
    refine mj_blk k_X9_ok 102 1 (pc' := 189) (l' := [(0, .ref v0), (1, .int v1), (2, .int v2), (3, .int v3), (4, .int v4), (5, .int v5), (6, .int v6)]) (st' := [.int v3]) rfl ?_
    refine mj_if_ne 103 197 rfl (by decide) (fun q => ?_) (fun q => ?_)
    · have hf := (if_neg q).symm.trans hf
      refine mj_blk k_X9_ok 106 1 (pc' := 199) (l' := [(0, .ref v0), (1, .int v1), (2, .int v2), (3, .int v3), (4, .int v4), (5, .int v5), (6, .int v6)]) (st' := [.int v5]) rfl ?_
      obtain rfl := Option.some.inj hf
      exact mj_end (some (.int v5)) ⟨mj_dec tok_X9_boast (a := 107) rfl, .int, rfl, rfl⟩ ⟨rfl, rfl⟩ (Nat.le_of_ble_eq_true rfl) (Nat.le_of_ble_eq_true rfl)
    · have hf := (if_pos q).symm.trans hf
      refine mj_blk k_X9_ok 104 2 (pc' := 199) (l' := [(0, .ref v0), (1, .int v1), (2, .int v2), (3, .int v3), (4, .int v4), (5, .int v5), (6, .int v6)]) (st' := [.int v4]) rfl ?_
      obtain rfl := Option.some.inj hf
      exact mj_end (some (.int v4)) ⟨mj_dec tok_X9_boast (a := 107) rfl, .int, rfl, rfl⟩ ⟨rfl, rfl⟩ (Nat.le_of_ble_eq_true rfl) (Nat.le_of_ble_eq_true rfl)
  · have hf := (if_neg q).symm.trans hf
    refine mj_blk k_X9_ok 44 2 (pc' := 85) (l' := [(0, .ref v0), (1, .int v1), (2, .int v2), (3, .int v3), (4, .int v4), (5, .int v5), (6, .int v6)]) (st' := [.int (2 : Int32), .int v6]) rfl ?_
    refine mj_idiv 46 rfl (by decide) ?_
    refine mj_blk k_X9_ok 47 3 (pc' := 91) (l' := [(7, .int (v6 / (2 : Int32))), (0, .ref v0), (1, .int v1), (2, .int v2), (3, .int v3), (4, .int v4), (5, .int v5), (6, .int v6)]) (st' := [.int (2 : Int32), .int v6]) rfl ?_
    refine mj_irem 50 rfl (by decide) ?_
    refine mj_blk k_X9_ok 51 5 (pc' := 100) (l' := [(8, .int (v6 - v6 / (2 : Int32) * (2 : Int32))), (7, .int (v6 / (2 : Int32))), (0, .ref v0), (1, .int v1), (2, .int v2), (3, .int v3), (4, .int v4), (5, .int v5), (6, .int v6)]) (st' := [.int (v6 - v6 / (2 : Int32) * (2 : Int32)), .int (v6 / (2 : Int32)), .int v1, .ref v0]) rfl ?_
    obtain ⟨gp1, hf⟩ := mj_gd hf
    obtain ⟨p1, ep1, hf⟩ := mj_bd hf
    refine mj_callV (T := TX9) (N := 20) (ci := 9) mX9_gets [.int v1, .int (v6 / (2 : Int32)), .int (v6 - v6 / (2 : Int32) * (2 : Int32))] 56 rfl ll_X9_263 lb_X9_gets li_X9_gets ⟨Nat.le_of_ble_eq_true rfl, Nat.le_of_ble_eq_true rfl⟩ rfl gp1 rfl (rest := []) rfl (Nat.le_of_ble_eq_true rfl) ⟨Nat.le_of_ble_eq_true rfl, Nat.le_of_ble_eq_true rfl⟩ (c_X9_gets v0 v1 (v6 / (2 : Int32)) (v6 - v6 / (2 : Int32) * (2 : Int32)) h p1 ep1) ?_
    show mj_W mX9_boast (mj_FI p) 103 [(8, .int (v6 - v6 / (2 : Int32) * (2 : Int32))), (7, .int (v6 / (2 : Int32))), (0, .ref v0), (1, .int v1), (2, .int v2), (3, .int v3), (4, .int v4), (5, .int v5), (6, .int v6)] [.int p1.1] p1.2 0 0
    refine mj_blk k_X9_ok 57 6 (pc' := 111) (l' := [(8, .int (v6 - v6 / (2 : Int32) * (2 : Int32))), (7, .int (v6 / (2 : Int32))), (0, .ref v0), (1, .int v1), (2, .int v2), (3, .int v3), (4, .int v4), (5, .int v5), (6, .int v6)]) (st' := [.int (v6 - v6 / (2 : Int32) * (2 : Int32)), .int ((1 : Int32) - (v6 / (2 : Int32))), .int v1, .ref v0, .int p1.1]) rfl ?_
    obtain ⟨gp2, hf⟩ := mj_gd hf
    obtain ⟨p2, ep2, hf⟩ := mj_bd hf
    refine mj_callV (T := TX9) (N := 20) (ci := 9) mX9_gets [.int v1, .int ((1 : Int32) - (v6 / (2 : Int32))), .int (v6 - v6 / (2 : Int32) * (2 : Int32))] 63 rfl ll_X9_263 lb_X9_gets li_X9_gets ⟨Nat.le_of_ble_eq_true rfl, Nat.le_of_ble_eq_true rfl⟩ rfl gp2 rfl (rest := [.int p1.1]) rfl (Nat.le_of_ble_eq_true rfl) ⟨Nat.le_of_ble_eq_true rfl, Nat.le_of_ble_eq_true rfl⟩ (c_X9_gets v0 v1 ((1 : Int32) - (v6 / (2 : Int32))) (v6 - v6 / (2 : Int32) * (2 : Int32)) p1.2 p2 ep2) ?_
    show mj_W mX9_boast (mj_FI p) 114 [(8, .int (v6 - v6 / (2 : Int32) * (2 : Int32))), (7, .int (v6 / (2 : Int32))), (0, .ref v0), (1, .int v1), (2, .int v2), (3, .int v3), (4, .int v4), (5, .int v5), (6, .int v6)] [.int p2.1, .int p1.1] p2.2 0 0
    refine mj_icmp_lt 64 144 rfl (by decide) (fun q => ?_) (fun q => ?_)
    · have hf := (if_pos q).symm.trans hf
      refine mj_locs [2, 3, 4, 5, 6, 7, 8, 1, 0] (l' := [(0, .ref v0), (1, .int v1), (2, .int v2), (3, .int v3), (4, .int v4), (5, .int v5), (6, .int v6), (7, .int (v6 / (2 : Int32))), (8, .int (v6 - v6 / (2 : Int32) * (2 : Int32)))]) rfl ?_
      exact w_X9_boast_144 K77 hK77 v0 v1 v2 v3 v4 v5 v6 (v6 / (2 : Int32)) (v6 - v6 / (2 : Int32) * (2 : Int32)) p2.2 _ hf
    · have hf := (if_neg q).symm.trans hf
      refine mj_blk k_X9_ok 65 4 (pc' := 123) (l' := [(8, .int (v6 - v6 / (2 : Int32) * (2 : Int32))), (7, .int (v6 / (2 : Int32))), (0, .ref v0), (1, .int v1), (2, .int v2), (3, .int v3), (4, .int v4), (5, .int v5), (6, .int v6)]) (st' := [.int (v6 / (2 : Int32)), .int (v6 - v6 / (2 : Int32) * (2 : Int32)), .int v2, .ref v0]) rfl ?_
      obtain ⟨gp3, hf⟩ := mj_gd hf
      obtain ⟨p3, ep3, hf⟩ := mj_bd hf
      refine mj_callV (T := TX9) (N := 20) (ci := 9) mX9_gets [.int v2, .int (v6 - v6 / (2 : Int32) * (2 : Int32)), .int (v6 / (2 : Int32))] 69 rfl ll_X9_263 lb_X9_gets li_X9_gets ⟨Nat.le_of_ble_eq_true rfl, Nat.le_of_ble_eq_true rfl⟩ rfl gp3 rfl (rest := []) rfl (Nat.le_of_ble_eq_true rfl) ⟨Nat.le_of_ble_eq_true rfl, Nat.le_of_ble_eq_true rfl⟩ (c_X9_gets v0 v2 (v6 - v6 / (2 : Int32) * (2 : Int32)) (v6 / (2 : Int32)) p2.2 p3 ep3) ?_
      show mj_W mX9_boast (mj_FI p) 126 [(8, .int (v6 - v6 / (2 : Int32) * (2 : Int32))), (7, .int (v6 / (2 : Int32))), (0, .ref v0), (1, .int v1), (2, .int v2), (3, .int v3), (4, .int v4), (5, .int v5), (6, .int v6)] [.int p3.1] p3.2 0 0
      refine mj_blk k_X9_ok 70 6 (pc' := 134) (l' := [(8, .int (v6 - v6 / (2 : Int32) * (2 : Int32))), (7, .int (v6 / (2 : Int32))), (0, .ref v0), (1, .int v1), (2, .int v2), (3, .int v3), (4, .int v4), (5, .int v5), (6, .int v6)]) (st' := [.int (v6 / (2 : Int32)), .int ((1 : Int32) - (v6 - v6 / (2 : Int32) * (2 : Int32))), .int v2, .ref v0, .int p3.1]) rfl ?_
      obtain ⟨gp4, hf⟩ := mj_gd hf
      obtain ⟨p4, ep4, hf⟩ := mj_bd hf
      refine mj_callV (T := TX9) (N := 20) (ci := 9) mX9_gets [.int v2, .int ((1 : Int32) - (v6 - v6 / (2 : Int32) * (2 : Int32))), .int (v6 / (2 : Int32))] 76 rfl ll_X9_263 lb_X9_gets li_X9_gets ⟨Nat.le_of_ble_eq_true rfl, Nat.le_of_ble_eq_true rfl⟩ rfl gp4 rfl (rest := [.int p3.1]) rfl (Nat.le_of_ble_eq_true rfl) ⟨Nat.le_of_ble_eq_true rfl, Nat.le_of_ble_eq_true rfl⟩ (c_X9_gets v0 v2 ((1 : Int32) - (v6 - v6 / (2 : Int32) * (2 : Int32))) (v6 / (2 : Int32)) p3.2 p4 ep4) ?_
      show mj_W mX9_boast (mj_FI p) 137 [(8, .int (v6 - v6 / (2 : Int32) * (2 : Int32))), (7, .int (v6 / (2 : Int32))), (0, .ref v0), (1, .int v1), (2, .int v2), (3, .int v3), (4, .int v4), (5, .int v5), (6, .int v6)] [.int p4.1, .int p3.1] p4.2 0 0
      refine mj_icmp_lt 77 144 rfl (by decide) (fun q => ?_) (fun q => ?_)
      · have hf := (if_pos q).symm.trans hf
        refine mj_locs [2, 3, 4, 5, 6, 7, 8, 1, 0] (l' := [(0, .ref v0), (1, .int v1), (2, .int v2), (3, .int v3), (4, .int v4), (5, .int v5), (6, .int v6), (7, .int (v6 / (2 : Int32))), (8, .int (v6 - v6 / (2 : Int32) * (2 : Int32)))]) rfl ?_
        exact w_X9_boast_144 K77 hK77 v0 v1 v2 v3 v4 v5 v6 (v6 / (2 : Int32)) (v6 - v6 / (2 : Int32) * (2 : Int32)) p4.2 _ hf
      · have hf := (if_neg q).symm.trans hf
        refine mj_blk k_X9_ok 78 2 (pc' := 145) (l' := [(8, .int (v6 - v6 / (2 : Int32) * (2 : Int32))), (7, .int (v6 / (2 : Int32))), (0, .ref v0), (1, .int v1), (2, .int v2), (3, .int v3), (4, .int v4), (5, .int v5), (6, .int v6)]) (st' := [.int (1 : Int32)]) rfl ?_
        refine mj_locs [2, 3, 4, 5, 6, 7, 8, 1, 0] (l' := [(0, .ref v0), (1, .int v1), (2, .int v2), (3, .int v3), (4, .int v4), (5, .int v5), (6, .int v6), (7, .int (v6 / (2 : Int32))), (8, .int (v6 - v6 / (2 : Int32) * (2 : Int32)))]) rfl ?_
        exact w_X9_boast_145 K77 hK77 v0 v1 v2 v3 v4 v5 v6 (v6 / (2 : Int32)) (v6 - v6 / (2 : Int32) * (2 : Int32)) (1 : Int32) p4.2 _ hf
def f_X9_boast_77 (v0 : Nat) (v1 : Int32) (v2 : Int32) (v3 : Int32) (v4 : Int32) (v5 : Int32) (v6 : Int32) (h : mj_H) : Option (Int32 × mj_H) := mj_fix (fun (K77 : (Nat × Int32 × Int32 × Int32 × Int32 × Int32 × Int32 × mj_H) → Option (Int32 × mj_H)) (s : Nat × Int32 × Int32 × Int32 × Int32 × Int32 × Int32 × mj_H) => b_X9_boast_77  (fun v0 v1 v2 v3 v4 v5 v6 h => K77 (v0, v1, v2, v3, v4, v5, v6, h)) s.1 s.2.1 s.2.2.1 s.2.2.2.1 s.2.2.2.2.1 s.2.2.2.2.2.1 s.2.2.2.2.2.2.1 s.2.2.2.2.2.2.2) 1000 (v0, v1, v2, v3, v4, v5, v6, h)
set_option maxHeartbeats 4000000 in
set_option maxRecDepth 100000 in
theorem w_X9_boast_77 (v0 : Nat) (v1 : Int32) (v2 : Int32) (v3 : Int32) (v4 : Int32) (v5 : Int32) (v6 : Int32) (h : mj_H) (p : Int32 × mj_H) (hf : f_X9_boast_77  v0 v1 v2 v3 v4 v5 v6 h = some p) : mj_W mX9_boast (mj_FI p) 77 [(0, .ref v0), (1, .int v1), (2, .int v2), (3, .int v3), (4, .int v4), (5, .int v5), (6, .int v6)] [] h 0 0 := by
  unfold f_X9_boast_77 at hf
  exact mj_fix_ind (F := (fun (K77 : (Nat × Int32 × Int32 × Int32 × Int32 × Int32 × Int32 × mj_H) → Option (Int32 × mj_H)) (s : Nat × Int32 × Int32 × Int32 × Int32 × Int32 × Int32 × mj_H) => b_X9_boast_77  (fun v0 v1 v2 v3 v4 v5 v6 h => K77 (v0, v1, v2, v3, v4, v5, v6, h)) s.1 s.2.1 s.2.2.1 s.2.2.2.1 s.2.2.2.2.1 s.2.2.2.2.2.1 s.2.2.2.2.2.2.1 s.2.2.2.2.2.2.2)) (P := fun s p => mj_W mX9_boast (mj_FI p) 77 [(0, .ref s.1), (1, .int s.2.1), (2, .int s.2.2.1), (3, .int s.2.2.2.1), (4, .int s.2.2.2.2.1), (5, .int s.2.2.2.2.2.1), (6, .int s.2.2.2.2.2.2.1)] [] s.2.2.2.2.2.2.2 0 0) (fun K77 hK77 s p hf => wb_X9_boast_77   (fun v0 v1 v2 v3 v4 v5 v6 h => K77 (v0, v1, v2, v3, v4, v5, v6, h)) (fun v0 v1 v2 v3 v4 v5 v6 h p e => hK77 (v0, v1, v2, v3, v4, v5, v6, h) p e) s.1 s.2.1 s.2.2.1 s.2.2.2.1 s.2.2.2.2.1 s.2.2.2.2.2.1 s.2.2.2.2.2.2.1 s.2.2.2.2.2.2.2 p hf) 1000 (v0, v1, v2, v3, v4, v5, v6, h) p hf
def f_X9_boast_61 (v0 : Nat) (h : mj_H) : Option (Int32 × mj_H) := (if mj_ob h v0 9 = true then (f_X9_no v0 (-3 : Int32) h).bind fun p5 => some (p5.1, p5.2) else none)
set_option maxHeartbeats 4000000 in
set_option maxRecDepth 100000 in
theorem w_X9_boast_61 (v0 : Nat) (h : mj_H) (p : Int32 × mj_H) (hf : f_X9_boast_61  v0 h = some p) : mj_W mX9_boast (mj_FI p) 61 [(0, .ref v0)] [] h 0 0 := by
  unfold f_X9_boast_61 at hf
  refine mj_blk k_X9_ok 32 2 (pc' := 64) (l' := [(0, .ref v0)]) (st' := [.int (-3 : Int32), .ref v0]) rfl ?_
  obtain ⟨gp5, hf⟩ := mj_gd hf
  obtain ⟨p5, ep5, hf⟩ := mj_bd hf
  refine mj_callV (T := TX9) (N := 20) (ci := 9) mX9_no [.int (-3 : Int32)] 34 rfl ll_X9_191 lb_X9_no li_X9_no ⟨Nat.le_of_ble_eq_true rfl, Nat.le_of_ble_eq_true rfl⟩ rfl gp5 rfl (rest := []) rfl (Nat.le_of_ble_eq_true rfl) ⟨Nat.le_of_ble_eq_true rfl, Nat.le_of_ble_eq_true rfl⟩ (c_X9_no v0 (-3 : Int32) h p5 ep5) ?_
  show mj_W mX9_boast (mj_FI p) 67 [(0, .ref v0)] [.int p5.1] p5.2 0 0
  obtain rfl := Option.some.inj hf
  exact mj_end (some (.int p5.1)) ⟨mj_dec tok_X9_boast (a := 35) rfl, .int, rfl, rfl⟩ ⟨rfl, rfl⟩ (Nat.le_of_ble_eq_true rfl) (Nat.le_of_ble_eq_true rfl)
def f_X9_boast_28 (v0 : Nat) (h : mj_H) : Option (Int32 × mj_H) := (if mj_ob h v0 9 = true then (f_X9_bad v0 (-2 : Int32) h).bind fun p6 => some (p6.1, p6.2) else none)
set_option maxHeartbeats 4000000 in
set_option maxRecDepth 100000 in
theorem w_X9_boast_28 (v0 : Nat) (h : mj_H) (p : Int32 × mj_H) (hf : f_X9_boast_28  v0 h = some p) : mj_W mX9_boast (mj_FI p) 28 [(0, .ref v0)] [] h 0 0 := by
  unfold f_X9_boast_28 at hf
  refine mj_blk k_X9_ok 14 2 (pc' := 31) (l' := [(0, .ref v0)]) (st' := [.int (-2 : Int32), .ref v0]) rfl ?_
  obtain ⟨gp6, hf⟩ := mj_gd hf
  obtain ⟨p6, ep6, hf⟩ := mj_bd hf
  refine mj_callV (T := TX9) (N := 20) (ci := 9) mX9_bad [.int (-2 : Int32)] 16 rfl ll_X9_75 lb_X9_bad li_X9_bad ⟨Nat.le_of_ble_eq_true rfl, Nat.le_of_ble_eq_true rfl⟩ rfl gp6 rfl (rest := []) rfl (Nat.le_of_ble_eq_true rfl) ⟨Nat.le_of_ble_eq_true rfl, Nat.le_of_ble_eq_true rfl⟩ (c_X9_bad v0 (-2 : Int32) h p6 ep6) ?_
  show mj_W mX9_boast (mj_FI p) 34 [(0, .ref v0)] [.int p6.1] p6.2 0 0
  obtain rfl := Option.some.inj hf
  exact mj_end (some (.int p6.1)) ⟨mj_dec tok_X9_boast (a := 17) rfl, .int, rfl, rfl⟩ ⟨rfl, rfl⟩ (Nat.le_of_ble_eq_true rfl) (Nat.le_of_ble_eq_true rfl)
def f_X9_boast (v0 : Nat) (v1 : Int32) (v2 : Int32) (v3 : Int32) (h : mj_H) : Option (Int32 × mj_H) := (if mj_ob h v0 9 = true then (f_X9_isMan v0 v1 h).bind fun p7 => (if p7.1 = 0 then f_X9_boast_28 v0 p7.2 else (if mj_ob p7.2 v0 9 = true then (f_X9_isMan v0 v2 p7.2).bind fun p8 => (if p8.1 = 0 then f_X9_boast_28 v0 p8.2 else (if v1 = v2 then f_X9_boast_28 v0 p8.2 else (f_X9_isTwo v3 p8.2).bind fun p9 => (if p9.1 = 0 then f_X9_boast_28 v0 p9.2 else (mj_gR p9.2 v0 9 0).bind fun x10 => (mj_aI p9.2 x10 (2 : Int32)).bind fun x11 => (f_X9_has x11 v1 p9.2).bind fun p12 => (if p12.1 = 0 then f_X9_boast_61 v0 p12.2 else (mj_gR p12.2 v0 9 0).bind fun x13 => (mj_aI p12.2 x13 (2 : Int32)).bind fun x14 => (f_X9_has x14 v2 p12.2).bind fun p15 => (if p15.1 = 0 then f_X9_boast_61 v0 p15.2 else f_X9_boast_77 v0 v1 v2 v3 (0 : Int32) (-1 : Int32) (3 : Int32) p15.2))))) else none)) else none)
set_option maxHeartbeats 4000000 in
set_option maxRecDepth 100000 in
theorem c_X9_boast (v0 : Nat) (v1 : Int32) (v2 : Int32) (v3 : Int32) (h : mj_H) (p : Int32 × mj_H) (hf : f_X9_boast v0 v1 v2 v3 h = some p) : mj_Met mX9_boast [.ref v0, .int v1, .int v2, .int v3] h (some (.int p.1)) p.2 := by
  refine mj_met pl_X9 tok_X9_boast (Nat.le_of_ble_eq_true rfl) ?_
  show mj_W mX9_boast (mj_FI p) 0 [(0, .ref v0), (1, .int v1), (2, .int v2), (3, .int v3)] [] h 0 0
  unfold f_X9_boast at hf
  refine mj_blk k_X9_ok 0 2 (pc' := 2) (l' := [(0, .ref v0), (1, .int v1), (2, .int v2), (3, .int v3)]) (st' := [.int v1, .ref v0]) rfl ?_
  obtain ⟨gp7, hf⟩ := mj_gd hf
  obtain ⟨p7, ep7, hf⟩ := mj_bd hf
  refine mj_callV (T := TX9) (N := 20) (ci := 9) mX9_isMan [.int v1] 2 rfl ll_X9_63 lb_X9_isMan li_X9_isMan ⟨Nat.le_of_ble_eq_true rfl, Nat.le_of_ble_eq_true rfl⟩ rfl gp7 rfl (rest := []) rfl (Nat.le_of_ble_eq_true rfl) ⟨Nat.le_of_ble_eq_true rfl, Nat.le_of_ble_eq_true rfl⟩ (c_X9_isMan v0 v1 h p7 ep7) ?_
  show mj_W mX9_boast (mj_FI p) 5 [(0, .ref v0), (1, .int v1), (2, .int v2), (3, .int v3)] [.int p7.1] p7.2 0 0
  refine mj_if_eq 3 28 rfl (by decide) (fun q => ?_) (fun q => ?_)
  · have hf := (if_pos q).symm.trans hf
    refine mj_locs [0] (l' := [(0, .ref v0)]) rfl ?_
    exact w_X9_boast_28 v0 p7.2 _ hf
  · have hf := (if_neg q).symm.trans hf
    refine mj_blk k_X9_ok 4 2 (pc' := 10) (l' := [(0, .ref v0), (1, .int v1), (2, .int v2), (3, .int v3)]) (st' := [.int v2, .ref v0]) rfl ?_
    obtain ⟨gp8, hf⟩ := mj_gd hf
    obtain ⟨p8, ep8, hf⟩ := mj_bd hf
    refine mj_callV (T := TX9) (N := 20) (ci := 9) mX9_isMan [.int v2] 6 rfl ll_X9_63 lb_X9_isMan li_X9_isMan ⟨Nat.le_of_ble_eq_true rfl, Nat.le_of_ble_eq_true rfl⟩ rfl gp8 rfl (rest := []) rfl (Nat.le_of_ble_eq_true rfl) ⟨Nat.le_of_ble_eq_true rfl, Nat.le_of_ble_eq_true rfl⟩ (c_X9_isMan v0 v2 p7.2 p8 ep8) ?_
    show mj_W mX9_boast (mj_FI p) 13 [(0, .ref v0), (1, .int v1), (2, .int v2), (3, .int v3)] [.int p8.1] p8.2 0 0
    refine mj_if_eq 7 28 rfl (by decide) (fun q => ?_) (fun q => ?_)
    · have hf := (if_pos q).symm.trans hf
      refine mj_locs [0] (l' := [(0, .ref v0)]) rfl ?_
      exact w_X9_boast_28 v0 p8.2 _ hf
    · have hf := (if_neg q).symm.trans hf
      refine mj_blk k_X9_ok 8 2 (pc' := 18) (l' := [(0, .ref v0), (1, .int v1), (2, .int v2), (3, .int v3)]) (st' := [.int v2, .int v1]) rfl ?_
      refine mj_icmp_eq 10 28 rfl (by decide) (fun q => ?_) (fun q => ?_)
      · have hf := (if_pos q).symm.trans hf
        refine mj_locs [0] (l' := [(0, .ref v0)]) rfl ?_
        exact w_X9_boast_28 v0 p8.2 _ hf
      · have hf := (if_neg q).symm.trans hf
        refine mj_blk k_X9_ok 11 1 (pc' := 22) (l' := [(0, .ref v0), (1, .int v1), (2, .int v2), (3, .int v3)]) (st' := [.int v3]) rfl ?_
        obtain ⟨p9, ep9, hf⟩ := mj_bd hf
        refine mj_callS mX9_isTwo [.int v3] 12 rfl ll_X9_256 lb_X9_isTwo li_X9_isTwo ⟨Nat.le_of_ble_eq_true rfl, Nat.le_of_ble_eq_true rfl⟩ rfl (rest := []) rfl (Nat.le_of_ble_eq_true rfl) ⟨Nat.le_of_ble_eq_true rfl, Nat.le_of_ble_eq_true rfl⟩ (c_X9_isTwo v3 p8.2 p9 ep9) ?_
        show mj_W mX9_boast (mj_FI p) 25 [(0, .ref v0), (1, .int v1), (2, .int v2), (3, .int v3)] [.int p9.1] p9.2 0 0
        refine mj_if_ne 13 35 rfl (by decide) (fun q => ?_) (fun q => ?_)
        · have hf := (if_neg q).symm.trans hf
          refine mj_blk k_X9_ok 18 1 (pc' := 36) (l' := [(0, .ref v0), (1, .int v1), (2, .int v2), (3, .int v3)]) (st' := [.ref v0]) rfl ?_
          obtain ⟨x10, ex10, hf⟩ := mj_bd hf
          refine mj_get 19 rfl fl_X9_7 (mj_gR_V ex10) ?_
          refine mj_blk k_X9_ok 20 1 (pc' := 40) (l' := [(0, .ref v0), (1, .int v1), (2, .int v2), (3, .int v3)]) (st' := [.int (2 : Int32), .ref x10]) rfl ?_
          obtain ⟨x11, ex11, hf⟩ := mj_bd hf
          refine mj_iald 21 rfl ex11 ?_
          refine mj_blk k_X9_ok 22 1 (pc' := 42) (l' := [(0, .ref v0), (1, .int v1), (2, .int v2), (3, .int v3)]) (st' := [.int v1, .int x11]) rfl ?_
          obtain ⟨p12, ep12, hf⟩ := mj_bd hf
          refine mj_callS mX9_has [.int x11, .int v1] 23 rfl ll_X9_69 lb_X9_has li_X9_has ⟨Nat.le_of_ble_eq_true rfl, Nat.le_of_ble_eq_true rfl⟩ rfl (rest := []) rfl (Nat.le_of_ble_eq_true rfl) ⟨Nat.le_of_ble_eq_true rfl, Nat.le_of_ble_eq_true rfl⟩ (c_X9_has x11 v1 p9.2 p12 ep12) ?_
          show mj_W mX9_boast (mj_FI p) 45 [(0, .ref v0), (1, .int v1), (2, .int v2), (3, .int v3)] [.int p12.1] p12.2 0 0
          refine mj_if_eq 24 61 rfl (by decide) (fun q => ?_) (fun q => ?_)
          · have hf := (if_pos q).symm.trans hf
            refine mj_locs [0] (l' := [(0, .ref v0)]) rfl ?_
            exact w_X9_boast_61 v0 p12.2 _ hf
          · have hf := (if_neg q).symm.trans hf
            refine mj_blk k_X9_ok 25 1 (pc' := 49) (l' := [(0, .ref v0), (1, .int v1), (2, .int v2), (3, .int v3)]) (st' := [.ref v0]) rfl ?_
            obtain ⟨x13, ex13, hf⟩ := mj_bd hf
            refine mj_get 26 rfl fl_X9_7 (mj_gR_V ex13) ?_
            refine mj_blk k_X9_ok 27 1 (pc' := 53) (l' := [(0, .ref v0), (1, .int v1), (2, .int v2), (3, .int v3)]) (st' := [.int (2 : Int32), .ref x13]) rfl ?_
            obtain ⟨x14, ex14, hf⟩ := mj_bd hf
            refine mj_iald 28 rfl ex14 ?_
            refine mj_blk k_X9_ok 29 1 (pc' := 55) (l' := [(0, .ref v0), (1, .int v1), (2, .int v2), (3, .int v3)]) (st' := [.int v2, .int x14]) rfl ?_
            obtain ⟨p15, ep15, hf⟩ := mj_bd hf
            refine mj_callS mX9_has [.int x14, .int v2] 30 rfl ll_X9_69 lb_X9_has li_X9_has ⟨Nat.le_of_ble_eq_true rfl, Nat.le_of_ble_eq_true rfl⟩ rfl (rest := []) rfl (Nat.le_of_ble_eq_true rfl) ⟨Nat.le_of_ble_eq_true rfl, Nat.le_of_ble_eq_true rfl⟩ (c_X9_has x14 v2 p12.2 p15 ep15) ?_
            show mj_W mX9_boast (mj_FI p) 58 [(0, .ref v0), (1, .int v1), (2, .int v2), (3, .int v3)] [.int p15.1] p15.2 0 0
            refine mj_if_ne 31 68 rfl (by decide) (fun q => ?_) (fun q => ?_)
            · have hf := (if_neg q).symm.trans hf
              refine mj_blk k_X9_ok 36 6 (pc' := 77) (l' := [(6, .int (3 : Int32)), (5, .int (-1 : Int32)), (4, .int (0 : Int32)), (0, .ref v0), (1, .int v1), (2, .int v2), (3, .int v3)]) (st' := []) rfl ?_
              refine mj_locs [3, 4, 5, 6, 2, 1, 0] (l' := [(0, .ref v0), (1, .int v1), (2, .int v2), (3, .int v3), (4, .int (0 : Int32)), (5, .int (-1 : Int32)), (6, .int (3 : Int32))]) rfl ?_
              exact w_X9_boast_77 v0 v1 v2 v3 (0 : Int32) (-1 : Int32) (3 : Int32) p15.2 _ hf
            · have hf := (if_pos q).symm.trans hf
              refine mj_locs [0] (l' := [(0, .ref v0)]) rfl ?_
              exact w_X9_boast_61 v0 p15.2 _ hf
        · have hf := (if_pos q).symm.trans hf
          refine mj_locs [0] (l' := [(0, .ref v0)]) rfl ?_
          exact w_X9_boast_28 v0 p9.2 _ hf
