/-! printed by wip/whole/gen.py: X8_again, X8_drawn, X8_part, X8_imageAt, X8_image, X8_from, X8_status, X8_howMany, X8_count, X8_digest, X9_clean, X9_init, X9_in, X9_isTwo, X9_tell, X9_bad, X9_no -/
def f_X8_again (v0 : Nat) (v1 : Int32) (h : mj_H) : Option (Int32 × mj_H) := (mj_gR h v0 8 0).bind fun x1 => (if mj_ob h x1 0 = true then (f_X0_has x1 v1 h).bind fun p2 => (if p2.1 = 0 then (if mj_ob p2.2 v0 8 = true then (f_X8_refused v0 (-2 : Int32) p2.2).bind fun p12 => some (p12.1, p12.2) else none) else (mj_gR p2.2 v0 8 6).bind fun x3 => (mj_gR p2.2 v0 8 0).bind fun x4 => (if mj_ob p2.2 x3 5 = true then (f_X5_load x3 x4 v1 p2.2).bind fun p5 => (mj_gR p5 v0 8 6).bind fun x6 => (mj_gR p5 v0 8 0).bind fun x7 => (if mj_ob p5 x7 0 = true then (f_X0_knows x7 v1 p5).bind fun p8 => (if mj_ob p8.2 x6 5 = true then (f_X5_weigh x6 (0 : Int32) (1 : Int32) p8.1 p8.2).bind fun p9 => (mj_gR p9 v0 8 6).bind fun x10 => (if mj_ob p9 x10 5 = true then (f_X5_chance x10 (0 : Int32) (1 : Int32) p9).bind fun p11 => some (p11.1, p11.2) else none) else none) else none) else none)) else none)
set_option maxHeartbeats 4000000 in
set_option maxRecDepth 100000 in
theorem c_X8_again (v0 : Nat) (v1 : Int32) (h : mj_H) (p : Int32 × mj_H) (hf : f_X8_again v0 v1 h = some p) : mj_Met mX8_again [.ref v0, .int v1] h (some (.int p.1)) p.2 := by
  refine mj_met pl_X8 tok_X8_again (Nat.le_of_ble_eq_true rfl) ?_
  show mj_W mX8_again (mj_FI p) 0 [(0, .ref v0), (1, .int v1)] [] h 0 0
  unfold f_X8_again at hf
  refine mj_blk k_X8_ok 0 1 (pc' := 1) (l' := [(0, .ref v0), (1, .int v1)]) (st' := [.ref v0]) rfl ?_
  obtain ⟨x1, ex1, hf⟩ := mj_bd hf
  refine mj_get 1 rfl fl_X8_10 (mj_gR_V ex1) ?_
  refine mj_blk k_X8_ok 2 1 (pc' := 5) (l' := [(0, .ref v0), (1, .int v1)]) (st' := [.int v1, .ref x1]) rfl ?_
  obtain ⟨gp2, hf⟩ := mj_gd hf
  obtain ⟨p2, ep2, hf⟩ := mj_bd hf
  refine mj_callV (T := TX0) (N := 7) (ci := 0) mX0_has [.int v1] 3 rfl ll_X8_129 lb_X0_has li_X0_has ⟨Nat.le_of_ble_eq_true rfl, Nat.le_of_ble_eq_true rfl⟩ rfl gp2 rfl (rest := []) rfl (Nat.le_of_ble_eq_true rfl) ⟨Nat.le_of_ble_eq_true rfl, Nat.le_of_ble_eq_true rfl⟩ (c_X0_has x1 v1 h p2 ep2) ?_
  show mj_W mX8_again (mj_FI p) 8 [(0, .ref v0), (1, .int v1)] [.int p2.1] p2.2 0 0
  refine mj_if_ne 4 18 rfl (by decide) (fun q => ?_) (fun q => ?_)
  · have hf := (if_neg q).symm.trans hf
    refine mj_blk k_X8_ok 9 1 (pc' := 19) (l' := [(0, .ref v0), (1, .int v1)]) (st' := [.ref v0]) rfl ?_
    obtain ⟨x3, ex3, hf⟩ := mj_bd hf
    refine mj_get 10 rfl fl_X8_50 (mj_gR_V ex3) ?_
    refine mj_blk k_X8_ok 11 1 (pc' := 23) (l' := [(0, .ref v0), (1, .int v1)]) (st' := [.ref v0, .ref x3]) rfl ?_
    obtain ⟨x4, ex4, hf⟩ := mj_bd hf
    refine mj_get 12 rfl fl_X8_10 (mj_gR_V ex4) ?_
    refine mj_blk k_X8_ok 13 1 (pc' := 27) (l' := [(0, .ref v0), (1, .int v1)]) (st' := [.int v1, .ref x4, .ref x3]) rfl ?_
    obtain ⟨gp5, hf⟩ := mj_gd hf
    obtain ⟨p5, ep5, hf⟩ := mj_bd hf
    refine mj_callV (T := TX5) (N := 1) (ci := 5) mX5_load [.ref x4, .int v1] 14 rfl ll_X8_245 lb_X5_load li_X5_load ⟨Nat.le_of_ble_eq_true rfl, Nat.le_of_ble_eq_true rfl⟩ rfl gp5 rfl (rest := []) rfl (Nat.le_of_ble_eq_true rfl) ⟨Nat.le_of_ble_eq_true rfl, Nat.le_of_ble_eq_true rfl⟩ (c_X5_load x3 x4 v1 p2.2 p5 ep5) ?_
    show mj_W mX8_again (mj_FI p) 30 [(0, .ref v0), (1, .int v1)] [] p5 0 0
    refine mj_blk k_X8_ok 15 1 (pc' := 31) (l' := [(0, .ref v0), (1, .int v1)]) (st' := [.ref v0]) rfl ?_
    obtain ⟨x6, ex6, hf⟩ := mj_bd hf
    refine mj_get 16 rfl fl_X8_50 (mj_gR_V ex6) ?_
    refine mj_blk k_X8_ok 17 3 (pc' := 37) (l' := [(0, .ref v0), (1, .int v1)]) (st' := [.ref v0, .int (1 : Int32), .int (0 : Int32), .ref x6]) rfl ?_
    obtain ⟨x7, ex7, hf⟩ := mj_bd hf
    refine mj_get 20 rfl fl_X8_10 (mj_gR_V ex7) ?_
    refine mj_blk k_X8_ok 21 1 (pc' := 41) (l' := [(0, .ref v0), (1, .int v1)]) (st' := [.int v1, .ref x7, .int (1 : Int32), .int (0 : Int32), .ref x6]) rfl ?_
    obtain ⟨gp8, hf⟩ := mj_gd hf
    obtain ⟨p8, ep8, hf⟩ := mj_bd hf
    refine mj_callV (T := TX0) (N := 7) (ci := 0) mX0_knows [.int v1] 22 rfl ll_X8_173 lb_X0_knows li_X0_knows ⟨Nat.le_of_ble_eq_true rfl, Nat.le_of_ble_eq_true rfl⟩ rfl gp8 rfl (rest := [.int (1 : Int32), .int (0 : Int32), .ref x6]) rfl (Nat.le_of_ble_eq_true rfl) ⟨Nat.le_of_ble_eq_true rfl, Nat.le_of_ble_eq_true rfl⟩ (c_X0_knows x7 v1 p5 p8 ep8) ?_
    show mj_W mX8_again (mj_FI p) 44 [(0, .ref v0), (1, .int v1)] [.int p8.1, .int (1 : Int32), .int (0 : Int32), .ref x6] p8.2 0 0
    obtain ⟨gp9, hf⟩ := mj_gd hf
    obtain ⟨p9, ep9, hf⟩ := mj_bd hf
    refine mj_callV (T := TX5) (N := 1) (ci := 5) mX5_weigh [.int (0 : Int32), .int (1 : Int32), .int p8.1] 23 rfl ll_X8_270 lb_X5_weigh li_X5_weigh ⟨Nat.le_of_ble_eq_true rfl, Nat.le_of_ble_eq_true rfl⟩ rfl gp9 rfl (rest := []) rfl (Nat.le_of_ble_eq_true rfl) ⟨Nat.le_of_ble_eq_true rfl, Nat.le_of_ble_eq_true rfl⟩ (c_X5_weigh x6 (0 : Int32) (1 : Int32) p8.1 p8.2 p9 ep9) ?_
    show mj_W mX8_again (mj_FI p) 47 [(0, .ref v0), (1, .int v1)] [] p9 0 0
    refine mj_blk k_X8_ok 24 1 (pc' := 48) (l' := [(0, .ref v0), (1, .int v1)]) (st' := [.ref v0]) rfl ?_
    obtain ⟨x10, ex10, hf⟩ := mj_bd hf
    refine mj_get 25 rfl fl_X8_50 (mj_gR_V ex10) ?_
    refine mj_blk k_X8_ok 26 2 (pc' := 53) (l' := [(0, .ref v0), (1, .int v1)]) (st' := [.int (1 : Int32), .int (0 : Int32), .ref x10]) rfl ?_
    obtain ⟨gp11, hf⟩ := mj_gd hf
    obtain ⟨p11, ep11, hf⟩ := mj_bd hf
    refine mj_callV (T := TX5) (N := 1) (ci := 5) mX5_chance [.int (0 : Int32), .int (1 : Int32)] 28 rfl ll_X8_256 lb_X5_chance li_X5_chance ⟨Nat.le_of_ble_eq_true rfl, Nat.le_of_ble_eq_true rfl⟩ rfl gp11 rfl (rest := []) rfl (Nat.le_of_ble_eq_true rfl) ⟨Nat.le_of_ble_eq_true rfl, Nat.le_of_ble_eq_true rfl⟩ (c_X5_chance x10 (0 : Int32) (1 : Int32) p9 p11 ep11) ?_
    show mj_W mX8_again (mj_FI p) 56 [(0, .ref v0), (1, .int v1)] [.int p11.1] p11.2 0 0
    obtain rfl := Option.some.inj hf
    exact mj_end (some (.int p11.1)) ⟨mj_dec tok_X8_again (a := 29) rfl, .int, rfl, rfl⟩ ⟨rfl, rfl⟩ (Nat.le_of_ble_eq_true rfl) (Nat.le_of_ble_eq_true rfl)
  · have hf := (if_pos q).symm.trans hf
    refine mj_blk k_X8_ok 5 2 (pc' := 14) (l' := [(0, .ref v0), (1, .int v1)]) (st' := [.int (-2 : Int32), .ref v0]) rfl ?_
    obtain ⟨gp12, hf⟩ := mj_gd hf
    obtain ⟨p12, ep12, hf⟩ := mj_bd hf
    refine mj_callV (T := TX8) (N := 14) (ci := 8) mX8_refused [.int (-2 : Int32)] 7 rfl ll_X8_102 lb_X8_refused li_X8_refused ⟨Nat.le_of_ble_eq_true rfl, Nat.le_of_ble_eq_true rfl⟩ rfl gp12 rfl (rest := []) rfl (Nat.le_of_ble_eq_true rfl) ⟨Nat.le_of_ble_eq_true rfl, Nat.le_of_ble_eq_true rfl⟩ (c_X8_refused v0 (-2 : Int32) p2.2 p12 ep12) ?_
    show mj_W mX8_again (mj_FI p) 17 [(0, .ref v0), (1, .int v1)] [.int p12.1] p12.2 0 0
    obtain rfl := Option.some.inj hf
    exact mj_end (some (.int p12.1)) ⟨mj_dec tok_X8_again (a := 8) rfl, .int, rfl, rfl⟩ ⟨rfl, rfl⟩ (Nat.le_of_ble_eq_true rfl) (Nat.le_of_ble_eq_true rfl)
def f_X8_drawn_140 (K60 : Nat → Int32 → Int32 → Int64 → Int32 → Int32 → mj_H → Option (Int32 × mj_H)) (K69 : Nat → Int32 → Int32 → Int64 → Int32 → Int32 → Int32 → mj_H → Option (Int32 × mj_H)) (v0 : Nat) (v1 : Int32) (v2 : Int32) (v4 : Int64) (v6 : Int32) (v7 : Int32) (v8 : Int32) (h : mj_H) : Option (Int32 × mj_H) := K69 v0 v1 v2 v4 v6 v7 (v8 + (1 : Int32)) h
set_option maxHeartbeats 4000000 in
set_option maxRecDepth 100000 in
theorem w_X8_drawn_140 (K60 : Nat → Int32 → Int32 → Int64 → Int32 → Int32 → mj_H → Option (Int32 × mj_H)) (K69 : Nat → Int32 → Int32 → Int64 → Int32 → Int32 → Int32 → mj_H → Option (Int32 × mj_H)) (hK60 : ∀ (v0 : Nat) (v1 : Int32) (v2 : Int32) (v4 : Int64) (v6 : Int32) (v7 : Int32)  (h : mj_H) (p : Int32 × mj_H), K60 v0 v1 v2 v4 v6 v7 h = some p → mj_W mX8_drawn (mj_FI p) 60 [(0, .ref v0), (1, .int v1), (2, .int v2), (4, .long v4), (6, .int v6), (7, .int v7)] [] h 0 0) (hK69 : ∀ (v0 : Nat) (v1 : Int32) (v2 : Int32) (v4 : Int64) (v6 : Int32) (v7 : Int32) (v8 : Int32)  (h : mj_H) (p : Int32 × mj_H), K69 v0 v1 v2 v4 v6 v7 v8 h = some p → mj_W mX8_drawn (mj_FI p) 69 [(0, .ref v0), (1, .int v1), (2, .int v2), (4, .long v4), (6, .int v6), (7, .int v7), (8, .int v8)] [] h 0 0) (v0 : Nat) (v1 : Int32) (v2 : Int32) (v4 : Int64) (v6 : Int32) (v7 : Int32) (v8 : Int32) (h : mj_H) (p : Int32 × mj_H) (hf : f_X8_drawn_140 K60 K69 v0 v1 v2 v4 v6 v7 v8 h = some p) : mj_W mX8_drawn (mj_FI p) 140 [(0, .ref v0), (1, .int v1), (2, .int v2), (4, .long v4), (6, .int v6), (7, .int v7), (8, .int v8)] [] h 0 0 := by
  unfold f_X8_drawn_140 at hf
  refine mj_blk k_X8_ok 71 2 (pc' := 69) (l' := [(8, .int (v8 + (1 : Int32))), (0, .ref v0), (1, .int v1), (2, .int v2), (4, .long v4), (6, .int v6), (7, .int v7)]) (st' := []) rfl ?_
  refine mj_locs [1, 2, 3, 4, 5, 6, 0] (l' := [(0, .ref v0), (1, .int v1), (2, .int v2), (4, .long v4), (6, .int v6), (7, .int v7), (8, .int (v8 + (1 : Int32)))]) rfl ?_
  exact hK69 v0 v1 v2 v4 v6 v7 (v8 + (1 : Int32)) h _ hf
def f_X8_drawn_137 (K60 : Nat → Int32 → Int32 → Int64 → Int32 → Int32 → mj_H → Option (Int32 × mj_H)) (K69 : Nat → Int32 → Int32 → Int64 → Int32 → Int32 → Int32 → mj_H → Option (Int32 × mj_H)) (v0 : Nat) (v1 : Int32) (v2 : Int32) (v4 : Int64) (v7 : Int32) (v8 : Int32) (s0 : Int32) (s1 : Int32) (h : mj_H) : Option (Int32 × mj_H) := f_X8_drawn_140 K60 K69 v0 v1 v2 v4 (s0 + s1) v7 v8 h
set_option maxHeartbeats 4000000 in
set_option maxRecDepth 100000 in
theorem w_X8_drawn_137 (K60 : Nat → Int32 → Int32 → Int64 → Int32 → Int32 → mj_H → Option (Int32 × mj_H)) (K69 : Nat → Int32 → Int32 → Int64 → Int32 → Int32 → Int32 → mj_H → Option (Int32 × mj_H)) (hK60 : ∀ (v0 : Nat) (v1 : Int32) (v2 : Int32) (v4 : Int64) (v6 : Int32) (v7 : Int32)  (h : mj_H) (p : Int32 × mj_H), K60 v0 v1 v2 v4 v6 v7 h = some p → mj_W mX8_drawn (mj_FI p) 60 [(0, .ref v0), (1, .int v1), (2, .int v2), (4, .long v4), (6, .int v6), (7, .int v7)] [] h 0 0) (hK69 : ∀ (v0 : Nat) (v1 : Int32) (v2 : Int32) (v4 : Int64) (v6 : Int32) (v7 : Int32) (v8 : Int32)  (h : mj_H) (p : Int32 × mj_H), K69 v0 v1 v2 v4 v6 v7 v8 h = some p → mj_W mX8_drawn (mj_FI p) 69 [(0, .ref v0), (1, .int v1), (2, .int v2), (4, .long v4), (6, .int v6), (7, .int v7), (8, .int v8)] [] h 0 0) (v0 : Nat) (v1 : Int32) (v2 : Int32) (v4 : Int64) (v7 : Int32) (v8 : Int32) (s0 : Int32) (s1 : Int32) (h : mj_H) (p : Int32 × mj_H) (hf : f_X8_drawn_137 K60 K69 v0 v1 v2 v4 v7 v8 s0 s1 h = some p) : mj_W mX8_drawn (mj_FI p) 137 [(0, .ref v0), (1, .int v1), (2, .int v2), (4, .long v4), (7, .int v7), (8, .int v8)] [.int s1, .int s0] h 0 0 := by
  unfold f_X8_drawn_137 at hf
  refine mj_blk k_X8_ok 69 2 (pc' := 140) (l' := [(6, .int (s0 + s1)), (0, .ref v0), (1, .int v1), (2, .int v2), (4, .long v4), (7, .int v7), (8, .int v8)]) (st' := []) rfl ?_
  refine mj_locs [1, 2, 3, 4, 0, 5, 6] (l' := [(0, .ref v0), (1, .int v1), (2, .int v2), (4, .long v4), (6, .int (s0 + s1)), (7, .int v7), (8, .int v8)]) rfl ?_
  exact w_X8_drawn_140 K60 K69 hK60 hK69 v0 v1 v2 v4 (s0 + s1) v7 v8 h _ hf
def b_X8_drawn_69 (K60 : Nat → Int32 → Int32 → Int64 → Int32 → Int32 → mj_H → Option (Int32 × mj_H)) (K69 : Nat → Int32 → Int32 → Int64 → Int32 → Int32 → Int32 → mj_H → Option (Int32 × mj_H)) (v0 : Nat) (v1 : Int32) (v2 : Int32) (v4 : Int64) (v6 : Int32) (v7 : Int32) (v8 : Int32) (h : mj_H) : Option (Int32 × mj_H) := (mj_gR h v0 8 0).bind fun x1 => (mj_gI h x1 0 4).bind fun x2 => (if x2 ≤ v8 then K60 v0 v1 v2 v4 v6 (v7 + (1 : Int32)) h else (f_X8_isIn v1 v8 h).bind fun p3 => (if p3.1 = 0 then f_X8_drawn_140 K60 K69 v0 v1 v2 v4 v6 v7 v8 p3.2 else (mj_gR p3.2 v0 8 5).bind fun x4 => (if mj_ob p3.2 x4 2 = true then (f_X2_trustSeen x4 v8 p3.2).bind fun p5 => (if ((p5.1).toInt64) ≤ (((((v4 * (1103515245 : Int64)) + (12345 : Int64)) - ((v4 * (1103515245 : Int64)) + (12345 : Int64)) / (2147483648 : Int64) * (2147483648 : Int64)) / (65536 : Int64)) - ((((v4 * (1103515245 : Int64)) + (12345 : Int64)) - ((v4 * (1103515245 : Int64)) + (12345 : Int64)) / (2147483648 : Int64) * (2147483648 : Int64)) / (65536 : Int64)) / (60 : Int64) * (60 : Int64)) then f_X8_drawn_137 K60 K69 v0 v1 v2 (((v4 * (1103515245 : Int64)) + (12345 : Int64)) - ((v4 * (1103515245 : Int64)) + (12345 : Int64)) / (2147483648 : Int64) * (2147483648 : Int64)) v7 v8 v6 (0 : Int32) p5.2 else f_X8_drawn_137 K60 K69 v0 v1 v2 (((v4 * (1103515245 : Int64)) + (12345 : Int64)) - ((v4 * (1103515245 : Int64)) + (12345 : Int64)) / (2147483648 : Int64) * (2147483648 : Int64)) v7 v8 v6 (1 : Int32) p5.2) else none)))
set_option maxHeartbeats 4000000 in
set_option maxRecDepth 100000 in
theorem wb_X8_drawn_69 (K60 : Nat → Int32 → Int32 → Int64 → Int32 → Int32 → mj_H → Option (Int32 × mj_H)) (hK60 : ∀ (v0 : Nat) (v1 : Int32) (v2 : Int32) (v4 : Int64) (v6 : Int32) (v7 : Int32)  (h : mj_H) (p : Int32 × mj_H), K60 v0 v1 v2 v4 v6 v7 h = some p → mj_W mX8_drawn (mj_FI p) 60 [(0, .ref v0), (1, .int v1), (2, .int v2), (4, .long v4), (6, .int v6), (7, .int v7)] [] h 0 0) (K69 : Nat → Int32 → Int32 → Int64 → Int32 → Int32 → Int32 → mj_H → Option (Int32 × mj_H)) (hK69 : ∀ (v0 : Nat) (v1 : Int32) (v2 : Int32) (v4 : Int64) (v6 : Int32) (v7 : Int32) (v8 : Int32)  (h : mj_H) (p : Int32 × mj_H), K69 v0 v1 v2 v4 v6 v7 v8 h = some p → mj_W mX8_drawn (mj_FI p) 69 [(0, .ref v0), (1, .int v1), (2, .int v2), (4, .long v4), (6, .int v6), (7, .int v7), (8, .int v8)] [] h 0 0) (v0 : Nat) (v1 : Int32) (v2 : Int32) (v4 : Int64) (v6 : Int32) (v7 : Int32) (v8 : Int32) (h : mj_H) (p : Int32 × mj_H) (hf : b_X8_drawn_69 K60 K69 v0 v1 v2 v4 v6 v7 v8 h = some p) : mj_W mX8_drawn (mj_FI p) 69 [(0, .ref v0), (1, .int v1), (2, .int v2), (4, .long v4), (6, .int v6), (7, .int v7), (8, .int v8)] [] h 0 0 := by
  unfold b_X8_drawn_69 at hf
  refine mj_blk k_X8_ok 36 2 (pc' := 72) (l' := [(0, .ref v0), (1, .int v1), (2, .int v2), (4, .long v4), (6, .int v6), (7, .int v7), (8, .int v8)]) (st' := [.ref v0, .int v8]) rfl ?_
  obtain ⟨x1, ex1, hf⟩ := mj_bd hf
  refine mj_get 38 rfl fl_X8_10 (mj_gR_V ex1) ?_
  obtain ⟨x2, ex2, hf⟩ := mj_bd hf
  refine mj_get 39 rfl fl_X8_205 (mj_gI_V ex2) ?_
  refine mj_icmp_ge 40 146 rfl (by decide) (fun q => ?_) (fun q => ?_)
  · have hf := (if_pos q).symm.trans hf
    refine mj_blk k_X8_ok 73 2 (pc' := 60) (l' := [(7, .int (v7 + (1 : Int32))), (0, .ref v0), (1, .int v1), (2, .int v2), (4, .long v4), (6, .int v6), (8, .int v8)]) (st' := []) rfl ?_
    refine mj_locs [1, 2, 3, 4, 5, 0] (l' := [(0, .ref v0), (1, .int v1), (2, .int v2), (4, .long v4), (6, .int v6), (7, .int (v7 + (1 : Int32)))]) rfl ?_
    exact hK60 v0 v1 v2 v4 v6 (v7 + (1 : Int32)) h _ hf
  · have hf := (if_neg q).symm.trans hf
    refine mj_blk k_X8_ok 41 2 (pc' := 84) (l' := [(0, .ref v0), (1, .int v1), (2, .int v2), (4, .long v4), (6, .int v6), (7, .int v7), (8, .int v8)]) (st' := [.int v8, .int v1]) rfl ?_
    obtain ⟨p3, ep3, hf⟩ := mj_bd hf
    refine mj_callS mX8_isIn [.int v1, .int v8] 43 rfl ll_X8_275 lb_X8_isIn li_X8_isIn ⟨Nat.le_of_ble_eq_true rfl, Nat.le_of_ble_eq_true rfl⟩ rfl (rest := []) rfl (Nat.le_of_ble_eq_true rfl) ⟨Nat.le_of_ble_eq_true rfl, Nat.le_of_ble_eq_true rfl⟩ (c_X8_isIn v1 v8 h p3 ep3) ?_
    show mj_W mX8_drawn (mj_FI p) 87 [(0, .ref v0), (1, .int v1), (2, .int v2), (4, .long v4), (6, .int v6), (7, .int v7), (8, .int v8)] [.int p3.1] p3.2 0 0
    refine mj_if_eq 44 140 rfl (by decide) (fun q => ?_) (fun q => ?_)
    · have hf := (if_pos q).symm.trans hf
      exact w_X8_drawn_140 K60 K69 hK60 hK69 v0 v1 v2 v4 v6 v7 v8 p3.2 _ hf
    · have hf := (if_neg q).symm.trans hf
      refine mj_blk k_X8_ok 45 6 (pc' := 103) (l' := [(0, .ref v0), (1, .int v1), (2, .int v2), (4, .long v4), (6, .int v6), (7, .int v7), (8, .int v8)]) (st' := [.long (2147483648 : Int64), .long ((v4 * (1103515245 : Int64)) + (12345 : Int64))]) rfl ?_
      refine mj_lrem 51 rfl (by decide) ?_
      refine mj_blk k_X8_ok 52 4 (pc' := 113) (l' := [(4, .long (((v4 * (1103515245 : Int64)) + (12345 : Int64)) - ((v4 * (1103515245 : Int64)) + (12345 : Int64)) / (2147483648 : Int64) * (2147483648 : Int64))), (0, .ref v0), (1, .int v1), (2, .int v2), (6, .int v6), (7, .int v7), (8, .int v8)]) (st' := [.long (65536 : Int64), .long (((v4 * (1103515245 : Int64)) + (12345 : Int64)) - ((v4 * (1103515245 : Int64)) + (12345 : Int64)) / (2147483648 : Int64) * (2147483648 : Int64)), .int v6]) rfl ?_
      refine mj_ldiv 56 rfl (by decide) ?_
      refine mj_blk k_X8_ok 57 1 (pc' := 117) (l' := [(4, .long (((v4 * (1103515245 : Int64)) + (12345 : Int64)) - ((v4 * (1103515245 : Int64)) + (12345 : Int64)) / (2147483648 : Int64) * (2147483648 : Int64))), (0, .ref v0), (1, .int v1), (2, .int v2), (6, .int v6), (7, .int v7), (8, .int v8)]) (st' := [.long (60 : Int64), .long ((((v4 * (1103515245 : Int64)) + (12345 : Int64)) - ((v4 * (1103515245 : Int64)) + (12345 : Int64)) / (2147483648 : Int64) * (2147483648 : Int64)) / (65536 : Int64)), .int v6]) rfl ?_
      refine mj_lrem 58 rfl (by decide) ?_
      refine mj_blk k_X8_ok 59 1 (pc' := 119) (l' := [(4, .long (((v4 * (1103515245 : Int64)) + (12345 : Int64)) - ((v4 * (1103515245 : Int64)) + (12345 : Int64)) / (2147483648 : Int64) * (2147483648 : Int64))), (0, .ref v0), (1, .int v1), (2, .int v2), (6, .int v6), (7, .int v7), (8, .int v8)]) (st' := [.ref v0, .long (((((v4 * (1103515245 : Int64)) + (12345 : Int64)) - ((v4 * (1103515245 : Int64)) + (12345 : Int64)) / (2147483648 : Int64) * (2147483648 : Int64)) / (65536 : Int64)) - ((((v4 * (1103515245 : Int64)) + (12345 : Int64)) - ((v4 * (1103515245 : Int64)) + (12345 : Int64)) / (2147483648 : Int64) * (2147483648 : Int64)) / (65536 : Int64)) / (60 : Int64) * (60 : Int64)), .int v6]) rfl ?_
      obtain ⟨x4, ex4, hf⟩ := mj_bd hf
      refine mj_get 60 rfl fl_X8_43 (mj_gR_V ex4) ?_
      refine mj_blk k_X8_ok 61 1 (pc' := 124) (l' := [(4, .long (((v4 * (1103515245 : Int64)) + (12345 : Int64)) - ((v4 * (1103515245 : Int64)) + (12345 : Int64)) / (2147483648 : Int64) * (2147483648 : Int64))), (0, .ref v0), (1, .int v1), (2, .int v2), (6, .int v6), (7, .int v7), (8, .int v8)]) (st' := [.int v8, .ref x4, .long (((((v4 * (1103515245 : Int64)) + (12345 : Int64)) - ((v4 * (1103515245 : Int64)) + (12345 : Int64)) / (2147483648 : Int64) * (2147483648 : Int64)) / (65536 : Int64)) - ((((v4 * (1103515245 : Int64)) + (12345 : Int64)) - ((v4 * (1103515245 : Int64)) + (12345 : Int64)) / (2147483648 : Int64) * (2147483648 : Int64)) / (65536 : Int64)) / (60 : Int64) * (60 : Int64)), .int v6]) rfl ?_
      obtain ⟨gp5, hf⟩ := mj_gd hf
      obtain ⟨p5, ep5, hf⟩ := mj_bd hf
      refine mj_callV (T := TX2) (N := 3) (ci := 2) mX2_trustSeen [.int v8] 62 rfl ll_X8_286 lb_X2_trustSeen li_X2_trustSeen ⟨Nat.le_of_ble_eq_true rfl, Nat.le_of_ble_eq_true rfl⟩ rfl gp5 rfl (rest := [.long (((((v4 * (1103515245 : Int64)) + (12345 : Int64)) - ((v4 * (1103515245 : Int64)) + (12345 : Int64)) / (2147483648 : Int64) * (2147483648 : Int64)) / (65536 : Int64)) - ((((v4 * (1103515245 : Int64)) + (12345 : Int64)) - ((v4 * (1103515245 : Int64)) + (12345 : Int64)) / (2147483648 : Int64) * (2147483648 : Int64)) / (65536 : Int64)) / (60 : Int64) * (60 : Int64)), .int v6]) rfl (Nat.le_of_ble_eq_true rfl) ⟨Nat.le_of_ble_eq_true rfl, Nat.le_of_ble_eq_true rfl⟩ (c_X2_trustSeen x4 v8 p3.2 p5 ep5) ?_
      show mj_W mX8_drawn (mj_FI p) 127 [(4, .long (((v4 * (1103515245 : Int64)) + (12345 : Int64)) - ((v4 * (1103515245 : Int64)) + (12345 : Int64)) / (2147483648 : Int64) * (2147483648 : Int64))), (0, .ref v0), (1, .int v1), (2, .int v2), (6, .int v6), (7, .int v7), (8, .int v8)] [.int p5.1, .long (((((v4 * (1103515245 : Int64)) + (12345 : Int64)) - ((v4 * (1103515245 : Int64)) + (12345 : Int64)) / (2147483648 : Int64) * (2147483648 : Int64)) / (65536 : Int64)) - ((((v4 * (1103515245 : Int64)) + (12345 : Int64)) - ((v4 * (1103515245 : Int64)) + (12345 : Int64)) / (2147483648 : Int64) * (2147483648 : Int64)) / (65536 : Int64)) / (60 : Int64) * (60 : Int64)), .int v6] p5.2 0 0
      refine mj_blk k_X8_ok 63 1 (pc' := 128) (l' := [(4, .long (((v4 * (1103515245 : Int64)) + (12345 : Int64)) - ((v4 * (1103515245 : Int64)) + (12345 : Int64)) / (2147483648 : Int64) * (2147483648 : Int64))), (0, .ref v0), (1, .int v1), (2, .int v2), (6, .int v6), (7, .int v7), (8, .int v8)]) (st' := [.long ((p5.1).toInt64), .long (((((v4 * (1103515245 : Int64)) + (12345 : Int64)) - ((v4 * (1103515245 : Int64)) + (12345 : Int64)) / (2147483648 : Int64) * (2147483648 : Int64)) / (65536 : Int64)) - ((((v4 * (1103515245 : Int64)) + (12345 : Int64)) - ((v4 * (1103515245 : Int64)) + (12345 : Int64)) / (2147483648 : Int64) * (2147483648 : Int64)) / (65536 : Int64)) / (60 : Int64) * (60 : Int64)), .int v6]) rfl ?_
      refine mj_lcmp_ge 64 136 rfl rfl (by decide) (fun q => ?_) (fun q => ?_)
      · have hf := (if_pos q).symm.trans hf
        refine mj_blk k_X8_ok 68 1 (pc' := 137) (l' := [(4, .long (((v4 * (1103515245 : Int64)) + (12345 : Int64)) - ((v4 * (1103515245 : Int64)) + (12345 : Int64)) / (2147483648 : Int64) * (2147483648 : Int64))), (0, .ref v0), (1, .int v1), (2, .int v2), (6, .int v6), (7, .int v7), (8, .int v8)]) (st' := [.int (0 : Int32), .int v6]) rfl ?_
        refine mj_locs [1, 2, 3, 0, 5, 6] (l' := [(0, .ref v0), (1, .int v1), (2, .int v2), (4, .long (((v4 * (1103515245 : Int64)) + (12345 : Int64)) - ((v4 * (1103515245 : Int64)) + (12345 : Int64)) / (2147483648 : Int64) * (2147483648 : Int64))), (7, .int v7), (8, .int v8)]) rfl ?_
        exact w_X8_drawn_137 K60 K69 hK60 hK69 v0 v1 v2 (((v4 * (1103515245 : Int64)) + (12345 : Int64)) - ((v4 * (1103515245 : Int64)) + (12345 : Int64)) / (2147483648 : Int64) * (2147483648 : Int64)) v7 v8 v6 (0 : Int32) p5.2 _ hf
      · have hf := (if_neg q).symm.trans hf
        refine mj_blk k_X8_ok 66 2 (pc' := 137) (l' := [(4, .long (((v4 * (1103515245 : Int64)) + (12345 : Int64)) - ((v4 * (1103515245 : Int64)) + (12345 : Int64)) / (2147483648 : Int64) * (2147483648 : Int64))), (0, .ref v0), (1, .int v1), (2, .int v2), (6, .int v6), (7, .int v7), (8, .int v8)]) (st' := [.int (1 : Int32), .int v6]) rfl ?_
        refine mj_locs [1, 2, 3, 0, 5, 6] (l' := [(0, .ref v0), (1, .int v1), (2, .int v2), (4, .long (((v4 * (1103515245 : Int64)) + (12345 : Int64)) - ((v4 * (1103515245 : Int64)) + (12345 : Int64)) / (2147483648 : Int64) * (2147483648 : Int64))), (7, .int v7), (8, .int v8)]) rfl ?_
        exact w_X8_drawn_137 K60 K69 hK60 hK69 v0 v1 v2 (((v4 * (1103515245 : Int64)) + (12345 : Int64)) - ((v4 * (1103515245 : Int64)) + (12345 : Int64)) / (2147483648 : Int64) * (2147483648 : Int64)) v7 v8 v6 (1 : Int32) p5.2 _ hf
def f_X8_drawn_69 (K60 : Nat → Int32 → Int32 → Int64 → Int32 → Int32 → mj_H → Option (Int32 × mj_H)) (v0 : Nat) (v1 : Int32) (v2 : Int32) (v4 : Int64) (v6 : Int32) (v7 : Int32) (v8 : Int32) (h : mj_H) : Option (Int32 × mj_H) := mj_fix (fun (K69 : (Nat × Int32 × Int32 × Int64 × Int32 × Int32 × Int32 × mj_H) → Option (Int32 × mj_H)) (s : Nat × Int32 × Int32 × Int64 × Int32 × Int32 × Int32 × mj_H) => b_X8_drawn_69 K60 (fun v0 v1 v2 v4 v6 v7 v8 h => K69 (v0, v1, v2, v4, v6, v7, v8, h)) s.1 s.2.1 s.2.2.1 s.2.2.2.1 s.2.2.2.2.1 s.2.2.2.2.2.1 s.2.2.2.2.2.2.1 s.2.2.2.2.2.2.2) 1000 (v0, v1, v2, v4, v6, v7, v8, h)
set_option maxHeartbeats 4000000 in
set_option maxRecDepth 100000 in
theorem w_X8_drawn_69 (K60 : Nat → Int32 → Int32 → Int64 → Int32 → Int32 → mj_H → Option (Int32 × mj_H)) (hK60 : ∀ (v0 : Nat) (v1 : Int32) (v2 : Int32) (v4 : Int64) (v6 : Int32) (v7 : Int32)  (h : mj_H) (p : Int32 × mj_H), K60 v0 v1 v2 v4 v6 v7 h = some p → mj_W mX8_drawn (mj_FI p) 60 [(0, .ref v0), (1, .int v1), (2, .int v2), (4, .long v4), (6, .int v6), (7, .int v7)] [] h 0 0) (v0 : Nat) (v1 : Int32) (v2 : Int32) (v4 : Int64) (v6 : Int32) (v7 : Int32) (v8 : Int32) (h : mj_H) (p : Int32 × mj_H) (hf : f_X8_drawn_69 K60 v0 v1 v2 v4 v6 v7 v8 h = some p) : mj_W mX8_drawn (mj_FI p) 69 [(0, .ref v0), (1, .int v1), (2, .int v2), (4, .long v4), (6, .int v6), (7, .int v7), (8, .int v8)] [] h 0 0 := by
  unfold f_X8_drawn_69 at hf
  exact mj_fix_ind (F := (fun (K69 : (Nat × Int32 × Int32 × Int64 × Int32 × Int32 × Int32 × mj_H) → Option (Int32 × mj_H)) (s : Nat × Int32 × Int32 × Int64 × Int32 × Int32 × Int32 × mj_H) => b_X8_drawn_69 K60 (fun v0 v1 v2 v4 v6 v7 v8 h => K69 (v0, v1, v2, v4, v6, v7, v8, h)) s.1 s.2.1 s.2.2.1 s.2.2.2.1 s.2.2.2.2.1 s.2.2.2.2.2.1 s.2.2.2.2.2.2.1 s.2.2.2.2.2.2.2)) (P := fun s p => mj_W mX8_drawn (mj_FI p) 69 [(0, .ref s.1), (1, .int s.2.1), (2, .int s.2.2.1), (4, .long s.2.2.2.1), (6, .int s.2.2.2.2.1), (7, .int s.2.2.2.2.2.1), (8, .int s.2.2.2.2.2.2.1)] [] s.2.2.2.2.2.2.2 0 0) (fun K69 hK69 s p hf => wb_X8_drawn_69 K60 hK60 (fun v0 v1 v2 v4 v6 v7 v8 h => K69 (v0, v1, v2, v4, v6, v7, v8, h)) (fun v0 v1 v2 v4 v6 v7 v8 h p e => hK69 (v0, v1, v2, v4, v6, v7, v8, h) p e) s.1 s.2.1 s.2.2.1 s.2.2.2.1 s.2.2.2.2.1 s.2.2.2.2.2.1 s.2.2.2.2.2.2.1 s.2.2.2.2.2.2.2 p hf) 1000 (v0, v1, v2, v4, v6, v7, v8, h) p hf
def b_X8_drawn_60 (K60 : Nat → Int32 → Int32 → Int64 → Int32 → Int32 → mj_H → Option (Int32 × mj_H)) (v0 : Nat) (v1 : Int32) (v2 : Int32) (v4 : Int64) (v6 : Int32) (v7 : Int32) (h : mj_H) : Option (Int32 × mj_H) := (if v2 ≤ v7 then some (v6, h) else f_X8_drawn_69 K60 v0 v1 v2 v4 v6 v7 (0 : Int32) h)
set_option maxHeartbeats 4000000 in
set_option maxRecDepth 100000 in
theorem wb_X8_drawn_60 (K60 : Nat → Int32 → Int32 → Int64 → Int32 → Int32 → mj_H → Option (Int32 × mj_H)) (hK60 : ∀ (v0 : Nat) (v1 : Int32) (v2 : Int32) (v4 : Int64) (v6 : Int32) (v7 : Int32)  (h : mj_H) (p : Int32 × mj_H), K60 v0 v1 v2 v4 v6 v7 h = some p → mj_W mX8_drawn (mj_FI p) 60 [(0, .ref v0), (1, .int v1), (2, .int v2), (4, .long v4), (6, .int v6), (7, .int v7)] [] h 0 0) (v0 : Nat) (v1 : Int32) (v2 : Int32) (v4 : Int64) (v6 : Int32) (v7 : Int32) (h : mj_H) (p : Int32 × mj_H) (hf : b_X8_drawn_60  K60 v0 v1 v2 v4 v6 v7 h = some p) : mj_W mX8_drawn (mj_FI p) 60 [(0, .ref v0), (1, .int v1), (2, .int v2), (4, .long v4), (6, .int v6), (7, .int v7)] [] h 0 0 := by
  unfold b_X8_drawn_60 at hf
  refine mj_blk k_X8_ok 31 2 (pc' := 63) (l' := [(0, .ref v0), (1, .int v1), (2, .int v2), (4, .long v4), (6, .int v6), (7, .int v7)]) (st' := [.int v2, .int v7]) rfl ?_
  refine mj_icmp_ge 33 152 rfl (by decide) (fun q => ?_) (fun q => ?_)
  · have hf := (if_pos q).symm.trans hf
    refine mj_blk k_X8_ok 75 1 (pc' := 154) (l' := [(0, .ref v0), (1, .int v1), (2, .int v2), (4, .long v4), (6, .int v6), (7, .int v7)]) (st' := [.int v6]) rfl ?_
    obtain rfl := Option.some.inj hf
    exact mj_end (some (.int v6)) ⟨mj_dec tok_X8_drawn (a := 76) rfl, .int, rfl, rfl⟩ ⟨rfl, rfl⟩ (Nat.le_of_ble_eq_true rfl) (Nat.le_of_ble_eq_true rfl)
  · have hf := (if_neg q).symm.trans hf
    refine mj_blk k_X8_ok 34 2 (pc' := 69) (l' := [(8, .int (0 : Int32)), (0, .ref v0), (1, .int v1), (2, .int v2), (4, .long v4), (6, .int v6), (7, .int v7)]) (st' := []) rfl ?_
    refine mj_locs [1, 2, 3, 4, 5, 6, 0] (l' := [(0, .ref v0), (1, .int v1), (2, .int v2), (4, .long v4), (6, .int v6), (7, .int v7), (8, .int (0 : Int32))]) rfl ?_
    exact w_X8_drawn_69 K60 hK60 v0 v1 v2 v4 v6 v7 (0 : Int32) h _ hf
def f_X8_drawn_60 (v0 : Nat) (v1 : Int32) (v2 : Int32) (v4 : Int64) (v6 : Int32) (v7 : Int32) (h : mj_H) : Option (Int32 × mj_H) := mj_fix (fun (K60 : (Nat × Int32 × Int32 × Int64 × Int32 × Int32 × mj_H) → Option (Int32 × mj_H)) (s : Nat × Int32 × Int32 × Int64 × Int32 × Int32 × mj_H) => b_X8_drawn_60  (fun v0 v1 v2 v4 v6 v7 h => K60 (v0, v1, v2, v4, v6, v7, h)) s.1 s.2.1 s.2.2.1 s.2.2.2.1 s.2.2.2.2.1 s.2.2.2.2.2.1 s.2.2.2.2.2.2) 1000 (v0, v1, v2, v4, v6, v7, h)
set_option maxHeartbeats 4000000 in
set_option maxRecDepth 100000 in
theorem w_X8_drawn_60 (v0 : Nat) (v1 : Int32) (v2 : Int32) (v4 : Int64) (v6 : Int32) (v7 : Int32) (h : mj_H) (p : Int32 × mj_H) (hf : f_X8_drawn_60  v0 v1 v2 v4 v6 v7 h = some p) : mj_W mX8_drawn (mj_FI p) 60 [(0, .ref v0), (1, .int v1), (2, .int v2), (4, .long v4), (6, .int v6), (7, .int v7)] [] h 0 0 := by
  unfold f_X8_drawn_60 at hf
  exact mj_fix_ind (F := (fun (K60 : (Nat × Int32 × Int32 × Int64 × Int32 × Int32 × mj_H) → Option (Int32 × mj_H)) (s : Nat × Int32 × Int32 × Int64 × Int32 × Int32 × mj_H) => b_X8_drawn_60  (fun v0 v1 v2 v4 v6 v7 h => K60 (v0, v1, v2, v4, v6, v7, h)) s.1 s.2.1 s.2.2.1 s.2.2.2.1 s.2.2.2.2.1 s.2.2.2.2.2.1 s.2.2.2.2.2.2)) (P := fun s p => mj_W mX8_drawn (mj_FI p) 60 [(0, .ref s.1), (1, .int s.2.1), (2, .int s.2.2.1), (4, .long s.2.2.2.1), (6, .int s.2.2.2.2.1), (7, .int s.2.2.2.2.2.1)] [] s.2.2.2.2.2.2 0 0) (fun K60 hK60 s p hf => wb_X8_drawn_60   (fun v0 v1 v2 v4 v6 v7 h => K60 (v0, v1, v2, v4, v6, v7, h)) (fun v0 v1 v2 v4 v6 v7 h p e => hK60 (v0, v1, v2, v4, v6, v7, h) p e) s.1 s.2.1 s.2.2.1 s.2.2.2.1 s.2.2.2.2.1 s.2.2.2.2.2.1 s.2.2.2.2.2.2 p hf) 1000 (v0, v1, v2, v4, v6, v7, h) p hf
def f_X8_drawn_32 (v0 : Nat) (h : mj_H) : Option (Int32 × mj_H) := (if mj_ob h v0 8 = true then (f_X8_refused v0 (-2 : Int32) h).bind fun p6 => some (p6.1, p6.2) else none)
set_option maxHeartbeats 4000000 in
set_option maxRecDepth 100000 in
theorem w_X8_drawn_32 (v0 : Nat) (h : mj_H) (p : Int32 × mj_H) (hf : f_X8_drawn_32  v0 h = some p) : mj_W mX8_drawn (mj_FI p) 32 [(0, .ref v0)] [] h 0 0 := by
  unfold f_X8_drawn_32 at hf
  refine mj_blk k_X8_ok 15 2 (pc' := 35) (l' := [(0, .ref v0)]) (st' := [.int (-2 : Int32), .ref v0]) rfl ?_
  obtain ⟨gp6, hf⟩ := mj_gd hf
  obtain ⟨p6, ep6, hf⟩ := mj_bd hf
  refine mj_callV (T := TX8) (N := 14) (ci := 8) mX8_refused [.int (-2 : Int32)] 17 rfl ll_X8_102 lb_X8_refused li_X8_refused ⟨Nat.le_of_ble_eq_true rfl, Nat.le_of_ble_eq_true rfl⟩ rfl gp6 rfl (rest := []) rfl (Nat.le_of_ble_eq_true rfl) ⟨Nat.le_of_ble_eq_true rfl, Nat.le_of_ble_eq_true rfl⟩ (c_X8_refused v0 (-2 : Int32) h p6 ep6) ?_
  show mj_W mX8_drawn (mj_FI p) 38 [(0, .ref v0)] [.int p6.1] p6.2 0 0
  obtain rfl := Option.some.inj hf
  exact mj_end (some (.int p6.1)) ⟨mj_dec tok_X8_drawn (a := 18) rfl, .int, rfl, rfl⟩ ⟨rfl, rfl⟩ (Nat.le_of_ble_eq_true rfl) (Nat.le_of_ble_eq_true rfl)
def f_X8_drawn (v0 : Nat) (v1 : Int32) (v2 : Int32) (v3 : Int32) (h : mj_H) : Option (Int32 × mj_H) := (mj_gR h v0 8 0).bind fun x7 => (if mj_ob h x7 0 = true then (f_X0_hasAll x7 v1 h).bind fun p8 => (if p8.1 = 0 then f_X8_drawn_32 v0 p8.2 else (if v2 < 0 then f_X8_drawn_32 v0 p8.2 else (if (30 : Int32) < v2 then f_X8_drawn_32 v0 p8.2 else (if v3 < 0 then f_X8_drawn_32 v0 p8.2 else (if v3 ≤ (999999 : Int32) then (mj_gR p8.2 v0 8 5).bind fun x9 => (mj_gR p8.2 v0 8 0).bind fun x10 => (if mj_ob p8.2 x9 2 = true then (f_X2_seeNow x9 x10 p8.2).bind fun p11 => f_X8_drawn_60 v0 v1 v2 ((v3).toInt64) (0 : Int32) (0 : Int32) p11 else none) else f_X8_drawn_32 v0 p8.2))))) else none)
set_option maxHeartbeats 4000000 in
set_option maxRecDepth 100000 in
theorem c_X8_drawn (v0 : Nat) (v1 : Int32) (v2 : Int32) (v3 : Int32) (h : mj_H) (p : Int32 × mj_H) (hf : f_X8_drawn v0 v1 v2 v3 h = some p) : mj_Met mX8_drawn [.ref v0, .int v1, .int v2, .int v3] h (some (.int p.1)) p.2 := by
  refine mj_met pl_X8 tok_X8_drawn (Nat.le_of_ble_eq_true rfl) ?_
  show mj_W mX8_drawn (mj_FI p) 0 [(0, .ref v0), (1, .int v1), (2, .int v2), (3, .int v3)] [] h 0 0
  unfold f_X8_drawn at hf
  refine mj_blk k_X8_ok 0 1 (pc' := 1) (l' := [(0, .ref v0), (1, .int v1), (2, .int v2), (3, .int v3)]) (st' := [.ref v0]) rfl ?_
  obtain ⟨x7, ex7, hf⟩ := mj_bd hf
  refine mj_get 1 rfl fl_X8_10 (mj_gR_V ex7) ?_
  refine mj_blk k_X8_ok 2 1 (pc' := 5) (l' := [(0, .ref v0), (1, .int v1), (2, .int v2), (3, .int v3)]) (st' := [.int v1, .ref x7]) rfl ?_
  obtain ⟨gp8, hf⟩ := mj_gd hf
  obtain ⟨p8, ep8, hf⟩ := mj_bd hf
  refine mj_callV (T := TX0) (N := 7) (ci := 0) mX0_hasAll [.int v1] 3 rfl ll_X8_179 lb_X0_hasAll li_X0_hasAll ⟨Nat.le_of_ble_eq_true rfl, Nat.le_of_ble_eq_true rfl⟩ rfl gp8 rfl (rest := []) rfl (Nat.le_of_ble_eq_true rfl) ⟨Nat.le_of_ble_eq_true rfl, Nat.le_of_ble_eq_true rfl⟩ (c_X0_hasAll x7 v1 h p8 ep8) ?_
  show mj_W mX8_drawn (mj_FI p) 8 [(0, .ref v0), (1, .int v1), (2, .int v2), (3, .int v3)] [.int p8.1] p8.2 0 0
  refine mj_if_eq 4 32 rfl (by decide) (fun q => ?_) (fun q => ?_)
  · have hf := (if_pos q).symm.trans hf
    refine mj_locs [0] (l' := [(0, .ref v0)]) rfl ?_
    exact w_X8_drawn_32 v0 p8.2 _ hf
  · have hf := (if_neg q).symm.trans hf
    refine mj_blk k_X8_ok 5 1 (pc' := 12) (l' := [(0, .ref v0), (1, .int v1), (2, .int v2), (3, .int v3)]) (st' := [.int v2]) rfl ?_
    refine mj_if_lt 6 32 rfl (by decide) (fun q => ?_) (fun q => ?_)
    · have hf := (if_pos q).symm.trans hf
      refine mj_locs [0] (l' := [(0, .ref v0)]) rfl ?_
      exact w_X8_drawn_32 v0 p8.2 _ hf
    · have hf := (if_neg q).symm.trans hf
      refine mj_blk k_X8_ok 7 2 (pc' := 18) (l' := [(0, .ref v0), (1, .int v1), (2, .int v2), (3, .int v3)]) (st' := [.int (30 : Int32), .int v2]) rfl ?_
      refine mj_icmp_gt 9 32 rfl (by decide) (fun q => ?_) (fun q => ?_)
      · have hf := (if_pos q).symm.trans hf
        refine mj_locs [0] (l' := [(0, .ref v0)]) rfl ?_
        exact w_X8_drawn_32 v0 p8.2 _ hf
      · have hf := (if_neg q).symm.trans hf
        refine mj_blk k_X8_ok 10 1 (pc' := 22) (l' := [(0, .ref v0), (1, .int v1), (2, .int v2), (3, .int v3)]) (st' := [.int v3]) rfl ?_
        refine mj_if_lt 11 32 rfl (by decide) (fun q => ?_) (fun q => ?_)
        · have hf := (if_pos q).symm.trans hf
          refine mj_locs [0] (l' := [(0, .ref v0)]) rfl ?_
          exact w_X8_drawn_32 v0 p8.2 _ hf
        · have hf := (if_neg q).symm.trans hf
          refine mj_blk k_X8_ok 12 2 (pc' := 29) (l' := [(0, .ref v0), (1, .int v1), (2, .int v2), (3, .int v3)]) (st' := [.int (999999 : Int32), .int v3]) rfl ?_
          refine mj_icmp_le 14 39 rfl (by decide) (fun q => ?_) (fun q => ?_)
          · have hf := (if_pos q).symm.trans hf
            refine mj_blk k_X8_ok 19 1 (pc' := 40) (l' := [(0, .ref v0), (1, .int v1), (2, .int v2), (3, .int v3)]) (st' := [.ref v0]) rfl ?_
            obtain ⟨x9, ex9, hf⟩ := mj_bd hf
            refine mj_get 20 rfl fl_X8_43 (mj_gR_V ex9) ?_
            refine mj_blk k_X8_ok 21 1 (pc' := 44) (l' := [(0, .ref v0), (1, .int v1), (2, .int v2), (3, .int v3)]) (st' := [.ref v0, .ref x9]) rfl ?_
            obtain ⟨x10, ex10, hf⟩ := mj_bd hf
            refine mj_get 22 rfl fl_X8_10 (mj_gR_V ex10) ?_
            obtain ⟨gp11, hf⟩ := mj_gd hf
            obtain ⟨p11, ep11, hf⟩ := mj_bd hf
            refine mj_callV (T := TX2) (N := 3) (ci := 2) mX2_seeNow [.ref x10] 23 rfl ll_X8_185 lb_X2_seeNow li_X2_seeNow ⟨Nat.le_of_ble_eq_true rfl, Nat.le_of_ble_eq_true rfl⟩ rfl gp11 rfl (rest := []) rfl (Nat.le_of_ble_eq_true rfl) ⟨Nat.le_of_ble_eq_true rfl, Nat.le_of_ble_eq_true rfl⟩ (c_X2_seeNow x9 x10 p8.2 p11 ep11) ?_
            show mj_W mX8_drawn (mj_FI p) 50 [(0, .ref v0), (1, .int v1), (2, .int v2), (3, .int v3)] [] p11 0 0
            refine mj_blk k_X8_ok 24 7 (pc' := 60) (l' := [(7, .int (0 : Int32)), (6, .int (0 : Int32)), (4, .long ((v3).toInt64)), (0, .ref v0), (1, .int v1), (2, .int v2), (3, .int v3)]) (st' := []) rfl ?_
            refine mj_locs [3, 4, 5, 2, 1, 0] (l' := [(0, .ref v0), (1, .int v1), (2, .int v2), (4, .long ((v3).toInt64)), (6, .int (0 : Int32)), (7, .int (0 : Int32))]) rfl ?_
            exact w_X8_drawn_60 v0 v1 v2 ((v3).toInt64) (0 : Int32) (0 : Int32) p11 _ hf
          · have hf := (if_neg q).symm.trans hf
            refine mj_locs [0] (l' := [(0, .ref v0)]) rfl ?_
            exact w_X8_drawn_32 v0 p8.2 _ hf
def f_X8_part_9 (v0 : Nat) (h : mj_H) : Option (Int64 × mj_H) := (if mj_ob h v0 8 = true then (f_X8_refused v0 (-2 : Int32) h).bind fun p1 => some (((p1.1).toInt64), p1.2) else none)
set_option maxHeartbeats 4000000 in
set_option maxRecDepth 100000 in
theorem w_X8_part_9 (v0 : Nat) (h : mj_H) (p : Int64 × mj_H) (hf : f_X8_part_9  v0 h = some p) : mj_W mX8_part (mj_FJ p) 9 [(0, .ref v0)] [] h 0 0 := by
  unfold f_X8_part_9 at hf
  refine mj_blk k_X8_ok 5 2 (pc' := 12) (l' := [(0, .ref v0)]) (st' := [.int (-2 : Int32), .ref v0]) rfl ?_
  obtain ⟨gp1, hf⟩ := mj_gd hf
  obtain ⟨p1, ep1, hf⟩ := mj_bd hf
  refine mj_callV (T := TX8) (N := 14) (ci := 8) mX8_refused [.int (-2 : Int32)] 7 rfl ll_X8_102 lb_X8_refused li_X8_refused ⟨Nat.le_of_ble_eq_true rfl, Nat.le_of_ble_eq_true rfl⟩ rfl gp1 rfl (rest := []) rfl (Nat.le_of_ble_eq_true rfl) ⟨Nat.le_of_ble_eq_true rfl, Nat.le_of_ble_eq_true rfl⟩ (c_X8_refused v0 (-2 : Int32) h p1 ep1) ?_
  show mj_W mX8_part (mj_FJ p) 15 [(0, .ref v0)] [.int p1.1] p1.2 0 0
  refine mj_blk k_X8_ok 8 1 (pc' := 16) (l' := [(0, .ref v0)]) (st' := [.long ((p1.1).toInt64)]) rfl ?_
  obtain rfl := Option.some.inj hf
  exact mj_end (some (.long ((p1.1).toInt64))) ⟨mj_dec tok_X8_part (a := 9) rfl, rfl⟩ ⟨rfl, rfl⟩ (Nat.le_of_ble_eq_true rfl) (Nat.le_of_ble_eq_true rfl)
def f_X8_part (v0 : Nat) (v1 : Int32) (h : mj_H) : Option (Int64 × mj_H) := (if v1 < 0 then f_X8_part_9 v0 h else (if v1 ≤ (1 : Int32) then (if v1 = 0 then (mj_gJ h v0 8 9).bind fun x3 => some (x3, h) else (mj_gJ h v0 8 10).bind fun x2 => some (x2, h)) else f_X8_part_9 v0 h))
set_option maxHeartbeats 4000000 in
set_option maxRecDepth 100000 in
theorem c_X8_part (v0 : Nat) (v1 : Int32) (h : mj_H) (p : Int64 × mj_H) (hf : f_X8_part v0 v1 h = some p) : mj_Met mX8_part [.ref v0, .int v1] h (some (.long p.1)) p.2 := by
  refine mj_met pl_X8 tok_X8_part (Nat.le_of_ble_eq_true rfl) ?_
  show mj_W mX8_part (mj_FJ p) 0 [(0, .ref v0), (1, .int v1)] [] h 0 0
  unfold f_X8_part at hf
  refine mj_blk k_X8_ok 0 1 (pc' := 1) (l' := [(0, .ref v0), (1, .int v1)]) (st' := [.int v1]) rfl ?_
  refine mj_if_lt 1 9 rfl (by decide) (fun q => ?_) (fun q => ?_)
  · have hf := (if_pos q).symm.trans hf
    refine mj_locs [0] (l' := [(0, .ref v0)]) rfl ?_
    exact w_X8_part_9 v0 h _ hf
  · have hf := (if_neg q).symm.trans hf
    refine mj_blk k_X8_ok 2 2 (pc' := 6) (l' := [(0, .ref v0), (1, .int v1)]) (st' := [.int (1 : Int32), .int v1]) rfl ?_
    refine mj_icmp_le 4 17 rfl (by decide) (fun q => ?_) (fun q => ?_)
    · have hf := (if_pos q).symm.trans hf
      refine mj_blk k_X8_ok 10 1 (pc' := 18) (l' := [(0, .ref v0), (1, .int v1)]) (st' := [.int v1]) rfl ?_
      refine mj_if_ne 11 28 rfl (by decide) (fun q => ?_) (fun q => ?_)
      · have hf := (if_neg q).symm.trans hf
        refine mj_blk k_X8_ok 15 1 (pc' := 29) (l' := [(0, .ref v0), (1, .int v1)]) (st' := [.ref v0]) rfl ?_
        obtain ⟨x2, ex2, hf⟩ := mj_bd hf
        refine mj_get 16 rfl fl_X8_69 (mj_gJ_V ex2) ?_
        obtain rfl := Option.some.inj hf
        exact mj_end (some (.long x2)) ⟨mj_dec tok_X8_part (a := 17) rfl, rfl⟩ ⟨rfl, rfl⟩ (Nat.le_of_ble_eq_true rfl) (Nat.le_of_ble_eq_true rfl)
      · have hf := (if_pos q).symm.trans hf
        refine mj_blk k_X8_ok 12 1 (pc' := 22) (l' := [(0, .ref v0), (1, .int v1)]) (st' := [.ref v0]) rfl ?_
        obtain ⟨x3, ex3, hf⟩ := mj_bd hf
        refine mj_get 13 rfl fl_X8_65 (mj_gJ_V ex3) ?_
        refine mj_blk k_X8_ok 14 1 (pc' := 32) (l' := [(0, .ref v0), (1, .int v1)]) (st' := [.long x3]) rfl ?_
        obtain rfl := Option.some.inj hf
        exact mj_end (some (.long x3)) ⟨mj_dec tok_X8_part (a := 17) rfl, rfl⟩ ⟨rfl, rfl⟩ (Nat.le_of_ble_eq_true rfl) (Nat.le_of_ble_eq_true rfl)
    · have hf := (if_neg q).symm.trans hf
      refine mj_locs [0] (l' := [(0, .ref v0)]) rfl ?_
      exact w_X8_part_9 v0 h _ hf
def f_X8_imageAt_15 (s0 : Nat) (h : mj_H) : Option (Nat × mj_H) := some (s0, h)
set_option maxHeartbeats 4000000 in
set_option maxRecDepth 100000 in
theorem w_X8_imageAt_15 (s0 : Nat) (h : mj_H) (p : Nat × mj_H) (hf : f_X8_imageAt_15  s0 h = some p) : mj_W mX8_imageAt (mj_FR p) 15 [] [.ref s0] h 0 0 := by
  unfold f_X8_imageAt_15 at hf
  obtain rfl := Option.some.inj hf
  exact mj_end (some (.ref s0)) ⟨mj_dec tok_X8_imageAt (a := 7) rfl, _, rfl⟩ ⟨rfl, rfl⟩ (Nat.le_of_ble_eq_true rfl) (Nat.le_of_ble_eq_true rfl)
def f_X8_imageAt (v0 : Nat) (v1 : Int32) (h : mj_H) : Option (Nat × mj_H) := (if v1 = 0 then (mj_gR h v0 8 2).bind fun x2 => f_X8_imageAt_15 x2 h else (mj_gR h v0 8 3).bind fun x1 => f_X8_imageAt_15 x1 h)
set_option maxHeartbeats 4000000 in
set_option maxRecDepth 100000 in
theorem c_X8_imageAt (v0 : Nat) (v1 : Int32) (h : mj_H) (p : Nat × mj_H) (hf : f_X8_imageAt v0 v1 h = some p) : mj_Met mX8_imageAt [.ref v0, .int v1] h (some (.ref p.1)) p.2 := by
  refine mj_met pl_X8 tok_X8_imageAt (Nat.le_of_ble_eq_true rfl) ?_
  show mj_W mX8_imageAt (mj_FR p) 0 [(0, .ref v0), (1, .int v1)] [] h 0 0
  unfold f_X8_imageAt at hf
  refine mj_blk k_X8_ok 0 1 (pc' := 1) (l' := [(0, .ref v0), (1, .int v1)]) (st' := [.int v1]) rfl ?_
  refine mj_if_ne 1 11 rfl (by decide) (fun q => ?_) (fun q => ?_)
  · have hf := (if_neg q).symm.trans hf
    refine mj_blk k_X8_ok 5 1 (pc' := 12) (l' := [(0, .ref v0), (1, .int v1)]) (st' := [.ref v0]) rfl ?_
    obtain ⟨x1, ex1, hf⟩ := mj_bd hf
    refine mj_get 6 rfl fl_X8_30 (mj_gR_V ex1) ?_
    refine mj_locs [] (l' := []) rfl ?_
    exact w_X8_imageAt_15 x1 h _ hf
  · have hf := (if_pos q).symm.trans hf
    refine mj_blk k_X8_ok 2 1 (pc' := 5) (l' := [(0, .ref v0), (1, .int v1)]) (st' := [.ref v0]) rfl ?_
    obtain ⟨x2, ex2, hf⟩ := mj_bd hf
    refine mj_get 3 rfl fl_X8_26 (mj_gR_V ex2) ?_
    refine mj_blk k_X8_ok 4 1 (pc' := 15) (l' := [(0, .ref v0), (1, .int v1)]) (st' := [.ref x2]) rfl ?_
    refine mj_locs [] (l' := []) rfl ?_
    exact w_X8_imageAt_15 x2 h _ hf
def f_X8_image_9 (v0 : Nat) (h : mj_H) : Option (Int32 × mj_H) := (if mj_ob h v0 8 = true then (f_X8_refused v0 (-2 : Int32) h).bind fun p1 => some (p1.1, p1.2) else none)
set_option maxHeartbeats 4000000 in
set_option maxRecDepth 100000 in
theorem w_X8_image_9 (v0 : Nat) (h : mj_H) (p : Int32 × mj_H) (hf : f_X8_image_9  v0 h = some p) : mj_W mX8_image (mj_FI p) 9 [(0, .ref v0)] [] h 0 0 := by
  unfold f_X8_image_9 at hf
  refine mj_blk k_X8_ok 5 2 (pc' := 12) (l' := [(0, .ref v0)]) (st' := [.int (-2 : Int32), .ref v0]) rfl ?_
  obtain ⟨gp1, hf⟩ := mj_gd hf
  obtain ⟨p1, ep1, hf⟩ := mj_bd hf
  refine mj_callV (T := TX8) (N := 14) (ci := 8) mX8_refused [.int (-2 : Int32)] 7 rfl ll_X8_102 lb_X8_refused li_X8_refused ⟨Nat.le_of_ble_eq_true rfl, Nat.le_of_ble_eq_true rfl⟩ rfl gp1 rfl (rest := []) rfl (Nat.le_of_ble_eq_true rfl) ⟨Nat.le_of_ble_eq_true rfl, Nat.le_of_ble_eq_true rfl⟩ (c_X8_refused v0 (-2 : Int32) h p1 ep1) ?_
  show mj_W mX8_image (mj_FI p) 15 [(0, .ref v0)] [.int p1.1] p1.2 0 0
  obtain rfl := Option.some.inj hf
  exact mj_end (some (.int p1.1)) ⟨mj_dec tok_X8_image (a := 8) rfl, .int, rfl, rfl⟩ ⟨rfl, rfl⟩ (Nat.le_of_ble_eq_true rfl) (Nat.le_of_ble_eq_true rfl)
def f_X8_image (v0 : Nat) (v1 : Int32) (h : mj_H) : Option (Int32 × mj_H) := (if v1 < 0 then f_X8_image_9 v0 h else (if v1 ≤ (1 : Int32) then (if mj_ob h v0 8 = true then (f_X8_imageAt v0 v1 h).bind fun p2 => (mj_gR p2.2 p2.1 1 0).bind fun x3 => (mj_gR p2.2 v0 8 0).bind fun x4 => (if mj_ob p2.2 x3 0 = true then (f_X0_become x3 x4 p2.2).bind fun p5 => (mj_gR p5 p2.1 1 1).bind fun x6 => (mj_gR p5 v0 8 1).bind fun x7 => (if mj_ob p5 x6 3 = true then (f_X3_become x6 x7 p5).bind fun p8 => (mj_sV p8 p2.1 1 2 (.int (1 : Int32))).bind fun h9 => some ((1 : Int32), h9) else none) else none) else none) else f_X8_image_9 v0 h))
set_option maxHeartbeats 4000000 in
set_option maxRecDepth 100000 in
theorem c_X8_image (v0 : Nat) (v1 : Int32) (h : mj_H) (p : Int32 × mj_H) (hf : f_X8_image v0 v1 h = some p) : mj_Met mX8_image [.ref v0, .int v1] h (some (.int p.1)) p.2 := by
  refine mj_met pl_X8 tok_X8_image (Nat.le_of_ble_eq_true rfl) ?_
  show mj_W mX8_image (mj_FI p) 0 [(0, .ref v0), (1, .int v1)] [] h 0 0
  unfold f_X8_image at hf
  refine mj_blk k_X8_ok 0 1 (pc' := 1) (l' := [(0, .ref v0), (1, .int v1)]) (st' := [.int v1]) rfl ?_
  refine mj_if_lt 1 9 rfl (by decide) (fun q => ?_) (fun q => ?_)
  · have hf := (if_pos q).symm.trans hf
    refine mj_locs [0] (l' := [(0, .ref v0)]) rfl ?_
    exact w_X8_image_9 v0 h _ hf
  · have hf := (if_neg q).symm.trans hf
    refine mj_blk k_X8_ok 2 2 (pc' := 6) (l' := [(0, .ref v0), (1, .int v1)]) (st' := [.int (1 : Int32), .int v1]) rfl ?_
    refine mj_icmp_le 4 16 rfl (by decide) (fun q => ?_) (fun q => ?_)
    · have hf := (if_pos q).symm.trans hf
      refine mj_blk k_X8_ok 9 2 (pc' := 18) (l' := [(0, .ref v0), (1, .int v1)]) (st' := [.int v1, .ref v0]) rfl ?_
      obtain ⟨gp2, hf⟩ := mj_gd hf
      obtain ⟨p2, ep2, hf⟩ := mj_bd hf
      refine mj_callV (T := TX8) (N := 14) (ci := 8) mX8_imageAt [.int v1] 11 rfl ll_X8_289 lb_X8_imageAt li_X8_imageAt ⟨Nat.le_of_ble_eq_true rfl, Nat.le_of_ble_eq_true rfl⟩ rfl gp2 rfl (rest := []) rfl (Nat.le_of_ble_eq_true rfl) ⟨Nat.le_of_ble_eq_true rfl, Nat.le_of_ble_eq_true rfl⟩ (c_X8_imageAt v0 v1 h p2 ep2) ?_
      show mj_W mX8_image (mj_FI p) 21 [(0, .ref v0), (1, .int v1)] [.ref p2.1] p2.2 0 0
      refine mj_blk k_X8_ok 12 2 (pc' := 23) (l' := [(2, .ref p2.1), (0, .ref v0), (1, .int v1)]) (st' := [.ref p2.1]) rfl ?_
      obtain ⟨x3, ex3, hf⟩ := mj_bd hf
      refine mj_get 14 rfl fl_X8_293 (mj_gR_V ex3) ?_
      refine mj_blk k_X8_ok 15 1 (pc' := 27) (l' := [(2, .ref p2.1), (0, .ref v0), (1, .int v1)]) (st' := [.ref v0, .ref x3]) rfl ?_
      obtain ⟨x4, ex4, hf⟩ := mj_bd hf
      refine mj_get 16 rfl fl_X8_10 (mj_gR_V ex4) ?_
      obtain ⟨gp5, hf⟩ := mj_gd hf
      obtain ⟨p5, ep5, hf⟩ := mj_bd hf
      refine mj_callV (T := TX0) (N := 7) (ci := 0) mX0_become [.ref x4] 17 rfl ll_X8_118 lb_X0_become li_X0_become ⟨Nat.le_of_ble_eq_true rfl, Nat.le_of_ble_eq_true rfl⟩ rfl gp5 rfl (rest := []) rfl (Nat.le_of_ble_eq_true rfl) ⟨Nat.le_of_ble_eq_true rfl, Nat.le_of_ble_eq_true rfl⟩ (c_X0_become x3 x4 p2.2 p5 ep5) ?_
      show mj_W mX8_image (mj_FI p) 33 [(2, .ref p2.1), (0, .ref v0), (1, .int v1)] [] p5 0 0
      refine mj_blk k_X8_ok 18 1 (pc' := 34) (l' := [(2, .ref p2.1), (0, .ref v0), (1, .int v1)]) (st' := [.ref p2.1]) rfl ?_
      obtain ⟨x6, ex6, hf⟩ := mj_bd hf
      refine mj_get 19 rfl fl_X8_294 (mj_gR_V ex6) ?_
      refine mj_blk k_X8_ok 20 1 (pc' := 38) (l' := [(2, .ref p2.1), (0, .ref v0), (1, .int v1)]) (st' := [.ref v0, .ref x6]) rfl ?_
      obtain ⟨x7, ex7, hf⟩ := mj_bd hf
      refine mj_get 21 rfl fl_X8_19 (mj_gR_V ex7) ?_
      obtain ⟨gp8, hf⟩ := mj_gd hf
      obtain ⟨p8, ep8, hf⟩ := mj_bd hf
      refine mj_callV (T := TX3) (N := 5) (ci := 3) mX3_become [.ref x7] 22 rfl ll_X8_295 lb_X3_become li_X3_become ⟨Nat.le_of_ble_eq_true rfl, Nat.le_of_ble_eq_true rfl⟩ rfl gp8 rfl (rest := []) rfl (Nat.le_of_ble_eq_true rfl) ⟨Nat.le_of_ble_eq_true rfl, Nat.le_of_ble_eq_true rfl⟩ (c_X3_become x6 x7 p5 p8 ep8) ?_
      show mj_W mX8_image (mj_FI p) 44 [(2, .ref p2.1), (0, .ref v0), (1, .int v1)] [] p8 0 0
      refine mj_blk k_X8_ok 23 2 (pc' := 46) (l' := [(2, .ref p2.1), (0, .ref v0), (1, .int v1)]) (st' := [.int (1 : Int32), .ref p2.1]) rfl ?_
      obtain ⟨h9, eh9, hf⟩ := mj_bd hf
      refine mj_put 25 rfl fp_X8_298 (fun _ => ⟨rfl, rfl⟩) eh9 ?_
      refine mj_blk k_X8_ok 26 1 (pc' := 50) (l' := [(2, .ref p2.1), (0, .ref v0), (1, .int v1)]) (st' := [.int (1 : Int32)]) rfl ?_
      obtain rfl := Option.some.inj hf
      exact mj_end (some (.int (1 : Int32))) ⟨mj_dec tok_X8_image (a := 27) rfl, .int, rfl, rfl⟩ ⟨rfl, rfl⟩ (Nat.le_of_ble_eq_true rfl) (Nat.le_of_ble_eq_true rfl)
    · have hf := (if_neg q).symm.trans hf
      refine mj_locs [0] (l' := [(0, .ref v0)]) rfl ?_
      exact w_X8_image_9 v0 h _ hf
def f_X8_from_9 (v0 : Nat) (h : mj_H) : Option (Int32 × mj_H) := (if mj_ob h v0 8 = true then (f_X8_refused v0 (-2 : Int32) h).bind fun p1 => some (p1.1, p1.2) else none)
set_option maxHeartbeats 4000000 in
set_option maxRecDepth 100000 in
theorem w_X8_from_9 (v0 : Nat) (h : mj_H) (p : Int32 × mj_H) (hf : f_X8_from_9  v0 h = some p) : mj_W mX8_from (mj_FI p) 9 [(0, .ref v0)] [] h 0 0 := by
  unfold f_X8_from_9 at hf
  refine mj_blk k_X8_ok 5 2 (pc' := 12) (l' := [(0, .ref v0)]) (st' := [.int (-2 : Int32), .ref v0]) rfl ?_
  obtain ⟨gp1, hf⟩ := mj_gd hf
  obtain ⟨p1, ep1, hf⟩ := mj_bd hf
  refine mj_callV (T := TX8) (N := 14) (ci := 8) mX8_refused [.int (-2 : Int32)] 7 rfl ll_X8_102 lb_X8_refused li_X8_refused ⟨Nat.le_of_ble_eq_true rfl, Nat.le_of_ble_eq_true rfl⟩ rfl gp1 rfl (rest := []) rfl (Nat.le_of_ble_eq_true rfl) ⟨Nat.le_of_ble_eq_true rfl, Nat.le_of_ble_eq_true rfl⟩ (c_X8_refused v0 (-2 : Int32) h p1 ep1) ?_
  show mj_W mX8_from (mj_FI p) 15 [(0, .ref v0)] [.int p1.1] p1.2 0 0
  obtain rfl := Option.some.inj hf
  exact mj_end (some (.int p1.1)) ⟨mj_dec tok_X8_from (a := 8) rfl, .int, rfl, rfl⟩ ⟨rfl, rfl⟩ (Nat.le_of_ble_eq_true rfl) (Nat.le_of_ble_eq_true rfl)
def f_X8_from (v0 : Nat) (v1 : Int32) (h : mj_H) : Option (Int32 × mj_H) := (if v1 < 0 then f_X8_from_9 v0 h else (if v1 ≤ (1 : Int32) then (if mj_ob h v0 8 = true then (f_X8_imageAt v0 v1 h).bind fun p2 => (mj_gI p2.2 p2.1 1 2).bind fun x3 => (if x3 = 0 then (if mj_ob p2.2 v0 8 = true then (f_X8_refused v0 (-3 : Int32) p2.2).bind fun p10 => some (p10.1, p10.2) else none) else (mj_gR p2.2 v0 8 0).bind fun x4 => (mj_gR p2.2 p2.1 1 0).bind fun x5 => (if mj_ob p2.2 x4 0 = true then (f_X0_become x4 x5 p2.2).bind fun p6 => (mj_gR p6 v0 8 1).bind fun x7 => (mj_gR p6 p2.1 1 1).bind fun x8 => (if mj_ob p6 x7 3 = true then (f_X3_become x7 x8 p6).bind fun p9 => some ((1 : Int32), p9) else none) else none)) else none) else f_X8_from_9 v0 h))
set_option maxHeartbeats 4000000 in
set_option maxRecDepth 100000 in
theorem c_X8_from (v0 : Nat) (v1 : Int32) (h : mj_H) (p : Int32 × mj_H) (hf : f_X8_from v0 v1 h = some p) : mj_Met mX8_from [.ref v0, .int v1] h (some (.int p.1)) p.2 := by
  refine mj_met pl_X8 tok_X8_from (Nat.le_of_ble_eq_true rfl) ?_
  show mj_W mX8_from (mj_FI p) 0 [(0, .ref v0), (1, .int v1)] [] h 0 0
  unfold f_X8_from at hf
  refine mj_blk k_X8_ok 0 1 (pc' := 1) (l' := [(0, .ref v0), (1, .int v1)]) (st' := [.int v1]) rfl ?_
  refine mj_if_lt 1 9 rfl (by decide) (fun q => ?_) (fun q => ?_)
  · have hf := (if_pos q).symm.trans hf
    refine mj_locs [0] (l' := [(0, .ref v0)]) rfl ?_
    exact w_X8_from_9 v0 h _ hf
  · have hf := (if_neg q).symm.trans hf
    refine mj_blk k_X8_ok 2 2 (pc' := 6) (l' := [(0, .ref v0), (1, .int v1)]) (st' := [.int (1 : Int32), .int v1]) rfl ?_
    refine mj_icmp_le 4 16 rfl (by decide) (fun q => ?_) (fun q => ?_)
    · have hf := (if_pos q).symm.trans hf
      refine mj_blk k_X8_ok 9 2 (pc' := 18) (l' := [(0, .ref v0), (1, .int v1)]) (st' := [.int v1, .ref v0]) rfl ?_
      obtain ⟨gp2, hf⟩ := mj_gd hf
      obtain ⟨p2, ep2, hf⟩ := mj_bd hf
      refine mj_callV (T := TX8) (N := 14) (ci := 8) mX8_imageAt [.int v1] 11 rfl ll_X8_289 lb_X8_imageAt li_X8_imageAt ⟨Nat.le_of_ble_eq_true rfl, Nat.le_of_ble_eq_true rfl⟩ rfl gp2 rfl (rest := []) rfl (Nat.le_of_ble_eq_true rfl) ⟨Nat.le_of_ble_eq_true rfl, Nat.le_of_ble_eq_true rfl⟩ (c_X8_imageAt v0 v1 h p2 ep2) ?_
      show mj_W mX8_from (mj_FI p) 21 [(0, .ref v0), (1, .int v1)] [.ref p2.1] p2.2 0 0
      refine mj_blk k_X8_ok 12 2 (pc' := 23) (l' := [(2, .ref p2.1), (0, .ref v0), (1, .int v1)]) (st' := [.ref p2.1]) rfl ?_
      obtain ⟨x3, ex3, hf⟩ := mj_bd hf
      refine mj_get 14 rfl fl_X8_298 (mj_gI_V ex3) ?_
      refine mj_if_ne 15 36 rfl (by decide) (fun q => ?_) (fun q => ?_)
      · have hf := (if_neg q).symm.trans hf
        refine mj_blk k_X8_ok 20 1 (pc' := 37) (l' := [(2, .ref p2.1), (0, .ref v0), (1, .int v1)]) (st' := [.ref v0]) rfl ?_
        obtain ⟨x4, ex4, hf⟩ := mj_bd hf
        refine mj_get 21 rfl fl_X8_10 (mj_gR_V ex4) ?_
        refine mj_blk k_X8_ok 22 1 (pc' := 41) (l' := [(2, .ref p2.1), (0, .ref v0), (1, .int v1)]) (st' := [.ref p2.1, .ref x4]) rfl ?_
        obtain ⟨x5, ex5, hf⟩ := mj_bd hf
        refine mj_get 23 rfl fl_X8_293 (mj_gR_V ex5) ?_
        obtain ⟨gp6, hf⟩ := mj_gd hf
        obtain ⟨p6, ep6, hf⟩ := mj_bd hf
        refine mj_callV (T := TX0) (N := 7) (ci := 0) mX0_become [.ref x5] 24 rfl ll_X8_118 lb_X0_become li_X0_become ⟨Nat.le_of_ble_eq_true rfl, Nat.le_of_ble_eq_true rfl⟩ rfl gp6 rfl (rest := []) rfl (Nat.le_of_ble_eq_true rfl) ⟨Nat.le_of_ble_eq_true rfl, Nat.le_of_ble_eq_true rfl⟩ (c_X0_become x4 x5 p2.2 p6 ep6) ?_
        show mj_W mX8_from (mj_FI p) 47 [(2, .ref p2.1), (0, .ref v0), (1, .int v1)] [] p6 0 0
        refine mj_blk k_X8_ok 25 1 (pc' := 48) (l' := [(2, .ref p2.1), (0, .ref v0), (1, .int v1)]) (st' := [.ref v0]) rfl ?_
        obtain ⟨x7, ex7, hf⟩ := mj_bd hf
        refine mj_get 26 rfl fl_X8_19 (mj_gR_V ex7) ?_
        refine mj_blk k_X8_ok 27 1 (pc' := 52) (l' := [(2, .ref p2.1), (0, .ref v0), (1, .int v1)]) (st' := [.ref p2.1, .ref x7]) rfl ?_
        obtain ⟨x8, ex8, hf⟩ := mj_bd hf
        refine mj_get 28 rfl fl_X8_294 (mj_gR_V ex8) ?_
        obtain ⟨gp9, hf⟩ := mj_gd hf
        obtain ⟨p9, ep9, hf⟩ := mj_bd hf
        refine mj_callV (T := TX3) (N := 5) (ci := 3) mX3_become [.ref x8] 29 rfl ll_X8_295 lb_X3_become li_X3_become ⟨Nat.le_of_ble_eq_true rfl, Nat.le_of_ble_eq_true rfl⟩ rfl gp9 rfl (rest := []) rfl (Nat.le_of_ble_eq_true rfl) ⟨Nat.le_of_ble_eq_true rfl, Nat.le_of_ble_eq_true rfl⟩ (c_X3_become x7 x8 p6 p9 ep9) ?_
        show mj_W mX8_from (mj_FI p) 58 [(2, .ref p2.1), (0, .ref v0), (1, .int v1)] [] p9 0 0
        refine mj_blk k_X8_ok 30 1 (pc' := 59) (l' := [(2, .ref p2.1), (0, .ref v0), (1, .int v1)]) (st' := [.int (1 : Int32)]) rfl ?_
        obtain rfl := Option.some.inj hf
        exact mj_end (some (.int (1 : Int32))) ⟨mj_dec tok_X8_from (a := 31) rfl, .int, rfl, rfl⟩ ⟨rfl, rfl⟩ (Nat.le_of_ble_eq_true rfl) (Nat.le_of_ble_eq_true rfl)
      · have hf := (if_pos q).symm.trans hf
        refine mj_blk k_X8_ok 16 2 (pc' := 32) (l' := [(2, .ref p2.1), (0, .ref v0), (1, .int v1)]) (st' := [.int (-3 : Int32), .ref v0]) rfl ?_
        obtain ⟨gp10, hf⟩ := mj_gd hf
        obtain ⟨p10, ep10, hf⟩ := mj_bd hf
        refine mj_callV (T := TX8) (N := 14) (ci := 8) mX8_refused [.int (-3 : Int32)] 18 rfl ll_X8_102 lb_X8_refused li_X8_refused ⟨Nat.le_of_ble_eq_true rfl, Nat.le_of_ble_eq_true rfl⟩ rfl gp10 rfl (rest := []) rfl (Nat.le_of_ble_eq_true rfl) ⟨Nat.le_of_ble_eq_true rfl, Nat.le_of_ble_eq_true rfl⟩ (c_X8_refused v0 (-3 : Int32) p2.2 p10 ep10) ?_
        show mj_W mX8_from (mj_FI p) 35 [(2, .ref p2.1), (0, .ref v0), (1, .int v1)] [.int p10.1] p10.2 0 0
        obtain rfl := Option.some.inj hf
        exact mj_end (some (.int p10.1)) ⟨mj_dec tok_X8_from (a := 19) rfl, .int, rfl, rfl⟩ ⟨rfl, rfl⟩ (Nat.le_of_ble_eq_true rfl) (Nat.le_of_ble_eq_true rfl)
    · have hf := (if_neg q).symm.trans hf
      refine mj_locs [0] (l' := [(0, .ref v0)]) rfl ?_
      exact w_X8_from_9 v0 h _ hf
def f_X8_status (v0 : Nat) (v1 : Int32) (h : mj_H) : Option (Int32 × mj_H) := (if v1 = (0 : Int32) then (mj_gI h v0 8 11).bind fun x1 => some (x1, h) else (if v1 = (1 : Int32) then (mj_gI h v0 8 12).bind fun x2 => some (x2, h) else (if v1 = (2 : Int32) then (mj_gI h v0 8 13).bind fun x3 => some (x3, h) else (if mj_ob h v0 8 = true then (f_X8_refusedAs v0 (-2 : Int32) (-1 : Int32) h).bind fun p4 => some (p4.1, p4.2) else none))))
set_option maxHeartbeats 4000000 in
set_option maxRecDepth 100000 in
theorem c_X8_status (v0 : Nat) (v1 : Int32) (h : mj_H) (p : Int32 × mj_H) (hf : f_X8_status v0 v1 h = some p) : mj_Met mX8_status [.ref v0, .int v1] h (some (.int p.1)) p.2 := by
  refine mj_met pl_X8 tok_X8_status (Nat.le_of_ble_eq_true rfl) ?_
  show mj_W mX8_status (mj_FI p) 0 [(0, .ref v0), (1, .int v1)] [] h 0 0
  unfold f_X8_status at hf
  refine mj_blk k_X8_ok 0 1 (pc' := 1) (l' := [(0, .ref v0), (1, .int v1)]) (st' := [.int v1]) rfl ?_
  by_cases q0 : v1 = (0 : Int32)
  · have hf := (if_pos q0).symm.trans hf
    refine mj_swIn 1 (0 : Int32) 28 q0 rfl (by decide) (by decide) rfl (by decide) ?_
    refine mj_blk k_X8_ok 2 1 (pc' := 29) (l' := [(0, .ref v0), (1, .int v1)]) (st' := [.ref v0]) rfl ?_
    obtain ⟨x1, ex1, hf⟩ := mj_bd hf
    refine mj_get 3 rfl fl_X8_302 (mj_gI_V ex1) ?_
    obtain rfl := Option.some.inj hf
    exact mj_end (some (.int x1)) ⟨mj_dec tok_X8_status (a := 4) rfl, .int, rfl, rfl⟩ ⟨rfl, rfl⟩ (Nat.le_of_ble_eq_true rfl) (Nat.le_of_ble_eq_true rfl)
  have hf := (if_neg q0).symm.trans hf
  by_cases q1 : v1 = (1 : Int32)
  · have hf := (if_pos q1).symm.trans hf
    refine mj_swIn 1 (1 : Int32) 33 q1 rfl (by decide) (by decide) rfl (by decide) ?_
    refine mj_blk k_X8_ok 5 1 (pc' := 34) (l' := [(0, .ref v0), (1, .int v1)]) (st' := [.ref v0]) rfl ?_
    obtain ⟨x2, ex2, hf⟩ := mj_bd hf
    refine mj_get 6 rfl fl_X8_305 (mj_gI_V ex2) ?_
    obtain rfl := Option.some.inj hf
    exact mj_end (some (.int x2)) ⟨mj_dec tok_X8_status (a := 7) rfl, .int, rfl, rfl⟩ ⟨rfl, rfl⟩ (Nat.le_of_ble_eq_true rfl) (Nat.le_of_ble_eq_true rfl)
  have hf := (if_neg q1).symm.trans hf
  by_cases q2 : v1 = (2 : Int32)
  · have hf := (if_pos q2).symm.trans hf
    refine mj_swIn 1 (2 : Int32) 38 q2 rfl (by decide) (by decide) rfl (by decide) ?_
    refine mj_blk k_X8_ok 8 1 (pc' := 39) (l' := [(0, .ref v0), (1, .int v1)]) (st' := [.ref v0]) rfl ?_
    obtain ⟨x3, ex3, hf⟩ := mj_bd hf
    refine mj_get 9 rfl fl_X8_308 (mj_gI_V ex3) ?_
    obtain rfl := Option.some.inj hf
    exact mj_end (some (.int x3)) ⟨mj_dec tok_X8_status (a := 10) rfl, .int, rfl, rfl⟩ ⟨rfl, rfl⟩ (Nat.le_of_ble_eq_true rfl) (Nat.le_of_ble_eq_true rfl)
  have hf := (if_neg q2).symm.trans hf
  refine mj_swOut 1 43 rfl (by have z0 := mj_neI (i := 0) (by decide) q0; have z1 := mj_neI (i := 1) (by decide) q1; have z2 := mj_neI (i := 2) (by decide) q2; omega) (by decide) ?_
  refine mj_blk k_X8_ok 11 3 (pc' := 47) (l' := [(0, .ref v0), (1, .int v1)]) (st' := [.int (-1 : Int32), .int (-2 : Int32), .ref v0]) rfl ?_
  obtain ⟨gp4, hf⟩ := mj_gd hf
  obtain ⟨p4, ep4, hf⟩ := mj_bd hf
  refine mj_callV (T := TX8) (N := 14) (ci := 8) mX8_refusedAs [.int (-2 : Int32), .int (-1 : Int32)] 14 rfl ll_X8_202 lb_X8_refusedAs li_X8_refusedAs ⟨Nat.le_of_ble_eq_true rfl, Nat.le_of_ble_eq_true rfl⟩ rfl gp4 rfl (rest := []) rfl (Nat.le_of_ble_eq_true rfl) ⟨Nat.le_of_ble_eq_true rfl, Nat.le_of_ble_eq_true rfl⟩ (c_X8_refusedAs v0 (-2 : Int32) (-1 : Int32) h p4 ep4) ?_
  show mj_W mX8_status (mj_FI p) 50 [(0, .ref v0), (1, .int v1)] [.int p4.1] p4.2 0 0
  obtain rfl := Option.some.inj hf
  exact mj_end (some (.int p4.1)) ⟨mj_dec tok_X8_status (a := 15) rfl, .int, rfl, rfl⟩ ⟨rfl, rfl⟩ (Nat.le_of_ble_eq_true rfl) (Nat.le_of_ble_eq_true rfl)
def f_X8_howMany (v0 : Nat) (v1 : Int32) (h : mj_H) : Option (Int32 × mj_H) := (if v1 = (0 : Int32) then (mj_gR h v0 8 0).bind fun x1 => (mj_gI h x1 0 4).bind fun x2 => some (x2, h) else (if v1 = (1 : Int32) then (mj_gR h v0 8 0).bind fun x3 => (mj_gI h x3 0 6).bind fun x4 => some (x4, h) else (if v1 = (2 : Int32) then (mj_gR h v0 8 0).bind fun x5 => (if mj_ob h x5 0 = true then (f_X0_pairs x5 h).bind fun p6 => some (p6.1, p6.2) else none) else (if v1 = (3 : Int32) then (mj_gR h v0 8 0).bind fun x7 => (mj_gI h x7 0 5).bind fun x8 => (f_J6_bitCount_0f7a4 x8 h).bind fun p9 => some (p9.1, p9.2) else (if v1 = (4 : Int32) then (mj_gR h v0 8 1).bind fun x10 => (mj_gI h x10 3 4).bind fun x11 => some (x11, h) else (mj_gR h v0 8 4).bind fun x12 => (mj_gR h x12 4 0).bind fun x13 => (mj_gI h x13 7 1).bind fun x14 => some (x14, h))))))
set_option maxHeartbeats 4000000 in
set_option maxRecDepth 100000 in
theorem c_X8_howMany (v0 : Nat) (v1 : Int32) (h : mj_H) (p : Int32 × mj_H) (hf : f_X8_howMany v0 v1 h = some p) : mj_Met mX8_howMany [.ref v0, .int v1] h (some (.int p.1)) p.2 := by
  refine mj_met pl_X8 tok_X8_howMany (Nat.le_of_ble_eq_true rfl) ?_
  show mj_W mX8_howMany (mj_FI p) 0 [(0, .ref v0), (1, .int v1)] [] h 0 0
  unfold f_X8_howMany at hf
  refine mj_blk k_X8_ok 0 1 (pc' := 1) (l' := [(0, .ref v0), (1, .int v1)]) (st' := [.int v1]) rfl ?_
  by_cases q0 : v1 = (0 : Int32)
  · have hf := (if_pos q0).symm.trans hf
    refine mj_swIn 1 (0 : Int32) 36 q0 rfl (by decide) (by decide) rfl (by decide) ?_
    refine mj_blk k_X8_ok 2 1 (pc' := 37) (l' := [(0, .ref v0), (1, .int v1)]) (st' := [.ref v0]) rfl ?_
    obtain ⟨x1, ex1, hf⟩ := mj_bd hf
    refine mj_get 3 rfl fl_X8_10 (mj_gR_V ex1) ?_
    obtain ⟨x2, ex2, hf⟩ := mj_bd hf
    refine mj_get 4 rfl fl_X8_205 (mj_gI_V ex2) ?_
    obtain rfl := Option.some.inj hf
    exact mj_end (some (.int x2)) ⟨mj_dec tok_X8_howMany (a := 5) rfl, .int, rfl, rfl⟩ ⟨rfl, rfl⟩ (Nat.le_of_ble_eq_true rfl) (Nat.le_of_ble_eq_true rfl)
  have hf := (if_neg q0).symm.trans hf
  by_cases q1 : v1 = (1 : Int32)
  · have hf := (if_pos q1).symm.trans hf
    refine mj_swIn 1 (1 : Int32) 44 q1 rfl (by decide) (by decide) rfl (by decide) ?_
    refine mj_blk k_X8_ok 6 1 (pc' := 45) (l' := [(0, .ref v0), (1, .int v1)]) (st' := [.ref v0]) rfl ?_
    obtain ⟨x3, ex3, hf⟩ := mj_bd hf
    refine mj_get 7 rfl fl_X8_10 (mj_gR_V ex3) ?_
    obtain ⟨x4, ex4, hf⟩ := mj_bd hf
    refine mj_get 8 rfl fl_X8_136 (mj_gI_V ex4) ?_
    obtain rfl := Option.some.inj hf
    exact mj_end (some (.int x4)) ⟨mj_dec tok_X8_howMany (a := 9) rfl, .int, rfl, rfl⟩ ⟨rfl, rfl⟩ (Nat.le_of_ble_eq_true rfl) (Nat.le_of_ble_eq_true rfl)
  have hf := (if_neg q1).symm.trans hf
  by_cases q2 : v1 = (2 : Int32)
  · have hf := (if_pos q2).symm.trans hf
    refine mj_swIn 1 (2 : Int32) 52 q2 rfl (by decide) (by decide) rfl (by decide) ?_
    refine mj_blk k_X8_ok 10 1 (pc' := 53) (l' := [(0, .ref v0), (1, .int v1)]) (st' := [.ref v0]) rfl ?_
    obtain ⟨x5, ex5, hf⟩ := mj_bd hf
    refine mj_get 11 rfl fl_X8_10 (mj_gR_V ex5) ?_
    obtain ⟨gp6, hf⟩ := mj_gd hf
    obtain ⟨p6, ep6, hf⟩ := mj_bd hf
    refine mj_callV (T := TX0) (N := 7) (ci := 0) mX0_pairs [] 12 rfl ll_X8_318 lb_X0_pairs li_X0_pairs ⟨Nat.le_of_ble_eq_true rfl, Nat.le_of_ble_eq_true rfl⟩ rfl gp6 rfl (rest := []) rfl (Nat.le_of_ble_eq_true rfl) ⟨Nat.le_of_ble_eq_true rfl, Nat.le_of_ble_eq_true rfl⟩ (c_X0_pairs x5 h p6 ep6) ?_
    show mj_W mX8_howMany (mj_FI p) 59 [(0, .ref v0), (1, .int v1)] [.int p6.1] p6.2 0 0
    obtain rfl := Option.some.inj hf
    exact mj_end (some (.int p6.1)) ⟨mj_dec tok_X8_howMany (a := 13) rfl, .int, rfl, rfl⟩ ⟨rfl, rfl⟩ (Nat.le_of_ble_eq_true rfl) (Nat.le_of_ble_eq_true rfl)
  have hf := (if_neg q2).symm.trans hf
  by_cases q3 : v1 = (3 : Int32)
  · have hf := (if_pos q3).symm.trans hf
    refine mj_swIn 1 (3 : Int32) 60 q3 rfl (by decide) (by decide) rfl (by decide) ?_
    refine mj_blk k_X8_ok 14 1 (pc' := 61) (l' := [(0, .ref v0), (1, .int v1)]) (st' := [.ref v0]) rfl ?_
    obtain ⟨x7, ex7, hf⟩ := mj_bd hf
    refine mj_get 15 rfl fl_X8_10 (mj_gR_V ex7) ?_
    obtain ⟨x8, ex8, hf⟩ := mj_bd hf
    refine mj_get 16 rfl fl_X8_235 (mj_gI_V ex8) ?_
    obtain ⟨p9, ep9, hf⟩ := mj_bd hf
    refine mj_callS mJ6_bitCount_0f7a4 [.int x8] 17 rfl ll_X8_191 lb_J6_bitCount_0f7a4 li_J6_bitCount_0f7a4 ⟨Nat.le_of_ble_eq_true rfl, Nat.le_of_ble_eq_true rfl⟩ rfl (rest := []) rfl (Nat.le_of_ble_eq_true rfl) ⟨Nat.le_of_ble_eq_true rfl, Nat.le_of_ble_eq_true rfl⟩ (c_J6_bitCount_0f7a4 x8 h p9 ep9) ?_
    show mj_W mX8_howMany (mj_FI p) 70 [(0, .ref v0), (1, .int v1)] [.int p9.1] p9.2 0 0
    obtain rfl := Option.some.inj hf
    exact mj_end (some (.int p9.1)) ⟨mj_dec tok_X8_howMany (a := 18) rfl, .int, rfl, rfl⟩ ⟨rfl, rfl⟩ (Nat.le_of_ble_eq_true rfl) (Nat.le_of_ble_eq_true rfl)
  have hf := (if_neg q3).symm.trans hf
  by_cases q4 : v1 = (4 : Int32)
  · have hf := (if_pos q4).symm.trans hf
    refine mj_swIn 1 (4 : Int32) 71 q4 rfl (by decide) (by decide) rfl (by decide) ?_
    refine mj_blk k_X8_ok 19 1 (pc' := 72) (l' := [(0, .ref v0), (1, .int v1)]) (st' := [.ref v0]) rfl ?_
    obtain ⟨x10, ex10, hf⟩ := mj_bd hf
    refine mj_get 20 rfl fl_X8_19 (mj_gR_V ex10) ?_
    obtain ⟨x11, ex11, hf⟩ := mj_bd hf
    refine mj_get 21 rfl fl_X8_321 (mj_gI_V ex11) ?_
    obtain rfl := Option.some.inj hf
    exact mj_end (some (.int x11)) ⟨mj_dec tok_X8_howMany (a := 22) rfl, .int, rfl, rfl⟩ ⟨rfl, rfl⟩ (Nat.le_of_ble_eq_true rfl) (Nat.le_of_ble_eq_true rfl)
  have hf := (if_neg q4).symm.trans hf
  refine mj_swOut 1 79 rfl (by have z0 := mj_neI (i := 0) (by decide) q0; have z1 := mj_neI (i := 1) (by decide) q1; have z2 := mj_neI (i := 2) (by decide) q2; have z3 := mj_neI (i := 3) (by decide) q3; have z4 := mj_neI (i := 4) (by decide) q4; omega) (by decide) ?_
  refine mj_blk k_X8_ok 23 1 (pc' := 80) (l' := [(0, .ref v0), (1, .int v1)]) (st' := [.ref v0]) rfl ?_
  obtain ⟨x12, ex12, hf⟩ := mj_bd hf
  refine mj_get 24 rfl fl_X8_36 (mj_gR_V ex12) ?_
  obtain ⟨x13, ex13, hf⟩ := mj_bd hf
  refine mj_get 25 rfl fl_X8_93 (mj_gR_V ex13) ?_
  obtain ⟨x14, ex14, hf⟩ := mj_bd hf
  refine mj_get 26 rfl fl_X8_322 (mj_gI_V ex14) ?_
  obtain rfl := Option.some.inj hf
  exact mj_end (some (.int x14)) ⟨mj_dec tok_X8_howMany (a := 27) rfl, .int, rfl, rfl⟩ ⟨rfl, rfl⟩ (Nat.le_of_ble_eq_true rfl) (Nat.le_of_ble_eq_true rfl)
def f_X8_count_9 (v0 : Nat) (h : mj_H) : Option (Int32 × mj_H) := (if mj_ob h v0 8 = true then (f_X8_refused v0 (-2 : Int32) h).bind fun p1 => some (p1.1, p1.2) else none)
set_option maxHeartbeats 4000000 in
set_option maxRecDepth 100000 in
theorem w_X8_count_9 (v0 : Nat) (h : mj_H) (p : Int32 × mj_H) (hf : f_X8_count_9  v0 h = some p) : mj_W mX8_count (mj_FI p) 9 [(0, .ref v0)] [] h 0 0 := by
  unfold f_X8_count_9 at hf
  refine mj_blk k_X8_ok 5 2 (pc' := 12) (l' := [(0, .ref v0)]) (st' := [.int (-2 : Int32), .ref v0]) rfl ?_
  obtain ⟨gp1, hf⟩ := mj_gd hf
  obtain ⟨p1, ep1, hf⟩ := mj_bd hf
  refine mj_callV (T := TX8) (N := 14) (ci := 8) mX8_refused [.int (-2 : Int32)] 7 rfl ll_X8_102 lb_X8_refused li_X8_refused ⟨Nat.le_of_ble_eq_true rfl, Nat.le_of_ble_eq_true rfl⟩ rfl gp1 rfl (rest := []) rfl (Nat.le_of_ble_eq_true rfl) ⟨Nat.le_of_ble_eq_true rfl, Nat.le_of_ble_eq_true rfl⟩ (c_X8_refused v0 (-2 : Int32) h p1 ep1) ?_
  show mj_W mX8_count (mj_FI p) 15 [(0, .ref v0)] [.int p1.1] p1.2 0 0
  refine mj_blk k_X8_ok 8 1 (pc' := 23) (l' := [(0, .ref v0)]) (st' := [.int p1.1]) rfl ?_
  obtain rfl := Option.some.inj hf
  exact mj_end (some (.int p1.1)) ⟨mj_dec tok_X8_count (a := 12) rfl, .int, rfl, rfl⟩ ⟨rfl, rfl⟩ (Nat.le_of_ble_eq_true rfl) (Nat.le_of_ble_eq_true rfl)
def f_X8_count (v0 : Nat) (v1 : Int32) (h : mj_H) : Option (Int32 × mj_H) := (if v1 < 0 then f_X8_count_9 v0 h else (if v1 ≤ (5 : Int32) then (if mj_ob h v0 8 = true then (f_X8_howMany v0 v1 h).bind fun p2 => some (p2.1, p2.2) else none) else f_X8_count_9 v0 h))
set_option maxHeartbeats 4000000 in
set_option maxRecDepth 100000 in
theorem c_X8_count (v0 : Nat) (v1 : Int32) (h : mj_H) (p : Int32 × mj_H) (hf : f_X8_count v0 v1 h = some p) : mj_Met mX8_count [.ref v0, .int v1] h (some (.int p.1)) p.2 := by
  refine mj_met pl_X8 tok_X8_count (Nat.le_of_ble_eq_true rfl) ?_
  show mj_W mX8_count (mj_FI p) 0 [(0, .ref v0), (1, .int v1)] [] h 0 0
  unfold f_X8_count at hf
  refine mj_blk k_X8_ok 0 1 (pc' := 1) (l' := [(0, .ref v0), (1, .int v1)]) (st' := [.int v1]) rfl ?_
  refine mj_if_lt 1 9 rfl (by decide) (fun q => ?_) (fun q => ?_)
  · have hf := (if_pos q).symm.trans hf
    refine mj_locs [0] (l' := [(0, .ref v0)]) rfl ?_
    exact w_X8_count_9 v0 h _ hf
  · have hf := (if_neg q).symm.trans hf
    refine mj_blk k_X8_ok 2 2 (pc' := 6) (l' := [(0, .ref v0), (1, .int v1)]) (st' := [.int (5 : Int32), .int v1]) rfl ?_
    refine mj_icmp_le 4 18 rfl (by decide) (fun q => ?_) (fun q => ?_)
    · have hf := (if_pos q).symm.trans hf
      refine mj_blk k_X8_ok 9 2 (pc' := 20) (l' := [(0, .ref v0), (1, .int v1)]) (st' := [.int v1, .ref v0]) rfl ?_
      obtain ⟨gp2, hf⟩ := mj_gd hf
      obtain ⟨p2, ep2, hf⟩ := mj_bd hf
      refine mj_callV (T := TX8) (N := 14) (ci := 8) mX8_howMany [.int v1] 11 rfl ll_X8_311 lb_X8_howMany li_X8_howMany ⟨Nat.le_of_ble_eq_true rfl, Nat.le_of_ble_eq_true rfl⟩ rfl gp2 rfl (rest := []) rfl (Nat.le_of_ble_eq_true rfl) ⟨Nat.le_of_ble_eq_true rfl, Nat.le_of_ble_eq_true rfl⟩ (c_X8_howMany v0 v1 h p2 ep2) ?_
      show mj_W mX8_count (mj_FI p) 23 [(0, .ref v0), (1, .int v1)] [.int p2.1] p2.2 0 0
      obtain rfl := Option.some.inj hf
      exact mj_end (some (.int p2.1)) ⟨mj_dec tok_X8_count (a := 12) rfl, .int, rfl, rfl⟩ ⟨rfl, rfl⟩ (Nat.le_of_ble_eq_true rfl) (Nat.le_of_ble_eq_true rfl)
    · have hf := (if_neg q).symm.trans hf
      refine mj_locs [0] (l' := [(0, .ref v0)]) rfl ?_
      exact w_X8_count_9 v0 h _ hf
def f_X8_digest_129 (K32 : Nat → Int64 → Int32 → mj_H → Option (Int64 × mj_H)) (v0 : Nat) (v3 : Int32) (s0 : Int64) (s1 : Int32) (h : mj_H) : Option (Int64 × mj_H) := K32 v0 (s0 + ((s1).toInt64)) (v3 + (1 : Int32)) h
set_option maxHeartbeats 4000000 in
set_option maxRecDepth 100000 in
theorem w_X8_digest_129 (K32 : Nat → Int64 → Int32 → mj_H → Option (Int64 × mj_H)) (hK32 : ∀ (v0 : Nat) (v1 : Int64) (v3 : Int32)  (h : mj_H) (p : Int64 × mj_H), K32 v0 v1 v3 h = some p → mj_W mX8_digest (mj_FJ p) 32 [(0, .ref v0), (1, .long v1), (3, .int v3)] [] h 0 0) (v0 : Nat) (v3 : Int32) (s0 : Int64) (s1 : Int32) (h : mj_H) (p : Int64 × mj_H) (hf : f_X8_digest_129 K32 v0 v3 s0 s1 h = some p) : mj_W mX8_digest (mj_FJ p) 129 [(0, .ref v0), (3, .int v3)] [.int s1, .long s0] h 0 0 := by
  unfold f_X8_digest_129 at hf
  refine mj_blk k_X8_ok 73 5 (pc' := 32) (l' := [(3, .int (v3 + (1 : Int32))), (1, .long (s0 + ((s1).toInt64))), (0, .ref v0)]) (st' := []) rfl ?_
  refine mj_locs [2, 1, 0] (l' := [(0, .ref v0), (1, .long (s0 + ((s1).toInt64))), (3, .int (v3 + (1 : Int32)))]) rfl ?_
  exact hK32 v0 (s0 + ((s1).toInt64)) (v3 + (1 : Int32)) h _ hf
def b_X8_digest_46 (K32 : Nat → Int64 → Int32 → mj_H → Option (Int64 × mj_H)) (K46 : Nat → Int64 → Int32 → Int32 → mj_H → Option (Int64 × mj_H)) (v0 : Nat) (v1 : Int64) (v3 : Int32) (v4 : Int32) (h : mj_H) : Option (Int64 × mj_H) := (if (6 : Int32) ≤ v4 then (mj_gR h v0 8 0).bind fun x1 => (if mj_ob h x1 0 = true then (f_X0_signsOf x1 v3 h).bind fun p2 => (mj_gR p2.2 v0 8 0).bind fun x3 => (if mj_ob p2.2 x3 0 = true then (f_X0_brothersOf x3 v3 p2.2).bind fun p4 => (mj_gR p4.2 v0 8 0).bind fun x5 => (if mj_ob p4.2 x5 0 = true then (f_X0_knows x5 v3 p4.2).bind fun p6 => (if p6.1 = 0 then f_X8_digest_129 K32 v0 v3 ((31 : Int64) * (((31 : Int64) * (((31 : Int64) * v1) + ((p2.1).toInt64))) + ((p4.1).toInt64))) (0 : Int32) p6.2 else f_X8_digest_129 K32 v0 v3 ((31 : Int64) * (((31 : Int64) * (((31 : Int64) * v1) + ((p2.1).toInt64))) + ((p4.1).toInt64))) (1 : Int32) p6.2) else none) else none) else none) else (mj_gR h v0 8 0).bind fun x7 => (if mj_ob h x7 0 = true then (f_X0_weightOf x7 v3 v4 h).bind fun p8 => K46 v0 (((31 : Int64) * v1) + p8.1) v3 (v4 + (1 : Int32)) p8.2 else none))
set_option maxHeartbeats 4000000 in
set_option maxRecDepth 100000 in
theorem wb_X8_digest_46 (K32 : Nat → Int64 → Int32 → mj_H → Option (Int64 × mj_H)) (hK32 : ∀ (v0 : Nat) (v1 : Int64) (v3 : Int32)  (h : mj_H) (p : Int64 × mj_H), K32 v0 v1 v3 h = some p → mj_W mX8_digest (mj_FJ p) 32 [(0, .ref v0), (1, .long v1), (3, .int v3)] [] h 0 0) (K46 : Nat → Int64 → Int32 → Int32 → mj_H → Option (Int64 × mj_H)) (hK46 : ∀ (v0 : Nat) (v1 : Int64) (v3 : Int32) (v4 : Int32)  (h : mj_H) (p : Int64 × mj_H), K46 v0 v1 v3 v4 h = some p → mj_W mX8_digest (mj_FJ p) 46 [(0, .ref v0), (1, .long v1), (3, .int v3), (4, .int v4)] [] h 0 0) (v0 : Nat) (v1 : Int64) (v3 : Int32) (v4 : Int32) (h : mj_H) (p : Int64 × mj_H) (hf : b_X8_digest_46 K32 K46 v0 v1 v3 v4 h = some p) : mj_W mX8_digest (mj_FJ p) 46 [(0, .ref v0), (1, .long v1), (3, .int v3), (4, .int v4)] [] h 0 0 := by
  unfold b_X8_digest_46 at hf
  refine mj_blk k_X8_ok 27 2 (pc' := 50) (l' := [(0, .ref v0), (1, .long v1), (3, .int v3), (4, .int v4)]) (st' := [.int (6 : Int32), .int v4]) rfl ?_
  refine mj_icmp_ge 29 76 rfl (by decide) (fun q => ?_) (fun q => ?_)
  · have hf := (if_pos q).symm.trans hf
    refine mj_blk k_X8_ok 42 4 (pc' := 82) (l' := [(0, .ref v0), (1, .long v1), (3, .int v3), (4, .int v4)]) (st' := [.ref v0, .long ((31 : Int64) * v1)]) rfl ?_
    obtain ⟨x1, ex1, hf⟩ := mj_bd hf
    refine mj_get 46 rfl fl_X8_10 (mj_gR_V ex1) ?_
    refine mj_blk k_X8_ok 47 1 (pc' := 86) (l' := [(0, .ref v0), (1, .long v1), (3, .int v3), (4, .int v4)]) (st' := [.int v3, .ref x1, .long ((31 : Int64) * v1)]) rfl ?_
    obtain ⟨gp2, hf⟩ := mj_gd hf
    obtain ⟨p2, ep2, hf⟩ := mj_bd hf
    refine mj_callV (T := TX0) (N := 7) (ci := 0) mX0_signsOf [.int v3] 48 rfl ll_X8_167 lb_X0_signsOf li_X0_signsOf ⟨Nat.le_of_ble_eq_true rfl, Nat.le_of_ble_eq_true rfl⟩ rfl gp2 rfl (rest := [.long ((31 : Int64) * v1)]) rfl (Nat.le_of_ble_eq_true rfl) ⟨Nat.le_of_ble_eq_true rfl, Nat.le_of_ble_eq_true rfl⟩ (c_X0_signsOf x1 v3 h p2 ep2) ?_
    show mj_W mX8_digest (mj_FJ p) 89 [(0, .ref v0), (1, .long v1), (3, .int v3), (4, .int v4)] [.int p2.1, .long ((31 : Int64) * v1)] p2.2 0 0
    refine mj_blk k_X8_ok 49 7 (pc' := 98) (l' := [(1, .long (((31 : Int64) * v1) + ((p2.1).toInt64))), (0, .ref v0), (3, .int v3), (4, .int v4)]) (st' := [.ref v0, .long ((31 : Int64) * (((31 : Int64) * v1) + ((p2.1).toInt64)))]) rfl ?_
    obtain ⟨x3, ex3, hf⟩ := mj_bd hf
    refine mj_get 56 rfl fl_X8_10 (mj_gR_V ex3) ?_
    refine mj_blk k_X8_ok 57 1 (pc' := 102) (l' := [(1, .long (((31 : Int64) * v1) + ((p2.1).toInt64))), (0, .ref v0), (3, .int v3), (4, .int v4)]) (st' := [.int v3, .ref x3, .long ((31 : Int64) * (((31 : Int64) * v1) + ((p2.1).toInt64)))]) rfl ?_
    obtain ⟨gp4, hf⟩ := mj_gd hf
    obtain ⟨p4, ep4, hf⟩ := mj_bd hf
    refine mj_callV (T := TX0) (N := 7) (ci := 0) mX0_brothersOf [.int v3] 58 rfl ll_X8_170 lb_X0_brothersOf li_X0_brothersOf ⟨Nat.le_of_ble_eq_true rfl, Nat.le_of_ble_eq_true rfl⟩ rfl gp4 rfl (rest := [.long ((31 : Int64) * (((31 : Int64) * v1) + ((p2.1).toInt64)))]) rfl (Nat.le_of_ble_eq_true rfl) ⟨Nat.le_of_ble_eq_true rfl, Nat.le_of_ble_eq_true rfl⟩ (c_X0_brothersOf x3 v3 p2.2 p4 ep4) ?_
    show mj_W mX8_digest (mj_FJ p) 105 [(1, .long (((31 : Int64) * v1) + ((p2.1).toInt64))), (0, .ref v0), (3, .int v3), (4, .int v4)] [.int p4.1, .long ((31 : Int64) * (((31 : Int64) * v1) + ((p2.1).toInt64)))] p4.2 0 0
    refine mj_blk k_X8_ok 59 7 (pc' := 114) (l' := [(1, .long (((31 : Int64) * (((31 : Int64) * v1) + ((p2.1).toInt64))) + ((p4.1).toInt64))), (0, .ref v0), (3, .int v3), (4, .int v4)]) (st' := [.ref v0, .long ((31 : Int64) * (((31 : Int64) * (((31 : Int64) * v1) + ((p2.1).toInt64))) + ((p4.1).toInt64)))]) rfl ?_
    obtain ⟨x5, ex5, hf⟩ := mj_bd hf
    refine mj_get 66 rfl fl_X8_10 (mj_gR_V ex5) ?_
    refine mj_blk k_X8_ok 67 1 (pc' := 118) (l' := [(1, .long (((31 : Int64) * (((31 : Int64) * v1) + ((p2.1).toInt64))) + ((p4.1).toInt64))), (0, .ref v0), (3, .int v3), (4, .int v4)]) (st' := [.int v3, .ref x5, .long ((31 : Int64) * (((31 : Int64) * (((31 : Int64) * v1) + ((p2.1).toInt64))) + ((p4.1).toInt64)))]) rfl ?_
    obtain ⟨gp6, hf⟩ := mj_gd hf
    obtain ⟨p6, ep6, hf⟩ := mj_bd hf
    refine mj_callV (T := TX0) (N := 7) (ci := 0) mX0_knows [.int v3] 68 rfl ll_X8_173 lb_X0_knows li_X0_knows ⟨Nat.le_of_ble_eq_true rfl, Nat.le_of_ble_eq_true rfl⟩ rfl gp6 rfl (rest := [.long ((31 : Int64) * (((31 : Int64) * (((31 : Int64) * v1) + ((p2.1).toInt64))) + ((p4.1).toInt64)))]) rfl (Nat.le_of_ble_eq_true rfl) ⟨Nat.le_of_ble_eq_true rfl, Nat.le_of_ble_eq_true rfl⟩ (c_X0_knows x5 v3 p4.2 p6 ep6) ?_
    show mj_W mX8_digest (mj_FJ p) 121 [(1, .long (((31 : Int64) * (((31 : Int64) * v1) + ((p2.1).toInt64))) + ((p4.1).toInt64))), (0, .ref v0), (3, .int v3), (4, .int v4)] [.int p6.1, .long ((31 : Int64) * (((31 : Int64) * (((31 : Int64) * v1) + ((p2.1).toInt64))) + ((p4.1).toInt64)))] p6.2 0 0
    refine mj_if_eq 69 128 rfl (by decide) (fun q => ?_) (fun q => ?_)
    · have hf := (if_pos q).symm.trans hf
      refine mj_blk k_X8_ok 72 1 (pc' := 129) (l' := [(1, .long (((31 : Int64) * (((31 : Int64) * v1) + ((p2.1).toInt64))) + ((p4.1).toInt64))), (0, .ref v0), (3, .int v3), (4, .int v4)]) (st' := [.int (0 : Int32), .long ((31 : Int64) * (((31 : Int64) * (((31 : Int64) * v1) + ((p2.1).toInt64))) + ((p4.1).toInt64)))]) rfl ?_
      refine mj_locs [1, 2] (l' := [(0, .ref v0), (3, .int v3)]) rfl ?_
      exact w_X8_digest_129 K32 hK32 v0 v3 ((31 : Int64) * (((31 : Int64) * (((31 : Int64) * v1) + ((p2.1).toInt64))) + ((p4.1).toInt64))) (0 : Int32) p6.2 _ hf
    · have hf := (if_neg q).symm.trans hf
      refine mj_blk k_X8_ok 70 2 (pc' := 129) (l' := [(1, .long (((31 : Int64) * (((31 : Int64) * v1) + ((p2.1).toInt64))) + ((p4.1).toInt64))), (0, .ref v0), (3, .int v3), (4, .int v4)]) (st' := [.int (1 : Int32), .long ((31 : Int64) * (((31 : Int64) * (((31 : Int64) * v1) + ((p2.1).toInt64))) + ((p4.1).toInt64)))]) rfl ?_
      refine mj_locs [1, 2] (l' := [(0, .ref v0), (3, .int v3)]) rfl ?_
      exact w_X8_digest_129 K32 hK32 v0 v3 ((31 : Int64) * (((31 : Int64) * (((31 : Int64) * v1) + ((p2.1).toInt64))) + ((p4.1).toInt64))) (1 : Int32) p6.2 _ hf
  · have hf := (if_neg q).symm.trans hf
    refine mj_blk k_X8_ok 30 4 (pc' := 59) (l' := [(0, .ref v0), (1, .long v1), (3, .int v3), (4, .int v4)]) (st' := [.ref v0, .long ((31 : Int64) * v1)]) rfl ?_
    obtain ⟨x7, ex7, hf⟩ := mj_bd hf
    refine mj_get 34 rfl fl_X8_10 (mj_gR_V ex7) ?_
    refine mj_blk k_X8_ok 35 2 (pc' := 65) (l' := [(0, .ref v0), (1, .long v1), (3, .int v3), (4, .int v4)]) (st' := [.int v4, .int v3, .ref x7, .long ((31 : Int64) * v1)]) rfl ?_
    obtain ⟨gp8, hf⟩ := mj_gd hf
    obtain ⟨p8, ep8, hf⟩ := mj_bd hf
    refine mj_callV (T := TX0) (N := 7) (ci := 0) mX0_weightOf [.int v3, .int v4] 37 rfl ll_X8_156 lb_X0_weightOf li_X0_weightOf ⟨Nat.le_of_ble_eq_true rfl, Nat.le_of_ble_eq_true rfl⟩ rfl gp8 rfl (rest := [.long ((31 : Int64) * v1)]) rfl (Nat.le_of_ble_eq_true rfl) ⟨Nat.le_of_ble_eq_true rfl, Nat.le_of_ble_eq_true rfl⟩ (c_X0_weightOf x7 v3 v4 h p8 ep8) ?_
    show mj_W mX8_digest (mj_FJ p) 68 [(0, .ref v0), (1, .long v1), (3, .int v3), (4, .int v4)] [.long p8.1, .long ((31 : Int64) * v1)] p8.2 0 0
    refine mj_blk k_X8_ok 38 4 (pc' := 46) (l' := [(4, .int (v4 + (1 : Int32))), (1, .long (((31 : Int64) * v1) + p8.1)), (0, .ref v0), (3, .int v3)]) (st' := []) rfl ?_
    refine mj_locs [2, 1, 3, 0] (l' := [(0, .ref v0), (1, .long (((31 : Int64) * v1) + p8.1)), (3, .int v3), (4, .int (v4 + (1 : Int32)))]) rfl ?_
    exact hK46 v0 (((31 : Int64) * v1) + p8.1) v3 (v4 + (1 : Int32)) p8.2 _ hf
def f_X8_digest_46 (K32 : Nat → Int64 → Int32 → mj_H → Option (Int64 × mj_H)) (v0 : Nat) (v1 : Int64) (v3 : Int32) (v4 : Int32) (h : mj_H) : Option (Int64 × mj_H) := mj_fix (fun (K46 : (Nat × Int64 × Int32 × Int32 × mj_H) → Option (Int64 × mj_H)) (s : Nat × Int64 × Int32 × Int32 × mj_H) => b_X8_digest_46 K32 (fun v0 v1 v3 v4 h => K46 (v0, v1, v3, v4, h)) s.1 s.2.1 s.2.2.1 s.2.2.2.1 s.2.2.2.2) 1000 (v0, v1, v3, v4, h)
set_option maxHeartbeats 4000000 in
set_option maxRecDepth 100000 in
theorem w_X8_digest_46 (K32 : Nat → Int64 → Int32 → mj_H → Option (Int64 × mj_H)) (hK32 : ∀ (v0 : Nat) (v1 : Int64) (v3 : Int32)  (h : mj_H) (p : Int64 × mj_H), K32 v0 v1 v3 h = some p → mj_W mX8_digest (mj_FJ p) 32 [(0, .ref v0), (1, .long v1), (3, .int v3)] [] h 0 0) (v0 : Nat) (v1 : Int64) (v3 : Int32) (v4 : Int32) (h : mj_H) (p : Int64 × mj_H) (hf : f_X8_digest_46 K32 v0 v1 v3 v4 h = some p) : mj_W mX8_digest (mj_FJ p) 46 [(0, .ref v0), (1, .long v1), (3, .int v3), (4, .int v4)] [] h 0 0 := by
  unfold f_X8_digest_46 at hf
  exact mj_fix_ind (F := (fun (K46 : (Nat × Int64 × Int32 × Int32 × mj_H) → Option (Int64 × mj_H)) (s : Nat × Int64 × Int32 × Int32 × mj_H) => b_X8_digest_46 K32 (fun v0 v1 v3 v4 h => K46 (v0, v1, v3, v4, h)) s.1 s.2.1 s.2.2.1 s.2.2.2.1 s.2.2.2.2)) (P := fun s p => mj_W mX8_digest (mj_FJ p) 46 [(0, .ref s.1), (1, .long s.2.1), (3, .int s.2.2.1), (4, .int s.2.2.2.1)] [] s.2.2.2.2 0 0) (fun K46 hK46 s p hf => wb_X8_digest_46 K32 hK32 (fun v0 v1 v3 v4 h => K46 (v0, v1, v3, v4, h)) (fun v0 v1 v3 v4 h p e => hK46 (v0, v1, v3, v4, h) p e) s.1 s.2.1 s.2.2.1 s.2.2.2.1 s.2.2.2.2 p hf) 1000 (v0, v1, v3, v4, h) p hf
def b_X8_digest_32 (K32 : Nat → Int64 → Int32 → mj_H → Option (Int64 × mj_H)) (v0 : Nat) (v1 : Int64) (v3 : Int32) (h : mj_H) : Option (Int64 × mj_H) := (mj_gR h v0 8 0).bind fun x9 => (mj_gI h x9 0 4).bind fun x10 => (if x10 ≤ v3 then (mj_gJ h v0 8 9).bind fun x11 => (mj_gJ h v0 8 10).bind fun x12 => some ((((31 : Int64) * (((31 : Int64) * v1) + x11)) + x12), h) else f_X8_digest_46 K32 v0 v1 v3 (0 : Int32) h)
set_option maxHeartbeats 4000000 in
set_option maxRecDepth 100000 in
theorem wb_X8_digest_32 (K32 : Nat → Int64 → Int32 → mj_H → Option (Int64 × mj_H)) (hK32 : ∀ (v0 : Nat) (v1 : Int64) (v3 : Int32)  (h : mj_H) (p : Int64 × mj_H), K32 v0 v1 v3 h = some p → mj_W mX8_digest (mj_FJ p) 32 [(0, .ref v0), (1, .long v1), (3, .int v3)] [] h 0 0) (v0 : Nat) (v1 : Int64) (v3 : Int32) (h : mj_H) (p : Int64 × mj_H) (hf : b_X8_digest_32  K32 v0 v1 v3 h = some p) : mj_W mX8_digest (mj_FJ p) 32 [(0, .ref v0), (1, .long v1), (3, .int v3)] [] h 0 0 := by
  unfold b_X8_digest_32 at hf
  refine mj_blk k_X8_ok 20 2 (pc' := 34) (l' := [(0, .ref v0), (1, .long v1), (3, .int v3)]) (st' := [.ref v0, .int v3]) rfl ?_
  obtain ⟨x9, ex9, hf⟩ := mj_bd hf
  refine mj_get 22 rfl fl_X8_10 (mj_gR_V ex9) ?_
  obtain ⟨x10, ex10, hf⟩ := mj_bd hf
  refine mj_get 23 rfl fl_X8_205 (mj_gI_V ex10) ?_
  refine mj_icmp_ge 24 138 rfl (by decide) (fun q => ?_) (fun q => ?_)
  · have hf := (if_pos q).symm.trans hf
    refine mj_blk k_X8_ok 78 4 (pc' := 144) (l' := [(0, .ref v0), (1, .long v1), (3, .int v3)]) (st' := [.ref v0, .long ((31 : Int64) * v1)]) rfl ?_
    obtain ⟨x11, ex11, hf⟩ := mj_bd hf
    refine mj_get 82 rfl fl_X8_65 (mj_gJ_V ex11) ?_
    refine mj_blk k_X8_ok 83 6 (pc' := 155) (l' := [(1, .long (((31 : Int64) * v1) + x11)), (0, .ref v0), (3, .int v3)]) (st' := [.ref v0, .long ((31 : Int64) * (((31 : Int64) * v1) + x11))]) rfl ?_
    obtain ⟨x12, ex12, hf⟩ := mj_bd hf
    refine mj_get 89 rfl fl_X8_69 (mj_gJ_V ex12) ?_
    refine mj_blk k_X8_ok 90 1 (pc' := 159) (l' := [(1, .long (((31 : Int64) * v1) + x11)), (0, .ref v0), (3, .int v3)]) (st' := [.long (((31 : Int64) * (((31 : Int64) * v1) + x11)) + x12)]) rfl ?_
    obtain rfl := Option.some.inj hf
    exact mj_end (some (.long (((31 : Int64) * (((31 : Int64) * v1) + x11)) + x12))) ⟨mj_dec tok_X8_digest (a := 91) rfl, rfl⟩ ⟨rfl, rfl⟩ (Nat.le_of_ble_eq_true rfl) (Nat.le_of_ble_eq_true rfl)
  · have hf := (if_neg q).symm.trans hf
    refine mj_blk k_X8_ok 25 2 (pc' := 46) (l' := [(4, .int (0 : Int32)), (0, .ref v0), (1, .long v1), (3, .int v3)]) (st' := []) rfl ?_
    refine mj_locs [1, 2, 3, 0] (l' := [(0, .ref v0), (1, .long v1), (3, .int v3), (4, .int (0 : Int32))]) rfl ?_
    exact w_X8_digest_46 K32 hK32 v0 v1 v3 (0 : Int32) h _ hf
def f_X8_digest_32 (v0 : Nat) (v1 : Int64) (v3 : Int32) (h : mj_H) : Option (Int64 × mj_H) := mj_fix (fun (K32 : (Nat × Int64 × Int32 × mj_H) → Option (Int64 × mj_H)) (s : Nat × Int64 × Int32 × mj_H) => b_X8_digest_32  (fun v0 v1 v3 h => K32 (v0, v1, v3, h)) s.1 s.2.1 s.2.2.1 s.2.2.2) 1000 (v0, v1, v3, h)
set_option maxHeartbeats 4000000 in
set_option maxRecDepth 100000 in
theorem w_X8_digest_32 (v0 : Nat) (v1 : Int64) (v3 : Int32) (h : mj_H) (p : Int64 × mj_H) (hf : f_X8_digest_32  v0 v1 v3 h = some p) : mj_W mX8_digest (mj_FJ p) 32 [(0, .ref v0), (1, .long v1), (3, .int v3)] [] h 0 0 := by
  unfold f_X8_digest_32 at hf
  exact mj_fix_ind (F := (fun (K32 : (Nat × Int64 × Int32 × mj_H) → Option (Int64 × mj_H)) (s : Nat × Int64 × Int32 × mj_H) => b_X8_digest_32  (fun v0 v1 v3 h => K32 (v0, v1, v3, h)) s.1 s.2.1 s.2.2.1 s.2.2.2)) (P := fun s p => mj_W mX8_digest (mj_FJ p) 32 [(0, .ref s.1), (1, .long s.2.1), (3, .int s.2.2.1)] [] s.2.2.2 0 0) (fun K32 hK32 s p hf => wb_X8_digest_32   (fun v0 v1 v3 h => K32 (v0, v1, v3, h)) (fun v0 v1 v3 h p e => hK32 (v0, v1, v3, h) p e) s.1 s.2.1 s.2.2.1 s.2.2.2 p hf) 1000 (v0, v1, v3, h) p hf
def b_X8_digest_6 (K6 : Nat → Int64 → Int32 → mj_H → Option (Int64 × mj_H)) (v0 : Nat) (v1 : Int64) (v3 : Int32) (h : mj_H) : Option (Int64 × mj_H) := (if (5 : Int32) < v3 then f_X8_digest_32 v0 v1 (0 : Int32) h else (if mj_ob h v0 8 = true then (f_X8_howMany v0 v3 h).bind fun p13 => K6 v0 (((31 : Int64) * v1) + ((p13.1).toInt64)) (v3 + (1 : Int32)) p13.2 else none))
set_option maxHeartbeats 4000000 in
set_option maxRecDepth 100000 in
theorem wb_X8_digest_6 (K6 : Nat → Int64 → Int32 → mj_H → Option (Int64 × mj_H)) (hK6 : ∀ (v0 : Nat) (v1 : Int64) (v3 : Int32)  (h : mj_H) (p : Int64 × mj_H), K6 v0 v1 v3 h = some p → mj_W mX8_digest (mj_FJ p) 6 [(0, .ref v0), (1, .long v1), (3, .int v3)] [] h 0 0) (v0 : Nat) (v1 : Int64) (v3 : Int32) (h : mj_H) (p : Int64 × mj_H) (hf : b_X8_digest_6  K6 v0 v1 v3 h = some p) : mj_W mX8_digest (mj_FJ p) 6 [(0, .ref v0), (1, .long v1), (3, .int v3)] [] h 0 0 := by
  unfold b_X8_digest_6 at hf
  refine mj_blk k_X8_ok 4 2 (pc' := 8) (l' := [(0, .ref v0), (1, .long v1), (3, .int v3)]) (st' := [.int (5 : Int32), .int v3]) rfl ?_
  refine mj_icmp_gt 6 30 rfl (by decide) (fun q => ?_) (fun q => ?_)
  · have hf := (if_pos q).symm.trans hf
    refine mj_blk k_X8_ok 18 2 (pc' := 32) (l' := [(3, .int (0 : Int32)), (0, .ref v0), (1, .long v1)]) (st' := []) rfl ?_
    refine mj_locs [1, 2, 0] (l' := [(0, .ref v0), (1, .long v1), (3, .int (0 : Int32))]) rfl ?_
    exact w_X8_digest_32 v0 v1 (0 : Int32) h _ hf
  · have hf := (if_neg q).symm.trans hf
    refine mj_blk k_X8_ok 7 5 (pc' := 18) (l' := [(0, .ref v0), (1, .long v1), (3, .int v3)]) (st' := [.int v3, .ref v0, .long ((31 : Int64) * v1)]) rfl ?_
    obtain ⟨gp13, hf⟩ := mj_gd hf
    obtain ⟨p13, ep13, hf⟩ := mj_bd hf
    refine mj_callV (T := TX8) (N := 14) (ci := 8) mX8_howMany [.int v3] 12 rfl ll_X8_311 lb_X8_howMany li_X8_howMany ⟨Nat.le_of_ble_eq_true rfl, Nat.le_of_ble_eq_true rfl⟩ rfl gp13 rfl (rest := [.long ((31 : Int64) * v1)]) rfl (Nat.le_of_ble_eq_true rfl) ⟨Nat.le_of_ble_eq_true rfl, Nat.le_of_ble_eq_true rfl⟩ (c_X8_howMany v0 v3 h p13 ep13) ?_
    show mj_W mX8_digest (mj_FJ p) 21 [(0, .ref v0), (1, .long v1), (3, .int v3)] [.int p13.1, .long ((31 : Int64) * v1)] p13.2 0 0
    refine mj_blk k_X8_ok 13 5 (pc' := 6) (l' := [(3, .int (v3 + (1 : Int32))), (1, .long (((31 : Int64) * v1) + ((p13.1).toInt64))), (0, .ref v0)]) (st' := []) rfl ?_
    refine mj_locs [2, 1, 0] (l' := [(0, .ref v0), (1, .long (((31 : Int64) * v1) + ((p13.1).toInt64))), (3, .int (v3 + (1 : Int32)))]) rfl ?_
    exact hK6 v0 (((31 : Int64) * v1) + ((p13.1).toInt64)) (v3 + (1 : Int32)) p13.2 _ hf
def f_X8_digest_6 (v0 : Nat) (v1 : Int64) (v3 : Int32) (h : mj_H) : Option (Int64 × mj_H) := mj_fix (fun (K6 : (Nat × Int64 × Int32 × mj_H) → Option (Int64 × mj_H)) (s : Nat × Int64 × Int32 × mj_H) => b_X8_digest_6  (fun v0 v1 v3 h => K6 (v0, v1, v3, h)) s.1 s.2.1 s.2.2.1 s.2.2.2) 1000 (v0, v1, v3, h)
set_option maxHeartbeats 4000000 in
set_option maxRecDepth 100000 in
theorem w_X8_digest_6 (v0 : Nat) (v1 : Int64) (v3 : Int32) (h : mj_H) (p : Int64 × mj_H) (hf : f_X8_digest_6  v0 v1 v3 h = some p) : mj_W mX8_digest (mj_FJ p) 6 [(0, .ref v0), (1, .long v1), (3, .int v3)] [] h 0 0 := by
  unfold f_X8_digest_6 at hf
  exact mj_fix_ind (F := (fun (K6 : (Nat × Int64 × Int32 × mj_H) → Option (Int64 × mj_H)) (s : Nat × Int64 × Int32 × mj_H) => b_X8_digest_6  (fun v0 v1 v3 h => K6 (v0, v1, v3, h)) s.1 s.2.1 s.2.2.1 s.2.2.2)) (P := fun s p => mj_W mX8_digest (mj_FJ p) 6 [(0, .ref s.1), (1, .long s.2.1), (3, .int s.2.2.1)] [] s.2.2.2 0 0) (fun K6 hK6 s p hf => wb_X8_digest_6   (fun v0 v1 v3 h => K6 (v0, v1, v3, h)) (fun v0 v1 v3 h p e => hK6 (v0, v1, v3, h) p e) s.1 s.2.1 s.2.2.1 s.2.2.2 p hf) 1000 (v0, v1, v3, h) p hf
def f_X8_digest (v0 : Nat) (h : mj_H) : Option (Int64 × mj_H) := f_X8_digest_6 v0 (971 : Int64) (0 : Int32) h
set_option maxHeartbeats 4000000 in
set_option maxRecDepth 100000 in
theorem c_X8_digest (v0 : Nat) (h : mj_H) (p : Int64 × mj_H) (hf : f_X8_digest v0 h = some p) : mj_Met mX8_digest [.ref v0] h (some (.long p.1)) p.2 := by
  refine mj_met pl_X8 tok_X8_digest (Nat.le_of_ble_eq_true rfl) ?_
  show mj_W mX8_digest (mj_FJ p) 0 [(0, .ref v0)] [] h 0 0
  unfold f_X8_digest at hf
  refine mj_blk k_X8_ok 0 4 (pc' := 6) (l' := [(3, .int (0 : Int32)), (1, .long (971 : Int64)), (0, .ref v0)]) (st' := []) rfl ?_
  refine mj_locs [2, 1, 0] (l' := [(0, .ref v0), (1, .long (971 : Int64)), (3, .int (0 : Int32))]) rfl ?_
  exact w_X8_digest_6 v0 (971 : Int64) (0 : Int32) h _ hf
def b_X9_clean_2 (K2 : Nat → Int32 → Int32 → mj_H → Option (mj_H)) (v0 : Nat) (v1 : Int32) (v2 : Int32) (h : mj_H) : Option (mj_H) := (if (356 : Int32) ≤ v2 then (mj_gR h v0 9 0).bind fun x1 => (mj_uI h x1 (1 : Int32) v1).bind fun h2 => some h2 else (mj_gR h v0 9 0).bind fun x3 => (mj_uI h x3 v2 (0 : Int32)).bind fun h4 => K2 v0 v1 (v2 + (1 : Int32)) h4)
set_option maxHeartbeats 4000000 in
set_option maxRecDepth 100000 in
theorem wb_X9_clean_2 (K2 : Nat → Int32 → Int32 → mj_H → Option (mj_H)) (hK2 : ∀ (v0 : Nat) (v1 : Int32) (v2 : Int32)  (h : mj_H) (p : mj_H), K2 v0 v1 v2 h = some p → mj_W mX9_clean (mj_FV p) 2 [(0, .ref v0), (1, .int v1), (2, .int v2)] [] h 0 0) (v0 : Nat) (v1 : Int32) (v2 : Int32) (h : mj_H) (p : mj_H) (hf : b_X9_clean_2  K2 v0 v1 v2 h = some p) : mj_W mX9_clean (mj_FV p) 2 [(0, .ref v0), (1, .int v1), (2, .int v2)] [] h 0 0 := by
  unfold b_X9_clean_2 at hf
  refine mj_blk k_X9_ok 2 2 (pc' := 6) (l' := [(0, .ref v0), (1, .int v1), (2, .int v2)]) (st' := [.int (356 : Int32), .int v2]) rfl ?_
  refine mj_icmp_ge 4 22 rfl (by decide) (fun q => ?_) (fun q => ?_)
  · have hf := (if_pos q).symm.trans hf
    refine mj_blk k_X9_ok 12 1 (pc' := 23) (l' := [(0, .ref v0), (1, .int v1), (2, .int v2)]) (st' := [.ref v0]) rfl ?_
    obtain ⟨x1, ex1, hf⟩ := mj_bd hf
    refine mj_get 13 rfl fl_X9_7 (mj_gR_V ex1) ?_
    refine mj_blk k_X9_ok 14 2 (pc' := 28) (l' := [(0, .ref v0), (1, .int v1), (2, .int v2)]) (st' := [.int v1, .int (1 : Int32), .ref x1]) rfl ?_
    obtain ⟨h2, eh2, hf⟩ := mj_bd hf
    refine mj_iast 16 rfl eh2 ?_
    obtain rfl := Option.some.inj hf
    exact mj_end none ⟨mj_dec tok_X9_clean (a := 17) rfl, rfl⟩ ⟨rfl, rfl⟩ (Nat.le_of_ble_eq_true rfl) (Nat.le_of_ble_eq_true rfl)
  · have hf := (if_neg q).symm.trans hf
    refine mj_blk k_X9_ok 5 1 (pc' := 10) (l' := [(0, .ref v0), (1, .int v1), (2, .int v2)]) (st' := [.ref v0]) rfl ?_
    obtain ⟨x3, ex3, hf⟩ := mj_bd hf
    refine mj_get 6 rfl fl_X9_7 (mj_gR_V ex3) ?_
    refine mj_blk k_X9_ok 7 2 (pc' := 15) (l' := [(0, .ref v0), (1, .int v1), (2, .int v2)]) (st' := [.int (0 : Int32), .int v2, .ref x3]) rfl ?_
    obtain ⟨h4, eh4, hf⟩ := mj_bd hf
    refine mj_iast 9 rfl eh4 ?_
    refine mj_blk k_X9_ok 10 2 (pc' := 2) (l' := [(2, .int (v2 + (1 : Int32))), (0, .ref v0), (1, .int v1)]) (st' := []) rfl ?_
    refine mj_locs [1, 2, 0] (l' := [(0, .ref v0), (1, .int v1), (2, .int (v2 + (1 : Int32)))]) rfl ?_
    exact hK2 v0 v1 (v2 + (1 : Int32)) h4 _ hf
def f_X9_clean_2 (v0 : Nat) (v1 : Int32) (v2 : Int32) (h : mj_H) : Option (mj_H) := mj_fix (fun (K2 : (Nat × Int32 × Int32 × mj_H) → Option (mj_H)) (s : Nat × Int32 × Int32 × mj_H) => b_X9_clean_2  (fun v0 v1 v2 h => K2 (v0, v1, v2, h)) s.1 s.2.1 s.2.2.1 s.2.2.2) 1000 (v0, v1, v2, h)
set_option maxHeartbeats 4000000 in
set_option maxRecDepth 100000 in
theorem w_X9_clean_2 (v0 : Nat) (v1 : Int32) (v2 : Int32) (h : mj_H) (p : mj_H) (hf : f_X9_clean_2  v0 v1 v2 h = some p) : mj_W mX9_clean (mj_FV p) 2 [(0, .ref v0), (1, .int v1), (2, .int v2)] [] h 0 0 := by
  unfold f_X9_clean_2 at hf
  exact mj_fix_ind (F := (fun (K2 : (Nat × Int32 × Int32 × mj_H) → Option (mj_H)) (s : Nat × Int32 × Int32 × mj_H) => b_X9_clean_2  (fun v0 v1 v2 h => K2 (v0, v1, v2, h)) s.1 s.2.1 s.2.2.1 s.2.2.2)) (P := fun s p => mj_W mX9_clean (mj_FV p) 2 [(0, .ref s.1), (1, .int s.2.1), (2, .int s.2.2.1)] [] s.2.2.2 0 0) (fun K2 hK2 s p hf => wb_X9_clean_2   (fun v0 v1 v2 h => K2 (v0, v1, v2, h)) (fun v0 v1 v2 h p e => hK2 (v0, v1, v2, h) p e) s.1 s.2.1 s.2.2.1 s.2.2.2 p hf) 1000 (v0, v1, v2, h) p hf
def f_X9_clean (v0 : Nat) (v1 : Int32) (h : mj_H) : Option (mj_H) := f_X9_clean_2 v0 v1 (0 : Int32) h
set_option maxHeartbeats 4000000 in
set_option maxRecDepth 100000 in
theorem c_X9_clean (v0 : Nat) (v1 : Int32) (h : mj_H) (p : mj_H) (hf : f_X9_clean v0 v1 h = some p) : mj_Met mX9_clean [.ref v0, .int v1] h none p := by
  refine mj_met pl_X9 tok_X9_clean (Nat.le_of_ble_eq_true rfl) ?_
  show mj_W mX9_clean (mj_FV p) 0 [(0, .ref v0), (1, .int v1)] [] h 0 0
  unfold f_X9_clean at hf
  refine mj_blk k_X9_ok 0 2 (pc' := 2) (l' := [(2, .int (0 : Int32)), (0, .ref v0), (1, .int v1)]) (st' := []) rfl ?_
  refine mj_locs [1, 2, 0] (l' := [(0, .ref v0), (1, .int v1), (2, .int (0 : Int32))]) rfl ?_
  exact w_X9_clean_2 v0 v1 (0 : Int32) h _ hf
def f_X9_init (v0 : Nat) (h : mj_H) : Option (mj_H) := (mj_mk h (.inl (0, 356, .inl (fun _ => (0 : Int32))))).bind fun p1 => (mj_sV p1.2 v0 9 0 (.ref p1.1)).bind fun h2 => (mj_mk h2 (.inl (0, 712, .inl (fun _ => (0 : Int32))))).bind fun p3 => (mj_sV p3.2 v0 9 1 (.ref p3.1)).bind fun h4 => (mj_mk h4 (.inl (2, 2, .inl (fun _ => (0 : Int32))))).bind fun p5 => (mj_sV p5.2 v0 9 2 (.ref p5.1)).bind fun h6 => (mj_mk h6 (.inl (0, 150, .inl (fun _ => (0 : Int32))))).bind fun p7 => (mj_sV p7.2 v0 9 3 (.ref p7.1)).bind fun h8 => (mj_sV h8 v0 9 6 (.long (1 : Int64))).bind fun h9 => (mj_mk h9 (.inl (0, 3, .inl (fun _ => (0 : Int32))))).bind fun p10 => (mj_sV p10.2 v0 9 7 (.ref p10.1)).bind fun h11 => (mj_mk h11 (.inl (0, 6, .inl (fun _ => (0 : Int32))))).bind fun p12 => (mj_sV p12.2 v0 9 8 (.ref p12.1)).bind fun h13 => (mj_mk h13 (.inl (0, 210, .inl (fun _ => (0 : Int32))))).bind fun p14 => (mj_sV p14.2 v0 9 14 (.ref p14.1)).bind fun h15 => (mj_mk h15 (.inl (0, 356, .inl (fun _ => (0 : Int32))))).bind fun p16 => (mj_sV p16.2 v0 9 16 (.ref p16.1)).bind fun h17 => (mj_mk h17 (.inl (1, 7, .inr (.inl (fun _ => (0 : Int64)))))).bind fun p18 => (mj_sV p18.2 v0 9 17 (.ref p18.1)).bind fun h19 => (mj_mk h19 (.inl (0, 52, .inl (fun _ => (0 : Int32))))).bind fun p20 => (mj_sV p20.2 v0 9 18 (.ref p20.1)).bind fun h21 => (mj_mk h21 (.inl (0, 3, .inl (fun _ => (0 : Int32))))).bind fun p22 => (mj_sV p22.2 v0 9 19 (.ref p22.1)).bind fun h23 => (if mj_ob h23 v0 9 = true then (f_X9_clean v0 (40 : Int32) h23).bind fun p24 => some p24 else none)
set_option maxHeartbeats 4000000 in
set_option maxRecDepth 100000 in
theorem c_X9_init (v0 : Nat) (h : mj_H) (p : mj_H) (hf : f_X9_init v0 h = some p) : mj_Met mX9_init [.ref v0] h none p := by
  refine mj_met pl_X9 tok_X9_init (Nat.le_of_ble_eq_true rfl) ?_
  show mj_W mX9_init (mj_FV p) 0 [(0, .ref v0)] [] h 0 0
  unfold f_X9_init at hf
  refine mj_blk k_X9_ok 0 1 (pc' := 1) (l' := [(0, .ref v0)]) (st' := [.ref v0]) rfl ?_
  refine mj_obj 1 rfl ob_X9_1 ⟨Nat.le_of_ble_eq_true rfl, Nat.le_of_ble_eq_true rfl⟩ ?_
  refine mj_blk k_X9_ok 2 2 (pc' := 8) (l' := [(0, .ref v0)]) (st' := [.int (356 : Int32), .ref v0]) rfl ?_
  obtain ⟨p1, ep1, hf⟩ := mj_bd hf
  refine mj_newIP 356 4 rfl rfl (by decide) aw_int ep1 (Nat.le_of_ble_eq_true rfl) (Nat.le_of_ble_eq_true rfl) ?_
  obtain ⟨h2, eh2, hf⟩ := mj_bd hf
  refine mj_put 5 rfl fp_X9_7 (fun _ => ⟨rfl, rfl⟩) eh2 ?_
  refine mj_blk k_X9_ok 6 2 (pc' := 17) (l' := [(0, .ref v0)]) (st' := [.int (712 : Int32), .ref v0]) rfl ?_
  obtain ⟨p3, ep3, hf⟩ := mj_bd hf
  refine mj_newIP 712 8 rfl rfl (by decide) aw_int ep3 (Nat.le_of_ble_eq_true rfl) (Nat.le_of_ble_eq_true rfl) ?_
  obtain ⟨h4, eh4, hf⟩ := mj_bd hf
  refine mj_put 9 rfl fp_X9_13 (fun _ => ⟨rfl, rfl⟩) eh4 ?_
  refine mj_blk k_X9_ok 10 2 (pc' := 24) (l' := [(0, .ref v0)]) (st' := [.int (2 : Int32), .ref v0]) rfl ?_
  obtain ⟨p5, ep5, hf⟩ := mj_bd hf
  refine mj_newZP 2 12 rfl rfl (by decide) aw_boolean ep5 (Nat.le_of_ble_eq_true rfl) (Nat.le_of_ble_eq_true rfl) ?_
  obtain ⟨h6, eh6, hf⟩ := mj_bd hf
  refine mj_put 13 rfl fp_X9_16 (fun _ => ⟨rfl, rfl⟩) eh6 ?_
  refine mj_blk k_X9_ok 14 2 (pc' := 33) (l' := [(0, .ref v0)]) (st' := [.int (150 : Int32), .ref v0]) rfl ?_
  obtain ⟨p7, ep7, hf⟩ := mj_bd hf
  refine mj_newIP 150 16 rfl rfl (by decide) aw_int ep7 (Nat.le_of_ble_eq_true rfl) (Nat.le_of_ble_eq_true rfl) ?_
  obtain ⟨h8, eh8, hf⟩ := mj_bd hf
  refine mj_put 17 rfl fp_X9_20 (fun _ => ⟨rfl, rfl⟩) eh8 ?_
  refine mj_blk k_X9_ok 18 2 (pc' := 40) (l' := [(0, .ref v0)]) (st' := [.long (1 : Int64), .ref v0]) rfl ?_
  obtain ⟨h9, eh9, hf⟩ := mj_bd hf
  refine mj_put 20 rfl fp_X9_23 (fun _ => ⟨rfl, rfl⟩) eh9 ?_
  refine mj_blk k_X9_ok 21 2 (pc' := 45) (l' := [(0, .ref v0)]) (st' := [.int (3 : Int32), .ref v0]) rfl ?_
  obtain ⟨p10, ep10, hf⟩ := mj_bd hf
  refine mj_newIP 3 23 rfl rfl (by decide) aw_int ep10 (Nat.le_of_ble_eq_true rfl) (Nat.le_of_ble_eq_true rfl) ?_
  obtain ⟨h11, eh11, hf⟩ := mj_bd hf
  refine mj_put 24 rfl fp_X9_27 (fun _ => ⟨rfl, rfl⟩) eh11 ?_
  refine mj_blk k_X9_ok 25 2 (pc' := 53) (l' := [(0, .ref v0)]) (st' := [.int (6 : Int32), .ref v0]) rfl ?_
  obtain ⟨p12, ep12, hf⟩ := mj_bd hf
  refine mj_newIP 6 27 rfl rfl (by decide) aw_int ep12 (Nat.le_of_ble_eq_true rfl) (Nat.le_of_ble_eq_true rfl) ?_
  obtain ⟨h13, eh13, hf⟩ := mj_bd hf
  refine mj_put 28 rfl fp_X9_30 (fun _ => ⟨rfl, rfl⟩) eh13 ?_
  refine mj_blk k_X9_ok 29 2 (pc' := 62) (l' := [(0, .ref v0)]) (st' := [.int (210 : Int32), .ref v0]) rfl ?_
  obtain ⟨p14, ep14, hf⟩ := mj_bd hf
  refine mj_newIP 210 31 rfl rfl (by decide) aw_int ep14 (Nat.le_of_ble_eq_true rfl) (Nat.le_of_ble_eq_true rfl) ?_
  obtain ⟨h15, eh15, hf⟩ := mj_bd hf
  refine mj_put 32 rfl fp_X9_33 (fun _ => ⟨rfl, rfl⟩) eh15 ?_
  refine mj_blk k_X9_ok 33 2 (pc' := 71) (l' := [(0, .ref v0)]) (st' := [.int (356 : Int32), .ref v0]) rfl ?_
  obtain ⟨p16, ep16, hf⟩ := mj_bd hf
  refine mj_newIP 356 35 rfl rfl (by decide) aw_int ep16 (Nat.le_of_ble_eq_true rfl) (Nat.le_of_ble_eq_true rfl) ?_
  obtain ⟨h17, eh17, hf⟩ := mj_bd hf
  refine mj_put 36 rfl fp_X9_36 (fun _ => ⟨rfl, rfl⟩) eh17 ?_
  refine mj_blk k_X9_ok 37 2 (pc' := 79) (l' := [(0, .ref v0)]) (st' := [.int (7 : Int32), .ref v0]) rfl ?_
  obtain ⟨p18, ep18, hf⟩ := mj_bd hf
  refine mj_newJP 7 39 rfl rfl (by decide) aw_long ep18 (Nat.le_of_ble_eq_true rfl) (Nat.le_of_ble_eq_true rfl) ?_
  obtain ⟨h19, eh19, hf⟩ := mj_bd hf
  refine mj_put 40 rfl fp_X9_39 (fun _ => ⟨rfl, rfl⟩) eh19 ?_
  refine mj_blk k_X9_ok 41 2 (pc' := 87) (l' := [(0, .ref v0)]) (st' := [.int (52 : Int32), .ref v0]) rfl ?_
  obtain ⟨p20, ep20, hf⟩ := mj_bd hf
  refine mj_newIP 52 43 rfl rfl (by decide) aw_int ep20 (Nat.le_of_ble_eq_true rfl) (Nat.le_of_ble_eq_true rfl) ?_
  obtain ⟨h21, eh21, hf⟩ := mj_bd hf
  refine mj_put 44 rfl fp_X9_43 (fun _ => ⟨rfl, rfl⟩) eh21 ?_
  refine mj_blk k_X9_ok 45 2 (pc' := 94) (l' := [(0, .ref v0)]) (st' := [.int (3 : Int32), .ref v0]) rfl ?_
  obtain ⟨p22, ep22, hf⟩ := mj_bd hf
  refine mj_newIP 3 47 rfl rfl (by decide) aw_int ep22 (Nat.le_of_ble_eq_true rfl) (Nat.le_of_ble_eq_true rfl) ?_
  obtain ⟨h23, eh23, hf⟩ := mj_bd hf
  refine mj_put 48 rfl fp_X9_46 (fun _ => ⟨rfl, rfl⟩) eh23 ?_
  refine mj_blk k_X9_ok 49 2 (pc' := 102) (l' := [(0, .ref v0)]) (st' := [.int (40 : Int32), .ref v0]) rfl ?_
  obtain ⟨gp24, hf⟩ := mj_gd hf
  obtain ⟨p24, ep24, hf⟩ := mj_bd hf
  refine mj_callV (T := TX9) (N := 20) (ci := 9) mX9_clean [.int (40 : Int32)] 51 rfl ll_X9_49 lb_X9_clean li_X9_clean ⟨Nat.le_of_ble_eq_true rfl, Nat.le_of_ble_eq_true rfl⟩ rfl gp24 rfl (rest := []) rfl (Nat.le_of_ble_eq_true rfl) ⟨Nat.le_of_ble_eq_true rfl, Nat.le_of_ble_eq_true rfl⟩ (c_X9_clean v0 (40 : Int32) h23 p24 ep24) ?_
  show mj_W mX9_init (mj_FV p) 105 [(0, .ref v0)] [] p24 11 1857
  obtain rfl := Option.some.inj hf
  exact mj_end none ⟨mj_dec tok_X9_init (a := 52) rfl, rfl⟩ ⟨rfl, rfl⟩ (Nat.le_of_ble_eq_true rfl) (Nat.le_of_ble_eq_true rfl)
def f_X9_in (v0 : Int64) (v2 : Int64) (v4 : Int64) (h : mj_H) : Option (Int32 × mj_H) := (if v0 < v2 then some ((0 : Int32), h) else (if v4 < v0 then some ((0 : Int32), h) else some ((1 : Int32), h)))
set_option maxHeartbeats 4000000 in
set_option maxRecDepth 100000 in
theorem c_X9_in (v0 : Int64) (v2 : Int64) (v4 : Int64) (h : mj_H) (p : Int32 × mj_H) (hf : f_X9_in v0 v2 v4 h = some p) : mj_Met mX9_in [.long v0, .long v2, .long v4] h (some (.int p.1)) p.2 := by
  refine mj_met pl_X9 tok_X9_in (Nat.le_of_ble_eq_true rfl) ?_
  show mj_W mX9_in (mj_FI p) 0 [(0, .long v0), (2, .long v2), (4, .long v4)] [] h 0 0
  unfold f_X9_in at hf
  refine mj_blk k_X9_ok 0 2 (pc' := 2) (l' := [(0, .long v0), (2, .long v2), (4, .long v4)]) (st' := [.long v2, .long v0]) rfl ?_
  refine mj_lcmp_lt 2 17 rfl rfl (by decide) (fun q => ?_) (fun q => ?_)
  · have hf := (if_pos q).symm.trans hf
    refine mj_blk k_X9_ok 10 1 (pc' := 18) (l' := [(0, .long v0), (2, .long v2), (4, .long v4)]) (st' := [.int (0 : Int32)]) rfl ?_
    obtain rfl := Option.some.inj hf
    exact mj_end (some (.int (0 : Int32))) ⟨mj_dec tok_X9_in (a := 11) rfl, .boolean, rfl, rfl⟩ ⟨rfl, rfl⟩ (Nat.le_of_ble_eq_true rfl) (Nat.le_of_ble_eq_true rfl)
  · have hf := (if_neg q).symm.trans hf
    refine mj_blk k_X9_ok 4 2 (pc' := 9) (l' := [(0, .long v0), (2, .long v2), (4, .long v4)]) (st' := [.long v4, .long v0]) rfl ?_
    refine mj_lcmp_gt 6 17 rfl rfl (by decide) (fun q => ?_) (fun q => ?_)
    · have hf := (if_pos q).symm.trans hf
      refine mj_blk k_X9_ok 10 1 (pc' := 18) (l' := [(0, .long v0), (2, .long v2), (4, .long v4)]) (st' := [.int (0 : Int32)]) rfl ?_
      obtain rfl := Option.some.inj hf
      exact mj_end (some (.int (0 : Int32))) ⟨mj_dec tok_X9_in (a := 11) rfl, .boolean, rfl, rfl⟩ ⟨rfl, rfl⟩ (Nat.le_of_ble_eq_true rfl) (Nat.le_of_ble_eq_true rfl)
    · have hf := (if_neg q).symm.trans hf
      refine mj_blk k_X9_ok 8 2 (pc' := 18) (l' := [(0, .long v0), (2, .long v2), (4, .long v4)]) (st' := [.int (1 : Int32)]) rfl ?_
      obtain rfl := Option.some.inj hf
      exact mj_end (some (.int (1 : Int32))) ⟨mj_dec tok_X9_in (a := 11) rfl, .boolean, rfl, rfl⟩ ⟨rfl, rfl⟩ (Nat.le_of_ble_eq_true rfl) (Nat.le_of_ble_eq_true rfl)
def f_X9_isTwo (v0 : Int32) (h : mj_H) : Option (Int32 × mj_H) := (f_X9_in ((v0).toInt64) (0 : Int64) (1 : Int64) h).bind fun p1 => (if p1.1 = 0 ∨ p1.1 = 1 then some (p1.1, p1.2) else none)
set_option maxHeartbeats 4000000 in
set_option maxRecDepth 100000 in
theorem c_X9_isTwo (v0 : Int32) (h : mj_H) (p : Int32 × mj_H) (hf : f_X9_isTwo v0 h = some p) : mj_Met mX9_isTwo [.int v0] h (some (.int p.1)) p.2 := by
  refine mj_met pl_X9 tok_X9_isTwo (Nat.le_of_ble_eq_true rfl) ?_
  show mj_W mX9_isTwo (mj_FI p) 0 [(0, .int v0)] [] h 0 0
  unfold f_X9_isTwo at hf
  refine mj_blk k_X9_ok 0 4 (pc' := 4) (l' := [(0, .int v0)]) (st' := [.long (1 : Int64), .long (0 : Int64), .long ((v0).toInt64)]) rfl ?_
  obtain ⟨p1, ep1, hf⟩ := mj_bd hf
  refine mj_callS mX9_in [.long ((v0).toInt64), .long (0 : Int64), .long (1 : Int64)] 4 rfl ll_X9_53 lb_X9_in li_X9_in ⟨Nat.le_of_ble_eq_true rfl, Nat.le_of_ble_eq_true rfl⟩ rfl (rest := []) rfl (Nat.le_of_ble_eq_true rfl) ⟨Nat.le_of_ble_eq_true rfl, Nat.le_of_ble_eq_true rfl⟩ (c_X9_in ((v0).toInt64) (0 : Int64) (1 : Int64) h p1 ep1) ?_
  show mj_W mX9_isTwo (mj_FI p) 7 [(0, .int v0)] [.int p1.1] p1.2 0 0
  obtain ⟨g, hf⟩ := mj_gp hf
  obtain rfl := Option.some.inj hf
  exact mj_end (some (.int p1.1)) ⟨mj_dec tok_X9_isTwo (a := 5) rfl, .boolean, rfl, mj_bool g⟩ ⟨rfl, rfl⟩ (Nat.le_of_ble_eq_true rfl) (Nat.le_of_ble_eq_true rfl)
def f_X9_tell_52 (v1 : Int32) (s0 : Nat) (s1 : Int32) (h : mj_H) : Option (Int32 × mj_H) := (mj_aI h s0 s1).bind fun x1 => (mj_uI h s0 s1 (x1 + (1 : Int32))).bind fun h2 => some (v1, h2)
set_option maxHeartbeats 4000000 in
set_option maxRecDepth 100000 in
theorem w_X9_tell_52 (v1 : Int32) (s0 : Nat) (s1 : Int32) (h : mj_H) (p : Int32 × mj_H) (hf : f_X9_tell_52  v1 s0 s1 h = some p) : mj_W mX9_tell (mj_FI p) 52 [(1, .int v1)] [.int s1, .ref s0] h 0 0 := by
  unfold f_X9_tell_52 at hf
  refine mj_blk k_X9_ok 29 1 (pc' := 53) (l' := [(1, .int v1)]) (st' := [.int s1, .ref s0, .int s1, .ref s0]) rfl ?_
  obtain ⟨x1, ex1, hf⟩ := mj_bd hf
  refine mj_iald 30 rfl ex1 ?_
  refine mj_blk k_X9_ok 31 2 (pc' := 56) (l' := [(1, .int v1)]) (st' := [.int (x1 + (1 : Int32)), .int s1, .ref s0]) rfl ?_
  obtain ⟨h2, eh2, hf⟩ := mj_bd hf
  refine mj_iast 33 rfl eh2 ?_
  refine mj_blk k_X9_ok 34 1 (pc' := 58) (l' := [(1, .int v1)]) (st' := [.int v1]) rfl ?_
  obtain rfl := Option.some.inj hf
  exact mj_end (some (.int v1)) ⟨mj_dec tok_X9_tell (a := 35) rfl, .int, rfl, rfl⟩ ⟨rfl, rfl⟩ (Nat.le_of_ble_eq_true rfl) (Nat.le_of_ble_eq_true rfl)
def f_X9_tell_37 (v0 : Nat) (v1 : Int32) (h : mj_H) : Option (Int32 × mj_H) := (mj_gR h v0 9 7).bind fun x3 => (if v1 = (-3 : Int32) then f_X9_tell_52 v1 x3 (1 : Int32) h else f_X9_tell_52 v1 x3 (2 : Int32) h)
set_option maxHeartbeats 4000000 in
set_option maxRecDepth 100000 in
theorem w_X9_tell_37 (v0 : Nat) (v1 : Int32) (h : mj_H) (p : Int32 × mj_H) (hf : f_X9_tell_37  v0 v1 h = some p) : mj_W mX9_tell (mj_FI p) 37 [(0, .ref v0), (1, .int v1)] [] h 0 0 := by
  unfold f_X9_tell_37 at hf
  refine mj_blk k_X9_ok 21 1 (pc' := 38) (l' := [(0, .ref v0), (1, .int v1)]) (st' := [.ref v0]) rfl ?_
  obtain ⟨x3, ex3, hf⟩ := mj_bd hf
  refine mj_get 22 rfl fl_X9_27 (mj_gR_V ex3) ?_
  refine mj_blk k_X9_ok 23 2 (pc' := 44) (l' := [(0, .ref v0), (1, .int v1)]) (st' := [.int (-3 : Int32), .int v1, .ref x3]) rfl ?_
  refine mj_icmp_ne 25 51 rfl (by decide) (fun q => ?_) (fun q => ?_)
  · have hf := (if_neg q).symm.trans hf
    refine mj_blk k_X9_ok 28 1 (pc' := 52) (l' := [(0, .ref v0), (1, .int v1)]) (st' := [.int (2 : Int32), .ref x3]) rfl ?_
    refine mj_locs [1] (l' := [(1, .int v1)]) rfl ?_
    exact w_X9_tell_52 v1 x3 (2 : Int32) h _ hf
  · have hf := (if_pos q).symm.trans hf
    refine mj_blk k_X9_ok 26 2 (pc' := 52) (l' := [(0, .ref v0), (1, .int v1)]) (st' := [.int (1 : Int32), .ref x3]) rfl ?_
    refine mj_locs [1] (l' := [(1, .int v1)]) rfl ?_
    exact w_X9_tell_52 v1 x3 (1 : Int32) h _ hf
def f_X9_tell_12 (v0 : Nat) (v1 : Int32) (h : mj_H) : Option (Int32 × mj_H) := (mj_gR h v0 9 7).bind fun x4 => (mj_aI h x4 (0 : Int32)).bind fun x5 => (mj_uI h x4 (0 : Int32) (x5 + (1 : Int32))).bind fun h6 => some (v1, h6)
set_option maxHeartbeats 4000000 in
set_option maxRecDepth 100000 in
theorem w_X9_tell_12 (v0 : Nat) (v1 : Int32) (h : mj_H) (p : Int32 × mj_H) (hf : f_X9_tell_12  v0 v1 h = some p) : mj_W mX9_tell (mj_FI p) 12 [(0, .ref v0), (1, .int v1)] [] h 0 0 := by
  unfold f_X9_tell_12 at hf
  refine mj_blk k_X9_ok 6 1 (pc' := 13) (l' := [(0, .ref v0), (1, .int v1)]) (st' := [.ref v0]) rfl ?_
  obtain ⟨x4, ex4, hf⟩ := mj_bd hf
  refine mj_get 7 rfl fl_X9_27 (mj_gR_V ex4) ?_
  refine mj_blk k_X9_ok 8 2 (pc' := 18) (l' := [(0, .ref v0), (1, .int v1)]) (st' := [.int (0 : Int32), .ref x4, .int (0 : Int32), .ref x4]) rfl ?_
  obtain ⟨x5, ex5, hf⟩ := mj_bd hf
  refine mj_iald 10 rfl ex5 ?_
  refine mj_blk k_X9_ok 11 2 (pc' := 21) (l' := [(0, .ref v0), (1, .int v1)]) (st' := [.int (x5 + (1 : Int32)), .int (0 : Int32), .ref x4]) rfl ?_
  obtain ⟨h6, eh6, hf⟩ := mj_bd hf
  refine mj_iast 13 rfl eh6 ?_
  refine mj_blk k_X9_ok 14 1 (pc' := 57) (l' := [(0, .ref v0), (1, .int v1)]) (st' := []) rfl ?_
  refine mj_blk k_X9_ok 34 1 (pc' := 58) (l' := [(0, .ref v0), (1, .int v1)]) (st' := [.int v1]) rfl ?_
  obtain rfl := Option.some.inj hf
  exact mj_end (some (.int v1)) ⟨mj_dec tok_X9_tell (a := 35) rfl, .int, rfl, rfl⟩ ⟨rfl, rfl⟩ (Nat.le_of_ble_eq_true rfl) (Nat.le_of_ble_eq_true rfl)
def f_X9_tell (v0 : Nat) (v1 : Int32) (h : mj_H) : Option (Int32 × mj_H) := (if v1 = (-2 : Int32) then f_X9_tell_12 v0 v1 h else (if v1 = (-10 : Int32) then f_X9_tell_12 v0 v1 h else (if v1 = (-3 : Int32) then f_X9_tell_37 v0 v1 h else (if v1 = (-4 : Int32) then f_X9_tell_37 v0 v1 h else some (v1, h)))))
set_option maxHeartbeats 4000000 in
set_option maxRecDepth 100000 in
theorem c_X9_tell (v0 : Nat) (v1 : Int32) (h : mj_H) (p : Int32 × mj_H) (hf : f_X9_tell v0 v1 h = some p) : mj_Met mX9_tell [.ref v0, .int v1] h (some (.int p.1)) p.2 := by
  refine mj_met pl_X9 tok_X9_tell (Nat.le_of_ble_eq_true rfl) ?_
  show mj_W mX9_tell (mj_FI p) 0 [(0, .ref v0), (1, .int v1)] [] h 0 0
  unfold f_X9_tell at hf
  refine mj_blk k_X9_ok 0 2 (pc' := 3) (l' := [(0, .ref v0), (1, .int v1)]) (st' := [.int (-2 : Int32), .int v1]) rfl ?_
  refine mj_icmp_eq 2 12 rfl (by decide) (fun q => ?_) (fun q => ?_)
  · have hf := (if_pos q).symm.trans hf
    exact w_X9_tell_12 v0 v1 h _ hf
  · have hf := (if_neg q).symm.trans hf
    refine mj_blk k_X9_ok 3 2 (pc' := 9) (l' := [(0, .ref v0), (1, .int v1)]) (st' := [.int (-10 : Int32), .int v1]) rfl ?_
    refine mj_icmp_ne 5 25 rfl (by decide) (fun q => ?_) (fun q => ?_)
    · have hf := (if_neg q).symm.trans hf
      refine mj_blk k_X9_ok 15 2 (pc' := 28) (l' := [(0, .ref v0), (1, .int v1)]) (st' := [.int (-3 : Int32), .int v1]) rfl ?_
      refine mj_icmp_eq 17 37 rfl (by decide) (fun q => ?_) (fun q => ?_)
      · have hf := (if_pos q).symm.trans hf
        exact w_X9_tell_37 v0 v1 h _ hf
      · have hf := (if_neg q).symm.trans hf
        refine mj_blk k_X9_ok 18 2 (pc' := 34) (l' := [(0, .ref v0), (1, .int v1)]) (st' := [.int (-4 : Int32), .int v1]) rfl ?_
        refine mj_icmp_ne 20 57 rfl (by decide) (fun q => ?_) (fun q => ?_)
        · have hf := (if_neg q).symm.trans hf
          refine mj_blk k_X9_ok 34 1 (pc' := 58) (l' := [(0, .ref v0), (1, .int v1)]) (st' := [.int v1]) rfl ?_
          obtain rfl := Option.some.inj hf
          exact mj_end (some (.int v1)) ⟨mj_dec tok_X9_tell (a := 35) rfl, .int, rfl, rfl⟩ ⟨rfl, rfl⟩ (Nat.le_of_ble_eq_true rfl) (Nat.le_of_ble_eq_true rfl)
        · have hf := (if_pos q).symm.trans hf
          exact w_X9_tell_37 v0 v1 h _ hf
    · have hf := (if_pos q).symm.trans hf
      exact w_X9_tell_12 v0 v1 h _ hf
def f_X9_bad (v0 : Nat) (v1 : Int32) (h : mj_H) : Option (Int32 × mj_H) := (mj_gR h v0 9 7).bind fun x1 => (mj_aI h x1 (0 : Int32)).bind fun x2 => (mj_uI h x1 (0 : Int32) (x2 + (1 : Int32))).bind fun h3 => some (v1, h3)
set_option maxHeartbeats 4000000 in
set_option maxRecDepth 100000 in
theorem c_X9_bad (v0 : Nat) (v1 : Int32) (h : mj_H) (p : Int32 × mj_H) (hf : f_X9_bad v0 v1 h = some p) : mj_Met mX9_bad [.ref v0, .int v1] h (some (.int p.1)) p.2 := by
  refine mj_met pl_X9 tok_X9_bad (Nat.le_of_ble_eq_true rfl) ?_
  show mj_W mX9_bad (mj_FI p) 0 [(0, .ref v0), (1, .int v1)] [] h 0 0
  unfold f_X9_bad at hf
  refine mj_blk k_X9_ok 0 1 (pc' := 1) (l' := [(0, .ref v0), (1, .int v1)]) (st' := [.ref v0]) rfl ?_
  obtain ⟨x1, ex1, hf⟩ := mj_bd hf
  refine mj_get 1 rfl fl_X9_27 (mj_gR_V ex1) ?_
  refine mj_blk k_X9_ok 2 2 (pc' := 6) (l' := [(0, .ref v0), (1, .int v1)]) (st' := [.int (0 : Int32), .ref x1, .int (0 : Int32), .ref x1]) rfl ?_
  obtain ⟨x2, ex2, hf⟩ := mj_bd hf
  refine mj_iald 4 rfl ex2 ?_
  refine mj_blk k_X9_ok 5 2 (pc' := 9) (l' := [(0, .ref v0), (1, .int v1)]) (st' := [.int (x2 + (1 : Int32)), .int (0 : Int32), .ref x1]) rfl ?_
  obtain ⟨h3, eh3, hf⟩ := mj_bd hf
  refine mj_iast 7 rfl eh3 ?_
  refine mj_blk k_X9_ok 8 1 (pc' := 11) (l' := [(0, .ref v0), (1, .int v1)]) (st' := [.int v1]) rfl ?_
  obtain rfl := Option.some.inj hf
  exact mj_end (some (.int v1)) ⟨mj_dec tok_X9_bad (a := 9) rfl, .int, rfl, rfl⟩ ⟨rfl, rfl⟩ (Nat.le_of_ble_eq_true rfl) (Nat.le_of_ble_eq_true rfl)
def f_X9_no (v0 : Nat) (v1 : Int32) (h : mj_H) : Option (Int32 × mj_H) := (mj_gR h v0 9 7).bind fun x1 => (mj_aI h x1 (1 : Int32)).bind fun x2 => (mj_uI h x1 (1 : Int32) (x2 + (1 : Int32))).bind fun h3 => some (v1, h3)
set_option maxHeartbeats 4000000 in
set_option maxRecDepth 100000 in
theorem c_X9_no (v0 : Nat) (v1 : Int32) (h : mj_H) (p : Int32 × mj_H) (hf : f_X9_no v0 v1 h = some p) : mj_Met mX9_no [.ref v0, .int v1] h (some (.int p.1)) p.2 := by
  refine mj_met pl_X9 tok_X9_no (Nat.le_of_ble_eq_true rfl) ?_
  show mj_W mX9_no (mj_FI p) 0 [(0, .ref v0), (1, .int v1)] [] h 0 0
  unfold f_X9_no at hf
  refine mj_blk k_X9_ok 0 1 (pc' := 1) (l' := [(0, .ref v0), (1, .int v1)]) (st' := [.ref v0]) rfl ?_
  obtain ⟨x1, ex1, hf⟩ := mj_bd hf
  refine mj_get 1 rfl fl_X9_27 (mj_gR_V ex1) ?_
  refine mj_blk k_X9_ok 2 2 (pc' := 6) (l' := [(0, .ref v0), (1, .int v1)]) (st' := [.int (1 : Int32), .ref x1, .int (1 : Int32), .ref x1]) rfl ?_
  obtain ⟨x2, ex2, hf⟩ := mj_bd hf
  refine mj_iald 4 rfl ex2 ?_
  refine mj_blk k_X9_ok 5 2 (pc' := 9) (l' := [(0, .ref v0), (1, .int v1)]) (st' := [.int (x2 + (1 : Int32)), .int (1 : Int32), .ref x1]) rfl ?_
  obtain ⟨h3, eh3, hf⟩ := mj_bd hf
  refine mj_iast 7 rfl eh3 ?_
  refine mj_blk k_X9_ok 8 1 (pc' := 11) (l' := [(0, .ref v0), (1, .int v1)]) (st' := [.int v1]) rfl ?_
  obtain rfl := Option.some.inj hf
  exact mj_end (some (.int v1)) ⟨mj_dec tok_X9_no (a := 9) rfl, .int, rfl, rfl⟩ ⟨rfl, rfl⟩ (Nat.le_of_ble_eq_true rfl) (Nat.le_of_ble_eq_true rfl)
