/-! printed by wip/whole/gen.py: X9_again, X9_drawn, X9_part, X9_image, X9_from, X9_status, X9_counted, X9_count, X9_digest -/
def f_X9_again (v0 : Nat) (v1 : Int32) (h : mj_H) : Option (Int32 × mj_H) := (if mj_ob h v0 9 = true then (f_X9_isMan v0 v1 h).bind fun p1 => (if p1.1 = 0 then (if mj_ob p1.2 v0 9 = true then (f_X9_bad v0 (-2 : Int32) p1.2).bind fun p7 => some (p7.1, p7.2) else none) else (if mj_ob p1.2 v0 9 = true then (f_X9_layDay v0 p1.2).bind fun p2 => (mj_gR p2 v0 9 18).bind fun x3 => (f_X9_weighs x3 v1 (0 : Int32) (1 : Int32) p2).bind fun p4 => (mj_gR p4 v0 9 18).bind fun x5 => (f_X9_shareOf x5 v1 (0 : Int32) (1 : Int32) p4).bind fun p6 => some (p6.1, p6.2) else none)) else none)
set_option maxHeartbeats 4000000 in
set_option maxRecDepth 100000 in
theorem c_X9_again (v0 : Nat) (v1 : Int32) (h : mj_H) (p : Int32 × mj_H) (hf : f_X9_again v0 v1 h = some p) : mj_Met mX9_again [.ref v0, .int v1] h (some (.int p.1)) p.2 := by
  refine mj_met pl_X9 tok_X9_again (Nat.le_of_ble_eq_true rfl) ?_
  show mj_W mX9_again (mj_FI p) 0 [(0, .ref v0), (1, .int v1)] [] h 0 0
  unfold f_X9_again at hf
  refine mj_blk k_X9_ok 0 2 (pc' := 2) (l' := [(0, .ref v0), (1, .int v1)]) (st' := [.int v1, .ref v0]) rfl ?_
  obtain ⟨gp1, hf⟩ := mj_gd hf
  obtain ⟨p1, ep1, hf⟩ := mj_bd hf
  refine mj_callV (T := TX9) (N := 20) (ci := 9) mX9_isMan [.int v1] 2 rfl ll_X9_63 lb_X9_isMan li_X9_isMan ⟨Nat.le_of_ble_eq_true rfl, Nat.le_of_ble_eq_true rfl⟩ rfl gp1 rfl (rest := []) rfl (Nat.le_of_ble_eq_true rfl) ⟨Nat.le_of_ble_eq_true rfl, Nat.le_of_ble_eq_true rfl⟩ (c_X9_isMan v0 v1 h p1 ep1) ?_
  show mj_W mX9_again (mj_FI p) 5 [(0, .ref v0), (1, .int v1)] [.int p1.1] p1.2 0 0
  refine mj_if_ne 3 15 rfl (by decide) (fun q => ?_) (fun q => ?_)
  · have hf := (if_neg q).symm.trans hf
    refine mj_blk k_X9_ok 8 1 (pc' := 16) (l' := [(0, .ref v0), (1, .int v1)]) (st' := [.ref v0]) rfl ?_
    obtain ⟨gp2, hf⟩ := mj_gd hf
    obtain ⟨p2, ep2, hf⟩ := mj_bd hf
    refine mj_callV (T := TX9) (N := 20) (ci := 9) mX9_layDay [] 9 rfl ll_X9_234 lb_X9_layDay li_X9_layDay ⟨Nat.le_of_ble_eq_true rfl, Nat.le_of_ble_eq_true rfl⟩ rfl gp2 rfl (rest := []) rfl (Nat.le_of_ble_eq_true rfl) ⟨Nat.le_of_ble_eq_true rfl, Nat.le_of_ble_eq_true rfl⟩ (c_X9_layDay v0 p1.2 p2 ep2) ?_
    show mj_W mX9_again (mj_FI p) 19 [(0, .ref v0), (1, .int v1)] [] p2 0 0
    refine mj_blk k_X9_ok 10 1 (pc' := 20) (l' := [(0, .ref v0), (1, .int v1)]) (st' := [.ref v0]) rfl ?_
    obtain ⟨x3, ex3, hf⟩ := mj_bd hf
    refine mj_get 11 rfl fl_X9_43 (mj_gR_V ex3) ?_
    refine mj_blk k_X9_ok 12 3 (pc' := 26) (l' := [(0, .ref v0), (1, .int v1)]) (st' := [.int (1 : Int32), .int (0 : Int32), .int v1, .ref x3]) rfl ?_
    obtain ⟨p4, ep4, hf⟩ := mj_bd hf
    refine mj_callS mX9_weighs [.ref x3, .int v1, .int (0 : Int32), .int (1 : Int32)] 15 rfl ll_X9_181 lb_X9_weighs li_X9_weighs ⟨Nat.le_of_ble_eq_true rfl, Nat.le_of_ble_eq_true rfl⟩ rfl (rest := []) rfl (Nat.le_of_ble_eq_true rfl) ⟨Nat.le_of_ble_eq_true rfl, Nat.le_of_ble_eq_true rfl⟩ (c_X9_weighs x3 v1 (0 : Int32) (1 : Int32) p2 p4 ep4) ?_
    show mj_W mX9_again (mj_FI p) 29 [(0, .ref v0), (1, .int v1)] [] p4 0 0
    refine mj_blk k_X9_ok 16 1 (pc' := 30) (l' := [(0, .ref v0), (1, .int v1)]) (st' := [.ref v0]) rfl ?_
    obtain ⟨x5, ex5, hf⟩ := mj_bd hf
    refine mj_get 17 rfl fl_X9_43 (mj_gR_V ex5) ?_
    refine mj_blk k_X9_ok 18 3 (pc' := 36) (l' := [(0, .ref v0), (1, .int v1)]) (st' := [.int (1 : Int32), .int (0 : Int32), .int v1, .ref x5]) rfl ?_
    obtain ⟨p6, ep6, hf⟩ := mj_bd hf
    refine mj_callS mX9_shareOf [.ref x5, .int v1, .int (0 : Int32), .int (1 : Int32)] 21 rfl ll_X9_173 lb_X9_shareOf li_X9_shareOf ⟨Nat.le_of_ble_eq_true rfl, Nat.le_of_ble_eq_true rfl⟩ rfl (rest := []) rfl (Nat.le_of_ble_eq_true rfl) ⟨Nat.le_of_ble_eq_true rfl, Nat.le_of_ble_eq_true rfl⟩ (c_X9_shareOf x5 v1 (0 : Int32) (1 : Int32) p4 p6 ep6) ?_
    show mj_W mX9_again (mj_FI p) 39 [(0, .ref v0), (1, .int v1)] [.int p6.1] p6.2 0 0
    obtain rfl := Option.some.inj hf
    exact mj_end (some (.int p6.1)) ⟨mj_dec tok_X9_again (a := 22) rfl, .int, rfl, rfl⟩ ⟨rfl, rfl⟩ (Nat.le_of_ble_eq_true rfl) (Nat.le_of_ble_eq_true rfl)
  · have hf := (if_pos q).symm.trans hf
    refine mj_blk k_X9_ok 4 2 (pc' := 11) (l' := [(0, .ref v0), (1, .int v1)]) (st' := [.int (-2 : Int32), .ref v0]) rfl ?_
    obtain ⟨gp7, hf⟩ := mj_gd hf
    obtain ⟨p7, ep7, hf⟩ := mj_bd hf
    refine mj_callV (T := TX9) (N := 20) (ci := 9) mX9_bad [.int (-2 : Int32)] 6 rfl ll_X9_75 lb_X9_bad li_X9_bad ⟨Nat.le_of_ble_eq_true rfl, Nat.le_of_ble_eq_true rfl⟩ rfl gp7 rfl (rest := []) rfl (Nat.le_of_ble_eq_true rfl) ⟨Nat.le_of_ble_eq_true rfl, Nat.le_of_ble_eq_true rfl⟩ (c_X9_bad v0 (-2 : Int32) p1.2 p7 ep7) ?_
    show mj_W mX9_again (mj_FI p) 14 [(0, .ref v0), (1, .int v1)] [.int p7.1] p7.2 0 0
    obtain rfl := Option.some.inj hf
    exact mj_end (some (.int p7.1)) ⟨mj_dec tok_X9_again (a := 7) rfl, .int, rfl, rfl⟩ ⟨rfl, rfl⟩ (Nat.le_of_ble_eq_true rfl) (Nat.le_of_ble_eq_true rfl)
def f_X9_drawn_128 (K49 : Nat → Int32 → Int32 → Int64 → Int32 → Int32 → mj_H → Option (Int32 × mj_H)) (K58 : Nat → Int32 → Int32 → Int64 → Int32 → Int32 → Int32 → mj_H → Option (Int32 × mj_H)) (v0 : Nat) (v1 : Int32) (v2 : Int32) (v4 : Int64) (v6 : Int32) (v7 : Int32) (v8 : Int32) (h : mj_H) : Option (Int32 × mj_H) := K58 v0 v1 v2 v4 v6 v7 (v8 + (1 : Int32)) h
set_option maxHeartbeats 4000000 in
set_option maxRecDepth 100000 in
theorem w_X9_drawn_128 (K49 : Nat → Int32 → Int32 → Int64 → Int32 → Int32 → mj_H → Option (Int32 × mj_H)) (K58 : Nat → Int32 → Int32 → Int64 → Int32 → Int32 → Int32 → mj_H → Option (Int32 × mj_H)) (hK49 : ∀ (v0 : Nat) (v1 : Int32) (v2 : Int32) (v4 : Int64) (v6 : Int32) (v7 : Int32)  (h : mj_H) (p : Int32 × mj_H), K49 v0 v1 v2 v4 v6 v7 h = some p → mj_W mX9_drawn (mj_FI p) 49 [(0, .ref v0), (1, .int v1), (2, .int v2), (4, .long v4), (6, .int v6), (7, .int v7)] [] h 0 0) (hK58 : ∀ (v0 : Nat) (v1 : Int32) (v2 : Int32) (v4 : Int64) (v6 : Int32) (v7 : Int32) (v8 : Int32)  (h : mj_H) (p : Int32 × mj_H), K58 v0 v1 v2 v4 v6 v7 v8 h = some p → mj_W mX9_drawn (mj_FI p) 58 [(0, .ref v0), (1, .int v1), (2, .int v2), (4, .long v4), (6, .int v6), (7, .int v7), (8, .int v8)] [] h 0 0) (v0 : Nat) (v1 : Int32) (v2 : Int32) (v4 : Int64) (v6 : Int32) (v7 : Int32) (v8 : Int32) (h : mj_H) (p : Int32 × mj_H) (hf : f_X9_drawn_128 K49 K58 v0 v1 v2 v4 v6 v7 v8 h = some p) : mj_W mX9_drawn (mj_FI p) 128 [(0, .ref v0), (1, .int v1), (2, .int v2), (4, .long v4), (6, .int v6), (7, .int v7), (8, .int v8)] [] h 0 0 := by
  unfold f_X9_drawn_128 at hf
  refine mj_blk k_X9_ok 68 2 (pc' := 58) (l' := [(8, .int (v8 + (1 : Int32))), (0, .ref v0), (1, .int v1), (2, .int v2), (4, .long v4), (6, .int v6), (7, .int v7)]) (st' := []) rfl ?_
  refine mj_locs [1, 2, 3, 4, 5, 6, 0] (l' := [(0, .ref v0), (1, .int v1), (2, .int v2), (4, .long v4), (6, .int v6), (7, .int v7), (8, .int (v8 + (1 : Int32)))]) rfl ?_
  exact hK58 v0 v1 v2 v4 v6 v7 (v8 + (1 : Int32)) h _ hf
def f_X9_drawn_125 (K49 : Nat → Int32 → Int32 → Int64 → Int32 → Int32 → mj_H → Option (Int32 × mj_H)) (K58 : Nat → Int32 → Int32 → Int64 → Int32 → Int32 → Int32 → mj_H → Option (Int32 × mj_H)) (v0 : Nat) (v1 : Int32) (v2 : Int32) (v4 : Int64) (v7 : Int32) (v8 : Int32) (s0 : Int32) (s1 : Int32) (h : mj_H) : Option (Int32 × mj_H) := f_X9_drawn_128 K49 K58 v0 v1 v2 v4 (s0 + s1) v7 v8 h
set_option maxHeartbeats 4000000 in
set_option maxRecDepth 100000 in
theorem w_X9_drawn_125 (K49 : Nat → Int32 → Int32 → Int64 → Int32 → Int32 → mj_H → Option (Int32 × mj_H)) (K58 : Nat → Int32 → Int32 → Int64 → Int32 → Int32 → Int32 → mj_H → Option (Int32 × mj_H)) (hK49 : ∀ (v0 : Nat) (v1 : Int32) (v2 : Int32) (v4 : Int64) (v6 : Int32) (v7 : Int32)  (h : mj_H) (p : Int32 × mj_H), K49 v0 v1 v2 v4 v6 v7 h = some p → mj_W mX9_drawn (mj_FI p) 49 [(0, .ref v0), (1, .int v1), (2, .int v2), (4, .long v4), (6, .int v6), (7, .int v7)] [] h 0 0) (hK58 : ∀ (v0 : Nat) (v1 : Int32) (v2 : Int32) (v4 : Int64) (v6 : Int32) (v7 : Int32) (v8 : Int32)  (h : mj_H) (p : Int32 × mj_H), K58 v0 v1 v2 v4 v6 v7 v8 h = some p → mj_W mX9_drawn (mj_FI p) 58 [(0, .ref v0), (1, .int v1), (2, .int v2), (4, .long v4), (6, .int v6), (7, .int v7), (8, .int v8)] [] h 0 0) (v0 : Nat) (v1 : Int32) (v2 : Int32) (v4 : Int64) (v7 : Int32) (v8 : Int32) (s0 : Int32) (s1 : Int32) (h : mj_H) (p : Int32 × mj_H) (hf : f_X9_drawn_125 K49 K58 v0 v1 v2 v4 v7 v8 s0 s1 h = some p) : mj_W mX9_drawn (mj_FI p) 125 [(0, .ref v0), (1, .int v1), (2, .int v2), (4, .long v4), (7, .int v7), (8, .int v8)] [.int s1, .int s0] h 0 0 := by
  unfold f_X9_drawn_125 at hf
  refine mj_blk k_X9_ok 66 2 (pc' := 128) (l' := [(6, .int (s0 + s1)), (0, .ref v0), (1, .int v1), (2, .int v2), (4, .long v4), (7, .int v7), (8, .int v8)]) (st' := []) rfl ?_
  refine mj_locs [1, 2, 3, 4, 0, 5, 6] (l' := [(0, .ref v0), (1, .int v1), (2, .int v2), (4, .long v4), (6, .int (s0 + s1)), (7, .int v7), (8, .int v8)]) rfl ?_
  exact w_X9_drawn_128 K49 K58 hK49 hK58 v0 v1 v2 v4 (s0 + s1) v7 v8 h _ hf
def b_X9_drawn_58 (K49 : Nat → Int32 → Int32 → Int64 → Int32 → Int32 → mj_H → Option (Int32 × mj_H)) (K58 : Nat → Int32 → Int32 → Int64 → Int32 → Int32 → Int32 → mj_H → Option (Int32 × mj_H)) (v0 : Nat) (v1 : Int32) (v2 : Int32) (v4 : Int64) (v6 : Int32) (v7 : Int32) (v8 : Int32) (h : mj_H) : Option (Int32 × mj_H) := (mj_gR h v0 9 0).bind fun x1 => (mj_aI h x1 (0 : Int32)).bind fun x2 => (if x2 ≤ v8 then K49 v0 v1 v2 v4 v6 (v7 + (1 : Int32)) h else (f_X9_has v1 v8 h).bind fun p3 => (if p3.1 = 0 then f_X9_drawn_128 K49 K58 v0 v1 v2 v4 v6 v7 v8 p3.2 else (mj_gR p3.2 v0 9 0).bind fun x4 => (f_X9_trustOn x4 v8 p3.2).bind fun p5 => (if ((p5.1).toInt64) ≤ (((((v4 * (1103515245 : Int64)) + (12345 : Int64)) - ((v4 * (1103515245 : Int64)) + (12345 : Int64)) / (2147483648 : Int64) * (2147483648 : Int64)) / (65536 : Int64)) - ((((v4 * (1103515245 : Int64)) + (12345 : Int64)) - ((v4 * (1103515245 : Int64)) + (12345 : Int64)) / (2147483648 : Int64) * (2147483648 : Int64)) / (65536 : Int64)) / (60 : Int64) * (60 : Int64)) then f_X9_drawn_125 K49 K58 v0 v1 v2 (((v4 * (1103515245 : Int64)) + (12345 : Int64)) - ((v4 * (1103515245 : Int64)) + (12345 : Int64)) / (2147483648 : Int64) * (2147483648 : Int64)) v7 v8 v6 (0 : Int32) p5.2 else f_X9_drawn_125 K49 K58 v0 v1 v2 (((v4 * (1103515245 : Int64)) + (12345 : Int64)) - ((v4 * (1103515245 : Int64)) + (12345 : Int64)) / (2147483648 : Int64) * (2147483648 : Int64)) v7 v8 v6 (1 : Int32) p5.2)))
set_option maxHeartbeats 4000000 in
set_option maxRecDepth 100000 in
theorem wb_X9_drawn_58 (K49 : Nat → Int32 → Int32 → Int64 → Int32 → Int32 → mj_H → Option (Int32 × mj_H)) (hK49 : ∀ (v0 : Nat) (v1 : Int32) (v2 : Int32) (v4 : Int64) (v6 : Int32) (v7 : Int32)  (h : mj_H) (p : Int32 × mj_H), K49 v0 v1 v2 v4 v6 v7 h = some p → mj_W mX9_drawn (mj_FI p) 49 [(0, .ref v0), (1, .int v1), (2, .int v2), (4, .long v4), (6, .int v6), (7, .int v7)] [] h 0 0) (K58 : Nat → Int32 → Int32 → Int64 → Int32 → Int32 → Int32 → mj_H → Option (Int32 × mj_H)) (hK58 : ∀ (v0 : Nat) (v1 : Int32) (v2 : Int32) (v4 : Int64) (v6 : Int32) (v7 : Int32) (v8 : Int32)  (h : mj_H) (p : Int32 × mj_H), K58 v0 v1 v2 v4 v6 v7 v8 h = some p → mj_W mX9_drawn (mj_FI p) 58 [(0, .ref v0), (1, .int v1), (2, .int v2), (4, .long v4), (6, .int v6), (7, .int v7), (8, .int v8)] [] h 0 0) (v0 : Nat) (v1 : Int32) (v2 : Int32) (v4 : Int64) (v6 : Int32) (v7 : Int32) (v8 : Int32) (h : mj_H) (p : Int32 × mj_H) (hf : b_X9_drawn_58 K49 K58 v0 v1 v2 v4 v6 v7 v8 h = some p) : mj_W mX9_drawn (mj_FI p) 58 [(0, .ref v0), (1, .int v1), (2, .int v2), (4, .long v4), (6, .int v6), (7, .int v7), (8, .int v8)] [] h 0 0 := by
  unfold b_X9_drawn_58 at hf
  refine mj_blk k_X9_ok 32 2 (pc' := 61) (l' := [(0, .ref v0), (1, .int v1), (2, .int v2), (4, .long v4), (6, .int v6), (7, .int v7), (8, .int v8)]) (st' := [.ref v0, .int v8]) rfl ?_
  obtain ⟨x1, ex1, hf⟩ := mj_bd hf
  refine mj_get 34 rfl fl_X9_7 (mj_gR_V ex1) ?_
  refine mj_blk k_X9_ok 35 1 (pc' := 65) (l' := [(0, .ref v0), (1, .int v1), (2, .int v2), (4, .long v4), (6, .int v6), (7, .int v7), (8, .int v8)]) (st' := [.int (0 : Int32), .ref x1, .int v8]) rfl ?_
  obtain ⟨x2, ex2, hf⟩ := mj_bd hf
  refine mj_iald 36 rfl ex2 ?_
  refine mj_icmp_ge 37 134 rfl (by decide) (fun q => ?_) (fun q => ?_)
  · have hf := (if_pos q).symm.trans hf
    refine mj_blk k_X9_ok 70 2 (pc' := 49) (l' := [(7, .int (v7 + (1 : Int32))), (0, .ref v0), (1, .int v1), (2, .int v2), (4, .long v4), (6, .int v6), (8, .int v8)]) (st' := []) rfl ?_
    refine mj_locs [1, 2, 3, 4, 5, 0] (l' := [(0, .ref v0), (1, .int v1), (2, .int v2), (4, .long v4), (6, .int v6), (7, .int (v7 + (1 : Int32)))]) rfl ?_
    exact hK49 v0 v1 v2 v4 v6 (v7 + (1 : Int32)) h _ hf
  · have hf := (if_neg q).symm.trans hf
    refine mj_blk k_X9_ok 38 2 (pc' := 72) (l' := [(0, .ref v0), (1, .int v1), (2, .int v2), (4, .long v4), (6, .int v6), (7, .int v7), (8, .int v8)]) (st' := [.int v8, .int v1]) rfl ?_
    obtain ⟨p3, ep3, hf⟩ := mj_bd hf
    refine mj_callS mX9_has [.int v1, .int v8] 40 rfl ll_X9_69 lb_X9_has li_X9_has ⟨Nat.le_of_ble_eq_true rfl, Nat.le_of_ble_eq_true rfl⟩ rfl (rest := []) rfl (Nat.le_of_ble_eq_true rfl) ⟨Nat.le_of_ble_eq_true rfl, Nat.le_of_ble_eq_true rfl⟩ (c_X9_has v1 v8 h p3 ep3) ?_
    show mj_W mX9_drawn (mj_FI p) 75 [(0, .ref v0), (1, .int v1), (2, .int v2), (4, .long v4), (6, .int v6), (7, .int v7), (8, .int v8)] [.int p3.1] p3.2 0 0
    refine mj_if_eq 41 128 rfl (by decide) (fun q => ?_) (fun q => ?_)
    · have hf := (if_pos q).symm.trans hf
      exact w_X9_drawn_128 K49 K58 hK49 hK58 v0 v1 v2 v4 v6 v7 v8 p3.2 _ hf
    · have hf := (if_neg q).symm.trans hf
      refine mj_blk k_X9_ok 42 6 (pc' := 91) (l' := [(0, .ref v0), (1, .int v1), (2, .int v2), (4, .long v4), (6, .int v6), (7, .int v7), (8, .int v8)]) (st' := [.long (2147483648 : Int64), .long ((v4 * (1103515245 : Int64)) + (12345 : Int64))]) rfl ?_
      refine mj_lrem 48 rfl (by decide) ?_
      refine mj_blk k_X9_ok 49 4 (pc' := 101) (l' := [(4, .long (((v4 * (1103515245 : Int64)) + (12345 : Int64)) - ((v4 * (1103515245 : Int64)) + (12345 : Int64)) / (2147483648 : Int64) * (2147483648 : Int64))), (0, .ref v0), (1, .int v1), (2, .int v2), (6, .int v6), (7, .int v7), (8, .int v8)]) (st' := [.long (65536 : Int64), .long (((v4 * (1103515245 : Int64)) + (12345 : Int64)) - ((v4 * (1103515245 : Int64)) + (12345 : Int64)) / (2147483648 : Int64) * (2147483648 : Int64)), .int v6]) rfl ?_
      refine mj_ldiv 53 rfl (by decide) ?_
      refine mj_blk k_X9_ok 54 1 (pc' := 105) (l' := [(4, .long (((v4 * (1103515245 : Int64)) + (12345 : Int64)) - ((v4 * (1103515245 : Int64)) + (12345 : Int64)) / (2147483648 : Int64) * (2147483648 : Int64))), (0, .ref v0), (1, .int v1), (2, .int v2), (6, .int v6), (7, .int v7), (8, .int v8)]) (st' := [.long (60 : Int64), .long ((((v4 * (1103515245 : Int64)) + (12345 : Int64)) - ((v4 * (1103515245 : Int64)) + (12345 : Int64)) / (2147483648 : Int64) * (2147483648 : Int64)) / (65536 : Int64)), .int v6]) rfl ?_
      refine mj_lrem 55 rfl (by decide) ?_
      refine mj_blk k_X9_ok 56 1 (pc' := 107) (l' := [(4, .long (((v4 * (1103515245 : Int64)) + (12345 : Int64)) - ((v4 * (1103515245 : Int64)) + (12345 : Int64)) / (2147483648 : Int64) * (2147483648 : Int64))), (0, .ref v0), (1, .int v1), (2, .int v2), (6, .int v6), (7, .int v7), (8, .int v8)]) (st' := [.ref v0, .long (((((v4 * (1103515245 : Int64)) + (12345 : Int64)) - ((v4 * (1103515245 : Int64)) + (12345 : Int64)) / (2147483648 : Int64) * (2147483648 : Int64)) / (65536 : Int64)) - ((((v4 * (1103515245 : Int64)) + (12345 : Int64)) - ((v4 * (1103515245 : Int64)) + (12345 : Int64)) / (2147483648 : Int64) * (2147483648 : Int64)) / (65536 : Int64)) / (60 : Int64) * (60 : Int64)), .int v6]) rfl ?_
      obtain ⟨x4, ex4, hf⟩ := mj_bd hf
      refine mj_get 57 rfl fl_X9_7 (mj_gR_V ex4) ?_
      refine mj_blk k_X9_ok 58 1 (pc' := 112) (l' := [(4, .long (((v4 * (1103515245 : Int64)) + (12345 : Int64)) - ((v4 * (1103515245 : Int64)) + (12345 : Int64)) / (2147483648 : Int64) * (2147483648 : Int64))), (0, .ref v0), (1, .int v1), (2, .int v2), (6, .int v6), (7, .int v7), (8, .int v8)]) (st' := [.int v8, .ref x4, .long (((((v4 * (1103515245 : Int64)) + (12345 : Int64)) - ((v4 * (1103515245 : Int64)) + (12345 : Int64)) / (2147483648 : Int64) * (2147483648 : Int64)) / (65536 : Int64)) - ((((v4 * (1103515245 : Int64)) + (12345 : Int64)) - ((v4 * (1103515245 : Int64)) + (12345 : Int64)) / (2147483648 : Int64) * (2147483648 : Int64)) / (65536 : Int64)) / (60 : Int64) * (60 : Int64)), .int v6]) rfl ?_
      obtain ⟨p5, ep5, hf⟩ := mj_bd hf
      refine mj_callS mX9_trustOn [.ref x4, .int v8] 59 rfl ll_X9_200 lb_X9_trustOn li_X9_trustOn ⟨Nat.le_of_ble_eq_true rfl, Nat.le_of_ble_eq_true rfl⟩ rfl (rest := [.long (((((v4 * (1103515245 : Int64)) + (12345 : Int64)) - ((v4 * (1103515245 : Int64)) + (12345 : Int64)) / (2147483648 : Int64) * (2147483648 : Int64)) / (65536 : Int64)) - ((((v4 * (1103515245 : Int64)) + (12345 : Int64)) - ((v4 * (1103515245 : Int64)) + (12345 : Int64)) / (2147483648 : Int64) * (2147483648 : Int64)) / (65536 : Int64)) / (60 : Int64) * (60 : Int64)), .int v6]) rfl (Nat.le_of_ble_eq_true rfl) ⟨Nat.le_of_ble_eq_true rfl, Nat.le_of_ble_eq_true rfl⟩ (c_X9_trustOn x4 v8 p3.2 p5 ep5) ?_
      show mj_W mX9_drawn (mj_FI p) 115 [(4, .long (((v4 * (1103515245 : Int64)) + (12345 : Int64)) - ((v4 * (1103515245 : Int64)) + (12345 : Int64)) / (2147483648 : Int64) * (2147483648 : Int64))), (0, .ref v0), (1, .int v1), (2, .int v2), (6, .int v6), (7, .int v7), (8, .int v8)] [.int p5.1, .long (((((v4 * (1103515245 : Int64)) + (12345 : Int64)) - ((v4 * (1103515245 : Int64)) + (12345 : Int64)) / (2147483648 : Int64) * (2147483648 : Int64)) / (65536 : Int64)) - ((((v4 * (1103515245 : Int64)) + (12345 : Int64)) - ((v4 * (1103515245 : Int64)) + (12345 : Int64)) / (2147483648 : Int64) * (2147483648 : Int64)) / (65536 : Int64)) / (60 : Int64) * (60 : Int64)), .int v6] p5.2 0 0
      refine mj_blk k_X9_ok 60 1 (pc' := 116) (l' := [(4, .long (((v4 * (1103515245 : Int64)) + (12345 : Int64)) - ((v4 * (1103515245 : Int64)) + (12345 : Int64)) / (2147483648 : Int64) * (2147483648 : Int64))), (0, .ref v0), (1, .int v1), (2, .int v2), (6, .int v6), (7, .int v7), (8, .int v8)]) (st' := [.long ((p5.1).toInt64), .long (((((v4 * (1103515245 : Int64)) + (12345 : Int64)) - ((v4 * (1103515245 : Int64)) + (12345 : Int64)) / (2147483648 : Int64) * (2147483648 : Int64)) / (65536 : Int64)) - ((((v4 * (1103515245 : Int64)) + (12345 : Int64)) - ((v4 * (1103515245 : Int64)) + (12345 : Int64)) / (2147483648 : Int64) * (2147483648 : Int64)) / (65536 : Int64)) / (60 : Int64) * (60 : Int64)), .int v6]) rfl ?_
      refine mj_lcmp_ge 61 124 rfl rfl (by decide) (fun q => ?_) (fun q => ?_)
      · have hf := (if_pos q).symm.trans hf
        refine mj_blk k_X9_ok 65 1 (pc' := 125) (l' := [(4, .long (((v4 * (1103515245 : Int64)) + (12345 : Int64)) - ((v4 * (1103515245 : Int64)) + (12345 : Int64)) / (2147483648 : Int64) * (2147483648 : Int64))), (0, .ref v0), (1, .int v1), (2, .int v2), (6, .int v6), (7, .int v7), (8, .int v8)]) (st' := [.int (0 : Int32), .int v6]) rfl ?_
        refine mj_locs [1, 2, 3, 0, 5, 6] (l' := [(0, .ref v0), (1, .int v1), (2, .int v2), (4, .long (((v4 * (1103515245 : Int64)) + (12345 : Int64)) - ((v4 * (1103515245 : Int64)) + (12345 : Int64)) / (2147483648 : Int64) * (2147483648 : Int64))), (7, .int v7), (8, .int v8)]) rfl ?_
        exact w_X9_drawn_125 K49 K58 hK49 hK58 v0 v1 v2 (((v4 * (1103515245 : Int64)) + (12345 : Int64)) - ((v4 * (1103515245 : Int64)) + (12345 : Int64)) / (2147483648 : Int64) * (2147483648 : Int64)) v7 v8 v6 (0 : Int32) p5.2 _ hf
      · have hf := (if_neg q).symm.trans hf
        refine mj_blk k_X9_ok 63 2 (pc' := 125) (l' := [(4, .long (((v4 * (1103515245 : Int64)) + (12345 : Int64)) - ((v4 * (1103515245 : Int64)) + (12345 : Int64)) / (2147483648 : Int64) * (2147483648 : Int64))), (0, .ref v0), (1, .int v1), (2, .int v2), (6, .int v6), (7, .int v7), (8, .int v8)]) (st' := [.int (1 : Int32), .int v6]) rfl ?_
        refine mj_locs [1, 2, 3, 0, 5, 6] (l' := [(0, .ref v0), (1, .int v1), (2, .int v2), (4, .long (((v4 * (1103515245 : Int64)) + (12345 : Int64)) - ((v4 * (1103515245 : Int64)) + (12345 : Int64)) / (2147483648 : Int64) * (2147483648 : Int64))), (7, .int v7), (8, .int v8)]) rfl ?_
        exact w_X9_drawn_125 K49 K58 hK49 hK58 v0 v1 v2 (((v4 * (1103515245 : Int64)) + (12345 : Int64)) - ((v4 * (1103515245 : Int64)) + (12345 : Int64)) / (2147483648 : Int64) * (2147483648 : Int64)) v7 v8 v6 (1 : Int32) p5.2 _ hf
def f_X9_drawn_58 (K49 : Nat → Int32 → Int32 → Int64 → Int32 → Int32 → mj_H → Option (Int32 × mj_H)) (v0 : Nat) (v1 : Int32) (v2 : Int32) (v4 : Int64) (v6 : Int32) (v7 : Int32) (v8 : Int32) (h : mj_H) : Option (Int32 × mj_H) := mj_fix (fun (K58 : (Nat × Int32 × Int32 × Int64 × Int32 × Int32 × Int32 × mj_H) → Option (Int32 × mj_H)) (s : Nat × Int32 × Int32 × Int64 × Int32 × Int32 × Int32 × mj_H) => b_X9_drawn_58 K49 (fun v0 v1 v2 v4 v6 v7 v8 h => K58 (v0, v1, v2, v4, v6, v7, v8, h)) s.1 s.2.1 s.2.2.1 s.2.2.2.1 s.2.2.2.2.1 s.2.2.2.2.2.1 s.2.2.2.2.2.2.1 s.2.2.2.2.2.2.2) 1000 (v0, v1, v2, v4, v6, v7, v8, h)
set_option maxHeartbeats 4000000 in
set_option maxRecDepth 100000 in
theorem w_X9_drawn_58 (K49 : Nat → Int32 → Int32 → Int64 → Int32 → Int32 → mj_H → Option (Int32 × mj_H)) (hK49 : ∀ (v0 : Nat) (v1 : Int32) (v2 : Int32) (v4 : Int64) (v6 : Int32) (v7 : Int32)  (h : mj_H) (p : Int32 × mj_H), K49 v0 v1 v2 v4 v6 v7 h = some p → mj_W mX9_drawn (mj_FI p) 49 [(0, .ref v0), (1, .int v1), (2, .int v2), (4, .long v4), (6, .int v6), (7, .int v7)] [] h 0 0) (v0 : Nat) (v1 : Int32) (v2 : Int32) (v4 : Int64) (v6 : Int32) (v7 : Int32) (v8 : Int32) (h : mj_H) (p : Int32 × mj_H) (hf : f_X9_drawn_58 K49 v0 v1 v2 v4 v6 v7 v8 h = some p) : mj_W mX9_drawn (mj_FI p) 58 [(0, .ref v0), (1, .int v1), (2, .int v2), (4, .long v4), (6, .int v6), (7, .int v7), (8, .int v8)] [] h 0 0 := by
  unfold f_X9_drawn_58 at hf
  exact mj_fix_ind (F := (fun (K58 : (Nat × Int32 × Int32 × Int64 × Int32 × Int32 × Int32 × mj_H) → Option (Int32 × mj_H)) (s : Nat × Int32 × Int32 × Int64 × Int32 × Int32 × Int32 × mj_H) => b_X9_drawn_58 K49 (fun v0 v1 v2 v4 v6 v7 v8 h => K58 (v0, v1, v2, v4, v6, v7, v8, h)) s.1 s.2.1 s.2.2.1 s.2.2.2.1 s.2.2.2.2.1 s.2.2.2.2.2.1 s.2.2.2.2.2.2.1 s.2.2.2.2.2.2.2)) (P := fun s p => mj_W mX9_drawn (mj_FI p) 58 [(0, .ref s.1), (1, .int s.2.1), (2, .int s.2.2.1), (4, .long s.2.2.2.1), (6, .int s.2.2.2.2.1), (7, .int s.2.2.2.2.2.1), (8, .int s.2.2.2.2.2.2.1)] [] s.2.2.2.2.2.2.2 0 0) (fun K58 hK58 s p hf => wb_X9_drawn_58 K49 hK49 (fun v0 v1 v2 v4 v6 v7 v8 h => K58 (v0, v1, v2, v4, v6, v7, v8, h)) (fun v0 v1 v2 v4 v6 v7 v8 h p e => hK58 (v0, v1, v2, v4, v6, v7, v8, h) p e) s.1 s.2.1 s.2.2.1 s.2.2.2.1 s.2.2.2.2.1 s.2.2.2.2.2.1 s.2.2.2.2.2.2.1 s.2.2.2.2.2.2.2 p hf) 1000 (v0, v1, v2, v4, v6, v7, v8, h) p hf
def b_X9_drawn_49 (K49 : Nat → Int32 → Int32 → Int64 → Int32 → Int32 → mj_H → Option (Int32 × mj_H)) (v0 : Nat) (v1 : Int32) (v2 : Int32) (v4 : Int64) (v6 : Int32) (v7 : Int32) (h : mj_H) : Option (Int32 × mj_H) := (if v2 ≤ v7 then some (v6, h) else f_X9_drawn_58 K49 v0 v1 v2 v4 v6 v7 (0 : Int32) h)
set_option maxHeartbeats 4000000 in
set_option maxRecDepth 100000 in
theorem wb_X9_drawn_49 (K49 : Nat → Int32 → Int32 → Int64 → Int32 → Int32 → mj_H → Option (Int32 × mj_H)) (hK49 : ∀ (v0 : Nat) (v1 : Int32) (v2 : Int32) (v4 : Int64) (v6 : Int32) (v7 : Int32)  (h : mj_H) (p : Int32 × mj_H), K49 v0 v1 v2 v4 v6 v7 h = some p → mj_W mX9_drawn (mj_FI p) 49 [(0, .ref v0), (1, .int v1), (2, .int v2), (4, .long v4), (6, .int v6), (7, .int v7)] [] h 0 0) (v0 : Nat) (v1 : Int32) (v2 : Int32) (v4 : Int64) (v6 : Int32) (v7 : Int32) (h : mj_H) (p : Int32 × mj_H) (hf : b_X9_drawn_49  K49 v0 v1 v2 v4 v6 v7 h = some p) : mj_W mX9_drawn (mj_FI p) 49 [(0, .ref v0), (1, .int v1), (2, .int v2), (4, .long v4), (6, .int v6), (7, .int v7)] [] h 0 0 := by
  unfold b_X9_drawn_49 at hf
  refine mj_blk k_X9_ok 27 2 (pc' := 52) (l' := [(0, .ref v0), (1, .int v1), (2, .int v2), (4, .long v4), (6, .int v6), (7, .int v7)]) (st' := [.int v2, .int v7]) rfl ?_
  refine mj_icmp_ge 29 140 rfl (by decide) (fun q => ?_) (fun q => ?_)
  · have hf := (if_pos q).symm.trans hf
    refine mj_blk k_X9_ok 72 1 (pc' := 142) (l' := [(0, .ref v0), (1, .int v1), (2, .int v2), (4, .long v4), (6, .int v6), (7, .int v7)]) (st' := [.int v6]) rfl ?_
    obtain rfl := Option.some.inj hf
    exact mj_end (some (.int v6)) ⟨mj_dec tok_X9_drawn (a := 73) rfl, .int, rfl, rfl⟩ ⟨rfl, rfl⟩ (Nat.le_of_ble_eq_true rfl) (Nat.le_of_ble_eq_true rfl)
  · have hf := (if_neg q).symm.trans hf
    refine mj_blk k_X9_ok 30 2 (pc' := 58) (l' := [(8, .int (0 : Int32)), (0, .ref v0), (1, .int v1), (2, .int v2), (4, .long v4), (6, .int v6), (7, .int v7)]) (st' := []) rfl ?_
    refine mj_locs [1, 2, 3, 4, 5, 6, 0] (l' := [(0, .ref v0), (1, .int v1), (2, .int v2), (4, .long v4), (6, .int v6), (7, .int v7), (8, .int (0 : Int32))]) rfl ?_
    exact w_X9_drawn_58 K49 hK49 v0 v1 v2 v4 v6 v7 (0 : Int32) h _ hf
def f_X9_drawn_49 (v0 : Nat) (v1 : Int32) (v2 : Int32) (v4 : Int64) (v6 : Int32) (v7 : Int32) (h : mj_H) : Option (Int32 × mj_H) := mj_fix (fun (K49 : (Nat × Int32 × Int32 × Int64 × Int32 × Int32 × mj_H) → Option (Int32 × mj_H)) (s : Nat × Int32 × Int32 × Int64 × Int32 × Int32 × mj_H) => b_X9_drawn_49  (fun v0 v1 v2 v4 v6 v7 h => K49 (v0, v1, v2, v4, v6, v7, h)) s.1 s.2.1 s.2.2.1 s.2.2.2.1 s.2.2.2.2.1 s.2.2.2.2.2.1 s.2.2.2.2.2.2) 1000 (v0, v1, v2, v4, v6, v7, h)
set_option maxHeartbeats 4000000 in
set_option maxRecDepth 100000 in
theorem w_X9_drawn_49 (v0 : Nat) (v1 : Int32) (v2 : Int32) (v4 : Int64) (v6 : Int32) (v7 : Int32) (h : mj_H) (p : Int32 × mj_H) (hf : f_X9_drawn_49  v0 v1 v2 v4 v6 v7 h = some p) : mj_W mX9_drawn (mj_FI p) 49 [(0, .ref v0), (1, .int v1), (2, .int v2), (4, .long v4), (6, .int v6), (7, .int v7)] [] h 0 0 := by
  unfold f_X9_drawn_49 at hf
  exact mj_fix_ind (F := (fun (K49 : (Nat × Int32 × Int32 × Int64 × Int32 × Int32 × mj_H) → Option (Int32 × mj_H)) (s : Nat × Int32 × Int32 × Int64 × Int32 × Int32 × mj_H) => b_X9_drawn_49  (fun v0 v1 v2 v4 v6 v7 h => K49 (v0, v1, v2, v4, v6, v7, h)) s.1 s.2.1 s.2.2.1 s.2.2.2.1 s.2.2.2.2.1 s.2.2.2.2.2.1 s.2.2.2.2.2.2)) (P := fun s p => mj_W mX9_drawn (mj_FI p) 49 [(0, .ref s.1), (1, .int s.2.1), (2, .int s.2.2.1), (4, .long s.2.2.2.1), (6, .int s.2.2.2.2.1), (7, .int s.2.2.2.2.2.1)] [] s.2.2.2.2.2.2 0 0) (fun K49 hK49 s p hf => wb_X9_drawn_49   (fun v0 v1 v2 v4 v6 v7 h => K49 (v0, v1, v2, v4, v6, v7, h)) (fun v0 v1 v2 v4 v6 v7 h p e => hK49 (v0, v1, v2, v4, v6, v7, h) p e) s.1 s.2.1 s.2.2.1 s.2.2.2.1 s.2.2.2.2.1 s.2.2.2.2.2.1 s.2.2.2.2.2.2 p hf) 1000 (v0, v1, v2, v4, v6, v7, h) p hf
def f_X9_drawn_32 (v0 : Nat) (h : mj_H) : Option (Int32 × mj_H) := (if mj_ob h v0 9 = true then (f_X9_bad v0 (-2 : Int32) h).bind fun p6 => some (p6.1, p6.2) else none)
set_option maxHeartbeats 4000000 in
set_option maxRecDepth 100000 in
theorem w_X9_drawn_32 (v0 : Nat) (h : mj_H) (p : Int32 × mj_H) (hf : f_X9_drawn_32  v0 h = some p) : mj_W mX9_drawn (mj_FI p) 32 [(0, .ref v0)] [] h 0 0 := by
  unfold f_X9_drawn_32 at hf
  refine mj_blk k_X9_ok 16 2 (pc' := 35) (l' := [(0, .ref v0)]) (st' := [.int (-2 : Int32), .ref v0]) rfl ?_
  obtain ⟨gp6, hf⟩ := mj_gd hf
  obtain ⟨p6, ep6, hf⟩ := mj_bd hf
  refine mj_callV (T := TX9) (N := 20) (ci := 9) mX9_bad [.int (-2 : Int32)] 18 rfl ll_X9_75 lb_X9_bad li_X9_bad ⟨Nat.le_of_ble_eq_true rfl, Nat.le_of_ble_eq_true rfl⟩ rfl gp6 rfl (rest := []) rfl (Nat.le_of_ble_eq_true rfl) ⟨Nat.le_of_ble_eq_true rfl, Nat.le_of_ble_eq_true rfl⟩ (c_X9_bad v0 (-2 : Int32) h p6 ep6) ?_
  show mj_W mX9_drawn (mj_FI p) 38 [(0, .ref v0)] [.int p6.1] p6.2 0 0
  obtain rfl := Option.some.inj hf
  exact mj_end (some (.int p6.1)) ⟨mj_dec tok_X9_drawn (a := 19) rfl, .int, rfl, rfl⟩ ⟨rfl, rfl⟩ (Nat.le_of_ble_eq_true rfl) (Nat.le_of_ble_eq_true rfl)
def f_X9_drawn (v0 : Nat) (v1 : Int32) (v2 : Int32) (v3 : Int32) (h : mj_H) : Option (Int32 × mj_H) := (if mj_ob h v0 9 = true then (f_X9_areMen v0 v1 h).bind fun p7 => (if p7.1 = 0 then f_X9_drawn_32 v0 p7.2 else (f_X9_in ((v2).toInt64) (0 : Int64) (30 : Int64) p7.2).bind fun p8 => (if p8.1 = 0 then f_X9_drawn_32 v0 p8.2 else (f_X9_in ((v3).toInt64) (0 : Int64) (999999 : Int64) p8.2).bind fun p9 => (if p9.1 = 0 then f_X9_drawn_32 v0 p9.2 else f_X9_drawn_49 v0 v1 v2 ((v3).toInt64) (0 : Int32) (0 : Int32) p9.2))) else none)
set_option maxHeartbeats 4000000 in
set_option maxRecDepth 100000 in
theorem c_X9_drawn (v0 : Nat) (v1 : Int32) (v2 : Int32) (v3 : Int32) (h : mj_H) (p : Int32 × mj_H) (hf : f_X9_drawn v0 v1 v2 v3 h = some p) : mj_Met mX9_drawn [.ref v0, .int v1, .int v2, .int v3] h (some (.int p.1)) p.2 := by
  refine mj_met pl_X9 tok_X9_drawn (Nat.le_of_ble_eq_true rfl) ?_
  show mj_W mX9_drawn (mj_FI p) 0 [(0, .ref v0), (1, .int v1), (2, .int v2), (3, .int v3)] [] h 0 0
  unfold f_X9_drawn at hf
  refine mj_blk k_X9_ok 0 2 (pc' := 2) (l' := [(0, .ref v0), (1, .int v1), (2, .int v2), (3, .int v3)]) (st' := [.int v1, .ref v0]) rfl ?_
  obtain ⟨gp7, hf⟩ := mj_gd hf
  obtain ⟨p7, ep7, hf⟩ := mj_bd hf
  refine mj_callV (T := TX9) (N := 20) (ci := 9) mX9_areMen [.int v1] 2 rfl ll_X9_214 lb_X9_areMen li_X9_areMen ⟨Nat.le_of_ble_eq_true rfl, Nat.le_of_ble_eq_true rfl⟩ rfl gp7 rfl (rest := []) rfl (Nat.le_of_ble_eq_true rfl) ⟨Nat.le_of_ble_eq_true rfl, Nat.le_of_ble_eq_true rfl⟩ (c_X9_areMen v0 v1 h p7 ep7) ?_
  show mj_W mX9_drawn (mj_FI p) 5 [(0, .ref v0), (1, .int v1), (2, .int v2), (3, .int v3)] [.int p7.1] p7.2 0 0
  refine mj_if_eq 3 32 rfl (by decide) (fun q => ?_) (fun q => ?_)
  · have hf := (if_pos q).symm.trans hf
    refine mj_locs [0] (l' := [(0, .ref v0)]) rfl ?_
    exact w_X9_drawn_32 v0 p7.2 _ hf
  · have hf := (if_neg q).symm.trans hf
    refine mj_blk k_X9_ok 4 4 (pc' := 14) (l' := [(0, .ref v0), (1, .int v1), (2, .int v2), (3, .int v3)]) (st' := [.long (30 : Int64), .long (0 : Int64), .long ((v2).toInt64)]) rfl ?_
    obtain ⟨p8, ep8, hf⟩ := mj_bd hf
    refine mj_callS mX9_in [.long ((v2).toInt64), .long (0 : Int64), .long (30 : Int64)] 8 rfl ll_X9_53 lb_X9_in li_X9_in ⟨Nat.le_of_ble_eq_true rfl, Nat.le_of_ble_eq_true rfl⟩ rfl (rest := []) rfl (Nat.le_of_ble_eq_true rfl) ⟨Nat.le_of_ble_eq_true rfl, Nat.le_of_ble_eq_true rfl⟩ (c_X9_in ((v2).toInt64) (0 : Int64) (30 : Int64) p7.2 p8 ep8) ?_
    show mj_W mX9_drawn (mj_FI p) 17 [(0, .ref v0), (1, .int v1), (2, .int v2), (3, .int v3)] [.int p8.1] p8.2 0 0
    refine mj_if_eq 9 32 rfl (by decide) (fun q => ?_) (fun q => ?_)
    · have hf := (if_pos q).symm.trans hf
      refine mj_locs [0] (l' := [(0, .ref v0)]) rfl ?_
      exact w_X9_drawn_32 v0 p8.2 _ hf
    · have hf := (if_neg q).symm.trans hf
      refine mj_blk k_X9_ok 10 4 (pc' := 26) (l' := [(0, .ref v0), (1, .int v1), (2, .int v2), (3, .int v3)]) (st' := [.long (999999 : Int64), .long (0 : Int64), .long ((v3).toInt64)]) rfl ?_
      obtain ⟨p9, ep9, hf⟩ := mj_bd hf
      refine mj_callS mX9_in [.long ((v3).toInt64), .long (0 : Int64), .long (999999 : Int64)] 14 rfl ll_X9_53 lb_X9_in li_X9_in ⟨Nat.le_of_ble_eq_true rfl, Nat.le_of_ble_eq_true rfl⟩ rfl (rest := []) rfl (Nat.le_of_ble_eq_true rfl) ⟨Nat.le_of_ble_eq_true rfl, Nat.le_of_ble_eq_true rfl⟩ (c_X9_in ((v3).toInt64) (0 : Int64) (999999 : Int64) p8.2 p9 ep9) ?_
      show mj_W mX9_drawn (mj_FI p) 29 [(0, .ref v0), (1, .int v1), (2, .int v2), (3, .int v3)] [.int p9.1] p9.2 0 0
      refine mj_if_ne 15 39 rfl (by decide) (fun q => ?_) (fun q => ?_)
      · have hf := (if_neg q).symm.trans hf
        refine mj_blk k_X9_ok 20 7 (pc' := 49) (l' := [(7, .int (0 : Int32)), (6, .int (0 : Int32)), (4, .long ((v3).toInt64)), (0, .ref v0), (1, .int v1), (2, .int v2), (3, .int v3)]) (st' := []) rfl ?_
        refine mj_locs [3, 4, 5, 2, 1, 0] (l' := [(0, .ref v0), (1, .int v1), (2, .int v2), (4, .long ((v3).toInt64)), (6, .int (0 : Int32)), (7, .int (0 : Int32))]) rfl ?_
        exact w_X9_drawn_49 v0 v1 v2 ((v3).toInt64) (0 : Int32) (0 : Int32) p9.2 _ hf
      · have hf := (if_pos q).symm.trans hf
        refine mj_locs [0] (l' := [(0, .ref v0)]) rfl ?_
        exact w_X9_drawn_32 v0 p9.2 _ hf
def f_X9_part (v0 : Nat) (v1 : Int32) (h : mj_H) : Option (Int64 × mj_H) := (if v1 = 0 then (mj_gJ h v0 9 5).bind fun x3 => some (x3, h) else (if v1 = (1 : Int32) then (mj_gJ h v0 9 6).bind fun x2 => some (x2, h) else (if mj_ob h v0 9 = true then (f_X9_bad v0 (-2 : Int32) h).bind fun p1 => some (((p1.1).toInt64), p1.2) else none)))
set_option maxHeartbeats 4000000 in
set_option maxRecDepth 100000 in
theorem c_X9_part (v0 : Nat) (v1 : Int32) (h : mj_H) (p : Int64 × mj_H) (hf : f_X9_part v0 v1 h = some p) : mj_Met mX9_part [.ref v0, .int v1] h (some (.long p.1)) p.2 := by
  refine mj_met pl_X9 tok_X9_part (Nat.le_of_ble_eq_true rfl) ?_
  show mj_W mX9_part (mj_FJ p) 0 [(0, .ref v0), (1, .int v1)] [] h 0 0
  unfold f_X9_part at hf
  refine mj_blk k_X9_ok 0 1 (pc' := 1) (l' := [(0, .ref v0), (1, .int v1)]) (st' := [.int v1]) rfl ?_
  refine mj_if_ne 1 11 rfl (by decide) (fun q => ?_) (fun q => ?_)
  · have hf := (if_neg q).symm.trans hf
    refine mj_blk k_X9_ok 5 2 (pc' := 13) (l' := [(0, .ref v0), (1, .int v1)]) (st' := [.int (1 : Int32), .int v1]) rfl ?_
    refine mj_icmp_ne 7 23 rfl (by decide) (fun q => ?_) (fun q => ?_)
    · have hf := (if_neg q).symm.trans hf
      refine mj_blk k_X9_ok 11 2 (pc' := 26) (l' := [(0, .ref v0), (1, .int v1)]) (st' := [.int (-2 : Int32), .ref v0]) rfl ?_
      obtain ⟨gp1, hf⟩ := mj_gd hf
      obtain ⟨p1, ep1, hf⟩ := mj_bd hf
      refine mj_callV (T := TX9) (N := 20) (ci := 9) mX9_bad [.int (-2 : Int32)] 13 rfl ll_X9_75 lb_X9_bad li_X9_bad ⟨Nat.le_of_ble_eq_true rfl, Nat.le_of_ble_eq_true rfl⟩ rfl gp1 rfl (rest := []) rfl (Nat.le_of_ble_eq_true rfl) ⟨Nat.le_of_ble_eq_true rfl, Nat.le_of_ble_eq_true rfl⟩ (c_X9_bad v0 (-2 : Int32) h p1 ep1) ?_
      show mj_W mX9_part (mj_FJ p) 29 [(0, .ref v0), (1, .int v1)] [.int p1.1] p1.2 0 0
      refine mj_blk k_X9_ok 14 1 (pc' := 30) (l' := [(0, .ref v0), (1, .int v1)]) (st' := [.long ((p1.1).toInt64)]) rfl ?_
      obtain rfl := Option.some.inj hf
      exact mj_end (some (.long ((p1.1).toInt64))) ⟨mj_dec tok_X9_part (a := 15) rfl, rfl⟩ ⟨rfl, rfl⟩ (Nat.le_of_ble_eq_true rfl) (Nat.le_of_ble_eq_true rfl)
    · have hf := (if_pos q).symm.trans hf
      refine mj_blk k_X9_ok 8 1 (pc' := 17) (l' := [(0, .ref v0), (1, .int v1)]) (st' := [.ref v0]) rfl ?_
      obtain ⟨x2, ex2, hf⟩ := mj_bd hf
      refine mj_get 9 rfl fl_X9_23 (mj_gJ_V ex2) ?_
      refine mj_blk k_X9_ok 10 1 (pc' := 30) (l' := [(0, .ref v0), (1, .int v1)]) (st' := [.long x2]) rfl ?_
      obtain rfl := Option.some.inj hf
      exact mj_end (some (.long x2)) ⟨mj_dec tok_X9_part (a := 15) rfl, rfl⟩ ⟨rfl, rfl⟩ (Nat.le_of_ble_eq_true rfl) (Nat.le_of_ble_eq_true rfl)
  · have hf := (if_pos q).symm.trans hf
    refine mj_blk k_X9_ok 2 1 (pc' := 5) (l' := [(0, .ref v0), (1, .int v1)]) (st' := [.ref v0]) rfl ?_
    obtain ⟨x3, ex3, hf⟩ := mj_bd hf
    refine mj_get 3 rfl fl_X9_211 (mj_gJ_V ex3) ?_
    refine mj_blk k_X9_ok 4 1 (pc' := 30) (l' := [(0, .ref v0), (1, .int v1)]) (st' := [.long x3]) rfl ?_
    obtain rfl := Option.some.inj hf
    exact mj_end (some (.long x3)) ⟨mj_dec tok_X9_part (a := 15) rfl, rfl⟩ ⟨rfl, rfl⟩ (Nat.le_of_ble_eq_true rfl) (Nat.le_of_ble_eq_true rfl)
def f_X9_image (v0 : Nat) (v1 : Int32) (h : mj_H) : Option (Int32 × mj_H) := (f_X9_isTwo v1 h).bind fun p1 => (if p1.1 = 0 then (if mj_ob p1.2 v0 9 = true then (f_X9_bad v0 (-2 : Int32) p1.2).bind fun p7 => some (p7.1, p7.2) else none) else (mj_gR p1.2 v0 9 0).bind fun x2 => (mj_gR p1.2 v0 9 1).bind fun x3 => (f_X9_copies x2 (0 : Int32) x3 ((356 : Int32) * v1) (356 : Int32) p1.2).bind fun p4 => (mj_gR p4 v0 9 2).bind fun x5 => (mj_uZ p4 x5 v1 (1 : Int32)).bind fun h6 => some ((1 : Int32), h6))
set_option maxHeartbeats 4000000 in
set_option maxRecDepth 100000 in
theorem c_X9_image (v0 : Nat) (v1 : Int32) (h : mj_H) (p : Int32 × mj_H) (hf : f_X9_image v0 v1 h = some p) : mj_Met mX9_image [.ref v0, .int v1] h (some (.int p.1)) p.2 := by
  refine mj_met pl_X9 tok_X9_image (Nat.le_of_ble_eq_true rfl) ?_
  show mj_W mX9_image (mj_FI p) 0 [(0, .ref v0), (1, .int v1)] [] h 0 0
  unfold f_X9_image at hf
  refine mj_blk k_X9_ok 0 1 (pc' := 1) (l' := [(0, .ref v0), (1, .int v1)]) (st' := [.int v1]) rfl ?_
  obtain ⟨p1, ep1, hf⟩ := mj_bd hf
  refine mj_callS mX9_isTwo [.int v1] 1 rfl ll_X9_256 lb_X9_isTwo li_X9_isTwo ⟨Nat.le_of_ble_eq_true rfl, Nat.le_of_ble_eq_true rfl⟩ rfl (rest := []) rfl (Nat.le_of_ble_eq_true rfl) ⟨Nat.le_of_ble_eq_true rfl, Nat.le_of_ble_eq_true rfl⟩ (c_X9_isTwo v1 h p1 ep1) ?_
  show mj_W mX9_image (mj_FI p) 4 [(0, .ref v0), (1, .int v1)] [.int p1.1] p1.2 0 0
  refine mj_if_ne 2 14 rfl (by decide) (fun q => ?_) (fun q => ?_)
  · have hf := (if_neg q).symm.trans hf
    refine mj_blk k_X9_ok 7 1 (pc' := 15) (l' := [(0, .ref v0), (1, .int v1)]) (st' := [.ref v0]) rfl ?_
    obtain ⟨x2, ex2, hf⟩ := mj_bd hf
    refine mj_get 8 rfl fl_X9_7 (mj_gR_V ex2) ?_
    refine mj_blk k_X9_ok 9 2 (pc' := 20) (l' := [(0, .ref v0), (1, .int v1)]) (st' := [.ref v0, .int (0 : Int32), .ref x2]) rfl ?_
    obtain ⟨x3, ex3, hf⟩ := mj_bd hf
    refine mj_get 11 rfl fl_X9_13 (mj_gR_V ex3) ?_
    refine mj_blk k_X9_ok 12 4 (pc' := 31) (l' := [(0, .ref v0), (1, .int v1)]) (st' := [.int (356 : Int32), .int ((356 : Int32) * v1), .ref x3, .int (0 : Int32), .ref x2]) rfl ?_
    obtain ⟨p4, ep4, hf⟩ := mj_bd hf
    refine mj_callS mX9_copies [.ref x2, .int (0 : Int32), .ref x3, .int ((356 : Int32) * v1), .int (356 : Int32)] 16 rfl ll_X9_59 lb_X9_copies li_X9_copies ⟨Nat.le_of_ble_eq_true rfl, Nat.le_of_ble_eq_true rfl⟩ rfl (rest := []) rfl (Nat.le_of_ble_eq_true rfl) ⟨Nat.le_of_ble_eq_true rfl, Nat.le_of_ble_eq_true rfl⟩ (c_X9_copies x2 (0 : Int32) x3 ((356 : Int32) * v1) (356 : Int32) p1.2 p4 ep4) ?_
    show mj_W mX9_image (mj_FI p) 34 [(0, .ref v0), (1, .int v1)] [] p4 0 0
    refine mj_blk k_X9_ok 17 1 (pc' := 35) (l' := [(0, .ref v0), (1, .int v1)]) (st' := [.ref v0]) rfl ?_
    obtain ⟨x5, ex5, hf⟩ := mj_bd hf
    refine mj_get 18 rfl fl_X9_16 (mj_gR_V ex5) ?_
    refine mj_blk k_X9_ok 19 2 (pc' := 40) (l' := [(0, .ref v0), (1, .int v1)]) (st' := [.int (1 : Int32), .int v1, .ref x5]) rfl ?_
    obtain ⟨h6, eh6, hf⟩ := mj_bd hf
    refine mj_zast 21 rfl eh6 ?_
    refine mj_blk k_X9_ok 22 1 (pc' := 42) (l' := [(0, .ref v0), (1, .int v1)]) (st' := [.int (1 : Int32)]) rfl ?_
    obtain rfl := Option.some.inj hf
    exact mj_end (some (.int (1 : Int32))) ⟨mj_dec tok_X9_image (a := 23) rfl, .int, rfl, rfl⟩ ⟨rfl, rfl⟩ (Nat.le_of_ble_eq_true rfl) (Nat.le_of_ble_eq_true rfl)
  · have hf := (if_pos q).symm.trans hf
    refine mj_blk k_X9_ok 3 2 (pc' := 10) (l' := [(0, .ref v0), (1, .int v1)]) (st' := [.int (-2 : Int32), .ref v0]) rfl ?_
    obtain ⟨gp7, hf⟩ := mj_gd hf
    obtain ⟨p7, ep7, hf⟩ := mj_bd hf
    refine mj_callV (T := TX9) (N := 20) (ci := 9) mX9_bad [.int (-2 : Int32)] 5 rfl ll_X9_75 lb_X9_bad li_X9_bad ⟨Nat.le_of_ble_eq_true rfl, Nat.le_of_ble_eq_true rfl⟩ rfl gp7 rfl (rest := []) rfl (Nat.le_of_ble_eq_true rfl) ⟨Nat.le_of_ble_eq_true rfl, Nat.le_of_ble_eq_true rfl⟩ (c_X9_bad v0 (-2 : Int32) p1.2 p7 ep7) ?_
    show mj_W mX9_image (mj_FI p) 13 [(0, .ref v0), (1, .int v1)] [.int p7.1] p7.2 0 0
    obtain rfl := Option.some.inj hf
    exact mj_end (some (.int p7.1)) ⟨mj_dec tok_X9_image (a := 6) rfl, .int, rfl, rfl⟩ ⟨rfl, rfl⟩ (Nat.le_of_ble_eq_true rfl) (Nat.le_of_ble_eq_true rfl)
def f_X9_from (v0 : Nat) (v1 : Int32) (h : mj_H) : Option (Int32 × mj_H) := (f_X9_isTwo v1 h).bind fun p1 => (if p1.1 = 0 then (if mj_ob p1.2 v0 9 = true then (f_X9_bad v0 (-2 : Int32) p1.2).bind fun p8 => some (p8.1, p8.2) else none) else (mj_gR p1.2 v0 9 2).bind fun x2 => (mj_aZ p1.2 x2 v1).bind fun x3 => (if x3 = 0 then (if mj_ob p1.2 v0 9 = true then (f_X9_no v0 (-3 : Int32) p1.2).bind fun p7 => some (p7.1, p7.2) else none) else (mj_gR p1.2 v0 9 1).bind fun x4 => (mj_gR p1.2 v0 9 0).bind fun x5 => (f_X9_copies x4 ((356 : Int32) * v1) x5 (0 : Int32) (356 : Int32) p1.2).bind fun p6 => some ((1 : Int32), p6)))
set_option maxHeartbeats 4000000 in
set_option maxRecDepth 100000 in
theorem c_X9_from (v0 : Nat) (v1 : Int32) (h : mj_H) (p : Int32 × mj_H) (hf : f_X9_from v0 v1 h = some p) : mj_Met mX9_from [.ref v0, .int v1] h (some (.int p.1)) p.2 := by
  refine mj_met pl_X9 tok_X9_from (Nat.le_of_ble_eq_true rfl) ?_
  show mj_W mX9_from (mj_FI p) 0 [(0, .ref v0), (1, .int v1)] [] h 0 0
  unfold f_X9_from at hf
  refine mj_blk k_X9_ok 0 1 (pc' := 1) (l' := [(0, .ref v0), (1, .int v1)]) (st' := [.int v1]) rfl ?_
  obtain ⟨p1, ep1, hf⟩ := mj_bd hf
  refine mj_callS mX9_isTwo [.int v1] 1 rfl ll_X9_256 lb_X9_isTwo li_X9_isTwo ⟨Nat.le_of_ble_eq_true rfl, Nat.le_of_ble_eq_true rfl⟩ rfl (rest := []) rfl (Nat.le_of_ble_eq_true rfl) ⟨Nat.le_of_ble_eq_true rfl, Nat.le_of_ble_eq_true rfl⟩ (c_X9_isTwo v1 h p1 ep1) ?_
  show mj_W mX9_from (mj_FI p) 4 [(0, .ref v0), (1, .int v1)] [.int p1.1] p1.2 0 0
  refine mj_if_ne 2 14 rfl (by decide) (fun q => ?_) (fun q => ?_)
  · have hf := (if_neg q).symm.trans hf
    refine mj_blk k_X9_ok 7 1 (pc' := 15) (l' := [(0, .ref v0), (1, .int v1)]) (st' := [.ref v0]) rfl ?_
    obtain ⟨x2, ex2, hf⟩ := mj_bd hf
    refine mj_get 8 rfl fl_X9_16 (mj_gR_V ex2) ?_
    refine mj_blk k_X9_ok 9 1 (pc' := 19) (l' := [(0, .ref v0), (1, .int v1)]) (st' := [.int v1, .ref x2]) rfl ?_
    obtain ⟨x3, ex3, hf⟩ := mj_bd hf
    refine mj_zald 10 rfl ex3 ?_
    refine mj_if_ne 11 30 rfl (by decide) (fun q => ?_) (fun q => ?_)
    · have hf := (if_neg q).symm.trans hf
      refine mj_blk k_X9_ok 16 1 (pc' := 31) (l' := [(0, .ref v0), (1, .int v1)]) (st' := [.ref v0]) rfl ?_
      obtain ⟨x4, ex4, hf⟩ := mj_bd hf
      refine mj_get 17 rfl fl_X9_13 (mj_gR_V ex4) ?_
      refine mj_blk k_X9_ok 18 4 (pc' := 40) (l' := [(0, .ref v0), (1, .int v1)]) (st' := [.ref v0, .int ((356 : Int32) * v1), .ref x4]) rfl ?_
      obtain ⟨x5, ex5, hf⟩ := mj_bd hf
      refine mj_get 22 rfl fl_X9_7 (mj_gR_V ex5) ?_
      refine mj_blk k_X9_ok 23 2 (pc' := 47) (l' := [(0, .ref v0), (1, .int v1)]) (st' := [.int (356 : Int32), .int (0 : Int32), .ref x5, .int ((356 : Int32) * v1), .ref x4]) rfl ?_
      obtain ⟨p6, ep6, hf⟩ := mj_bd hf
      refine mj_callS mX9_copies [.ref x4, .int ((356 : Int32) * v1), .ref x5, .int (0 : Int32), .int (356 : Int32)] 25 rfl ll_X9_59 lb_X9_copies li_X9_copies ⟨Nat.le_of_ble_eq_true rfl, Nat.le_of_ble_eq_true rfl⟩ rfl (rest := []) rfl (Nat.le_of_ble_eq_true rfl) ⟨Nat.le_of_ble_eq_true rfl, Nat.le_of_ble_eq_true rfl⟩ (c_X9_copies x4 ((356 : Int32) * v1) x5 (0 : Int32) (356 : Int32) p1.2 p6 ep6) ?_
      show mj_W mX9_from (mj_FI p) 50 [(0, .ref v0), (1, .int v1)] [] p6 0 0
      refine mj_blk k_X9_ok 26 1 (pc' := 51) (l' := [(0, .ref v0), (1, .int v1)]) (st' := [.int (1 : Int32)]) rfl ?_
      obtain rfl := Option.some.inj hf
      exact mj_end (some (.int (1 : Int32))) ⟨mj_dec tok_X9_from (a := 27) rfl, .int, rfl, rfl⟩ ⟨rfl, rfl⟩ (Nat.le_of_ble_eq_true rfl) (Nat.le_of_ble_eq_true rfl)
    · have hf := (if_pos q).symm.trans hf
      refine mj_blk k_X9_ok 12 2 (pc' := 26) (l' := [(0, .ref v0), (1, .int v1)]) (st' := [.int (-3 : Int32), .ref v0]) rfl ?_
      obtain ⟨gp7, hf⟩ := mj_gd hf
      obtain ⟨p7, ep7, hf⟩ := mj_bd hf
      refine mj_callV (T := TX9) (N := 20) (ci := 9) mX9_no [.int (-3 : Int32)] 14 rfl ll_X9_191 lb_X9_no li_X9_no ⟨Nat.le_of_ble_eq_true rfl, Nat.le_of_ble_eq_true rfl⟩ rfl gp7 rfl (rest := []) rfl (Nat.le_of_ble_eq_true rfl) ⟨Nat.le_of_ble_eq_true rfl, Nat.le_of_ble_eq_true rfl⟩ (c_X9_no v0 (-3 : Int32) p1.2 p7 ep7) ?_
      show mj_W mX9_from (mj_FI p) 29 [(0, .ref v0), (1, .int v1)] [.int p7.1] p7.2 0 0
      obtain rfl := Option.some.inj hf
      exact mj_end (some (.int p7.1)) ⟨mj_dec tok_X9_from (a := 15) rfl, .int, rfl, rfl⟩ ⟨rfl, rfl⟩ (Nat.le_of_ble_eq_true rfl) (Nat.le_of_ble_eq_true rfl)
  · have hf := (if_pos q).symm.trans hf
    refine mj_blk k_X9_ok 3 2 (pc' := 10) (l' := [(0, .ref v0), (1, .int v1)]) (st' := [.int (-2 : Int32), .ref v0]) rfl ?_
    obtain ⟨gp8, hf⟩ := mj_gd hf
    obtain ⟨p8, ep8, hf⟩ := mj_bd hf
    refine mj_callV (T := TX9) (N := 20) (ci := 9) mX9_bad [.int (-2 : Int32)] 5 rfl ll_X9_75 lb_X9_bad li_X9_bad ⟨Nat.le_of_ble_eq_true rfl, Nat.le_of_ble_eq_true rfl⟩ rfl gp8 rfl (rest := []) rfl (Nat.le_of_ble_eq_true rfl) ⟨Nat.le_of_ble_eq_true rfl, Nat.le_of_ble_eq_true rfl⟩ (c_X9_bad v0 (-2 : Int32) p1.2 p8 ep8) ?_
    show mj_W mX9_from (mj_FI p) 13 [(0, .ref v0), (1, .int v1)] [.int p8.1] p8.2 0 0
    obtain rfl := Option.some.inj hf
    exact mj_end (some (.int p8.1)) ⟨mj_dec tok_X9_from (a := 6) rfl, .int, rfl, rfl⟩ ⟨rfl, rfl⟩ (Nat.le_of_ble_eq_true rfl) (Nat.le_of_ble_eq_true rfl)
def f_X9_status (v0 : Nat) (v1 : Int32) (h : mj_H) : Option (Int32 × mj_H) := (f_X9_in ((v1).toInt64) (0 : Int64) (2 : Int64) h).bind fun p1 => (if p1.1 = 0 then (if mj_ob p1.2 v0 9 = true then (f_X9_bad v0 (-1 : Int32) p1.2).bind fun p2 => some (p2.1, p2.2) else none) else (mj_gR p1.2 v0 9 7).bind fun x3 => (mj_aI p1.2 x3 v1).bind fun x4 => some (x4, p1.2))
set_option maxHeartbeats 4000000 in
set_option maxRecDepth 100000 in
theorem c_X9_status (v0 : Nat) (v1 : Int32) (h : mj_H) (p : Int32 × mj_H) (hf : f_X9_status v0 v1 h = some p) : mj_Met mX9_status [.ref v0, .int v1] h (some (.int p.1)) p.2 := by
  refine mj_met pl_X9 tok_X9_status (Nat.le_of_ble_eq_true rfl) ?_
  show mj_W mX9_status (mj_FI p) 0 [(0, .ref v0), (1, .int v1)] [] h 0 0
  unfold f_X9_status at hf
  refine mj_blk k_X9_ok 0 4 (pc' := 6) (l' := [(0, .ref v0), (1, .int v1)]) (st' := [.long (2 : Int64), .long (0 : Int64), .long ((v1).toInt64)]) rfl ?_
  obtain ⟨p1, ep1, hf⟩ := mj_bd hf
  refine mj_callS mX9_in [.long ((v1).toInt64), .long (0 : Int64), .long (2 : Int64)] 4 rfl ll_X9_53 lb_X9_in li_X9_in ⟨Nat.le_of_ble_eq_true rfl, Nat.le_of_ble_eq_true rfl⟩ rfl (rest := []) rfl (Nat.le_of_ble_eq_true rfl) ⟨Nat.le_of_ble_eq_true rfl, Nat.le_of_ble_eq_true rfl⟩ (c_X9_in ((v1).toInt64) (0 : Int64) (2 : Int64) h p1 ep1) ?_
  show mj_W mX9_status (mj_FI p) 9 [(0, .ref v0), (1, .int v1)] [.int p1.1] p1.2 0 0
  refine mj_if_eq 5 21 rfl (by decide) (fun q => ?_) (fun q => ?_)
  · have hf := (if_pos q).symm.trans hf
    refine mj_blk k_X9_ok 11 2 (pc' := 23) (l' := [(0, .ref v0), (1, .int v1)]) (st' := [.int (-1 : Int32), .ref v0]) rfl ?_
    obtain ⟨gp2, hf⟩ := mj_gd hf
    obtain ⟨p2, ep2, hf⟩ := mj_bd hf
    refine mj_callV (T := TX9) (N := 20) (ci := 9) mX9_bad [.int (-1 : Int32)] 13 rfl ll_X9_75 lb_X9_bad li_X9_bad ⟨Nat.le_of_ble_eq_true rfl, Nat.le_of_ble_eq_true rfl⟩ rfl gp2 rfl (rest := []) rfl (Nat.le_of_ble_eq_true rfl) ⟨Nat.le_of_ble_eq_true rfl, Nat.le_of_ble_eq_true rfl⟩ (c_X9_bad v0 (-1 : Int32) p1.2 p2 ep2) ?_
    show mj_W mX9_status (mj_FI p) 26 [(0, .ref v0), (1, .int v1)] [.int p2.1] p2.2 0 0
    obtain rfl := Option.some.inj hf
    exact mj_end (some (.int p2.1)) ⟨mj_dec tok_X9_status (a := 14) rfl, .int, rfl, rfl⟩ ⟨rfl, rfl⟩ (Nat.le_of_ble_eq_true rfl) (Nat.le_of_ble_eq_true rfl)
  · have hf := (if_neg q).symm.trans hf
    refine mj_blk k_X9_ok 6 1 (pc' := 13) (l' := [(0, .ref v0), (1, .int v1)]) (st' := [.ref v0]) rfl ?_
    obtain ⟨x3, ex3, hf⟩ := mj_bd hf
    refine mj_get 7 rfl fl_X9_27 (mj_gR_V ex3) ?_
    refine mj_blk k_X9_ok 8 1 (pc' := 17) (l' := [(0, .ref v0), (1, .int v1)]) (st' := [.int v1, .ref x3]) rfl ?_
    obtain ⟨x4, ex4, hf⟩ := mj_bd hf
    refine mj_iald 9 rfl ex4 ?_
    refine mj_blk k_X9_ok 10 1 (pc' := 26) (l' := [(0, .ref v0), (1, .int v1)]) (st' := [.int x4]) rfl ?_
    obtain rfl := Option.some.inj hf
    exact mj_end (some (.int x4)) ⟨mj_dec tok_X9_status (a := 14) rfl, .int, rfl, rfl⟩ ⟨rfl, rfl⟩ (Nat.le_of_ble_eq_true rfl) (Nat.le_of_ble_eq_true rfl)
def f_X9_counted_40 (v0 : Nat) (v1 : Int32) (v2 : Int32) (h : mj_H) : Option (Int32 × mj_H) := (if v1 = (0 : Int32) then (mj_gR h v0 9 0).bind fun x1 => (mj_aI h x1 (0 : Int32)).bind fun x2 => some (x2, h) else (if v1 = (1 : Int32) then (mj_gR h v0 9 0).bind fun x3 => (mj_aI h x3 (1 : Int32)).bind fun x4 => some (x4, h) else (if v1 = (2 : Int32) then some ((v2 / (2 : Int32)), h) else (if v1 = (3 : Int32) then (mj_gR h v0 9 0).bind fun x5 => (mj_aI h x5 (2 : Int32)).bind fun x6 => (f_X9_bits x6 h).bind fun p7 => some (p7.1, p7.2) else (if v1 = (4 : Int32) then (mj_gR h v0 9 0).bind fun x8 => (mj_aI h x8 (3 : Int32)).bind fun x9 => some (x9, h) else (mj_gI h v0 9 4).bind fun x10 => some (x10, h))))))
set_option maxHeartbeats 4000000 in
set_option maxRecDepth 100000 in
theorem w_X9_counted_40 (v0 : Nat) (v1 : Int32) (v2 : Int32) (h : mj_H) (p : Int32 × mj_H) (hf : f_X9_counted_40  v0 v1 v2 h = some p) : mj_W mX9_counted (mj_FI p) 40 [(0, .ref v0), (1, .int v1), (2, .int v2)] [] h 0 0 := by
  unfold f_X9_counted_40 at hf
  refine mj_blk k_X9_ok 25 1 (pc' := 41) (l' := [(0, .ref v0), (1, .int v1), (2, .int v2)]) (st' := [.int v1]) rfl ?_
  by_cases q0 : v1 = (0 : Int32)
  · have hf := (if_pos q0).symm.trans hf
    refine mj_swIn 26 (0 : Int32) 76 q0 rfl (by decide) (by decide) rfl (by decide) ?_
    refine mj_blk k_X9_ok 27 1 (pc' := 77) (l' := [(0, .ref v0), (1, .int v1), (2, .int v2)]) (st' := [.ref v0]) rfl ?_
    obtain ⟨x1, ex1, hf⟩ := mj_bd hf
    refine mj_get 28 rfl fl_X9_7 (mj_gR_V ex1) ?_
    refine mj_blk k_X9_ok 29 1 (pc' := 81) (l' := [(0, .ref v0), (1, .int v1), (2, .int v2)]) (st' := [.int (0 : Int32), .ref x1]) rfl ?_
    obtain ⟨x2, ex2, hf⟩ := mj_bd hf
    refine mj_iald 30 rfl ex2 ?_
    obtain rfl := Option.some.inj hf
    exact mj_end (some (.int x2)) ⟨mj_dec tok_X9_counted (a := 31) rfl, .int, rfl, rfl⟩ ⟨rfl, rfl⟩ (Nat.le_of_ble_eq_true rfl) (Nat.le_of_ble_eq_true rfl)
  have hf := (if_neg q0).symm.trans hf
  by_cases q1 : v1 = (1 : Int32)
  · have hf := (if_pos q1).symm.trans hf
    refine mj_swIn 26 (1 : Int32) 83 q1 rfl (by decide) (by decide) rfl (by decide) ?_
    refine mj_blk k_X9_ok 32 1 (pc' := 84) (l' := [(0, .ref v0), (1, .int v1), (2, .int v2)]) (st' := [.ref v0]) rfl ?_
    obtain ⟨x3, ex3, hf⟩ := mj_bd hf
    refine mj_get 33 rfl fl_X9_7 (mj_gR_V ex3) ?_
    refine mj_blk k_X9_ok 34 1 (pc' := 88) (l' := [(0, .ref v0), (1, .int v1), (2, .int v2)]) (st' := [.int (1 : Int32), .ref x3]) rfl ?_
    obtain ⟨x4, ex4, hf⟩ := mj_bd hf
    refine mj_iald 35 rfl ex4 ?_
    obtain rfl := Option.some.inj hf
    exact mj_end (some (.int x4)) ⟨mj_dec tok_X9_counted (a := 36) rfl, .int, rfl, rfl⟩ ⟨rfl, rfl⟩ (Nat.le_of_ble_eq_true rfl) (Nat.le_of_ble_eq_true rfl)
  have hf := (if_neg q1).symm.trans hf
  by_cases q2 : v1 = (2 : Int32)
  · have hf := (if_pos q2).symm.trans hf
    refine mj_swIn 26 (2 : Int32) 90 q2 rfl (by decide) (by decide) rfl (by decide) ?_
    refine mj_blk k_X9_ok 37 2 (pc' := 92) (l' := [(0, .ref v0), (1, .int v1), (2, .int v2)]) (st' := [.int (2 : Int32), .int v2]) rfl ?_
    refine mj_idiv 39 rfl (by decide) ?_
    obtain rfl := Option.some.inj hf
    exact mj_end (some (.int (v2 / (2 : Int32)))) ⟨mj_dec tok_X9_counted (a := 40) rfl, .int, rfl, rfl⟩ ⟨rfl, rfl⟩ (Nat.le_of_ble_eq_true rfl) (Nat.le_of_ble_eq_true rfl)
  have hf := (if_neg q2).symm.trans hf
  by_cases q3 : v1 = (3 : Int32)
  · have hf := (if_pos q3).symm.trans hf
    refine mj_swIn 26 (3 : Int32) 94 q3 rfl (by decide) (by decide) rfl (by decide) ?_
    refine mj_blk k_X9_ok 41 1 (pc' := 95) (l' := [(0, .ref v0), (1, .int v1), (2, .int v2)]) (st' := [.ref v0]) rfl ?_
    obtain ⟨x5, ex5, hf⟩ := mj_bd hf
    refine mj_get 42 rfl fl_X9_7 (mj_gR_V ex5) ?_
    refine mj_blk k_X9_ok 43 1 (pc' := 99) (l' := [(0, .ref v0), (1, .int v1), (2, .int v2)]) (st' := [.int (2 : Int32), .ref x5]) rfl ?_
    obtain ⟨x6, ex6, hf⟩ := mj_bd hf
    refine mj_iald 44 rfl ex6 ?_
    obtain ⟨p7, ep7, hf⟩ := mj_bd hf
    refine mj_callS mX9_bits [.int x6] 45 rfl ll_X9_219 lb_X9_bits li_X9_bits ⟨Nat.le_of_ble_eq_true rfl, Nat.le_of_ble_eq_true rfl⟩ rfl (rest := []) rfl (Nat.le_of_ble_eq_true rfl) ⟨Nat.le_of_ble_eq_true rfl, Nat.le_of_ble_eq_true rfl⟩ (c_X9_bits x6 h p7 ep7) ?_
    show mj_W mX9_counted (mj_FI p) 103 [(0, .ref v0), (1, .int v1), (2, .int v2)] [.int p7.1] p7.2 0 0
    obtain rfl := Option.some.inj hf
    exact mj_end (some (.int p7.1)) ⟨mj_dec tok_X9_counted (a := 46) rfl, .int, rfl, rfl⟩ ⟨rfl, rfl⟩ (Nat.le_of_ble_eq_true rfl) (Nat.le_of_ble_eq_true rfl)
  have hf := (if_neg q3).symm.trans hf
  by_cases q4 : v1 = (4 : Int32)
  · have hf := (if_pos q4).symm.trans hf
    refine mj_swIn 26 (4 : Int32) 104 q4 rfl (by decide) (by decide) rfl (by decide) ?_
    refine mj_blk k_X9_ok 47 1 (pc' := 105) (l' := [(0, .ref v0), (1, .int v1), (2, .int v2)]) (st' := [.ref v0]) rfl ?_
    obtain ⟨x8, ex8, hf⟩ := mj_bd hf
    refine mj_get 48 rfl fl_X9_7 (mj_gR_V ex8) ?_
    refine mj_blk k_X9_ok 49 1 (pc' := 109) (l' := [(0, .ref v0), (1, .int v1), (2, .int v2)]) (st' := [.int (3 : Int32), .ref x8]) rfl ?_
    obtain ⟨x9, ex9, hf⟩ := mj_bd hf
    refine mj_iald 50 rfl ex9 ?_
    obtain rfl := Option.some.inj hf
    exact mj_end (some (.int x9)) ⟨mj_dec tok_X9_counted (a := 51) rfl, .int, rfl, rfl⟩ ⟨rfl, rfl⟩ (Nat.le_of_ble_eq_true rfl) (Nat.le_of_ble_eq_true rfl)
  have hf := (if_neg q4).symm.trans hf
  refine mj_swOut 26 111 rfl (by have z0 := mj_neI (i := 0) (by decide) q0; have z1 := mj_neI (i := 1) (by decide) q1; have z2 := mj_neI (i := 2) (by decide) q2; have z3 := mj_neI (i := 3) (by decide) q3; have z4 := mj_neI (i := 4) (by decide) q4; omega) (by decide) ?_
  refine mj_blk k_X9_ok 52 1 (pc' := 112) (l' := [(0, .ref v0), (1, .int v1), (2, .int v2)]) (st' := [.ref v0]) rfl ?_
  obtain ⟨x10, ex10, hf⟩ := mj_bd hf
  refine mj_get 53 rfl fl_X9_98 (mj_gI_V ex10) ?_
  obtain rfl := Option.some.inj hf
  exact mj_end (some (.int x10)) ⟨mj_dec tok_X9_counted (a := 54) rfl, .int, rfl, rfl⟩ ⟨rfl, rfl⟩ (Nat.le_of_ble_eq_true rfl) (Nat.le_of_ble_eq_true rfl)
def b_X9_counted_4 (K4 : Nat → Int32 → Int32 → Int32 → mj_H → Option (Int32 × mj_H)) (v0 : Nat) (v1 : Int32) (v2 : Int32) (v3 : Int32) (h : mj_H) : Option (Int32 × mj_H) := (mj_gR h v0 9 0).bind fun x11 => (mj_aI h x11 (0 : Int32)).bind fun x12 => (if x12 ≤ v3 then f_X9_counted_40 v0 v1 v2 h else (if v1 = (2 : Int32) then (mj_gR h v0 9 0).bind fun x13 => (mj_aI h x13 ((10 : Int32) + v3)).bind fun x14 => (f_X9_bits x14 h).bind fun p15 => K4 v0 v1 (v2 + p15.1) (v3 + (1 : Int32)) p15.2 else f_X9_counted_40 v0 v1 v2 h))
set_option maxHeartbeats 4000000 in
set_option maxRecDepth 100000 in
theorem wb_X9_counted_4 (K4 : Nat → Int32 → Int32 → Int32 → mj_H → Option (Int32 × mj_H)) (hK4 : ∀ (v0 : Nat) (v1 : Int32) (v2 : Int32) (v3 : Int32)  (h : mj_H) (p : Int32 × mj_H), K4 v0 v1 v2 v3 h = some p → mj_W mX9_counted (mj_FI p) 4 [(0, .ref v0), (1, .int v1), (2, .int v2), (3, .int v3)] [] h 0 0) (v0 : Nat) (v1 : Int32) (v2 : Int32) (v3 : Int32) (h : mj_H) (p : Int32 × mj_H) (hf : b_X9_counted_4  K4 v0 v1 v2 v3 h = some p) : mj_W mX9_counted (mj_FI p) 4 [(0, .ref v0), (1, .int v1), (2, .int v2), (3, .int v3)] [] h 0 0 := by
  unfold b_X9_counted_4 at hf
  refine mj_blk k_X9_ok 4 2 (pc' := 6) (l' := [(0, .ref v0), (1, .int v1), (2, .int v2), (3, .int v3)]) (st' := [.ref v0, .int v3]) rfl ?_
  obtain ⟨x11, ex11, hf⟩ := mj_bd hf
  refine mj_get 6 rfl fl_X9_7 (mj_gR_V ex11) ?_
  refine mj_blk k_X9_ok 7 1 (pc' := 10) (l' := [(0, .ref v0), (1, .int v1), (2, .int v2), (3, .int v3)]) (st' := [.int (0 : Int32), .ref x11, .int v3]) rfl ?_
  obtain ⟨x12, ex12, hf⟩ := mj_bd hf
  refine mj_iald 8 rfl ex12 ?_
  refine mj_icmp_ge 9 40 rfl (by decide) (fun q => ?_) (fun q => ?_)
  · have hf := (if_pos q).symm.trans hf
    refine mj_locs [0, 1, 2] (l' := [(0, .ref v0), (1, .int v1), (2, .int v2)]) rfl ?_
    exact w_X9_counted_40 v0 v1 v2 h _ hf
  · have hf := (if_neg q).symm.trans hf
    refine mj_blk k_X9_ok 10 2 (pc' := 16) (l' := [(0, .ref v0), (1, .int v1), (2, .int v2), (3, .int v3)]) (st' := [.int (2 : Int32), .int v1]) rfl ?_
    refine mj_icmp_ne 12 40 rfl (by decide) (fun q => ?_) (fun q => ?_)
    · have hf := (if_neg q).symm.trans hf
      refine mj_locs [0, 1, 2] (l' := [(0, .ref v0), (1, .int v1), (2, .int v2)]) rfl ?_
      exact w_X9_counted_40 v0 v1 v2 h _ hf
    · have hf := (if_pos q).symm.trans hf
      refine mj_blk k_X9_ok 13 2 (pc' := 21) (l' := [(0, .ref v0), (1, .int v1), (2, .int v2), (3, .int v3)]) (st' := [.ref v0, .int v2]) rfl ?_
      obtain ⟨x13, ex13, hf⟩ := mj_bd hf
      refine mj_get 15 rfl fl_X9_7 (mj_gR_V ex13) ?_
      refine mj_blk k_X9_ok 16 3 (pc' := 28) (l' := [(0, .ref v0), (1, .int v1), (2, .int v2), (3, .int v3)]) (st' := [.int ((10 : Int32) + v3), .ref x13, .int v2]) rfl ?_
      obtain ⟨x14, ex14, hf⟩ := mj_bd hf
      refine mj_iald 19 rfl ex14 ?_
      obtain ⟨p15, ep15, hf⟩ := mj_bd hf
      refine mj_callS mX9_bits [.int x14] 20 rfl ll_X9_219 lb_X9_bits li_X9_bits ⟨Nat.le_of_ble_eq_true rfl, Nat.le_of_ble_eq_true rfl⟩ rfl (rest := [.int v2]) rfl (Nat.le_of_ble_eq_true rfl) ⟨Nat.le_of_ble_eq_true rfl, Nat.le_of_ble_eq_true rfl⟩ (c_X9_bits x14 h p15 ep15) ?_
      show mj_W mX9_counted (mj_FI p) 32 [(0, .ref v0), (1, .int v1), (2, .int v2), (3, .int v3)] [.int p15.1, .int v2] p15.2 0 0
      refine mj_blk k_X9_ok 21 4 (pc' := 4) (l' := [(3, .int (v3 + (1 : Int32))), (2, .int (v2 + p15.1)), (0, .ref v0), (1, .int v1)]) (st' := []) rfl ?_
      refine mj_locs [2, 3, 1, 0] (l' := [(0, .ref v0), (1, .int v1), (2, .int (v2 + p15.1)), (3, .int (v3 + (1 : Int32)))]) rfl ?_
      exact hK4 v0 v1 (v2 + p15.1) (v3 + (1 : Int32)) p15.2 _ hf
def f_X9_counted_4 (v0 : Nat) (v1 : Int32) (v2 : Int32) (v3 : Int32) (h : mj_H) : Option (Int32 × mj_H) := mj_fix (fun (K4 : (Nat × Int32 × Int32 × Int32 × mj_H) → Option (Int32 × mj_H)) (s : Nat × Int32 × Int32 × Int32 × mj_H) => b_X9_counted_4  (fun v0 v1 v2 v3 h => K4 (v0, v1, v2, v3, h)) s.1 s.2.1 s.2.2.1 s.2.2.2.1 s.2.2.2.2) 1000 (v0, v1, v2, v3, h)
set_option maxHeartbeats 4000000 in
set_option maxRecDepth 100000 in
theorem w_X9_counted_4 (v0 : Nat) (v1 : Int32) (v2 : Int32) (v3 : Int32) (h : mj_H) (p : Int32 × mj_H) (hf : f_X9_counted_4  v0 v1 v2 v3 h = some p) : mj_W mX9_counted (mj_FI p) 4 [(0, .ref v0), (1, .int v1), (2, .int v2), (3, .int v3)] [] h 0 0 := by
  unfold f_X9_counted_4 at hf
  exact mj_fix_ind (F := (fun (K4 : (Nat × Int32 × Int32 × Int32 × mj_H) → Option (Int32 × mj_H)) (s : Nat × Int32 × Int32 × Int32 × mj_H) => b_X9_counted_4  (fun v0 v1 v2 v3 h => K4 (v0, v1, v2, v3, h)) s.1 s.2.1 s.2.2.1 s.2.2.2.1 s.2.2.2.2)) (P := fun s p => mj_W mX9_counted (mj_FI p) 4 [(0, .ref s.1), (1, .int s.2.1), (2, .int s.2.2.1), (3, .int s.2.2.2.1)] [] s.2.2.2.2 0 0) (fun K4 hK4 s p hf => wb_X9_counted_4   (fun v0 v1 v2 v3 h => K4 (v0, v1, v2, v3, h)) (fun v0 v1 v2 v3 h p e => hK4 (v0, v1, v2, v3, h) p e) s.1 s.2.1 s.2.2.1 s.2.2.2.1 s.2.2.2.2 p hf) 1000 (v0, v1, v2, v3, h) p hf
def f_X9_counted (v0 : Nat) (v1 : Int32) (h : mj_H) : Option (Int32 × mj_H) := f_X9_counted_4 v0 v1 (0 : Int32) (0 : Int32) h
set_option maxHeartbeats 4000000 in
set_option maxRecDepth 100000 in
theorem c_X9_counted (v0 : Nat) (v1 : Int32) (h : mj_H) (p : Int32 × mj_H) (hf : f_X9_counted v0 v1 h = some p) : mj_Met mX9_counted [.ref v0, .int v1] h (some (.int p.1)) p.2 := by
  refine mj_met pl_X9 tok_X9_counted (Nat.le_of_ble_eq_true rfl) ?_
  show mj_W mX9_counted (mj_FI p) 0 [(0, .ref v0), (1, .int v1)] [] h 0 0
  unfold f_X9_counted at hf
  refine mj_blk k_X9_ok 0 4 (pc' := 4) (l' := [(3, .int (0 : Int32)), (2, .int (0 : Int32)), (0, .ref v0), (1, .int v1)]) (st' := []) rfl ?_
  refine mj_locs [2, 3, 1, 0] (l' := [(0, .ref v0), (1, .int v1), (2, .int (0 : Int32)), (3, .int (0 : Int32))]) rfl ?_
  exact w_X9_counted_4 v0 v1 (0 : Int32) (0 : Int32) h _ hf
def f_X9_count (v0 : Nat) (v1 : Int32) (h : mj_H) : Option (Int32 × mj_H) := (f_X9_in ((v1).toInt64) (0 : Int64) (5 : Int64) h).bind fun p1 => (if p1.1 = 0 then (if mj_ob p1.2 v0 9 = true then (f_X9_bad v0 (-2 : Int32) p1.2).bind fun p2 => some (p2.1, p2.2) else none) else (if mj_ob p1.2 v0 9 = true then (f_X9_counted v0 v1 p1.2).bind fun p3 => some (p3.1, p3.2) else none))
set_option maxHeartbeats 4000000 in
set_option maxRecDepth 100000 in
theorem c_X9_count (v0 : Nat) (v1 : Int32) (h : mj_H) (p : Int32 × mj_H) (hf : f_X9_count v0 v1 h = some p) : mj_Met mX9_count [.ref v0, .int v1] h (some (.int p.1)) p.2 := by
  refine mj_met pl_X9 tok_X9_count (Nat.le_of_ble_eq_true rfl) ?_
  show mj_W mX9_count (mj_FI p) 0 [(0, .ref v0), (1, .int v1)] [] h 0 0
  unfold f_X9_count at hf
  refine mj_blk k_X9_ok 0 4 (pc' := 6) (l' := [(0, .ref v0), (1, .int v1)]) (st' := [.long (5 : Int64), .long (0 : Int64), .long ((v1).toInt64)]) rfl ?_
  obtain ⟨p1, ep1, hf⟩ := mj_bd hf
  refine mj_callS mX9_in [.long ((v1).toInt64), .long (0 : Int64), .long (5 : Int64)] 4 rfl ll_X9_53 lb_X9_in li_X9_in ⟨Nat.le_of_ble_eq_true rfl, Nat.le_of_ble_eq_true rfl⟩ rfl (rest := []) rfl (Nat.le_of_ble_eq_true rfl) ⟨Nat.le_of_ble_eq_true rfl, Nat.le_of_ble_eq_true rfl⟩ (c_X9_in ((v1).toInt64) (0 : Int64) (5 : Int64) h p1 ep1) ?_
  show mj_W mX9_count (mj_FI p) 9 [(0, .ref v0), (1, .int v1)] [.int p1.1] p1.2 0 0
  refine mj_if_eq 5 20 rfl (by decide) (fun q => ?_) (fun q => ?_)
  · have hf := (if_pos q).symm.trans hf
    refine mj_blk k_X9_ok 10 2 (pc' := 23) (l' := [(0, .ref v0), (1, .int v1)]) (st' := [.int (-2 : Int32), .ref v0]) rfl ?_
    obtain ⟨gp2, hf⟩ := mj_gd hf
    obtain ⟨p2, ep2, hf⟩ := mj_bd hf
    refine mj_callV (T := TX9) (N := 20) (ci := 9) mX9_bad [.int (-2 : Int32)] 12 rfl ll_X9_75 lb_X9_bad li_X9_bad ⟨Nat.le_of_ble_eq_true rfl, Nat.le_of_ble_eq_true rfl⟩ rfl gp2 rfl (rest := []) rfl (Nat.le_of_ble_eq_true rfl) ⟨Nat.le_of_ble_eq_true rfl, Nat.le_of_ble_eq_true rfl⟩ (c_X9_bad v0 (-2 : Int32) p1.2 p2 ep2) ?_
    show mj_W mX9_count (mj_FI p) 26 [(0, .ref v0), (1, .int v1)] [.int p2.1] p2.2 0 0
    obtain rfl := Option.some.inj hf
    exact mj_end (some (.int p2.1)) ⟨mj_dec tok_X9_count (a := 13) rfl, .int, rfl, rfl⟩ ⟨rfl, rfl⟩ (Nat.le_of_ble_eq_true rfl) (Nat.le_of_ble_eq_true rfl)
  · have hf := (if_neg q).symm.trans hf
    refine mj_blk k_X9_ok 6 2 (pc' := 14) (l' := [(0, .ref v0), (1, .int v1)]) (st' := [.int v1, .ref v0]) rfl ?_
    obtain ⟨gp3, hf⟩ := mj_gd hf
    obtain ⟨p3, ep3, hf⟩ := mj_bd hf
    refine mj_callV (T := TX9) (N := 20) (ci := 9) mX9_counted [.int v1] 8 rfl ll_X9_279 lb_X9_counted li_X9_counted ⟨Nat.le_of_ble_eq_true rfl, Nat.le_of_ble_eq_true rfl⟩ rfl gp3 rfl (rest := []) rfl (Nat.le_of_ble_eq_true rfl) ⟨Nat.le_of_ble_eq_true rfl, Nat.le_of_ble_eq_true rfl⟩ (c_X9_counted v0 v1 p1.2 p3 ep3) ?_
    show mj_W mX9_count (mj_FI p) 17 [(0, .ref v0), (1, .int v1)] [.int p3.1] p3.2 0 0
    refine mj_blk k_X9_ok 9 1 (pc' := 26) (l' := [(0, .ref v0), (1, .int v1)]) (st' := [.int p3.1]) rfl ?_
    obtain rfl := Option.some.inj hf
    exact mj_end (some (.int p3.1)) ⟨mj_dec tok_X9_count (a := 13) rfl, .int, rfl, rfl⟩ ⟨rfl, rfl⟩ (Nat.le_of_ble_eq_true rfl) (Nat.le_of_ble_eq_true rfl)
def b_X9_digest_46 (K33 : Nat → Int64 → Int32 → mj_H → Option (Int64 × mj_H)) (K46 : Nat → Int64 → Int32 → Int32 → mj_H → Option (Int64 × mj_H)) (v0 : Nat) (v1 : Int64) (v3 : Int32) (v4 : Int32) (h : mj_H) : Option (Int64 × mj_H) := (if (6 : Int32) ≤ v4 then (mj_gR h v0 9 0).bind fun x1 => (mj_aI h x1 ((4 : Int32) + v3)).bind fun x2 => (mj_gR h v0 9 0).bind fun x3 => (mj_aI h x3 ((10 : Int32) + v3)).bind fun x4 => (mj_gR h v0 9 0).bind fun x5 => (mj_aI h x5 (2 : Int32)).bind fun x6 => K33 v0 (((31 : Int64) * (((31 : Int64) * (((31 : Int64) * v1) + ((x2).toInt64))) + ((x4).toInt64))) + ((((x6 >>> (v3 &&& 31)) &&& (1 : Int32))).toInt64)) (v3 + (1 : Int32)) h else (mj_gR h v0 9 0).bind fun x7 => (mj_aI h x7 (((16 : Int32) + ((6 : Int32) * v3)) + v4)).bind fun x8 => K46 v0 (((31 : Int64) * v1) + ((x8).toInt64)) v3 (v4 + (1 : Int32)) h)
set_option maxHeartbeats 4000000 in
set_option maxRecDepth 100000 in
theorem wb_X9_digest_46 (K33 : Nat → Int64 → Int32 → mj_H → Option (Int64 × mj_H)) (hK33 : ∀ (v0 : Nat) (v1 : Int64) (v3 : Int32)  (h : mj_H) (p : Int64 × mj_H), K33 v0 v1 v3 h = some p → mj_W mX9_digest (mj_FJ p) 33 [(0, .ref v0), (1, .long v1), (3, .int v3)] [] h 0 0) (K46 : Nat → Int64 → Int32 → Int32 → mj_H → Option (Int64 × mj_H)) (hK46 : ∀ (v0 : Nat) (v1 : Int64) (v3 : Int32) (v4 : Int32)  (h : mj_H) (p : Int64 × mj_H), K46 v0 v1 v3 v4 h = some p → mj_W mX9_digest (mj_FJ p) 46 [(0, .ref v0), (1, .long v1), (3, .int v3), (4, .int v4)] [] h 0 0) (v0 : Nat) (v1 : Int64) (v3 : Int32) (v4 : Int32) (h : mj_H) (p : Int64 × mj_H) (hf : b_X9_digest_46 K33 K46 v0 v1 v3 v4 h = some p) : mj_W mX9_digest (mj_FJ p) 46 [(0, .ref v0), (1, .long v1), (3, .int v3), (4, .int v4)] [] h 0 0 := by
  unfold b_X9_digest_46 at hf
  refine mj_blk k_X9_ok 28 2 (pc' := 50) (l' := [(0, .ref v0), (1, .long v1), (3, .int v3), (4, .int v4)]) (st' := [.int (6 : Int32), .int v4]) rfl ?_
  refine mj_icmp_ge 30 82 rfl (by decide) (fun q => ?_) (fun q => ?_)
  · have hf := (if_pos q).symm.trans hf
    refine mj_blk k_X9_ok 49 6 (pc' := 94) (l' := [(0, .ref v0), (1, .long v1), (3, .int v3), (4, .int v4)]) (st' := [.ref v0, .long ((31 : Int64) * v1), .long (31 : Int64), .long (31 : Int64)]) rfl ?_
    obtain ⟨x1, ex1, hf⟩ := mj_bd hf
    refine mj_get 55 rfl fl_X9_7 (mj_gR_V ex1) ?_
    refine mj_blk k_X9_ok 56 3 (pc' := 100) (l' := [(0, .ref v0), (1, .long v1), (3, .int v3), (4, .int v4)]) (st' := [.int ((4 : Int32) + v3), .ref x1, .long ((31 : Int64) * v1), .long (31 : Int64), .long (31 : Int64)]) rfl ?_
    obtain ⟨x2, ex2, hf⟩ := mj_bd hf
    refine mj_iald 59 rfl ex2 ?_
    refine mj_blk k_X9_ok 60 4 (pc' := 105) (l' := [(0, .ref v0), (1, .long v1), (3, .int v3), (4, .int v4)]) (st' := [.ref v0, .long ((31 : Int64) * (((31 : Int64) * v1) + ((x2).toInt64))), .long (31 : Int64)]) rfl ?_
    obtain ⟨x3, ex3, hf⟩ := mj_bd hf
    refine mj_get 64 rfl fl_X9_7 (mj_gR_V ex3) ?_
    refine mj_blk k_X9_ok 65 3 (pc' := 112) (l' := [(0, .ref v0), (1, .long v1), (3, .int v3), (4, .int v4)]) (st' := [.int ((10 : Int32) + v3), .ref x3, .long ((31 : Int64) * (((31 : Int64) * v1) + ((x2).toInt64))), .long (31 : Int64)]) rfl ?_
    obtain ⟨x4, ex4, hf⟩ := mj_bd hf
    refine mj_iald 68 rfl ex4 ?_
    refine mj_blk k_X9_ok 69 4 (pc' := 117) (l' := [(0, .ref v0), (1, .long v1), (3, .int v3), (4, .int v4)]) (st' := [.ref v0, .long ((31 : Int64) * (((31 : Int64) * (((31 : Int64) * v1) + ((x2).toInt64))) + ((x4).toInt64)))]) rfl ?_
    obtain ⟨x5, ex5, hf⟩ := mj_bd hf
    refine mj_get 73 rfl fl_X9_7 (mj_gR_V ex5) ?_
    refine mj_blk k_X9_ok 74 1 (pc' := 121) (l' := [(0, .ref v0), (1, .long v1), (3, .int v3), (4, .int v4)]) (st' := [.int (2 : Int32), .ref x5, .long ((31 : Int64) * (((31 : Int64) * (((31 : Int64) * v1) + ((x2).toInt64))) + ((x4).toInt64)))]) rfl ?_
    obtain ⟨x6, ex6, hf⟩ := mj_bd hf
    refine mj_iald 75 rfl ex6 ?_
    refine mj_blk k_X9_ok 76 9 (pc' := 33) (l' := [(3, .int (v3 + (1 : Int32))), (1, .long (((31 : Int64) * (((31 : Int64) * (((31 : Int64) * v1) + ((x2).toInt64))) + ((x4).toInt64))) + ((((x6 >>> (v3 &&& 31)) &&& (1 : Int32))).toInt64))), (0, .ref v0), (4, .int v4)]) (st' := []) rfl ?_
    refine mj_locs [2, 1, 0] (l' := [(0, .ref v0), (1, .long (((31 : Int64) * (((31 : Int64) * (((31 : Int64) * v1) + ((x2).toInt64))) + ((x4).toInt64))) + ((((x6 >>> (v3 &&& 31)) &&& (1 : Int32))).toInt64))), (3, .int (v3 + (1 : Int32)))]) rfl ?_
    exact hK33 v0 (((31 : Int64) * (((31 : Int64) * (((31 : Int64) * v1) + ((x2).toInt64))) + ((x4).toInt64))) + ((((x6 >>> (v3 &&& 31)) &&& (1 : Int32))).toInt64)) (v3 + (1 : Int32)) h _ hf
  · have hf := (if_neg q).symm.trans hf
    refine mj_blk k_X9_ok 31 4 (pc' := 59) (l' := [(0, .ref v0), (1, .long v1), (3, .int v3), (4, .int v4)]) (st' := [.ref v0, .long ((31 : Int64) * v1)]) rfl ?_
    obtain ⟨x7, ex7, hf⟩ := mj_bd hf
    refine mj_get 35 rfl fl_X9_7 (mj_gR_V ex7) ?_
    refine mj_blk k_X9_ok 36 7 (pc' := 72) (l' := [(0, .ref v0), (1, .long v1), (3, .int v3), (4, .int v4)]) (st' := [.int (((16 : Int32) + ((6 : Int32) * v3)) + v4), .ref x7, .long ((31 : Int64) * v1)]) rfl ?_
    obtain ⟨x8, ex8, hf⟩ := mj_bd hf
    refine mj_iald 43 rfl ex8 ?_
    refine mj_blk k_X9_ok 44 5 (pc' := 46) (l' := [(4, .int (v4 + (1 : Int32))), (1, .long (((31 : Int64) * v1) + ((x8).toInt64))), (0, .ref v0), (3, .int v3)]) (st' := []) rfl ?_
    refine mj_locs [2, 1, 3, 0] (l' := [(0, .ref v0), (1, .long (((31 : Int64) * v1) + ((x8).toInt64))), (3, .int v3), (4, .int (v4 + (1 : Int32)))]) rfl ?_
    exact hK46 v0 (((31 : Int64) * v1) + ((x8).toInt64)) v3 (v4 + (1 : Int32)) h _ hf
def f_X9_digest_46 (K33 : Nat → Int64 → Int32 → mj_H → Option (Int64 × mj_H)) (v0 : Nat) (v1 : Int64) (v3 : Int32) (v4 : Int32) (h : mj_H) : Option (Int64 × mj_H) := mj_fix (fun (K46 : (Nat × Int64 × Int32 × Int32 × mj_H) → Option (Int64 × mj_H)) (s : Nat × Int64 × Int32 × Int32 × mj_H) => b_X9_digest_46 K33 (fun v0 v1 v3 v4 h => K46 (v0, v1, v3, v4, h)) s.1 s.2.1 s.2.2.1 s.2.2.2.1 s.2.2.2.2) 1000 (v0, v1, v3, v4, h)
set_option maxHeartbeats 4000000 in
set_option maxRecDepth 100000 in
theorem w_X9_digest_46 (K33 : Nat → Int64 → Int32 → mj_H → Option (Int64 × mj_H)) (hK33 : ∀ (v0 : Nat) (v1 : Int64) (v3 : Int32)  (h : mj_H) (p : Int64 × mj_H), K33 v0 v1 v3 h = some p → mj_W mX9_digest (mj_FJ p) 33 [(0, .ref v0), (1, .long v1), (3, .int v3)] [] h 0 0) (v0 : Nat) (v1 : Int64) (v3 : Int32) (v4 : Int32) (h : mj_H) (p : Int64 × mj_H) (hf : f_X9_digest_46 K33 v0 v1 v3 v4 h = some p) : mj_W mX9_digest (mj_FJ p) 46 [(0, .ref v0), (1, .long v1), (3, .int v3), (4, .int v4)] [] h 0 0 := by
  unfold f_X9_digest_46 at hf
  exact mj_fix_ind (F := (fun (K46 : (Nat × Int64 × Int32 × Int32 × mj_H) → Option (Int64 × mj_H)) (s : Nat × Int64 × Int32 × Int32 × mj_H) => b_X9_digest_46 K33 (fun v0 v1 v3 v4 h => K46 (v0, v1, v3, v4, h)) s.1 s.2.1 s.2.2.1 s.2.2.2.1 s.2.2.2.2)) (P := fun s p => mj_W mX9_digest (mj_FJ p) 46 [(0, .ref s.1), (1, .long s.2.1), (3, .int s.2.2.1), (4, .int s.2.2.2.1)] [] s.2.2.2.2 0 0) (fun K46 hK46 s p hf => wb_X9_digest_46 K33 hK33 (fun v0 v1 v3 v4 h => K46 (v0, v1, v3, v4, h)) (fun v0 v1 v3 v4 h p e => hK46 (v0, v1, v3, v4, h) p e) s.1 s.2.1 s.2.2.1 s.2.2.2.1 s.2.2.2.2 p hf) 1000 (v0, v1, v3, v4, h) p hf
def b_X9_digest_33 (K33 : Nat → Int64 → Int32 → mj_H → Option (Int64 × mj_H)) (v0 : Nat) (v1 : Int64) (v3 : Int32) (h : mj_H) : Option (Int64 × mj_H) := (mj_gR h v0 9 0).bind fun x9 => (mj_aI h x9 (0 : Int32)).bind fun x10 => (if x10 ≤ v3 then (mj_gJ h v0 9 5).bind fun x11 => (mj_gJ h v0 9 6).bind fun x12 => some ((((31 : Int64) * (((31 : Int64) * v1) + x11)) + x12), h) else f_X9_digest_46 K33 v0 v1 v3 (0 : Int32) h)
set_option maxHeartbeats 4000000 in
set_option maxRecDepth 100000 in
theorem wb_X9_digest_33 (K33 : Nat → Int64 → Int32 → mj_H → Option (Int64 × mj_H)) (hK33 : ∀ (v0 : Nat) (v1 : Int64) (v3 : Int32)  (h : mj_H) (p : Int64 × mj_H), K33 v0 v1 v3 h = some p → mj_W mX9_digest (mj_FJ p) 33 [(0, .ref v0), (1, .long v1), (3, .int v3)] [] h 0 0) (v0 : Nat) (v1 : Int64) (v3 : Int32) (h : mj_H) (p : Int64 × mj_H) (hf : b_X9_digest_33  K33 v0 v1 v3 h = some p) : mj_W mX9_digest (mj_FJ p) 33 [(0, .ref v0), (1, .long v1), (3, .int v3)] [] h 0 0 := by
  unfold b_X9_digest_33 at hf
  refine mj_blk k_X9_ok 20 2 (pc' := 35) (l' := [(0, .ref v0), (1, .long v1), (3, .int v3)]) (st' := [.ref v0, .int v3]) rfl ?_
  obtain ⟨x9, ex9, hf⟩ := mj_bd hf
  refine mj_get 22 rfl fl_X9_7 (mj_gR_V ex9) ?_
  refine mj_blk k_X9_ok 23 1 (pc' := 39) (l' := [(0, .ref v0), (1, .long v1), (3, .int v3)]) (st' := [.int (0 : Int32), .ref x9, .int v3]) rfl ?_
  obtain ⟨x10, ex10, hf⟩ := mj_bd hf
  refine mj_iald 24 rfl ex10 ?_
  refine mj_icmp_ge 25 135 rfl (by decide) (fun q => ?_) (fun q => ?_)
  · have hf := (if_pos q).symm.trans hf
    refine mj_blk k_X9_ok 85 5 (pc' := 144) (l' := [(0, .ref v0), (1, .long v1), (3, .int v3)]) (st' := [.ref v0, .long ((31 : Int64) * v1), .long (31 : Int64)]) rfl ?_
    obtain ⟨x11, ex11, hf⟩ := mj_bd hf
    refine mj_get 90 rfl fl_X9_211 (mj_gJ_V ex11) ?_
    refine mj_blk k_X9_ok 91 3 (pc' := 150) (l' := [(0, .ref v0), (1, .long v1), (3, .int v3)]) (st' := [.ref v0, .long ((31 : Int64) * (((31 : Int64) * v1) + x11))]) rfl ?_
    obtain ⟨x12, ex12, hf⟩ := mj_bd hf
    refine mj_get 94 rfl fl_X9_23 (mj_gJ_V ex12) ?_
    refine mj_blk k_X9_ok 95 1 (pc' := 154) (l' := [(0, .ref v0), (1, .long v1), (3, .int v3)]) (st' := [.long (((31 : Int64) * (((31 : Int64) * v1) + x11)) + x12)]) rfl ?_
    obtain rfl := Option.some.inj hf
    exact mj_end (some (.long (((31 : Int64) * (((31 : Int64) * v1) + x11)) + x12))) ⟨mj_dec tok_X9_digest (a := 96) rfl, rfl⟩ ⟨rfl, rfl⟩ (Nat.le_of_ble_eq_true rfl) (Nat.le_of_ble_eq_true rfl)
  · have hf := (if_neg q).symm.trans hf
    refine mj_blk k_X9_ok 26 2 (pc' := 46) (l' := [(4, .int (0 : Int32)), (0, .ref v0), (1, .long v1), (3, .int v3)]) (st' := []) rfl ?_
    refine mj_locs [1, 2, 3, 0] (l' := [(0, .ref v0), (1, .long v1), (3, .int v3), (4, .int (0 : Int32))]) rfl ?_
    exact w_X9_digest_46 K33 hK33 v0 v1 v3 (0 : Int32) h _ hf
def f_X9_digest_33 (v0 : Nat) (v1 : Int64) (v3 : Int32) (h : mj_H) : Option (Int64 × mj_H) := mj_fix (fun (K33 : (Nat × Int64 × Int32 × mj_H) → Option (Int64 × mj_H)) (s : Nat × Int64 × Int32 × mj_H) => b_X9_digest_33  (fun v0 v1 v3 h => K33 (v0, v1, v3, h)) s.1 s.2.1 s.2.2.1 s.2.2.2) 1000 (v0, v1, v3, h)
set_option maxHeartbeats 4000000 in
set_option maxRecDepth 100000 in
theorem w_X9_digest_33 (v0 : Nat) (v1 : Int64) (v3 : Int32) (h : mj_H) (p : Int64 × mj_H) (hf : f_X9_digest_33  v0 v1 v3 h = some p) : mj_W mX9_digest (mj_FJ p) 33 [(0, .ref v0), (1, .long v1), (3, .int v3)] [] h 0 0 := by
  unfold f_X9_digest_33 at hf
  exact mj_fix_ind (F := (fun (K33 : (Nat × Int64 × Int32 × mj_H) → Option (Int64 × mj_H)) (s : Nat × Int64 × Int32 × mj_H) => b_X9_digest_33  (fun v0 v1 v3 h => K33 (v0, v1, v3, h)) s.1 s.2.1 s.2.2.1 s.2.2.2)) (P := fun s p => mj_W mX9_digest (mj_FJ p) 33 [(0, .ref s.1), (1, .long s.2.1), (3, .int s.2.2.1)] [] s.2.2.2 0 0) (fun K33 hK33 s p hf => wb_X9_digest_33   (fun v0 v1 v3 h => K33 (v0, v1, v3, h)) (fun v0 v1 v3 h p e => hK33 (v0, v1, v3, h) p e) s.1 s.2.1 s.2.2.1 s.2.2.2 p hf) 1000 (v0, v1, v3, h) p hf
def b_X9_digest_6 (K6 : Nat → Int64 → Int32 → mj_H → Option (Int64 × mj_H)) (v0 : Nat) (v1 : Int64) (v3 : Int32) (h : mj_H) : Option (Int64 × mj_H) := (if (6 : Int32) ≤ v3 then f_X9_digest_33 v0 v1 (0 : Int32) h else (if mj_ob h v0 9 = true then (f_X9_counted v0 v3 h).bind fun p13 => K6 v0 (((31 : Int64) * v1) + ((p13.1).toInt64)) (v3 + (1 : Int32)) p13.2 else none))
set_option maxHeartbeats 4000000 in
set_option maxRecDepth 100000 in
theorem wb_X9_digest_6 (K6 : Nat → Int64 → Int32 → mj_H → Option (Int64 × mj_H)) (hK6 : ∀ (v0 : Nat) (v1 : Int64) (v3 : Int32)  (h : mj_H) (p : Int64 × mj_H), K6 v0 v1 v3 h = some p → mj_W mX9_digest (mj_FJ p) 6 [(0, .ref v0), (1, .long v1), (3, .int v3)] [] h 0 0) (v0 : Nat) (v1 : Int64) (v3 : Int32) (h : mj_H) (p : Int64 × mj_H) (hf : b_X9_digest_6  K6 v0 v1 v3 h = some p) : mj_W mX9_digest (mj_FJ p) 6 [(0, .ref v0), (1, .long v1), (3, .int v3)] [] h 0 0 := by
  unfold b_X9_digest_6 at hf
  refine mj_blk k_X9_ok 4 2 (pc' := 9) (l' := [(0, .ref v0), (1, .long v1), (3, .int v3)]) (st' := [.int (6 : Int32), .int v3]) rfl ?_
  refine mj_icmp_ge 6 31 rfl (by decide) (fun q => ?_) (fun q => ?_)
  · have hf := (if_pos q).symm.trans hf
    refine mj_blk k_X9_ok 18 2 (pc' := 33) (l' := [(3, .int (0 : Int32)), (0, .ref v0), (1, .long v1)]) (st' := []) rfl ?_
    refine mj_locs [1, 2, 0] (l' := [(0, .ref v0), (1, .long v1), (3, .int (0 : Int32))]) rfl ?_
    exact w_X9_digest_33 v0 v1 (0 : Int32) h _ hf
  · have hf := (if_neg q).symm.trans hf
    refine mj_blk k_X9_ok 7 5 (pc' := 19) (l' := [(0, .ref v0), (1, .long v1), (3, .int v3)]) (st' := [.int v3, .ref v0, .long ((31 : Int64) * v1)]) rfl ?_
    obtain ⟨gp13, hf⟩ := mj_gd hf
    obtain ⟨p13, ep13, hf⟩ := mj_bd hf
    refine mj_callV (T := TX9) (N := 20) (ci := 9) mX9_counted [.int v3] 12 rfl ll_X9_279 lb_X9_counted li_X9_counted ⟨Nat.le_of_ble_eq_true rfl, Nat.le_of_ble_eq_true rfl⟩ rfl gp13 rfl (rest := [.long ((31 : Int64) * v1)]) rfl (Nat.le_of_ble_eq_true rfl) ⟨Nat.le_of_ble_eq_true rfl, Nat.le_of_ble_eq_true rfl⟩ (c_X9_counted v0 v3 h p13 ep13) ?_
    show mj_W mX9_digest (mj_FJ p) 22 [(0, .ref v0), (1, .long v1), (3, .int v3)] [.int p13.1, .long ((31 : Int64) * v1)] p13.2 0 0
    refine mj_blk k_X9_ok 13 5 (pc' := 6) (l' := [(3, .int (v3 + (1 : Int32))), (1, .long (((31 : Int64) * v1) + ((p13.1).toInt64))), (0, .ref v0)]) (st' := []) rfl ?_
    refine mj_locs [2, 1, 0] (l' := [(0, .ref v0), (1, .long (((31 : Int64) * v1) + ((p13.1).toInt64))), (3, .int (v3 + (1 : Int32)))]) rfl ?_
    exact hK6 v0 (((31 : Int64) * v1) + ((p13.1).toInt64)) (v3 + (1 : Int32)) p13.2 _ hf
def f_X9_digest_6 (v0 : Nat) (v1 : Int64) (v3 : Int32) (h : mj_H) : Option (Int64 × mj_H) := mj_fix (fun (K6 : (Nat × Int64 × Int32 × mj_H) → Option (Int64 × mj_H)) (s : Nat × Int64 × Int32 × mj_H) => b_X9_digest_6  (fun v0 v1 v3 h => K6 (v0, v1, v3, h)) s.1 s.2.1 s.2.2.1 s.2.2.2) 1000 (v0, v1, v3, h)
set_option maxHeartbeats 4000000 in
set_option maxRecDepth 100000 in
theorem w_X9_digest_6 (v0 : Nat) (v1 : Int64) (v3 : Int32) (h : mj_H) (p : Int64 × mj_H) (hf : f_X9_digest_6  v0 v1 v3 h = some p) : mj_W mX9_digest (mj_FJ p) 6 [(0, .ref v0), (1, .long v1), (3, .int v3)] [] h 0 0 := by
  unfold f_X9_digest_6 at hf
  exact mj_fix_ind (F := (fun (K6 : (Nat × Int64 × Int32 × mj_H) → Option (Int64 × mj_H)) (s : Nat × Int64 × Int32 × mj_H) => b_X9_digest_6  (fun v0 v1 v3 h => K6 (v0, v1, v3, h)) s.1 s.2.1 s.2.2.1 s.2.2.2)) (P := fun s p => mj_W mX9_digest (mj_FJ p) 6 [(0, .ref s.1), (1, .long s.2.1), (3, .int s.2.2.1)] [] s.2.2.2 0 0) (fun K6 hK6 s p hf => wb_X9_digest_6   (fun v0 v1 v3 h => K6 (v0, v1, v3, h)) (fun v0 v1 v3 h p e => hK6 (v0, v1, v3, h) p e) s.1 s.2.1 s.2.2.1 s.2.2.2 p hf) 1000 (v0, v1, v3, h) p hf
def f_X9_digest (v0 : Nat) (h : mj_H) : Option (Int64 × mj_H) := f_X9_digest_6 v0 (971 : Int64) (0 : Int32) h
set_option maxHeartbeats 4000000 in
set_option maxRecDepth 100000 in
theorem c_X9_digest (v0 : Nat) (h : mj_H) (p : Int64 × mj_H) (hf : f_X9_digest v0 h = some p) : mj_Met mX9_digest [.ref v0] h (some (.long p.1)) p.2 := by
  refine mj_met pl_X9 tok_X9_digest (Nat.le_of_ble_eq_true rfl) ?_
  show mj_W mX9_digest (mj_FJ p) 0 [(0, .ref v0)] [] h 0 0
  unfold f_X9_digest at hf
  refine mj_blk k_X9_ok 0 4 (pc' := 6) (l' := [(3, .int (0 : Int32)), (1, .long (971 : Int64)), (0, .ref v0)]) (st' := []) rfl ?_
  refine mj_locs [2, 1, 0] (l' := [(0, .ref v0), (1, .long (971 : Int64)), (3, .int (0 : Int32))]) rfl ?_
  exact w_X9_digest_6 v0 (971 : Int64) (0 : Int32) h _ hf
