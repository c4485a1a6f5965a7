/-! printed by wip/whole/gen.py: X5_init, X0_init, X0_has, X0_hasAll, X0_begin, X0_areWeights, X0_setWeight, X0_enrol, X0_dress, X0_brothersOf, X8_isIn, X0_areBrothers, X0_bind, X0_knows, X0_inform, X0_weightOf, X0_signsOf, J6_bitCount_0f7a4, X0_pairs, X0_likeliestOf, X5_load, X8_casesOf, X5_sum, X5_chance -/
def f_X5_init (v0 : Nat) (h : mj_H) : Option (mj_H) := (mj_mk h (.inl (1, 6, .inr (.inl (fun _ => (0 : Int64)))))).bind fun p1 => (mj_sV p1.2 v0 5 0 (.ref p1.1)).bind fun h2 => some h2
set_option maxHeartbeats 4000000 in
set_option maxRecDepth 100000 in
theorem c_X5_init (v0 : Nat) (h : mj_H) (p : mj_H) (hf : f_X5_init v0 h = some p) : mj_Met mX5_init [.ref v0] h none p := by
  refine mj_met pl_X5 tok_X5_init (Nat.le_of_ble_eq_true rfl) ?_
  show mj_W mX5_init (mj_FV p) 0 [(0, .ref v0)] [] h 0 0
  unfold f_X5_init at hf
  refine mj_blk k_X5_ok 0 1 (pc' := 1) (l' := [(0, .ref v0)]) (st' := [.ref v0]) rfl ?_
  refine mj_obj 1 rfl ob_X5_3 ⟨Nat.le_of_ble_eq_true rfl, Nat.le_of_ble_eq_true rfl⟩ ?_
  refine mj_blk k_X5_ok 2 2 (pc' := 7) (l' := [(0, .ref v0)]) (st' := [.int (6 : Int32), .ref v0]) rfl ?_
  obtain ⟨p1, ep1, hf⟩ := mj_bd hf
  refine mj_newJP 6 4 rfl rfl (by decide) aw_long ep1 (Nat.le_of_ble_eq_true rfl) (Nat.le_of_ble_eq_true rfl) ?_
  obtain ⟨h2, eh2, hf⟩ := mj_bd hf
  refine mj_put 5 rfl fp_X5_9 (fun _ => ⟨rfl, rfl⟩) eh2 ?_
  obtain rfl := Option.some.inj hf
  exact mj_end none ⟨mj_dec tok_X5_init (a := 6) rfl, rfl⟩ ⟨rfl, rfl⟩ (Nat.le_of_ble_eq_true rfl) (Nat.le_of_ble_eq_true rfl)
def f_X0_init (v0 : Nat) (h : mj_H) : Option (mj_H) := (mj_mk h (.inl (1, 36, .inr (.inl (fun _ => (0 : Int64)))))).bind fun p1 => (mj_sV p1.2 v0 0 0 (.ref p1.1)).bind fun h2 => (mj_mk h2 (.inl (0, 6, .inl (fun _ => (0 : Int32))))).bind fun p3 => (mj_sV p3.2 v0 0 1 (.ref p3.1)).bind fun h4 => (mj_mk h4 (.inl (0, 6, .inl (fun _ => (0 : Int32))))).bind fun p5 => (mj_sV p5.2 v0 0 2 (.ref p5.1)).bind fun h6 => (mj_mk h6 (.inr (5, [.null]))).bind fun p7 => (f_X5_init p7.1 p7.2).bind fun p8 => (mj_sV p8 v0 0 3 (.ref p7.1)).bind fun h9 => (mj_sV h9 v0 0 6 (.int (40 : Int32))).bind fun h10 => some h10
set_option maxHeartbeats 4000000 in
set_option maxRecDepth 100000 in
theorem c_X0_init (v0 : Nat) (h : mj_H) (p : mj_H) (hf : f_X0_init v0 h = some p) : mj_Met mX0_init [.ref v0] h none p := by
  refine mj_met pl_X0 tok_X0_init (Nat.le_of_ble_eq_true rfl) ?_
  show mj_W mX0_init (mj_FV p) 0 [(0, .ref v0)] [] h 0 0
  unfold f_X0_init at hf
  refine mj_blk k_X0_ok 0 1 (pc' := 1) (l' := [(0, .ref v0)]) (st' := [.ref v0]) rfl ?_
  refine mj_obj 1 rfl ob_X0_3 ⟨Nat.le_of_ble_eq_true rfl, Nat.le_of_ble_eq_true rfl⟩ ?_
  refine mj_blk k_X0_ok 2 2 (pc' := 7) (l' := [(0, .ref v0)]) (st' := [.int (36 : Int32), .ref v0]) rfl ?_
  obtain ⟨p1, ep1, hf⟩ := mj_bd hf
  refine mj_newJP 36 4 rfl rfl (by decide) aw_long ep1 (Nat.le_of_ble_eq_true rfl) (Nat.le_of_ble_eq_true rfl) ?_
  obtain ⟨h2, eh2, hf⟩ := mj_bd hf
  refine mj_put 5 rfl fp_X0_9 (fun _ => ⟨rfl, rfl⟩) eh2 ?_
  refine mj_blk k_X0_ok 6 2 (pc' := 15) (l' := [(0, .ref v0)]) (st' := [.int (6 : Int32), .ref v0]) rfl ?_
  obtain ⟨p3, ep3, hf⟩ := mj_bd hf
  refine mj_newIP 6 8 rfl rfl (by decide) aw_int ep3 (Nat.le_of_ble_eq_true rfl) (Nat.le_of_ble_eq_true rfl) ?_
  obtain ⟨h4, eh4, hf⟩ := mj_bd hf
  refine mj_put 9 rfl fp_X0_15 (fun _ => ⟨rfl, rfl⟩) eh4 ?_
  refine mj_blk k_X0_ok 10 2 (pc' := 23) (l' := [(0, .ref v0)]) (st' := [.int (6 : Int32), .ref v0]) rfl ?_
  obtain ⟨p5, ep5, hf⟩ := mj_bd hf
  refine mj_newIP 6 12 rfl rfl (by decide) aw_int ep5 (Nat.le_of_ble_eq_true rfl) (Nat.le_of_ble_eq_true rfl) ?_
  obtain ⟨h6, eh6, hf⟩ := mj_bd hf
  refine mj_put 13 rfl fp_X0_19 (fun _ => ⟨rfl, rfl⟩) eh6 ?_
  refine mj_blk k_X0_ok 14 1 (pc' := 29) (l' := [(0, .ref v0)]) (st' := [.ref v0]) rfl ?_
  obtain ⟨p7, ep7, hf⟩ := mj_bd hf
  refine mj_newP 15 rfl nw_X0_22 (by simp [mj_0]) ep7 (Nat.le_of_ble_eq_true rfl) (Nat.le_of_ble_eq_true rfl) ?_
  refine mj_blk k_X0_ok 16 1 (pc' := 33) (l' := [(0, .ref v0)]) (st' := [.ref p7.1, .ref p7.1, .ref v0]) rfl ?_
  obtain ⟨p8, ep8, hf⟩ := mj_bd hf
  refine mj_callI mX5_init [] 17 rfl ll_X0_24 lb_X5_init li_X5_init ⟨Nat.le_of_ble_eq_true rfl, Nat.le_of_ble_eq_true rfl⟩ rfl (rest := [.ref p7.1, .ref v0]) rfl (Nat.le_of_ble_eq_true rfl) ⟨Nat.le_of_ble_eq_true rfl, Nat.le_of_ble_eq_true rfl⟩ (c_X5_init p7.1 p7.2 p8 ep8) ?_
  show mj_W mX0_init (mj_FV p) 36 [(0, .ref v0)] [.ref p7.1, .ref v0] p8 5 55
  obtain ⟨h9, eh9, hf⟩ := mj_bd hf
  refine mj_put 18 rfl fp_X0_25 (fun _ => ⟨rfl, rfl⟩) eh9 ?_
  refine mj_blk k_X0_ok 19 2 (pc' := 42) (l' := [(0, .ref v0)]) (st' := [.int (40 : Int32), .ref v0]) rfl ?_
  obtain ⟨h10, eh10, hf⟩ := mj_bd hf
  refine mj_put 21 rfl fp_X0_29 (fun _ => ⟨rfl, rfl⟩) eh10 ?_
  obtain rfl := Option.some.inj hf
  exact mj_end none ⟨mj_dec tok_X0_init (a := 22) rfl, rfl⟩ ⟨rfl, rfl⟩ (Nat.le_of_ble_eq_true rfl) (Nat.le_of_ble_eq_true rfl)
def f_X0_has (v0 : Nat) (v1 : Int32) (h : mj_H) : Option (Int32 × mj_H) := (if v1 < 0 then some ((0 : Int32), h) else (mj_gI h v0 0 4).bind fun x1 => (if x1 ≤ v1 then some ((0 : Int32), h) else some ((1 : Int32), h)))
set_option maxHeartbeats 4000000 in
set_option maxRecDepth 100000 in
theorem c_X0_has (v0 : Nat) (v1 : Int32) (h : mj_H) (p : Int32 × mj_H) (hf : f_X0_has v0 v1 h = some p) : mj_Met mX0_has [.ref v0, .int v1] h (some (.int p.1)) p.2 := by
  refine mj_met pl_X0 tok_X0_has (Nat.le_of_ble_eq_true rfl) ?_
  show mj_W mX0_has (mj_FI p) 0 [(0, .ref v0), (1, .int v1)] [] h 0 0
  unfold f_X0_has at hf
  refine mj_blk k_X0_ok 0 1 (pc' := 1) (l' := [(0, .ref v0), (1, .int v1)]) (st' := [.int v1]) rfl ?_
  refine mj_if_lt 1 16 rfl (by decide) (fun q => ?_) (fun q => ?_)
  · have hf := (if_pos q).symm.trans hf
    refine mj_blk k_X0_ok 8 1 (pc' := 17) (l' := [(0, .ref v0), (1, .int v1)]) (st' := [.int (0 : Int32)]) rfl ?_
    obtain rfl := Option.some.inj hf
    exact mj_end (some (.int (0 : Int32))) ⟨mj_dec tok_X0_has (a := 9) rfl, .boolean, rfl, rfl⟩ ⟨rfl, rfl⟩ (Nat.le_of_ble_eq_true rfl) (Nat.le_of_ble_eq_true rfl)
  · have hf := (if_neg q).symm.trans hf
    refine mj_blk k_X0_ok 2 2 (pc' := 6) (l' := [(0, .ref v0), (1, .int v1)]) (st' := [.ref v0, .int v1]) rfl ?_
    obtain ⟨x1, ex1, hf⟩ := mj_bd hf
    refine mj_get 4 rfl fl_X0_33 (mj_gI_V ex1) ?_
    refine mj_icmp_ge 5 16 rfl (by decide) (fun q => ?_) (fun q => ?_)
    · have hf := (if_pos q).symm.trans hf
      refine mj_blk k_X0_ok 8 1 (pc' := 17) (l' := [(0, .ref v0), (1, .int v1)]) (st' := [.int (0 : Int32)]) rfl ?_
      obtain rfl := Option.some.inj hf
      exact mj_end (some (.int (0 : Int32))) ⟨mj_dec tok_X0_has (a := 9) rfl, .boolean, rfl, rfl⟩ ⟨rfl, rfl⟩ (Nat.le_of_ble_eq_true rfl) (Nat.le_of_ble_eq_true rfl)
    · have hf := (if_neg q).symm.trans hf
      refine mj_blk k_X0_ok 6 2 (pc' := 17) (l' := [(0, .ref v0), (1, .int v1)]) (st' := [.int (1 : Int32)]) rfl ?_
      obtain rfl := Option.some.inj hf
      exact mj_end (some (.int (1 : Int32))) ⟨mj_dec tok_X0_has (a := 9) rfl, .boolean, rfl, rfl⟩ ⟨rfl, rfl⟩ (Nat.le_of_ble_eq_true rfl) (Nat.le_of_ble_eq_true rfl)
def f_X0_hasAll (v0 : Nat) (v1 : Int32) (h : mj_H) : Option (Int32 × mj_H) := (if v1 < 0 then some ((0 : Int32), h) else (mj_gI h v0 0 4).bind fun x1 => (if ((1 : Int32) <<< (x1 &&& 31)) ≤ v1 then some ((0 : Int32), h) else some ((1 : Int32), h)))
set_option maxHeartbeats 4000000 in
set_option maxRecDepth 100000 in
theorem c_X0_hasAll (v0 : Nat) (v1 : Int32) (h : mj_H) (p : Int32 × mj_H) (hf : f_X0_hasAll v0 v1 h = some p) : mj_Met mX0_hasAll [.ref v0, .int v1] h (some (.int p.1)) p.2 := by
  refine mj_met pl_X0 tok_X0_hasAll (Nat.le_of_ble_eq_true rfl) ?_
  show mj_W mX0_hasAll (mj_FI p) 0 [(0, .ref v0), (1, .int v1)] [] h 0 0
  unfold f_X0_hasAll at hf
  refine mj_blk k_X0_ok 0 1 (pc' := 1) (l' := [(0, .ref v0), (1, .int v1)]) (st' := [.int v1]) rfl ?_
  refine mj_if_lt 1 18 rfl (by decide) (fun q => ?_) (fun q => ?_)
  · have hf := (if_pos q).symm.trans hf
    refine mj_blk k_X0_ok 10 1 (pc' := 19) (l' := [(0, .ref v0), (1, .int v1)]) (st' := [.int (0 : Int32)]) rfl ?_
    obtain rfl := Option.some.inj hf
    exact mj_end (some (.int (0 : Int32))) ⟨mj_dec tok_X0_hasAll (a := 11) rfl, .boolean, rfl, rfl⟩ ⟨rfl, rfl⟩ (Nat.le_of_ble_eq_true rfl) (Nat.le_of_ble_eq_true rfl)
  · have hf := (if_neg q).symm.trans hf
    refine mj_blk k_X0_ok 2 3 (pc' := 7) (l' := [(0, .ref v0), (1, .int v1)]) (st' := [.ref v0, .int (1 : Int32), .int v1]) rfl ?_
    obtain ⟨x1, ex1, hf⟩ := mj_bd hf
    refine mj_get 5 rfl fl_X0_33 (mj_gI_V ex1) ?_
    refine mj_blk k_X0_ok 6 1 (pc' := 11) (l' := [(0, .ref v0), (1, .int v1)]) (st' := [.int ((1 : Int32) <<< (x1 &&& 31)), .int v1]) rfl ?_
    refine mj_icmp_ge 7 18 rfl (by decide) (fun q => ?_) (fun q => ?_)
    · have hf := (if_pos q).symm.trans hf
      refine mj_blk k_X0_ok 10 1 (pc' := 19) (l' := [(0, .ref v0), (1, .int v1)]) (st' := [.int (0 : Int32)]) rfl ?_
      obtain rfl := Option.some.inj hf
      exact mj_end (some (.int (0 : Int32))) ⟨mj_dec tok_X0_hasAll (a := 11) rfl, .boolean, rfl, rfl⟩ ⟨rfl, rfl⟩ (Nat.le_of_ble_eq_true rfl) (Nat.le_of_ble_eq_true rfl)
    · have hf := (if_neg q).symm.trans hf
      refine mj_blk k_X0_ok 8 2 (pc' := 19) (l' := [(0, .ref v0), (1, .int v1)]) (st' := [.int (1 : Int32)]) rfl ?_
      obtain rfl := Option.some.inj hf
      exact mj_end (some (.int (1 : Int32))) ⟨mj_dec tok_X0_hasAll (a := 11) rfl, .boolean, rfl, rfl⟩ ⟨rfl, rfl⟩ (Nat.le_of_ble_eq_true rfl) (Nat.le_of_ble_eq_true rfl)
def f_X0_begin (v0 : Nat) (v1 : Int32) (h : mj_H) : Option (Int32 × mj_H) := (if v1 < 0 then some ((-2 : Int32), h) else (if v1 ≤ (99 : Int32) then (mj_gI h v0 0 4).bind fun x1 => (mj_sV h v0 0 4 (.int (0 : Int32))).bind fun h2 => (mj_sV h2 v0 0 5 (.int (0 : Int32))).bind fun h3 => (mj_sV h3 v0 0 6 (.int v1)).bind fun h4 => some (x1, h4) else some ((-2 : Int32), h)))
set_option maxHeartbeats 4000000 in
set_option maxRecDepth 100000 in
theorem c_X0_begin (v0 : Nat) (v1 : Int32) (h : mj_H) (p : Int32 × mj_H) (hf : f_X0_begin v0 v1 h = some p) : mj_Met mX0_begin [.ref v0, .int v1] h (some (.int p.1)) p.2 := by
  refine mj_met pl_X0 tok_X0_begin (Nat.le_of_ble_eq_true rfl) ?_
  show mj_W mX0_begin (mj_FI p) 0 [(0, .ref v0), (1, .int v1)] [] h 0 0
  unfold f_X0_begin at hf
  refine mj_blk k_X0_ok 0 1 (pc' := 1) (l' := [(0, .ref v0), (1, .int v1)]) (st' := [.int v1]) rfl ?_
  refine mj_if_lt 1 10 rfl (by decide) (fun q => ?_) (fun q => ?_)
  · have hf := (if_pos q).symm.trans hf
    refine mj_blk k_X0_ok 5 1 (pc' := 12) (l' := [(0, .ref v0), (1, .int v1)]) (st' := [.int (-2 : Int32)]) rfl ?_
    obtain rfl := Option.some.inj hf
    exact mj_end (some (.int (-2 : Int32))) ⟨mj_dec tok_X0_begin (a := 6) rfl, .int, rfl, rfl⟩ ⟨rfl, rfl⟩ (Nat.le_of_ble_eq_true rfl) (Nat.le_of_ble_eq_true rfl)
  · have hf := (if_neg q).symm.trans hf
    refine mj_blk k_X0_ok 2 2 (pc' := 7) (l' := [(0, .ref v0), (1, .int v1)]) (st' := [.int (99 : Int32), .int v1]) rfl ?_
    refine mj_icmp_le 4 13 rfl (by decide) (fun q => ?_) (fun q => ?_)
    · have hf := (if_pos q).symm.trans hf
      refine mj_blk k_X0_ok 7 1 (pc' := 14) (l' := [(0, .ref v0), (1, .int v1)]) (st' := [.ref v0]) rfl ?_
      obtain ⟨x1, ex1, hf⟩ := mj_bd hf
      refine mj_get 8 rfl fl_X0_33 (mj_gI_V ex1) ?_
      refine mj_blk k_X0_ok 9 3 (pc' := 20) (l' := [(2, .int x1), (0, .ref v0), (1, .int v1)]) (st' := [.int (0 : Int32), .ref v0]) rfl ?_
      obtain ⟨h2, eh2, hf⟩ := mj_bd hf
      refine mj_put 12 rfl fp_X0_33 (fun _ => ⟨rfl, rfl⟩) eh2 ?_
      refine mj_blk k_X0_ok 13 2 (pc' := 25) (l' := [(2, .int x1), (0, .ref v0), (1, .int v1)]) (st' := [.int (0 : Int32), .ref v0]) rfl ?_
      obtain ⟨h3, eh3, hf⟩ := mj_bd hf
      refine mj_put 15 rfl fp_X0_36 (fun _ => ⟨rfl, rfl⟩) eh3 ?_
      refine mj_blk k_X0_ok 16 2 (pc' := 30) (l' := [(2, .int x1), (0, .ref v0), (1, .int v1)]) (st' := [.int v1, .ref v0]) rfl ?_
      obtain ⟨h4, eh4, hf⟩ := mj_bd hf
      refine mj_put 18 rfl fp_X0_29 (fun _ => ⟨rfl, rfl⟩) eh4 ?_
      refine mj_blk k_X0_ok 19 1 (pc' := 34) (l' := [(2, .int x1), (0, .ref v0), (1, .int v1)]) (st' := [.int x1]) rfl ?_
      obtain rfl := Option.some.inj hf
      exact mj_end (some (.int x1)) ⟨mj_dec tok_X0_begin (a := 20) rfl, .int, rfl, rfl⟩ ⟨rfl, rfl⟩ (Nat.le_of_ble_eq_true rfl) (Nat.le_of_ble_eq_true rfl)
    · have hf := (if_neg q).symm.trans hf
      refine mj_blk k_X0_ok 5 1 (pc' := 12) (l' := [(0, .ref v0), (1, .int v1)]) (st' := [.int (-2 : Int32)]) rfl ?_
      obtain rfl := Option.some.inj hf
      exact mj_end (some (.int (-2 : Int32))) ⟨mj_dec tok_X0_begin (a := 6) rfl, .int, rfl, rfl⟩ ⟨rfl, rfl⟩ (Nat.le_of_ble_eq_true rfl) (Nat.le_of_ble_eq_true rfl)
def f_X0_areWeights_38 (K4 : Nat → Int32 → Int32 → mj_H → Option (Int32 × mj_H)) (v0 : Nat) (v2 : Int32) (s0 : Int32) (s1 : Int32) (h : mj_H) : Option (Int32 × mj_H) := K4 v0 (s0 ||| s1) (v2 + (1 : Int32)) h
set_option maxHeartbeats 4000000 in
set_option maxRecDepth 100000 in
theorem w_X0_areWeights_38 (K4 : Nat → Int32 → Int32 → mj_H → Option (Int32 × mj_H)) (hK4 : ∀ (v0 : Nat) (v1 : Int32) (v2 : Int32)  (h : mj_H) (p : Int32 × mj_H), K4 v0 v1 v2 h = some p → mj_W mX0_areWeights (mj_FI p) 4 [(0, .ref v0), (1, .int v1), (2, .int v2)] [] h 0 0) (v0 : Nat) (v2 : Int32) (s0 : Int32) (s1 : Int32) (h : mj_H) (p : Int32 × mj_H) (hf : f_X0_areWeights_38 K4 v0 v2 s0 s1 h = some p) : mj_W mX0_areWeights (mj_FI p) 38 [(0, .ref v0), (2, .int v2)] [.int s1, .int s0] h 0 0 := by
  unfold f_X0_areWeights_38 at hf
  refine mj_blk k_X0_ok 27 4 (pc' := 4) (l' := [(2, .int (v2 + (1 : Int32))), (1, .int (s0 ||| s1)), (0, .ref v0)]) (st' := []) rfl ?_
  refine mj_locs [2, 1, 0] (l' := [(0, .ref v0), (1, .int (s0 ||| s1)), (2, .int (v2 + (1 : Int32)))]) rfl ?_
  exact hK4 v0 (s0 ||| s1) (v2 + (1 : Int32)) h _ hf
def b_X0_areWeights_4 (K4 : Nat → Int32 → Int32 → mj_H → Option (Int32 × mj_H)) (v0 : Nat) (v1 : Int32) (v2 : Int32) (h : mj_H) : Option (Int32 × mj_H) := (mj_aL h v0).bind fun x1 => (if x1 ≤ v2 then (if v1 = 0 ∨ v1 = 1 then some (v1, h) else none) else (mj_aI h v0 v2).bind fun x2 => (if x2 < 0 then some ((0 : Int32), h) else (mj_aI h v0 v2).bind fun x3 => (if x3 ≤ (9 : Int32) then (mj_aI h v0 v2).bind fun x4 => (if x4 ≤ 0 then f_X0_areWeights_38 K4 v0 v2 v1 (0 : Int32) h else f_X0_areWeights_38 K4 v0 v2 v1 (1 : Int32) h) else some ((0 : Int32), h))))
set_option maxHeartbeats 4000000 in
set_option maxRecDepth 100000 in
theorem wb_X0_areWeights_4 (K4 : Nat → Int32 → Int32 → mj_H → Option (Int32 × mj_H)) (hK4 : ∀ (v0 : Nat) (v1 : Int32) (v2 : Int32)  (h : mj_H) (p : Int32 × mj_H), K4 v0 v1 v2 h = some p → mj_W mX0_areWeights (mj_FI p) 4 [(0, .ref v0), (1, .int v1), (2, .int v2)] [] h 0 0) (v0 : Nat) (v1 : Int32) (v2 : Int32) (h : mj_H) (p : Int32 × mj_H) (hf : b_X0_areWeights_4  K4 v0 v1 v2 h = some p) : mj_W mX0_areWeights (mj_FI p) 4 [(0, .ref v0), (1, .int v1), (2, .int v2)] [] h 0 0 := by
  unfold b_X0_areWeights_4 at hf
  refine mj_blk k_X0_ok 4 2 (pc' := 6) (l' := [(0, .ref v0), (1, .int v1), (2, .int v2)]) (st' := [.ref v0, .int v2]) rfl ?_
  obtain ⟨x1, ex1, hf⟩ := mj_bd hf
  refine mj_alen 6 rfl ex1 ?_
  refine mj_icmp_ge 7 46 rfl (by decide) (fun q => ?_) (fun q => ?_)
  · have hf := (if_pos q).symm.trans hf
    refine mj_blk k_X0_ok 31 1 (pc' := 47) (l' := [(0, .ref v0), (1, .int v1), (2, .int v2)]) (st' := [.int v1]) rfl ?_
    obtain ⟨g, hf⟩ := mj_gp hf
    obtain rfl := Option.some.inj hf
    exact mj_end (some (.int v1)) ⟨mj_dec tok_X0_areWeights (a := 32) rfl, .boolean, rfl, mj_bool g⟩ ⟨rfl, rfl⟩ (Nat.le_of_ble_eq_true rfl) (Nat.le_of_ble_eq_true rfl)
  · have hf := (if_neg q).symm.trans hf
    refine mj_blk k_X0_ok 8 2 (pc' := 12) (l' := [(0, .ref v0), (1, .int v1), (2, .int v2)]) (st' := [.int v2, .ref v0]) rfl ?_
    obtain ⟨x2, ex2, hf⟩ := mj_bd hf
    refine mj_iald 10 rfl ex2 ?_
    refine mj_if_lt 11 24 rfl (by decide) (fun q => ?_) (fun q => ?_)
    · have hf := (if_pos q).symm.trans hf
      refine mj_blk k_X0_ok 17 1 (pc' := 25) (l' := [(0, .ref v0), (1, .int v1), (2, .int v2)]) (st' := [.int (0 : Int32)]) rfl ?_
      obtain rfl := Option.some.inj hf
      exact mj_end (some (.int (0 : Int32))) ⟨mj_dec tok_X0_areWeights (a := 18) rfl, .boolean, rfl, rfl⟩ ⟨rfl, rfl⟩ (Nat.le_of_ble_eq_true rfl) (Nat.le_of_ble_eq_true rfl)
    · have hf := (if_neg q).symm.trans hf
      refine mj_blk k_X0_ok 12 2 (pc' := 18) (l' := [(0, .ref v0), (1, .int v1), (2, .int v2)]) (st' := [.int v2, .ref v0]) rfl ?_
      obtain ⟨x3, ex3, hf⟩ := mj_bd hf
      refine mj_iald 14 rfl ex3 ?_
      refine mj_blk k_X0_ok 15 1 (pc' := 21) (l' := [(0, .ref v0), (1, .int v1), (2, .int v2)]) (st' := [.int (9 : Int32), .int x3]) rfl ?_
      refine mj_icmp_le 16 26 rfl (by decide) (fun q => ?_) (fun q => ?_)
      · have hf := (if_pos q).symm.trans hf
        refine mj_blk k_X0_ok 19 3 (pc' := 29) (l' := [(0, .ref v0), (1, .int v1), (2, .int v2)]) (st' := [.int v2, .ref v0, .int v1]) rfl ?_
        obtain ⟨x4, ex4, hf⟩ := mj_bd hf
        refine mj_iald 22 rfl ex4 ?_
        refine mj_if_le 23 37 rfl (by decide) (fun q => ?_) (fun q => ?_)
        · have hf := (if_pos q).symm.trans hf
          refine mj_blk k_X0_ok 26 1 (pc' := 38) (l' := [(0, .ref v0), (1, .int v1), (2, .int v2)]) (st' := [.int (0 : Int32), .int v1]) rfl ?_
          refine mj_locs [0, 2] (l' := [(0, .ref v0), (2, .int v2)]) rfl ?_
          exact w_X0_areWeights_38 K4 hK4 v0 v2 v1 (0 : Int32) h _ hf
        · have hf := (if_neg q).symm.trans hf
          refine mj_blk k_X0_ok 24 2 (pc' := 38) (l' := [(0, .ref v0), (1, .int v1), (2, .int v2)]) (st' := [.int (1 : Int32), .int v1]) rfl ?_
          refine mj_locs [0, 2] (l' := [(0, .ref v0), (2, .int v2)]) rfl ?_
          exact w_X0_areWeights_38 K4 hK4 v0 v2 v1 (1 : Int32) h _ hf
      · have hf := (if_neg q).symm.trans hf
        refine mj_blk k_X0_ok 17 1 (pc' := 25) (l' := [(0, .ref v0), (1, .int v1), (2, .int v2)]) (st' := [.int (0 : Int32)]) rfl ?_
        obtain rfl := Option.some.inj hf
        exact mj_end (some (.int (0 : Int32))) ⟨mj_dec tok_X0_areWeights (a := 18) rfl, .boolean, rfl, rfl⟩ ⟨rfl, rfl⟩ (Nat.le_of_ble_eq_true rfl) (Nat.le_of_ble_eq_true rfl)
def f_X0_areWeights_4 (v0 : Nat) (v1 : Int32) (v2 : Int32) (h : mj_H) : Option (Int32 × mj_H) := mj_fix (fun (K4 : (Nat × Int32 × Int32 × mj_H) → Option (Int32 × mj_H)) (s : Nat × Int32 × Int32 × mj_H) => b_X0_areWeights_4  (fun v0 v1 v2 h => K4 (v0, v1, v2, h)) s.1 s.2.1 s.2.2.1 s.2.2.2) 1000 (v0, v1, v2, h)
set_option maxHeartbeats 4000000 in
set_option maxRecDepth 100000 in
theorem w_X0_areWeights_4 (v0 : Nat) (v1 : Int32) (v2 : Int32) (h : mj_H) (p : Int32 × mj_H) (hf : f_X0_areWeights_4  v0 v1 v2 h = some p) : mj_W mX0_areWeights (mj_FI p) 4 [(0, .ref v0), (1, .int v1), (2, .int v2)] [] h 0 0 := by
  unfold f_X0_areWeights_4 at hf
  exact mj_fix_ind (F := (fun (K4 : (Nat × Int32 × Int32 × mj_H) → Option (Int32 × mj_H)) (s : Nat × Int32 × Int32 × mj_H) => b_X0_areWeights_4  (fun v0 v1 v2 h => K4 (v0, v1, v2, h)) s.1 s.2.1 s.2.2.1 s.2.2.2)) (P := fun s p => mj_W mX0_areWeights (mj_FI p) 4 [(0, .ref s.1), (1, .int s.2.1), (2, .int s.2.2.1)] [] s.2.2.2 0 0) (fun K4 hK4 s p hf => wb_X0_areWeights_4   (fun v0 v1 v2 h => K4 (v0, v1, v2, h)) (fun v0 v1 v2 h p e => hK4 (v0, v1, v2, h) p e) s.1 s.2.1 s.2.2.1 s.2.2.2 p hf) 1000 (v0, v1, v2, h) p hf
def f_X0_areWeights (v0 : Nat) (h : mj_H) : Option (Int32 × mj_H) := f_X0_areWeights_4 v0 (0 : Int32) (0 : Int32) h
set_option maxHeartbeats 4000000 in
set_option maxRecDepth 100000 in
theorem c_X0_areWeights (v0 : Nat) (h : mj_H) (p : Int32 × mj_H) (hf : f_X0_areWeights v0 h = some p) : mj_Met mX0_areWeights [.ref v0] h (some (.int p.1)) p.2 := by
  refine mj_met pl_X0 tok_X0_areWeights (Nat.le_of_ble_eq_true rfl) ?_
  show mj_W mX0_areWeights (mj_FI p) 0 [(0, .ref v0)] [] h 0 0
  unfold f_X0_areWeights at hf
  refine mj_blk k_X0_ok 0 4 (pc' := 4) (l' := [(2, .int (0 : Int32)), (1, .int (0 : Int32)), (0, .ref v0)]) (st' := []) rfl ?_
  refine mj_locs [2, 1, 0] (l' := [(0, .ref v0), (1, .int (0 : Int32)), (2, .int (0 : Int32))]) rfl ?_
  exact w_X0_areWeights_4 v0 (0 : Int32) (0 : Int32) h _ hf
def f_X0_setWeight (v0 : Nat) (v1 : Int32) (v2 : Int32) (v3 : Int64) (h : mj_H) : Option (mj_H) := (if ((v1 * (6 : Int32)) + v2) < 0 then some h else (mj_gR h v0 0 0).bind fun x1 => (mj_aL h x1).bind fun x2 => (if x2 ≤ ((v1 * (6 : Int32)) + v2) then some h else (mj_gR h v0 0 0).bind fun x3 => (mj_uJ h x3 ((v1 * (6 : Int32)) + v2) v3).bind fun h4 => some h4))
set_option maxHeartbeats 4000000 in
set_option maxRecDepth 100000 in
theorem c_X0_setWeight (v0 : Nat) (v1 : Int32) (v2 : Int32) (v3 : Int64) (h : mj_H) (p : mj_H) (hf : f_X0_setWeight v0 v1 v2 v3 h = some p) : mj_Met mX0_setWeight [.ref v0, .int v1, .int v2, .long v3] h none p := by
  refine mj_met pl_X0 tok_X0_setWeight (Nat.le_of_ble_eq_true rfl) ?_
  show mj_W mX0_setWeight (mj_FV p) 0 [(0, .ref v0), (1, .int v1), (2, .int v2), (3, .long v3)] [] h 0 0
  unfold f_X0_setWeight at hf
  refine mj_blk k_X0_ok 0 7 (pc' := 10) (l' := [(5, .int ((v1 * (6 : Int32)) + v2)), (0, .ref v0), (1, .int v1), (2, .int v2), (3, .long v3)]) (st' := [.int ((v1 * (6 : Int32)) + v2)]) rfl ?_
  refine mj_if_lt 7 31 rfl (by decide) (fun q => ?_) (fun q => ?_)
  · have hf := (if_pos q).symm.trans hf
    obtain rfl := Option.some.inj hf
    exact mj_end none ⟨mj_dec tok_X0_setWeight (a := 18) rfl, rfl⟩ ⟨rfl, rfl⟩ (Nat.le_of_ble_eq_true rfl) (Nat.le_of_ble_eq_true rfl)
  · have hf := (if_neg q).symm.trans hf
    refine mj_blk k_X0_ok 8 2 (pc' := 16) (l' := [(5, .int ((v1 * (6 : Int32)) + v2)), (0, .ref v0), (1, .int v1), (2, .int v2), (3, .long v3)]) (st' := [.ref v0, .int ((v1 * (6 : Int32)) + v2)]) rfl ?_
    obtain ⟨x1, ex1, hf⟩ := mj_bd hf
    refine mj_get 10 rfl fl_X0_9 (mj_gR_V ex1) ?_
    obtain ⟨x2, ex2, hf⟩ := mj_bd hf
    refine mj_alen 11 rfl ex2 ?_
    refine mj_icmp_ge 12 31 rfl (by decide) (fun q => ?_) (fun q => ?_)
    · have hf := (if_pos q).symm.trans hf
      obtain rfl := Option.some.inj hf
      exact mj_end none ⟨mj_dec tok_X0_setWeight (a := 18) rfl, rfl⟩ ⟨rfl, rfl⟩ (Nat.le_of_ble_eq_true rfl) (Nat.le_of_ble_eq_true rfl)
    · have hf := (if_neg q).symm.trans hf
      refine mj_blk k_X0_ok 13 1 (pc' := 24) (l' := [(5, .int ((v1 * (6 : Int32)) + v2)), (0, .ref v0), (1, .int v1), (2, .int v2), (3, .long v3)]) (st' := [.ref v0]) rfl ?_
      obtain ⟨x3, ex3, hf⟩ := mj_bd hf
      refine mj_get 14 rfl fl_X0_9 (mj_gR_V ex3) ?_
      refine mj_blk k_X0_ok 15 2 (pc' := 30) (l' := [(5, .int ((v1 * (6 : Int32)) + v2)), (0, .ref v0), (1, .int v1), (2, .int v2), (3, .long v3)]) (st' := [.long v3, .int ((v1 * (6 : Int32)) + v2), .ref x3]) rfl ?_
      obtain ⟨h4, eh4, hf⟩ := mj_bd hf
      refine mj_last 17 rfl eh4 ?_
      obtain rfl := Option.some.inj hf
      exact mj_end none ⟨mj_dec tok_X0_setWeight (a := 18) rfl, rfl⟩ ⟨rfl, rfl⟩ (Nat.le_of_ble_eq_true rfl) (Nat.le_of_ble_eq_true rfl)
def b_X0_enrol_41 (K41 : Nat → Nat → Int32 → Int32 → mj_H → Option (Int32 × mj_H)) (v0 : Nat) (v1 : Nat) (v2 : Int32) (v3 : Int32) (h : mj_H) : Option (Int32 × mj_H) := (if (6 : Int32) ≤ v3 then (mj_gR h v0 0 1).bind fun x1 => (mj_uI h x1 v2 (0 : Int32)).bind fun h2 => (mj_gR h2 v0 0 2).bind fun x3 => (mj_uI h2 x3 v2 (0 : Int32)).bind fun h4 => (mj_gI h4 v0 0 4).bind fun x5 => (mj_sV h4 v0 0 4 (.int (x5 + (1 : Int32)))).bind fun h6 => some (v2, h6) else (mj_aI h v1 v3).bind fun x7 => (if mj_ob h v0 0 = true then (f_X0_setWeight v0 v2 v3 ((x7).toInt64) h).bind fun p8 => K41 v0 v1 v2 (v3 + (1 : Int32)) p8 else none))
set_option maxHeartbeats 4000000 in
set_option maxRecDepth 100000 in
theorem wb_X0_enrol_41 (K41 : Nat → Nat → Int32 → Int32 → mj_H → Option (Int32 × mj_H)) (hK41 : ∀ (v0 : Nat) (v1 : Nat) (v2 : Int32) (v3 : Int32)  (h : mj_H) (p : Int32 × mj_H), K41 v0 v1 v2 v3 h = some p → mj_W mX0_enrol (mj_FI p) 41 [(0, .ref v0), (1, .ref v1), (2, .int v2), (3, .int v3)] [] h 0 0) (v0 : Nat) (v1 : Nat) (v2 : Int32) (v3 : Int32) (h : mj_H) (p : Int32 × mj_H) (hf : b_X0_enrol_41  K41 v0 v1 v2 v3 h = some p) : mj_W mX0_enrol (mj_FI p) 41 [(0, .ref v0), (1, .ref v1), (2, .int v2), (3, .int v3)] [] h 0 0 := by
  unfold b_X0_enrol_41 at hf
  refine mj_blk k_X0_ok 23 2 (pc' := 44) (l' := [(0, .ref v0), (1, .ref v1), (2, .int v2), (3, .int v3)]) (st' := [.int (6 : Int32), .int v3]) rfl ?_
  refine mj_icmp_ge 25 63 rfl (by decide) (fun q => ?_) (fun q => ?_)
  · have hf := (if_pos q).symm.trans hf
    refine mj_blk k_X0_ok 36 1 (pc' := 64) (l' := [(0, .ref v0), (1, .ref v1), (2, .int v2), (3, .int v3)]) (st' := [.ref v0]) rfl ?_
    obtain ⟨x1, ex1, hf⟩ := mj_bd hf
    refine mj_get 37 rfl fl_X0_15 (mj_gR_V ex1) ?_
    refine mj_blk k_X0_ok 38 2 (pc' := 69) (l' := [(0, .ref v0), (1, .ref v1), (2, .int v2), (3, .int v3)]) (st' := [.int (0 : Int32), .int v2, .ref x1]) rfl ?_
    obtain ⟨h2, eh2, hf⟩ := mj_bd hf
    refine mj_iast 40 rfl eh2 ?_
    refine mj_blk k_X0_ok 41 1 (pc' := 71) (l' := [(0, .ref v0), (1, .ref v1), (2, .int v2), (3, .int v3)]) (st' := [.ref v0]) rfl ?_
    obtain ⟨x3, ex3, hf⟩ := mj_bd hf
    refine mj_get 42 rfl fl_X0_19 (mj_gR_V ex3) ?_
    refine mj_blk k_X0_ok 43 2 (pc' := 76) (l' := [(0, .ref v0), (1, .ref v1), (2, .int v2), (3, .int v3)]) (st' := [.int (0 : Int32), .int v2, .ref x3]) rfl ?_
    obtain ⟨h4, eh4, hf⟩ := mj_bd hf
    refine mj_iast 45 rfl eh4 ?_
    refine mj_blk k_X0_ok 46 2 (pc' := 79) (l' := [(0, .ref v0), (1, .ref v1), (2, .int v2), (3, .int v3)]) (st' := [.ref v0, .ref v0]) rfl ?_
    obtain ⟨x5, ex5, hf⟩ := mj_bd hf
    refine mj_get 48 rfl fl_X0_33 (mj_gI_V ex5) ?_
    refine mj_blk k_X0_ok 49 2 (pc' := 84) (l' := [(0, .ref v0), (1, .ref v1), (2, .int v2), (3, .int v3)]) (st' := [.int (x5 + (1 : Int32)), .ref v0]) rfl ?_
    obtain ⟨h6, eh6, hf⟩ := mj_bd hf
    refine mj_put 51 rfl fp_X0_33 (fun _ => ⟨rfl, rfl⟩) eh6 ?_
    refine mj_blk k_X0_ok 52 1 (pc' := 88) (l' := [(0, .ref v0), (1, .ref v1), (2, .int v2), (3, .int v3)]) (st' := [.int v2]) rfl ?_
    obtain rfl := Option.some.inj hf
    exact mj_end (some (.int v2)) ⟨mj_dec tok_X0_enrol (a := 53) rfl, .int, rfl, rfl⟩ ⟨rfl, rfl⟩ (Nat.le_of_ble_eq_true rfl) (Nat.le_of_ble_eq_true rfl)
  · have hf := (if_neg q).symm.trans hf
    refine mj_blk k_X0_ok 26 5 (pc' := 52) (l' := [(0, .ref v0), (1, .ref v1), (2, .int v2), (3, .int v3)]) (st' := [.int v3, .ref v1, .int v3, .int v2, .ref v0]) rfl ?_
    obtain ⟨x7, ex7, hf⟩ := mj_bd hf
    refine mj_iald 31 rfl ex7 ?_
    refine mj_blk k_X0_ok 32 1 (pc' := 54) (l' := [(0, .ref v0), (1, .ref v1), (2, .int v2), (3, .int v3)]) (st' := [.long ((x7).toInt64), .int v3, .int v2, .ref v0]) rfl ?_
    obtain ⟨gp8, hf⟩ := mj_gd hf
    obtain ⟨p8, ep8, hf⟩ := mj_bd hf
    refine mj_callV (T := TX0) (N := 7) (ci := 0) mX0_setWeight [.int v2, .int v3, .long ((x7).toInt64)] 33 rfl ll_X0_43 lb_X0_setWeight li_X0_setWeight ⟨Nat.le_of_ble_eq_true rfl, Nat.le_of_ble_eq_true rfl⟩ rfl gp8 rfl (rest := []) rfl (Nat.le_of_ble_eq_true rfl) ⟨Nat.le_of_ble_eq_true rfl, Nat.le_of_ble_eq_true rfl⟩ (c_X0_setWeight v0 v2 v3 ((x7).toInt64) h p8 ep8) ?_
    show mj_W mX0_enrol (mj_FI p) 57 [(0, .ref v0), (1, .ref v1), (2, .int v2), (3, .int v3)] [] p8 0 0
    refine mj_blk k_X0_ok 34 2 (pc' := 41) (l' := [(3, .int (v3 + (1 : Int32))), (0, .ref v0), (1, .ref v1), (2, .int v2)]) (st' := []) rfl ?_
    refine mj_locs [1, 2, 3, 0] (l' := [(0, .ref v0), (1, .ref v1), (2, .int v2), (3, .int (v3 + (1 : Int32)))]) rfl ?_
    exact hK41 v0 v1 v2 (v3 + (1 : Int32)) p8 _ hf
def f_X0_enrol_41 (v0 : Nat) (v1 : Nat) (v2 : Int32) (v3 : Int32) (h : mj_H) : Option (Int32 × mj_H) := mj_fix (fun (K41 : (Nat × Nat × Int32 × Int32 × mj_H) → Option (Int32 × mj_H)) (s : Nat × Nat × Int32 × Int32 × mj_H) => b_X0_enrol_41  (fun v0 v1 v2 v3 h => K41 (v0, v1, v2, v3, h)) s.1 s.2.1 s.2.2.1 s.2.2.2.1 s.2.2.2.2) 1000 (v0, v1, v2, v3, h)
set_option maxHeartbeats 4000000 in
set_option maxRecDepth 100000 in
theorem w_X0_enrol_41 (v0 : Nat) (v1 : Nat) (v2 : Int32) (v3 : Int32) (h : mj_H) (p : Int32 × mj_H) (hf : f_X0_enrol_41  v0 v1 v2 v3 h = some p) : mj_W mX0_enrol (mj_FI p) 41 [(0, .ref v0), (1, .ref v1), (2, .int v2), (3, .int v3)] [] h 0 0 := by
  unfold f_X0_enrol_41 at hf
  exact mj_fix_ind (F := (fun (K41 : (Nat × Nat × Int32 × Int32 × mj_H) → Option (Int32 × mj_H)) (s : Nat × Nat × Int32 × Int32 × mj_H) => b_X0_enrol_41  (fun v0 v1 v2 v3 h => K41 (v0, v1, v2, v3, h)) s.1 s.2.1 s.2.2.1 s.2.2.2.1 s.2.2.2.2)) (P := fun s p => mj_W mX0_enrol (mj_FI p) 41 [(0, .ref s.1), (1, .ref s.2.1), (2, .int s.2.2.1), (3, .int s.2.2.2.1)] [] s.2.2.2.2 0 0) (fun K41 hK41 s p hf => wb_X0_enrol_41   (fun v0 v1 v2 v3 h => K41 (v0, v1, v2, v3, h)) (fun v0 v1 v2 v3 h p e => hK41 (v0, v1, v2, v3, h) p e) s.1 s.2.1 s.2.2.1 s.2.2.2.1 s.2.2.2.2 p hf) 1000 (v0, v1, v2, v3, h) p hf
def f_X0_enrol (v0 : Nat) (v1 : Nat) (h : mj_H) : Option (Int32 × mj_H) := (mj_aL h v1).bind fun x9 => (if x9 = (6 : Int32) then (f_X0_areWeights v1 h).bind fun p10 => (if p10.1 = 0 then some ((-2 : Int32), p10.2) else (mj_gI p10.2 v0 0 4).bind fun x11 => (if x11 < 0 then some ((-4 : Int32), p10.2) else (if x11 < (6 : Int32) then f_X0_enrol_41 v0 v1 x11 (0 : Int32) p10.2 else some ((-4 : Int32), p10.2)))) else some ((-2 : Int32), h))
set_option maxHeartbeats 4000000 in
set_option maxRecDepth 100000 in
theorem c_X0_enrol (v0 : Nat) (v1 : Nat) (h : mj_H) (p : Int32 × mj_H) (hf : f_X0_enrol v0 v1 h = some p) : mj_Met mX0_enrol [.ref v0, .ref v1] h (some (.int p.1)) p.2 := by
  refine mj_met pl_X0 tok_X0_enrol (Nat.le_of_ble_eq_true rfl) ?_
  show mj_W mX0_enrol (mj_FI p) 0 [(0, .ref v0), (1, .ref v1)] [] h 0 0
  unfold f_X0_enrol at hf
  refine mj_blk k_X0_ok 0 1 (pc' := 1) (l' := [(0, .ref v0), (1, .ref v1)]) (st' := [.ref v1]) rfl ?_
  refine mj_ifnull 1 rfl ?_
  refine mj_blk k_X0_ok 2 1 (pc' := 5) (l' := [(0, .ref v0), (1, .ref v1)]) (st' := [.ref v1]) rfl ?_
  obtain ⟨x9, ex9, hf⟩ := mj_bd hf
  refine mj_alen 3 rfl ex9 ?_
  refine mj_blk k_X0_ok 4 1 (pc' := 8) (l' := [(0, .ref v0), (1, .ref v1)]) (st' := [.int (6 : Int32), .int x9]) rfl ?_
  refine mj_icmp_ne 5 18 rfl (by decide) (fun q => ?_) (fun q => ?_)
  · have hf := (if_neg q).symm.trans hf
    refine mj_blk k_X0_ok 9 1 (pc' := 20) (l' := [(0, .ref v0), (1, .ref v1)]) (st' := [.int (-2 : Int32)]) rfl ?_
    obtain rfl := Option.some.inj hf
    exact mj_end (some (.int (-2 : Int32))) ⟨mj_dec tok_X0_enrol (a := 10) rfl, .int, rfl, rfl⟩ ⟨rfl, rfl⟩ (Nat.le_of_ble_eq_true rfl) (Nat.le_of_ble_eq_true rfl)
  · have hf := (if_pos q).symm.trans hf
    refine mj_blk k_X0_ok 6 1 (pc' := 12) (l' := [(0, .ref v0), (1, .ref v1)]) (st' := [.ref v1]) rfl ?_
    obtain ⟨p10, ep10, hf⟩ := mj_bd hf
    refine mj_callS mX0_areWeights [.ref v1] 7 rfl ll_X0_39 lb_X0_areWeights li_X0_areWeights ⟨Nat.le_of_ble_eq_true rfl, Nat.le_of_ble_eq_true rfl⟩ rfl (rest := []) rfl (Nat.le_of_ble_eq_true rfl) ⟨Nat.le_of_ble_eq_true rfl, Nat.le_of_ble_eq_true rfl⟩ (c_X0_areWeights v1 h p10 ep10) ?_
    show mj_W mX0_enrol (mj_FI p) 15 [(0, .ref v0), (1, .ref v1)] [.int p10.1] p10.2 0 0
    refine mj_if_ne 8 21 rfl (by decide) (fun q => ?_) (fun q => ?_)
    · have hf := (if_neg q).symm.trans hf
      refine mj_blk k_X0_ok 11 1 (pc' := 22) (l' := [(0, .ref v0), (1, .ref v1)]) (st' := [.ref v0]) rfl ?_
      obtain ⟨x11, ex11, hf⟩ := mj_bd hf
      refine mj_get 12 rfl fl_X0_33 (mj_gI_V ex11) ?_
      refine mj_blk k_X0_ok 13 2 (pc' := 27) (l' := [(2, .int x11), (0, .ref v0), (1, .ref v1)]) (st' := [.int x11]) rfl ?_
      refine mj_if_lt 15 36 rfl (by decide) (fun q => ?_) (fun q => ?_)
      · have hf := (if_pos q).symm.trans hf
        refine mj_blk k_X0_ok 19 1 (pc' := 38) (l' := [(2, .int x11), (0, .ref v0), (1, .ref v1)]) (st' := [.int (-4 : Int32)]) rfl ?_
        obtain rfl := Option.some.inj hf
        exact mj_end (some (.int (-4 : Int32))) ⟨mj_dec tok_X0_enrol (a := 20) rfl, .int, rfl, rfl⟩ ⟨rfl, rfl⟩ (Nat.le_of_ble_eq_true rfl) (Nat.le_of_ble_eq_true rfl)
      · have hf := (if_neg q).symm.trans hf
        refine mj_blk k_X0_ok 16 2 (pc' := 33) (l' := [(2, .int x11), (0, .ref v0), (1, .ref v1)]) (st' := [.int (6 : Int32), .int x11]) rfl ?_
        refine mj_icmp_lt 18 39 rfl (by decide) (fun q => ?_) (fun q => ?_)
        · have hf := (if_pos q).symm.trans hf
          refine mj_blk k_X0_ok 21 2 (pc' := 41) (l' := [(3, .int (0 : Int32)), (2, .int x11), (0, .ref v0), (1, .ref v1)]) (st' := []) rfl ?_
          refine mj_locs [2, 3, 1, 0] (l' := [(0, .ref v0), (1, .ref v1), (2, .int x11), (3, .int (0 : Int32))]) rfl ?_
          exact w_X0_enrol_41 v0 v1 x11 (0 : Int32) p10.2 _ hf
        · have hf := (if_neg q).symm.trans hf
          refine mj_blk k_X0_ok 19 1 (pc' := 38) (l' := [(2, .int x11), (0, .ref v0), (1, .ref v1)]) (st' := [.int (-4 : Int32)]) rfl ?_
          obtain rfl := Option.some.inj hf
          exact mj_end (some (.int (-4 : Int32))) ⟨mj_dec tok_X0_enrol (a := 20) rfl, .int, rfl, rfl⟩ ⟨rfl, rfl⟩ (Nat.le_of_ble_eq_true rfl) (Nat.le_of_ble_eq_true rfl)
    · have hf := (if_pos q).symm.trans hf
      refine mj_blk k_X0_ok 9 1 (pc' := 20) (l' := [(0, .ref v0), (1, .ref v1)]) (st' := [.int (-2 : Int32)]) rfl ?_
      obtain rfl := Option.some.inj hf
      exact mj_end (some (.int (-2 : Int32))) ⟨mj_dec tok_X0_enrol (a := 10) rfl, .int, rfl, rfl⟩ ⟨rfl, rfl⟩ (Nat.le_of_ble_eq_true rfl) (Nat.le_of_ble_eq_true rfl)
def f_X0_dress (v0 : Nat) (v1 : Int32) (v2 : Int32) (h : mj_H) : Option (Int32 × mj_H) := (if mj_ob h v0 0 = true then (f_X0_has v0 v1 h).bind fun p1 => (if p1.1 = 0 then some ((-2 : Int32), p1.2) else (mj_gR p1.2 v0 0 1).bind fun x2 => (mj_aL p1.2 x2).bind fun x3 => (if x3 ≤ v1 then some ((-2 : Int32), p1.2) else (if v2 < 0 then some ((-2 : Int32), p1.2) else (if v2 ≤ (31 : Int32) then (mj_gR p1.2 v0 0 1).bind fun x4 => (mj_aI p1.2 x4 v1).bind fun x5 => (mj_gR p1.2 v0 0 1).bind fun x6 => (mj_uI p1.2 x6 v1 v2).bind fun h7 => some (x5, h7) else some ((-2 : Int32), p1.2))))) else none)
set_option maxHeartbeats 4000000 in
set_option maxRecDepth 100000 in
theorem c_X0_dress (v0 : Nat) (v1 : Int32) (v2 : Int32) (h : mj_H) (p : Int32 × mj_H) (hf : f_X0_dress v0 v1 v2 h = some p) : mj_Met mX0_dress [.ref v0, .int v1, .int v2] h (some (.int p.1)) p.2 := by
  refine mj_met pl_X0 tok_X0_dress (Nat.le_of_ble_eq_true rfl) ?_
  show mj_W mX0_dress (mj_FI p) 0 [(0, .ref v0), (1, .int v1), (2, .int v2)] [] h 0 0
  unfold f_X0_dress at hf
  refine mj_blk k_X0_ok 0 2 (pc' := 2) (l' := [(0, .ref v0), (1, .int v1), (2, .int v2)]) (st' := [.int v1, .ref v0]) rfl ?_
  obtain ⟨gp1, hf⟩ := mj_gd hf
  obtain ⟨p1, ep1, hf⟩ := mj_bd hf
  refine mj_callV (T := TX0) (N := 7) (ci := 0) mX0_has [.int v1] 2 rfl ll_X0_47 lb_X0_has li_X0_has ⟨Nat.le_of_ble_eq_true rfl, Nat.le_of_ble_eq_true rfl⟩ rfl gp1 rfl (rest := []) rfl (Nat.le_of_ble_eq_true rfl) ⟨Nat.le_of_ble_eq_true rfl, Nat.le_of_ble_eq_true rfl⟩ (c_X0_has v0 v1 h p1 ep1) ?_
  show mj_W mX0_dress (mj_FI p) 5 [(0, .ref v0), (1, .int v1), (2, .int v2)] [.int p1.1] p1.2 0 0
  refine mj_if_eq 3 27 rfl (by decide) (fun q => ?_) (fun q => ?_)
  · have hf := (if_pos q).symm.trans hf
    refine mj_blk k_X0_ok 14 1 (pc' := 29) (l' := [(0, .ref v0), (1, .int v1), (2, .int v2)]) (st' := [.int (-2 : Int32)]) rfl ?_
    obtain rfl := Option.some.inj hf
    exact mj_end (some (.int (-2 : Int32))) ⟨mj_dec tok_X0_dress (a := 15) rfl, .int, rfl, rfl⟩ ⟨rfl, rfl⟩ (Nat.le_of_ble_eq_true rfl) (Nat.le_of_ble_eq_true rfl)
  · have hf := (if_neg q).symm.trans hf
    refine mj_blk k_X0_ok 4 2 (pc' := 10) (l' := [(0, .ref v0), (1, .int v1), (2, .int v2)]) (st' := [.ref v0, .int v1]) rfl ?_
    obtain ⟨x2, ex2, hf⟩ := mj_bd hf
    refine mj_get 6 rfl fl_X0_15 (mj_gR_V ex2) ?_
    obtain ⟨x3, ex3, hf⟩ := mj_bd hf
    refine mj_alen 7 rfl ex3 ?_
    refine mj_icmp_ge 8 27 rfl (by decide) (fun q => ?_) (fun q => ?_)
    · have hf := (if_pos q).symm.trans hf
      refine mj_blk k_X0_ok 14 1 (pc' := 29) (l' := [(0, .ref v0), (1, .int v1), (2, .int v2)]) (st' := [.int (-2 : Int32)]) rfl ?_
      obtain rfl := Option.some.inj hf
      exact mj_end (some (.int (-2 : Int32))) ⟨mj_dec tok_X0_dress (a := 15) rfl, .int, rfl, rfl⟩ ⟨rfl, rfl⟩ (Nat.le_of_ble_eq_true rfl) (Nat.le_of_ble_eq_true rfl)
    · have hf := (if_neg q).symm.trans hf
      refine mj_blk k_X0_ok 9 1 (pc' := 18) (l' := [(0, .ref v0), (1, .int v1), (2, .int v2)]) (st' := [.int v2]) rfl ?_
      refine mj_if_lt 10 27 rfl (by decide) (fun q => ?_) (fun q => ?_)
      · have hf := (if_pos q).symm.trans hf
        refine mj_blk k_X0_ok 14 1 (pc' := 29) (l' := [(0, .ref v0), (1, .int v1), (2, .int v2)]) (st' := [.int (-2 : Int32)]) rfl ?_
        obtain rfl := Option.some.inj hf
        exact mj_end (some (.int (-2 : Int32))) ⟨mj_dec tok_X0_dress (a := 15) rfl, .int, rfl, rfl⟩ ⟨rfl, rfl⟩ (Nat.le_of_ble_eq_true rfl) (Nat.le_of_ble_eq_true rfl)
      · have hf := (if_neg q).symm.trans hf
        refine mj_blk k_X0_ok 11 2 (pc' := 24) (l' := [(0, .ref v0), (1, .int v1), (2, .int v2)]) (st' := [.int (31 : Int32), .int v2]) rfl ?_
        refine mj_icmp_le 13 30 rfl (by decide) (fun q => ?_) (fun q => ?_)
        · have hf := (if_pos q).symm.trans hf
          refine mj_blk k_X0_ok 16 1 (pc' := 31) (l' := [(0, .ref v0), (1, .int v1), (2, .int v2)]) (st' := [.ref v0]) rfl ?_
          obtain ⟨x4, ex4, hf⟩ := mj_bd hf
          refine mj_get 17 rfl fl_X0_15 (mj_gR_V ex4) ?_
          refine mj_blk k_X0_ok 18 1 (pc' := 35) (l' := [(0, .ref v0), (1, .int v1), (2, .int v2)]) (st' := [.int v1, .ref x4]) rfl ?_
          obtain ⟨x5, ex5, hf⟩ := mj_bd hf
          refine mj_iald 19 rfl ex5 ?_
          refine mj_blk k_X0_ok 20 2 (pc' := 38) (l' := [(3, .int x5), (0, .ref v0), (1, .int v1), (2, .int v2)]) (st' := [.ref v0]) rfl ?_
          obtain ⟨x6, ex6, hf⟩ := mj_bd hf
          refine mj_get 22 rfl fl_X0_15 (mj_gR_V ex6) ?_
          refine mj_blk k_X0_ok 23 2 (pc' := 43) (l' := [(3, .int x5), (0, .ref v0), (1, .int v1), (2, .int v2)]) (st' := [.int v2, .int v1, .ref x6]) rfl ?_
          obtain ⟨h7, eh7, hf⟩ := mj_bd hf
          refine mj_iast 25 rfl eh7 ?_
          refine mj_blk k_X0_ok 26 1 (pc' := 45) (l' := [(3, .int x5), (0, .ref v0), (1, .int v1), (2, .int v2)]) (st' := [.int x5]) rfl ?_
          obtain rfl := Option.some.inj hf
          exact mj_end (some (.int x5)) ⟨mj_dec tok_X0_dress (a := 27) rfl, .int, rfl, rfl⟩ ⟨rfl, rfl⟩ (Nat.le_of_ble_eq_true rfl) (Nat.le_of_ble_eq_true rfl)
        · have hf := (if_neg q).symm.trans hf
          refine mj_blk k_X0_ok 14 1 (pc' := 29) (l' := [(0, .ref v0), (1, .int v1), (2, .int v2)]) (st' := [.int (-2 : Int32)]) rfl ?_
          obtain rfl := Option.some.inj hf
          exact mj_end (some (.int (-2 : Int32))) ⟨mj_dec tok_X0_dress (a := 15) rfl, .int, rfl, rfl⟩ ⟨rfl, rfl⟩ (Nat.le_of_ble_eq_true rfl) (Nat.le_of_ble_eq_true rfl)
def f_X0_brothersOf (v0 : Nat) (v1 : Int32) (h : mj_H) : Option (Int32 × mj_H) := (if v1 < 0 then some ((0 : Int32), h) else (mj_gR h v0 0 2).bind fun x1 => (mj_aL h x1).bind fun x2 => (if x2 ≤ v1 then some ((0 : Int32), h) else (mj_gR h v0 0 2).bind fun x3 => (mj_aI h x3 v1).bind fun x4 => some (x4, h)))
set_option maxHeartbeats 4000000 in
set_option maxRecDepth 100000 in
theorem c_X0_brothersOf (v0 : Nat) (v1 : Int32) (h : mj_H) (p : Int32 × mj_H) (hf : f_X0_brothersOf v0 v1 h = some p) : mj_Met mX0_brothersOf [.ref v0, .int v1] h (some (.int p.1)) p.2 := by
  refine mj_met pl_X0 tok_X0_brothersOf (Nat.le_of_ble_eq_true rfl) ?_
  show mj_W mX0_brothersOf (mj_FI p) 0 [(0, .ref v0), (1, .int v1)] [] h 0 0
  unfold f_X0_brothersOf at hf
  refine mj_blk k_X0_ok 0 1 (pc' := 1) (l' := [(0, .ref v0), (1, .int v1)]) (st' := [.int v1]) rfl ?_
  refine mj_if_lt 1 22 rfl (by decide) (fun q => ?_) (fun q => ?_)
  · have hf := (if_pos q).symm.trans hf
    refine mj_blk k_X0_ok 12 1 (pc' := 23) (l' := [(0, .ref v0), (1, .int v1)]) (st' := [.int (0 : Int32)]) rfl ?_
    obtain rfl := Option.some.inj hf
    exact mj_end (some (.int (0 : Int32))) ⟨mj_dec tok_X0_brothersOf (a := 13) rfl, .int, rfl, rfl⟩ ⟨rfl, rfl⟩ (Nat.le_of_ble_eq_true rfl) (Nat.le_of_ble_eq_true rfl)
  · have hf := (if_neg q).symm.trans hf
    refine mj_blk k_X0_ok 2 2 (pc' := 6) (l' := [(0, .ref v0), (1, .int v1)]) (st' := [.ref v0, .int v1]) rfl ?_
    obtain ⟨x1, ex1, hf⟩ := mj_bd hf
    refine mj_get 4 rfl fl_X0_19 (mj_gR_V ex1) ?_
    obtain ⟨x2, ex2, hf⟩ := mj_bd hf
    refine mj_alen 5 rfl ex2 ?_
    refine mj_icmp_ge 6 22 rfl (by decide) (fun q => ?_) (fun q => ?_)
    · have hf := (if_pos q).symm.trans hf
      refine mj_blk k_X0_ok 12 1 (pc' := 23) (l' := [(0, .ref v0), (1, .int v1)]) (st' := [.int (0 : Int32)]) rfl ?_
      obtain rfl := Option.some.inj hf
      exact mj_end (some (.int (0 : Int32))) ⟨mj_dec tok_X0_brothersOf (a := 13) rfl, .int, rfl, rfl⟩ ⟨rfl, rfl⟩ (Nat.le_of_ble_eq_true rfl) (Nat.le_of_ble_eq_true rfl)
    · have hf := (if_neg q).symm.trans hf
      refine mj_blk k_X0_ok 7 1 (pc' := 14) (l' := [(0, .ref v0), (1, .int v1)]) (st' := [.ref v0]) rfl ?_
      obtain ⟨x3, ex3, hf⟩ := mj_bd hf
      refine mj_get 8 rfl fl_X0_19 (mj_gR_V ex3) ?_
      refine mj_blk k_X0_ok 9 1 (pc' := 18) (l' := [(0, .ref v0), (1, .int v1)]) (st' := [.int v1, .ref x3]) rfl ?_
      obtain ⟨x4, ex4, hf⟩ := mj_bd hf
      refine mj_iald 10 rfl ex4 ?_
      refine mj_blk k_X0_ok 11 1 (pc' := 23) (l' := [(0, .ref v0), (1, .int v1)]) (st' := [.int x4]) rfl ?_
      obtain rfl := Option.some.inj hf
      exact mj_end (some (.int x4)) ⟨mj_dec tok_X0_brothersOf (a := 13) rfl, .int, rfl, rfl⟩ ⟨rfl, rfl⟩ (Nat.le_of_ble_eq_true rfl) (Nat.le_of_ble_eq_true rfl)
def f_X8_isIn (v0 : Int32) (v1 : Int32) (h : mj_H) : Option (Int32 × mj_H) := (if ((v0 >>> (v1 &&& 31)) &&& (1 : Int32)) = (1 : Int32) then some ((1 : Int32), h) else some ((0 : Int32), h))
set_option maxHeartbeats 4000000 in
set_option maxRecDepth 100000 in
theorem c_X8_isIn (v0 : Int32) (v1 : Int32) (h : mj_H) (p : Int32 × mj_H) (hf : f_X8_isIn v0 v1 h = some p) : mj_Met mX8_isIn [.int v0, .int v1] h (some (.int p.1)) p.2 := by
  refine mj_met pl_X8 tok_X8_isIn (Nat.le_of_ble_eq_true rfl) ?_
  show mj_W mX8_isIn (mj_FI p) 0 [(0, .int v0), (1, .int v1)] [] h 0 0
  unfold f_X8_isIn at hf
  refine mj_blk k_X8_ok 0 6 (pc' := 6) (l' := [(0, .int v0), (1, .int v1)]) (st' := [.int (1 : Int32), .int ((v0 >>> (v1 &&& 31)) &&& (1 : Int32))]) rfl ?_
  refine mj_icmp_ne 6 13 rfl (by decide) (fun q => ?_) (fun q => ?_)
  · have hf := (if_neg q).symm.trans hf
    refine mj_blk k_X8_ok 9 1 (pc' := 14) (l' := [(0, .int v0), (1, .int v1)]) (st' := [.int (0 : Int32)]) rfl ?_
    obtain rfl := Option.some.inj hf
    exact mj_end (some (.int (0 : Int32))) ⟨mj_dec tok_X8_isIn (a := 10) rfl, .boolean, rfl, rfl⟩ ⟨rfl, rfl⟩ (Nat.le_of_ble_eq_true rfl) (Nat.le_of_ble_eq_true rfl)
  · have hf := (if_pos q).symm.trans hf
    refine mj_blk k_X8_ok 7 2 (pc' := 14) (l' := [(0, .int v0), (1, .int v1)]) (st' := [.int (1 : Int32)]) rfl ?_
    obtain rfl := Option.some.inj hf
    exact mj_end (some (.int (1 : Int32))) ⟨mj_dec tok_X8_isIn (a := 10) rfl, .boolean, rfl, rfl⟩ ⟨rfl, rfl⟩ (Nat.le_of_ble_eq_true rfl) (Nat.le_of_ble_eq_true rfl)
def f_X0_areBrothers (v0 : Nat) (v1 : Int32) (v2 : Int32) (h : mj_H) : Option (Int32 × mj_H) := (if mj_ob h v0 0 = true then (f_X0_brothersOf v0 v1 h).bind fun p1 => (f_X8_isIn p1.1 v2 p1.2).bind fun p2 => (if p2.1 = 0 ∨ p2.1 = 1 then some (p2.1, p2.2) else none) else none)
set_option maxHeartbeats 4000000 in
set_option maxRecDepth 100000 in
theorem c_X0_areBrothers (v0 : Nat) (v1 : Int32) (v2 : Int32) (h : mj_H) (p : Int32 × mj_H) (hf : f_X0_areBrothers v0 v1 v2 h = some p) : mj_Met mX0_areBrothers [.ref v0, .int v1, .int v2] h (some (.int p.1)) p.2 := by
  refine mj_met pl_X0 tok_X0_areBrothers (Nat.le_of_ble_eq_true rfl) ?_
  show mj_W mX0_areBrothers (mj_FI p) 0 [(0, .ref v0), (1, .int v1), (2, .int v2)] [] h 0 0
  unfold f_X0_areBrothers at hf
  refine mj_blk k_X0_ok 0 2 (pc' := 2) (l' := [(0, .ref v0), (1, .int v1), (2, .int v2)]) (st' := [.int v1, .ref v0]) rfl ?_
  obtain ⟨gp1, hf⟩ := mj_gd hf
  obtain ⟨p1, ep1, hf⟩ := mj_bd hf
  refine mj_callV (T := TX0) (N := 7) (ci := 0) mX0_brothersOf [.int v1] 2 rfl ll_X0_61 lb_X0_brothersOf li_X0_brothersOf ⟨Nat.le_of_ble_eq_true rfl, Nat.le_of_ble_eq_true rfl⟩ rfl gp1 rfl (rest := []) rfl (Nat.le_of_ble_eq_true rfl) ⟨Nat.le_of_ble_eq_true rfl, Nat.le_of_ble_eq_true rfl⟩ (c_X0_brothersOf v0 v1 h p1 ep1) ?_
  show mj_W mX0_areBrothers (mj_FI p) 5 [(0, .ref v0), (1, .int v1), (2, .int v2)] [.int p1.1] p1.2 0 0
  refine mj_blk k_X0_ok 3 1 (pc' := 6) (l' := [(0, .ref v0), (1, .int v1), (2, .int v2)]) (st' := [.int v2, .int p1.1]) rfl ?_
  obtain ⟨p2, ep2, hf⟩ := mj_bd hf
  refine mj_callS mX8_isIn [.int p1.1, .int v2] 4 rfl ll_X0_58 lb_X8_isIn li_X8_isIn ⟨Nat.le_of_ble_eq_true rfl, Nat.le_of_ble_eq_true rfl⟩ rfl (rest := []) rfl (Nat.le_of_ble_eq_true rfl) ⟨Nat.le_of_ble_eq_true rfl, Nat.le_of_ble_eq_true rfl⟩ (c_X8_isIn p1.1 v2 p1.2 p2 ep2) ?_
  show mj_W mX0_areBrothers (mj_FI p) 9 [(0, .ref v0), (1, .int v1), (2, .int v2)] [.int p2.1] p2.2 0 0
  obtain ⟨g, hf⟩ := mj_gp hf
  obtain rfl := Option.some.inj hf
  exact mj_end (some (.int p2.1)) ⟨mj_dec tok_X0_areBrothers (a := 5) rfl, .boolean, rfl, mj_bool g⟩ ⟨rfl, rfl⟩ (Nat.le_of_ble_eq_true rfl) (Nat.le_of_ble_eq_true rfl)
def f_X0_bind (v0 : Nat) (v1 : Int32) (v2 : Int32) (h : mj_H) : Option (Int32 × mj_H) := (if mj_ob h v0 0 = true then (f_X0_has v0 v1 h).bind fun p1 => (if p1.1 = 0 then some ((-2 : Int32), p1.2) else (if mj_ob p1.2 v0 0 = true then (f_X0_has v0 v2 p1.2).bind fun p2 => (if p2.1 = 0 then some ((-2 : Int32), p2.2) else (if v1 = v2 then some ((-2 : Int32), p2.2) else (mj_gR p2.2 v0 0 2).bind fun x3 => (mj_aL p2.2 x3).bind fun x4 => (if x4 ≤ v1 then some ((-2 : Int32), p2.2) else (mj_gR p2.2 v0 0 2).bind fun x5 => (mj_aL p2.2 x5).bind fun x6 => (if v2 < x6 then (if mj_ob p2.2 v0 0 = true then (f_X0_areBrothers v0 v1 v2 p2.2).bind fun p7 => (if p7.1 = 0 then (mj_gR p7.2 v0 0 2).bind fun x8 => (mj_aI p7.2 x8 v1).bind fun x9 => (mj_uI p7.2 x8 v1 (x9 ||| ((1 : Int32) <<< (v2 &&& 31)))).bind fun h10 => (mj_gR h10 v0 0 2).bind fun x11 => (mj_aI h10 x11 v2).bind fun x12 => (mj_uI h10 x11 v2 (x12 ||| ((1 : Int32) <<< (v1 &&& 31)))).bind fun h13 => some ((1 : Int32), h13) else some ((-3 : Int32), p7.2)) else none) else some ((-2 : Int32), p2.2))))) else none)) else none)
set_option maxHeartbeats 4000000 in
set_option maxRecDepth 100000 in
theorem c_X0_bind (v0 : Nat) (v1 : Int32) (v2 : Int32) (h : mj_H) (p : Int32 × mj_H) (hf : f_X0_bind v0 v1 v2 h = some p) : mj_Met mX0_bind [.ref v0, .int v1, .int v2] h (some (.int p.1)) p.2 := by
  refine mj_met pl_X0 tok_X0_bind (Nat.le_of_ble_eq_true rfl) ?_
  show mj_W mX0_bind (mj_FI p) 0 [(0, .ref v0), (1, .int v1), (2, .int v2)] [] h 0 0
  unfold f_X0_bind at hf
  refine mj_blk k_X0_ok 0 2 (pc' := 2) (l' := [(0, .ref v0), (1, .int v1), (2, .int v2)]) (st' := [.int v1, .ref v0]) rfl ?_
  obtain ⟨gp1, hf⟩ := mj_gd hf
  obtain ⟨p1, ep1, hf⟩ := mj_bd hf
  refine mj_callV (T := TX0) (N := 7) (ci := 0) mX0_has [.int v1] 2 rfl ll_X0_47 lb_X0_has li_X0_has ⟨Nat.le_of_ble_eq_true rfl, Nat.le_of_ble_eq_true rfl⟩ rfl gp1 rfl (rest := []) rfl (Nat.le_of_ble_eq_true rfl) ⟨Nat.le_of_ble_eq_true rfl, Nat.le_of_ble_eq_true rfl⟩ (c_X0_has v0 v1 h p1 ep1) ?_
  show mj_W mX0_bind (mj_FI p) 5 [(0, .ref v0), (1, .int v1), (2, .int v2)] [.int p1.1] p1.2 0 0
  refine mj_if_eq 3 39 rfl (by decide) (fun q => ?_) (fun q => ?_)
  · have hf := (if_pos q).symm.trans hf
    refine mj_blk k_X0_ok 21 1 (pc' := 41) (l' := [(0, .ref v0), (1, .int v1), (2, .int v2)]) (st' := [.int (-2 : Int32)]) rfl ?_
    obtain rfl := Option.some.inj hf
    exact mj_end (some (.int (-2 : Int32))) ⟨mj_dec tok_X0_bind (a := 22) rfl, .int, rfl, rfl⟩ ⟨rfl, rfl⟩ (Nat.le_of_ble_eq_true rfl) (Nat.le_of_ble_eq_true rfl)
  · have hf := (if_neg q).symm.trans hf
    refine mj_blk k_X0_ok 4 2 (pc' := 10) (l' := [(0, .ref v0), (1, .int v1), (2, .int v2)]) (st' := [.int v2, .ref v0]) rfl ?_
    obtain ⟨gp2, hf⟩ := mj_gd hf
    obtain ⟨p2, ep2, hf⟩ := mj_bd hf
    refine mj_callV (T := TX0) (N := 7) (ci := 0) mX0_has [.int v2] 6 rfl ll_X0_47 lb_X0_has li_X0_has ⟨Nat.le_of_ble_eq_true rfl, Nat.le_of_ble_eq_true rfl⟩ rfl gp2 rfl (rest := []) rfl (Nat.le_of_ble_eq_true rfl) ⟨Nat.le_of_ble_eq_true rfl, Nat.le_of_ble_eq_true rfl⟩ (c_X0_has v0 v2 p1.2 p2 ep2) ?_
    show mj_W mX0_bind (mj_FI p) 13 [(0, .ref v0), (1, .int v1), (2, .int v2)] [.int p2.1] p2.2 0 0
    refine mj_if_eq 7 39 rfl (by decide) (fun q => ?_) (fun q => ?_)
    · have hf := (if_pos q).symm.trans hf
      refine mj_blk k_X0_ok 21 1 (pc' := 41) (l' := [(0, .ref v0), (1, .int v1), (2, .int v2)]) (st' := [.int (-2 : Int32)]) rfl ?_
      obtain rfl := Option.some.inj hf
      exact mj_end (some (.int (-2 : Int32))) ⟨mj_dec tok_X0_bind (a := 22) rfl, .int, rfl, rfl⟩ ⟨rfl, rfl⟩ (Nat.le_of_ble_eq_true rfl) (Nat.le_of_ble_eq_true rfl)
    · have hf := (if_neg q).symm.trans hf
      refine mj_blk k_X0_ok 8 2 (pc' := 18) (l' := [(0, .ref v0), (1, .int v1), (2, .int v2)]) (st' := [.int v2, .int v1]) rfl ?_
      refine mj_icmp_eq 10 39 rfl (by decide) (fun q => ?_) (fun q => ?_)
      · have hf := (if_pos q).symm.trans hf
        refine mj_blk k_X0_ok 21 1 (pc' := 41) (l' := [(0, .ref v0), (1, .int v1), (2, .int v2)]) (st' := [.int (-2 : Int32)]) rfl ?_
        obtain rfl := Option.some.inj hf
        exact mj_end (some (.int (-2 : Int32))) ⟨mj_dec tok_X0_bind (a := 22) rfl, .int, rfl, rfl⟩ ⟨rfl, rfl⟩ (Nat.le_of_ble_eq_true rfl) (Nat.le_of_ble_eq_true rfl)
      · have hf := (if_neg q).symm.trans hf
        refine mj_blk k_X0_ok 11 2 (pc' := 23) (l' := [(0, .ref v0), (1, .int v1), (2, .int v2)]) (st' := [.ref v0, .int v1]) rfl ?_
        obtain ⟨x3, ex3, hf⟩ := mj_bd hf
        refine mj_get 13 rfl fl_X0_19 (mj_gR_V ex3) ?_
        obtain ⟨x4, ex4, hf⟩ := mj_bd hf
        refine mj_alen 14 rfl ex4 ?_
        refine mj_icmp_ge 15 39 rfl (by decide) (fun q => ?_) (fun q => ?_)
        · have hf := (if_pos q).symm.trans hf
          refine mj_blk k_X0_ok 21 1 (pc' := 41) (l' := [(0, .ref v0), (1, .int v1), (2, .int v2)]) (st' := [.int (-2 : Int32)]) rfl ?_
          obtain rfl := Option.some.inj hf
          exact mj_end (some (.int (-2 : Int32))) ⟨mj_dec tok_X0_bind (a := 22) rfl, .int, rfl, rfl⟩ ⟨rfl, rfl⟩ (Nat.le_of_ble_eq_true rfl) (Nat.le_of_ble_eq_true rfl)
        · have hf := (if_neg q).symm.trans hf
          refine mj_blk k_X0_ok 16 2 (pc' := 32) (l' := [(0, .ref v0), (1, .int v1), (2, .int v2)]) (st' := [.ref v0, .int v2]) rfl ?_
          obtain ⟨x5, ex5, hf⟩ := mj_bd hf
          refine mj_get 18 rfl fl_X0_19 (mj_gR_V ex5) ?_
          obtain ⟨x6, ex6, hf⟩ := mj_bd hf
          refine mj_alen 19 rfl ex6 ?_
          refine mj_icmp_lt 20 42 rfl (by decide) (fun q => ?_) (fun q => ?_)
          · have hf := (if_pos q).symm.trans hf
            refine mj_blk k_X0_ok 23 3 (pc' := 45) (l' := [(0, .ref v0), (1, .int v1), (2, .int v2)]) (st' := [.int v2, .int v1, .ref v0]) rfl ?_
            obtain ⟨gp7, hf⟩ := mj_gd hf
            obtain ⟨p7, ep7, hf⟩ := mj_bd hf
            refine mj_callV (T := TX0) (N := 7) (ci := 0) mX0_areBrothers [.int v1, .int v2] 26 rfl ll_X0_51 lb_X0_areBrothers li_X0_areBrothers ⟨Nat.le_of_ble_eq_true rfl, Nat.le_of_ble_eq_true rfl⟩ rfl gp7 rfl (rest := []) rfl (Nat.le_of_ble_eq_true rfl) ⟨Nat.le_of_ble_eq_true rfl, Nat.le_of_ble_eq_true rfl⟩ (c_X0_areBrothers v0 v1 v2 p2.2 p7 ep7) ?_
            show mj_W mX0_bind (mj_FI p) 48 [(0, .ref v0), (1, .int v1), (2, .int v2)] [.int p7.1] p7.2 0 0
            refine mj_if_eq 27 54 rfl (by decide) (fun q => ?_) (fun q => ?_)
            · have hf := (if_pos q).symm.trans hf
              refine mj_blk k_X0_ok 30 1 (pc' := 55) (l' := [(0, .ref v0), (1, .int v1), (2, .int v2)]) (st' := [.ref v0]) rfl ?_
              obtain ⟨x8, ex8, hf⟩ := mj_bd hf
              refine mj_get 31 rfl fl_X0_19 (mj_gR_V ex8) ?_
              refine mj_blk k_X0_ok 32 2 (pc' := 60) (l' := [(0, .ref v0), (1, .int v1), (2, .int v2)]) (st' := [.int v1, .ref x8, .int v1, .ref x8]) rfl ?_
              obtain ⟨x9, ex9, hf⟩ := mj_bd hf
              refine mj_iald 34 rfl ex9 ?_
              refine mj_blk k_X0_ok 35 4 (pc' := 65) (l' := [(0, .ref v0), (1, .int v1), (2, .int v2)]) (st' := [.int (x9 ||| ((1 : Int32) <<< (v2 &&& 31))), .int v1, .ref x8]) rfl ?_
              obtain ⟨h10, eh10, hf⟩ := mj_bd hf
              refine mj_iast 39 rfl eh10 ?_
              refine mj_blk k_X0_ok 40 1 (pc' := 67) (l' := [(0, .ref v0), (1, .int v1), (2, .int v2)]) (st' := [.ref v0]) rfl ?_
              obtain ⟨x11, ex11, hf⟩ := mj_bd hf
              refine mj_get 41 rfl fl_X0_19 (mj_gR_V ex11) ?_
              refine mj_blk k_X0_ok 42 2 (pc' := 72) (l' := [(0, .ref v0), (1, .int v1), (2, .int v2)]) (st' := [.int v2, .ref x11, .int v2, .ref x11]) rfl ?_
              obtain ⟨x12, ex12, hf⟩ := mj_bd hf
              refine mj_iald 44 rfl ex12 ?_
              refine mj_blk k_X0_ok 45 4 (pc' := 77) (l' := [(0, .ref v0), (1, .int v1), (2, .int v2)]) (st' := [.int (x12 ||| ((1 : Int32) <<< (v1 &&& 31))), .int v2, .ref x11]) rfl ?_
              obtain ⟨h13, eh13, hf⟩ := mj_bd hf
              refine mj_iast 49 rfl eh13 ?_
              refine mj_blk k_X0_ok 50 1 (pc' := 79) (l' := [(0, .ref v0), (1, .int v1), (2, .int v2)]) (st' := [.int (1 : Int32)]) rfl ?_
              obtain rfl := Option.some.inj hf
              exact mj_end (some (.int (1 : Int32))) ⟨mj_dec tok_X0_bind (a := 51) rfl, .int, rfl, rfl⟩ ⟨rfl, rfl⟩ (Nat.le_of_ble_eq_true rfl) (Nat.le_of_ble_eq_true rfl)
            · have hf := (if_neg q).symm.trans hf
              refine mj_blk k_X0_ok 28 1 (pc' := 53) (l' := [(0, .ref v0), (1, .int v1), (2, .int v2)]) (st' := [.int (-3 : Int32)]) rfl ?_
              obtain rfl := Option.some.inj hf
              exact mj_end (some (.int (-3 : Int32))) ⟨mj_dec tok_X0_bind (a := 29) rfl, .int, rfl, rfl⟩ ⟨rfl, rfl⟩ (Nat.le_of_ble_eq_true rfl) (Nat.le_of_ble_eq_true rfl)
          · have hf := (if_neg q).symm.trans hf
            refine mj_blk k_X0_ok 21 1 (pc' := 41) (l' := [(0, .ref v0), (1, .int v1), (2, .int v2)]) (st' := [.int (-2 : Int32)]) rfl ?_
            obtain rfl := Option.some.inj hf
            exact mj_end (some (.int (-2 : Int32))) ⟨mj_dec tok_X0_bind (a := 22) rfl, .int, rfl, rfl⟩ ⟨rfl, rfl⟩ (Nat.le_of_ble_eq_true rfl) (Nat.le_of_ble_eq_true rfl)
def f_X0_knows (v0 : Nat) (v1 : Int32) (h : mj_H) : Option (Int32 × mj_H) := (mj_gI h v0 0 5).bind fun x1 => (f_X8_isIn x1 v1 h).bind fun p2 => (if p2.1 = 0 ∨ p2.1 = 1 then some (p2.1, p2.2) else none)
set_option maxHeartbeats 4000000 in
set_option maxRecDepth 100000 in
theorem c_X0_knows (v0 : Nat) (v1 : Int32) (h : mj_H) (p : Int32 × mj_H) (hf : f_X0_knows v0 v1 h = some p) : mj_Met mX0_knows [.ref v0, .int v1] h (some (.int p.1)) p.2 := by
  refine mj_met pl_X0 tok_X0_knows (Nat.le_of_ble_eq_true rfl) ?_
  show mj_W mX0_knows (mj_FI p) 0 [(0, .ref v0), (1, .int v1)] [] h 0 0
  unfold f_X0_knows at hf
  refine mj_blk k_X0_ok 0 1 (pc' := 1) (l' := [(0, .ref v0), (1, .int v1)]) (st' := [.ref v0]) rfl ?_
  obtain ⟨x1, ex1, hf⟩ := mj_bd hf
  refine mj_get 1 rfl fl_X0_36 (mj_gI_V ex1) ?_
  refine mj_blk k_X0_ok 2 1 (pc' := 5) (l' := [(0, .ref v0), (1, .int v1)]) (st' := [.int v1, .int x1]) rfl ?_
  obtain ⟨p2, ep2, hf⟩ := mj_bd hf
  refine mj_callS mX8_isIn [.int x1, .int v1] 3 rfl ll_X0_58 lb_X8_isIn li_X8_isIn ⟨Nat.le_of_ble_eq_true rfl, Nat.le_of_ble_eq_true rfl⟩ rfl (rest := []) rfl (Nat.le_of_ble_eq_true rfl) ⟨Nat.le_of_ble_eq_true rfl, Nat.le_of_ble_eq_true rfl⟩ (c_X8_isIn x1 v1 h p2 ep2) ?_
  show mj_W mX0_knows (mj_FI p) 8 [(0, .ref v0), (1, .int v1)] [.int p2.1] p2.2 0 0
  obtain ⟨g, hf⟩ := mj_gp hf
  obtain rfl := Option.some.inj hf
  exact mj_end (some (.int p2.1)) ⟨mj_dec tok_X0_knows (a := 4) rfl, .boolean, rfl, mj_bool g⟩ ⟨rfl, rfl⟩ (Nat.le_of_ble_eq_true rfl) (Nat.le_of_ble_eq_true rfl)
def f_X0_inform (v0 : Nat) (v1 : Int32) (h : mj_H) : Option (Int32 × mj_H) := (if mj_ob h v0 0 = true then (f_X0_has v0 v1 h).bind fun p1 => (if p1.1 = 0 then some ((-2 : Int32), p1.2) else (if mj_ob p1.2 v0 0 = true then (f_X0_knows v0 v1 p1.2).bind fun p2 => (if p2.1 = 0 then (mj_gI p2.2 v0 0 5).bind fun x3 => (mj_sV p2.2 v0 0 5 (.int (x3 ||| ((1 : Int32) <<< (v1 &&& 31))))).bind fun h4 => some ((1 : Int32), h4) else some ((-3 : Int32), p2.2)) else none)) else none)
set_option maxHeartbeats 4000000 in
set_option maxRecDepth 100000 in
theorem c_X0_inform (v0 : Nat) (v1 : Int32) (h : mj_H) (p : Int32 × mj_H) (hf : f_X0_inform v0 v1 h = some p) : mj_Met mX0_inform [.ref v0, .int v1] h (some (.int p.1)) p.2 := by
  refine mj_met pl_X0 tok_X0_inform (Nat.le_of_ble_eq_true rfl) ?_
  show mj_W mX0_inform (mj_FI p) 0 [(0, .ref v0), (1, .int v1)] [] h 0 0
  unfold f_X0_inform at hf
  refine mj_blk k_X0_ok 0 2 (pc' := 2) (l' := [(0, .ref v0), (1, .int v1)]) (st' := [.int v1, .ref v0]) rfl ?_
  obtain ⟨gp1, hf⟩ := mj_gd hf
  obtain ⟨p1, ep1, hf⟩ := mj_bd hf
  refine mj_callV (T := TX0) (N := 7) (ci := 0) mX0_has [.int v1] 2 rfl ll_X0_47 lb_X0_has li_X0_has ⟨Nat.le_of_ble_eq_true rfl, Nat.le_of_ble_eq_true rfl⟩ rfl gp1 rfl (rest := []) rfl (Nat.le_of_ble_eq_true rfl) ⟨Nat.le_of_ble_eq_true rfl, Nat.le_of_ble_eq_true rfl⟩ (c_X0_has v0 v1 h p1 ep1) ?_
  show mj_W mX0_inform (mj_FI p) 5 [(0, .ref v0), (1, .int v1)] [.int p1.1] p1.2 0 0
  refine mj_if_ne 3 11 rfl (by decide) (fun q => ?_) (fun q => ?_)
  · have hf := (if_neg q).symm.trans hf
    refine mj_blk k_X0_ok 6 2 (pc' := 13) (l' := [(0, .ref v0), (1, .int v1)]) (st' := [.int v1, .ref v0]) rfl ?_
    obtain ⟨gp2, hf⟩ := mj_gd hf
    obtain ⟨p2, ep2, hf⟩ := mj_bd hf
    refine mj_callV (T := TX0) (N := 7) (ci := 0) mX0_knows [.int v1] 8 rfl ll_X0_55 lb_X0_knows li_X0_knows ⟨Nat.le_of_ble_eq_true rfl, Nat.le_of_ble_eq_true rfl⟩ rfl gp2 rfl (rest := []) rfl (Nat.le_of_ble_eq_true rfl) ⟨Nat.le_of_ble_eq_true rfl, Nat.le_of_ble_eq_true rfl⟩ (c_X0_knows v0 v1 p1.2 p2 ep2) ?_
    show mj_W mX0_inform (mj_FI p) 16 [(0, .ref v0), (1, .int v1)] [.int p2.1] p2.2 0 0
    refine mj_if_eq 9 22 rfl (by decide) (fun q => ?_) (fun q => ?_)
    · have hf := (if_pos q).symm.trans hf
      refine mj_blk k_X0_ok 12 2 (pc' := 24) (l' := [(0, .ref v0), (1, .int v1)]) (st' := [.ref v0, .ref v0]) rfl ?_
      obtain ⟨x3, ex3, hf⟩ := mj_bd hf
      refine mj_get 14 rfl fl_X0_36 (mj_gI_V ex3) ?_
      refine mj_blk k_X0_ok 15 4 (pc' := 31) (l' := [(0, .ref v0), (1, .int v1)]) (st' := [.int (x3 ||| ((1 : Int32) <<< (v1 &&& 31))), .ref v0]) rfl ?_
      obtain ⟨h4, eh4, hf⟩ := mj_bd hf
      refine mj_put 19 rfl fp_X0_36 (fun _ => ⟨rfl, rfl⟩) eh4 ?_
      refine mj_blk k_X0_ok 20 1 (pc' := 35) (l' := [(0, .ref v0), (1, .int v1)]) (st' := [.int (1 : Int32)]) rfl ?_
      obtain rfl := Option.some.inj hf
      exact mj_end (some (.int (1 : Int32))) ⟨mj_dec tok_X0_inform (a := 21) rfl, .int, rfl, rfl⟩ ⟨rfl, rfl⟩ (Nat.le_of_ble_eq_true rfl) (Nat.le_of_ble_eq_true rfl)
    · have hf := (if_neg q).symm.trans hf
      refine mj_blk k_X0_ok 10 1 (pc' := 21) (l' := [(0, .ref v0), (1, .int v1)]) (st' := [.int (-3 : Int32)]) rfl ?_
      obtain rfl := Option.some.inj hf
      exact mj_end (some (.int (-3 : Int32))) ⟨mj_dec tok_X0_inform (a := 11) rfl, .int, rfl, rfl⟩ ⟨rfl, rfl⟩ (Nat.le_of_ble_eq_true rfl) (Nat.le_of_ble_eq_true rfl)
  · have hf := (if_pos q).symm.trans hf
    refine mj_blk k_X0_ok 4 1 (pc' := 10) (l' := [(0, .ref v0), (1, .int v1)]) (st' := [.int (-2 : Int32)]) rfl ?_
    obtain rfl := Option.some.inj hf
    exact mj_end (some (.int (-2 : Int32))) ⟨mj_dec tok_X0_inform (a := 5) rfl, .int, rfl, rfl⟩ ⟨rfl, rfl⟩ (Nat.le_of_ble_eq_true rfl) (Nat.le_of_ble_eq_true rfl)
def f_X0_weightOf (v0 : Nat) (v1 : Int32) (v2 : Int32) (h : mj_H) : Option (Int64 × mj_H) := (if ((v1 * (6 : Int32)) + v2) < 0 then some ((0 : Int64), h) else (mj_gR h v0 0 0).bind fun x1 => (mj_aL h x1).bind fun x2 => (if x2 ≤ ((v1 * (6 : Int32)) + v2) then some ((0 : Int64), h) else (mj_gR h v0 0 0).bind fun x3 => (mj_aJ h x3 ((v1 * (6 : Int32)) + v2)).bind fun x4 => some (x4, h)))
set_option maxHeartbeats 4000000 in
set_option maxRecDepth 100000 in
theorem c_X0_weightOf (v0 : Nat) (v1 : Int32) (v2 : Int32) (h : mj_H) (p : Int64 × mj_H) (hf : f_X0_weightOf v0 v1 v2 h = some p) : mj_Met mX0_weightOf [.ref v0, .int v1, .int v2] h (some (.long p.1)) p.2 := by
  refine mj_met pl_X0 tok_X0_weightOf (Nat.le_of_ble_eq_true rfl) ?_
  show mj_W mX0_weightOf (mj_FJ p) 0 [(0, .ref v0), (1, .int v1), (2, .int v2)] [] h 0 0
  unfold f_X0_weightOf at hf
  refine mj_blk k_X0_ok 0 7 (pc' := 8) (l' := [(3, .int ((v1 * (6 : Int32)) + v2)), (0, .ref v0), (1, .int v1), (2, .int v2)]) (st' := [.int ((v1 * (6 : Int32)) + v2)]) rfl ?_
  refine mj_if_lt 7 29 rfl (by decide) (fun q => ?_) (fun q => ?_)
  · have hf := (if_pos q).symm.trans hf
    refine mj_blk k_X0_ok 18 1 (pc' := 30) (l' := [(3, .int ((v1 * (6 : Int32)) + v2)), (0, .ref v0), (1, .int v1), (2, .int v2)]) (st' := [.long (0 : Int64)]) rfl ?_
    obtain rfl := Option.some.inj hf
    exact mj_end (some (.long (0 : Int64))) ⟨mj_dec tok_X0_weightOf (a := 19) rfl, rfl⟩ ⟨rfl, rfl⟩ (Nat.le_of_ble_eq_true rfl) (Nat.le_of_ble_eq_true rfl)
  · have hf := (if_neg q).symm.trans hf
    refine mj_blk k_X0_ok 8 2 (pc' := 13) (l' := [(3, .int ((v1 * (6 : Int32)) + v2)), (0, .ref v0), (1, .int v1), (2, .int v2)]) (st' := [.ref v0, .int ((v1 * (6 : Int32)) + v2)]) rfl ?_
    obtain ⟨x1, ex1, hf⟩ := mj_bd hf
    refine mj_get 10 rfl fl_X0_9 (mj_gR_V ex1) ?_
    obtain ⟨x2, ex2, hf⟩ := mj_bd hf
    refine mj_alen 11 rfl ex2 ?_
    refine mj_icmp_ge 12 29 rfl (by decide) (fun q => ?_) (fun q => ?_)
    · have hf := (if_pos q).symm.trans hf
      refine mj_blk k_X0_ok 18 1 (pc' := 30) (l' := [(3, .int ((v1 * (6 : Int32)) + v2)), (0, .ref v0), (1, .int v1), (2, .int v2)]) (st' := [.long (0 : Int64)]) rfl ?_
      obtain rfl := Option.some.inj hf
      exact mj_end (some (.long (0 : Int64))) ⟨mj_dec tok_X0_weightOf (a := 19) rfl, rfl⟩ ⟨rfl, rfl⟩ (Nat.le_of_ble_eq_true rfl) (Nat.le_of_ble_eq_true rfl)
    · have hf := (if_neg q).symm.trans hf
      refine mj_blk k_X0_ok 13 1 (pc' := 21) (l' := [(3, .int ((v1 * (6 : Int32)) + v2)), (0, .ref v0), (1, .int v1), (2, .int v2)]) (st' := [.ref v0]) rfl ?_
      obtain ⟨x3, ex3, hf⟩ := mj_bd hf
      refine mj_get 14 rfl fl_X0_9 (mj_gR_V ex3) ?_
      refine mj_blk k_X0_ok 15 1 (pc' := 25) (l' := [(3, .int ((v1 * (6 : Int32)) + v2)), (0, .ref v0), (1, .int v1), (2, .int v2)]) (st' := [.int ((v1 * (6 : Int32)) + v2), .ref x3]) rfl ?_
      obtain ⟨x4, ex4, hf⟩ := mj_bd hf
      refine mj_lald 16 rfl ex4 ?_
      refine mj_blk k_X0_ok 17 1 (pc' := 30) (l' := [(3, .int ((v1 * (6 : Int32)) + v2)), (0, .ref v0), (1, .int v1), (2, .int v2)]) (st' := [.long x4]) rfl ?_
      obtain rfl := Option.some.inj hf
      exact mj_end (some (.long x4)) ⟨mj_dec tok_X0_weightOf (a := 19) rfl, rfl⟩ ⟨rfl, rfl⟩ (Nat.le_of_ble_eq_true rfl) (Nat.le_of_ble_eq_true rfl)
def f_X0_signsOf (v0 : Nat) (v1 : Int32) (h : mj_H) : Option (Int32 × mj_H) := (if v1 < 0 then some ((0 : Int32), h) else (mj_gR h v0 0 1).bind fun x1 => (mj_aL h x1).bind fun x2 => (if x2 ≤ v1 then some ((0 : Int32), h) else (mj_gR h v0 0 1).bind fun x3 => (mj_aI h x3 v1).bind fun x4 => some (x4, h)))
set_option maxHeartbeats 4000000 in
set_option maxRecDepth 100000 in
theorem c_X0_signsOf (v0 : Nat) (v1 : Int32) (h : mj_H) (p : Int32 × mj_H) (hf : f_X0_signsOf v0 v1 h = some p) : mj_Met mX0_signsOf [.ref v0, .int v1] h (some (.int p.1)) p.2 := by
  refine mj_met pl_X0 tok_X0_signsOf (Nat.le_of_ble_eq_true rfl) ?_
  show mj_W mX0_signsOf (mj_FI p) 0 [(0, .ref v0), (1, .int v1)] [] h 0 0
  unfold f_X0_signsOf at hf
  refine mj_blk k_X0_ok 0 1 (pc' := 1) (l' := [(0, .ref v0), (1, .int v1)]) (st' := [.int v1]) rfl ?_
  refine mj_if_lt 1 22 rfl (by decide) (fun q => ?_) (fun q => ?_)
  · have hf := (if_pos q).symm.trans hf
    refine mj_blk k_X0_ok 12 1 (pc' := 23) (l' := [(0, .ref v0), (1, .int v1)]) (st' := [.int (0 : Int32)]) rfl ?_
    obtain rfl := Option.some.inj hf
    exact mj_end (some (.int (0 : Int32))) ⟨mj_dec tok_X0_signsOf (a := 13) rfl, .int, rfl, rfl⟩ ⟨rfl, rfl⟩ (Nat.le_of_ble_eq_true rfl) (Nat.le_of_ble_eq_true rfl)
  · have hf := (if_neg q).symm.trans hf
    refine mj_blk k_X0_ok 2 2 (pc' := 6) (l' := [(0, .ref v0), (1, .int v1)]) (st' := [.ref v0, .int v1]) rfl ?_
    obtain ⟨x1, ex1, hf⟩ := mj_bd hf
    refine mj_get 4 rfl fl_X0_15 (mj_gR_V ex1) ?_
    obtain ⟨x2, ex2, hf⟩ := mj_bd hf
    refine mj_alen 5 rfl ex2 ?_
    refine mj_icmp_ge 6 22 rfl (by decide) (fun q => ?_) (fun q => ?_)
    · have hf := (if_pos q).symm.trans hf
      refine mj_blk k_X0_ok 12 1 (pc' := 23) (l' := [(0, .ref v0), (1, .int v1)]) (st' := [.int (0 : Int32)]) rfl ?_
      obtain rfl := Option.some.inj hf
      exact mj_end (some (.int (0 : Int32))) ⟨mj_dec tok_X0_signsOf (a := 13) rfl, .int, rfl, rfl⟩ ⟨rfl, rfl⟩ (Nat.le_of_ble_eq_true rfl) (Nat.le_of_ble_eq_true rfl)
    · have hf := (if_neg q).symm.trans hf
      refine mj_blk k_X0_ok 7 1 (pc' := 14) (l' := [(0, .ref v0), (1, .int v1)]) (st' := [.ref v0]) rfl ?_
      obtain ⟨x3, ex3, hf⟩ := mj_bd hf
      refine mj_get 8 rfl fl_X0_15 (mj_gR_V ex3) ?_
      refine mj_blk k_X0_ok 9 1 (pc' := 18) (l' := [(0, .ref v0), (1, .int v1)]) (st' := [.int v1, .ref x3]) rfl ?_
      obtain ⟨x4, ex4, hf⟩ := mj_bd hf
      refine mj_iald 10 rfl ex4 ?_
      refine mj_blk k_X0_ok 11 1 (pc' := 23) (l' := [(0, .ref v0), (1, .int v1)]) (st' := [.int x4]) rfl ?_
      obtain rfl := Option.some.inj hf
      exact mj_end (some (.int x4)) ⟨mj_dec tok_X0_signsOf (a := 13) rfl, .int, rfl, rfl⟩ ⟨rfl, rfl⟩ (Nat.le_of_ble_eq_true rfl) (Nat.le_of_ble_eq_true rfl)
def f_J6_bitCount_0f7a4 (v0 : Int32) (h : mj_H) : Option (Int32 × mj_H) := some (((((((((v0 - ((((v0).toUInt32 >>> (((1 : Int32)).toUInt32 &&& Int32.toUInt32 31)).toInt32) &&& (1431655765 : Int32))) &&& (858993459 : Int32)) + (((((v0 - ((((v0).toUInt32 >>> (((1 : Int32)).toUInt32 &&& Int32.toUInt32 31)).toInt32) &&& (1431655765 : Int32)))).toUInt32 >>> (((2 : Int32)).toUInt32 &&& Int32.toUInt32 31)).toInt32) &&& (858993459 : Int32))) + ((((((v0 - ((((v0).toUInt32 >>> (((1 : Int32)).toUInt32 &&& Int32.toUInt32 31)).toInt32) &&& (1431655765 : Int32))) &&& (858993459 : Int32)) + (((((v0 - ((((v0).toUInt32 >>> (((1 : Int32)).toUInt32 &&& Int32.toUInt32 31)).toInt32) &&& (1431655765 : Int32)))).toUInt32 >>> (((2 : Int32)).toUInt32 &&& Int32.toUInt32 31)).toInt32) &&& (858993459 : Int32)))).toUInt32 >>> (((4 : Int32)).toUInt32 &&& Int32.toUInt32 31)).toInt32)) &&& (252645135 : Int32)) + ((((((((v0 - ((((v0).toUInt32 >>> (((1 : Int32)).toUInt32 &&& Int32.toUInt32 31)).toInt32) &&& (1431655765 : Int32))) &&& (858993459 : Int32)) + (((((v0 - ((((v0).toUInt32 >>> (((1 : Int32)).toUInt32 &&& Int32.toUInt32 31)).toInt32) &&& (1431655765 : Int32)))).toUInt32 >>> (((2 : Int32)).toUInt32 &&& Int32.toUInt32 31)).toInt32) &&& (858993459 : Int32))) + ((((((v0 - ((((v0).toUInt32 >>> (((1 : Int32)).toUInt32 &&& Int32.toUInt32 31)).toInt32) &&& (1431655765 : Int32))) &&& (858993459 : Int32)) + (((((v0 - ((((v0).toUInt32 >>> (((1 : Int32)).toUInt32 &&& Int32.toUInt32 31)).toInt32) &&& (1431655765 : Int32)))).toUInt32 >>> (((2 : Int32)).toUInt32 &&& Int32.toUInt32 31)).toInt32) &&& (858993459 : Int32)))).toUInt32 >>> (((4 : Int32)).toUInt32 &&& Int32.toUInt32 31)).toInt32)) &&& (252645135 : Int32))).toUInt32 >>> (((8 : Int32)).toUInt32 &&& Int32.toUInt32 31)).toInt32)) + (((((((((v0 - ((((v0).toUInt32 >>> (((1 : Int32)).toUInt32 &&& Int32.toUInt32 31)).toInt32) &&& (1431655765 : Int32))) &&& (858993459 : Int32)) + (((((v0 - ((((v0).toUInt32 >>> (((1 : Int32)).toUInt32 &&& Int32.toUInt32 31)).toInt32) &&& (1431655765 : Int32)))).toUInt32 >>> (((2 : Int32)).toUInt32 &&& Int32.toUInt32 31)).toInt32) &&& (858993459 : Int32))) + ((((((v0 - ((((v0).toUInt32 >>> (((1 : Int32)).toUInt32 &&& Int32.toUInt32 31)).toInt32) &&& (1431655765 : Int32))) &&& (858993459 : Int32)) + (((((v0 - ((((v0).toUInt32 >>> (((1 : Int32)).toUInt32 &&& Int32.toUInt32 31)).toInt32) &&& (1431655765 : Int32)))).toUInt32 >>> (((2 : Int32)).toUInt32 &&& Int32.toUInt32 31)).toInt32) &&& (858993459 : Int32)))).toUInt32 >>> (((4 : Int32)).toUInt32 &&& Int32.toUInt32 31)).toInt32)) &&& (252645135 : Int32)) + ((((((((v0 - ((((v0).toUInt32 >>> (((1 : Int32)).toUInt32 &&& Int32.toUInt32 31)).toInt32) &&& (1431655765 : Int32))) &&& (858993459 : Int32)) + (((((v0 - ((((v0).toUInt32 >>> (((1 : Int32)).toUInt32 &&& Int32.toUInt32 31)).toInt32) &&& (1431655765 : Int32)))).toUInt32 >>> (((2 : Int32)).toUInt32 &&& Int32.toUInt32 31)).toInt32) &&& (858993459 : Int32))) + ((((((v0 - ((((v0).toUInt32 >>> (((1 : Int32)).toUInt32 &&& Int32.toUInt32 31)).toInt32) &&& (1431655765 : Int32))) &&& (858993459 : Int32)) + (((((v0 - ((((v0).toUInt32 >>> (((1 : Int32)).toUInt32 &&& Int32.toUInt32 31)).toInt32) &&& (1431655765 : Int32)))).toUInt32 >>> (((2 : Int32)).toUInt32 &&& Int32.toUInt32 31)).toInt32) &&& (858993459 : Int32)))).toUInt32 >>> (((4 : Int32)).toUInt32 &&& Int32.toUInt32 31)).toInt32)) &&& (252645135 : Int32))).toUInt32 >>> (((8 : Int32)).toUInt32 &&& Int32.toUInt32 31)).toInt32))).toUInt32 >>> (((16 : Int32)).toUInt32 &&& Int32.toUInt32 31)).toInt32)) &&& (63 : Int32)), h)
set_option maxHeartbeats 4000000 in
set_option maxRecDepth 100000 in
theorem c_J6_bitCount_0f7a4 (v0 : Int32) (h : mj_H) (p : Int32 × mj_H) (hf : f_J6_bitCount_0f7a4 v0 h = some p) : mj_Met mJ6_bitCount_0f7a4 [.int v0] h (some (.int p.1)) p.2 := by
  refine mj_met pl_J6 tok_J6_bitCount_0f7a4 (Nat.le_of_ble_eq_true rfl) ?_
  show mj_W mJ6_bitCount_0f7a4 (mj_FI p) 0 [(0, .int v0)] [] h 0 0
  unfold f_J6_bitCount_0f7a4 at hf
  refine mj_blk k_J6_ok 0 41 (pc' := 52) (l' := [(0, .int (((((((v0 - ((((v0).toUInt32 >>> (((1 : Int32)).toUInt32 &&& Int32.toUInt32 31)).toInt32) &&& (1431655765 : Int32))) &&& (858993459 : Int32)) + (((((v0 - ((((v0).toUInt32 >>> (((1 : Int32)).toUInt32 &&& Int32.toUInt32 31)).toInt32) &&& (1431655765 : Int32)))).toUInt32 >>> (((2 : Int32)).toUInt32 &&& Int32.toUInt32 31)).toInt32) &&& (858993459 : Int32))) + ((((((v0 - ((((v0).toUInt32 >>> (((1 : Int32)).toUInt32 &&& Int32.toUInt32 31)).toInt32) &&& (1431655765 : Int32))) &&& (858993459 : Int32)) + (((((v0 - ((((v0).toUInt32 >>> (((1 : Int32)).toUInt32 &&& Int32.toUInt32 31)).toInt32) &&& (1431655765 : Int32)))).toUInt32 >>> (((2 : Int32)).toUInt32 &&& Int32.toUInt32 31)).toInt32) &&& (858993459 : Int32)))).toUInt32 >>> (((4 : Int32)).toUInt32 &&& Int32.toUInt32 31)).toInt32)) &&& (252645135 : Int32)) + ((((((((v0 - ((((v0).toUInt32 >>> (((1 : Int32)).toUInt32 &&& Int32.toUInt32 31)).toInt32) &&& (1431655765 : Int32))) &&& (858993459 : Int32)) + (((((v0 - ((((v0).toUInt32 >>> (((1 : Int32)).toUInt32 &&& Int32.toUInt32 31)).toInt32) &&& (1431655765 : Int32)))).toUInt32 >>> (((2 : Int32)).toUInt32 &&& Int32.toUInt32 31)).toInt32) &&& (858993459 : Int32))) + ((((((v0 - ((((v0).toUInt32 >>> (((1 : Int32)).toUInt32 &&& Int32.toUInt32 31)).toInt32) &&& (1431655765 : Int32))) &&& (858993459 : Int32)) + (((((v0 - ((((v0).toUInt32 >>> (((1 : Int32)).toUInt32 &&& Int32.toUInt32 31)).toInt32) &&& (1431655765 : Int32)))).toUInt32 >>> (((2 : Int32)).toUInt32 &&& Int32.toUInt32 31)).toInt32) &&& (858993459 : Int32)))).toUInt32 >>> (((4 : Int32)).toUInt32 &&& Int32.toUInt32 31)).toInt32)) &&& (252645135 : Int32))).toUInt32 >>> (((8 : Int32)).toUInt32 &&& Int32.toUInt32 31)).toInt32)) + (((((((((v0 - ((((v0).toUInt32 >>> (((1 : Int32)).toUInt32 &&& Int32.toUInt32 31)).toInt32) &&& (1431655765 : Int32))) &&& (858993459 : Int32)) + (((((v0 - ((((v0).toUInt32 >>> (((1 : Int32)).toUInt32 &&& Int32.toUInt32 31)).toInt32) &&& (1431655765 : Int32)))).toUInt32 >>> (((2 : Int32)).toUInt32 &&& Int32.toUInt32 31)).toInt32) &&& (858993459 : Int32))) + ((((((v0 - ((((v0).toUInt32 >>> (((1 : Int32)).toUInt32 &&& Int32.toUInt32 31)).toInt32) &&& (1431655765 : Int32))) &&& (858993459 : Int32)) + (((((v0 - ((((v0).toUInt32 >>> (((1 : Int32)).toUInt32 &&& Int32.toUInt32 31)).toInt32) &&& (1431655765 : Int32)))).toUInt32 >>> (((2 : Int32)).toUInt32 &&& Int32.toUInt32 31)).toInt32) &&& (858993459 : Int32)))).toUInt32 >>> (((4 : Int32)).toUInt32 &&& Int32.toUInt32 31)).toInt32)) &&& (252645135 : Int32)) + ((((((((v0 - ((((v0).toUInt32 >>> (((1 : Int32)).toUInt32 &&& Int32.toUInt32 31)).toInt32) &&& (1431655765 : Int32))) &&& (858993459 : Int32)) + (((((v0 - ((((v0).toUInt32 >>> (((1 : Int32)).toUInt32 &&& Int32.toUInt32 31)).toInt32) &&& (1431655765 : Int32)))).toUInt32 >>> (((2 : Int32)).toUInt32 &&& Int32.toUInt32 31)).toInt32) &&& (858993459 : Int32))) + ((((((v0 - ((((v0).toUInt32 >>> (((1 : Int32)).toUInt32 &&& Int32.toUInt32 31)).toInt32) &&& (1431655765 : Int32))) &&& (858993459 : Int32)) + (((((v0 - ((((v0).toUInt32 >>> (((1 : Int32)).toUInt32 &&& Int32.toUInt32 31)).toInt32) &&& (1431655765 : Int32)))).toUInt32 >>> (((2 : Int32)).toUInt32 &&& Int32.toUInt32 31)).toInt32) &&& (858993459 : Int32)))).toUInt32 >>> (((4 : Int32)).toUInt32 &&& Int32.toUInt32 31)).toInt32)) &&& (252645135 : Int32))).toUInt32 >>> (((8 : Int32)).toUInt32 &&& Int32.toUInt32 31)).toInt32))).toUInt32 >>> (((16 : Int32)).toUInt32 &&& Int32.toUInt32 31)).toInt32)))]) (st' := [.int ((((((((v0 - ((((v0).toUInt32 >>> (((1 : Int32)).toUInt32 &&& Int32.toUInt32 31)).toInt32) &&& (1431655765 : Int32))) &&& (858993459 : Int32)) + (((((v0 - ((((v0).toUInt32 >>> (((1 : Int32)).toUInt32 &&& Int32.toUInt32 31)).toInt32) &&& (1431655765 : Int32)))).toUInt32 >>> (((2 : Int32)).toUInt32 &&& Int32.toUInt32 31)).toInt32) &&& (858993459 : Int32))) + ((((((v0 - ((((v0).toUInt32 >>> (((1 : Int32)).toUInt32 &&& Int32.toUInt32 31)).toInt32) &&& (1431655765 : Int32))) &&& (858993459 : Int32)) + (((((v0 - ((((v0).toUInt32 >>> (((1 : Int32)).toUInt32 &&& Int32.toUInt32 31)).toInt32) &&& (1431655765 : Int32)))).toUInt32 >>> (((2 : Int32)).toUInt32 &&& Int32.toUInt32 31)).toInt32) &&& (858993459 : Int32)))).toUInt32 >>> (((4 : Int32)).toUInt32 &&& Int32.toUInt32 31)).toInt32)) &&& (252645135 : Int32)) + ((((((((v0 - ((((v0).toUInt32 >>> (((1 : Int32)).toUInt32 &&& Int32.toUInt32 31)).toInt32) &&& (1431655765 : Int32))) &&& (858993459 : Int32)) + (((((v0 - ((((v0).toUInt32 >>> (((1 : Int32)).toUInt32 &&& Int32.toUInt32 31)).toInt32) &&& (1431655765 : Int32)))).toUInt32 >>> (((2 : Int32)).toUInt32 &&& Int32.toUInt32 31)).toInt32) &&& (858993459 : Int32))) + ((((((v0 - ((((v0).toUInt32 >>> (((1 : Int32)).toUInt32 &&& Int32.toUInt32 31)).toInt32) &&& (1431655765 : Int32))) &&& (858993459 : Int32)) + (((((v0 - ((((v0).toUInt32 >>> (((1 : Int32)).toUInt32 &&& Int32.toUInt32 31)).toInt32) &&& (1431655765 : Int32)))).toUInt32 >>> (((2 : Int32)).toUInt32 &&& Int32.toUInt32 31)).toInt32) &&& (858993459 : Int32)))).toUInt32 >>> (((4 : Int32)).toUInt32 &&& Int32.toUInt32 31)).toInt32)) &&& (252645135 : Int32))).toUInt32 >>> (((8 : Int32)).toUInt32 &&& Int32.toUInt32 31)).toInt32)) + (((((((((v0 - ((((v0).toUInt32 >>> (((1 : Int32)).toUInt32 &&& Int32.toUInt32 31)).toInt32) &&& (1431655765 : Int32))) &&& (858993459 : Int32)) + (((((v0 - ((((v0).toUInt32 >>> (((1 : Int32)).toUInt32 &&& Int32.toUInt32 31)).toInt32) &&& (1431655765 : Int32)))).toUInt32 >>> (((2 : Int32)).toUInt32 &&& Int32.toUInt32 31)).toInt32) &&& (858993459 : Int32))) + ((((((v0 - ((((v0).toUInt32 >>> (((1 : Int32)).toUInt32 &&& Int32.toUInt32 31)).toInt32) &&& (1431655765 : Int32))) &&& (858993459 : Int32)) + (((((v0 - ((((v0).toUInt32 >>> (((1 : Int32)).toUInt32 &&& Int32.toUInt32 31)).toInt32) &&& (1431655765 : Int32)))).toUInt32 >>> (((2 : Int32)).toUInt32 &&& Int32.toUInt32 31)).toInt32) &&& (858993459 : Int32)))).toUInt32 >>> (((4 : Int32)).toUInt32 &&& Int32.toUInt32 31)).toInt32)) &&& (252645135 : Int32)) + ((((((((v0 - ((((v0).toUInt32 >>> (((1 : Int32)).toUInt32 &&& Int32.toUInt32 31)).toInt32) &&& (1431655765 : Int32))) &&& (858993459 : Int32)) + (((((v0 - ((((v0).toUInt32 >>> (((1 : Int32)).toUInt32 &&& Int32.toUInt32 31)).toInt32) &&& (1431655765 : Int32)))).toUInt32 >>> (((2 : Int32)).toUInt32 &&& Int32.toUInt32 31)).toInt32) &&& (858993459 : Int32))) + ((((((v0 - ((((v0).toUInt32 >>> (((1 : Int32)).toUInt32 &&& Int32.toUInt32 31)).toInt32) &&& (1431655765 : Int32))) &&& (858993459 : Int32)) + (((((v0 - ((((v0).toUInt32 >>> (((1 : Int32)).toUInt32 &&& Int32.toUInt32 31)).toInt32) &&& (1431655765 : Int32)))).toUInt32 >>> (((2 : Int32)).toUInt32 &&& Int32.toUInt32 31)).toInt32) &&& (858993459 : Int32)))).toUInt32 >>> (((4 : Int32)).toUInt32 &&& Int32.toUInt32 31)).toInt32)) &&& (252645135 : Int32))).toUInt32 >>> (((8 : Int32)).toUInt32 &&& Int32.toUInt32 31)).toInt32))).toUInt32 >>> (((16 : Int32)).toUInt32 &&& Int32.toUInt32 31)).toInt32)) &&& (63 : Int32))]) rfl ?_
  obtain rfl := Option.some.inj hf
  exact mj_end (some (.int ((((((((v0 - ((((v0).toUInt32 >>> (((1 : Int32)).toUInt32 &&& Int32.toUInt32 31)).toInt32) &&& (1431655765 : Int32))) &&& (858993459 : Int32)) + (((((v0 - ((((v0).toUInt32 >>> (((1 : Int32)).toUInt32 &&& Int32.toUInt32 31)).toInt32) &&& (1431655765 : Int32)))).toUInt32 >>> (((2 : Int32)).toUInt32 &&& Int32.toUInt32 31)).toInt32) &&& (858993459 : Int32))) + ((((((v0 - ((((v0).toUInt32 >>> (((1 : Int32)).toUInt32 &&& Int32.toUInt32 31)).toInt32) &&& (1431655765 : Int32))) &&& (858993459 : Int32)) + (((((v0 - ((((v0).toUInt32 >>> (((1 : Int32)).toUInt32 &&& Int32.toUInt32 31)).toInt32) &&& (1431655765 : Int32)))).toUInt32 >>> (((2 : Int32)).toUInt32 &&& Int32.toUInt32 31)).toInt32) &&& (858993459 : Int32)))).toUInt32 >>> (((4 : Int32)).toUInt32 &&& Int32.toUInt32 31)).toInt32)) &&& (252645135 : Int32)) + ((((((((v0 - ((((v0).toUInt32 >>> (((1 : Int32)).toUInt32 &&& Int32.toUInt32 31)).toInt32) &&& (1431655765 : Int32))) &&& (858993459 : Int32)) + (((((v0 - ((((v0).toUInt32 >>> (((1 : Int32)).toUInt32 &&& Int32.toUInt32 31)).toInt32) &&& (1431655765 : Int32)))).toUInt32 >>> (((2 : Int32)).toUInt32 &&& Int32.toUInt32 31)).toInt32) &&& (858993459 : Int32))) + ((((((v0 - ((((v0).toUInt32 >>> (((1 : Int32)).toUInt32 &&& Int32.toUInt32 31)).toInt32) &&& (1431655765 : Int32))) &&& (858993459 : Int32)) + (((((v0 - ((((v0).toUInt32 >>> (((1 : Int32)).toUInt32 &&& Int32.toUInt32 31)).toInt32) &&& (1431655765 : Int32)))).toUInt32 >>> (((2 : Int32)).toUInt32 &&& Int32.toUInt32 31)).toInt32) &&& (858993459 : Int32)))).toUInt32 >>> (((4 : Int32)).toUInt32 &&& Int32.toUInt32 31)).toInt32)) &&& (252645135 : Int32))).toUInt32 >>> (((8 : Int32)).toUInt32 &&& Int32.toUInt32 31)).toInt32)) + (((((((((v0 - ((((v0).toUInt32 >>> (((1 : Int32)).toUInt32 &&& Int32.toUInt32 31)).toInt32) &&& (1431655765 : Int32))) &&& (858993459 : Int32)) + (((((v0 - ((((v0).toUInt32 >>> (((1 : Int32)).toUInt32 &&& Int32.toUInt32 31)).toInt32) &&& (1431655765 : Int32)))).toUInt32 >>> (((2 : Int32)).toUInt32 &&& Int32.toUInt32 31)).toInt32) &&& (858993459 : Int32))) + ((((((v0 - ((((v0).toUInt32 >>> (((1 : Int32)).toUInt32 &&& Int32.toUInt32 31)).toInt32) &&& (1431655765 : Int32))) &&& (858993459 : Int32)) + (((((v0 - ((((v0).toUInt32 >>> (((1 : Int32)).toUInt32 &&& Int32.toUInt32 31)).toInt32) &&& (1431655765 : Int32)))).toUInt32 >>> (((2 : Int32)).toUInt32 &&& Int32.toUInt32 31)).toInt32) &&& (858993459 : Int32)))).toUInt32 >>> (((4 : Int32)).toUInt32 &&& Int32.toUInt32 31)).toInt32)) &&& (252645135 : Int32)) + ((((((((v0 - ((((v0).toUInt32 >>> (((1 : Int32)).toUInt32 &&& Int32.toUInt32 31)).toInt32) &&& (1431655765 : Int32))) &&& (858993459 : Int32)) + (((((v0 - ((((v0).toUInt32 >>> (((1 : Int32)).toUInt32 &&& Int32.toUInt32 31)).toInt32) &&& (1431655765 : Int32)))).toUInt32 >>> (((2 : Int32)).toUInt32 &&& Int32.toUInt32 31)).toInt32) &&& (858993459 : Int32))) + ((((((v0 - ((((v0).toUInt32 >>> (((1 : Int32)).toUInt32 &&& Int32.toUInt32 31)).toInt32) &&& (1431655765 : Int32))) &&& (858993459 : Int32)) + (((((v0 - ((((v0).toUInt32 >>> (((1 : Int32)).toUInt32 &&& Int32.toUInt32 31)).toInt32) &&& (1431655765 : Int32)))).toUInt32 >>> (((2 : Int32)).toUInt32 &&& Int32.toUInt32 31)).toInt32) &&& (858993459 : Int32)))).toUInt32 >>> (((4 : Int32)).toUInt32 &&& Int32.toUInt32 31)).toInt32)) &&& (252645135 : Int32))).toUInt32 >>> (((8 : Int32)).toUInt32 &&& Int32.toUInt32 31)).toInt32))).toUInt32 >>> (((16 : Int32)).toUInt32 &&& Int32.toUInt32 31)).toInt32)) &&& (63 : Int32)))) ⟨mj_dec tok_J6_bitCount_0f7a4 (a := 41) rfl, .int, rfl, rfl⟩ ⟨rfl, rfl⟩ (Nat.le_of_ble_eq_true rfl) (Nat.le_of_ble_eq_true rfl)
def b_X0_pairs_4 (K4 : Nat → Int32 → Int32 → mj_H → Option (Int32 × mj_H)) (v0 : Nat) (v1 : Int32) (v2 : Int32) (h : mj_H) : Option (Int32 × mj_H) := (mj_gI h v0 0 4).bind fun x1 => (if x1 ≤ v2 then some ((v1 / (2 : Int32)), h) else (if mj_ob h v0 0 = true then (f_X0_brothersOf v0 v2 h).bind fun p2 => (f_J6_bitCount_0f7a4 p2.1 p2.2).bind fun p3 => K4 v0 (v1 + p3.1) (v2 + (1 : Int32)) p3.2 else none))
set_option maxHeartbeats 4000000 in
set_option maxRecDepth 100000 in
theorem wb_X0_pairs_4 (K4 : Nat → Int32 → Int32 → mj_H → Option (Int32 × mj_H)) (hK4 : ∀ (v0 : Nat) (v1 : Int32) (v2 : Int32)  (h : mj_H) (p : Int32 × mj_H), K4 v0 v1 v2 h = some p → mj_W mX0_pairs (mj_FI p) 4 [(0, .ref v0), (1, .int v1), (2, .int v2)] [] h 0 0) (v0 : Nat) (v1 : Int32) (v2 : Int32) (h : mj_H) (p : Int32 × mj_H) (hf : b_X0_pairs_4  K4 v0 v1 v2 h = some p) : mj_W mX0_pairs (mj_FI p) 4 [(0, .ref v0), (1, .int v1), (2, .int v2)] [] h 0 0 := by
  unfold b_X0_pairs_4 at hf
  refine mj_blk k_X0_ok 4 2 (pc' := 6) (l' := [(0, .ref v0), (1, .int v1), (2, .int v2)]) (st' := [.ref v0, .int v2]) rfl ?_
  obtain ⟨x1, ex1, hf⟩ := mj_bd hf
  refine mj_get 6 rfl fl_X0_33 (mj_gI_V ex1) ?_
  refine mj_icmp_ge 7 29 rfl (by decide) (fun q => ?_) (fun q => ?_)
  · have hf := (if_pos q).symm.trans hf
    refine mj_blk k_X0_ok 17 2 (pc' := 31) (l' := [(0, .ref v0), (1, .int v1), (2, .int v2)]) (st' := [.int (2 : Int32), .int v1]) rfl ?_
    refine mj_idiv 19 rfl (by decide) ?_
    obtain rfl := Option.some.inj hf
    exact mj_end (some (.int (v1 / (2 : Int32)))) ⟨mj_dec tok_X0_pairs (a := 20) rfl, .int, rfl, rfl⟩ ⟨rfl, rfl⟩ (Nat.le_of_ble_eq_true rfl) (Nat.le_of_ble_eq_true rfl)
  · have hf := (if_neg q).symm.trans hf
    refine mj_blk k_X0_ok 8 3 (pc' := 15) (l' := [(0, .ref v0), (1, .int v1), (2, .int v2)]) (st' := [.int v2, .ref v0, .int v1]) rfl ?_
    obtain ⟨gp2, hf⟩ := mj_gd hf
    obtain ⟨p2, ep2, hf⟩ := mj_bd hf
    refine mj_callV (T := TX0) (N := 7) (ci := 0) mX0_brothersOf [.int v2] 11 rfl ll_X0_61 lb_X0_brothersOf li_X0_brothersOf ⟨Nat.le_of_ble_eq_true rfl, Nat.le_of_ble_eq_true rfl⟩ rfl gp2 rfl (rest := [.int v1]) rfl (Nat.le_of_ble_eq_true rfl) ⟨Nat.le_of_ble_eq_true rfl, Nat.le_of_ble_eq_true rfl⟩ (c_X0_brothersOf v0 v2 h p2 ep2) ?_
    show mj_W mX0_pairs (mj_FI p) 18 [(0, .ref v0), (1, .int v1), (2, .int v2)] [.int p2.1, .int v1] p2.2 0 0
    obtain ⟨p3, ep3, hf⟩ := mj_bd hf
    refine mj_callS mJ6_bitCount_0f7a4 [.int p2.1] 12 rfl ll_X0_65 lb_J6_bitCount_0f7a4 li_J6_bitCount_0f7a4 ⟨Nat.le_of_ble_eq_true rfl, Nat.le_of_ble_eq_true rfl⟩ rfl (rest := [.int v1]) rfl (Nat.le_of_ble_eq_true rfl) ⟨Nat.le_of_ble_eq_true rfl, Nat.le_of_ble_eq_true rfl⟩ (c_J6_bitCount_0f7a4 p2.1 p2.2 p3 ep3) ?_
    show mj_W mX0_pairs (mj_FI p) 21 [(0, .ref v0), (1, .int v1), (2, .int v2)] [.int p3.1, .int v1] p3.2 0 0
    refine mj_blk k_X0_ok 13 4 (pc' := 4) (l' := [(2, .int (v2 + (1 : Int32))), (1, .int (v1 + p3.1)), (0, .ref v0)]) (st' := []) rfl ?_
    refine mj_locs [2, 1, 0] (l' := [(0, .ref v0), (1, .int (v1 + p3.1)), (2, .int (v2 + (1 : Int32)))]) rfl ?_
    exact hK4 v0 (v1 + p3.1) (v2 + (1 : Int32)) p3.2 _ hf
def f_X0_pairs_4 (v0 : Nat) (v1 : Int32) (v2 : Int32) (h : mj_H) : Option (Int32 × mj_H) := mj_fix (fun (K4 : (Nat × Int32 × Int32 × mj_H) → Option (Int32 × mj_H)) (s : Nat × Int32 × Int32 × mj_H) => b_X0_pairs_4  (fun v0 v1 v2 h => K4 (v0, v1, v2, h)) s.1 s.2.1 s.2.2.1 s.2.2.2) 1000 (v0, v1, v2, h)
set_option maxHeartbeats 4000000 in
set_option maxRecDepth 100000 in
theorem w_X0_pairs_4 (v0 : Nat) (v1 : Int32) (v2 : Int32) (h : mj_H) (p : Int32 × mj_H) (hf : f_X0_pairs_4  v0 v1 v2 h = some p) : mj_W mX0_pairs (mj_FI p) 4 [(0, .ref v0), (1, .int v1), (2, .int v2)] [] h 0 0 := by
  unfold f_X0_pairs_4 at hf
  exact mj_fix_ind (F := (fun (K4 : (Nat × Int32 × Int32 × mj_H) → Option (Int32 × mj_H)) (s : Nat × Int32 × Int32 × mj_H) => b_X0_pairs_4  (fun v0 v1 v2 h => K4 (v0, v1, v2, h)) s.1 s.2.1 s.2.2.1 s.2.2.2)) (P := fun s p => mj_W mX0_pairs (mj_FI p) 4 [(0, .ref s.1), (1, .int s.2.1), (2, .int s.2.2.1)] [] s.2.2.2 0 0) (fun K4 hK4 s p hf => wb_X0_pairs_4   (fun v0 v1 v2 h => K4 (v0, v1, v2, h)) (fun v0 v1 v2 h p e => hK4 (v0, v1, v2, h) p e) s.1 s.2.1 s.2.2.1 s.2.2.2 p hf) 1000 (v0, v1, v2, h) p hf
def f_X0_pairs (v0 : Nat) (h : mj_H) : Option (Int32 × mj_H) := f_X0_pairs_4 v0 (0 : Int32) (0 : Int32) h
set_option maxHeartbeats 4000000 in
set_option maxRecDepth 100000 in
theorem c_X0_pairs (v0 : Nat) (h : mj_H) (p : Int32 × mj_H) (hf : f_X0_pairs v0 h = some p) : mj_Met mX0_pairs [.ref v0] h (some (.int p.1)) p.2 := by
  refine mj_met pl_X0 tok_X0_pairs (Nat.le_of_ble_eq_true rfl) ?_
  show mj_W mX0_pairs (mj_FI p) 0 [(0, .ref v0)] [] h 0 0
  unfold f_X0_pairs at hf
  refine mj_blk k_X0_ok 0 4 (pc' := 4) (l' := [(2, .int (0 : Int32)), (1, .int (0 : Int32)), (0, .ref v0)]) (st' := []) rfl ?_
  refine mj_locs [2, 1, 0] (l' := [(0, .ref v0), (1, .int (0 : Int32)), (2, .int (0 : Int32))]) rfl ?_
  exact w_X0_pairs_4 v0 (0 : Int32) (0 : Int32) h _ hf
def f_X0_likeliestOf_28 (K4 : Nat → Int32 → Int32 → Int32 → mj_H → Option (Int32 × mj_H)) (v0 : Nat) (v1 : Int32) (v2 : Int32) (v3 : Int32) (h : mj_H) : Option (Int32 × mj_H) := K4 v0 v1 v2 (v3 + (1 : Int32)) h
set_option maxHeartbeats 4000000 in
set_option maxRecDepth 100000 in
theorem w_X0_likeliestOf_28 (K4 : Nat → Int32 → Int32 → Int32 → mj_H → Option (Int32 × mj_H)) (hK4 : ∀ (v0 : Nat) (v1 : Int32) (v2 : Int32) (v3 : Int32)  (h : mj_H) (p : Int32 × mj_H), K4 v0 v1 v2 v3 h = some p → mj_W mX0_likeliestOf (mj_FI p) 4 [(0, .ref v0), (1, .int v1), (2, .int v2), (3, .int v3)] [] h 0 0) (v0 : Nat) (v1 : Int32) (v2 : Int32) (v3 : Int32) (h : mj_H) (p : Int32 × mj_H) (hf : f_X0_likeliestOf_28 K4 v0 v1 v2 v3 h = some p) : mj_W mX0_likeliestOf (mj_FI p) 28 [(0, .ref v0), (1, .int v1), (2, .int v2), (3, .int v3)] [] h 0 0 := by
  unfold f_X0_likeliestOf_28 at hf
  refine mj_blk k_X0_ok 19 2 (pc' := 4) (l' := [(3, .int (v3 + (1 : Int32))), (0, .ref v0), (1, .int v1), (2, .int v2)]) (st' := []) rfl ?_
  refine mj_locs [1, 2, 3, 0] (l' := [(0, .ref v0), (1, .int v1), (2, .int v2), (3, .int (v3 + (1 : Int32)))]) rfl ?_
  exact hK4 v0 v1 v2 (v3 + (1 : Int32)) h _ hf
def b_X0_likeliestOf_4 (K4 : Nat → Int32 → Int32 → Int32 → mj_H → Option (Int32 × mj_H)) (v0 : Nat) (v1 : Int32) (v2 : Int32) (v3 : Int32) (h : mj_H) : Option (Int32 × mj_H) := (if (6 : Int32) ≤ v3 then some (v2, h) else (if mj_ob h v0 0 = true then (f_X0_weightOf v0 v1 v3 h).bind fun p1 => (if mj_ob p1.2 v0 0 = true then (f_X0_weightOf v0 v1 v2 p1.2).bind fun p2 => (if p1.1 ≤ p2.1 then f_X0_likeliestOf_28 K4 v0 v1 v2 v3 p2.2 else f_X0_likeliestOf_28 K4 v0 v1 v3 v3 p2.2) else none) else none))
set_option maxHeartbeats 4000000 in
set_option maxRecDepth 100000 in
theorem wb_X0_likeliestOf_4 (K4 : Nat → Int32 → Int32 → Int32 → mj_H → Option (Int32 × mj_H)) (hK4 : ∀ (v0 : Nat) (v1 : Int32) (v2 : Int32) (v3 : Int32)  (h : mj_H) (p : Int32 × mj_H), K4 v0 v1 v2 v3 h = some p → mj_W mX0_likeliestOf (mj_FI p) 4 [(0, .ref v0), (1, .int v1), (2, .int v2), (3, .int v3)] [] h 0 0) (v0 : Nat) (v1 : Int32) (v2 : Int32) (v3 : Int32) (h : mj_H) (p : Int32 × mj_H) (hf : b_X0_likeliestOf_4  K4 v0 v1 v2 v3 h = some p) : mj_W mX0_likeliestOf (mj_FI p) 4 [(0, .ref v0), (1, .int v1), (2, .int v2), (3, .int v3)] [] h 0 0 := by
  unfold b_X0_likeliestOf_4 at hf
  refine mj_blk k_X0_ok 4 2 (pc' := 7) (l' := [(0, .ref v0), (1, .int v1), (2, .int v2), (3, .int v3)]) (st' := [.int (6 : Int32), .int v3]) rfl ?_
  refine mj_icmp_ge 6 34 rfl (by decide) (fun q => ?_) (fun q => ?_)
  · have hf := (if_pos q).symm.trans hf
    refine mj_blk k_X0_ok 21 1 (pc' := 35) (l' := [(0, .ref v0), (1, .int v1), (2, .int v2), (3, .int v3)]) (st' := [.int v2]) rfl ?_
    obtain rfl := Option.some.inj hf
    exact mj_end (some (.int v2)) ⟨mj_dec tok_X0_likeliestOf (a := 22) rfl, .int, rfl, rfl⟩ ⟨rfl, rfl⟩ (Nat.le_of_ble_eq_true rfl) (Nat.le_of_ble_eq_true rfl)
  · have hf := (if_neg q).symm.trans hf
    refine mj_blk k_X0_ok 7 3 (pc' := 13) (l' := [(0, .ref v0), (1, .int v1), (2, .int v2), (3, .int v3)]) (st' := [.int v3, .int v1, .ref v0]) rfl ?_
    obtain ⟨gp1, hf⟩ := mj_gd hf
    obtain ⟨p1, ep1, hf⟩ := mj_bd hf
    refine mj_callV (T := TX0) (N := 7) (ci := 0) mX0_weightOf [.int v1, .int v3] 10 rfl ll_X0_70 lb_X0_weightOf li_X0_weightOf ⟨Nat.le_of_ble_eq_true rfl, Nat.le_of_ble_eq_true rfl⟩ rfl gp1 rfl (rest := []) rfl (Nat.le_of_ble_eq_true rfl) ⟨Nat.le_of_ble_eq_true rfl, Nat.le_of_ble_eq_true rfl⟩ (c_X0_weightOf v0 v1 v3 h p1 ep1) ?_
    show mj_W mX0_likeliestOf (mj_FI p) 16 [(0, .ref v0), (1, .int v1), (2, .int v2), (3, .int v3)] [.long p1.1] p1.2 0 0
    refine mj_blk k_X0_ok 11 3 (pc' := 19) (l' := [(0, .ref v0), (1, .int v1), (2, .int v2), (3, .int v3)]) (st' := [.int v2, .int v1, .ref v0, .long p1.1]) rfl ?_
    obtain ⟨gp2, hf⟩ := mj_gd hf
    obtain ⟨p2, ep2, hf⟩ := mj_bd hf
    refine mj_callV (T := TX0) (N := 7) (ci := 0) mX0_weightOf [.int v1, .int v2] 14 rfl ll_X0_70 lb_X0_weightOf li_X0_weightOf ⟨Nat.le_of_ble_eq_true rfl, Nat.le_of_ble_eq_true rfl⟩ rfl gp2 rfl (rest := [.long p1.1]) rfl (Nat.le_of_ble_eq_true rfl) ⟨Nat.le_of_ble_eq_true rfl, Nat.le_of_ble_eq_true rfl⟩ (c_X0_weightOf v0 v1 v2 p1.2 p2 ep2) ?_
    show mj_W mX0_likeliestOf (mj_FI p) 22 [(0, .ref v0), (1, .int v1), (2, .int v2), (3, .int v3)] [.long p2.1, .long p1.1] p2.2 0 0
    refine mj_lcmp_le 15 28 rfl rfl (by decide) (fun q => ?_) (fun q => ?_)
    · have hf := (if_pos q).symm.trans hf
      exact w_X0_likeliestOf_28 K4 hK4 v0 v1 v2 v3 p2.2 _ hf
    · have hf := (if_neg q).symm.trans hf
      refine mj_blk k_X0_ok 17 2 (pc' := 28) (l' := [(2, .int v3), (0, .ref v0), (1, .int v1), (3, .int v3)]) (st' := []) rfl ?_
      refine mj_locs [1, 2, 0, 3] (l' := [(0, .ref v0), (1, .int v1), (2, .int v3), (3, .int v3)]) rfl ?_
      exact w_X0_likeliestOf_28 K4 hK4 v0 v1 v3 v3 p2.2 _ hf
def f_X0_likeliestOf_4 (v0 : Nat) (v1 : Int32) (v2 : Int32) (v3 : Int32) (h : mj_H) : Option (Int32 × mj_H) := mj_fix (fun (K4 : (Nat × Int32 × Int32 × Int32 × mj_H) → Option (Int32 × mj_H)) (s : Nat × Int32 × Int32 × Int32 × mj_H) => b_X0_likeliestOf_4  (fun v0 v1 v2 v3 h => K4 (v0, v1, v2, v3, h)) s.1 s.2.1 s.2.2.1 s.2.2.2.1 s.2.2.2.2) 1000 (v0, v1, v2, v3, h)
set_option maxHeartbeats 4000000 in
set_option maxRecDepth 100000 in
theorem w_X0_likeliestOf_4 (v0 : Nat) (v1 : Int32) (v2 : Int32) (v3 : Int32) (h : mj_H) (p : Int32 × mj_H) (hf : f_X0_likeliestOf_4  v0 v1 v2 v3 h = some p) : mj_W mX0_likeliestOf (mj_FI p) 4 [(0, .ref v0), (1, .int v1), (2, .int v2), (3, .int v3)] [] h 0 0 := by
  unfold f_X0_likeliestOf_4 at hf
  exact mj_fix_ind (F := (fun (K4 : (Nat × Int32 × Int32 × Int32 × mj_H) → Option (Int32 × mj_H)) (s : Nat × Int32 × Int32 × Int32 × mj_H) => b_X0_likeliestOf_4  (fun v0 v1 v2 v3 h => K4 (v0, v1, v2, v3, h)) s.1 s.2.1 s.2.2.1 s.2.2.2.1 s.2.2.2.2)) (P := fun s p => mj_W mX0_likeliestOf (mj_FI p) 4 [(0, .ref s.1), (1, .int s.2.1), (2, .int s.2.2.1), (3, .int s.2.2.2.1)] [] s.2.2.2.2 0 0) (fun K4 hK4 s p hf => wb_X0_likeliestOf_4   (fun v0 v1 v2 v3 h => K4 (v0, v1, v2, v3, h)) (fun v0 v1 v2 v3 h p e => hK4 (v0, v1, v2, v3, h) p e) s.1 s.2.1 s.2.2.1 s.2.2.2.1 s.2.2.2.2 p hf) 1000 (v0, v1, v2, v3, h) p hf
def f_X0_likeliestOf (v0 : Nat) (v1 : Int32) (h : mj_H) : Option (Int32 × mj_H) := f_X0_likeliestOf_4 v0 v1 (0 : Int32) (1 : Int32) h
set_option maxHeartbeats 4000000 in
set_option maxRecDepth 100000 in
theorem c_X0_likeliestOf (v0 : Nat) (v1 : Int32) (h : mj_H) (p : Int32 × mj_H) (hf : f_X0_likeliestOf v0 v1 h = some p) : mj_Met mX0_likeliestOf [.ref v0, .int v1] h (some (.int p.1)) p.2 := by
  refine mj_met pl_X0 tok_X0_likeliestOf (Nat.le_of_ble_eq_true rfl) ?_
  show mj_W mX0_likeliestOf (mj_FI p) 0 [(0, .ref v0), (1, .int v1)] [] h 0 0
  unfold f_X0_likeliestOf at hf
  refine mj_blk k_X0_ok 0 4 (pc' := 4) (l' := [(3, .int (1 : Int32)), (2, .int (0 : Int32)), (0, .ref v0), (1, .int v1)]) (st' := []) rfl ?_
  refine mj_locs [2, 3, 1, 0] (l' := [(0, .ref v0), (1, .int v1), (2, .int (0 : Int32)), (3, .int (1 : Int32))]) rfl ?_
  exact w_X0_likeliestOf_4 v0 v1 (0 : Int32) (1 : Int32) h _ hf
def b_X5_load_2 (K2 : Nat → Nat → Int32 → Int32 → mj_H → Option (mj_H)) (v0 : Nat) (v1 : Nat) (v2 : Int32) (v3 : Int32) (h : mj_H) : Option (mj_H) := (if (6 : Int32) ≤ v3 then some h else (mj_gR h v0 5 0).bind fun x1 => (if mj_ob h v1 0 = true then (f_X0_weightOf v1 v2 v3 h).bind fun p2 => (mj_uJ p2.2 x1 v3 p2.1).bind fun h3 => K2 v0 v1 v2 (v3 + (1 : Int32)) h3 else none))
set_option maxHeartbeats 4000000 in
set_option maxRecDepth 100000 in
theorem wb_X5_load_2 (K2 : Nat → Nat → Int32 → Int32 → mj_H → Option (mj_H)) (hK2 : ∀ (v0 : Nat) (v1 : Nat) (v2 : Int32) (v3 : Int32)  (h : mj_H) (p : mj_H), K2 v0 v1 v2 v3 h = some p → mj_W mX5_load (mj_FV p) 2 [(0, .ref v0), (1, .ref v1), (2, .int v2), (3, .int v3)] [] h 0 0) (v0 : Nat) (v1 : Nat) (v2 : Int32) (v3 : Int32) (h : mj_H) (p : mj_H) (hf : b_X5_load_2  K2 v0 v1 v2 v3 h = some p) : mj_W mX5_load (mj_FV p) 2 [(0, .ref v0), (1, .ref v1), (2, .int v2), (3, .int v3)] [] h 0 0 := by
  unfold b_X5_load_2 at hf
  refine mj_blk k_X5_ok 2 2 (pc' := 5) (l' := [(0, .ref v0), (1, .ref v1), (2, .int v2), (3, .int v3)]) (st' := [.int (6 : Int32), .int v3]) rfl ?_
  refine mj_icmp_ge 4 34 rfl (by decide) (fun q => ?_) (fun q => ?_)
  · have hf := (if_pos q).symm.trans hf
    obtain rfl := Option.some.inj hf
    exact mj_end none ⟨mj_dec tok_X5_load (a := 19) rfl, rfl⟩ ⟨rfl, rfl⟩ (Nat.le_of_ble_eq_true rfl) (Nat.le_of_ble_eq_true rfl)
  · have hf := (if_neg q).symm.trans hf
    refine mj_blk k_X5_ok 5 1 (pc' := 9) (l' := [(0, .ref v0), (1, .ref v1), (2, .int v2), (3, .int v3)]) (st' := [.ref v0]) rfl ?_
    obtain ⟨x1, ex1, hf⟩ := mj_bd hf
    refine mj_get 6 rfl fl_X5_9 (mj_gR_V ex1) ?_
    refine mj_blk k_X5_ok 7 2 (pc' := 14) (l' := [(0, .ref v0), (1, .ref v1), (2, .int v2), (3, .int v3)]) (st' := [.ref v1, .int v3, .ref x1]) rfl ?_
    refine mj_ifnonnull 9 21 rfl (by decide) ?_
    refine mj_blk k_X5_ok 12 3 (pc' := 24) (l' := [(0, .ref v0), (1, .ref v1), (2, .int v2), (3, .int v3)]) (st' := [.int v3, .int v2, .ref v1, .int v3, .ref x1]) rfl ?_
    obtain ⟨gp2, hf⟩ := mj_gd hf
    obtain ⟨p2, ep2, hf⟩ := mj_bd hf
    refine mj_callV (T := TX0) (N := 7) (ci := 0) mX0_weightOf [.int v2, .int v3] 15 rfl ll_X5_15 lb_X0_weightOf li_X0_weightOf ⟨Nat.le_of_ble_eq_true rfl, Nat.le_of_ble_eq_true rfl⟩ rfl gp2 rfl (rest := [.int v3, .ref x1]) rfl (Nat.le_of_ble_eq_true rfl) ⟨Nat.le_of_ble_eq_true rfl, Nat.le_of_ble_eq_true rfl⟩ (c_X0_weightOf v1 v2 v3 h p2 ep2) ?_
    show mj_W mX5_load (mj_FV p) 27 [(0, .ref v0), (1, .ref v1), (2, .int v2), (3, .int v3)] [.long p2.1, .int v3, .ref x1] p2.2 0 0
    obtain ⟨h3, eh3, hf⟩ := mj_bd hf
    refine mj_last 16 rfl eh3 ?_
    refine mj_blk k_X5_ok 17 2 (pc' := 2) (l' := [(3, .int (v3 + (1 : Int32))), (0, .ref v0), (1, .ref v1), (2, .int v2)]) (st' := []) rfl ?_
    refine mj_locs [1, 2, 3, 0] (l' := [(0, .ref v0), (1, .ref v1), (2, .int v2), (3, .int (v3 + (1 : Int32)))]) rfl ?_
    exact hK2 v0 v1 v2 (v3 + (1 : Int32)) h3 _ hf
def f_X5_load_2 (v0 : Nat) (v1 : Nat) (v2 : Int32) (v3 : Int32) (h : mj_H) : Option (mj_H) := mj_fix (fun (K2 : (Nat × Nat × Int32 × Int32 × mj_H) → Option (mj_H)) (s : Nat × Nat × Int32 × Int32 × mj_H) => b_X5_load_2  (fun v0 v1 v2 v3 h => K2 (v0, v1, v2, v3, h)) s.1 s.2.1 s.2.2.1 s.2.2.2.1 s.2.2.2.2) 1000 (v0, v1, v2, v3, h)
set_option maxHeartbeats 4000000 in
set_option maxRecDepth 100000 in
theorem w_X5_load_2 (v0 : Nat) (v1 : Nat) (v2 : Int32) (v3 : Int32) (h : mj_H) (p : mj_H) (hf : f_X5_load_2  v0 v1 v2 v3 h = some p) : mj_W mX5_load (mj_FV p) 2 [(0, .ref v0), (1, .ref v1), (2, .int v2), (3, .int v3)] [] h 0 0 := by
  unfold f_X5_load_2 at hf
  exact mj_fix_ind (F := (fun (K2 : (Nat × Nat × Int32 × Int32 × mj_H) → Option (mj_H)) (s : Nat × Nat × Int32 × Int32 × mj_H) => b_X5_load_2  (fun v0 v1 v2 v3 h => K2 (v0, v1, v2, v3, h)) s.1 s.2.1 s.2.2.1 s.2.2.2.1 s.2.2.2.2)) (P := fun s p => mj_W mX5_load (mj_FV p) 2 [(0, .ref s.1), (1, .ref s.2.1), (2, .int s.2.2.1), (3, .int s.2.2.2.1)] [] s.2.2.2.2 0 0) (fun K2 hK2 s p hf => wb_X5_load_2   (fun v0 v1 v2 v3 h => K2 (v0, v1, v2, v3, h)) (fun v0 v1 v2 v3 h p e => hK2 (v0, v1, v2, v3, h) p e) s.1 s.2.1 s.2.2.1 s.2.2.2.1 s.2.2.2.2 p hf) 1000 (v0, v1, v2, v3, h) p hf
def f_X5_load (v0 : Nat) (v1 : Nat) (v2 : Int32) (h : mj_H) : Option (mj_H) := f_X5_load_2 v0 v1 v2 (0 : Int32) h
set_option maxHeartbeats 4000000 in
set_option maxRecDepth 100000 in
theorem c_X5_load (v0 : Nat) (v1 : Nat) (v2 : Int32) (h : mj_H) (p : mj_H) (hf : f_X5_load v0 v1 v2 h = some p) : mj_Met mX5_load [.ref v0, .ref v1, .int v2] h none p := by
  refine mj_met pl_X5 tok_X5_load (Nat.le_of_ble_eq_true rfl) ?_
  show mj_W mX5_load (mj_FV p) 0 [(0, .ref v0), (1, .ref v1), (2, .int v2)] [] h 0 0
  unfold f_X5_load at hf
  refine mj_blk k_X5_ok 0 2 (pc' := 2) (l' := [(3, .int (0 : Int32)), (0, .ref v0), (1, .ref v1), (2, .int v2)]) (st' := []) rfl ?_
  refine mj_locs [1, 2, 3, 0] (l' := [(0, .ref v0), (1, .ref v1), (2, .int v2), (3, .int (0 : Int32))]) rfl ?_
  exact w_X5_load_2 v0 v1 v2 (0 : Int32) h _ hf
def f_X8_casesOf_21 (v0 : Int32) (v1 : Int32) (h : mj_H) : Option (Int32 × mj_H) := (if ((v0 * (4 : Int32)) + v1) < 0 then some ((0 : Int32), h) else (if (Int32.ofNat (mj_roN 0)) ≤ ((v0 * (4 : Int32)) + v1) then some ((0 : Int32), h) else (mj_roA 0 ((v0 * (4 : Int32)) + v1)).bind fun x1 => some (x1, h)))
set_option maxHeartbeats 4000000 in
set_option maxRecDepth 100000 in
theorem w_X8_casesOf_21 (v0 : Int32) (v1 : Int32) (h : mj_H) (p : Int32 × mj_H) (hf : f_X8_casesOf_21  v0 v1 h = some p) : mj_W mX8_casesOf (mj_FI p) 21 [(0, .int v0), (1, .int v1)] [] h 0 0 := by
  unfold f_X8_casesOf_21 at hf
  refine mj_blk k_X8_ok 12 7 (pc' := 28) (l' := [(3, .int ((v0 * (4 : Int32)) + v1)), (0, .int v0), (1, .int v1)]) (st' := [.int ((v0 * (4 : Int32)) + v1)]) rfl ?_
  refine mj_if_lt 19 47 rfl (by decide) (fun q => ?_) (fun q => ?_)
  · have hf := (if_pos q).symm.trans hf
    refine mj_blk k_X8_ok 28 1 (pc' := 48) (l' := [(3, .int ((v0 * (4 : Int32)) + v1)), (0, .int v0), (1, .int v1)]) (st' := [.int (0 : Int32)]) rfl ?_
    obtain rfl := Option.some.inj hf
    exact mj_end (some (.int (0 : Int32))) ⟨mj_dec tok_X8_casesOf (a := 29) rfl, .int, rfl, rfl⟩ ⟨rfl, rfl⟩ (Nat.le_of_ble_eq_true rfl) (Nat.le_of_ble_eq_true rfl)
  · have hf := (if_neg q).symm.trans hf
    refine mj_blk k_X8_ok 20 1 (pc' := 32) (l' := [(3, .int ((v0 * (4 : Int32)) + v1)), (0, .int v0), (1, .int v1)]) (st' := [.int ((v0 * (4 : Int32)) + v1)]) rfl ?_
    refine mj_gets ("RiverChoice", "CASES", 0) 21 rfl (by decide) gs_X8_337 ?_
    refine mj_alenR ("RiverChoice", "CASES", 0) 22 rfl (by decide) ?_
    refine mj_icmp_ge 23 47 rfl (by decide) (fun q => ?_) (fun q => ?_)
    · have hf := (if_pos q).symm.trans hf
      refine mj_blk k_X8_ok 28 1 (pc' := 48) (l' := [(3, .int ((v0 * (4 : Int32)) + v1)), (0, .int v0), (1, .int v1)]) (st' := [.int (0 : Int32)]) rfl ?_
      obtain rfl := Option.some.inj hf
      exact mj_end (some (.int (0 : Int32))) ⟨mj_dec tok_X8_casesOf (a := 29) rfl, .int, rfl, rfl⟩ ⟨rfl, rfl⟩ (Nat.le_of_ble_eq_true rfl) (Nat.le_of_ble_eq_true rfl)
    · have hf := (if_neg q).symm.trans hf
      refine mj_gets ("RiverChoice", "CASES", 0) 24 rfl (by decide) gs_X8_337 ?_
      refine mj_blk k_X8_ok 25 1 (pc' := 43) (l' := [(3, .int ((v0 * (4 : Int32)) + v1)), (0, .int v0), (1, .int v1)]) (st' := [.int ((v0 * (4 : Int32)) + v1), .ref (1000 + 0)]) rfl ?_
      obtain ⟨x1, ex1, hf⟩ := mj_bd hf
      refine mj_ialdR ("RiverChoice", "CASES", 0) 26 rfl (by decide) ex1 ?_
      refine mj_blk k_X8_ok 27 1 (pc' := 48) (l' := [(3, .int ((v0 * (4 : Int32)) + v1)), (0, .int v0), (1, .int v1)]) (st' := [.int x1]) rfl ?_
      obtain rfl := Option.some.inj hf
      exact mj_end (some (.int x1)) ⟨mj_dec tok_X8_casesOf (a := 29) rfl, .int, rfl, rfl⟩ ⟨rfl, rfl⟩ (Nat.le_of_ble_eq_true rfl) (Nat.le_of_ble_eq_true rfl)
def f_X8_casesOf (v0 : Int32) (v1 : Int32) (v2 : Int32) (h : mj_H) : Option (Int32 × mj_H) := (if v1 = 0 then (if v2 = 0 then f_X8_casesOf_21 v0 v1 h else (if v0 = (3 : Int32) then some ((11 : Int32), h) else (if v0 = (5 : Int32) then some ((11 : Int32), h) else f_X8_casesOf_21 v0 v1 h))) else f_X8_casesOf_21 v0 v1 h)
set_option maxHeartbeats 4000000 in
set_option maxRecDepth 100000 in
theorem c_X8_casesOf (v0 : Int32) (v1 : Int32) (v2 : Int32) (h : mj_H) (p : Int32 × mj_H) (hf : f_X8_casesOf v0 v1 v2 h = some p) : mj_Met mX8_casesOf [.int v0, .int v1, .int v2] h (some (.int p.1)) p.2 := by
  refine mj_met pl_X8 tok_X8_casesOf (Nat.le_of_ble_eq_true rfl) ?_
  show mj_W mX8_casesOf (mj_FI p) 0 [(0, .int v0), (1, .int v1), (2, .int v2)] [] h 0 0
  unfold f_X8_casesOf at hf
  refine mj_blk k_X8_ok 0 1 (pc' := 1) (l' := [(0, .int v0), (1, .int v1), (2, .int v2)]) (st' := [.int v1]) rfl ?_
  refine mj_if_ne 1 21 rfl (by decide) (fun q => ?_) (fun q => ?_)
  · have hf := (if_neg q).symm.trans hf
    refine mj_locs [0, 1] (l' := [(0, .int v0), (1, .int v1)]) rfl ?_
    exact w_X8_casesOf_21 v0 v1 h _ hf
  · have hf := (if_pos q).symm.trans hf
    refine mj_blk k_X8_ok 2 1 (pc' := 5) (l' := [(0, .int v0), (1, .int v1), (2, .int v2)]) (st' := [.int v2]) rfl ?_
    refine mj_if_eq 3 21 rfl (by decide) (fun q => ?_) (fun q => ?_)
    · have hf := (if_pos q).symm.trans hf
      refine mj_locs [0, 1] (l' := [(0, .int v0), (1, .int v1)]) rfl ?_
      exact w_X8_casesOf_21 v0 v1 h _ hf
    · have hf := (if_neg q).symm.trans hf
      refine mj_blk k_X8_ok 4 2 (pc' := 10) (l' := [(0, .int v0), (1, .int v1), (2, .int v2)]) (st' := [.int (3 : Int32), .int v0]) rfl ?_
      refine mj_icmp_eq 6 18 rfl (by decide) (fun q => ?_) (fun q => ?_)
      · have hf := (if_pos q).symm.trans hf
        refine mj_blk k_X8_ok 10 1 (pc' := 20) (l' := [(0, .int v0), (1, .int v1), (2, .int v2)]) (st' := [.int (11 : Int32)]) rfl ?_
        obtain rfl := Option.some.inj hf
        exact mj_end (some (.int (11 : Int32))) ⟨mj_dec tok_X8_casesOf (a := 11) rfl, .int, rfl, rfl⟩ ⟨rfl, rfl⟩ (Nat.le_of_ble_eq_true rfl) (Nat.le_of_ble_eq_true rfl)
      · have hf := (if_neg q).symm.trans hf
        refine mj_blk k_X8_ok 7 2 (pc' := 15) (l' := [(0, .int v0), (1, .int v1), (2, .int v2)]) (st' := [.int (5 : Int32), .int v0]) rfl ?_
        refine mj_icmp_ne 9 21 rfl (by decide) (fun q => ?_) (fun q => ?_)
        · have hf := (if_neg q).symm.trans hf
          refine mj_locs [0, 1] (l' := [(0, .int v0), (1, .int v1)]) rfl ?_
          exact w_X8_casesOf_21 v0 v1 h _ hf
        · have hf := (if_pos q).symm.trans hf
          refine mj_blk k_X8_ok 10 1 (pc' := 20) (l' := [(0, .int v0), (1, .int v1), (2, .int v2)]) (st' := [.int (11 : Int32)]) rfl ?_
          obtain rfl := Option.some.inj hf
          exact mj_end (some (.int (11 : Int32))) ⟨mj_dec tok_X8_casesOf (a := 11) rfl, .int, rfl, rfl⟩ ⟨rfl, rfl⟩ (Nat.le_of_ble_eq_true rfl) (Nat.le_of_ble_eq_true rfl)
def b_X5_sum_4 (K4 : Nat → Int64 → Int32 → mj_H → Option (Int64 × mj_H)) (v0 : Nat) (v1 : Int64) (v3 : Int32) (h : mj_H) : Option (Int64 × mj_H) := (if (6 : Int32) ≤ v3 then some (v1, h) else (mj_gR h v0 5 0).bind fun x1 => (mj_aJ h x1 v3).bind fun x2 => K4 v0 (v1 + x2) (v3 + (1 : Int32)) h)
set_option maxHeartbeats 4000000 in
set_option maxRecDepth 100000 in
theorem wb_X5_sum_4 (K4 : Nat → Int64 → Int32 → mj_H → Option (Int64 × mj_H)) (hK4 : ∀ (v0 : Nat) (v1 : Int64) (v3 : Int32)  (h : mj_H) (p : Int64 × mj_H), K4 v0 v1 v3 h = some p → mj_W mX5_sum (mj_FJ p) 4 [(0, .ref v0), (1, .long v1), (3, .int v3)] [] h 0 0) (v0 : Nat) (v1 : Int64) (v3 : Int32) (h : mj_H) (p : Int64 × mj_H) (hf : b_X5_sum_4  K4 v0 v1 v3 h = some p) : mj_W mX5_sum (mj_FJ p) 4 [(0, .ref v0), (1, .long v1), (3, .int v3)] [] h 0 0 := by
  unfold b_X5_sum_4 at hf
  refine mj_blk k_X5_ok 4 2 (pc' := 7) (l' := [(0, .ref v0), (1, .long v1), (3, .int v3)]) (st' := [.int (6 : Int32), .int v3]) rfl ?_
  refine mj_icmp_ge 6 25 rfl (by decide) (fun q => ?_) (fun q => ?_)
  · have hf := (if_pos q).symm.trans hf
    refine mj_blk k_X5_ok 16 1 (pc' := 26) (l' := [(0, .ref v0), (1, .long v1), (3, .int v3)]) (st' := [.long v1]) rfl ?_
    obtain rfl := Option.some.inj hf
    exact mj_end (some (.long v1)) ⟨mj_dec tok_X5_sum (a := 17) rfl, rfl⟩ ⟨rfl, rfl⟩ (Nat.le_of_ble_eq_true rfl) (Nat.le_of_ble_eq_true rfl)
  · have hf := (if_neg q).symm.trans hf
    refine mj_blk k_X5_ok 7 2 (pc' := 12) (l' := [(0, .ref v0), (1, .long v1), (3, .int v3)]) (st' := [.ref v0, .long v1]) rfl ?_
    obtain ⟨x1, ex1, hf⟩ := mj_bd hf
    refine mj_get 9 rfl fl_X5_9 (mj_gR_V ex1) ?_
    refine mj_blk k_X5_ok 10 1 (pc' := 16) (l' := [(0, .ref v0), (1, .long v1), (3, .int v3)]) (st' := [.int v3, .ref x1, .long v1]) rfl ?_
    obtain ⟨x2, ex2, hf⟩ := mj_bd hf
    refine mj_lald 11 rfl ex2 ?_
    refine mj_blk k_X5_ok 12 4 (pc' := 4) (l' := [(3, .int (v3 + (1 : Int32))), (1, .long (v1 + x2)), (0, .ref v0)]) (st' := []) rfl ?_
    refine mj_locs [2, 1, 0] (l' := [(0, .ref v0), (1, .long (v1 + x2)), (3, .int (v3 + (1 : Int32)))]) rfl ?_
    exact hK4 v0 (v1 + x2) (v3 + (1 : Int32)) h _ hf
def f_X5_sum_4 (v0 : Nat) (v1 : Int64) (v3 : Int32) (h : mj_H) : Option (Int64 × mj_H) := mj_fix (fun (K4 : (Nat × Int64 × Int32 × mj_H) → Option (Int64 × mj_H)) (s : Nat × Int64 × Int32 × mj_H) => b_X5_sum_4  (fun v0 v1 v3 h => K4 (v0, v1, v3, h)) s.1 s.2.1 s.2.2.1 s.2.2.2) 1000 (v0, v1, v3, h)
set_option maxHeartbeats 4000000 in
set_option maxRecDepth 100000 in
theorem w_X5_sum_4 (v0 : Nat) (v1 : Int64) (v3 : Int32) (h : mj_H) (p : Int64 × mj_H) (hf : f_X5_sum_4  v0 v1 v3 h = some p) : mj_W mX5_sum (mj_FJ p) 4 [(0, .ref v0), (1, .long v1), (3, .int v3)] [] h 0 0 := by
  unfold f_X5_sum_4 at hf
  exact mj_fix_ind (F := (fun (K4 : (Nat × Int64 × Int32 × mj_H) → Option (Int64 × mj_H)) (s : Nat × Int64 × Int32 × mj_H) => b_X5_sum_4  (fun v0 v1 v3 h => K4 (v0, v1, v3, h)) s.1 s.2.1 s.2.2.1 s.2.2.2)) (P := fun s p => mj_W mX5_sum (mj_FJ p) 4 [(0, .ref s.1), (1, .long s.2.1), (3, .int s.2.2.1)] [] s.2.2.2 0 0) (fun K4 hK4 s p hf => wb_X5_sum_4   (fun v0 v1 v3 h => K4 (v0, v1, v3, h)) (fun v0 v1 v3 h p e => hK4 (v0, v1, v3, h) p e) s.1 s.2.1 s.2.2.1 s.2.2.2 p hf) 1000 (v0, v1, v3, h) p hf
def f_X5_sum (v0 : Nat) (h : mj_H) : Option (Int64 × mj_H) := f_X5_sum_4 v0 (0 : Int64) (0 : Int32) h
set_option maxHeartbeats 4000000 in
set_option maxRecDepth 100000 in
theorem c_X5_sum (v0 : Nat) (h : mj_H) (p : Int64 × mj_H) (hf : f_X5_sum v0 h = some p) : mj_Met mX5_sum [.ref v0] h (some (.long p.1)) p.2 := by
  refine mj_met pl_X5 tok_X5_sum (Nat.le_of_ble_eq_true rfl) ?_
  show mj_W mX5_sum (mj_FJ p) 0 [(0, .ref v0)] [] h 0 0
  unfold f_X5_sum at hf
  refine mj_blk k_X5_ok 0 4 (pc' := 4) (l' := [(3, .int (0 : Int32)), (1, .long (0 : Int64)), (0, .ref v0)]) (st' := []) rfl ?_
  refine mj_locs [2, 1, 0] (l' := [(0, .ref v0), (1, .long (0 : Int64)), (3, .int (0 : Int32))]) rfl ?_
  exact w_X5_sum_4 v0 (0 : Int64) (0 : Int32) h _ hf
def b_X5_chance_5 (K5 : Nat → Int32 → Int32 → Int64 → Int32 → mj_H → Option (Int32 × mj_H)) (v0 : Nat) (v1 : Int32) (v2 : Int32) (v3 : Int64) (v5 : Int32) (h : mj_H) : Option (Int32 × mj_H) := (if (6 : Int32) ≤ v5 then (if mj_ob h v0 5 = true then (f_X5_sum v0 h).bind fun p1 => (if ((12 : Int64) * p1.1) ≤ (0 : Int64) then some ((0 : Int32), p1.2) else (if ((12 : Int64) * p1.1) = 0 then none else some ((((((60 : Int64) * v3) / ((12 : Int64) * p1.1))).toInt32), p1.2))) else none) else (mj_gR h v0 5 0).bind fun x2 => (mj_aJ h x2 v5).bind fun x3 => (f_X8_casesOf v5 v1 v2 h).bind fun p4 => K5 v0 v1 v2 (v3 + (x3 * ((p4.1).toInt64))) (v5 + (1 : Int32)) p4.2)
set_option maxHeartbeats 4000000 in
set_option maxRecDepth 100000 in
theorem wb_X5_chance_5 (K5 : Nat → Int32 → Int32 → Int64 → Int32 → mj_H → Option (Int32 × mj_H)) (hK5 : ∀ (v0 : Nat) (v1 : Int32) (v2 : Int32) (v3 : Int64) (v5 : Int32)  (h : mj_H) (p : Int32 × mj_H), K5 v0 v1 v2 v3 v5 h = some p → mj_W mX5_chance (mj_FI p) 5 [(0, .ref v0), (1, .int v1), (2, .int v2), (3, .long v3), (5, .int v5)] [] h 0 0) (v0 : Nat) (v1 : Int32) (v2 : Int32) (v3 : Int64) (v5 : Int32) (h : mj_H) (p : Int32 × mj_H) (hf : b_X5_chance_5  K5 v0 v1 v2 v3 v5 h = some p) : mj_W mX5_chance (mj_FI p) 5 [(0, .ref v0), (1, .int v1), (2, .int v2), (3, .long v3), (5, .int v5)] [] h 0 0 := by
  unfold b_X5_chance_5 at hf
  refine mj_blk k_X5_ok 4 2 (pc' := 9) (l' := [(0, .ref v0), (1, .int v1), (2, .int v2), (3, .long v3), (5, .int v5)]) (st' := [.int (6 : Int32), .int v5]) rfl ?_
  refine mj_icmp_ge 6 37 rfl (by decide) (fun q => ?_) (fun q => ?_)
  · have hf := (if_pos q).symm.trans hf
    refine mj_blk k_X5_ok 22 2 (pc' := 41) (l' := [(0, .ref v0), (1, .int v1), (2, .int v2), (3, .long v3), (5, .int v5)]) (st' := [.ref v0, .long (12 : Int64)]) rfl ?_
    obtain ⟨gp1, hf⟩ := mj_gd hf
    obtain ⟨p1, ep1, hf⟩ := mj_bd hf
    refine mj_callV (T := TX5) (N := 1) (ci := 5) mX5_sum [] 24 rfl ll_X5_25 lb_X5_sum li_X5_sum ⟨Nat.le_of_ble_eq_true rfl, Nat.le_of_ble_eq_true rfl⟩ rfl gp1 rfl (rest := [.long (12 : Int64)]) rfl (Nat.le_of_ble_eq_true rfl) ⟨Nat.le_of_ble_eq_true rfl, Nat.le_of_ble_eq_true rfl⟩ (c_X5_sum v0 h p1 ep1) ?_
    show mj_W mX5_chance (mj_FI p) 44 [(0, .ref v0), (1, .int v1), (2, .int v2), (3, .long v3), (5, .int v5)] [.long p1.1, .long (12 : Int64)] p1.2 0 0
    refine mj_blk k_X5_ok 25 4 (pc' := 50) (l' := [(5, .long ((12 : Int64) * p1.1)), (0, .ref v0), (1, .int v1), (2, .int v2), (3, .long v3)]) (st' := [.long (0 : Int64), .long ((12 : Int64) * p1.1)]) rfl ?_
    refine mj_lcmp_le 29 66 rfl rfl (by decide) (fun q => ?_) (fun q => ?_)
    · have hf := (if_pos q).symm.trans hf
      refine mj_blk k_X5_ok 38 1 (pc' := 67) (l' := [(5, .long ((12 : Int64) * p1.1)), (0, .ref v0), (1, .int v1), (2, .int v2), (3, .long v3)]) (st' := [.int (0 : Int32)]) rfl ?_
      obtain rfl := Option.some.inj hf
      exact mj_end (some (.int (0 : Int32))) ⟨mj_dec tok_X5_chance (a := 39) rfl, .int, rfl, rfl⟩ ⟨rfl, rfl⟩ (Nat.le_of_ble_eq_true rfl) (Nat.le_of_ble_eq_true rfl)
    · have hf := (if_neg q).symm.trans hf
      refine mj_blk k_X5_ok 31 4 (pc' := 61) (l' := [(5, .long ((12 : Int64) * p1.1)), (0, .ref v0), (1, .int v1), (2, .int v2), (3, .long v3)]) (st' := [.long ((12 : Int64) * p1.1), .long ((60 : Int64) * v3)]) rfl ?_
      obtain ⟨g, hf⟩ := mj_g0 hf
      refine mj_ldiv 35 rfl g ?_
      refine mj_blk k_X5_ok 36 2 (pc' := 67) (l' := [(5, .long ((12 : Int64) * p1.1)), (0, .ref v0), (1, .int v1), (2, .int v2), (3, .long v3)]) (st' := [.int (((((60 : Int64) * v3) / ((12 : Int64) * p1.1))).toInt32)]) rfl ?_
      obtain rfl := Option.some.inj hf
      exact mj_end (some (.int (((((60 : Int64) * v3) / ((12 : Int64) * p1.1))).toInt32))) ⟨mj_dec tok_X5_chance (a := 39) rfl, .int, rfl, rfl⟩ ⟨rfl, rfl⟩ (Nat.le_of_ble_eq_true rfl) (Nat.le_of_ble_eq_true rfl)
  · have hf := (if_neg q).symm.trans hf
    refine mj_blk k_X5_ok 7 2 (pc' := 14) (l' := [(0, .ref v0), (1, .int v1), (2, .int v2), (3, .long v3), (5, .int v5)]) (st' := [.ref v0, .long v3]) rfl ?_
    obtain ⟨x2, ex2, hf⟩ := mj_bd hf
    refine mj_get 9 rfl fl_X5_9 (mj_gR_V ex2) ?_
    refine mj_blk k_X5_ok 10 1 (pc' := 19) (l' := [(0, .ref v0), (1, .int v1), (2, .int v2), (3, .long v3), (5, .int v5)]) (st' := [.int v5, .ref x2, .long v3]) rfl ?_
    obtain ⟨x3, ex3, hf⟩ := mj_bd hf
    refine mj_lald 11 rfl ex3 ?_
    refine mj_blk k_X5_ok 12 3 (pc' := 24) (l' := [(0, .ref v0), (1, .int v1), (2, .int v2), (3, .long v3), (5, .int v5)]) (st' := [.int v2, .int v1, .int v5, .long x3, .long v3]) rfl ?_
    obtain ⟨p4, ep4, hf⟩ := mj_bd hf
    refine mj_callS mX8_casesOf [.int v5, .int v1, .int v2] 15 rfl ll_X5_29 lb_X8_casesOf li_X8_casesOf ⟨Nat.le_of_ble_eq_true rfl, Nat.le_of_ble_eq_true rfl⟩ rfl (rest := [.long x3, .long v3]) rfl (Nat.le_of_ble_eq_true rfl) ⟨Nat.le_of_ble_eq_true rfl, Nat.le_of_ble_eq_true rfl⟩ (c_X8_casesOf v5 v1 v2 h p4 ep4) ?_
    show mj_W mX5_chance (mj_FI p) 27 [(0, .ref v0), (1, .int v1), (2, .int v2), (3, .long v3), (5, .int v5)] [.int p4.1, .long x3, .long v3] p4.2 0 0
    refine mj_blk k_X5_ok 16 6 (pc' := 5) (l' := [(5, .int (v5 + (1 : Int32))), (3, .long (v3 + (x3 * ((p4.1).toInt64)))), (0, .ref v0), (1, .int v1), (2, .int v2)]) (st' := []) rfl ?_
    refine mj_locs [2, 3, 4, 1, 0] (l' := [(0, .ref v0), (1, .int v1), (2, .int v2), (3, .long (v3 + (x3 * ((p4.1).toInt64)))), (5, .int (v5 + (1 : Int32)))]) rfl ?_
    exact hK5 v0 v1 v2 (v3 + (x3 * ((p4.1).toInt64))) (v5 + (1 : Int32)) p4.2 _ hf
def f_X5_chance_5 (v0 : Nat) (v1 : Int32) (v2 : Int32) (v3 : Int64) (v5 : Int32) (h : mj_H) : Option (Int32 × mj_H) := mj_fix (fun (K5 : (Nat × Int32 × Int32 × Int64 × Int32 × mj_H) → Option (Int32 × mj_H)) (s : Nat × Int32 × Int32 × Int64 × Int32 × mj_H) => b_X5_chance_5  (fun v0 v1 v2 v3 v5 h => K5 (v0, v1, v2, v3, v5, h)) s.1 s.2.1 s.2.2.1 s.2.2.2.1 s.2.2.2.2.1 s.2.2.2.2.2) 1000 (v0, v1, v2, v3, v5, h)
set_option maxHeartbeats 4000000 in
set_option maxRecDepth 100000 in
theorem w_X5_chance_5 (v0 : Nat) (v1 : Int32) (v2 : Int32) (v3 : Int64) (v5 : Int32) (h : mj_H) (p : Int32 × mj_H) (hf : f_X5_chance_5  v0 v1 v2 v3 v5 h = some p) : mj_W mX5_chance (mj_FI p) 5 [(0, .ref v0), (1, .int v1), (2, .int v2), (3, .long v3), (5, .int v5)] [] h 0 0 := by
  unfold f_X5_chance_5 at hf
  exact mj_fix_ind (F := (fun (K5 : (Nat × Int32 × Int32 × Int64 × Int32 × mj_H) → Option (Int32 × mj_H)) (s : Nat × Int32 × Int32 × Int64 × Int32 × mj_H) => b_X5_chance_5  (fun v0 v1 v2 v3 v5 h => K5 (v0, v1, v2, v3, v5, h)) s.1 s.2.1 s.2.2.1 s.2.2.2.1 s.2.2.2.2.1 s.2.2.2.2.2)) (P := fun s p => mj_W mX5_chance (mj_FI p) 5 [(0, .ref s.1), (1, .int s.2.1), (2, .int s.2.2.1), (3, .long s.2.2.2.1), (5, .int s.2.2.2.2.1)] [] s.2.2.2.2.2 0 0) (fun K5 hK5 s p hf => wb_X5_chance_5   (fun v0 v1 v2 v3 v5 h => K5 (v0, v1, v2, v3, v5, h)) (fun v0 v1 v2 v3 v5 h p e => hK5 (v0, v1, v2, v3, v5, h) p e) s.1 s.2.1 s.2.2.1 s.2.2.2.1 s.2.2.2.2.1 s.2.2.2.2.2 p hf) 1000 (v0, v1, v2, v3, v5, h) p hf
def f_X5_chance (v0 : Nat) (v1 : Int32) (v2 : Int32) (h : mj_H) : Option (Int32 × mj_H) := f_X5_chance_5 v0 v1 v2 (0 : Int64) (0 : Int32) h
set_option maxHeartbeats 4000000 in
set_option maxRecDepth 100000 in
theorem c_X5_chance (v0 : Nat) (v1 : Int32) (v2 : Int32) (h : mj_H) (p : Int32 × mj_H) (hf : f_X5_chance v0 v1 v2 h = some p) : mj_Met mX5_chance [.ref v0, .int v1, .int v2] h (some (.int p.1)) p.2 := by
  refine mj_met pl_X5 tok_X5_chance (Nat.le_of_ble_eq_true rfl) ?_
  show mj_W mX5_chance (mj_FI p) 0 [(0, .ref v0), (1, .int v1), (2, .int v2)] [] h 0 0
  unfold f_X5_chance at hf
  refine mj_blk k_X5_ok 0 4 (pc' := 5) (l' := [(5, .int (0 : Int32)), (3, .long (0 : Int64)), (0, .ref v0), (1, .int v1), (2, .int v2)]) (st' := []) rfl ?_
  refine mj_locs [2, 3, 4, 1, 0] (l' := [(0, .ref v0), (1, .int v1), (2, .int v2), (3, .long (0 : Int64)), (5, .int (0 : Int32))]) rfl ?_
  exact w_X5_chance_5 v0 v1 v2 (0 : Int64) (0 : Int32) h _ hf
