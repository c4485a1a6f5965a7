/-! printed by wip/whole/gen.py: X9_doItem, X9_read, X9_costOf, X9_isTest, X9_casesOf, X9_sumOf, X9_allOf, X9_shareOf, X9_trustOn, X9_common, X9_weighs, X9_tests, X9_remember, X9_test -/
def f_X9_doItem (v0 : Nat) (v1 : Int32) (h : mj_H) : Option (Int32 × mj_H) := (mj_gR h v0 9 14).bind fun x1 => (mj_aI h x1 (((7 : Int32) * v1) + (1 : Int32))).bind fun x2 => (mj_gR h v0 9 14).bind fun x3 => (mj_aI h x3 (((7 : Int32) * v1) + (2 : Int32))).bind fun x4 => (mj_gR h v0 9 14).bind fun x5 => (mj_aI h x5 ((7 : Int32) * v1)).bind fun x6 => (if x6 = (0 : Int32) then (if mj_ob h v0 9 = true then (f_X9_clean v0 x2 h).bind fun p7 => some ((0 : Int32), p7) else none) else (if x6 = (1 : Int32) then (mj_gR h v0 9 14).bind fun x8 => (mj_gR h v0 9 8).bind fun x9 => (f_X9_copies x8 (((7 : Int32) * v1) + (1 : Int32)) x9 (0 : Int32) (6 : Int32) h).bind fun p10 => (if mj_ob p10 v0 9 = true then (f_X9_doMan v0 p10).bind fun p11 => some (p11.1, p11.2) else none) else (if x6 = (2 : Int32) then (if mj_ob h v0 9 = true then (f_X9_doWorn v0 x2 x4 h).bind fun p12 => some (p12.1, p12.2) else none) else (if x6 = (3 : Int32) then (if mj_ob h v0 9 = true then (f_X9_doPair v0 x2 x4 h).bind fun p13 => some (p13.1, p13.2) else none) else (if mj_ob h v0 9 = true then (f_X9_doWord v0 x2 h).bind fun p14 => some (p14.1, p14.2) else none)))))
set_option maxHeartbeats 4000000 in
set_option maxRecDepth 100000 in
theorem c_X9_doItem (v0 : Nat) (v1 : Int32) (h : mj_H) (p : Int32 × mj_H) (hf : f_X9_doItem v0 v1 h = some p) : mj_Met mX9_doItem [.ref v0, .int v1] h (some (.int p.1)) p.2 := by
  refine mj_met pl_X9 tok_X9_doItem (Nat.le_of_ble_eq_true rfl) ?_
  show mj_W mX9_doItem (mj_FI p) 0 [(0, .ref v0), (1, .int v1)] [] h 0 0
  unfold f_X9_doItem at hf
  refine mj_blk k_X9_ok 0 1 (pc' := 1) (l' := [(0, .ref v0), (1, .int v1)]) (st' := [.ref v0]) rfl ?_
  obtain ⟨x1, ex1, hf⟩ := mj_bd hf
  refine mj_get 1 rfl fl_X9_33 (mj_gR_V ex1) ?_
  refine mj_blk k_X9_ok 2 5 (pc' := 10) (l' := [(0, .ref v0), (1, .int v1)]) (st' := [.int (((7 : Int32) * v1) + (1 : Int32)), .ref x1]) rfl ?_
  obtain ⟨x2, ex2, hf⟩ := mj_bd hf
  refine mj_iald 7 rfl ex2 ?_
  refine mj_blk k_X9_ok 8 2 (pc' := 13) (l' := [(2, .int x2), (0, .ref v0), (1, .int v1)]) (st' := [.ref v0]) rfl ?_
  obtain ⟨x3, ex3, hf⟩ := mj_bd hf
  refine mj_get 10 rfl fl_X9_33 (mj_gR_V ex3) ?_
  refine mj_blk k_X9_ok 11 5 (pc' := 22) (l' := [(2, .int x2), (0, .ref v0), (1, .int v1)]) (st' := [.int (((7 : Int32) * v1) + (2 : Int32)), .ref x3]) rfl ?_
  obtain ⟨x4, ex4, hf⟩ := mj_bd hf
  refine mj_iald 16 rfl ex4 ?_
  refine mj_blk k_X9_ok 17 2 (pc' := 25) (l' := [(3, .int x4), (2, .int x2), (0, .ref v0), (1, .int v1)]) (st' := [.ref v0]) rfl ?_
  obtain ⟨x5, ex5, hf⟩ := mj_bd hf
  refine mj_get 19 rfl fl_X9_33 (mj_gR_V ex5) ?_
  refine mj_blk k_X9_ok 20 3 (pc' := 32) (l' := [(3, .int x4), (2, .int x2), (0, .ref v0), (1, .int v1)]) (st' := [.int ((7 : Int32) * v1), .ref x5]) rfl ?_
  obtain ⟨x6, ex6, hf⟩ := mj_bd hf
  refine mj_iald 23 rfl ex6 ?_
  by_cases q0 : x6 = (0 : Int32)
  · have hf := (if_pos q0).symm.trans hf
    refine mj_swIn 24 (0 : Int32) 64 q0 rfl (by decide) (by decide) rfl (by decide) ?_
    refine mj_blk k_X9_ok 25 2 (pc' := 66) (l' := [(3, .int x4), (2, .int x2), (0, .ref v0), (1, .int v1)]) (st' := [.int x2, .ref v0]) rfl ?_
    obtain ⟨gp7, hf⟩ := mj_gd hf
    obtain ⟨p7, ep7, hf⟩ := mj_bd hf
    refine mj_callV (T := TX9) (N := 20) (ci := 9) mX9_clean [.int x2] 27 rfl ll_X9_49 lb_X9_clean li_X9_clean ⟨Nat.le_of_ble_eq_true rfl, Nat.le_of_ble_eq_true rfl⟩ rfl gp7 rfl (rest := []) rfl (Nat.le_of_ble_eq_true rfl) ⟨Nat.le_of_ble_eq_true rfl, Nat.le_of_ble_eq_true rfl⟩ (c_X9_clean v0 x2 h p7 ep7) ?_
    show mj_W mX9_doItem (mj_FI p) 69 [(3, .int x4), (2, .int x2), (0, .ref v0), (1, .int v1)] [] p7 0 0
    refine mj_blk k_X9_ok 28 1 (pc' := 70) (l' := [(3, .int x4), (2, .int x2), (0, .ref v0), (1, .int v1)]) (st' := [.int (0 : Int32)]) rfl ?_
    obtain rfl := Option.some.inj hf
    exact mj_end (some (.int (0 : Int32))) ⟨mj_dec tok_X9_doItem (a := 29) rfl, .int, rfl, rfl⟩ ⟨rfl, rfl⟩ (Nat.le_of_ble_eq_true rfl) (Nat.le_of_ble_eq_true rfl)
  have hf := (if_neg q0).symm.trans hf
  by_cases q1 : x6 = (1 : Int32)
  · have hf := (if_pos q1).symm.trans hf
    refine mj_swIn 24 (1 : Int32) 71 q1 rfl (by decide) (by decide) rfl (by decide) ?_
    refine mj_blk k_X9_ok 30 1 (pc' := 72) (l' := [(3, .int x4), (2, .int x2), (0, .ref v0), (1, .int v1)]) (st' := [.ref v0]) rfl ?_
    obtain ⟨x8, ex8, hf⟩ := mj_bd hf
    refine mj_get 31 rfl fl_X9_33 (mj_gR_V ex8) ?_
    refine mj_blk k_X9_ok 32 6 (pc' := 82) (l' := [(3, .int x4), (2, .int x2), (0, .ref v0), (1, .int v1)]) (st' := [.ref v0, .int (((7 : Int32) * v1) + (1 : Int32)), .ref x8]) rfl ?_
    obtain ⟨x9, ex9, hf⟩ := mj_bd hf
    refine mj_get 38 rfl fl_X9_30 (mj_gR_V ex9) ?_
    refine mj_blk k_X9_ok 39 2 (pc' := 88) (l' := [(3, .int x4), (2, .int x2), (0, .ref v0), (1, .int v1)]) (st' := [.int (6 : Int32), .int (0 : Int32), .ref x9, .int (((7 : Int32) * v1) + (1 : Int32)), .ref x8]) rfl ?_
    obtain ⟨p10, ep10, hf⟩ := mj_bd hf
    refine mj_callS mX9_copies [.ref x8, .int (((7 : Int32) * v1) + (1 : Int32)), .ref x9, .int (0 : Int32), .int (6 : Int32)] 41 rfl ll_X9_59 lb_X9_copies li_X9_copies ⟨Nat.le_of_ble_eq_true rfl, Nat.le_of_ble_eq_true rfl⟩ rfl (rest := []) rfl (Nat.le_of_ble_eq_true rfl) ⟨Nat.le_of_ble_eq_true rfl, Nat.le_of_ble_eq_true rfl⟩ (c_X9_copies x8 (((7 : Int32) * v1) + (1 : Int32)) x9 (0 : Int32) (6 : Int32) h p10 ep10) ?_
    show mj_W mX9_doItem (mj_FI p) 91 [(3, .int x4), (2, .int x2), (0, .ref v0), (1, .int v1)] [] p10 0 0
    refine mj_blk k_X9_ok 42 1 (pc' := 92) (l' := [(3, .int x4), (2, .int x2), (0, .ref v0), (1, .int v1)]) (st' := [.ref v0]) rfl ?_
    obtain ⟨gp11, hf⟩ := mj_gd hf
    obtain ⟨p11, ep11, hf⟩ := mj_bd hf
    refine mj_callV (T := TX9) (N := 20) (ci := 9) mX9_doMan [] 43 rfl ll_X9_79 lb_X9_doMan li_X9_doMan ⟨Nat.le_of_ble_eq_true rfl, Nat.le_of_ble_eq_true rfl⟩ rfl gp11 rfl (rest := []) rfl (Nat.le_of_ble_eq_true rfl) ⟨Nat.le_of_ble_eq_true rfl, Nat.le_of_ble_eq_true rfl⟩ (c_X9_doMan v0 p10 p11 ep11) ?_
    show mj_W mX9_doItem (mj_FI p) 95 [(3, .int x4), (2, .int x2), (0, .ref v0), (1, .int v1)] [.int p11.1] p11.2 0 0
    obtain rfl := Option.some.inj hf
    exact mj_end (some (.int p11.1)) ⟨mj_dec tok_X9_doItem (a := 44) rfl, .int, rfl, rfl⟩ ⟨rfl, rfl⟩ (Nat.le_of_ble_eq_true rfl) (Nat.le_of_ble_eq_true rfl)
  have hf := (if_neg q1).symm.trans hf
  by_cases q2 : x6 = (2 : Int32)
  · have hf := (if_pos q2).symm.trans hf
    refine mj_swIn 24 (2 : Int32) 96 q2 rfl (by decide) (by decide) rfl (by decide) ?_
    refine mj_blk k_X9_ok 45 3 (pc' := 99) (l' := [(3, .int x4), (2, .int x2), (0, .ref v0), (1, .int v1)]) (st' := [.int x4, .int x2, .ref v0]) rfl ?_
    obtain ⟨gp12, hf⟩ := mj_gd hf
    obtain ⟨p12, ep12, hf⟩ := mj_bd hf
    refine mj_callV (T := TX9) (N := 20) (ci := 9) mX9_doWorn [.int x2, .int x4] 48 rfl ll_X9_86 lb_X9_doWorn li_X9_doWorn ⟨Nat.le_of_ble_eq_true rfl, Nat.le_of_ble_eq_true rfl⟩ rfl gp12 rfl (rest := []) rfl (Nat.le_of_ble_eq_true rfl) ⟨Nat.le_of_ble_eq_true rfl, Nat.le_of_ble_eq_true rfl⟩ (c_X9_doWorn v0 x2 x4 h p12 ep12) ?_
    show mj_W mX9_doItem (mj_FI p) 102 [(3, .int x4), (2, .int x2), (0, .ref v0), (1, .int v1)] [.int p12.1] p12.2 0 0
    obtain rfl := Option.some.inj hf
    exact mj_end (some (.int p12.1)) ⟨mj_dec tok_X9_doItem (a := 49) rfl, .int, rfl, rfl⟩ ⟨rfl, rfl⟩ (Nat.le_of_ble_eq_true rfl) (Nat.le_of_ble_eq_true rfl)
  have hf := (if_neg q2).symm.trans hf
  by_cases q3 : x6 = (3 : Int32)
  · have hf := (if_pos q3).symm.trans hf
    refine mj_swIn 24 (3 : Int32) 103 q3 rfl (by decide) (by decide) rfl (by decide) ?_
    refine mj_blk k_X9_ok 50 3 (pc' := 106) (l' := [(3, .int x4), (2, .int x2), (0, .ref v0), (1, .int v1)]) (st' := [.int x4, .int x2, .ref v0]) rfl ?_
    obtain ⟨gp13, hf⟩ := mj_gd hf
    obtain ⟨p13, ep13, hf⟩ := mj_bd hf
    refine mj_callV (T := TX9) (N := 20) (ci := 9) mX9_doPair [.int x2, .int x4] 53 rfl ll_X9_90 lb_X9_doPair li_X9_doPair ⟨Nat.le_of_ble_eq_true rfl, Nat.le_of_ble_eq_true rfl⟩ rfl gp13 rfl (rest := []) rfl (Nat.le_of_ble_eq_true rfl) ⟨Nat.le_of_ble_eq_true rfl, Nat.le_of_ble_eq_true rfl⟩ (c_X9_doPair v0 x2 x4 h p13 ep13) ?_
    show mj_W mX9_doItem (mj_FI p) 109 [(3, .int x4), (2, .int x2), (0, .ref v0), (1, .int v1)] [.int p13.1] p13.2 0 0
    obtain rfl := Option.some.inj hf
    exact mj_end (some (.int p13.1)) ⟨mj_dec tok_X9_doItem (a := 54) rfl, .int, rfl, rfl⟩ ⟨rfl, rfl⟩ (Nat.le_of_ble_eq_true rfl) (Nat.le_of_ble_eq_true rfl)
  have hf := (if_neg q3).symm.trans hf
  refine mj_swOut 24 110 rfl (by have z0 := mj_neI (i := 0) (by decide) q0; have z1 := mj_neI (i := 1) (by decide) q1; have z2 := mj_neI (i := 2) (by decide) q2; have z3 := mj_neI (i := 3) (by decide) q3; omega) (by decide) ?_
  refine mj_blk k_X9_ok 55 2 (pc' := 112) (l' := [(3, .int x4), (2, .int x2), (0, .ref v0), (1, .int v1)]) (st' := [.int x2, .ref v0]) rfl ?_
  obtain ⟨gp14, hf⟩ := mj_gd hf
  obtain ⟨p14, ep14, hf⟩ := mj_bd hf
  refine mj_callV (T := TX9) (N := 20) (ci := 9) mX9_doWord [.int x2] 57 rfl ll_X9_93 lb_X9_doWord li_X9_doWord ⟨Nat.le_of_ble_eq_true rfl, Nat.le_of_ble_eq_true rfl⟩ rfl gp14 rfl (rest := []) rfl (Nat.le_of_ble_eq_true rfl) ⟨Nat.le_of_ble_eq_true rfl, Nat.le_of_ble_eq_true rfl⟩ (c_X9_doWord v0 x2 h p14 ep14) ?_
  show mj_W mX9_doItem (mj_FI p) 115 [(3, .int x4), (2, .int x2), (0, .ref v0), (1, .int v1)] [.int p14.1] p14.2 0 0
  obtain rfl := Option.some.inj hf
  exact mj_end (some (.int p14.1)) ⟨mj_dec tok_X9_doItem (a := 58) rfl, .int, rfl, rfl⟩ ⟨rfl, rfl⟩ (Nat.le_of_ble_eq_true rfl) (Nat.le_of_ble_eq_true rfl)
def b_X9_read_33 (K33 : Nat → Int32 → mj_H → Option (Int32 × mj_H)) (v0 : Nat) (v2 : Int32) (h : mj_H) : Option (Int32 × mj_H) := (mj_gI h v0 9 15).bind fun x1 => (if x1 ≤ v2 then (mj_gI h v0 9 15).bind fun x2 => some (x2, h) else (if mj_ob h v0 9 = true then (f_X9_doItem v0 v2 h).bind fun p3 => (if 0 ≤ p3.1 then K33 v0 (v2 + (1 : Int32)) p3.2 else (mj_gR p3.2 v0 9 16).bind fun x4 => (mj_gR p3.2 v0 9 0).bind fun x5 => (f_X9_copies x4 (0 : Int32) x5 (0 : Int32) (356 : Int32) p3.2).bind fun p6 => some (((-1000 : Int32) - v2), p6)) else none))
set_option maxHeartbeats 4000000 in
set_option maxRecDepth 100000 in
theorem wb_X9_read_33 (K33 : Nat → Int32 → mj_H → Option (Int32 × mj_H)) (hK33 : ∀ (v0 : Nat) (v2 : Int32)  (h : mj_H) (p : Int32 × mj_H), K33 v0 v2 h = some p → mj_W mX9_read (mj_FI p) 33 [(0, .ref v0), (2, .int v2)] [] h 0 0) (v0 : Nat) (v2 : Int32) (h : mj_H) (p : Int32 × mj_H) (hf : b_X9_read_33  K33 v0 v2 h = some p) : mj_W mX9_read (mj_FI p) 33 [(0, .ref v0), (2, .int v2)] [] h 0 0 := by
  unfold b_X9_read_33 at hf
  refine mj_blk k_X9_ok 20 2 (pc' := 35) (l' := [(0, .ref v0), (2, .int v2)]) (st' := [.ref v0, .int v2]) rfl ?_
  obtain ⟨x1, ex1, hf⟩ := mj_bd hf
  refine mj_get 22 rfl fl_X9_139 (mj_gI_V ex1) ?_
  refine mj_icmp_ge 23 77 rfl (by decide) (fun q => ?_) (fun q => ?_)
  · have hf := (if_pos q).symm.trans hf
    refine mj_blk k_X9_ok 42 1 (pc' := 78) (l' := [(0, .ref v0), (2, .int v2)]) (st' := [.ref v0]) rfl ?_
    obtain ⟨x2, ex2, hf⟩ := mj_bd hf
    refine mj_get 43 rfl fl_X9_139 (mj_gI_V ex2) ?_
    obtain rfl := Option.some.inj hf
    exact mj_end (some (.int x2)) ⟨mj_dec tok_X9_read (a := 44) rfl, .int, rfl, rfl⟩ ⟨rfl, rfl⟩ (Nat.le_of_ble_eq_true rfl) (Nat.le_of_ble_eq_true rfl)
  · have hf := (if_neg q).symm.trans hf
    refine mj_blk k_X9_ok 24 2 (pc' := 43) (l' := [(0, .ref v0), (2, .int v2)]) (st' := [.int v2, .ref v0]) rfl ?_
    obtain ⟨gp3, hf⟩ := mj_gd hf
    obtain ⟨p3, ep3, hf⟩ := mj_bd hf
    refine mj_callV (T := TX9) (N := 20) (ci := 9) mX9_doItem [.int v2] 26 rfl ll_X9_152 lb_X9_doItem li_X9_doItem ⟨Nat.le_of_ble_eq_true rfl, Nat.le_of_ble_eq_true rfl⟩ rfl gp3 rfl (rest := []) rfl (Nat.le_of_ble_eq_true rfl) ⟨Nat.le_of_ble_eq_true rfl, Nat.le_of_ble_eq_true rfl⟩ (c_X9_doItem v0 v2 h p3 ep3) ?_
    show mj_W mX9_read (mj_FI p) 46 [(0, .ref v0), (2, .int v2)] [.int p3.1] p3.2 0 0
    refine mj_if_ge 27 71 rfl (by decide) (fun q => ?_) (fun q => ?_)
    · have hf := (if_pos q).symm.trans hf
      refine mj_blk k_X9_ok 40 2 (pc' := 33) (l' := [(2, .int (v2 + (1 : Int32))), (0, .ref v0)]) (st' := []) rfl ?_
      refine mj_locs [1, 0] (l' := [(0, .ref v0), (2, .int (v2 + (1 : Int32)))]) rfl ?_
      exact hK33 v0 (v2 + (1 : Int32)) p3.2 _ hf
    · have hf := (if_neg q).symm.trans hf
      refine mj_blk k_X9_ok 28 1 (pc' := 50) (l' := [(0, .ref v0), (2, .int v2)]) (st' := [.ref v0]) rfl ?_
      obtain ⟨x4, ex4, hf⟩ := mj_bd hf
      refine mj_get 29 rfl fl_X9_36 (mj_gR_V ex4) ?_
      refine mj_blk k_X9_ok 30 2 (pc' := 55) (l' := [(0, .ref v0), (2, .int v2)]) (st' := [.ref v0, .int (0 : Int32), .ref x4]) rfl ?_
      obtain ⟨x5, ex5, hf⟩ := mj_bd hf
      refine mj_get 32 rfl fl_X9_7 (mj_gR_V ex5) ?_
      refine mj_blk k_X9_ok 33 2 (pc' := 62) (l' := [(0, .ref v0), (2, .int v2)]) (st' := [.int (356 : Int32), .int (0 : Int32), .ref x5, .int (0 : Int32), .ref x4]) rfl ?_
      obtain ⟨p6, ep6, hf⟩ := mj_bd hf
      refine mj_callS mX9_copies [.ref x4, .int (0 : Int32), .ref x5, .int (0 : Int32), .int (356 : Int32)] 35 rfl ll_X9_59 lb_X9_copies li_X9_copies ⟨Nat.le_of_ble_eq_true rfl, Nat.le_of_ble_eq_true rfl⟩ rfl (rest := []) rfl (Nat.le_of_ble_eq_true rfl) ⟨Nat.le_of_ble_eq_true rfl, Nat.le_of_ble_eq_true rfl⟩ (c_X9_copies x4 (0 : Int32) x5 (0 : Int32) (356 : Int32) p3.2 p6 ep6) ?_
      show mj_W mX9_read (mj_FI p) 65 [(0, .ref v0), (2, .int v2)] [] p6 0 0
      refine mj_blk k_X9_ok 36 3 (pc' := 70) (l' := [(0, .ref v0), (2, .int v2)]) (st' := [.int ((-1000 : Int32) - v2)]) rfl ?_
      obtain rfl := Option.some.inj hf
      exact mj_end (some (.int ((-1000 : Int32) - v2))) ⟨mj_dec tok_X9_read (a := 39) rfl, .int, rfl, rfl⟩ ⟨rfl, rfl⟩ (Nat.le_of_ble_eq_true rfl) (Nat.le_of_ble_eq_true rfl)
def f_X9_read_33 (v0 : Nat) (v2 : Int32) (h : mj_H) : Option (Int32 × mj_H) := mj_fix (fun (K33 : (Nat × Int32 × mj_H) → Option (Int32 × mj_H)) (s : Nat × Int32 × mj_H) => b_X9_read_33  (fun v0 v2 h => K33 (v0, v2, h)) s.1 s.2.1 s.2.2) 1000 (v0, v2, h)
set_option maxHeartbeats 4000000 in
set_option maxRecDepth 100000 in
theorem w_X9_read_33 (v0 : Nat) (v2 : Int32) (h : mj_H) (p : Int32 × mj_H) (hf : f_X9_read_33  v0 v2 h = some p) : mj_W mX9_read (mj_FI p) 33 [(0, .ref v0), (2, .int v2)] [] h 0 0 := by
  unfold f_X9_read_33 at hf
  exact mj_fix_ind (F := (fun (K33 : (Nat × Int32 × mj_H) → Option (Int32 × mj_H)) (s : Nat × Int32 × mj_H) => b_X9_read_33  (fun v0 v2 h => K33 (v0, v2, h)) s.1 s.2.1 s.2.2)) (P := fun s p => mj_W mX9_read (mj_FI p) 33 [(0, .ref s.1), (2, .int s.2.1)] [] s.2.2 0 0) (fun K33 hK33 s p hf => wb_X9_read_33   (fun v0 v2 h => K33 (v0, v2, h)) (fun v0 v2 h p e => hK33 (v0, v2, h) p e) s.1 s.2.1 s.2.2 p hf) 1000 (v0, v2, h) p hf
def f_X9_read (v0 : Nat) (h : mj_H) : Option (Int32 × mj_H) := (if mj_ob h v0 9 = true then (f_X9_reads v0 h).bind fun p7 => (if p7.1 = (-1 : Int32) then (mj_gR p7.2 v0 9 0).bind fun x8 => (mj_gR p7.2 v0 9 16).bind fun x9 => (f_X9_copies x8 (0 : Int32) x9 (0 : Int32) (356 : Int32) p7.2).bind fun p10 => f_X9_read_33 v0 (0 : Int32) p10 else some (((-10 : Int32) - p7.1), p7.2)) else none)
set_option maxHeartbeats 4000000 in
set_option maxRecDepth 100000 in
theorem c_X9_read (v0 : Nat) (h : mj_H) (p : Int32 × mj_H) (hf : f_X9_read v0 h = some p) : mj_Met mX9_read [.ref v0] h (some (.int p.1)) p.2 := by
  refine mj_met pl_X9 tok_X9_read (Nat.le_of_ble_eq_true rfl) ?_
  show mj_W mX9_read (mj_FI p) 0 [(0, .ref v0)] [] h 0 0
  unfold f_X9_read at hf
  refine mj_blk k_X9_ok 0 1 (pc' := 1) (l' := [(0, .ref v0)]) (st' := [.ref v0]) rfl ?_
  obtain ⟨gp7, hf⟩ := mj_gd hf
  obtain ⟨p7, ep7, hf⟩ := mj_bd hf
  refine mj_callV (T := TX9) (N := 20) (ci := 9) mX9_reads [] 1 rfl ll_X9_149 lb_X9_reads li_X9_reads ⟨Nat.le_of_ble_eq_true rfl, Nat.le_of_ble_eq_true rfl⟩ rfl gp7 rfl (rest := []) rfl (Nat.le_of_ble_eq_true rfl) ⟨Nat.le_of_ble_eq_true rfl, Nat.le_of_ble_eq_true rfl⟩ (c_X9_reads v0 h p7 ep7) ?_
  show mj_W mX9_read (mj_FI p) 4 [(0, .ref v0)] [.int p7.1] p7.2 0 0
  refine mj_blk k_X9_ok 2 3 (pc' := 7) (l' := [(1, .int p7.1), (0, .ref v0)]) (st' := [.int (-1 : Int32), .int p7.1]) rfl ?_
  refine mj_icmp_eq 5 15 rfl (by decide) (fun q => ?_) (fun q => ?_)
  · have hf := (if_pos q).symm.trans hf
    refine mj_blk k_X9_ok 10 1 (pc' := 16) (l' := [(1, .int p7.1), (0, .ref v0)]) (st' := [.ref v0]) rfl ?_
    obtain ⟨x8, ex8, hf⟩ := mj_bd hf
    refine mj_get 11 rfl fl_X9_7 (mj_gR_V ex8) ?_
    refine mj_blk k_X9_ok 12 2 (pc' := 21) (l' := [(1, .int p7.1), (0, .ref v0)]) (st' := [.ref v0, .int (0 : Int32), .ref x8]) rfl ?_
    obtain ⟨x9, ex9, hf⟩ := mj_bd hf
    refine mj_get 14 rfl fl_X9_36 (mj_gR_V ex9) ?_
    refine mj_blk k_X9_ok 15 2 (pc' := 28) (l' := [(1, .int p7.1), (0, .ref v0)]) (st' := [.int (356 : Int32), .int (0 : Int32), .ref x9, .int (0 : Int32), .ref x8]) rfl ?_
    obtain ⟨p10, ep10, hf⟩ := mj_bd hf
    refine mj_callS mX9_copies [.ref x8, .int (0 : Int32), .ref x9, .int (0 : Int32), .int (356 : Int32)] 17 rfl ll_X9_59 lb_X9_copies li_X9_copies ⟨Nat.le_of_ble_eq_true rfl, Nat.le_of_ble_eq_true rfl⟩ rfl (rest := []) rfl (Nat.le_of_ble_eq_true rfl) ⟨Nat.le_of_ble_eq_true rfl, Nat.le_of_ble_eq_true rfl⟩ (c_X9_copies x8 (0 : Int32) x9 (0 : Int32) (356 : Int32) p7.2 p10 ep10) ?_
    show mj_W mX9_read (mj_FI p) 31 [(1, .int p7.1), (0, .ref v0)] [] p10 0 0
    refine mj_blk k_X9_ok 18 2 (pc' := 33) (l' := [(2, .int (0 : Int32)), (1, .int p7.1), (0, .ref v0)]) (st' := []) rfl ?_
    refine mj_locs [2, 0] (l' := [(0, .ref v0), (2, .int (0 : Int32))]) rfl ?_
    exact w_X9_read_33 v0 (0 : Int32) p10 _ hf
  · have hf := (if_neg q).symm.trans hf
    refine mj_blk k_X9_ok 6 3 (pc' := 14) (l' := [(1, .int p7.1), (0, .ref v0)]) (st' := [.int ((-10 : Int32) - p7.1)]) rfl ?_
    obtain rfl := Option.some.inj hf
    exact mj_end (some (.int ((-10 : Int32) - p7.1))) ⟨mj_dec tok_X9_read (a := 9) rfl, .int, rfl, rfl⟩ ⟨rfl, rfl⟩ (Nat.le_of_ble_eq_true rfl) (Nat.le_of_ble_eq_true rfl)
def f_X9_costOf (v0 : Int32) (h : mj_H) : Option (Int32 × mj_H) := (if v0 = 0 then some ((2 : Int32), h) else (if v0 = (1 : Int32) then some ((5 : Int32), h) else some ((3 : Int32), h)))
set_option maxHeartbeats 4000000 in
set_option maxRecDepth 100000 in
theorem c_X9_costOf (v0 : Int32) (h : mj_H) (p : Int32 × mj_H) (hf : f_X9_costOf v0 h = some p) : mj_Met mX9_costOf [.int v0] h (some (.int p.1)) p.2 := by
  refine mj_met pl_X9 tok_X9_costOf (Nat.le_of_ble_eq_true rfl) ?_
  show mj_W mX9_costOf (mj_FI p) 0 [(0, .int v0)] [] h 0 0
  unfold f_X9_costOf at hf
  refine mj_blk k_X9_ok 0 1 (pc' := 1) (l' := [(0, .int v0)]) (st' := [.int v0]) rfl ?_
  refine mj_if_ne 1 8 rfl (by decide) (fun q => ?_) (fun q => ?_)
  · have hf := (if_neg q).symm.trans hf
    refine mj_blk k_X9_ok 4 2 (pc' := 10) (l' := [(0, .int v0)]) (st' := [.int (1 : Int32), .int v0]) rfl ?_
    refine mj_icmp_ne 6 17 rfl (by decide) (fun q => ?_) (fun q => ?_)
    · have hf := (if_neg q).symm.trans hf
      refine mj_blk k_X9_ok 9 1 (pc' := 18) (l' := [(0, .int v0)]) (st' := [.int (3 : Int32)]) rfl ?_
      obtain rfl := Option.some.inj hf
      exact mj_end (some (.int (3 : Int32))) ⟨mj_dec tok_X9_costOf (a := 10) rfl, .int, rfl, rfl⟩ ⟨rfl, rfl⟩ (Nat.le_of_ble_eq_true rfl) (Nat.le_of_ble_eq_true rfl)
    · have hf := (if_pos q).symm.trans hf
      refine mj_blk k_X9_ok 7 2 (pc' := 18) (l' := [(0, .int v0)]) (st' := [.int (5 : Int32)]) rfl ?_
      obtain rfl := Option.some.inj hf
      exact mj_end (some (.int (5 : Int32))) ⟨mj_dec tok_X9_costOf (a := 10) rfl, .int, rfl, rfl⟩ ⟨rfl, rfl⟩ (Nat.le_of_ble_eq_true rfl) (Nat.le_of_ble_eq_true rfl)
  · have hf := (if_pos q).symm.trans hf
    refine mj_blk k_X9_ok 2 2 (pc' := 18) (l' := [(0, .int v0)]) (st' := [.int (2 : Int32)]) rfl ?_
    obtain rfl := Option.some.inj hf
    exact mj_end (some (.int (2 : Int32))) ⟨mj_dec tok_X9_costOf (a := 10) rfl, .int, rfl, rfl⟩ ⟨rfl, rfl⟩ (Nat.le_of_ble_eq_true rfl) (Nat.le_of_ble_eq_true rfl)
def f_X9_isTest (v0 : Int32) (h : mj_H) : Option (Int32 × mj_H) := (f_X9_in ((v0).toInt64) (0 : Int64) (2 : Int64) h).bind fun p1 => (if p1.1 = 0 ∨ p1.1 = 1 then some (p1.1, p1.2) else none)
set_option maxHeartbeats 4000000 in
set_option maxRecDepth 100000 in
theorem c_X9_isTest (v0 : Int32) (h : mj_H) (p : Int32 × mj_H) (hf : f_X9_isTest v0 h = some p) : mj_Met mX9_isTest [.int v0] h (some (.int p.1)) p.2 := by
  refine mj_met pl_X9 tok_X9_isTest (Nat.le_of_ble_eq_true rfl) ?_
  show mj_W mX9_isTest (mj_FI p) 0 [(0, .int v0)] [] h 0 0
  unfold f_X9_isTest at hf
  refine mj_blk k_X9_ok 0 4 (pc' := 6) (l' := [(0, .int v0)]) (st' := [.long (2 : Int64), .long (0 : Int64), .long ((v0).toInt64)]) rfl ?_
  obtain ⟨p1, ep1, hf⟩ := mj_bd hf
  refine mj_callS mX9_in [.long ((v0).toInt64), .long (0 : Int64), .long (2 : Int64)] 4 rfl ll_X9_53 lb_X9_in li_X9_in ⟨Nat.le_of_ble_eq_true rfl, Nat.le_of_ble_eq_true rfl⟩ rfl (rest := []) rfl (Nat.le_of_ble_eq_true rfl) ⟨Nat.le_of_ble_eq_true rfl, Nat.le_of_ble_eq_true rfl⟩ (c_X9_in ((v0).toInt64) (0 : Int64) (2 : Int64) h p1 ep1) ?_
  show mj_W mX9_isTest (mj_FI p) 9 [(0, .int v0)] [.int p1.1] p1.2 0 0
  obtain ⟨g, hf⟩ := mj_gp hf
  obtain rfl := Option.some.inj hf
  exact mj_end (some (.int p1.1)) ⟨mj_dec tok_X9_isTest (a := 5) rfl, .boolean, rfl, mj_bool g⟩ ⟨rfl, rfl⟩ (Nat.le_of_ble_eq_true rfl) (Nat.le_of_ble_eq_true rfl)
def f_X9_casesOf_138 (v0 : Int32) (v1 : Int32) (v3 : Int32) (h : mj_H) : Option (Int32 × mj_H) := (if v0 = (5 : Int32) then (if v1 = (2 : Int32) then some ((1 : Int32), h) else some ((v3 - (3 : Int32)), h)) else some ((v3 - (3 : Int32)), h))
set_option maxHeartbeats 4000000 in
set_option maxRecDepth 100000 in
theorem w_X9_casesOf_138 (v0 : Int32) (v1 : Int32) (v3 : Int32) (h : mj_H) (p : Int32 × mj_H) (hf : f_X9_casesOf_138  v0 v1 v3 h = some p) : mj_W mX9_casesOf (mj_FI p) 138 [(0, .int v0), (1, .int v1), (3, .int v3)] [] h 0 0 := by
  unfold f_X9_casesOf_138 at hf
  refine mj_blk k_X9_ok 68 2 (pc' := 140) (l' := [(0, .int v0), (1, .int v1), (3, .int v3)]) (st' := [.int (5 : Int32), .int v0]) rfl ?_
  refine mj_icmp_ne 70 152 rfl (by decide) (fun q => ?_) (fun q => ?_)
  · have hf := (if_neg q).symm.trans hf
    refine mj_blk k_X9_ok 76 3 (pc' := 155) (l' := [(0, .int v0), (1, .int v1), (3, .int v3)]) (st' := [.int (v3 - (3 : Int32))]) rfl ?_
    obtain rfl := Option.some.inj hf
    exact mj_end (some (.int (v3 - (3 : Int32)))) ⟨mj_dec tok_X9_casesOf (a := 79) rfl, .int, rfl, rfl⟩ ⟨rfl, rfl⟩ (Nat.le_of_ble_eq_true rfl) (Nat.le_of_ble_eq_true rfl)
  · have hf := (if_pos q).symm.trans hf
    refine mj_blk k_X9_ok 71 2 (pc' := 145) (l' := [(0, .int v0), (1, .int v1), (3, .int v3)]) (st' := [.int (2 : Int32), .int v1]) rfl ?_
    refine mj_icmp_ne 73 152 rfl (by decide) (fun q => ?_) (fun q => ?_)
    · have hf := (if_neg q).symm.trans hf
      refine mj_blk k_X9_ok 76 3 (pc' := 155) (l' := [(0, .int v0), (1, .int v1), (3, .int v3)]) (st' := [.int (v3 - (3 : Int32))]) rfl ?_
      obtain rfl := Option.some.inj hf
      exact mj_end (some (.int (v3 - (3 : Int32)))) ⟨mj_dec tok_X9_casesOf (a := 79) rfl, .int, rfl, rfl⟩ ⟨rfl, rfl⟩ (Nat.le_of_ble_eq_true rfl) (Nat.le_of_ble_eq_true rfl)
    · have hf := (if_pos q).symm.trans hf
      refine mj_blk k_X9_ok 74 2 (pc' := 155) (l' := [(0, .int v0), (1, .int v1), (3, .int v3)]) (st' := [.int (1 : Int32)]) rfl ?_
      obtain rfl := Option.some.inj hf
      exact mj_end (some (.int (1 : Int32))) ⟨mj_dec tok_X9_casesOf (a := 79) rfl, .int, rfl, rfl⟩ ⟨rfl, rfl⟩ (Nat.le_of_ble_eq_true rfl) (Nat.le_of_ble_eq_true rfl)
def f_X9_casesOf_107 (v0 : Int32) (v1 : Int32) (v2 : Int32) (v3 : Int32) (h : mj_H) : Option (Int32 × mj_H) := (if v1 = (3 : Int32) then (if v0 = (5 : Int32) then some ((0 : Int32), h) else some ((v3 - (5 : Int32)), h)) else (if v1 = 0 then (if v2 = 0 then f_X9_casesOf_138 v0 v1 v3 h else some ((11 : Int32), h)) else f_X9_casesOf_138 v0 v1 v3 h))
set_option maxHeartbeats 4000000 in
set_option maxRecDepth 100000 in
theorem w_X9_casesOf_107 (v0 : Int32) (v1 : Int32) (v2 : Int32) (v3 : Int32) (h : mj_H) (p : Int32 × mj_H) (hf : f_X9_casesOf_107  v0 v1 v2 v3 h = some p) : mj_W mX9_casesOf (mj_FI p) 107 [(0, .int v0), (1, .int v1), (2, .int v2), (3, .int v3)] [] h 0 0 := by
  unfold f_X9_casesOf_107 at hf
  refine mj_blk k_X9_ok 50 2 (pc' := 109) (l' := [(0, .int v0), (1, .int v1), (2, .int v2), (3, .int v3)]) (st' := [.int (3 : Int32), .int v1]) rfl ?_
  refine mj_icmp_ne 52 125 rfl (by decide) (fun q => ?_) (fun q => ?_)
  · have hf := (if_neg q).symm.trans hf
    refine mj_blk k_X9_ok 62 1 (pc' := 126) (l' := [(0, .int v0), (1, .int v1), (2, .int v2), (3, .int v3)]) (st' := [.int v1]) rfl ?_
    refine mj_if_ne 63 138 rfl (by decide) (fun q => ?_) (fun q => ?_)
    · have hf := (if_neg q).symm.trans hf
      refine mj_locs [0, 1, 3] (l' := [(0, .int v0), (1, .int v1), (3, .int v3)]) rfl ?_
      exact w_X9_casesOf_138 v0 v1 v3 h _ hf
    · have hf := (if_pos q).symm.trans hf
      refine mj_blk k_X9_ok 64 1 (pc' := 130) (l' := [(0, .int v0), (1, .int v1), (2, .int v2), (3, .int v3)]) (st' := [.int v2]) rfl ?_
      refine mj_if_eq 65 138 rfl (by decide) (fun q => ?_) (fun q => ?_)
      · have hf := (if_pos q).symm.trans hf
        refine mj_locs [0, 1, 3] (l' := [(0, .int v0), (1, .int v1), (3, .int v3)]) rfl ?_
        exact w_X9_casesOf_138 v0 v1 v3 h _ hf
      · have hf := (if_neg q).symm.trans hf
        refine mj_blk k_X9_ok 66 2 (pc' := 155) (l' := [(0, .int v0), (1, .int v1), (2, .int v2), (3, .int v3)]) (st' := [.int (11 : Int32)]) rfl ?_
        obtain rfl := Option.some.inj hf
        exact mj_end (some (.int (11 : Int32))) ⟨mj_dec tok_X9_casesOf (a := 79) rfl, .int, rfl, rfl⟩ ⟨rfl, rfl⟩ (Nat.le_of_ble_eq_true rfl) (Nat.le_of_ble_eq_true rfl)
  · have hf := (if_pos q).symm.trans hf
    refine mj_blk k_X9_ok 53 2 (pc' := 114) (l' := [(0, .int v0), (1, .int v1), (2, .int v2), (3, .int v3)]) (st' := [.int (5 : Int32), .int v0]) rfl ?_
    refine mj_icmp_ne 55 121 rfl (by decide) (fun q => ?_) (fun q => ?_)
    · have hf := (if_neg q).symm.trans hf
      refine mj_blk k_X9_ok 58 3 (pc' := 124) (l' := [(0, .int v0), (1, .int v1), (2, .int v2), (3, .int v3)]) (st' := [.int (v3 - (5 : Int32))]) rfl ?_
      obtain rfl := Option.some.inj hf
      exact mj_end (some (.int (v3 - (5 : Int32)))) ⟨mj_dec tok_X9_casesOf (a := 61) rfl, .int, rfl, rfl⟩ ⟨rfl, rfl⟩ (Nat.le_of_ble_eq_true rfl) (Nat.le_of_ble_eq_true rfl)
    · have hf := (if_pos q).symm.trans hf
      refine mj_blk k_X9_ok 56 2 (pc' := 124) (l' := [(0, .int v0), (1, .int v1), (2, .int v2), (3, .int v3)]) (st' := [.int (0 : Int32)]) rfl ?_
      obtain rfl := Option.some.inj hf
      exact mj_end (some (.int (0 : Int32))) ⟨mj_dec tok_X9_casesOf (a := 61) rfl, .int, rfl, rfl⟩ ⟨rfl, rfl⟩ (Nat.le_of_ble_eq_true rfl) (Nat.le_of_ble_eq_true rfl)
def f_X9_casesOf_14 (v0 : Int32) (v1 : Int32) (v2 : Int32) (s0 : Int32) (h : mj_H) : Option (Int32 × mj_H) := (if v0 = (0 : Int32) then some (s0, h) else (if v0 = (1 : Int32) then (if v1 = (3 : Int32) then some ((s0 + (4 : Int32)), h) else some ((s0 + (3 : Int32)), h)) else (if v0 = (2 : Int32) then (if v1 = (3 : Int32) then some ((s0 - (4 : Int32)), h) else some ((s0 - (3 : Int32)), h)) else (if v0 = (3 : Int32) then f_X9_casesOf_107 v0 v1 v2 s0 h else (if v0 = (4 : Int32) then (if v1 = (3 : Int32) then some ((s0 + (5 : Int32)), h) else (if v1 = 0 then some (((s0 + (3 : Int32)) / (2 : Int32)), h) else some ((s0 + (5 : Int32)), h))) else f_X9_casesOf_107 v0 v1 v2 s0 h)))))
set_option maxHeartbeats 4000000 in
set_option maxRecDepth 100000 in
theorem w_X9_casesOf_14 (v0 : Int32) (v1 : Int32) (v2 : Int32) (s0 : Int32) (h : mj_H) (p : Int32 × mj_H) (hf : f_X9_casesOf_14  v0 v1 v2 s0 h = some p) : mj_W mX9_casesOf (mj_FI p) 14 [(0, .int v0), (1, .int v1), (2, .int v2)] [.int s0] h 0 0 := by
  unfold f_X9_casesOf_14 at hf
  refine mj_blk k_X9_ok 8 2 (pc' := 16) (l' := [(3, .int s0), (0, .int v0), (1, .int v1), (2, .int v2)]) (st' := [.int v0]) rfl ?_
  by_cases q0 : v0 = (0 : Int32)
  · have hf := (if_pos q0).symm.trans hf
    refine mj_swIn 10 (0 : Int32) 52 q0 rfl (by decide) (by decide) rfl (by decide) ?_
    refine mj_blk k_X9_ok 11 1 (pc' := 53) (l' := [(3, .int s0), (0, .int v0), (1, .int v1), (2, .int v2)]) (st' := [.int s0]) rfl ?_
    obtain rfl := Option.some.inj hf
    exact mj_end (some (.int s0)) ⟨mj_dec tok_X9_casesOf (a := 12) rfl, .int, rfl, rfl⟩ ⟨rfl, rfl⟩ (Nat.le_of_ble_eq_true rfl) (Nat.le_of_ble_eq_true rfl)
  have hf := (if_neg q0).symm.trans hf
  by_cases q1 : v0 = (1 : Int32)
  · have hf := (if_pos q1).symm.trans hf
    refine mj_swIn 10 (1 : Int32) 54 q1 rfl (by decide) (by decide) rfl (by decide) ?_
    refine mj_blk k_X9_ok 13 3 (pc' := 57) (l' := [(3, .int s0), (0, .int v0), (1, .int v1), (2, .int v2)]) (st' := [.int (3 : Int32), .int v1, .int s0]) rfl ?_
    refine mj_icmp_ne 16 64 rfl (by decide) (fun q => ?_) (fun q => ?_)
    · have hf := (if_neg q).symm.trans hf
      refine mj_blk k_X9_ok 19 2 (pc' := 66) (l' := [(3, .int s0), (0, .int v0), (1, .int v1), (2, .int v2)]) (st' := [.int (s0 + (3 : Int32))]) rfl ?_
      obtain rfl := Option.some.inj hf
      exact mj_end (some (.int (s0 + (3 : Int32)))) ⟨mj_dec tok_X9_casesOf (a := 21) rfl, .int, rfl, rfl⟩ ⟨rfl, rfl⟩ (Nat.le_of_ble_eq_true rfl) (Nat.le_of_ble_eq_true rfl)
    · have hf := (if_pos q).symm.trans hf
      refine mj_blk k_X9_ok 17 2 (pc' := 65) (l' := [(3, .int s0), (0, .int v0), (1, .int v1), (2, .int v2)]) (st' := [.int (4 : Int32), .int s0]) rfl ?_
      refine mj_blk k_X9_ok 20 1 (pc' := 66) (l' := [(3, .int s0), (0, .int v0), (1, .int v1), (2, .int v2)]) (st' := [.int (s0 + (4 : Int32))]) rfl ?_
      obtain rfl := Option.some.inj hf
      exact mj_end (some (.int (s0 + (4 : Int32)))) ⟨mj_dec tok_X9_casesOf (a := 21) rfl, .int, rfl, rfl⟩ ⟨rfl, rfl⟩ (Nat.le_of_ble_eq_true rfl) (Nat.le_of_ble_eq_true rfl)
  have hf := (if_neg q1).symm.trans hf
  by_cases q2 : v0 = (2 : Int32)
  · have hf := (if_pos q2).symm.trans hf
    refine mj_swIn 10 (2 : Int32) 67 q2 rfl (by decide) (by decide) rfl (by decide) ?_
    refine mj_blk k_X9_ok 22 3 (pc' := 70) (l' := [(3, .int s0), (0, .int v0), (1, .int v1), (2, .int v2)]) (st' := [.int (3 : Int32), .int v1, .int s0]) rfl ?_
    refine mj_icmp_ne 25 77 rfl (by decide) (fun q => ?_) (fun q => ?_)
    · have hf := (if_neg q).symm.trans hf
      refine mj_blk k_X9_ok 28 2 (pc' := 79) (l' := [(3, .int s0), (0, .int v0), (1, .int v1), (2, .int v2)]) (st' := [.int (s0 - (3 : Int32))]) rfl ?_
      obtain rfl := Option.some.inj hf
      exact mj_end (some (.int (s0 - (3 : Int32)))) ⟨mj_dec tok_X9_casesOf (a := 30) rfl, .int, rfl, rfl⟩ ⟨rfl, rfl⟩ (Nat.le_of_ble_eq_true rfl) (Nat.le_of_ble_eq_true rfl)
    · have hf := (if_pos q).symm.trans hf
      refine mj_blk k_X9_ok 26 2 (pc' := 78) (l' := [(3, .int s0), (0, .int v0), (1, .int v1), (2, .int v2)]) (st' := [.int (4 : Int32), .int s0]) rfl ?_
      refine mj_blk k_X9_ok 29 1 (pc' := 79) (l' := [(3, .int s0), (0, .int v0), (1, .int v1), (2, .int v2)]) (st' := [.int (s0 - (4 : Int32))]) rfl ?_
      obtain rfl := Option.some.inj hf
      exact mj_end (some (.int (s0 - (4 : Int32)))) ⟨mj_dec tok_X9_casesOf (a := 30) rfl, .int, rfl, rfl⟩ ⟨rfl, rfl⟩ (Nat.le_of_ble_eq_true rfl) (Nat.le_of_ble_eq_true rfl)
  have hf := (if_neg q2).symm.trans hf
  by_cases q3 : v0 = (3 : Int32)
  · have hf := (if_pos q3).symm.trans hf
    refine mj_swIn 10 (3 : Int32) 107 q3 rfl (by decide) (by decide) rfl (by decide) ?_
    refine mj_locs [1, 2, 3, 0] (l' := [(0, .int v0), (1, .int v1), (2, .int v2), (3, .int s0)]) rfl ?_
    exact w_X9_casesOf_107 v0 v1 v2 s0 h _ hf
  have hf := (if_neg q3).symm.trans hf
  by_cases q4 : v0 = (4 : Int32)
  · have hf := (if_pos q4).symm.trans hf
    refine mj_swIn 10 (4 : Int32) 80 q4 rfl (by decide) (by decide) rfl (by decide) ?_
    refine mj_blk k_X9_ok 31 2 (pc' := 82) (l' := [(3, .int s0), (0, .int v0), (1, .int v1), (2, .int v2)]) (st' := [.int (3 : Int32), .int v1]) rfl ?_
    refine mj_icmp_ne 33 91 rfl (by decide) (fun q => ?_) (fun q => ?_)
    · have hf := (if_neg q).symm.trans hf
      refine mj_blk k_X9_ok 38 1 (pc' := 92) (l' := [(3, .int s0), (0, .int v0), (1, .int v1), (2, .int v2)]) (st' := [.int v1]) rfl ?_
      refine mj_if_ne 39 103 rfl (by decide) (fun q => ?_) (fun q => ?_)
      · have hf := (if_neg q).symm.trans hf
        refine mj_blk k_X9_ok 46 3 (pc' := 106) (l' := [(3, .int s0), (0, .int v0), (1, .int v1), (2, .int v2)]) (st' := [.int (s0 + (5 : Int32))]) rfl ?_
        obtain rfl := Option.some.inj hf
        exact mj_end (some (.int (s0 + (5 : Int32)))) ⟨mj_dec tok_X9_casesOf (a := 49) rfl, .int, rfl, rfl⟩ ⟨rfl, rfl⟩ (Nat.le_of_ble_eq_true rfl) (Nat.le_of_ble_eq_true rfl)
      · have hf := (if_pos q).symm.trans hf
        refine mj_blk k_X9_ok 40 4 (pc' := 99) (l' := [(3, .int s0), (0, .int v0), (1, .int v1), (2, .int v2)]) (st' := [.int (2 : Int32), .int (s0 + (3 : Int32))]) rfl ?_
        refine mj_idiv 44 rfl (by decide) ?_
        refine mj_blk k_X9_ok 45 1 (pc' := 106) (l' := [(3, .int s0), (0, .int v0), (1, .int v1), (2, .int v2)]) (st' := [.int ((s0 + (3 : Int32)) / (2 : Int32))]) rfl ?_
        obtain rfl := Option.some.inj hf
        exact mj_end (some (.int ((s0 + (3 : Int32)) / (2 : Int32)))) ⟨mj_dec tok_X9_casesOf (a := 49) rfl, .int, rfl, rfl⟩ ⟨rfl, rfl⟩ (Nat.le_of_ble_eq_true rfl) (Nat.le_of_ble_eq_true rfl)
    · have hf := (if_pos q).symm.trans hf
      refine mj_blk k_X9_ok 34 4 (pc' := 106) (l' := [(3, .int s0), (0, .int v0), (1, .int v1), (2, .int v2)]) (st' := [.int (s0 + (5 : Int32))]) rfl ?_
      obtain rfl := Option.some.inj hf
      exact mj_end (some (.int (s0 + (5 : Int32)))) ⟨mj_dec tok_X9_casesOf (a := 49) rfl, .int, rfl, rfl⟩ ⟨rfl, rfl⟩ (Nat.le_of_ble_eq_true rfl) (Nat.le_of_ble_eq_true rfl)
  have hf := (if_neg q4).symm.trans hf
  refine mj_swOut 10 107 rfl (by have z0 := mj_neI (i := 0) (by decide) q0; have z1 := mj_neI (i := 1) (by decide) q1; have z2 := mj_neI (i := 2) (by decide) q2; have z3 := mj_neI (i := 3) (by decide) q3; have z4 := mj_neI (i := 4) (by decide) q4; omega) (by decide) ?_
  refine mj_locs [1, 2, 3, 0] (l' := [(0, .int v0), (1, .int v1), (2, .int v2), (3, .int s0)]) rfl ?_
  exact w_X9_casesOf_107 v0 v1 v2 s0 h _ hf
def f_X9_casesOf (v0 : Int32) (v1 : Int32) (v2 : Int32) (h : mj_H) : Option (Int32 × mj_H) := (if v1 = (3 : Int32) then f_X9_casesOf_14 v0 v1 v2 (6 : Int32) h else f_X9_casesOf_14 v0 v1 v2 ((6 : Int32) - v1) h)
set_option maxHeartbeats 4000000 in
set_option maxRecDepth 100000 in
theorem c_X9_casesOf (v0 : Int32) (v1 : Int32) (v2 : Int32) (h : mj_H) (p : Int32 × mj_H) (hf : f_X9_casesOf v0 v1 v2 h = some p) : mj_Met mX9_casesOf [.int v0, .int v1, .int v2] h (some (.int p.1)) p.2 := by
  refine mj_met pl_X9 tok_X9_casesOf (Nat.le_of_ble_eq_true rfl) ?_
  show mj_W mX9_casesOf (mj_FI p) 0 [(0, .int v0), (1, .int v1), (2, .int v2)] [] h 0 0
  unfold f_X9_casesOf at hf
  refine mj_blk k_X9_ok 0 2 (pc' := 2) (l' := [(0, .int v0), (1, .int v1), (2, .int v2)]) (st' := [.int (3 : Int32), .int v1]) rfl ?_
  refine mj_icmp_ne 2 10 rfl (by decide) (fun q => ?_) (fun q => ?_)
  · have hf := (if_neg q).symm.trans hf
    refine mj_blk k_X9_ok 5 3 (pc' := 14) (l' := [(0, .int v0), (1, .int v1), (2, .int v2)]) (st' := [.int ((6 : Int32) - v1)]) rfl ?_
    exact w_X9_casesOf_14 v0 v1 v2 ((6 : Int32) - v1) h _ hf
  · have hf := (if_pos q).symm.trans hf
    refine mj_blk k_X9_ok 3 2 (pc' := 14) (l' := [(0, .int v0), (1, .int v1), (2, .int v2)]) (st' := [.int (6 : Int32)]) rfl ?_
    exact w_X9_casesOf_14 v0 v1 v2 (6 : Int32) h _ hf
def b_X9_sumOf_6 (K6 : Nat → Int32 → Int32 → Int32 → Int64 → Int32 → mj_H → Option (Int64 × mj_H)) (v0 : Nat) (v1 : Int32) (v2 : Int32) (v3 : Int32) (v4 : Int64) (v6 : Int32) (h : mj_H) : Option (Int64 × mj_H) := (if (6 : Int32) ≤ v6 then some (v4, h) else (mj_aI h v0 (((16 : Int32) + ((6 : Int32) * v1)) + v6)).bind fun x1 => (f_X9_casesOf v6 v2 v3 h).bind fun p2 => K6 v0 v1 v2 v3 (v4 + (((x1).toInt64) * ((p2.1).toInt64))) (v6 + (1 : Int32)) p2.2)
set_option maxHeartbeats 4000000 in
set_option maxRecDepth 100000 in
theorem wb_X9_sumOf_6 (K6 : Nat → Int32 → Int32 → Int32 → Int64 → Int32 → mj_H → Option (Int64 × mj_H)) (hK6 : ∀ (v0 : Nat) (v1 : Int32) (v2 : Int32) (v3 : Int32) (v4 : Int64) (v6 : Int32)  (h : mj_H) (p : Int64 × mj_H), K6 v0 v1 v2 v3 v4 v6 h = some p → mj_W mX9_sumOf (mj_FJ p) 6 [(0, .ref v0), (1, .int v1), (2, .int v2), (3, .int v3), (4, .long v4), (6, .int v6)] [] h 0 0) (v0 : Nat) (v1 : Int32) (v2 : Int32) (v3 : Int32) (v4 : Int64) (v6 : Int32) (h : mj_H) (p : Int64 × mj_H) (hf : b_X9_sumOf_6  K6 v0 v1 v2 v3 v4 v6 h = some p) : mj_W mX9_sumOf (mj_FJ p) 6 [(0, .ref v0), (1, .int v1), (2, .int v2), (3, .int v3), (4, .long v4), (6, .int v6)] [] h 0 0 := by
  unfold b_X9_sumOf_6 at hf
  refine mj_blk k_X9_ok 4 2 (pc' := 10) (l' := [(0, .ref v0), (1, .int v1), (2, .int v2), (3, .int v3), (4, .long v4), (6, .int v6)]) (st' := [.int (6 : Int32), .int v6]) rfl ?_
  refine mj_icmp_ge 6 46 rfl (by decide) (fun q => ?_) (fun q => ?_)
  · have hf := (if_pos q).symm.trans hf
    refine mj_blk k_X9_ok 28 1 (pc' := 48) (l' := [(0, .ref v0), (1, .int v1), (2, .int v2), (3, .int v3), (4, .long v4), (6, .int v6)]) (st' := [.long v4]) rfl ?_
    obtain rfl := Option.some.inj hf
    exact mj_end (some (.long v4)) ⟨mj_dec tok_X9_sumOf (a := 29) rfl, rfl⟩ ⟨rfl, rfl⟩ (Nat.le_of_ble_eq_true rfl) (Nat.le_of_ble_eq_true rfl)
  · have hf := (if_neg q).symm.trans hf
    refine mj_blk k_X9_ok 7 9 (pc' := 26) (l' := [(0, .ref v0), (1, .int v1), (2, .int v2), (3, .int v3), (4, .long v4), (6, .int v6)]) (st' := [.int (((16 : Int32) + ((6 : Int32) * v1)) + v6), .ref v0, .long v4]) rfl ?_
    obtain ⟨x1, ex1, hf⟩ := mj_bd hf
    refine mj_iald 16 rfl ex1 ?_
    refine mj_blk k_X9_ok 17 4 (pc' := 32) (l' := [(0, .ref v0), (1, .int v1), (2, .int v2), (3, .int v3), (4, .long v4), (6, .int v6)]) (st' := [.int v3, .int v2, .int v6, .long ((x1).toInt64), .long v4]) rfl ?_
    obtain ⟨p2, ep2, hf⟩ := mj_bd hf
    refine mj_callS mX9_casesOf [.int v6, .int v2, .int v3] 21 rfl ll_X9_157 lb_X9_casesOf li_X9_casesOf ⟨Nat.le_of_ble_eq_true rfl, Nat.le_of_ble_eq_true rfl⟩ rfl (rest := [.long ((x1).toInt64), .long v4]) rfl (Nat.le_of_ble_eq_true rfl) ⟨Nat.le_of_ble_eq_true rfl, Nat.le_of_ble_eq_true rfl⟩ (c_X9_casesOf v6 v2 v3 h p2 ep2) ?_
    show mj_W mX9_sumOf (mj_FJ p) 35 [(0, .ref v0), (1, .int v1), (2, .int v2), (3, .int v3), (4, .long v4), (6, .int v6)] [.int p2.1, .long ((x1).toInt64), .long v4] p2.2 0 0
    refine mj_blk k_X9_ok 22 6 (pc' := 6) (l' := [(6, .int (v6 + (1 : Int32))), (4, .long (v4 + (((x1).toInt64) * ((p2.1).toInt64)))), (0, .ref v0), (1, .int v1), (2, .int v2), (3, .int v3)]) (st' := []) rfl ?_
    refine mj_locs [2, 3, 4, 5, 1, 0] (l' := [(0, .ref v0), (1, .int v1), (2, .int v2), (3, .int v3), (4, .long (v4 + (((x1).toInt64) * ((p2.1).toInt64)))), (6, .int (v6 + (1 : Int32)))]) rfl ?_
    exact hK6 v0 v1 v2 v3 (v4 + (((x1).toInt64) * ((p2.1).toInt64))) (v6 + (1 : Int32)) p2.2 _ hf
def f_X9_sumOf_6 (v0 : Nat) (v1 : Int32) (v2 : Int32) (v3 : Int32) (v4 : Int64) (v6 : Int32) (h : mj_H) : Option (Int64 × mj_H) := mj_fix (fun (K6 : (Nat × Int32 × Int32 × Int32 × Int64 × Int32 × mj_H) → Option (Int64 × mj_H)) (s : Nat × Int32 × Int32 × Int32 × Int64 × Int32 × mj_H) => b_X9_sumOf_6  (fun v0 v1 v2 v3 v4 v6 h => K6 (v0, v1, v2, v3, v4, v6, h)) s.1 s.2.1 s.2.2.1 s.2.2.2.1 s.2.2.2.2.1 s.2.2.2.2.2.1 s.2.2.2.2.2.2) 1000 (v0, v1, v2, v3, v4, v6, h)
set_option maxHeartbeats 4000000 in
set_option maxRecDepth 100000 in
theorem w_X9_sumOf_6 (v0 : Nat) (v1 : Int32) (v2 : Int32) (v3 : Int32) (v4 : Int64) (v6 : Int32) (h : mj_H) (p : Int64 × mj_H) (hf : f_X9_sumOf_6  v0 v1 v2 v3 v4 v6 h = some p) : mj_W mX9_sumOf (mj_FJ p) 6 [(0, .ref v0), (1, .int v1), (2, .int v2), (3, .int v3), (4, .long v4), (6, .int v6)] [] h 0 0 := by
  unfold f_X9_sumOf_6 at hf
  exact mj_fix_ind (F := (fun (K6 : (Nat × Int32 × Int32 × Int32 × Int64 × Int32 × mj_H) → Option (Int64 × mj_H)) (s : Nat × Int32 × Int32 × Int32 × Int64 × Int32 × mj_H) => b_X9_sumOf_6  (fun v0 v1 v2 v3 v4 v6 h => K6 (v0, v1, v2, v3, v4, v6, h)) s.1 s.2.1 s.2.2.1 s.2.2.2.1 s.2.2.2.2.1 s.2.2.2.2.2.1 s.2.2.2.2.2.2)) (P := fun s p => mj_W mX9_sumOf (mj_FJ p) 6 [(0, .ref s.1), (1, .int s.2.1), (2, .int s.2.2.1), (3, .int s.2.2.2.1), (4, .long s.2.2.2.2.1), (6, .int s.2.2.2.2.2.1)] [] s.2.2.2.2.2.2 0 0) (fun K6 hK6 s p hf => wb_X9_sumOf_6   (fun v0 v1 v2 v3 v4 v6 h => K6 (v0, v1, v2, v3, v4, v6, h)) (fun v0 v1 v2 v3 v4 v6 h p e => hK6 (v0, v1, v2, v3, v4, v6, h) p e) s.1 s.2.1 s.2.2.1 s.2.2.2.1 s.2.2.2.2.1 s.2.2.2.2.2.1 s.2.2.2.2.2.2 p hf) 1000 (v0, v1, v2, v3, v4, v6, h) p hf
def f_X9_sumOf (v0 : Nat) (v1 : Int32) (v2 : Int32) (v3 : Int32) (h : mj_H) : Option (Int64 × mj_H) := f_X9_sumOf_6 v0 v1 v2 v3 (0 : Int64) (0 : Int32) h
set_option maxHeartbeats 4000000 in
set_option maxRecDepth 100000 in
theorem c_X9_sumOf (v0 : Nat) (v1 : Int32) (v2 : Int32) (v3 : Int32) (h : mj_H) (p : Int64 × mj_H) (hf : f_X9_sumOf v0 v1 v2 v3 h = some p) : mj_Met mX9_sumOf [.ref v0, .int v1, .int v2, .int v3] h (some (.long p.1)) p.2 := by
  refine mj_met pl_X9 tok_X9_sumOf (Nat.le_of_ble_eq_true rfl) ?_
  show mj_W mX9_sumOf (mj_FJ p) 0 [(0, .ref v0), (1, .int v1), (2, .int v2), (3, .int v3)] [] h 0 0
  unfold f_X9_sumOf at hf
  refine mj_blk k_X9_ok 0 4 (pc' := 6) (l' := [(6, .int (0 : Int32)), (4, .long (0 : Int64)), (0, .ref v0), (1, .int v1), (2, .int v2), (3, .int v3)]) (st' := []) rfl ?_
  refine mj_locs [2, 3, 4, 5, 1, 0] (l' := [(0, .ref v0), (1, .int v1), (2, .int v2), (3, .int v3), (4, .long (0 : Int64)), (6, .int (0 : Int32))]) rfl ?_
  exact w_X9_sumOf_6 v0 v1 v2 v3 (0 : Int64) (0 : Int32) h _ hf
def b_X9_allOf_5 (K5 : Nat → Int32 → Int64 → Int32 → mj_H → Option (Int64 × mj_H)) (v0 : Nat) (v1 : Int32) (v2 : Int64) (v4 : Int32) (h : mj_H) : Option (Int64 × mj_H) := (if (6 : Int32) ≤ v4 then some (v2, h) else (mj_aI h v0 (((16 : Int32) + ((6 : Int32) * v1)) + v4)).bind fun x1 => K5 v0 v1 (v2 + ((x1).toInt64)) (v4 + (1 : Int32)) h)
set_option maxHeartbeats 4000000 in
set_option maxRecDepth 100000 in
theorem wb_X9_allOf_5 (K5 : Nat → Int32 → Int64 → Int32 → mj_H → Option (Int64 × mj_H)) (hK5 : ∀ (v0 : Nat) (v1 : Int32) (v2 : Int64) (v4 : Int32)  (h : mj_H) (p : Int64 × mj_H), K5 v0 v1 v2 v4 h = some p → mj_W mX9_allOf (mj_FJ p) 5 [(0, .ref v0), (1, .int v1), (2, .long v2), (4, .int v4)] [] h 0 0) (v0 : Nat) (v1 : Int32) (v2 : Int64) (v4 : Int32) (h : mj_H) (p : Int64 × mj_H) (hf : b_X9_allOf_5  K5 v0 v1 v2 v4 h = some p) : mj_W mX9_allOf (mj_FJ p) 5 [(0, .ref v0), (1, .int v1), (2, .long v2), (4, .int v4)] [] h 0 0 := by
  unfold b_X9_allOf_5 at hf
  refine mj_blk k_X9_ok 4 2 (pc' := 9) (l' := [(0, .ref v0), (1, .int v1), (2, .long v2), (4, .int v4)]) (st' := [.int (6 : Int32), .int v4]) rfl ?_
  refine mj_icmp_ge 6 34 rfl (by decide) (fun q => ?_) (fun q => ?_)
  · have hf := (if_pos q).symm.trans hf
    refine mj_blk k_X9_ok 22 1 (pc' := 35) (l' := [(0, .ref v0), (1, .int v1), (2, .long v2), (4, .int v4)]) (st' := [.long v2]) rfl ?_
    obtain rfl := Option.some.inj hf
    exact mj_end (some (.long v2)) ⟨mj_dec tok_X9_allOf (a := 23) rfl, rfl⟩ ⟨rfl, rfl⟩ (Nat.le_of_ble_eq_true rfl) (Nat.le_of_ble_eq_true rfl)
  · have hf := (if_neg q).symm.trans hf
    refine mj_blk k_X9_ok 7 9 (pc' := 24) (l' := [(0, .ref v0), (1, .int v1), (2, .long v2), (4, .int v4)]) (st' := [.int (((16 : Int32) + ((6 : Int32) * v1)) + v4), .ref v0, .long v2]) rfl ?_
    obtain ⟨x1, ex1, hf⟩ := mj_bd hf
    refine mj_iald 16 rfl ex1 ?_
    refine mj_blk k_X9_ok 17 5 (pc' := 5) (l' := [(4, .int (v4 + (1 : Int32))), (2, .long (v2 + ((x1).toInt64))), (0, .ref v0), (1, .int v1)]) (st' := []) rfl ?_
    refine mj_locs [2, 3, 1, 0] (l' := [(0, .ref v0), (1, .int v1), (2, .long (v2 + ((x1).toInt64))), (4, .int (v4 + (1 : Int32)))]) rfl ?_
    exact hK5 v0 v1 (v2 + ((x1).toInt64)) (v4 + (1 : Int32)) h _ hf
def f_X9_allOf_5 (v0 : Nat) (v1 : Int32) (v2 : Int64) (v4 : Int32) (h : mj_H) : Option (Int64 × mj_H) := mj_fix (fun (K5 : (Nat × Int32 × Int64 × Int32 × mj_H) → Option (Int64 × mj_H)) (s : Nat × Int32 × Int64 × Int32 × mj_H) => b_X9_allOf_5  (fun v0 v1 v2 v4 h => K5 (v0, v1, v2, v4, h)) s.1 s.2.1 s.2.2.1 s.2.2.2.1 s.2.2.2.2) 1000 (v0, v1, v2, v4, h)
set_option maxHeartbeats 4000000 in
set_option maxRecDepth 100000 in
theorem w_X9_allOf_5 (v0 : Nat) (v1 : Int32) (v2 : Int64) (v4 : Int32) (h : mj_H) (p : Int64 × mj_H) (hf : f_X9_allOf_5  v0 v1 v2 v4 h = some p) : mj_W mX9_allOf (mj_FJ p) 5 [(0, .ref v0), (1, .int v1), (2, .long v2), (4, .int v4)] [] h 0 0 := by
  unfold f_X9_allOf_5 at hf
  exact mj_fix_ind (F := (fun (K5 : (Nat × Int32 × Int64 × Int32 × mj_H) → Option (Int64 × mj_H)) (s : Nat × Int32 × Int64 × Int32 × mj_H) => b_X9_allOf_5  (fun v0 v1 v2 v4 h => K5 (v0, v1, v2, v4, h)) s.1 s.2.1 s.2.2.1 s.2.2.2.1 s.2.2.2.2)) (P := fun s p => mj_W mX9_allOf (mj_FJ p) 5 [(0, .ref s.1), (1, .int s.2.1), (2, .long s.2.2.1), (4, .int s.2.2.2.1)] [] s.2.2.2.2 0 0) (fun K5 hK5 s p hf => wb_X9_allOf_5   (fun v0 v1 v2 v4 h => K5 (v0, v1, v2, v4, h)) (fun v0 v1 v2 v4 h p e => hK5 (v0, v1, v2, v4, h) p e) s.1 s.2.1 s.2.2.1 s.2.2.2.1 s.2.2.2.2 p hf) 1000 (v0, v1, v2, v4, h) p hf
def f_X9_allOf (v0 : Nat) (v1 : Int32) (h : mj_H) : Option (Int64 × mj_H) := f_X9_allOf_5 v0 v1 (0 : Int64) (0 : Int32) h
set_option maxHeartbeats 4000000 in
set_option maxRecDepth 100000 in
theorem c_X9_allOf (v0 : Nat) (v1 : Int32) (h : mj_H) (p : Int64 × mj_H) (hf : f_X9_allOf v0 v1 h = some p) : mj_Met mX9_allOf [.ref v0, .int v1] h (some (.long p.1)) p.2 := by
  refine mj_met pl_X9 tok_X9_allOf (Nat.le_of_ble_eq_true rfl) ?_
  show mj_W mX9_allOf (mj_FJ p) 0 [(0, .ref v0), (1, .int v1)] [] h 0 0
  unfold f_X9_allOf at hf
  refine mj_blk k_X9_ok 0 4 (pc' := 5) (l' := [(4, .int (0 : Int32)), (2, .long (0 : Int64)), (0, .ref v0), (1, .int v1)]) (st' := []) rfl ?_
  refine mj_locs [2, 3, 1, 0] (l' := [(0, .ref v0), (1, .int v1), (2, .long (0 : Int64)), (4, .int (0 : Int32))]) rfl ?_
  exact w_X9_allOf_5 v0 v1 (0 : Int64) (0 : Int32) h _ hf
def f_X9_shareOf (v0 : Nat) (v1 : Int32) (v2 : Int32) (v3 : Int32) (h : mj_H) : Option (Int32 × mj_H) := (f_X9_sumOf v0 v1 v2 v3 h).bind fun p1 => (f_X9_allOf v0 v1 p1.2).bind fun p2 => (if ((12 : Int64) * p2.1) = 0 then none else some ((((((60 : Int64) * p1.1) / ((12 : Int64) * p2.1))).toInt32), p2.2))
set_option maxHeartbeats 4000000 in
set_option maxRecDepth 100000 in
theorem c_X9_shareOf (v0 : Nat) (v1 : Int32) (v2 : Int32) (v3 : Int32) (h : mj_H) (p : Int32 × mj_H) (hf : f_X9_shareOf v0 v1 v2 v3 h = some p) : mj_Met mX9_shareOf [.ref v0, .int v1, .int v2, .int v3] h (some (.int p.1)) p.2 := by
  refine mj_met pl_X9 tok_X9_shareOf (Nat.le_of_ble_eq_true rfl) ?_
  show mj_W mX9_shareOf (mj_FI p) 0 [(0, .ref v0), (1, .int v1), (2, .int v2), (3, .int v3)] [] h 0 0
  unfold f_X9_shareOf at hf
  refine mj_blk k_X9_ok 0 5 (pc' := 7) (l' := [(0, .ref v0), (1, .int v1), (2, .int v2), (3, .int v3)]) (st' := [.int v3, .int v2, .int v1, .ref v0, .long (60 : Int64)]) rfl ?_
  obtain ⟨p1, ep1, hf⟩ := mj_bd hf
  refine mj_callS mX9_sumOf [.ref v0, .int v1, .int v2, .int v3] 5 rfl ll_X9_163 lb_X9_sumOf li_X9_sumOf ⟨Nat.le_of_ble_eq_true rfl, Nat.le_of_ble_eq_true rfl⟩ rfl (rest := [.long (60 : Int64)]) rfl (Nat.le_of_ble_eq_true rfl) ⟨Nat.le_of_ble_eq_true rfl, Nat.le_of_ble_eq_true rfl⟩ (c_X9_sumOf v0 v1 v2 v3 h p1 ep1) ?_
  show mj_W mX9_shareOf (mj_FI p) 10 [(0, .ref v0), (1, .int v1), (2, .int v2), (3, .int v3)] [.long p1.1, .long (60 : Int64)] p1.2 0 0
  refine mj_blk k_X9_ok 6 4 (pc' := 16) (l' := [(0, .ref v0), (1, .int v1), (2, .int v2), (3, .int v3)]) (st' := [.int v1, .ref v0, .long (12 : Int64), .long ((60 : Int64) * p1.1)]) rfl ?_
  obtain ⟨p2, ep2, hf⟩ := mj_bd hf
  refine mj_callS mX9_allOf [.ref v0, .int v1] 10 rfl ll_X9_169 lb_X9_allOf li_X9_allOf ⟨Nat.le_of_ble_eq_true rfl, Nat.le_of_ble_eq_true rfl⟩ rfl (rest := [.long (12 : Int64), .long ((60 : Int64) * p1.1)]) rfl (Nat.le_of_ble_eq_true rfl) ⟨Nat.le_of_ble_eq_true rfl, Nat.le_of_ble_eq_true rfl⟩ (c_X9_allOf v0 v1 p1.2 p2 ep2) ?_
  show mj_W mX9_shareOf (mj_FI p) 19 [(0, .ref v0), (1, .int v1), (2, .int v2), (3, .int v3)] [.long p2.1, .long (12 : Int64), .long ((60 : Int64) * p1.1)] p2.2 0 0
  refine mj_blk k_X9_ok 11 1 (pc' := 20) (l' := [(0, .ref v0), (1, .int v1), (2, .int v2), (3, .int v3)]) (st' := [.long ((12 : Int64) * p2.1), .long ((60 : Int64) * p1.1)]) rfl ?_
  obtain ⟨g, hf⟩ := mj_g0 hf
  refine mj_ldiv 12 rfl g ?_
  refine mj_blk k_X9_ok 13 1 (pc' := 22) (l' := [(0, .ref v0), (1, .int v1), (2, .int v2), (3, .int v3)]) (st' := [.int (((((60 : Int64) * p1.1) / ((12 : Int64) * p2.1))).toInt32)]) rfl ?_
  obtain rfl := Option.some.inj hf
  exact mj_end (some (.int (((((60 : Int64) * p1.1) / ((12 : Int64) * p2.1))).toInt32))) ⟨mj_dec tok_X9_shareOf (a := 14) rfl, .int, rfl, rfl⟩ ⟨rfl, rfl⟩ (Nat.le_of_ble_eq_true rfl) (Nat.le_of_ble_eq_true rfl)
def f_X9_trustOn (v0 : Nat) (v1 : Int32) (h : mj_H) : Option (Int32 × mj_H) := (f_X9_shareOf v0 v1 (3 : Int32) (0 : Int32) h).bind fun p1 => some (p1.1, p1.2)
set_option maxHeartbeats 4000000 in
set_option maxRecDepth 100000 in
theorem c_X9_trustOn (v0 : Nat) (v1 : Int32) (h : mj_H) (p : Int32 × mj_H) (hf : f_X9_trustOn v0 v1 h = some p) : mj_Met mX9_trustOn [.ref v0, .int v1] h (some (.int p.1)) p.2 := by
  refine mj_met pl_X9 tok_X9_trustOn (Nat.le_of_ble_eq_true rfl) ?_
  show mj_W mX9_trustOn (mj_FI p) 0 [(0, .ref v0), (1, .int v1)] [] h 0 0
  unfold f_X9_trustOn at hf
  refine mj_blk k_X9_ok 0 4 (pc' := 4) (l' := [(0, .ref v0), (1, .int v1)]) (st' := [.int (0 : Int32), .int (3 : Int32), .int v1, .ref v0]) rfl ?_
  obtain ⟨p1, ep1, hf⟩ := mj_bd hf
  refine mj_callS mX9_shareOf [.ref v0, .int v1, .int (3 : Int32), .int (0 : Int32)] 4 rfl ll_X9_173 lb_X9_shareOf li_X9_shareOf ⟨Nat.le_of_ble_eq_true rfl, Nat.le_of_ble_eq_true rfl⟩ rfl (rest := []) rfl (Nat.le_of_ble_eq_true rfl) ⟨Nat.le_of_ble_eq_true rfl, Nat.le_of_ble_eq_true rfl⟩ (c_X9_shareOf v0 v1 (3 : Int32) (0 : Int32) h p1 ep1) ?_
  show mj_W mX9_trustOn (mj_FI p) 7 [(0, .ref v0), (1, .int v1)] [.int p1.1] p1.2 0 0
  obtain rfl := Option.some.inj hf
  exact mj_end (some (.int p1.1)) ⟨mj_dec tok_X9_trustOn (a := 5) rfl, .int, rfl, rfl⟩ ⟨rfl, rfl⟩ (Nat.le_of_ble_eq_true rfl) (Nat.le_of_ble_eq_true rfl)
def b_X9_common_4 (K4 : Int32 → Int32 → mj_H → Option (Int32 × mj_H)) (v2 : Int32) (v3 : Int32) (h : mj_H) : Option (Int32 × mj_H) := (if v3 = 0 then some (v2, h) else (if v3 = 0 then none else K4 v3 (v2 - v2 / v3 * v3) h))
set_option maxHeartbeats 4000000 in
set_option maxRecDepth 100000 in
theorem wb_X9_common_4 (K4 : Int32 → Int32 → mj_H → Option (Int32 × mj_H)) (hK4 : ∀ (v2 : Int32) (v3 : Int32)  (h : mj_H) (p : Int32 × mj_H), K4 v2 v3 h = some p → mj_W mX9_common (mj_FI p) 4 [(2, .int v2), (3, .int v3)] [] h 0 0) (v2 : Int32) (v3 : Int32) (h : mj_H) (p : Int32 × mj_H) (hf : b_X9_common_4  K4 v2 v3 h = some p) : mj_W mX9_common (mj_FI p) 4 [(2, .int v2), (3, .int v3)] [] h 0 0 := by
  unfold b_X9_common_4 at hf
  refine mj_blk k_X9_ok 4 1 (pc' := 5) (l' := [(2, .int v2), (3, .int v3)]) (st' := [.int v3]) rfl ?_
  refine mj_if_eq 5 21 rfl (by decide) (fun q => ?_) (fun q => ?_)
  · have hf := (if_pos q).symm.trans hf
    refine mj_blk k_X9_ok 15 1 (pc' := 22) (l' := [(2, .int v2), (3, .int v3)]) (st' := [.int v2]) rfl ?_
    obtain rfl := Option.some.inj hf
    exact mj_end (some (.int v2)) ⟨mj_dec tok_X9_common (a := 16) rfl, .int, rfl, rfl⟩ ⟨rfl, rfl⟩ (Nat.le_of_ble_eq_true rfl) (Nat.le_of_ble_eq_true rfl)
  · have hf := (if_neg q).symm.trans hf
    refine mj_blk k_X9_ok 6 2 (pc' := 10) (l' := [(2, .int v2), (3, .int v3)]) (st' := [.int v3, .int v2]) rfl ?_
    obtain ⟨g, hf⟩ := mj_g0 hf
    refine mj_irem 8 rfl g ?_
    refine mj_blk k_X9_ok 9 6 (pc' := 4) (l' := [(3, .int (v2 - v2 / v3 * v3)), (2, .int v3), (4, .int (v2 - v2 / v3 * v3))]) (st' := []) rfl ?_
    refine mj_locs [1, 0] (l' := [(2, .int v3), (3, .int (v2 - v2 / v3 * v3))]) rfl ?_
    exact hK4 v3 (v2 - v2 / v3 * v3) h _ hf
def f_X9_common_4 (v2 : Int32) (v3 : Int32) (h : mj_H) : Option (Int32 × mj_H) := mj_fix (fun (K4 : (Int32 × Int32 × mj_H) → Option (Int32 × mj_H)) (s : Int32 × Int32 × mj_H) => b_X9_common_4  (fun v2 v3 h => K4 (v2, v3, h)) s.1 s.2.1 s.2.2) 1000 (v2, v3, h)
set_option maxHeartbeats 4000000 in
set_option maxRecDepth 100000 in
theorem w_X9_common_4 (v2 : Int32) (v3 : Int32) (h : mj_H) (p : Int32 × mj_H) (hf : f_X9_common_4  v2 v3 h = some p) : mj_W mX9_common (mj_FI p) 4 [(2, .int v2), (3, .int v3)] [] h 0 0 := by
  unfold f_X9_common_4 at hf
  exact mj_fix_ind (F := (fun (K4 : (Int32 × Int32 × mj_H) → Option (Int32 × mj_H)) (s : Int32 × Int32 × mj_H) => b_X9_common_4  (fun v2 v3 h => K4 (v2, v3, h)) s.1 s.2.1 s.2.2)) (P := fun s p => mj_W mX9_common (mj_FI p) 4 [(2, .int s.1), (3, .int s.2.1)] [] s.2.2 0 0) (fun K4 hK4 s p hf => wb_X9_common_4   (fun v2 v3 h => K4 (v2, v3, h)) (fun v2 v3 h p e => hK4 (v2, v3, h) p e) s.1 s.2.1 s.2.2 p hf) 1000 (v2, v3, h) p hf
def f_X9_common (v0 : Int32) (v1 : Int32) (h : mj_H) : Option (Int32 × mj_H) := f_X9_common_4 v0 v1 h
set_option maxHeartbeats 4000000 in
set_option maxRecDepth 100000 in
theorem c_X9_common (v0 : Int32) (v1 : Int32) (h : mj_H) (p : Int32 × mj_H) (hf : f_X9_common v0 v1 h = some p) : mj_Met mX9_common [.int v0, .int v1] h (some (.int p.1)) p.2 := by
  refine mj_met pl_X9 tok_X9_common (Nat.le_of_ble_eq_true rfl) ?_
  show mj_W mX9_common (mj_FI p) 0 [(0, .int v0), (1, .int v1)] [] h 0 0
  unfold f_X9_common at hf
  refine mj_blk k_X9_ok 0 4 (pc' := 4) (l' := [(3, .int v1), (2, .int v0), (0, .int v0), (1, .int v1)]) (st' := []) rfl ?_
  refine mj_locs [1, 0] (l' := [(2, .int v0), (3, .int v1)]) rfl ?_
  exact w_X9_common_4 v0 v1 h _ hf
def b_X9_weighs_172 (K156 : Nat → Int32 → Int32 → mj_H → Option (mj_H)) (K172 : Nat → Int32 → Int32 → Int32 → mj_H → Option (mj_H)) (v0 : Nat) (v5 : Int32) (v7 : Int32) (v8 : Int32) (h : mj_H) : Option (mj_H) := (if (6 : Int32) ≤ v8 then K156 v0 v5 v7 h else (mj_aI h v0 (v5 + v8)).bind fun x1 => (mj_uI h v0 (v5 + v8) (x1 / (2 : Int32))).bind fun h2 => K172 v0 v5 v7 (v8 + (1 : Int32)) h2)
set_option maxHeartbeats 4000000 in
set_option maxRecDepth 100000 in
theorem wb_X9_weighs_172 (K156 : Nat → Int32 → Int32 → mj_H → Option (mj_H)) (hK156 : ∀ (v0 : Nat) (v5 : Int32) (v7 : Int32)  (h : mj_H) (p : mj_H), K156 v0 v5 v7 h = some p → mj_W mX9_weighs (mj_FV p) 156 [(0, .ref v0), (5, .int v5), (7, .int v7)] [] h 0 0) (K172 : Nat → Int32 → Int32 → Int32 → mj_H → Option (mj_H)) (hK172 : ∀ (v0 : Nat) (v5 : Int32) (v7 : Int32) (v8 : Int32)  (h : mj_H) (p : mj_H), K172 v0 v5 v7 v8 h = some p → mj_W mX9_weighs (mj_FV p) 172 [(0, .ref v0), (5, .int v5), (7, .int v7), (8, .int v8)] [] h 0 0) (v0 : Nat) (v5 : Int32) (v7 : Int32) (v8 : Int32) (h : mj_H) (p : mj_H) (hf : b_X9_weighs_172 K156 K172 v0 v5 v7 v8 h = some p) : mj_W mX9_weighs (mj_FV p) 172 [(0, .ref v0), (5, .int v5), (7, .int v7), (8, .int v8)] [] h 0 0 := by
  unfold b_X9_weighs_172 at hf
  refine mj_blk k_X9_ok 98 2 (pc' := 176) (l' := [(0, .ref v0), (5, .int v5), (7, .int v7), (8, .int v8)]) (st' := [.int (6 : Int32), .int v8]) rfl ?_
  refine mj_icmp_ge 100 196 rfl (by decide) (fun q => ?_) (fun q => ?_)
  · have hf := (if_pos q).symm.trans hf
    refine mj_blk k_X9_ok 112 1 (pc' := 156) (l' := [(0, .ref v0), (5, .int v5), (7, .int v7), (8, .int v8)]) (st' := []) rfl ?_
    refine mj_locs [0, 1, 2] (l' := [(0, .ref v0), (5, .int v5), (7, .int v7)]) rfl ?_
    exact hK156 v0 v5 v7 h _ hf
  · have hf := (if_neg q).symm.trans hf
    refine mj_blk k_X9_ok 101 5 (pc' := 186) (l' := [(0, .ref v0), (5, .int v5), (7, .int v7), (8, .int v8)]) (st' := [.int (v5 + v8), .ref v0, .int (v5 + v8), .ref v0]) rfl ?_
    obtain ⟨x1, ex1, hf⟩ := mj_bd hf
    refine mj_iald 106 rfl ex1 ?_
    refine mj_blk k_X9_ok 107 1 (pc' := 188) (l' := [(0, .ref v0), (5, .int v5), (7, .int v7), (8, .int v8)]) (st' := [.int (2 : Int32), .int x1, .int (v5 + v8), .ref v0]) rfl ?_
    refine mj_idiv 108 rfl (by decide) ?_
    obtain ⟨h2, eh2, hf⟩ := mj_bd hf
    refine mj_iast 109 rfl eh2 ?_
    refine mj_blk k_X9_ok 110 2 (pc' := 172) (l' := [(8, .int (v8 + (1 : Int32))), (0, .ref v0), (5, .int v5), (7, .int v7)]) (st' := []) rfl ?_
    refine mj_locs [1, 2, 3, 0] (l' := [(0, .ref v0), (5, .int v5), (7, .int v7), (8, .int (v8 + (1 : Int32)))]) rfl ?_
    exact hK172 v0 v5 v7 (v8 + (1 : Int32)) h2 _ hf
def f_X9_weighs_172 (K156 : Nat → Int32 → Int32 → mj_H → Option (mj_H)) (v0 : Nat) (v5 : Int32) (v7 : Int32) (v8 : Int32) (h : mj_H) : Option (mj_H) := mj_fix (fun (K172 : (Nat × Int32 × Int32 × Int32 × mj_H) → Option (mj_H)) (s : Nat × Int32 × Int32 × Int32 × mj_H) => b_X9_weighs_172 K156 (fun v0 v5 v7 v8 h => K172 (v0, v5, v7, v8, h)) s.1 s.2.1 s.2.2.1 s.2.2.2.1 s.2.2.2.2) 1000 (v0, v5, v7, v8, h)
set_option maxHeartbeats 4000000 in
set_option maxRecDepth 100000 in
theorem w_X9_weighs_172 (K156 : Nat → Int32 → Int32 → mj_H → Option (mj_H)) (hK156 : ∀ (v0 : Nat) (v5 : Int32) (v7 : Int32)  (h : mj_H) (p : mj_H), K156 v0 v5 v7 h = some p → mj_W mX9_weighs (mj_FV p) 156 [(0, .ref v0), (5, .int v5), (7, .int v7)] [] h 0 0) (v0 : Nat) (v5 : Int32) (v7 : Int32) (v8 : Int32) (h : mj_H) (p : mj_H) (hf : f_X9_weighs_172 K156 v0 v5 v7 v8 h = some p) : mj_W mX9_weighs (mj_FV p) 172 [(0, .ref v0), (5, .int v5), (7, .int v7), (8, .int v8)] [] h 0 0 := by
  unfold f_X9_weighs_172 at hf
  exact mj_fix_ind (F := (fun (K172 : (Nat × Int32 × Int32 × Int32 × mj_H) → Option (mj_H)) (s : Nat × Int32 × Int32 × Int32 × mj_H) => b_X9_weighs_172 K156 (fun v0 v5 v7 v8 h => K172 (v0, v5, v7, v8, h)) s.1 s.2.1 s.2.2.1 s.2.2.2.1 s.2.2.2.2)) (P := fun s p => mj_W mX9_weighs (mj_FV p) 172 [(0, .ref s.1), (5, .int s.2.1), (7, .int s.2.2.1), (8, .int s.2.2.2.1)] [] s.2.2.2.2 0 0) (fun K172 hK172 s p hf => wb_X9_weighs_172 K156 hK156 (fun v0 v5 v7 v8 h => K172 (v0, v5, v7, v8, h)) (fun v0 v5 v7 v8 h p e => hK172 (v0, v5, v7, v8, h) p e) s.1 s.2.1 s.2.2.1 s.2.2.2.1 s.2.2.2.2 p hf) 1000 (v0, v5, v7, v8, h) p hf
def b_X9_weighs_156 (K156 : Nat → Int32 → Int32 → mj_H → Option (mj_H)) (v0 : Nat) (v5 : Int32) (v7 : Int32) (h : mj_H) : Option (mj_H) := (if v7 ≤ (999999 : Int32) then some h else f_X9_weighs_172 K156 v0 v5 (v7 / (2 : Int32)) (0 : Int32) h)
set_option maxHeartbeats 4000000 in
set_option maxRecDepth 100000 in
theorem wb_X9_weighs_156 (K156 : Nat → Int32 → Int32 → mj_H → Option (mj_H)) (hK156 : ∀ (v0 : Nat) (v5 : Int32) (v7 : Int32)  (h : mj_H) (p : mj_H), K156 v0 v5 v7 h = some p → mj_W mX9_weighs (mj_FV p) 156 [(0, .ref v0), (5, .int v5), (7, .int v7)] [] h 0 0) (v0 : Nat) (v5 : Int32) (v7 : Int32) (h : mj_H) (p : mj_H) (hf : b_X9_weighs_156  K156 v0 v5 v7 h = some p) : mj_W mX9_weighs (mj_FV p) 156 [(0, .ref v0), (5, .int v5), (7, .int v7)] [] h 0 0 := by
  unfold b_X9_weighs_156 at hf
  refine mj_blk k_X9_ok 89 2 (pc' := 160) (l' := [(0, .ref v0), (5, .int v5), (7, .int v7)]) (st' := [.int (999999 : Int32), .int v7]) rfl ?_
  refine mj_icmp_le 91 199 rfl (by decide) (fun q => ?_) (fun q => ?_)
  · have hf := (if_pos q).symm.trans hf
    obtain rfl := Option.some.inj hf
    exact mj_end none ⟨mj_dec tok_X9_weighs (a := 113) rfl, rfl⟩ ⟨rfl, rfl⟩ (Nat.le_of_ble_eq_true rfl) (Nat.le_of_ble_eq_true rfl)
  · have hf := (if_neg q).symm.trans hf
    refine mj_blk k_X9_ok 92 2 (pc' := 166) (l' := [(0, .ref v0), (5, .int v5), (7, .int v7)]) (st' := [.int (2 : Int32), .int v7]) rfl ?_
    refine mj_idiv 94 rfl (by decide) ?_
    refine mj_blk k_X9_ok 95 3 (pc' := 172) (l' := [(8, .int (0 : Int32)), (7, .int (v7 / (2 : Int32))), (0, .ref v0), (5, .int v5)]) (st' := []) rfl ?_
    refine mj_locs [2, 3, 1, 0] (l' := [(0, .ref v0), (5, .int v5), (7, .int (v7 / (2 : Int32))), (8, .int (0 : Int32))]) rfl ?_
    exact w_X9_weighs_172 K156 hK156 v0 v5 (v7 / (2 : Int32)) (0 : Int32) h _ hf
def f_X9_weighs_156 (v0 : Nat) (v5 : Int32) (v7 : Int32) (h : mj_H) : Option (mj_H) := mj_fix (fun (K156 : (Nat × Int32 × Int32 × mj_H) → Option (mj_H)) (s : Nat × Int32 × Int32 × mj_H) => b_X9_weighs_156  (fun v0 v5 v7 h => K156 (v0, v5, v7, h)) s.1 s.2.1 s.2.2.1 s.2.2.2) 1000 (v0, v5, v7, h)
set_option maxHeartbeats 4000000 in
set_option maxRecDepth 100000 in
theorem w_X9_weighs_156 (v0 : Nat) (v5 : Int32) (v7 : Int32) (h : mj_H) (p : mj_H) (hf : f_X9_weighs_156  v0 v5 v7 h = some p) : mj_W mX9_weighs (mj_FV p) 156 [(0, .ref v0), (5, .int v5), (7, .int v7)] [] h 0 0 := by
  unfold f_X9_weighs_156 at hf
  exact mj_fix_ind (F := (fun (K156 : (Nat × Int32 × Int32 × mj_H) → Option (mj_H)) (s : Nat × Int32 × Int32 × mj_H) => b_X9_weighs_156  (fun v0 v5 v7 h => K156 (v0, v5, v7, h)) s.1 s.2.1 s.2.2.1 s.2.2.2)) (P := fun s p => mj_W mX9_weighs (mj_FV p) 156 [(0, .ref s.1), (5, .int s.2.1), (7, .int s.2.2.1)] [] s.2.2.2 0 0) (fun K156 hK156 s p hf => wb_X9_weighs_156   (fun v0 v5 v7 h => K156 (v0, v5, v7, h)) (fun v0 v5 v7 h p e => hK156 (v0, v5, v7, h) p e) s.1 s.2.1 s.2.2.1 s.2.2.2 p hf) 1000 (v0, v5, v7, h) p hf
def f_X9_weighs_148 (K91 : Nat → Int32 → Int32 → Int32 → Int32 → mj_H → Option (mj_H)) (v0 : Nat) (v5 : Int32) (v6 : Int32) (v8 : Int32) (s0 : Int32) (h : mj_H) : Option (mj_H) := K91 v0 v5 v6 s0 (v8 + (1 : Int32)) h
set_option maxHeartbeats 4000000 in
set_option maxRecDepth 100000 in
theorem w_X9_weighs_148 (K91 : Nat → Int32 → Int32 → Int32 → Int32 → mj_H → Option (mj_H)) (hK91 : ∀ (v0 : Nat) (v5 : Int32) (v6 : Int32) (v7 : Int32) (v8 : Int32)  (h : mj_H) (p : mj_H), K91 v0 v5 v6 v7 v8 h = some p → mj_W mX9_weighs (mj_FV p) 91 [(0, .ref v0), (5, .int v5), (6, .int v6), (7, .int v7), (8, .int v8)] [] h 0 0) (v0 : Nat) (v5 : Int32) (v6 : Int32) (v8 : Int32) (s0 : Int32) (h : mj_H) (p : mj_H) (hf : f_X9_weighs_148 K91 v0 v5 v6 v8 s0 h = some p) : mj_W mX9_weighs (mj_FV p) 148 [(0, .ref v0), (5, .int v5), (6, .int v6), (8, .int v8)] [.int s0] h 0 0 := by
  unfold f_X9_weighs_148 at hf
  refine mj_blk k_X9_ok 86 3 (pc' := 91) (l' := [(8, .int (v8 + (1 : Int32))), (7, .int s0), (0, .ref v0), (5, .int v5), (6, .int v6)]) (st' := []) rfl ?_
  refine mj_locs [2, 3, 4, 1, 0] (l' := [(0, .ref v0), (5, .int v5), (6, .int v6), (7, .int s0), (8, .int (v8 + (1 : Int32)))]) rfl ?_
  exact hK91 v0 v5 v6 s0 (v8 + (1 : Int32)) h _ hf
def f_X9_weighs_123 (K91 : Nat → Int32 → Int32 → Int32 → Int32 → mj_H → Option (mj_H)) (v0 : Nat) (v5 : Int32) (v6 : Int32) (v7 : Int32) (v8 : Int32) (s0 : Nat) (s1 : Int32) (s2 : Int32) (h : mj_H) : Option (mj_H) := (mj_uI h s0 s1 s2).bind fun h3 => (mj_aI h3 v0 (v5 + v8)).bind fun x4 => (if x4 ≤ v7 then f_X9_weighs_148 K91 v0 v5 v6 v8 v7 h3 else (mj_aI h3 v0 (v5 + v8)).bind fun x5 => f_X9_weighs_148 K91 v0 v5 v6 v8 x5 h3)
set_option maxHeartbeats 4000000 in
set_option maxRecDepth 100000 in
theorem w_X9_weighs_123 (K91 : Nat → Int32 → Int32 → Int32 → Int32 → mj_H → Option (mj_H)) (hK91 : ∀ (v0 : Nat) (v5 : Int32) (v6 : Int32) (v7 : Int32) (v8 : Int32)  (h : mj_H) (p : mj_H), K91 v0 v5 v6 v7 v8 h = some p → mj_W mX9_weighs (mj_FV p) 91 [(0, .ref v0), (5, .int v5), (6, .int v6), (7, .int v7), (8, .int v8)] [] h 0 0) (v0 : Nat) (v5 : Int32) (v6 : Int32) (v7 : Int32) (v8 : Int32) (s0 : Nat) (s1 : Int32) (s2 : Int32) (h : mj_H) (p : mj_H) (hf : f_X9_weighs_123 K91 v0 v5 v6 v7 v8 s0 s1 s2 h = some p) : mj_W mX9_weighs (mj_FV p) 123 [(0, .ref v0), (5, .int v5), (6, .int v6), (7, .int v7), (8, .int v8)] [.int s2, .int s1, .ref s0] h 0 0 := by
  unfold f_X9_weighs_123 at hf
  obtain ⟨h3, eh3, hf⟩ := mj_bd hf
  refine mj_iast 71 rfl eh3 ?_
  refine mj_blk k_X9_ok 72 4 (pc' := 130) (l' := [(0, .ref v0), (5, .int v5), (6, .int v6), (7, .int v7), (8, .int v8)]) (st' := [.int (v5 + v8), .ref v0]) rfl ?_
  obtain ⟨x4, ex4, hf⟩ := mj_bd hf
  refine mj_iald 76 rfl ex4 ?_
  refine mj_blk k_X9_ok 77 1 (pc' := 133) (l' := [(0, .ref v0), (5, .int v5), (6, .int v6), (7, .int v7), (8, .int v8)]) (st' := [.int v7, .int x4]) rfl ?_
  refine mj_icmp_le 78 146 rfl (by decide) (fun q => ?_) (fun q => ?_)
  · have hf := (if_pos q).symm.trans hf
    refine mj_blk k_X9_ok 85 1 (pc' := 148) (l' := [(0, .ref v0), (5, .int v5), (6, .int v6), (7, .int v7), (8, .int v8)]) (st' := [.int v7]) rfl ?_
    refine mj_locs [0, 1, 2, 4] (l' := [(0, .ref v0), (5, .int v5), (6, .int v6), (8, .int v8)]) rfl ?_
    exact w_X9_weighs_148 K91 hK91 v0 v5 v6 v8 v7 h3 _ hf
  · have hf := (if_neg q).symm.trans hf
    refine mj_blk k_X9_ok 79 4 (pc' := 142) (l' := [(0, .ref v0), (5, .int v5), (6, .int v6), (7, .int v7), (8, .int v8)]) (st' := [.int (v5 + v8), .ref v0]) rfl ?_
    obtain ⟨x5, ex5, hf⟩ := mj_bd hf
    refine mj_iald 83 rfl ex5 ?_
    refine mj_blk k_X9_ok 84 1 (pc' := 148) (l' := [(0, .ref v0), (5, .int v5), (6, .int v6), (7, .int v7), (8, .int v8)]) (st' := [.int x5]) rfl ?_
    refine mj_locs [0, 1, 2, 4] (l' := [(0, .ref v0), (5, .int v5), (6, .int v6), (8, .int v8)]) rfl ?_
    exact w_X9_weighs_148 K91 hK91 v0 v5 v6 v8 x5 h3 _ hf
def b_X9_weighs_91 (K91 : Nat → Int32 → Int32 → Int32 → Int32 → mj_H → Option (mj_H)) (v0 : Nat) (v5 : Int32) (v6 : Int32) (v7 : Int32) (v8 : Int32) (h : mj_H) : Option (mj_H) := (if (6 : Int32) ≤ v8 then f_X9_weighs_156 v0 v5 v7 h else (if v6 = 0 then f_X9_weighs_123 K91 v0 v5 v6 v7 v8 v0 (v5 + v8) (1 : Int32) h else (mj_aI h v0 (v5 + v8)).bind fun x6 => (if v6 = 0 then none else f_X9_weighs_123 K91 v0 v5 v6 v7 v8 v0 (v5 + v8) (x6 / v6) h)))
set_option maxHeartbeats 4000000 in
set_option maxRecDepth 100000 in
theorem wb_X9_weighs_91 (K91 : Nat → Int32 → Int32 → Int32 → Int32 → mj_H → Option (mj_H)) (hK91 : ∀ (v0 : Nat) (v5 : Int32) (v6 : Int32) (v7 : Int32) (v8 : Int32)  (h : mj_H) (p : mj_H), K91 v0 v5 v6 v7 v8 h = some p → mj_W mX9_weighs (mj_FV p) 91 [(0, .ref v0), (5, .int v5), (6, .int v6), (7, .int v7), (8, .int v8)] [] h 0 0) (v0 : Nat) (v5 : Int32) (v6 : Int32) (v7 : Int32) (v8 : Int32) (h : mj_H) (p : mj_H) (hf : b_X9_weighs_91  K91 v0 v5 v6 v7 v8 h = some p) : mj_W mX9_weighs (mj_FV p) 91 [(0, .ref v0), (5, .int v5), (6, .int v6), (7, .int v7), (8, .int v8)] [] h 0 0 := by
  unfold b_X9_weighs_91 at hf
  refine mj_blk k_X9_ok 53 2 (pc' := 95) (l' := [(0, .ref v0), (5, .int v5), (6, .int v6), (7, .int v7), (8, .int v8)]) (st' := [.int (6 : Int32), .int v8]) rfl ?_
  refine mj_icmp_ge 55 156 rfl (by decide) (fun q => ?_) (fun q => ?_)
  · have hf := (if_pos q).symm.trans hf
    refine mj_locs [0, 1, 3] (l' := [(0, .ref v0), (5, .int v5), (7, .int v7)]) rfl ?_
    exact w_X9_weighs_156 v0 v5 v7 h _ hf
  · have hf := (if_neg q).symm.trans hf
    refine mj_blk k_X9_ok 56 5 (pc' := 106) (l' := [(0, .ref v0), (5, .int v5), (6, .int v6), (7, .int v7), (8, .int v8)]) (st' := [.int v6, .int (v5 + v8), .ref v0]) rfl ?_
    refine mj_if_ne 61 113 rfl (by decide) (fun q => ?_) (fun q => ?_)
    · have hf := (if_neg q).symm.trans hf
      refine mj_blk k_X9_ok 64 4 (pc' := 119) (l' := [(0, .ref v0), (5, .int v5), (6, .int v6), (7, .int v7), (8, .int v8)]) (st' := [.int (v5 + v8), .ref v0, .int (v5 + v8), .ref v0]) rfl ?_
      obtain ⟨x6, ex6, hf⟩ := mj_bd hf
      refine mj_iald 68 rfl ex6 ?_
      refine mj_blk k_X9_ok 69 1 (pc' := 122) (l' := [(0, .ref v0), (5, .int v5), (6, .int v6), (7, .int v7), (8, .int v8)]) (st' := [.int v6, .int x6, .int (v5 + v8), .ref v0]) rfl ?_
      obtain ⟨g, hf⟩ := mj_g0 hf
      refine mj_idiv 70 rfl g ?_
      exact w_X9_weighs_123 K91 hK91 v0 v5 v6 v7 v8 v0 (v5 + v8) (x6 / v6) h _ hf
    · have hf := (if_pos q).symm.trans hf
      refine mj_blk k_X9_ok 62 2 (pc' := 123) (l' := [(0, .ref v0), (5, .int v5), (6, .int v6), (7, .int v7), (8, .int v8)]) (st' := [.int (1 : Int32), .int (v5 + v8), .ref v0]) rfl ?_
      exact w_X9_weighs_123 K91 hK91 v0 v5 v6 v7 v8 v0 (v5 + v8) (1 : Int32) h _ hf
def f_X9_weighs_91 (v0 : Nat) (v5 : Int32) (v6 : Int32) (v7 : Int32) (v8 : Int32) (h : mj_H) : Option (mj_H) := mj_fix (fun (K91 : (Nat × Int32 × Int32 × Int32 × Int32 × mj_H) → Option (mj_H)) (s : Nat × Int32 × Int32 × Int32 × Int32 × mj_H) => b_X9_weighs_91  (fun v0 v5 v6 v7 v8 h => K91 (v0, v5, v6, v7, v8, h)) s.1 s.2.1 s.2.2.1 s.2.2.2.1 s.2.2.2.2.1 s.2.2.2.2.2) 1000 (v0, v5, v6, v7, v8, h)
set_option maxHeartbeats 4000000 in
set_option maxRecDepth 100000 in
theorem w_X9_weighs_91 (v0 : Nat) (v5 : Int32) (v6 : Int32) (v7 : Int32) (v8 : Int32) (h : mj_H) (p : mj_H) (hf : f_X9_weighs_91  v0 v5 v6 v7 v8 h = some p) : mj_W mX9_weighs (mj_FV p) 91 [(0, .ref v0), (5, .int v5), (6, .int v6), (7, .int v7), (8, .int v8)] [] h 0 0 := by
  unfold f_X9_weighs_91 at hf
  exact mj_fix_ind (F := (fun (K91 : (Nat × Int32 × Int32 × Int32 × Int32 × mj_H) → Option (mj_H)) (s : Nat × Int32 × Int32 × Int32 × Int32 × mj_H) => b_X9_weighs_91  (fun v0 v5 v6 v7 v8 h => K91 (v0, v5, v6, v7, v8, h)) s.1 s.2.1 s.2.2.1 s.2.2.2.1 s.2.2.2.2.1 s.2.2.2.2.2)) (P := fun s p => mj_W mX9_weighs (mj_FV p) 91 [(0, .ref s.1), (5, .int s.2.1), (6, .int s.2.2.1), (7, .int s.2.2.2.1), (8, .int s.2.2.2.2.1)] [] s.2.2.2.2.2 0 0) (fun K91 hK91 s p hf => wb_X9_weighs_91   (fun v0 v5 v6 v7 v8 h => K91 (v0, v5, v6, v7, v8, h)) (fun v0 v5 v6 v7 v8 h p e => hK91 (v0, v5, v6, v7, v8, h) p e) s.1 s.2.1 s.2.2.1 s.2.2.2.1 s.2.2.2.2.1 s.2.2.2.2.2 p hf) 1000 (v0, v5, v6, v7, v8, h) p hf
def f_X9_weighs_66 (K27 : Nat → Int32 → Int32 → Int32 → Int32 → Int32 → Int32 → Int32 → mj_H → Option (mj_H)) (v0 : Nat) (v2 : Int32) (v3 : Int32) (v4 : Int32) (v5 : Int32) (v6 : Int32) (v7 : Int32) (v8 : Int32) (s0 : Nat) (s1 : Int32) (s2 : Int32) (s3 : Int32) (h : mj_H) : Option (mj_H) := (mj_uI h s0 s1 (s2 * s3)).bind fun h7 => (mj_aI h7 v0 (v5 + v8)).bind fun x8 => (f_X9_common v6 x8 h7).bind fun p9 => K27 v0 v2 v3 v4 v5 p9.1 v7 (v8 + (1 : Int32)) p9.2
set_option maxHeartbeats 4000000 in
set_option maxRecDepth 100000 in
theorem w_X9_weighs_66 (K27 : Nat → Int32 → Int32 → Int32 → Int32 → Int32 → Int32 → Int32 → mj_H → Option (mj_H)) (hK27 : ∀ (v0 : Nat) (v2 : Int32) (v3 : Int32) (v4 : Int32) (v5 : Int32) (v6 : Int32) (v7 : Int32) (v8 : Int32)  (h : mj_H) (p : mj_H), K27 v0 v2 v3 v4 v5 v6 v7 v8 h = some p → mj_W mX9_weighs (mj_FV p) 27 [(0, .ref v0), (2, .int v2), (3, .int v3), (4, .int v4), (5, .int v5), (6, .int v6), (7, .int v7), (8, .int v8)] [] h 0 0) (v0 : Nat) (v2 : Int32) (v3 : Int32) (v4 : Int32) (v5 : Int32) (v6 : Int32) (v7 : Int32) (v8 : Int32) (s0 : Nat) (s1 : Int32) (s2 : Int32) (s3 : Int32) (h : mj_H) (p : mj_H) (hf : f_X9_weighs_66 K27 v0 v2 v3 v4 v5 v6 v7 v8 s0 s1 s2 s3 h = some p) : mj_W mX9_weighs (mj_FV p) 66 [(0, .ref v0), (2, .int v2), (3, .int v3), (4, .int v4), (5, .int v5), (6, .int v6), (7, .int v7), (8, .int v8)] [.int s3, .int s2, .int s1, .ref s0] h 0 0 := by
  unfold f_X9_weighs_66 at hf
  refine mj_blk k_X9_ok 39 1 (pc' := 67) (l' := [(0, .ref v0), (2, .int v2), (3, .int v3), (4, .int v4), (5, .int v5), (6, .int v6), (7, .int v7), (8, .int v8)]) (st' := [.int (s2 * s3), .int s1, .ref s0]) rfl ?_
  obtain ⟨h7, eh7, hf⟩ := mj_bd hf
  refine mj_iast 40 rfl eh7 ?_
  refine mj_blk k_X9_ok 41 5 (pc' := 76) (l' := [(0, .ref v0), (2, .int v2), (3, .int v3), (4, .int v4), (5, .int v5), (6, .int v6), (7, .int v7), (8, .int v8)]) (st' := [.int (v5 + v8), .ref v0, .int v6]) rfl ?_
  obtain ⟨x8, ex8, hf⟩ := mj_bd hf
  refine mj_iald 46 rfl ex8 ?_
  obtain ⟨p9, ep9, hf⟩ := mj_bd hf
  refine mj_callS mX9_common [.int v6, .int x8] 47 rfl ll_X9_177 lb_X9_common li_X9_common ⟨Nat.le_of_ble_eq_true rfl, Nat.le_of_ble_eq_true rfl⟩ rfl (rest := []) rfl (Nat.le_of_ble_eq_true rfl) ⟨Nat.le_of_ble_eq_true rfl, Nat.le_of_ble_eq_true rfl⟩ (c_X9_common v6 x8 h7 p9 ep9) ?_
  show mj_W mX9_weighs (mj_FV p) 80 [(0, .ref v0), (2, .int v2), (3, .int v3), (4, .int v4), (5, .int v5), (6, .int v6), (7, .int v7), (8, .int v8)] [.int p9.1] p9.2 0 0
  refine mj_blk k_X9_ok 48 3 (pc' := 27) (l' := [(8, .int (v8 + (1 : Int32))), (6, .int p9.1), (0, .ref v0), (2, .int v2), (3, .int v3), (4, .int v4), (5, .int v5), (7, .int v7)]) (st' := []) rfl ?_
  refine mj_locs [2, 3, 4, 5, 6, 1, 7, 0] (l' := [(0, .ref v0), (2, .int v2), (3, .int v3), (4, .int v4), (5, .int v5), (6, .int p9.1), (7, .int v7), (8, .int (v8 + (1 : Int32)))]) rfl ?_
  exact hK27 v0 v2 v3 v4 v5 p9.1 v7 (v8 + (1 : Int32)) p9.2 _ hf
def b_X9_weighs_27 (K27 : Nat → Int32 → Int32 → Int32 → Int32 → Int32 → Int32 → Int32 → mj_H → Option (mj_H)) (v0 : Nat) (v2 : Int32) (v3 : Int32) (v4 : Int32) (v5 : Int32) (v6 : Int32) (v7 : Int32) (v8 : Int32) (h : mj_H) : Option (mj_H) := (if (6 : Int32) ≤ v8 then f_X9_weighs_91 v0 v5 v6 v7 (0 : Int32) h else (f_X9_casesOf v8 v2 v4 h).bind fun p10 => (mj_aI p10.2 v0 (v5 + v8)).bind fun x11 => (if v3 = 0 then f_X9_weighs_66 K27 v0 v2 v3 v4 v5 v6 v7 v8 v0 (v5 + v8) x11 ((12 : Int32) - p10.1) p10.2 else f_X9_weighs_66 K27 v0 v2 v3 v4 v5 v6 v7 v8 v0 (v5 + v8) x11 p10.1 p10.2))
set_option maxHeartbeats 4000000 in
set_option maxRecDepth 100000 in
theorem wb_X9_weighs_27 (K27 : Nat → Int32 → Int32 → Int32 → Int32 → Int32 → Int32 → Int32 → mj_H → Option (mj_H)) (hK27 : ∀ (v0 : Nat) (v2 : Int32) (v3 : Int32) (v4 : Int32) (v5 : Int32) (v6 : Int32) (v7 : Int32) (v8 : Int32)  (h : mj_H) (p : mj_H), K27 v0 v2 v3 v4 v5 v6 v7 v8 h = some p → mj_W mX9_weighs (mj_FV p) 27 [(0, .ref v0), (2, .int v2), (3, .int v3), (4, .int v4), (5, .int v5), (6, .int v6), (7, .int v7), (8, .int v8)] [] h 0 0) (v0 : Nat) (v2 : Int32) (v3 : Int32) (v4 : Int32) (v5 : Int32) (v6 : Int32) (v7 : Int32) (v8 : Int32) (h : mj_H) (p : mj_H) (hf : b_X9_weighs_27  K27 v0 v2 v3 v4 v5 v6 v7 v8 h = some p) : mj_W mX9_weighs (mj_FV p) 27 [(0, .ref v0), (2, .int v2), (3, .int v3), (4, .int v4), (5, .int v5), (6, .int v6), (7, .int v7), (8, .int v8)] [] h 0 0 := by
  unfold b_X9_weighs_27 at hf
  refine mj_blk k_X9_ok 18 2 (pc' := 31) (l' := [(0, .ref v0), (2, .int v2), (3, .int v3), (4, .int v4), (5, .int v5), (6, .int v6), (7, .int v7), (8, .int v8)]) (st' := [.int (6 : Int32), .int v8]) rfl ?_
  refine mj_icmp_ge 20 88 rfl (by decide) (fun q => ?_) (fun q => ?_)
  · have hf := (if_pos q).symm.trans hf
    refine mj_blk k_X9_ok 51 2 (pc' := 91) (l' := [(8, .int (0 : Int32)), (0, .ref v0), (2, .int v2), (3, .int v3), (4, .int v4), (5, .int v5), (6, .int v6), (7, .int v7)]) (st' := []) rfl ?_
    refine mj_locs [1, 5, 6, 7, 0] (l' := [(0, .ref v0), (5, .int v5), (6, .int v6), (7, .int v7), (8, .int (0 : Int32))]) rfl ?_
    exact w_X9_weighs_91 v0 v5 v6 v7 (0 : Int32) h _ hf
  · have hf := (if_neg q).symm.trans hf
    refine mj_blk k_X9_ok 21 3 (pc' := 39) (l' := [(0, .ref v0), (2, .int v2), (3, .int v3), (4, .int v4), (5, .int v5), (6, .int v6), (7, .int v7), (8, .int v8)]) (st' := [.int v4, .int v2, .int v8]) rfl ?_
    obtain ⟨p10, ep10, hf⟩ := mj_bd hf
    refine mj_callS mX9_casesOf [.int v8, .int v2, .int v4] 24 rfl ll_X9_157 lb_X9_casesOf li_X9_casesOf ⟨Nat.le_of_ble_eq_true rfl, Nat.le_of_ble_eq_true rfl⟩ rfl (rest := []) rfl (Nat.le_of_ble_eq_true rfl) ⟨Nat.le_of_ble_eq_true rfl, Nat.le_of_ble_eq_true rfl⟩ (c_X9_casesOf v8 v2 v4 h p10 ep10) ?_
    show mj_W mX9_weighs (mj_FV p) 42 [(0, .ref v0), (2, .int v2), (3, .int v3), (4, .int v4), (5, .int v5), (6, .int v6), (7, .int v7), (8, .int v8)] [.int p10.1] p10.2 0 0
    refine mj_blk k_X9_ok 25 6 (pc' := 51) (l' := [(9, .int p10.1), (0, .ref v0), (2, .int v2), (3, .int v3), (4, .int v4), (5, .int v5), (6, .int v6), (7, .int v7), (8, .int v8)]) (st' := [.int (v5 + v8), .ref v0, .int (v5 + v8), .ref v0]) rfl ?_
    obtain ⟨x11, ex11, hf⟩ := mj_bd hf
    refine mj_iald 31 rfl ex11 ?_
    refine mj_blk k_X9_ok 32 1 (pc' := 53) (l' := [(9, .int p10.1), (0, .ref v0), (2, .int v2), (3, .int v3), (4, .int v4), (5, .int v5), (6, .int v6), (7, .int v7), (8, .int v8)]) (st' := [.int v3, .int x11, .int (v5 + v8), .ref v0]) rfl ?_
    refine mj_if_eq 33 61 rfl (by decide) (fun q => ?_) (fun q => ?_)
    · have hf := (if_pos q).symm.trans hf
      refine mj_blk k_X9_ok 36 3 (pc' := 66) (l' := [(9, .int p10.1), (0, .ref v0), (2, .int v2), (3, .int v3), (4, .int v4), (5, .int v5), (6, .int v6), (7, .int v7), (8, .int v8)]) (st' := [.int ((12 : Int32) - p10.1), .int x11, .int (v5 + v8), .ref v0]) rfl ?_
      refine mj_locs [1, 2, 3, 4, 5, 6, 7, 8] (l' := [(0, .ref v0), (2, .int v2), (3, .int v3), (4, .int v4), (5, .int v5), (6, .int v6), (7, .int v7), (8, .int v8)]) rfl ?_
      exact w_X9_weighs_66 K27 hK27 v0 v2 v3 v4 v5 v6 v7 v8 v0 (v5 + v8) x11 ((12 : Int32) - p10.1) p10.2 _ hf
    · have hf := (if_neg q).symm.trans hf
      refine mj_blk k_X9_ok 34 2 (pc' := 66) (l' := [(9, .int p10.1), (0, .ref v0), (2, .int v2), (3, .int v3), (4, .int v4), (5, .int v5), (6, .int v6), (7, .int v7), (8, .int v8)]) (st' := [.int p10.1, .int x11, .int (v5 + v8), .ref v0]) rfl ?_
      refine mj_locs [1, 2, 3, 4, 5, 6, 7, 8] (l' := [(0, .ref v0), (2, .int v2), (3, .int v3), (4, .int v4), (5, .int v5), (6, .int v6), (7, .int v7), (8, .int v8)]) rfl ?_
      exact w_X9_weighs_66 K27 hK27 v0 v2 v3 v4 v5 v6 v7 v8 v0 (v5 + v8) x11 p10.1 p10.2 _ hf
def f_X9_weighs_27 (v0 : Nat) (v2 : Int32) (v3 : Int32) (v4 : Int32) (v5 : Int32) (v6 : Int32) (v7 : Int32) (v8 : Int32) (h : mj_H) : Option (mj_H) := mj_fix (fun (K27 : (Nat × Int32 × Int32 × Int32 × Int32 × Int32 × Int32 × Int32 × mj_H) → Option (mj_H)) (s : Nat × Int32 × Int32 × Int32 × Int32 × Int32 × Int32 × Int32 × mj_H) => b_X9_weighs_27  (fun v0 v2 v3 v4 v5 v6 v7 v8 h => K27 (v0, v2, v3, v4, v5, v6, v7, v8, h)) s.1 s.2.1 s.2.2.1 s.2.2.2.1 s.2.2.2.2.1 s.2.2.2.2.2.1 s.2.2.2.2.2.2.1 s.2.2.2.2.2.2.2.1 s.2.2.2.2.2.2.2.2) 1000 (v0, v2, v3, v4, v5, v6, v7, v8, h)
set_option maxHeartbeats 4000000 in
set_option maxRecDepth 100000 in
theorem w_X9_weighs_27 (v0 : Nat) (v2 : Int32) (v3 : Int32) (v4 : Int32) (v5 : Int32) (v6 : Int32) (v7 : Int32) (v8 : Int32) (h : mj_H) (p : mj_H) (hf : f_X9_weighs_27  v0 v2 v3 v4 v5 v6 v7 v8 h = some p) : mj_W mX9_weighs (mj_FV p) 27 [(0, .ref v0), (2, .int v2), (3, .int v3), (4, .int v4), (5, .int v5), (6, .int v6), (7, .int v7), (8, .int v8)] [] h 0 0 := by
  unfold f_X9_weighs_27 at hf
  exact mj_fix_ind (F := (fun (K27 : (Nat × Int32 × Int32 × Int32 × Int32 × Int32 × Int32 × Int32 × mj_H) → Option (mj_H)) (s : Nat × Int32 × Int32 × Int32 × Int32 × Int32 × Int32 × Int32 × mj_H) => b_X9_weighs_27  (fun v0 v2 v3 v4 v5 v6 v7 v8 h => K27 (v0, v2, v3, v4, v5, v6, v7, v8, h)) s.1 s.2.1 s.2.2.1 s.2.2.2.1 s.2.2.2.2.1 s.2.2.2.2.2.1 s.2.2.2.2.2.2.1 s.2.2.2.2.2.2.2.1 s.2.2.2.2.2.2.2.2)) (P := fun s p => mj_W mX9_weighs (mj_FV p) 27 [(0, .ref s.1), (2, .int s.2.1), (3, .int s.2.2.1), (4, .int s.2.2.2.1), (5, .int s.2.2.2.2.1), (6, .int s.2.2.2.2.2.1), (7, .int s.2.2.2.2.2.2.1), (8, .int s.2.2.2.2.2.2.2.1)] [] s.2.2.2.2.2.2.2.2 0 0) (fun K27 hK27 s p hf => wb_X9_weighs_27   (fun v0 v2 v3 v4 v5 v6 v7 v8 h => K27 (v0, v2, v3, v4, v5, v6, v7, v8, h)) (fun v0 v2 v3 v4 v5 v6 v7 v8 h p e => hK27 (v0, v2, v3, v4, v5, v6, v7, v8, h) p e) s.1 s.2.1 s.2.2.1 s.2.2.2.1 s.2.2.2.2.1 s.2.2.2.2.2.1 s.2.2.2.2.2.2.1 s.2.2.2.2.2.2.2.1 s.2.2.2.2.2.2.2.2 p hf) 1000 (v0, v2, v3, v4, v5, v6, v7, v8, h) p hf
def f_X9_weighs (v0 : Nat) (v1 : Int32) (v2 : Int32) (v3 : Int32) (h : mj_H) : Option (mj_H) := (mj_aI h v0 (2 : Int32)).bind fun x12 => (f_X9_has x12 v1 h).bind fun p13 => f_X9_weighs_27 v0 v2 v3 p13.1 ((16 : Int32) + ((6 : Int32) * v1)) (0 : Int32) (0 : Int32) (0 : Int32) p13.2
set_option maxHeartbeats 4000000 in
set_option maxRecDepth 100000 in
theorem c_X9_weighs (v0 : Nat) (v1 : Int32) (v2 : Int32) (v3 : Int32) (h : mj_H) (p : mj_H) (hf : f_X9_weighs v0 v1 v2 v3 h = some p) : mj_Met mX9_weighs [.ref v0, .int v1, .int v2, .int v3] h none p := by
  refine mj_met pl_X9 tok_X9_weighs (Nat.le_of_ble_eq_true rfl) ?_
  show mj_W mX9_weighs (mj_FV p) 0 [(0, .ref v0), (1, .int v1), (2, .int v2), (3, .int v3)] [] h 0 0
  unfold f_X9_weighs at hf
  refine mj_blk k_X9_ok 0 2 (pc' := 2) (l' := [(0, .ref v0), (1, .int v1), (2, .int v2), (3, .int v3)]) (st' := [.int (2 : Int32), .ref v0]) rfl ?_
  obtain ⟨x12, ex12, hf⟩ := mj_bd hf
  refine mj_iald 2 rfl ex12 ?_
  refine mj_blk k_X9_ok 3 1 (pc' := 4) (l' := [(0, .ref v0), (1, .int v1), (2, .int v2), (3, .int v3)]) (st' := [.int v1, .int x12]) rfl ?_
  obtain ⟨p13, ep13, hf⟩ := mj_bd hf
  refine mj_callS mX9_has [.int x12, .int v1] 4 rfl ll_X9_69 lb_X9_has li_X9_has ⟨Nat.le_of_ble_eq_true rfl, Nat.le_of_ble_eq_true rfl⟩ rfl (rest := []) rfl (Nat.le_of_ble_eq_true rfl) ⟨Nat.le_of_ble_eq_true rfl, Nat.le_of_ble_eq_true rfl⟩ (c_X9_has x12 v1 h p13 ep13) ?_
  show mj_W mX9_weighs (mj_FV p) 7 [(0, .ref v0), (1, .int v1), (2, .int v2), (3, .int v3)] [.int p13.1] p13.2 0 0
  refine mj_blk k_X9_ok 5 13 (pc' := 27) (l' := [(8, .int (0 : Int32)), (7, .int (0 : Int32)), (6, .int (0 : Int32)), (5, .int ((16 : Int32) + ((6 : Int32) * v1))), (4, .int p13.1), (0, .ref v0), (1, .int v1), (2, .int v2), (3, .int v3)]) (st' := []) rfl ?_
  refine mj_locs [5, 7, 8, 4, 3, 2, 1, 0] (l' := [(0, .ref v0), (2, .int v2), (3, .int v3), (4, .int p13.1), (5, .int ((16 : Int32) + ((6 : Int32) * v1))), (6, .int (0 : Int32)), (7, .int (0 : Int32)), (8, .int (0 : Int32))]) rfl ?_
  exact w_X9_weighs_27 v0 v2 v3 p13.1 ((16 : Int32) + ((6 : Int32) * v1)) (0 : Int32) (0 : Int32) (0 : Int32) p13.2 _ hf
def f_X9_tests_94 (v0 : Nat) (v2 : Int32) (s0 : Nat) (s1 : Int32) (s2 : Int32) (s3 : Int32) (h : mj_H) : Option (mj_H) := (mj_uI h s0 s1 (s2 ||| s3)).bind fun h1 => (mj_aI h1 v0 (1 : Int32)).bind fun x2 => (f_X9_costOf v2 h1).bind fun p3 => (mj_uI p3.2 v0 (1 : Int32) (x2 - p3.1)).bind fun h4 => some h4
set_option maxHeartbeats 4000000 in
set_option maxRecDepth 100000 in
theorem w_X9_tests_94 (v0 : Nat) (v2 : Int32) (s0 : Nat) (s1 : Int32) (s2 : Int32) (s3 : Int32) (h : mj_H) (p : mj_H) (hf : f_X9_tests_94  v0 v2 s0 s1 s2 s3 h = some p) : mj_W mX9_tests (mj_FV p) 94 [(0, .ref v0), (2, .int v2)] [.int s3, .int s2, .int s1, .ref s0] h 0 0 := by
  unfold f_X9_tests_94 at hf
  refine mj_blk k_X9_ok 61 1 (pc' := 95) (l' := [(0, .ref v0), (2, .int v2)]) (st' := [.int (s2 ||| s3), .int s1, .ref s0]) rfl ?_
  obtain ⟨h1, eh1, hf⟩ := mj_bd hf
  refine mj_iast 62 rfl eh1 ?_
  refine mj_blk k_X9_ok 63 3 (pc' := 99) (l' := [(0, .ref v0), (2, .int v2)]) (st' := [.int (1 : Int32), .ref v0, .int (1 : Int32), .ref v0]) rfl ?_
  obtain ⟨x2, ex2, hf⟩ := mj_bd hf
  refine mj_iald 66 rfl ex2 ?_
  refine mj_blk k_X9_ok 67 1 (pc' := 101) (l' := [(0, .ref v0), (2, .int v2)]) (st' := [.int v2, .int x2, .int (1 : Int32), .ref v0]) rfl ?_
  obtain ⟨p3, ep3, hf⟩ := mj_bd hf
  refine mj_callS mX9_costOf [.int v2] 68 rfl ll_X9_185 lb_X9_costOf li_X9_costOf ⟨Nat.le_of_ble_eq_true rfl, Nat.le_of_ble_eq_true rfl⟩ rfl (rest := [.int x2, .int (1 : Int32), .ref v0]) rfl (Nat.le_of_ble_eq_true rfl) ⟨Nat.le_of_ble_eq_true rfl, Nat.le_of_ble_eq_true rfl⟩ (c_X9_costOf v2 h1 p3 ep3) ?_
  show mj_W mX9_tests (mj_FV p) 104 [(0, .ref v0), (2, .int v2)] [.int p3.1, .int x2, .int (1 : Int32), .ref v0] p3.2 0 0
  refine mj_blk k_X9_ok 69 1 (pc' := 105) (l' := [(0, .ref v0), (2, .int v2)]) (st' := [.int (x2 - p3.1), .int (1 : Int32), .ref v0]) rfl ?_
  obtain ⟨h4, eh4, hf⟩ := mj_bd hf
  refine mj_iast 70 rfl eh4 ?_
  obtain rfl := Option.some.inj hf
  exact mj_end none ⟨mj_dec tok_X9_tests (a := 71) rfl, rfl⟩ ⟨rfl, rfl⟩ (Nat.le_of_ble_eq_true rfl) (Nat.le_of_ble_eq_true rfl)
def f_X9_tests_77 (v0 : Nat) (v2 : Int32) (s0 : Int32) (s1 : Int32) (h : mj_H) : Option (mj_H) := (mj_aI h v0 (2 : Int32)).bind fun x5 => (if v2 = 0 then f_X9_tests_94 v0 v2 v0 (2 : Int32) x5 (s0 ||| s1) h else f_X9_tests_94 v0 v2 v0 (2 : Int32) x5 (0 : Int32) h)
set_option maxHeartbeats 4000000 in
set_option maxRecDepth 100000 in
theorem w_X9_tests_77 (v0 : Nat) (v2 : Int32) (s0 : Int32) (s1 : Int32) (h : mj_H) (p : mj_H) (hf : f_X9_tests_77  v0 v2 s0 s1 h = some p) : mj_W mX9_tests (mj_FV p) 77 [(0, .ref v0), (2, .int v2)] [.int s1, .int s0] h 0 0 := by
  unfold f_X9_tests_77 at hf
  refine mj_blk k_X9_ok 50 5 (pc' := 83) (l' := [(4, .int (s0 ||| s1)), (0, .ref v0), (2, .int v2)]) (st' := [.int (2 : Int32), .ref v0, .int (2 : Int32), .ref v0]) rfl ?_
  obtain ⟨x5, ex5, hf⟩ := mj_bd hf
  refine mj_iald 55 rfl ex5 ?_
  refine mj_blk k_X9_ok 56 1 (pc' := 85) (l' := [(4, .int (s0 ||| s1)), (0, .ref v0), (2, .int v2)]) (st' := [.int v2, .int x5, .int (2 : Int32), .ref v0]) rfl ?_
  refine mj_if_ne 57 93 rfl (by decide) (fun q => ?_) (fun q => ?_)
  · have hf := (if_neg q).symm.trans hf
    refine mj_blk k_X9_ok 60 1 (pc' := 94) (l' := [(4, .int (s0 ||| s1)), (0, .ref v0), (2, .int v2)]) (st' := [.int (0 : Int32), .int x5, .int (2 : Int32), .ref v0]) rfl ?_
    refine mj_locs [1, 2] (l' := [(0, .ref v0), (2, .int v2)]) rfl ?_
    exact w_X9_tests_94 v0 v2 v0 (2 : Int32) x5 (0 : Int32) h _ hf
  · have hf := (if_pos q).symm.trans hf
    refine mj_blk k_X9_ok 58 2 (pc' := 94) (l' := [(4, .int (s0 ||| s1)), (0, .ref v0), (2, .int v2)]) (st' := [.int (s0 ||| s1), .int x5, .int (2 : Int32), .ref v0]) rfl ?_
    refine mj_locs [1, 2] (l' := [(0, .ref v0), (2, .int v2)]) rfl ?_
    exact w_X9_tests_94 v0 v2 v0 (2 : Int32) x5 (s0 ||| s1) h _ hf
def f_X9_tests_59 (v0 : Nat) (v1 : Int32) (v2 : Int32) (s0 : Int32) (h : mj_H) : Option (mj_H) := (mj_aI h v0 (0 : Int32)).bind fun x6 => (if x6 ≤ (v1 + (1 : Int32)) then f_X9_tests_77 v0 v2 s0 (0 : Int32) h else f_X9_tests_77 v0 v2 s0 ((1 : Int32) <<< ((v1 + (1 : Int32)) &&& 31)) h)
set_option maxHeartbeats 4000000 in
set_option maxRecDepth 100000 in
theorem w_X9_tests_59 (v0 : Nat) (v1 : Int32) (v2 : Int32) (s0 : Int32) (h : mj_H) (p : mj_H) (hf : f_X9_tests_59  v0 v1 v2 s0 h = some p) : mj_W mX9_tests (mj_FV p) 59 [(0, .ref v0), (1, .int v1), (2, .int v2)] [.int s0] h 0 0 := by
  unfold f_X9_tests_59 at hf
  refine mj_blk k_X9_ok 36 5 (pc' := 64) (l' := [(0, .ref v0), (1, .int v1), (2, .int v2)]) (st' := [.int (0 : Int32), .ref v0, .int (v1 + (1 : Int32)), .int s0]) rfl ?_
  obtain ⟨x6, ex6, hf⟩ := mj_bd hf
  refine mj_iald 41 rfl ex6 ?_
  refine mj_icmp_ge 42 76 rfl (by decide) (fun q => ?_) (fun q => ?_)
  · have hf := (if_pos q).symm.trans hf
    refine mj_blk k_X9_ok 49 1 (pc' := 77) (l' := [(0, .ref v0), (1, .int v1), (2, .int v2)]) (st' := [.int (0 : Int32), .int s0]) rfl ?_
    refine mj_locs [0, 2] (l' := [(0, .ref v0), (2, .int v2)]) rfl ?_
    exact w_X9_tests_77 v0 v2 s0 (0 : Int32) h _ hf
  · have hf := (if_neg q).symm.trans hf
    refine mj_blk k_X9_ok 43 6 (pc' := 77) (l' := [(0, .ref v0), (1, .int v1), (2, .int v2)]) (st' := [.int ((1 : Int32) <<< ((v1 + (1 : Int32)) &&& 31)), .int s0]) rfl ?_
    refine mj_locs [0, 2] (l' := [(0, .ref v0), (2, .int v2)]) rfl ?_
    exact w_X9_tests_77 v0 v2 s0 ((1 : Int32) <<< ((v1 + (1 : Int32)) &&& 31)) h _ hf
def f_X9_tests_40 (K10 : Nat → Int32 → Int32 → Int32 → Int32 → mj_H → Option (mj_H)) (v0 : Nat) (v1 : Int32) (v2 : Int32) (v3 : Int32) (v4 : Int32) (h : mj_H) : Option (mj_H) := K10 v0 v1 v2 v3 (v4 + (1 : Int32)) h
set_option maxHeartbeats 4000000 in
set_option maxRecDepth 100000 in
theorem w_X9_tests_40 (K10 : Nat → Int32 → Int32 → Int32 → Int32 → mj_H → Option (mj_H)) (hK10 : ∀ (v0 : Nat) (v1 : Int32) (v2 : Int32) (v3 : Int32) (v4 : Int32)  (h : mj_H) (p : mj_H), K10 v0 v1 v2 v3 v4 h = some p → mj_W mX9_tests (mj_FV p) 10 [(0, .ref v0), (1, .int v1), (2, .int v2), (3, .int v3), (4, .int v4)] [] h 0 0) (v0 : Nat) (v1 : Int32) (v2 : Int32) (v3 : Int32) (v4 : Int32) (h : mj_H) (p : mj_H) (hf : f_X9_tests_40 K10 v0 v1 v2 v3 v4 h = some p) : mj_W mX9_tests (mj_FV p) 40 [(0, .ref v0), (1, .int v1), (2, .int v2), (3, .int v3), (4, .int v4)] [] h 0 0 := by
  unfold f_X9_tests_40 at hf
  refine mj_blk k_X9_ok 25 2 (pc' := 10) (l' := [(4, .int (v4 + (1 : Int32))), (0, .ref v0), (1, .int v1), (2, .int v2), (3, .int v3)]) (st' := []) rfl ?_
  refine mj_locs [1, 2, 3, 4, 0] (l' := [(0, .ref v0), (1, .int v1), (2, .int v2), (3, .int v3), (4, .int (v4 + (1 : Int32)))]) rfl ?_
  exact hK10 v0 v1 v2 v3 (v4 + (1 : Int32)) h _ hf
def b_X9_tests_10 (K10 : Nat → Int32 → Int32 → Int32 → Int32 → mj_H → Option (mj_H)) (v0 : Nat) (v1 : Int32) (v2 : Int32) (v3 : Int32) (v4 : Int32) (h : mj_H) : Option (mj_H) := (mj_aI h v0 (0 : Int32)).bind fun x7 => (if x7 ≤ v4 then (if v1 ≤ 0 then f_X9_tests_59 v0 v1 v2 (0 : Int32) h else f_X9_tests_59 v0 v1 v2 ((1 : Int32) <<< ((v1 - (1 : Int32)) &&& 31)) h) else (mj_aI h v0 ((10 : Int32) + v1)).bind fun x8 => (f_X9_has x8 v4 h).bind fun p9 => (if p9.1 = 0 then f_X9_tests_40 K10 v0 v1 v2 v3 v4 p9.2 else (f_X9_weighs v0 v4 v2 v3 p9.2).bind fun p10 => f_X9_tests_40 K10 v0 v1 v2 v3 v4 p10))
set_option maxHeartbeats 4000000 in
set_option maxRecDepth 100000 in
theorem wb_X9_tests_10 (K10 : Nat → Int32 → Int32 → Int32 → Int32 → mj_H → Option (mj_H)) (hK10 : ∀ (v0 : Nat) (v1 : Int32) (v2 : Int32) (v3 : Int32) (v4 : Int32)  (h : mj_H) (p : mj_H), K10 v0 v1 v2 v3 v4 h = some p → mj_W mX9_tests (mj_FV p) 10 [(0, .ref v0), (1, .int v1), (2, .int v2), (3, .int v3), (4, .int v4)] [] h 0 0) (v0 : Nat) (v1 : Int32) (v2 : Int32) (v3 : Int32) (v4 : Int32) (h : mj_H) (p : mj_H) (hf : b_X9_tests_10  K10 v0 v1 v2 v3 v4 h = some p) : mj_W mX9_tests (mj_FV p) 10 [(0, .ref v0), (1, .int v1), (2, .int v2), (3, .int v3), (4, .int v4)] [] h 0 0 := by
  unfold b_X9_tests_10 at hf
  refine mj_blk k_X9_ok 7 3 (pc' := 14) (l' := [(0, .ref v0), (1, .int v1), (2, .int v2), (3, .int v3), (4, .int v4)]) (st' := [.int (0 : Int32), .ref v0, .int v4]) rfl ?_
  obtain ⟨x7, ex7, hf⟩ := mj_bd hf
  refine mj_iald 10 rfl ex7 ?_
  refine mj_icmp_ge 11 46 rfl (by decide) (fun q => ?_) (fun q => ?_)
  · have hf := (if_pos q).symm.trans hf
    refine mj_blk k_X9_ok 27 1 (pc' := 47) (l' := [(0, .ref v0), (1, .int v1), (2, .int v2), (3, .int v3), (4, .int v4)]) (st' := [.int v1]) rfl ?_
    refine mj_if_le 28 58 rfl (by decide) (fun q => ?_) (fun q => ?_)
    · have hf := (if_pos q).symm.trans hf
      refine mj_blk k_X9_ok 35 1 (pc' := 59) (l' := [(0, .ref v0), (1, .int v1), (2, .int v2), (3, .int v3), (4, .int v4)]) (st' := [.int (0 : Int32)]) rfl ?_
      refine mj_locs [0, 1, 2] (l' := [(0, .ref v0), (1, .int v1), (2, .int v2)]) rfl ?_
      exact w_X9_tests_59 v0 v1 v2 (0 : Int32) h _ hf
    · have hf := (if_neg q).symm.trans hf
      refine mj_blk k_X9_ok 29 6 (pc' := 59) (l' := [(0, .ref v0), (1, .int v1), (2, .int v2), (3, .int v3), (4, .int v4)]) (st' := [.int ((1 : Int32) <<< ((v1 - (1 : Int32)) &&& 31))]) rfl ?_
      refine mj_locs [0, 1, 2] (l' := [(0, .ref v0), (1, .int v1), (2, .int v2)]) rfl ?_
      exact w_X9_tests_59 v0 v1 v2 ((1 : Int32) <<< ((v1 - (1 : Int32)) &&& 31)) h _ hf
  · have hf := (if_neg q).symm.trans hf
    refine mj_blk k_X9_ok 12 4 (pc' := 23) (l' := [(0, .ref v0), (1, .int v1), (2, .int v2), (3, .int v3), (4, .int v4)]) (st' := [.int ((10 : Int32) + v1), .ref v0]) rfl ?_
    obtain ⟨x8, ex8, hf⟩ := mj_bd hf
    refine mj_iald 16 rfl ex8 ?_
    refine mj_blk k_X9_ok 17 1 (pc' := 26) (l' := [(0, .ref v0), (1, .int v1), (2, .int v2), (3, .int v3), (4, .int v4)]) (st' := [.int v4, .int x8]) rfl ?_
    obtain ⟨p9, ep9, hf⟩ := mj_bd hf
    refine mj_callS mX9_has [.int x8, .int v4] 18 rfl ll_X9_69 lb_X9_has li_X9_has ⟨Nat.le_of_ble_eq_true rfl, Nat.le_of_ble_eq_true rfl⟩ rfl (rest := []) rfl (Nat.le_of_ble_eq_true rfl) ⟨Nat.le_of_ble_eq_true rfl, Nat.le_of_ble_eq_true rfl⟩ (c_X9_has x8 v4 h p9 ep9) ?_
    show mj_W mX9_tests (mj_FV p) 29 [(0, .ref v0), (1, .int v1), (2, .int v2), (3, .int v3), (4, .int v4)] [.int p9.1] p9.2 0 0
    refine mj_if_eq 19 40 rfl (by decide) (fun q => ?_) (fun q => ?_)
    · have hf := (if_pos q).symm.trans hf
      exact w_X9_tests_40 K10 hK10 v0 v1 v2 v3 v4 p9.2 _ hf
    · have hf := (if_neg q).symm.trans hf
      refine mj_blk k_X9_ok 20 4 (pc' := 37) (l' := [(0, .ref v0), (1, .int v1), (2, .int v2), (3, .int v3), (4, .int v4)]) (st' := [.int v3, .int v2, .int v4, .ref v0]) rfl ?_
      obtain ⟨p10, ep10, hf⟩ := mj_bd hf
      refine mj_callS mX9_weighs [.ref v0, .int v4, .int v2, .int v3] 24 rfl ll_X9_181 lb_X9_weighs li_X9_weighs ⟨Nat.le_of_ble_eq_true rfl, Nat.le_of_ble_eq_true rfl⟩ rfl (rest := []) rfl (Nat.le_of_ble_eq_true rfl) ⟨Nat.le_of_ble_eq_true rfl, Nat.le_of_ble_eq_true rfl⟩ (c_X9_weighs v0 v4 v2 v3 p9.2 p10 ep10) ?_
      show mj_W mX9_tests (mj_FV p) 40 [(0, .ref v0), (1, .int v1), (2, .int v2), (3, .int v3), (4, .int v4)] [] p10 0 0
      exact w_X9_tests_40 K10 hK10 v0 v1 v2 v3 v4 p10 _ hf
def f_X9_tests_10 (v0 : Nat) (v1 : Int32) (v2 : Int32) (v3 : Int32) (v4 : Int32) (h : mj_H) : Option (mj_H) := mj_fix (fun (K10 : (Nat × Int32 × Int32 × Int32 × Int32 × mj_H) → Option (mj_H)) (s : Nat × Int32 × Int32 × Int32 × Int32 × mj_H) => b_X9_tests_10  (fun v0 v1 v2 v3 v4 h => K10 (v0, v1, v2, v3, v4, h)) s.1 s.2.1 s.2.2.1 s.2.2.2.1 s.2.2.2.2.1 s.2.2.2.2.2) 1000 (v0, v1, v2, v3, v4, h)
set_option maxHeartbeats 4000000 in
set_option maxRecDepth 100000 in
theorem w_X9_tests_10 (v0 : Nat) (v1 : Int32) (v2 : Int32) (v3 : Int32) (v4 : Int32) (h : mj_H) (p : mj_H) (hf : f_X9_tests_10  v0 v1 v2 v3 v4 h = some p) : mj_W mX9_tests (mj_FV p) 10 [(0, .ref v0), (1, .int v1), (2, .int v2), (3, .int v3), (4, .int v4)] [] h 0 0 := by
  unfold f_X9_tests_10 at hf
  exact mj_fix_ind (F := (fun (K10 : (Nat × Int32 × Int32 × Int32 × Int32 × mj_H) → Option (mj_H)) (s : Nat × Int32 × Int32 × Int32 × Int32 × mj_H) => b_X9_tests_10  (fun v0 v1 v2 v3 v4 h => K10 (v0, v1, v2, v3, v4, h)) s.1 s.2.1 s.2.2.1 s.2.2.2.1 s.2.2.2.2.1 s.2.2.2.2.2)) (P := fun s p => mj_W mX9_tests (mj_FV p) 10 [(0, .ref s.1), (1, .int s.2.1), (2, .int s.2.2.1), (3, .int s.2.2.2.1), (4, .int s.2.2.2.2.1)] [] s.2.2.2.2.2 0 0) (fun K10 hK10 s p hf => wb_X9_tests_10   (fun v0 v1 v2 v3 v4 h => K10 (v0, v1, v2, v3, v4, h)) (fun v0 v1 v2 v3 v4 h p e => hK10 (v0, v1, v2, v3, v4, h) p e) s.1 s.2.1 s.2.2.1 s.2.2.2.1 s.2.2.2.2.1 s.2.2.2.2.2 p hf) 1000 (v0, v1, v2, v3, v4, h) p hf
def f_X9_tests (v0 : Nat) (v1 : Int32) (v2 : Int32) (v3 : Int32) (h : mj_H) : Option (mj_H) := (f_X9_weighs v0 v1 v2 v3 h).bind fun p11 => f_X9_tests_10 v0 v1 v2 v3 (0 : Int32) p11
set_option maxHeartbeats 4000000 in
set_option maxRecDepth 100000 in
theorem c_X9_tests (v0 : Nat) (v1 : Int32) (v2 : Int32) (v3 : Int32) (h : mj_H) (p : mj_H) (hf : f_X9_tests v0 v1 v2 v3 h = some p) : mj_Met mX9_tests [.ref v0, .int v1, .int v2, .int v3] h none p := by
  refine mj_met pl_X9 tok_X9_tests (Nat.le_of_ble_eq_true rfl) ?_
  show mj_W mX9_tests (mj_FV p) 0 [(0, .ref v0), (1, .int v1), (2, .int v2), (3, .int v3)] [] h 0 0
  unfold f_X9_tests at hf
  refine mj_blk k_X9_ok 0 4 (pc' := 4) (l' := [(0, .ref v0), (1, .int v1), (2, .int v2), (3, .int v3)]) (st' := [.int v3, .int v2, .int v1, .ref v0]) rfl ?_
  obtain ⟨p11, ep11, hf⟩ := mj_bd hf
  refine mj_callS mX9_weighs [.ref v0, .int v1, .int v2, .int v3] 4 rfl ll_X9_181 lb_X9_weighs li_X9_weighs ⟨Nat.le_of_ble_eq_true rfl, Nat.le_of_ble_eq_true rfl⟩ rfl (rest := []) rfl (Nat.le_of_ble_eq_true rfl) ⟨Nat.le_of_ble_eq_true rfl, Nat.le_of_ble_eq_true rfl⟩ (c_X9_weighs v0 v1 v2 v3 h p11 ep11) ?_
  show mj_W mX9_tests (mj_FV p) 7 [(0, .ref v0), (1, .int v1), (2, .int v2), (3, .int v3)] [] p11 0 0
  refine mj_blk k_X9_ok 5 2 (pc' := 10) (l' := [(4, .int (0 : Int32)), (0, .ref v0), (1, .int v1), (2, .int v2), (3, .int v3)]) (st' := []) rfl ?_
  refine mj_locs [1, 2, 3, 4, 0] (l' := [(0, .ref v0), (1, .int v1), (2, .int v2), (3, .int v3), (4, .int (0 : Int32))]) rfl ?_
  exact w_X9_tests_10 v0 v1 v2 v3 (0 : Int32) p11 _ hf
def f_X9_remember_57 (v0 : Nat) (h : mj_H) : Option (mj_H) := (mj_gR h v0 9 0).bind fun x1 => (mj_aI h x1 (3 : Int32)).bind fun x2 => (mj_gR h v0 9 0).bind fun x3 => (mj_gR h v0 9 0).bind fun x4 => (mj_aI h x4 (1 : Int32)).bind fun x5 => (mj_uI h x3 ((52 : Int32) + ((38 : Int32) * x2)) x5).bind fun h6 => (mj_gR h6 v0 9 0).bind fun x7 => (mj_gR h6 v0 9 0).bind fun x8 => (mj_aI h6 x8 (2 : Int32)).bind fun x9 => (mj_uI h6 x7 (((52 : Int32) + ((38 : Int32) * x2)) + (1 : Int32)) x9).bind fun h10 => (mj_gR h10 v0 9 0).bind fun x11 => (mj_gR h10 v0 9 0).bind fun x12 => (f_X9_copies x11 (16 : Int32) x12 (((52 : Int32) + ((38 : Int32) * x2)) + (2 : Int32)) (36 : Int32) h10).bind fun p13 => (mj_gR p13 v0 9 0).bind fun x14 => (mj_aI p13 x14 (3 : Int32)).bind fun x15 => (mj_uI p13 x14 (3 : Int32) (x15 + (1 : Int32))).bind fun h16 => some h16
set_option maxHeartbeats 4000000 in
set_option maxRecDepth 100000 in
theorem w_X9_remember_57 (v0 : Nat) (h : mj_H) (p : mj_H) (hf : f_X9_remember_57  v0 h = some p) : mj_W mX9_remember (mj_FV p) 57 [(0, .ref v0)] [] h 0 0 := by
  unfold f_X9_remember_57 at hf
  refine mj_blk k_X9_ok 35 3 (pc' := 62) (l' := [(0, .ref v0)]) (st' := [.ref v0, .int (38 : Int32), .int (52 : Int32)]) rfl ?_
  obtain ⟨x1, ex1, hf⟩ := mj_bd hf
  refine mj_get 38 rfl fl_X9_7 (mj_gR_V ex1) ?_
  refine mj_blk k_X9_ok 39 1 (pc' := 66) (l' := [(0, .ref v0)]) (st' := [.int (3 : Int32), .ref x1, .int (38 : Int32), .int (52 : Int32)]) rfl ?_
  obtain ⟨x2, ex2, hf⟩ := mj_bd hf
  refine mj_iald 40 rfl ex2 ?_
  refine mj_blk k_X9_ok 41 4 (pc' := 71) (l' := [(1, .int ((52 : Int32) + ((38 : Int32) * x2))), (0, .ref v0)]) (st' := [.ref v0]) rfl ?_
  obtain ⟨x3, ex3, hf⟩ := mj_bd hf
  refine mj_get 45 rfl fl_X9_7 (mj_gR_V ex3) ?_
  refine mj_blk k_X9_ok 46 2 (pc' := 76) (l' := [(1, .int ((52 : Int32) + ((38 : Int32) * x2))), (0, .ref v0)]) (st' := [.ref v0, .int ((52 : Int32) + ((38 : Int32) * x2)), .ref x3]) rfl ?_
  obtain ⟨x4, ex4, hf⟩ := mj_bd hf
  refine mj_get 48 rfl fl_X9_7 (mj_gR_V ex4) ?_
  refine mj_blk k_X9_ok 49 1 (pc' := 80) (l' := [(1, .int ((52 : Int32) + ((38 : Int32) * x2))), (0, .ref v0)]) (st' := [.int (1 : Int32), .ref x4, .int ((52 : Int32) + ((38 : Int32) * x2)), .ref x3]) rfl ?_
  obtain ⟨x5, ex5, hf⟩ := mj_bd hf
  refine mj_iald 50 rfl ex5 ?_
  obtain ⟨h6, eh6, hf⟩ := mj_bd hf
  refine mj_iast 51 rfl eh6 ?_
  refine mj_blk k_X9_ok 52 1 (pc' := 83) (l' := [(1, .int ((52 : Int32) + ((38 : Int32) * x2))), (0, .ref v0)]) (st' := [.ref v0]) rfl ?_
  obtain ⟨x7, ex7, hf⟩ := mj_bd hf
  refine mj_get 53 rfl fl_X9_7 (mj_gR_V ex7) ?_
  refine mj_blk k_X9_ok 54 4 (pc' := 90) (l' := [(1, .int ((52 : Int32) + ((38 : Int32) * x2))), (0, .ref v0)]) (st' := [.ref v0, .int (((52 : Int32) + ((38 : Int32) * x2)) + (1 : Int32)), .ref x7]) rfl ?_
  obtain ⟨x8, ex8, hf⟩ := mj_bd hf
  refine mj_get 58 rfl fl_X9_7 (mj_gR_V ex8) ?_
  refine mj_blk k_X9_ok 59 1 (pc' := 94) (l' := [(1, .int ((52 : Int32) + ((38 : Int32) * x2))), (0, .ref v0)]) (st' := [.int (2 : Int32), .ref x8, .int (((52 : Int32) + ((38 : Int32) * x2)) + (1 : Int32)), .ref x7]) rfl ?_
  obtain ⟨x9, ex9, hf⟩ := mj_bd hf
  refine mj_iald 60 rfl ex9 ?_
  obtain ⟨h10, eh10, hf⟩ := mj_bd hf
  refine mj_iast 61 rfl eh10 ?_
  refine mj_blk k_X9_ok 62 1 (pc' := 97) (l' := [(1, .int ((52 : Int32) + ((38 : Int32) * x2))), (0, .ref v0)]) (st' := [.ref v0]) rfl ?_
  obtain ⟨x11, ex11, hf⟩ := mj_bd hf
  refine mj_get 63 rfl fl_X9_7 (mj_gR_V ex11) ?_
  refine mj_blk k_X9_ok 64 2 (pc' := 103) (l' := [(1, .int ((52 : Int32) + ((38 : Int32) * x2))), (0, .ref v0)]) (st' := [.ref v0, .int (16 : Int32), .ref x11]) rfl ?_
  obtain ⟨x12, ex12, hf⟩ := mj_bd hf
  refine mj_get 66 rfl fl_X9_7 (mj_gR_V ex12) ?_
  refine mj_blk k_X9_ok 67 4 (pc' := 111) (l' := [(1, .int ((52 : Int32) + ((38 : Int32) * x2))), (0, .ref v0)]) (st' := [.int (36 : Int32), .int (((52 : Int32) + ((38 : Int32) * x2)) + (2 : Int32)), .ref x12, .int (16 : Int32), .ref x11]) rfl ?_
  obtain ⟨p13, ep13, hf⟩ := mj_bd hf
  refine mj_callS mX9_copies [.ref x11, .int (16 : Int32), .ref x12, .int (((52 : Int32) + ((38 : Int32) * x2)) + (2 : Int32)), .int (36 : Int32)] 71 rfl ll_X9_59 lb_X9_copies li_X9_copies ⟨Nat.le_of_ble_eq_true rfl, Nat.le_of_ble_eq_true rfl⟩ rfl (rest := []) rfl (Nat.le_of_ble_eq_true rfl) ⟨Nat.le_of_ble_eq_true rfl, Nat.le_of_ble_eq_true rfl⟩ (c_X9_copies x11 (16 : Int32) x12 (((52 : Int32) + ((38 : Int32) * x2)) + (2 : Int32)) (36 : Int32) h10 p13 ep13) ?_
  show mj_W mX9_remember (mj_FV p) 114 [(1, .int ((52 : Int32) + ((38 : Int32) * x2))), (0, .ref v0)] [] p13 0 0
  refine mj_blk k_X9_ok 72 1 (pc' := 115) (l' := [(1, .int ((52 : Int32) + ((38 : Int32) * x2))), (0, .ref v0)]) (st' := [.ref v0]) rfl ?_
  obtain ⟨x14, ex14, hf⟩ := mj_bd hf
  refine mj_get 73 rfl fl_X9_7 (mj_gR_V ex14) ?_
  refine mj_blk k_X9_ok 74 2 (pc' := 120) (l' := [(1, .int ((52 : Int32) + ((38 : Int32) * x2))), (0, .ref v0)]) (st' := [.int (3 : Int32), .ref x14, .int (3 : Int32), .ref x14]) rfl ?_
  obtain ⟨x15, ex15, hf⟩ := mj_bd hf
  refine mj_iald 76 rfl ex15 ?_
  refine mj_blk k_X9_ok 77 2 (pc' := 123) (l' := [(1, .int ((52 : Int32) + ((38 : Int32) * x2))), (0, .ref v0)]) (st' := [.int (x15 + (1 : Int32)), .int (3 : Int32), .ref x14]) rfl ?_
  obtain ⟨h16, eh16, hf⟩ := mj_bd hf
  refine mj_iast 79 rfl eh16 ?_
  obtain rfl := Option.some.inj hf
  exact mj_end none ⟨mj_dec tok_X9_remember (a := 80) rfl, rfl⟩ ⟨rfl, rfl⟩ (Nat.le_of_ble_eq_true rfl) (Nat.le_of_ble_eq_true rfl)
def b_X9_remember_13 (K13 : Nat → Int32 → mj_H → Option (mj_H)) (v0 : Nat) (v1 : Int32) (h : mj_H) : Option (mj_H) := (if (266 : Int32) ≤ v1 then (mj_gR h v0 9 0).bind fun x17 => (mj_aI h x17 (3 : Int32)).bind fun x18 => (mj_uI h x17 (3 : Int32) (x18 - (1 : Int32))).bind fun h19 => f_X9_remember_57 v0 h19 else (mj_gR h v0 9 0).bind fun x20 => (mj_gR h v0 9 0).bind fun x21 => (mj_aI h x21 (((52 : Int32) + v1) + (38 : Int32))).bind fun x22 => (mj_uI h x20 ((52 : Int32) + v1) x22).bind fun h23 => K13 v0 (v1 + (1 : Int32)) h23)
set_option maxHeartbeats 4000000 in
set_option maxRecDepth 100000 in
theorem wb_X9_remember_13 (K13 : Nat → Int32 → mj_H → Option (mj_H)) (hK13 : ∀ (v0 : Nat) (v1 : Int32)  (h : mj_H) (p : mj_H), K13 v0 v1 h = some p → mj_W mX9_remember (mj_FV p) 13 [(0, .ref v0), (1, .int v1)] [] h 0 0) (v0 : Nat) (v1 : Int32) (h : mj_H) (p : mj_H) (hf : b_X9_remember_13  K13 v0 v1 h = some p) : mj_W mX9_remember (mj_FV p) 13 [(0, .ref v0), (1, .int v1)] [] h 0 0 := by
  unfold b_X9_remember_13 at hf
  refine mj_blk k_X9_ok 8 2 (pc' := 17) (l' := [(0, .ref v0), (1, .int v1)]) (st' := [.int (266 : Int32), .int v1]) rfl ?_
  refine mj_icmp_ge 10 47 rfl (by decide) (fun q => ?_) (fun q => ?_)
  · have hf := (if_pos q).symm.trans hf
    refine mj_blk k_X9_ok 27 1 (pc' := 48) (l' := [(0, .ref v0), (1, .int v1)]) (st' := [.ref v0]) rfl ?_
    obtain ⟨x17, ex17, hf⟩ := mj_bd hf
    refine mj_get 28 rfl fl_X9_7 (mj_gR_V ex17) ?_
    refine mj_blk k_X9_ok 29 2 (pc' := 53) (l' := [(0, .ref v0), (1, .int v1)]) (st' := [.int (3 : Int32), .ref x17, .int (3 : Int32), .ref x17]) rfl ?_
    obtain ⟨x18, ex18, hf⟩ := mj_bd hf
    refine mj_iald 31 rfl ex18 ?_
    refine mj_blk k_X9_ok 32 2 (pc' := 56) (l' := [(0, .ref v0), (1, .int v1)]) (st' := [.int (x18 - (1 : Int32)), .int (3 : Int32), .ref x17]) rfl ?_
    obtain ⟨h19, eh19, hf⟩ := mj_bd hf
    refine mj_iast 34 rfl eh19 ?_
    refine mj_locs [0] (l' := [(0, .ref v0)]) rfl ?_
    exact w_X9_remember_57 v0 h19 _ hf
  · have hf := (if_neg q).symm.trans hf
    refine mj_blk k_X9_ok 11 1 (pc' := 21) (l' := [(0, .ref v0), (1, .int v1)]) (st' := [.ref v0]) rfl ?_
    obtain ⟨x20, ex20, hf⟩ := mj_bd hf
    refine mj_get 12 rfl fl_X9_7 (mj_gR_V ex20) ?_
    refine mj_blk k_X9_ok 13 4 (pc' := 29) (l' := [(0, .ref v0), (1, .int v1)]) (st' := [.ref v0, .int ((52 : Int32) + v1), .ref x20]) rfl ?_
    obtain ⟨x21, ex21, hf⟩ := mj_bd hf
    refine mj_get 17 rfl fl_X9_7 (mj_gR_V ex21) ?_
    refine mj_blk k_X9_ok 18 5 (pc' := 39) (l' := [(0, .ref v0), (1, .int v1)]) (st' := [.int (((52 : Int32) + v1) + (38 : Int32)), .ref x21, .int ((52 : Int32) + v1), .ref x20]) rfl ?_
    obtain ⟨x22, ex22, hf⟩ := mj_bd hf
    refine mj_iald 23 rfl ex22 ?_
    obtain ⟨h23, eh23, hf⟩ := mj_bd hf
    refine mj_iast 24 rfl eh23 ?_
    refine mj_blk k_X9_ok 25 2 (pc' := 13) (l' := [(1, .int (v1 + (1 : Int32))), (0, .ref v0)]) (st' := []) rfl ?_
    refine mj_locs [1, 0] (l' := [(0, .ref v0), (1, .int (v1 + (1 : Int32)))]) rfl ?_
    exact hK13 v0 (v1 + (1 : Int32)) h23 _ hf
def f_X9_remember_13 (v0 : Nat) (v1 : Int32) (h : mj_H) : Option (mj_H) := mj_fix (fun (K13 : (Nat × Int32 × mj_H) → Option (mj_H)) (s : Nat × Int32 × mj_H) => b_X9_remember_13  (fun v0 v1 h => K13 (v0, v1, h)) s.1 s.2.1 s.2.2) 1000 (v0, v1, h)
set_option maxHeartbeats 4000000 in
set_option maxRecDepth 100000 in
theorem w_X9_remember_13 (v0 : Nat) (v1 : Int32) (h : mj_H) (p : mj_H) (hf : f_X9_remember_13  v0 v1 h = some p) : mj_W mX9_remember (mj_FV p) 13 [(0, .ref v0), (1, .int v1)] [] h 0 0 := by
  unfold f_X9_remember_13 at hf
  exact mj_fix_ind (F := (fun (K13 : (Nat × Int32 × mj_H) → Option (mj_H)) (s : Nat × Int32 × mj_H) => b_X9_remember_13  (fun v0 v1 h => K13 (v0, v1, h)) s.1 s.2.1 s.2.2)) (P := fun s p => mj_W mX9_remember (mj_FV p) 13 [(0, .ref s.1), (1, .int s.2.1)] [] s.2.2 0 0) (fun K13 hK13 s p hf => wb_X9_remember_13   (fun v0 v1 h => K13 (v0, v1, h)) (fun v0 v1 h p e => hK13 (v0, v1, h) p e) s.1 s.2.1 s.2.2 p hf) 1000 (v0, v1, h) p hf
def f_X9_remember (v0 : Nat) (h : mj_H) : Option (mj_H) := (mj_gR h v0 9 0).bind fun x24 => (mj_aI h x24 (3 : Int32)).bind fun x25 => (if x25 = (8 : Int32) then f_X9_remember_13 v0 (0 : Int32) h else f_X9_remember_57 v0 h)
set_option maxHeartbeats 4000000 in
set_option maxRecDepth 100000 in
theorem c_X9_remember (v0 : Nat) (h : mj_H) (p : mj_H) (hf : f_X9_remember v0 h = some p) : mj_Met mX9_remember [.ref v0] h none p := by
  refine mj_met pl_X9 tok_X9_remember (Nat.le_of_ble_eq_true rfl) ?_
  show mj_W mX9_remember (mj_FV p) 0 [(0, .ref v0)] [] h 0 0
  unfold f_X9_remember at hf
  refine mj_blk k_X9_ok 0 1 (pc' := 1) (l' := [(0, .ref v0)]) (st' := [.ref v0]) rfl ?_
  obtain ⟨x24, ex24, hf⟩ := mj_bd hf
  refine mj_get 1 rfl fl_X9_7 (mj_gR_V ex24) ?_
  refine mj_blk k_X9_ok 2 1 (pc' := 5) (l' := [(0, .ref v0)]) (st' := [.int (3 : Int32), .ref x24]) rfl ?_
  obtain ⟨x25, ex25, hf⟩ := mj_bd hf
  refine mj_iald 3 rfl ex25 ?_
  refine mj_blk k_X9_ok 4 1 (pc' := 8) (l' := [(0, .ref v0)]) (st' := [.int (8 : Int32), .int x25]) rfl ?_
  refine mj_icmp_ne 5 57 rfl (by decide) (fun q => ?_) (fun q => ?_)
  · have hf := (if_neg q).symm.trans hf
    exact w_X9_remember_57 v0 h _ hf
  · have hf := (if_pos q).symm.trans hf
    refine mj_blk k_X9_ok 6 2 (pc' := 13) (l' := [(1, .int (0 : Int32)), (0, .ref v0)]) (st' := []) rfl ?_
    refine mj_locs [1, 0] (l' := [(0, .ref v0), (1, .int (0 : Int32))]) rfl ?_
    exact w_X9_remember_13 v0 (0 : Int32) h _ hf
def f_X9_test_15 (v0 : Nat) (h : mj_H) : Option (Int32 × mj_H) := (if mj_ob h v0 9 = true then (f_X9_bad v0 (-2 : Int32) h).bind fun p1 => some (p1.1, p1.2) else none)
set_option maxHeartbeats 4000000 in
set_option maxRecDepth 100000 in
theorem w_X9_test_15 (v0 : Nat) (h : mj_H) (p : Int32 × mj_H) (hf : f_X9_test_15  v0 h = some p) : mj_W mX9_test (mj_FI p) 15 [(0, .ref v0)] [] h 0 0 := by
  unfold f_X9_test_15 at hf
  refine mj_blk k_X9_ok 7 2 (pc' := 18) (l' := [(0, .ref v0)]) (st' := [.int (-2 : Int32), .ref v0]) rfl ?_
  obtain ⟨gp1, hf⟩ := mj_gd hf
  obtain ⟨p1, ep1, hf⟩ := mj_bd hf
  refine mj_callV (T := TX9) (N := 20) (ci := 9) mX9_bad [.int (-2 : Int32)] 9 rfl ll_X9_75 lb_X9_bad li_X9_bad ⟨Nat.le_of_ble_eq_true rfl, Nat.le_of_ble_eq_true rfl⟩ rfl gp1 rfl (rest := []) rfl (Nat.le_of_ble_eq_true rfl) ⟨Nat.le_of_ble_eq_true rfl, Nat.le_of_ble_eq_true rfl⟩ (c_X9_bad v0 (-2 : Int32) h p1 ep1) ?_
  show mj_W mX9_test (mj_FI p) 21 [(0, .ref v0)] [.int p1.1] p1.2 0 0
  obtain rfl := Option.some.inj hf
  exact mj_end (some (.int p1.1)) ⟨mj_dec tok_X9_test (a := 10) rfl, .int, rfl, rfl⟩ ⟨rfl, rfl⟩ (Nat.le_of_ble_eq_true rfl) (Nat.le_of_ble_eq_true rfl)
def f_X9_test (v0 : Nat) (v1 : Int32) (v2 : Int32) (v3 : Int32) (h : mj_H) : Option (Int32 × mj_H) := (if mj_ob h v0 9 = true then (f_X9_isMan v0 v1 h).bind fun p2 => (if p2.1 = 0 then f_X9_test_15 v0 p2.2 else (f_X9_isTest v2 p2.2).bind fun p3 => (if p3.1 = 0 then f_X9_test_15 v0 p3.2 else (mj_gR p3.2 v0 9 0).bind fun x4 => (mj_aI p3.2 x4 (1 : Int32)).bind fun x5 => (f_X9_costOf v2 p3.2).bind fun p6 => (if p6.1 ≤ x5 then (if mj_ob p6.2 v0 9 = true then (f_X9_remember v0 p6.2).bind fun p7 => (mj_gR p7 v0 9 0).bind fun x8 => (f_X9_tests x8 v1 v2 v3 p7).bind fun p9 => (mj_gR p9 v0 9 0).bind fun x10 => (f_X9_trustOn x10 v1 p9).bind fun p11 => some (p11.1, p11.2) else none) else (if mj_ob p6.2 v0 9 = true then (f_X9_no v0 (-3 : Int32) p6.2).bind fun p12 => some (p12.1, p12.2) else none)))) else none)
set_option maxHeartbeats 4000000 in
set_option maxRecDepth 100000 in
theorem c_X9_test (v0 : Nat) (v1 : Int32) (v2 : Int32) (v3 : Int32) (h : mj_H) (p : Int32 × mj_H) (hf : f_X9_test v0 v1 v2 v3 h = some p) : mj_Met mX9_test [.ref v0, .int v1, .int v2, .int v3] h (some (.int p.1)) p.2 := by
  refine mj_met pl_X9 tok_X9_test (Nat.le_of_ble_eq_true rfl) ?_
  show mj_W mX9_test (mj_FI p) 0 [(0, .ref v0), (1, .int v1), (2, .int v2), (3, .int v3)] [] h 0 0
  unfold f_X9_test at hf
  refine mj_blk k_X9_ok 0 2 (pc' := 2) (l' := [(0, .ref v0), (1, .int v1), (2, .int v2), (3, .int v3)]) (st' := [.int v1, .ref v0]) rfl ?_
  obtain ⟨gp2, hf⟩ := mj_gd hf
  obtain ⟨p2, ep2, hf⟩ := mj_bd hf
  refine mj_callV (T := TX9) (N := 20) (ci := 9) mX9_isMan [.int v1] 2 rfl ll_X9_63 lb_X9_isMan li_X9_isMan ⟨Nat.le_of_ble_eq_true rfl, Nat.le_of_ble_eq_true rfl⟩ rfl gp2 rfl (rest := []) rfl (Nat.le_of_ble_eq_true rfl) ⟨Nat.le_of_ble_eq_true rfl, Nat.le_of_ble_eq_true rfl⟩ (c_X9_isMan v0 v1 h p2 ep2) ?_
  show mj_W mX9_test (mj_FI p) 5 [(0, .ref v0), (1, .int v1), (2, .int v2), (3, .int v3)] [.int p2.1] p2.2 0 0
  refine mj_if_eq 3 15 rfl (by decide) (fun q => ?_) (fun q => ?_)
  · have hf := (if_pos q).symm.trans hf
    refine mj_locs [0] (l' := [(0, .ref v0)]) rfl ?_
    exact w_X9_test_15 v0 p2.2 _ hf
  · have hf := (if_neg q).symm.trans hf
    refine mj_blk k_X9_ok 4 1 (pc' := 9) (l' := [(0, .ref v0), (1, .int v1), (2, .int v2), (3, .int v3)]) (st' := [.int v2]) rfl ?_
    obtain ⟨p3, ep3, hf⟩ := mj_bd hf
    refine mj_callS mX9_isTest [.int v2] 5 rfl ll_X9_188 lb_X9_isTest li_X9_isTest ⟨Nat.le_of_ble_eq_true rfl, Nat.le_of_ble_eq_true rfl⟩ rfl (rest := []) rfl (Nat.le_of_ble_eq_true rfl) ⟨Nat.le_of_ble_eq_true rfl, Nat.le_of_ble_eq_true rfl⟩ (c_X9_isTest v2 p2.2 p3 ep3) ?_
    show mj_W mX9_test (mj_FI p) 12 [(0, .ref v0), (1, .int v1), (2, .int v2), (3, .int v3)] [.int p3.1] p3.2 0 0
    refine mj_if_ne 6 22 rfl (by decide) (fun q => ?_) (fun q => ?_)
    · have hf := (if_neg q).symm.trans hf
      refine mj_blk k_X9_ok 11 1 (pc' := 23) (l' := [(0, .ref v0), (1, .int v1), (2, .int v2), (3, .int v3)]) (st' := [.ref v0]) rfl ?_
      obtain ⟨x4, ex4, hf⟩ := mj_bd hf
      refine mj_get 12 rfl fl_X9_7 (mj_gR_V ex4) ?_
      refine mj_blk k_X9_ok 13 1 (pc' := 27) (l' := [(0, .ref v0), (1, .int v1), (2, .int v2), (3, .int v3)]) (st' := [.int (1 : Int32), .ref x4]) rfl ?_
      obtain ⟨x5, ex5, hf⟩ := mj_bd hf
      refine mj_iald 14 rfl ex5 ?_
      refine mj_blk k_X9_ok 15 1 (pc' := 29) (l' := [(0, .ref v0), (1, .int v1), (2, .int v2), (3, .int v3)]) (st' := [.int v2, .int x5]) rfl ?_
      obtain ⟨p6, ep6, hf⟩ := mj_bd hf
      refine mj_callS mX9_costOf [.int v2] 16 rfl ll_X9_185 lb_X9_costOf li_X9_costOf ⟨Nat.le_of_ble_eq_true rfl, Nat.le_of_ble_eq_true rfl⟩ rfl (rest := [.int x5]) rfl (Nat.le_of_ble_eq_true rfl) ⟨Nat.le_of_ble_eq_true rfl, Nat.le_of_ble_eq_true rfl⟩ (c_X9_costOf v2 p3.2 p6 ep6) ?_
      show mj_W mX9_test (mj_FI p) 32 [(0, .ref v0), (1, .int v1), (2, .int v2), (3, .int v3)] [.int p6.1, .int x5] p6.2 0 0
      refine mj_icmp_ge 17 42 rfl (by decide) (fun q => ?_) (fun q => ?_)
      · have hf := (if_pos q).symm.trans hf
        refine mj_blk k_X9_ok 22 1 (pc' := 43) (l' := [(0, .ref v0), (1, .int v1), (2, .int v2), (3, .int v3)]) (st' := [.ref v0]) rfl ?_
        obtain ⟨gp7, hf⟩ := mj_gd hf
        obtain ⟨p7, ep7, hf⟩ := mj_bd hf
        refine mj_callV (T := TX9) (N := 20) (ci := 9) mX9_remember [] 23 rfl ll_X9_194 lb_X9_remember li_X9_remember ⟨Nat.le_of_ble_eq_true rfl, Nat.le_of_ble_eq_true rfl⟩ rfl gp7 rfl (rest := []) rfl (Nat.le_of_ble_eq_true rfl) ⟨Nat.le_of_ble_eq_true rfl, Nat.le_of_ble_eq_true rfl⟩ (c_X9_remember v0 p6.2 p7 ep7) ?_
        show mj_W mX9_test (mj_FI p) 46 [(0, .ref v0), (1, .int v1), (2, .int v2), (3, .int v3)] [] p7 0 0
        refine mj_blk k_X9_ok 24 1 (pc' := 47) (l' := [(0, .ref v0), (1, .int v1), (2, .int v2), (3, .int v3)]) (st' := [.ref v0]) rfl ?_
        obtain ⟨x8, ex8, hf⟩ := mj_bd hf
        refine mj_get 25 rfl fl_X9_7 (mj_gR_V ex8) ?_
        refine mj_blk k_X9_ok 26 3 (pc' := 53) (l' := [(0, .ref v0), (1, .int v1), (2, .int v2), (3, .int v3)]) (st' := [.int v3, .int v2, .int v1, .ref x8]) rfl ?_
        obtain ⟨p9, ep9, hf⟩ := mj_bd hf
        refine mj_callS mX9_tests [.ref x8, .int v1, .int v2, .int v3] 29 rfl ll_X9_197 lb_X9_tests li_X9_tests ⟨Nat.le_of_ble_eq_true rfl, Nat.le_of_ble_eq_true rfl⟩ rfl (rest := []) rfl (Nat.le_of_ble_eq_true rfl) ⟨Nat.le_of_ble_eq_true rfl, Nat.le_of_ble_eq_true rfl⟩ (c_X9_tests x8 v1 v2 v3 p7 p9 ep9) ?_
        show mj_W mX9_test (mj_FI p) 56 [(0, .ref v0), (1, .int v1), (2, .int v2), (3, .int v3)] [] p9 0 0
        refine mj_blk k_X9_ok 30 1 (pc' := 57) (l' := [(0, .ref v0), (1, .int v1), (2, .int v2), (3, .int v3)]) (st' := [.ref v0]) rfl ?_
        obtain ⟨x10, ex10, hf⟩ := mj_bd hf
        refine mj_get 31 rfl fl_X9_7 (mj_gR_V ex10) ?_
        refine mj_blk k_X9_ok 32 1 (pc' := 61) (l' := [(0, .ref v0), (1, .int v1), (2, .int v2), (3, .int v3)]) (st' := [.int v1, .ref x10]) rfl ?_
        obtain ⟨p11, ep11, hf⟩ := mj_bd hf
        refine mj_callS mX9_trustOn [.ref x10, .int v1] 33 rfl ll_X9_200 lb_X9_trustOn li_X9_trustOn ⟨Nat.le_of_ble_eq_true rfl, Nat.le_of_ble_eq_true rfl⟩ rfl (rest := []) rfl (Nat.le_of_ble_eq_true rfl) ⟨Nat.le_of_ble_eq_true rfl, Nat.le_of_ble_eq_true rfl⟩ (c_X9_trustOn x10 v1 p9 p11 ep11) ?_
        show mj_W mX9_test (mj_FI p) 64 [(0, .ref v0), (1, .int v1), (2, .int v2), (3, .int v3)] [.int p11.1] p11.2 0 0
        obtain rfl := Option.some.inj hf
        exact mj_end (some (.int p11.1)) ⟨mj_dec tok_X9_test (a := 34) rfl, .int, rfl, rfl⟩ ⟨rfl, rfl⟩ (Nat.le_of_ble_eq_true rfl) (Nat.le_of_ble_eq_true rfl)
      · have hf := (if_neg q).symm.trans hf
        refine mj_blk k_X9_ok 18 2 (pc' := 38) (l' := [(0, .ref v0), (1, .int v1), (2, .int v2), (3, .int v3)]) (st' := [.int (-3 : Int32), .ref v0]) rfl ?_
        obtain ⟨gp12, hf⟩ := mj_gd hf
        obtain ⟨p12, ep12, hf⟩ := mj_bd hf
        refine mj_callV (T := TX9) (N := 20) (ci := 9) mX9_no [.int (-3 : Int32)] 20 rfl ll_X9_191 lb_X9_no li_X9_no ⟨Nat.le_of_ble_eq_true rfl, Nat.le_of_ble_eq_true rfl⟩ rfl gp12 rfl (rest := []) rfl (Nat.le_of_ble_eq_true rfl) ⟨Nat.le_of_ble_eq_true rfl, Nat.le_of_ble_eq_true rfl⟩ (c_X9_no v0 (-3 : Int32) p6.2 p12 ep12) ?_
        show mj_W mX9_test (mj_FI p) 41 [(0, .ref v0), (1, .int v1), (2, .int v2), (3, .int v3)] [.int p12.1] p12.2 0 0
        obtain rfl := Option.some.inj hf
        exact mj_end (some (.int p12.1)) ⟨mj_dec tok_X9_test (a := 21) rfl, .int, rfl, rfl⟩ ⟨rfl, rfl⟩ (Nat.le_of_ble_eq_true rfl) (Nat.le_of_ble_eq_true rfl)
    · have hf := (if_pos q).symm.trans hf
      refine mj_locs [0] (l' := [(0, .ref v0)]) rfl ?_
      exact w_X9_test_15 v0 p3.2 _ hf
