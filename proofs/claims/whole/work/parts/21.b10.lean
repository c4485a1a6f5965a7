/-! printed by wip/whole/gen.py: X9_worth, X9_best, X9_sifts, X9_sift, X9_runs, X9_areWell -/
def f_X9_worth_70 (v0 : Nat) (h : mj_H) : Option (Int32 × mj_H) := (if mj_ob h v0 9 = true then (f_X9_no v0 (-200000000 : Int32) h).bind fun p1 => some (p1.1, p1.2) else none)
set_option maxHeartbeats 4000000 in
set_option maxRecDepth 100000 in
theorem w_X9_worth_70 (v0 : Nat) (h : mj_H) (p : Int32 × mj_H) (hf : f_X9_worth_70  v0 h = some p) : mj_W mX9_worth (mj_FI p) 70 [(0, .ref v0)] [] h 0 0 := by
  unfold f_X9_worth_70 at hf
  refine mj_blk k_X9_ok 36 2 (pc' := 73) (l' := [(0, .ref v0)]) (st' := [.int (-200000000 : Int32), .ref v0]) rfl ?_
  obtain ⟨gp1, hf⟩ := mj_gd hf
  obtain ⟨p1, ep1, hf⟩ := mj_bd hf
  refine mj_callV (T := TX9) (N := 20) (ci := 9) mX9_no [.int (-200000000 : Int32)] 38 rfl ll_X9_191 lb_X9_no li_X9_no ⟨Nat.le_of_ble_eq_true rfl, Nat.le_of_ble_eq_true rfl⟩ rfl gp1 rfl (rest := []) rfl (Nat.le_of_ble_eq_true rfl) ⟨Nat.le_of_ble_eq_true rfl, Nat.le_of_ble_eq_true rfl⟩ (c_X9_no v0 (-200000000 : Int32) h p1 ep1) ?_
  show mj_W mX9_worth (mj_FI p) 76 [(0, .ref v0)] [.int p1.1] p1.2 0 0
  obtain rfl := Option.some.inj hf
  exact mj_end (some (.int p1.1)) ⟨mj_dec tok_X9_worth (a := 39) rfl, .int, rfl, rfl⟩ ⟨rfl, rfl⟩ (Nat.le_of_ble_eq_true rfl) (Nat.le_of_ble_eq_true rfl)
def f_X9_worth_40 (v0 : Nat) (h : mj_H) : Option (Int32 × mj_H) := (if mj_ob h v0 9 = true then (f_X9_bad v0 (-100000000 : Int32) h).bind fun p2 => some (p2.1, p2.2) else none)
set_option maxHeartbeats 4000000 in
set_option maxRecDepth 100000 in
theorem w_X9_worth_40 (v0 : Nat) (h : mj_H) (p : Int32 × mj_H) (hf : f_X9_worth_40  v0 h = some p) : mj_W mX9_worth (mj_FI p) 40 [(0, .ref v0)] [] h 0 0 := by
  unfold f_X9_worth_40 at hf
  refine mj_blk k_X9_ok 19 2 (pc' := 43) (l' := [(0, .ref v0)]) (st' := [.int (-100000000 : Int32), .ref v0]) rfl ?_
  obtain ⟨gp2, hf⟩ := mj_gd hf
  obtain ⟨p2, ep2, hf⟩ := mj_bd hf
  refine mj_callV (T := TX9) (N := 20) (ci := 9) mX9_bad [.int (-100000000 : Int32)] 21 rfl ll_X9_75 lb_X9_bad li_X9_bad ⟨Nat.le_of_ble_eq_true rfl, Nat.le_of_ble_eq_true rfl⟩ rfl gp2 rfl (rest := []) rfl (Nat.le_of_ble_eq_true rfl) ⟨Nat.le_of_ble_eq_true rfl, Nat.le_of_ble_eq_true rfl⟩ (c_X9_bad v0 (-100000000 : Int32) h p2 ep2) ?_
  show mj_W mX9_worth (mj_FI p) 46 [(0, .ref v0)] [.int p2.1] p2.2 0 0
  obtain rfl := Option.some.inj hf
  exact mj_end (some (.int p2.1)) ⟨mj_dec tok_X9_worth (a := 22) rfl, .int, rfl, rfl⟩ ⟨rfl, rfl⟩ (Nat.le_of_ble_eq_true rfl) (Nat.le_of_ble_eq_true rfl)
def f_X9_worth (v0 : Nat) (v1 : Int32) (v2 : Int32) (v3 : Int32) (v4 : Int32) (h : mj_H) : Option (Int32 × mj_H) := (if mj_ob h v0 9 = true then (f_X9_isMan v0 v1 h).bind fun p3 => (if p3.1 = 0 then f_X9_worth_40 v0 p3.2 else (f_X9_isTest v2 p3.2).bind fun p4 => (if p4.1 = 0 then f_X9_worth_40 v0 p4.2 else (f_X9_in ((v3).toInt64) (0 : Int64) (3 : Int64) p4.2).bind fun p5 => (if p5.1 = 0 then f_X9_worth_40 v0 p5.2 else (f_X9_in ((v4).toInt64) (0 : Int64) (6 : Int64) p5.2).bind fun p6 => (if p6.1 = 0 then f_X9_worth_40 v0 p6.2 else (mj_gR p6.2 v0 9 0).bind fun x7 => (mj_aI p6.2 x7 (1 : Int32)).bind fun x8 => (f_X9_costOf v2 p6.2).bind fun p9 => (if x8 < p9.1 then f_X9_worth_70 v0 p9.2 else (mj_gR p9.2 v0 9 0).bind fun x10 => (mj_aI p9.2 x10 (0 : Int32)).bind fun x11 => (if v3 ≤ x11 then (if mj_ob p9.2 v0 9 = true then (f_X9_worthOf v0 v1 v2 v3 v4 p9.2).bind fun p12 => some (p12.1, p12.2) else none) else f_X9_worth_70 v0 p9.2)))))) else none)
set_option maxHeartbeats 4000000 in
set_option maxRecDepth 100000 in
theorem c_X9_worth (v0 : Nat) (v1 : Int32) (v2 : Int32) (v3 : Int32) (v4 : Int32) (h : mj_H) (p : Int32 × mj_H) (hf : f_X9_worth v0 v1 v2 v3 v4 h = some p) : mj_Met mX9_worth [.ref v0, .int v1, .int v2, .int v3, .int v4] h (some (.int p.1)) p.2 := by
  refine mj_met pl_X9 tok_X9_worth (Nat.le_of_ble_eq_true rfl) ?_
  show mj_W mX9_worth (mj_FI p) 0 [(0, .ref v0), (1, .int v1), (2, .int v2), (3, .int v3), (4, .int v4)] [] h 0 0
  unfold f_X9_worth at hf
  refine mj_blk k_X9_ok 0 2 (pc' := 2) (l' := [(0, .ref v0), (1, .int v1), (2, .int v2), (3, .int v3), (4, .int v4)]) (st' := [.int v1, .ref v0]) rfl ?_
  obtain ⟨gp3, hf⟩ := mj_gd hf
  obtain ⟨p3, ep3, hf⟩ := mj_bd hf
  refine mj_callV (T := TX9) (N := 20) (ci := 9) mX9_isMan [.int v1] 2 rfl ll_X9_63 lb_X9_isMan li_X9_isMan ⟨Nat.le_of_ble_eq_true rfl, Nat.le_of_ble_eq_true rfl⟩ rfl gp3 rfl (rest := []) rfl (Nat.le_of_ble_eq_true rfl) ⟨Nat.le_of_ble_eq_true rfl, Nat.le_of_ble_eq_true rfl⟩ (c_X9_isMan v0 v1 h p3 ep3) ?_
  show mj_W mX9_worth (mj_FI p) 5 [(0, .ref v0), (1, .int v1), (2, .int v2), (3, .int v3), (4, .int v4)] [.int p3.1] p3.2 0 0
  refine mj_if_eq 3 40 rfl (by decide) (fun q => ?_) (fun q => ?_)
  · have hf := (if_pos q).symm.trans hf
    refine mj_locs [0] (l' := [(0, .ref v0)]) rfl ?_
    exact w_X9_worth_40 v0 p3.2 _ hf
  · have hf := (if_neg q).symm.trans hf
    refine mj_blk k_X9_ok 4 1 (pc' := 9) (l' := [(0, .ref v0), (1, .int v1), (2, .int v2), (3, .int v3), (4, .int v4)]) (st' := [.int v2]) rfl ?_
    obtain ⟨p4, ep4, hf⟩ := mj_bd hf
    refine mj_callS mX9_isTest [.int v2] 5 rfl ll_X9_188 lb_X9_isTest li_X9_isTest ⟨Nat.le_of_ble_eq_true rfl, Nat.le_of_ble_eq_true rfl⟩ rfl (rest := []) rfl (Nat.le_of_ble_eq_true rfl) ⟨Nat.le_of_ble_eq_true rfl, Nat.le_of_ble_eq_true rfl⟩ (c_X9_isTest v2 p3.2 p4 ep4) ?_
    show mj_W mX9_worth (mj_FI p) 12 [(0, .ref v0), (1, .int v1), (2, .int v2), (3, .int v3), (4, .int v4)] [.int p4.1] p4.2 0 0
    refine mj_if_eq 6 40 rfl (by decide) (fun q => ?_) (fun q => ?_)
    · have hf := (if_pos q).symm.trans hf
      refine mj_locs [0] (l' := [(0, .ref v0)]) rfl ?_
      exact w_X9_worth_40 v0 p4.2 _ hf
    · have hf := (if_neg q).symm.trans hf
      refine mj_blk k_X9_ok 7 4 (pc' := 21) (l' := [(0, .ref v0), (1, .int v1), (2, .int v2), (3, .int v3), (4, .int v4)]) (st' := [.long (3 : Int64), .long (0 : Int64), .long ((v3).toInt64)]) rfl ?_
      obtain ⟨p5, ep5, hf⟩ := mj_bd hf
      refine mj_callS mX9_in [.long ((v3).toInt64), .long (0 : Int64), .long (3 : Int64)] 11 rfl ll_X9_53 lb_X9_in li_X9_in ⟨Nat.le_of_ble_eq_true rfl, Nat.le_of_ble_eq_true rfl⟩ rfl (rest := []) rfl (Nat.le_of_ble_eq_true rfl) ⟨Nat.le_of_ble_eq_true rfl, Nat.le_of_ble_eq_true rfl⟩ (c_X9_in ((v3).toInt64) (0 : Int64) (3 : Int64) p4.2 p5 ep5) ?_
      show mj_W mX9_worth (mj_FI p) 24 [(0, .ref v0), (1, .int v1), (2, .int v2), (3, .int v3), (4, .int v4)] [.int p5.1] p5.2 0 0
      refine mj_if_eq 12 40 rfl (by decide) (fun q => ?_) (fun q => ?_)
      · have hf := (if_pos q).symm.trans hf
        refine mj_locs [0] (l' := [(0, .ref v0)]) rfl ?_
        exact w_X9_worth_40 v0 p5.2 _ hf
      · have hf := (if_neg q).symm.trans hf
        refine mj_blk k_X9_ok 13 4 (pc' := 34) (l' := [(0, .ref v0), (1, .int v1), (2, .int v2), (3, .int v3), (4, .int v4)]) (st' := [.long (6 : Int64), .long (0 : Int64), .long ((v4).toInt64)]) rfl ?_
        obtain ⟨p6, ep6, hf⟩ := mj_bd hf
        refine mj_callS mX9_in [.long ((v4).toInt64), .long (0 : Int64), .long (6 : Int64)] 17 rfl ll_X9_53 lb_X9_in li_X9_in ⟨Nat.le_of_ble_eq_true rfl, Nat.le_of_ble_eq_true rfl⟩ rfl (rest := []) rfl (Nat.le_of_ble_eq_true rfl) ⟨Nat.le_of_ble_eq_true rfl, Nat.le_of_ble_eq_true rfl⟩ (c_X9_in ((v4).toInt64) (0 : Int64) (6 : Int64) p5.2 p6 ep6) ?_
        show mj_W mX9_worth (mj_FI p) 37 [(0, .ref v0), (1, .int v1), (2, .int v2), (3, .int v3), (4, .int v4)] [.int p6.1] p6.2 0 0
        refine mj_if_ne 18 47 rfl (by decide) (fun q => ?_) (fun q => ?_)
        · have hf := (if_neg q).symm.trans hf
          refine mj_blk k_X9_ok 23 1 (pc' := 48) (l' := [(0, .ref v0), (1, .int v1), (2, .int v2), (3, .int v3), (4, .int v4)]) (st' := [.ref v0]) rfl ?_
          obtain ⟨x7, ex7, hf⟩ := mj_bd hf
          refine mj_get 24 rfl fl_X9_7 (mj_gR_V ex7) ?_
          refine mj_blk k_X9_ok 25 1 (pc' := 52) (l' := [(0, .ref v0), (1, .int v1), (2, .int v2), (3, .int v3), (4, .int v4)]) (st' := [.int (1 : Int32), .ref x7]) rfl ?_
          obtain ⟨x8, ex8, hf⟩ := mj_bd hf
          refine mj_iald 26 rfl ex8 ?_
          refine mj_blk k_X9_ok 27 1 (pc' := 54) (l' := [(0, .ref v0), (1, .int v1), (2, .int v2), (3, .int v3), (4, .int v4)]) (st' := [.int v2, .int x8]) rfl ?_
          obtain ⟨p9, ep9, hf⟩ := mj_bd hf
          refine mj_callS mX9_costOf [.int v2] 28 rfl ll_X9_185 lb_X9_costOf li_X9_costOf ⟨Nat.le_of_ble_eq_true rfl, Nat.le_of_ble_eq_true rfl⟩ rfl (rest := [.int x8]) rfl (Nat.le_of_ble_eq_true rfl) ⟨Nat.le_of_ble_eq_true rfl, Nat.le_of_ble_eq_true rfl⟩ (c_X9_costOf v2 p6.2 p9 ep9) ?_
          show mj_W mX9_worth (mj_FI p) 57 [(0, .ref v0), (1, .int v1), (2, .int v2), (3, .int v3), (4, .int v4)] [.int p9.1, .int x8] p9.2 0 0
          refine mj_icmp_lt 29 70 rfl (by decide) (fun q => ?_) (fun q => ?_)
          · have hf := (if_pos q).symm.trans hf
            refine mj_locs [0] (l' := [(0, .ref v0)]) rfl ?_
            exact w_X9_worth_70 v0 p9.2 _ hf
          · have hf := (if_neg q).symm.trans hf
            refine mj_blk k_X9_ok 30 2 (pc' := 62) (l' := [(0, .ref v0), (1, .int v1), (2, .int v2), (3, .int v3), (4, .int v4)]) (st' := [.ref v0, .int v3]) rfl ?_
            obtain ⟨x10, ex10, hf⟩ := mj_bd hf
            refine mj_get 32 rfl fl_X9_7 (mj_gR_V ex10) ?_
            refine mj_blk k_X9_ok 33 1 (pc' := 66) (l' := [(0, .ref v0), (1, .int v1), (2, .int v2), (3, .int v3), (4, .int v4)]) (st' := [.int (0 : Int32), .ref x10, .int v3]) rfl ?_
            obtain ⟨x11, ex11, hf⟩ := mj_bd hf
            refine mj_iald 34 rfl ex11 ?_
            refine mj_icmp_le 35 77 rfl (by decide) (fun q => ?_) (fun q => ?_)
            · have hf := (if_pos q).symm.trans hf
              refine mj_blk k_X9_ok 40 5 (pc' := 83) (l' := [(0, .ref v0), (1, .int v1), (2, .int v2), (3, .int v3), (4, .int v4)]) (st' := [.int v4, .int v3, .int v2, .int v1, .ref v0]) rfl ?_
              obtain ⟨gp12, hf⟩ := mj_gd hf
              obtain ⟨p12, ep12, hf⟩ := mj_bd hf
              refine mj_callV (T := TX9) (N := 20) (ci := 9) mX9_worthOf [.int v1, .int v2, .int v3, .int v4] 45 rfl ll_X9_243 lb_X9_worthOf li_X9_worthOf ⟨Nat.le_of_ble_eq_true rfl, Nat.le_of_ble_eq_true rfl⟩ rfl gp12 rfl (rest := []) rfl (Nat.le_of_ble_eq_true rfl) ⟨Nat.le_of_ble_eq_true rfl, Nat.le_of_ble_eq_true rfl⟩ (c_X9_worthOf v0 v1 v2 v3 v4 p9.2 p12 ep12) ?_
              show mj_W mX9_worth (mj_FI p) 86 [(0, .ref v0), (1, .int v1), (2, .int v2), (3, .int v3), (4, .int v4)] [.int p12.1] p12.2 0 0
              obtain rfl := Option.some.inj hf
              exact mj_end (some (.int p12.1)) ⟨mj_dec tok_X9_worth (a := 46) rfl, .int, rfl, rfl⟩ ⟨rfl, rfl⟩ (Nat.le_of_ble_eq_true rfl) (Nat.le_of_ble_eq_true rfl)
            · have hf := (if_neg q).symm.trans hf
              refine mj_locs [0] (l' := [(0, .ref v0)]) rfl ?_
              exact w_X9_worth_70 v0 p9.2 _ hf
        · have hf := (if_pos q).symm.trans hf
          refine mj_locs [0] (l' := [(0, .ref v0)]) rfl ?_
          exact w_X9_worth_40 v0 p6.2 _ hf
def f_X9_best_146 (K39 : Nat → Int32 → Int32 → Int32 → Int32 → Int32 → mj_H → Option (Int32 × mj_H)) (K63 : Nat → Int32 → Int32 → Int32 → Int32 → Int32 → Int32 → mj_H → Option (Int32 × mj_H)) (v0 : Nat) (v1 : Int32) (v2 : Int32) (v3 : Int32) (v4 : Int32) (v5 : Int32) (v6 : Int32) (h : mj_H) : Option (Int32 × mj_H) := K63 v0 v1 v2 v3 v4 v5 (v6 + (1 : Int32)) h
set_option maxHeartbeats 4000000 in
set_option maxRecDepth 100000 in
theorem w_X9_best_146 (K39 : Nat → Int32 → Int32 → Int32 → Int32 → Int32 → mj_H → Option (Int32 × mj_H)) (K63 : Nat → Int32 → Int32 → Int32 → Int32 → Int32 → Int32 → mj_H → Option (Int32 × mj_H)) (hK39 : ∀ (v0 : Nat) (v1 : Int32) (v2 : Int32) (v3 : Int32) (v4 : Int32) (v5 : Int32)  (h : mj_H) (p : Int32 × mj_H), K39 v0 v1 v2 v3 v4 v5 h = some p → mj_W mX9_best (mj_FI p) 39 [(0, .ref v0), (1, .int v1), (2, .int v2), (3, .int v3), (4, .int v4), (5, .int v5)] [] h 0 0) (hK63 : ∀ (v0 : Nat) (v1 : Int32) (v2 : Int32) (v3 : Int32) (v4 : Int32) (v5 : Int32) (v6 : Int32)  (h : mj_H) (p : Int32 × mj_H), K63 v0 v1 v2 v3 v4 v5 v6 h = some p → mj_W mX9_best (mj_FI p) 63 [(0, .ref v0), (1, .int v1), (2, .int v2), (3, .int v3), (4, .int v4), (5, .int v5), (6, .int v6)] [] h 0 0) (v0 : Nat) (v1 : Int32) (v2 : Int32) (v3 : Int32) (v4 : Int32) (v5 : Int32) (v6 : Int32) (h : mj_H) (p : Int32 × mj_H) (hf : f_X9_best_146 K39 K63 v0 v1 v2 v3 v4 v5 v6 h = some p) : mj_W mX9_best (mj_FI p) 146 [(0, .ref v0), (1, .int v1), (2, .int v2), (3, .int v3), (4, .int v4), (5, .int v5), (6, .int v6)] [] h 0 0 := by
  unfold f_X9_best_146 at hf
  refine mj_blk k_X9_ok 79 2 (pc' := 63) (l' := [(6, .int (v6 + (1 : Int32))), (0, .ref v0), (1, .int v1), (2, .int v2), (3, .int v3), (4, .int v4), (5, .int v5)]) (st' := []) rfl ?_
  refine mj_locs [1, 2, 3, 4, 5, 6, 0] (l' := [(0, .ref v0), (1, .int v1), (2, .int v2), (3, .int v3), (4, .int v4), (5, .int v5), (6, .int (v6 + (1 : Int32)))]) rfl ?_
  exact hK63 v0 v1 v2 v3 v4 v5 (v6 + (1 : Int32)) h _ hf
def f_X9_best_144 (K39 : Nat → Int32 → Int32 → Int32 → Int32 → Int32 → mj_H → Option (Int32 × mj_H)) (K63 : Nat → Int32 → Int32 → Int32 → Int32 → Int32 → Int32 → mj_H → Option (Int32 × mj_H)) (v0 : Nat) (v1 : Int32) (v2 : Int32) (v3 : Int32) (v5 : Int32) (v6 : Int32) (s0 : Int32) (h : mj_H) : Option (Int32 × mj_H) := f_X9_best_146 K39 K63 v0 v1 v2 v3 s0 v5 v6 h
set_option maxHeartbeats 4000000 in
set_option maxRecDepth 100000 in
theorem w_X9_best_144 (K39 : Nat → Int32 → Int32 → Int32 → Int32 → Int32 → mj_H → Option (Int32 × mj_H)) (K63 : Nat → Int32 → Int32 → Int32 → Int32 → Int32 → Int32 → mj_H → Option (Int32 × mj_H)) (hK39 : ∀ (v0 : Nat) (v1 : Int32) (v2 : Int32) (v3 : Int32) (v4 : Int32) (v5 : Int32)  (h : mj_H) (p : Int32 × mj_H), K39 v0 v1 v2 v3 v4 v5 h = some p → mj_W mX9_best (mj_FI p) 39 [(0, .ref v0), (1, .int v1), (2, .int v2), (3, .int v3), (4, .int v4), (5, .int v5)] [] h 0 0) (hK63 : ∀ (v0 : Nat) (v1 : Int32) (v2 : Int32) (v3 : Int32) (v4 : Int32) (v5 : Int32) (v6 : Int32)  (h : mj_H) (p : Int32 × mj_H), K63 v0 v1 v2 v3 v4 v5 v6 h = some p → mj_W mX9_best (mj_FI p) 63 [(0, .ref v0), (1, .int v1), (2, .int v2), (3, .int v3), (4, .int v4), (5, .int v5), (6, .int v6)] [] h 0 0) (v0 : Nat) (v1 : Int32) (v2 : Int32) (v3 : Int32) (v5 : Int32) (v6 : Int32) (s0 : Int32) (h : mj_H) (p : Int32 × mj_H) (hf : f_X9_best_144 K39 K63 v0 v1 v2 v3 v5 v6 s0 h = some p) : mj_W mX9_best (mj_FI p) 144 [(0, .ref v0), (1, .int v1), (2, .int v2), (3, .int v3), (5, .int v5), (6, .int v6)] [.int s0] h 0 0 := by
  unfold f_X9_best_144 at hf
  refine mj_blk k_X9_ok 78 1 (pc' := 146) (l' := [(4, .int s0), (0, .ref v0), (1, .int v1), (2, .int v2), (3, .int v3), (5, .int v5), (6, .int v6)]) (st' := []) rfl ?_
  refine mj_locs [1, 2, 3, 4, 0, 5, 6] (l' := [(0, .ref v0), (1, .int v1), (2, .int v2), (3, .int v3), (4, .int s0), (5, .int v5), (6, .int v6)]) rfl ?_
  exact w_X9_best_146 K39 K63 hK39 hK63 v0 v1 v2 v3 s0 v5 v6 h _ hf
def f_X9_best_131 (K39 : Nat → Int32 → Int32 → Int32 → Int32 → Int32 → mj_H → Option (Int32 × mj_H)) (K63 : Nat → Int32 → Int32 → Int32 → Int32 → Int32 → Int32 → mj_H → Option (Int32 × mj_H)) (v0 : Nat) (v1 : Int32) (v2 : Int32) (v4 : Int32) (v5 : Int32) (v6 : Int32) (v7 : Int32) (v8 : Int32) (s0 : Int32) (h : mj_H) : Option (Int32 × mj_H) := (if v8 = 0 then f_X9_best_144 K39 K63 v0 v1 v2 s0 v5 v6 v4 h else f_X9_best_144 K39 K63 v0 v1 v2 s0 v5 v6 v7 h)
set_option maxHeartbeats 4000000 in
set_option maxRecDepth 100000 in
theorem w_X9_best_131 (K39 : Nat → Int32 → Int32 → Int32 → Int32 → Int32 → mj_H → Option (Int32 × mj_H)) (K63 : Nat → Int32 → Int32 → Int32 → Int32 → Int32 → Int32 → mj_H → Option (Int32 × mj_H)) (hK39 : ∀ (v0 : Nat) (v1 : Int32) (v2 : Int32) (v3 : Int32) (v4 : Int32) (v5 : Int32)  (h : mj_H) (p : Int32 × mj_H), K39 v0 v1 v2 v3 v4 v5 h = some p → mj_W mX9_best (mj_FI p) 39 [(0, .ref v0), (1, .int v1), (2, .int v2), (3, .int v3), (4, .int v4), (5, .int v5)] [] h 0 0) (hK63 : ∀ (v0 : Nat) (v1 : Int32) (v2 : Int32) (v3 : Int32) (v4 : Int32) (v5 : Int32) (v6 : Int32)  (h : mj_H) (p : Int32 × mj_H), K63 v0 v1 v2 v3 v4 v5 v6 h = some p → mj_W mX9_best (mj_FI p) 63 [(0, .ref v0), (1, .int v1), (2, .int v2), (3, .int v3), (4, .int v4), (5, .int v5), (6, .int v6)] [] h 0 0) (v0 : Nat) (v1 : Int32) (v2 : Int32) (v4 : Int32) (v5 : Int32) (v6 : Int32) (v7 : Int32) (v8 : Int32) (s0 : Int32) (h : mj_H) (p : Int32 × mj_H) (hf : f_X9_best_131 K39 K63 v0 v1 v2 v4 v5 v6 v7 v8 s0 h = some p) : mj_W mX9_best (mj_FI p) 131 [(0, .ref v0), (1, .int v1), (2, .int v2), (4, .int v4), (5, .int v5), (6, .int v6), (7, .int v7), (8, .int v8)] [.int s0] h 0 0 := by
  unfold f_X9_best_131 at hf
  refine mj_blk k_X9_ok 72 2 (pc' := 134) (l' := [(3, .int s0), (0, .ref v0), (1, .int v1), (2, .int v2), (4, .int v4), (5, .int v5), (6, .int v6), (7, .int v7), (8, .int v8)]) (st' := [.int v8]) rfl ?_
  refine mj_if_eq 74 142 rfl (by decide) (fun q => ?_) (fun q => ?_)
  · have hf := (if_pos q).symm.trans hf
    refine mj_blk k_X9_ok 77 1 (pc' := 144) (l' := [(3, .int s0), (0, .ref v0), (1, .int v1), (2, .int v2), (4, .int v4), (5, .int v5), (6, .int v6), (7, .int v7), (8, .int v8)]) (st' := [.int v4]) rfl ?_
    refine mj_locs [1, 2, 3, 0, 5, 6] (l' := [(0, .ref v0), (1, .int v1), (2, .int v2), (3, .int s0), (5, .int v5), (6, .int v6)]) rfl ?_
    exact w_X9_best_144 K39 K63 hK39 hK63 v0 v1 v2 s0 v5 v6 v4 h _ hf
  · have hf := (if_neg q).symm.trans hf
    refine mj_blk k_X9_ok 75 2 (pc' := 144) (l' := [(3, .int s0), (0, .ref v0), (1, .int v1), (2, .int v2), (4, .int v4), (5, .int v5), (6, .int v6), (7, .int v7), (8, .int v8)]) (st' := [.int v7]) rfl ?_
    refine mj_locs [1, 2, 3, 0, 5, 6] (l' := [(0, .ref v0), (1, .int v1), (2, .int v2), (3, .int s0), (5, .int v5), (6, .int v6)]) rfl ?_
    exact w_X9_best_144 K39 K63 hK39 hK63 v0 v1 v2 s0 v5 v6 v7 h _ hf
def f_X9_best_112 (K39 : Nat → Int32 → Int32 → Int32 → Int32 → Int32 → mj_H → Option (Int32 × mj_H)) (K63 : Nat → Int32 → Int32 → Int32 → Int32 → Int32 → Int32 → mj_H → Option (Int32 × mj_H)) (v0 : Nat) (v1 : Int32) (v2 : Int32) (v3 : Int32) (v4 : Int32) (v5 : Int32) (v6 : Int32) (v7 : Int32) (s0 : Int32) (h : mj_H) : Option (Int32 × mj_H) := (if s0 = 0 then f_X9_best_131 K39 K63 v0 v1 v2 v4 v5 v6 v7 s0 v3 h else f_X9_best_131 K39 K63 v0 v1 v2 v4 v5 v6 v7 s0 (((10 : Int32) * v5) + v6) h)
set_option maxHeartbeats 4000000 in
set_option maxRecDepth 100000 in
theorem w_X9_best_112 (K39 : Nat → Int32 → Int32 → Int32 → Int32 → Int32 → mj_H → Option (Int32 × mj_H)) (K63 : Nat → Int32 → Int32 → Int32 → Int32 → Int32 → Int32 → mj_H → Option (Int32 × mj_H)) (hK39 : ∀ (v0 : Nat) (v1 : Int32) (v2 : Int32) (v3 : Int32) (v4 : Int32) (v5 : Int32)  (h : mj_H) (p : Int32 × mj_H), K39 v0 v1 v2 v3 v4 v5 h = some p → mj_W mX9_best (mj_FI p) 39 [(0, .ref v0), (1, .int v1), (2, .int v2), (3, .int v3), (4, .int v4), (5, .int v5)] [] h 0 0) (hK63 : ∀ (v0 : Nat) (v1 : Int32) (v2 : Int32) (v3 : Int32) (v4 : Int32) (v5 : Int32) (v6 : Int32)  (h : mj_H) (p : Int32 × mj_H), K63 v0 v1 v2 v3 v4 v5 v6 h = some p → mj_W mX9_best (mj_FI p) 63 [(0, .ref v0), (1, .int v1), (2, .int v2), (3, .int v3), (4, .int v4), (5, .int v5), (6, .int v6)] [] h 0 0) (v0 : Nat) (v1 : Int32) (v2 : Int32) (v3 : Int32) (v4 : Int32) (v5 : Int32) (v6 : Int32) (v7 : Int32) (s0 : Int32) (h : mj_H) (p : Int32 × mj_H) (hf : f_X9_best_112 K39 K63 v0 v1 v2 v3 v4 v5 v6 v7 s0 h = some p) : mj_W mX9_best (mj_FI p) 112 [(0, .ref v0), (1, .int v1), (2, .int v2), (3, .int v3), (4, .int v4), (5, .int v5), (6, .int v6), (7, .int v7)] [.int s0] h 0 0 := by
  unfold f_X9_best_112 at hf
  refine mj_blk k_X9_ok 62 2 (pc' := 116) (l' := [(8, .int s0), (0, .ref v0), (1, .int v1), (2, .int v2), (3, .int v3), (4, .int v4), (5, .int v5), (6, .int v6), (7, .int v7)]) (st' := [.int s0]) rfl ?_
  refine mj_if_eq 64 130 rfl (by decide) (fun q => ?_) (fun q => ?_)
  · have hf := (if_pos q).symm.trans hf
    refine mj_blk k_X9_ok 71 1 (pc' := 131) (l' := [(8, .int s0), (0, .ref v0), (1, .int v1), (2, .int v2), (3, .int v3), (4, .int v4), (5, .int v5), (6, .int v6), (7, .int v7)]) (st' := [.int v3]) rfl ?_
    refine mj_locs [1, 2, 3, 5, 6, 7, 8, 0] (l' := [(0, .ref v0), (1, .int v1), (2, .int v2), (4, .int v4), (5, .int v5), (6, .int v6), (7, .int v7), (8, .int s0)]) rfl ?_
    exact w_X9_best_131 K39 K63 hK39 hK63 v0 v1 v2 v4 v5 v6 v7 s0 v3 h _ hf
  · have hf := (if_neg q).symm.trans hf
    refine mj_blk k_X9_ok 65 6 (pc' := 131) (l' := [(8, .int s0), (0, .ref v0), (1, .int v1), (2, .int v2), (3, .int v3), (4, .int v4), (5, .int v5), (6, .int v6), (7, .int v7)]) (st' := [.int (((10 : Int32) * v5) + v6)]) rfl ?_
    refine mj_locs [1, 2, 3, 5, 6, 7, 8, 0] (l' := [(0, .ref v0), (1, .int v1), (2, .int v2), (4, .int v4), (5, .int v5), (6, .int v6), (7, .int v7), (8, .int s0)]) rfl ?_
    exact w_X9_best_131 K39 K63 hK39 hK63 v0 v1 v2 v4 v5 v6 v7 s0 (((10 : Int32) * v5) + v6) h _ hf
def f_X9_best_107 (K39 : Nat → Int32 → Int32 → Int32 → Int32 → Int32 → mj_H → Option (Int32 × mj_H)) (K63 : Nat → Int32 → Int32 → Int32 → Int32 → Int32 → Int32 → mj_H → Option (Int32 × mj_H)) (v0 : Nat) (v1 : Int32) (v2 : Int32) (v3 : Int32) (v4 : Int32) (v5 : Int32) (v6 : Int32) (v7 : Int32) (h : mj_H) : Option (Int32 × mj_H) := f_X9_best_112 K39 K63 v0 v1 v2 v3 v4 v5 v6 v7 (1 : Int32) h
set_option maxHeartbeats 4000000 in
set_option maxRecDepth 100000 in
theorem w_X9_best_107 (K39 : Nat → Int32 → Int32 → Int32 → Int32 → Int32 → mj_H → Option (Int32 × mj_H)) (K63 : Nat → Int32 → Int32 → Int32 → Int32 → Int32 → Int32 → mj_H → Option (Int32 × mj_H)) (hK39 : ∀ (v0 : Nat) (v1 : Int32) (v2 : Int32) (v3 : Int32) (v4 : Int32) (v5 : Int32)  (h : mj_H) (p : Int32 × mj_H), K39 v0 v1 v2 v3 v4 v5 h = some p → mj_W mX9_best (mj_FI p) 39 [(0, .ref v0), (1, .int v1), (2, .int v2), (3, .int v3), (4, .int v4), (5, .int v5)] [] h 0 0) (hK63 : ∀ (v0 : Nat) (v1 : Int32) (v2 : Int32) (v3 : Int32) (v4 : Int32) (v5 : Int32) (v6 : Int32)  (h : mj_H) (p : Int32 × mj_H), K63 v0 v1 v2 v3 v4 v5 v6 h = some p → mj_W mX9_best (mj_FI p) 63 [(0, .ref v0), (1, .int v1), (2, .int v2), (3, .int v3), (4, .int v4), (5, .int v5), (6, .int v6)] [] h 0 0) (v0 : Nat) (v1 : Int32) (v2 : Int32) (v3 : Int32) (v4 : Int32) (v5 : Int32) (v6 : Int32) (v7 : Int32) (h : mj_H) (p : Int32 × mj_H) (hf : f_X9_best_107 K39 K63 v0 v1 v2 v3 v4 v5 v6 v7 h = some p) : mj_W mX9_best (mj_FI p) 107 [(0, .ref v0), (1, .int v1), (2, .int v2), (3, .int v3), (4, .int v4), (5, .int v5), (6, .int v6), (7, .int v7)] [] h 0 0 := by
  unfold f_X9_best_107 at hf
  refine mj_blk k_X9_ok 59 2 (pc' := 112) (l' := [(0, .ref v0), (1, .int v1), (2, .int v2), (3, .int v3), (4, .int v4), (5, .int v5), (6, .int v6), (7, .int v7)]) (st' := [.int (1 : Int32)]) rfl ?_
  exact w_X9_best_112 K39 K63 hK39 hK63 v0 v1 v2 v3 v4 v5 v6 v7 (1 : Int32) h _ hf
def b_X9_best_63 (K39 : Nat → Int32 → Int32 → Int32 → Int32 → Int32 → mj_H → Option (Int32 × mj_H)) (K63 : Nat → Int32 → Int32 → Int32 → Int32 → Int32 → Int32 → mj_H → Option (Int32 × mj_H)) (v0 : Nat) (v1 : Int32) (v2 : Int32) (v3 : Int32) (v4 : Int32) (v5 : Int32) (v6 : Int32) (h : mj_H) : Option (Int32 × mj_H) := (if (3 : Int32) ≤ v6 then K39 v0 v1 v2 v3 v4 (v5 + (1 : Int32)) h else (mj_gR h v0 9 0).bind fun x1 => (mj_aI h x1 (1 : Int32)).bind fun x2 => (f_X9_costOf v6 h).bind fun p3 => (if x2 < p3.1 then f_X9_best_146 K39 K63 v0 v1 v2 v3 v4 v5 v6 p3.2 else (if mj_ob p3.2 v0 9 = true then (f_X9_worthOf v0 v5 v6 v1 v2 p3.2).bind fun p4 => (if v3 = (-1 : Int32) then f_X9_best_107 K39 K63 v0 v1 v2 v3 v4 v5 v6 p4.1 p4.2 else (if p4.1 ≤ v4 then f_X9_best_112 K39 K63 v0 v1 v2 v3 v4 v5 v6 p4.1 (0 : Int32) p4.2 else f_X9_best_107 K39 K63 v0 v1 v2 v3 v4 v5 v6 p4.1 p4.2)) else none)))
set_option maxHeartbeats 4000000 in
set_option maxRecDepth 100000 in
theorem wb_X9_best_63 (K39 : Nat → Int32 → Int32 → Int32 → Int32 → Int32 → mj_H → Option (Int32 × mj_H)) (hK39 : ∀ (v0 : Nat) (v1 : Int32) (v2 : Int32) (v3 : Int32) (v4 : Int32) (v5 : Int32)  (h : mj_H) (p : Int32 × mj_H), K39 v0 v1 v2 v3 v4 v5 h = some p → mj_W mX9_best (mj_FI p) 39 [(0, .ref v0), (1, .int v1), (2, .int v2), (3, .int v3), (4, .int v4), (5, .int v5)] [] h 0 0) (K63 : Nat → Int32 → Int32 → Int32 → Int32 → Int32 → Int32 → mj_H → Option (Int32 × mj_H)) (hK63 : ∀ (v0 : Nat) (v1 : Int32) (v2 : Int32) (v3 : Int32) (v4 : Int32) (v5 : Int32) (v6 : Int32)  (h : mj_H) (p : Int32 × mj_H), K63 v0 v1 v2 v3 v4 v5 v6 h = some p → mj_W mX9_best (mj_FI p) 63 [(0, .ref v0), (1, .int v1), (2, .int v2), (3, .int v3), (4, .int v4), (5, .int v5), (6, .int v6)] [] h 0 0) (v0 : Nat) (v1 : Int32) (v2 : Int32) (v3 : Int32) (v4 : Int32) (v5 : Int32) (v6 : Int32) (h : mj_H) (p : Int32 × mj_H) (hf : b_X9_best_63 K39 K63 v0 v1 v2 v3 v4 v5 v6 h = some p) : mj_W mX9_best (mj_FI p) 63 [(0, .ref v0), (1, .int v1), (2, .int v2), (3, .int v3), (4, .int v4), (5, .int v5), (6, .int v6)] [] h 0 0 := by
  unfold b_X9_best_63 at hf
  refine mj_blk k_X9_ok 36 2 (pc' := 66) (l' := [(0, .ref v0), (1, .int v1), (2, .int v2), (3, .int v3), (4, .int v4), (5, .int v5), (6, .int v6)]) (st' := [.int (3 : Int32), .int v6]) rfl ?_
  refine mj_icmp_ge 38 152 rfl (by decide) (fun q => ?_) (fun q => ?_)
  · have hf := (if_pos q).symm.trans hf
    refine mj_blk k_X9_ok 81 2 (pc' := 39) (l' := [(5, .int (v5 + (1 : Int32))), (0, .ref v0), (1, .int v1), (2, .int v2), (3, .int v3), (4, .int v4), (6, .int v6)]) (st' := []) rfl ?_
    refine mj_locs [1, 2, 3, 4, 5, 0] (l' := [(0, .ref v0), (1, .int v1), (2, .int v2), (3, .int v3), (4, .int v4), (5, .int (v5 + (1 : Int32)))]) rfl ?_
    exact hK39 v0 v1 v2 v3 v4 (v5 + (1 : Int32)) h _ hf
  · have hf := (if_neg q).symm.trans hf
    refine mj_blk k_X9_ok 39 1 (pc' := 70) (l' := [(0, .ref v0), (1, .int v1), (2, .int v2), (3, .int v3), (4, .int v4), (5, .int v5), (6, .int v6)]) (st' := [.ref v0]) rfl ?_
    obtain ⟨x1, ex1, hf⟩ := mj_bd hf
    refine mj_get 40 rfl fl_X9_7 (mj_gR_V ex1) ?_
    refine mj_blk k_X9_ok 41 1 (pc' := 74) (l' := [(0, .ref v0), (1, .int v1), (2, .int v2), (3, .int v3), (4, .int v4), (5, .int v5), (6, .int v6)]) (st' := [.int (1 : Int32), .ref x1]) rfl ?_
    obtain ⟨x2, ex2, hf⟩ := mj_bd hf
    refine mj_iald 42 rfl ex2 ?_
    refine mj_blk k_X9_ok 43 1 (pc' := 77) (l' := [(0, .ref v0), (1, .int v1), (2, .int v2), (3, .int v3), (4, .int v4), (5, .int v5), (6, .int v6)]) (st' := [.int v6, .int x2]) rfl ?_
    obtain ⟨p3, ep3, hf⟩ := mj_bd hf
    refine mj_callS mX9_costOf [.int v6] 44 rfl ll_X9_185 lb_X9_costOf li_X9_costOf ⟨Nat.le_of_ble_eq_true rfl, Nat.le_of_ble_eq_true rfl⟩ rfl (rest := [.int x2]) rfl (Nat.le_of_ble_eq_true rfl) ⟨Nat.le_of_ble_eq_true rfl, Nat.le_of_ble_eq_true rfl⟩ (c_X9_costOf v6 h p3 ep3) ?_
    show mj_W mX9_best (mj_FI p) 80 [(0, .ref v0), (1, .int v1), (2, .int v2), (3, .int v3), (4, .int v4), (5, .int v5), (6, .int v6)] [.int p3.1, .int x2] p3.2 0 0
    refine mj_icmp_lt 45 146 rfl (by decide) (fun q => ?_) (fun q => ?_)
    · have hf := (if_pos q).symm.trans hf
      exact w_X9_best_146 K39 K63 hK39 hK63 v0 v1 v2 v3 v4 v5 v6 p3.2 _ hf
    · have hf := (if_neg q).symm.trans hf
      refine mj_blk k_X9_ok 46 5 (pc' := 90) (l' := [(0, .ref v0), (1, .int v1), (2, .int v2), (3, .int v3), (4, .int v4), (5, .int v5), (6, .int v6)]) (st' := [.int v2, .int v1, .int v6, .int v5, .ref v0]) rfl ?_
      obtain ⟨gp4, hf⟩ := mj_gd hf
      obtain ⟨p4, ep4, hf⟩ := mj_bd hf
      refine mj_callV (T := TX9) (N := 20) (ci := 9) mX9_worthOf [.int v5, .int v6, .int v1, .int v2] 51 rfl ll_X9_243 lb_X9_worthOf li_X9_worthOf ⟨Nat.le_of_ble_eq_true rfl, Nat.le_of_ble_eq_true rfl⟩ rfl gp4 rfl (rest := []) rfl (Nat.le_of_ble_eq_true rfl) ⟨Nat.le_of_ble_eq_true rfl, Nat.le_of_ble_eq_true rfl⟩ (c_X9_worthOf v0 v5 v6 v1 v2 p3.2 p4 ep4) ?_
      show mj_W mX9_best (mj_FI p) 93 [(0, .ref v0), (1, .int v1), (2, .int v2), (3, .int v3), (4, .int v4), (5, .int v5), (6, .int v6)] [.int p4.1] p4.2 0 0
      refine mj_blk k_X9_ok 52 3 (pc' := 97) (l' := [(7, .int p4.1), (0, .ref v0), (1, .int v1), (2, .int v2), (3, .int v3), (4, .int v4), (5, .int v5), (6, .int v6)]) (st' := [.int (-1 : Int32), .int v3]) rfl ?_
      refine mj_icmp_eq 55 107 rfl (by decide) (fun q => ?_) (fun q => ?_)
      · have hf := (if_pos q).symm.trans hf
        refine mj_locs [1, 2, 3, 4, 5, 6, 7, 0] (l' := [(0, .ref v0), (1, .int v1), (2, .int v2), (3, .int v3), (4, .int v4), (5, .int v5), (6, .int v6), (7, .int p4.1)]) rfl ?_
        exact w_X9_best_107 K39 K63 hK39 hK63 v0 v1 v2 v3 v4 v5 v6 p4.1 p4.2 _ hf
      · have hf := (if_neg q).symm.trans hf
        refine mj_blk k_X9_ok 56 2 (pc' := 104) (l' := [(7, .int p4.1), (0, .ref v0), (1, .int v1), (2, .int v2), (3, .int v3), (4, .int v4), (5, .int v5), (6, .int v6)]) (st' := [.int v4, .int p4.1]) rfl ?_
        refine mj_icmp_le 58 111 rfl (by decide) (fun q => ?_) (fun q => ?_)
        · have hf := (if_pos q).symm.trans hf
          refine mj_blk k_X9_ok 61 1 (pc' := 112) (l' := [(7, .int p4.1), (0, .ref v0), (1, .int v1), (2, .int v2), (3, .int v3), (4, .int v4), (5, .int v5), (6, .int v6)]) (st' := [.int (0 : Int32)]) rfl ?_
          refine mj_locs [1, 2, 3, 4, 5, 6, 7, 0] (l' := [(0, .ref v0), (1, .int v1), (2, .int v2), (3, .int v3), (4, .int v4), (5, .int v5), (6, .int v6), (7, .int p4.1)]) rfl ?_
          exact w_X9_best_112 K39 K63 hK39 hK63 v0 v1 v2 v3 v4 v5 v6 p4.1 (0 : Int32) p4.2 _ hf
        · have hf := (if_neg q).symm.trans hf
          refine mj_locs [1, 2, 3, 4, 5, 6, 7, 0] (l' := [(0, .ref v0), (1, .int v1), (2, .int v2), (3, .int v3), (4, .int v4), (5, .int v5), (6, .int v6), (7, .int p4.1)]) rfl ?_
          exact w_X9_best_107 K39 K63 hK39 hK63 v0 v1 v2 v3 v4 v5 v6 p4.1 p4.2 _ hf
def f_X9_best_63 (K39 : Nat → Int32 → Int32 → Int32 → Int32 → Int32 → mj_H → Option (Int32 × mj_H)) (v0 : Nat) (v1 : Int32) (v2 : Int32) (v3 : Int32) (v4 : Int32) (v5 : Int32) (v6 : Int32) (h : mj_H) : Option (Int32 × mj_H) := mj_fix (fun (K63 : (Nat × Int32 × Int32 × Int32 × Int32 × Int32 × Int32 × mj_H) → Option (Int32 × mj_H)) (s : Nat × Int32 × Int32 × Int32 × Int32 × Int32 × Int32 × mj_H) => b_X9_best_63 K39 (fun v0 v1 v2 v3 v4 v5 v6 h => K63 (v0, v1, v2, v3, v4, v5, v6, h)) s.1 s.2.1 s.2.2.1 s.2.2.2.1 s.2.2.2.2.1 s.2.2.2.2.2.1 s.2.2.2.2.2.2.1 s.2.2.2.2.2.2.2) 1000 (v0, v1, v2, v3, v4, v5, v6, h)
set_option maxHeartbeats 4000000 in
set_option maxRecDepth 100000 in
theorem w_X9_best_63 (K39 : Nat → Int32 → Int32 → Int32 → Int32 → Int32 → mj_H → Option (Int32 × mj_H)) (hK39 : ∀ (v0 : Nat) (v1 : Int32) (v2 : Int32) (v3 : Int32) (v4 : Int32) (v5 : Int32)  (h : mj_H) (p : Int32 × mj_H), K39 v0 v1 v2 v3 v4 v5 h = some p → mj_W mX9_best (mj_FI p) 39 [(0, .ref v0), (1, .int v1), (2, .int v2), (3, .int v3), (4, .int v4), (5, .int v5)] [] h 0 0) (v0 : Nat) (v1 : Int32) (v2 : Int32) (v3 : Int32) (v4 : Int32) (v5 : Int32) (v6 : Int32) (h : mj_H) (p : Int32 × mj_H) (hf : f_X9_best_63 K39 v0 v1 v2 v3 v4 v5 v6 h = some p) : mj_W mX9_best (mj_FI p) 63 [(0, .ref v0), (1, .int v1), (2, .int v2), (3, .int v3), (4, .int v4), (5, .int v5), (6, .int v6)] [] h 0 0 := by
  unfold f_X9_best_63 at hf
  exact mj_fix_ind (F := (fun (K63 : (Nat × Int32 × Int32 × Int32 × Int32 × Int32 × Int32 × mj_H) → Option (Int32 × mj_H)) (s : Nat × Int32 × Int32 × Int32 × Int32 × Int32 × Int32 × mj_H) => b_X9_best_63 K39 (fun v0 v1 v2 v3 v4 v5 v6 h => K63 (v0, v1, v2, v3, v4, v5, v6, h)) s.1 s.2.1 s.2.2.1 s.2.2.2.1 s.2.2.2.2.1 s.2.2.2.2.2.1 s.2.2.2.2.2.2.1 s.2.2.2.2.2.2.2)) (P := fun s p => mj_W mX9_best (mj_FI p) 63 [(0, .ref s.1), (1, .int s.2.1), (2, .int s.2.2.1), (3, .int s.2.2.2.1), (4, .int s.2.2.2.2.1), (5, .int s.2.2.2.2.2.1), (6, .int s.2.2.2.2.2.2.1)] [] s.2.2.2.2.2.2.2 0 0) (fun K63 hK63 s p hf => wb_X9_best_63 K39 hK39 (fun v0 v1 v2 v3 v4 v5 v6 h => K63 (v0, v1, v2, v3, v4, v5, v6, h)) (fun v0 v1 v2 v3 v4 v5 v6 h p e => hK63 (v0, v1, v2, v3, v4, v5, v6, h) p e) s.1 s.2.1 s.2.2.1 s.2.2.2.1 s.2.2.2.2.1 s.2.2.2.2.2.1 s.2.2.2.2.2.2.1 s.2.2.2.2.2.2.2 p hf) 1000 (v0, v1, v2, v3, v4, v5, v6, h) p hf
def b_X9_best_39 (K39 : Nat → Int32 → Int32 → Int32 → Int32 → Int32 → mj_H → Option (Int32 × mj_H)) (v0 : Nat) (v1 : Int32) (v2 : Int32) (v3 : Int32) (v4 : Int32) (v5 : Int32) (h : mj_H) : Option (Int32 × mj_H) := (mj_gR h v0 9 0).bind fun x5 => (mj_aI h x5 (0 : Int32)).bind fun x6 => (if x6 ≤ v5 then some (v3, h) else (mj_gR h v0 9 0).bind fun x7 => (mj_aI h x7 (0 : Int32)).bind fun x8 => (if x8 < v1 then some (v3, h) else f_X9_best_63 K39 v0 v1 v2 v3 v4 v5 (0 : Int32) h))
set_option maxHeartbeats 4000000 in
set_option maxRecDepth 100000 in
theorem wb_X9_best_39 (K39 : Nat → Int32 → Int32 → Int32 → Int32 → Int32 → mj_H → Option (Int32 × mj_H)) (hK39 : ∀ (v0 : Nat) (v1 : Int32) (v2 : Int32) (v3 : Int32) (v4 : Int32) (v5 : Int32)  (h : mj_H) (p : Int32 × mj_H), K39 v0 v1 v2 v3 v4 v5 h = some p → mj_W mX9_best (mj_FI p) 39 [(0, .ref v0), (1, .int v1), (2, .int v2), (3, .int v3), (4, .int v4), (5, .int v5)] [] h 0 0) (v0 : Nat) (v1 : Int32) (v2 : Int32) (v3 : Int32) (v4 : Int32) (v5 : Int32) (h : mj_H) (p : Int32 × mj_H) (hf : b_X9_best_39  K39 v0 v1 v2 v3 v4 v5 h = some p) : mj_W mX9_best (mj_FI p) 39 [(0, .ref v0), (1, .int v1), (2, .int v2), (3, .int v3), (4, .int v4), (5, .int v5)] [] h 0 0 := by
  unfold b_X9_best_39 at hf
  refine mj_blk k_X9_ok 22 2 (pc' := 42) (l' := [(0, .ref v0), (1, .int v1), (2, .int v2), (3, .int v3), (4, .int v4), (5, .int v5)]) (st' := [.ref v0, .int v5]) rfl ?_
  obtain ⟨x5, ex5, hf⟩ := mj_bd hf
  refine mj_get 24 rfl fl_X9_7 (mj_gR_V ex5) ?_
  refine mj_blk k_X9_ok 25 1 (pc' := 46) (l' := [(0, .ref v0), (1, .int v1), (2, .int v2), (3, .int v3), (4, .int v4), (5, .int v5)]) (st' := [.int (0 : Int32), .ref x5, .int v5]) rfl ?_
  obtain ⟨x6, ex6, hf⟩ := mj_bd hf
  refine mj_iald 26 rfl ex6 ?_
  refine mj_icmp_ge 27 158 rfl (by decide) (fun q => ?_) (fun q => ?_)
  · have hf := (if_pos q).symm.trans hf
    refine mj_blk k_X9_ok 83 1 (pc' := 159) (l' := [(0, .ref v0), (1, .int v1), (2, .int v2), (3, .int v3), (4, .int v4), (5, .int v5)]) (st' := [.int v3]) rfl ?_
    obtain rfl := Option.some.inj hf
    exact mj_end (some (.int v3)) ⟨mj_dec tok_X9_best (a := 84) rfl, .int, rfl, rfl⟩ ⟨rfl, rfl⟩ (Nat.le_of_ble_eq_true rfl) (Nat.le_of_ble_eq_true rfl)
  · have hf := (if_neg q).symm.trans hf
    refine mj_blk k_X9_ok 28 2 (pc' := 52) (l' := [(0, .ref v0), (1, .int v1), (2, .int v2), (3, .int v3), (4, .int v4), (5, .int v5)]) (st' := [.ref v0, .int v1]) rfl ?_
    obtain ⟨x7, ex7, hf⟩ := mj_bd hf
    refine mj_get 30 rfl fl_X9_7 (mj_gR_V ex7) ?_
    refine mj_blk k_X9_ok 31 1 (pc' := 56) (l' := [(0, .ref v0), (1, .int v1), (2, .int v2), (3, .int v3), (4, .int v4), (5, .int v5)]) (st' := [.int (0 : Int32), .ref x7, .int v1]) rfl ?_
    obtain ⟨x8, ex8, hf⟩ := mj_bd hf
    refine mj_iald 32 rfl ex8 ?_
    refine mj_icmp_gt 33 158 rfl (by decide) (fun q => ?_) (fun q => ?_)
    · have hf := (if_pos q).symm.trans hf
      refine mj_blk k_X9_ok 83 1 (pc' := 159) (l' := [(0, .ref v0), (1, .int v1), (2, .int v2), (3, .int v3), (4, .int v4), (5, .int v5)]) (st' := [.int v3]) rfl ?_
      obtain rfl := Option.some.inj hf
      exact mj_end (some (.int v3)) ⟨mj_dec tok_X9_best (a := 84) rfl, .int, rfl, rfl⟩ ⟨rfl, rfl⟩ (Nat.le_of_ble_eq_true rfl) (Nat.le_of_ble_eq_true rfl)
    · have hf := (if_neg q).symm.trans hf
      refine mj_blk k_X9_ok 34 2 (pc' := 63) (l' := [(6, .int (0 : Int32)), (0, .ref v0), (1, .int v1), (2, .int v2), (3, .int v3), (4, .int v4), (5, .int v5)]) (st' := []) rfl ?_
      refine mj_locs [1, 2, 3, 4, 5, 6, 0] (l' := [(0, .ref v0), (1, .int v1), (2, .int v2), (3, .int v3), (4, .int v4), (5, .int v5), (6, .int (0 : Int32))]) rfl ?_
      exact w_X9_best_63 K39 hK39 v0 v1 v2 v3 v4 v5 (0 : Int32) h _ hf
def f_X9_best_39 (v0 : Nat) (v1 : Int32) (v2 : Int32) (v3 : Int32) (v4 : Int32) (v5 : Int32) (h : mj_H) : Option (Int32 × mj_H) := mj_fix (fun (K39 : (Nat × Int32 × Int32 × Int32 × Int32 × Int32 × mj_H) → Option (Int32 × mj_H)) (s : Nat × Int32 × Int32 × Int32 × Int32 × Int32 × mj_H) => b_X9_best_39  (fun v0 v1 v2 v3 v4 v5 h => K39 (v0, v1, v2, v3, v4, v5, h)) s.1 s.2.1 s.2.2.1 s.2.2.2.1 s.2.2.2.2.1 s.2.2.2.2.2.1 s.2.2.2.2.2.2) 1000 (v0, v1, v2, v3, v4, v5, h)
set_option maxHeartbeats 4000000 in
set_option maxRecDepth 100000 in
theorem w_X9_best_39 (v0 : Nat) (v1 : Int32) (v2 : Int32) (v3 : Int32) (v4 : Int32) (v5 : Int32) (h : mj_H) (p : Int32 × mj_H) (hf : f_X9_best_39  v0 v1 v2 v3 v4 v5 h = some p) : mj_W mX9_best (mj_FI p) 39 [(0, .ref v0), (1, .int v1), (2, .int v2), (3, .int v3), (4, .int v4), (5, .int v5)] [] h 0 0 := by
  unfold f_X9_best_39 at hf
  exact mj_fix_ind (F := (fun (K39 : (Nat × Int32 × Int32 × Int32 × Int32 × Int32 × mj_H) → Option (Int32 × mj_H)) (s : Nat × Int32 × Int32 × Int32 × Int32 × Int32 × mj_H) => b_X9_best_39  (fun v0 v1 v2 v3 v4 v5 h => K39 (v0, v1, v2, v3, v4, v5, h)) s.1 s.2.1 s.2.2.1 s.2.2.2.1 s.2.2.2.2.1 s.2.2.2.2.2.1 s.2.2.2.2.2.2)) (P := fun s p => mj_W mX9_best (mj_FI p) 39 [(0, .ref s.1), (1, .int s.2.1), (2, .int s.2.2.1), (3, .int s.2.2.2.1), (4, .int s.2.2.2.2.1), (5, .int s.2.2.2.2.2.1)] [] s.2.2.2.2.2.2 0 0) (fun K39 hK39 s p hf => wb_X9_best_39   (fun v0 v1 v2 v3 v4 v5 h => K39 (v0, v1, v2, v3, v4, v5, h)) (fun v0 v1 v2 v3 v4 v5 h p e => hK39 (v0, v1, v2, v3, v4, v5, h) p e) s.1 s.2.1 s.2.2.1 s.2.2.2.1 s.2.2.2.2.1 s.2.2.2.2.2.1 s.2.2.2.2.2.2 p hf) 1000 (v0, v1, v2, v3, v4, v5, h) p hf
def f_X9_best_24 (v0 : Nat) (h : mj_H) : Option (Int32 × mj_H) := (if mj_ob h v0 9 = true then (f_X9_bad v0 (-10 : Int32) h).bind fun p9 => some (p9.1, p9.2) else none)
set_option maxHeartbeats 4000000 in
set_option maxRecDepth 100000 in
theorem w_X9_best_24 (v0 : Nat) (h : mj_H) (p : Int32 × mj_H) (hf : f_X9_best_24  v0 h = some p) : mj_W mX9_best (mj_FI p) 24 [(0, .ref v0)] [] h 0 0 := by
  unfold f_X9_best_24 at hf
  refine mj_blk k_X9_ok 12 2 (pc' := 27) (l' := [(0, .ref v0)]) (st' := [.int (-10 : Int32), .ref v0]) rfl ?_
  obtain ⟨gp9, hf⟩ := mj_gd hf
  obtain ⟨p9, ep9, hf⟩ := mj_bd hf
  refine mj_callV (T := TX9) (N := 20) (ci := 9) mX9_bad [.int (-10 : Int32)] 14 rfl ll_X9_75 lb_X9_bad li_X9_bad ⟨Nat.le_of_ble_eq_true rfl, Nat.le_of_ble_eq_true rfl⟩ rfl gp9 rfl (rest := []) rfl (Nat.le_of_ble_eq_true rfl) ⟨Nat.le_of_ble_eq_true rfl, Nat.le_of_ble_eq_true rfl⟩ (c_X9_bad v0 (-10 : Int32) h p9 ep9) ?_
  show mj_W mX9_best (mj_FI p) 30 [(0, .ref v0)] [.int p9.1] p9.2 0 0
  obtain rfl := Option.some.inj hf
  exact mj_end (some (.int p9.1)) ⟨mj_dec tok_X9_best (a := 15) rfl, .int, rfl, rfl⟩ ⟨rfl, rfl⟩ (Nat.le_of_ble_eq_true rfl) (Nat.le_of_ble_eq_true rfl)
def f_X9_best (v0 : Nat) (v1 : Int32) (v2 : Int32) (h : mj_H) : Option (Int32 × mj_H) := (f_X9_in ((v1).toInt64) (0 : Int64) (3 : Int64) h).bind fun p10 => (if p10.1 = 0 then f_X9_best_24 v0 p10.2 else (f_X9_in ((v2).toInt64) (0 : Int64) (6 : Int64) p10.2).bind fun p11 => (if p11.1 = 0 then f_X9_best_24 v0 p11.2 else f_X9_best_39 v0 v1 v2 (-1 : Int32) (0 : Int32) (0 : Int32) p11.2))
set_option maxHeartbeats 4000000 in
set_option maxRecDepth 100000 in
theorem c_X9_best (v0 : Nat) (v1 : Int32) (v2 : Int32) (h : mj_H) (p : Int32 × mj_H) (hf : f_X9_best v0 v1 v2 h = some p) : mj_Met mX9_best [.ref v0, .int v1, .int v2] h (some (.int p.1)) p.2 := by
  refine mj_met pl_X9 tok_X9_best (Nat.le_of_ble_eq_true rfl) ?_
  show mj_W mX9_best (mj_FI p) 0 [(0, .ref v0), (1, .int v1), (2, .int v2)] [] h 0 0
  unfold f_X9_best at hf
  refine mj_blk k_X9_ok 0 4 (pc' := 6) (l' := [(0, .ref v0), (1, .int v1), (2, .int v2)]) (st' := [.long (3 : Int64), .long (0 : Int64), .long ((v1).toInt64)]) rfl ?_
  obtain ⟨p10, ep10, hf⟩ := mj_bd hf
  refine mj_callS mX9_in [.long ((v1).toInt64), .long (0 : Int64), .long (3 : Int64)] 4 rfl ll_X9_53 lb_X9_in li_X9_in ⟨Nat.le_of_ble_eq_true rfl, Nat.le_of_ble_eq_true rfl⟩ rfl (rest := []) rfl (Nat.le_of_ble_eq_true rfl) ⟨Nat.le_of_ble_eq_true rfl, Nat.le_of_ble_eq_true rfl⟩ (c_X9_in ((v1).toInt64) (0 : Int64) (3 : Int64) h p10 ep10) ?_
  show mj_W mX9_best (mj_FI p) 9 [(0, .ref v0), (1, .int v1), (2, .int v2)] [.int p10.1] p10.2 0 0
  refine mj_if_eq 5 24 rfl (by decide) (fun q => ?_) (fun q => ?_)
  · have hf := (if_pos q).symm.trans hf
    refine mj_locs [0] (l' := [(0, .ref v0)]) rfl ?_
    exact w_X9_best_24 v0 p10.2 _ hf
  · have hf := (if_neg q).symm.trans hf
    refine mj_blk k_X9_ok 6 4 (pc' := 18) (l' := [(0, .ref v0), (1, .int v1), (2, .int v2)]) (st' := [.long (6 : Int64), .long (0 : Int64), .long ((v2).toInt64)]) rfl ?_
    obtain ⟨p11, ep11, hf⟩ := mj_bd hf
    refine mj_callS mX9_in [.long ((v2).toInt64), .long (0 : Int64), .long (6 : Int64)] 10 rfl ll_X9_53 lb_X9_in li_X9_in ⟨Nat.le_of_ble_eq_true rfl, Nat.le_of_ble_eq_true rfl⟩ rfl (rest := []) rfl (Nat.le_of_ble_eq_true rfl) ⟨Nat.le_of_ble_eq_true rfl, Nat.le_of_ble_eq_true rfl⟩ (c_X9_in ((v2).toInt64) (0 : Int64) (6 : Int64) p10.2 p11 ep11) ?_
    show mj_W mX9_best (mj_FI p) 21 [(0, .ref v0), (1, .int v1), (2, .int v2)] [.int p11.1] p11.2 0 0
    refine mj_if_ne 11 31 rfl (by decide) (fun q => ?_) (fun q => ?_)
    · have hf := (if_neg q).symm.trans hf
      refine mj_blk k_X9_ok 16 6 (pc' := 39) (l' := [(5, .int (0 : Int32)), (4, .int (0 : Int32)), (3, .int (-1 : Int32)), (0, .ref v0), (1, .int v1), (2, .int v2)]) (st' := []) rfl ?_
      refine mj_locs [3, 4, 5, 2, 1, 0] (l' := [(0, .ref v0), (1, .int v1), (2, .int v2), (3, .int (-1 : Int32)), (4, .int (0 : Int32)), (5, .int (0 : Int32))]) rfl ?_
      exact w_X9_best_39 v0 v1 v2 (-1 : Int32) (0 : Int32) (0 : Int32) p11.2 _ hf
    · have hf := (if_pos q).symm.trans hf
      refine mj_locs [0] (l' := [(0, .ref v0)]) rfl ?_
      exact w_X9_best_24 v0 p11.2 _ hf
def b_X9_sifts_62 (K62 : Nat → Int32 → Int32 → Int32 → Int32 → Int32 → mj_H → Option (Int32 × mj_H)) (v0 : Nat) (v1 : Int32) (v2 : Int32) (v3 : Int32) (v6 : Int32) (v7 : Int32) (h : mj_H) : Option (Int32 × mj_H) := (if v3 ≤ v7 then (mj_gR h v0 9 0).bind fun x1 => (mj_aI h x1 (1 : Int32)).bind fun x2 => (if x2 < v6 then some ((0 : Int32), h) else (mj_gR h v0 9 18).bind fun x3 => (f_X9_trustOn x3 v1 h).bind fun p4 => (if p4.1 < v2 then some ((0 : Int32), p4.2) else some ((1 : Int32), p4.2))) else (mj_gR h v0 9 18).bind fun x5 => (mj_gR h v0 9 19).bind fun x6 => (mj_aI h x6 v7).bind fun x7 => (f_X9_tests x5 v1 x7 (1 : Int32) h).bind fun p8 => K62 v0 v1 v2 v3 v6 (v7 + (1 : Int32)) p8)
set_option maxHeartbeats 4000000 in
set_option maxRecDepth 100000 in
theorem wb_X9_sifts_62 (K62 : Nat → Int32 → Int32 → Int32 → Int32 → Int32 → mj_H → Option (Int32 × mj_H)) (hK62 : ∀ (v0 : Nat) (v1 : Int32) (v2 : Int32) (v3 : Int32) (v6 : Int32) (v7 : Int32)  (h : mj_H) (p : Int32 × mj_H), K62 v0 v1 v2 v3 v6 v7 h = some p → mj_W mX9_sifts (mj_FI p) 62 [(0, .ref v0), (1, .int v1), (2, .int v2), (3, .int v3), (6, .int v6), (7, .int v7)] [] h 0 0) (v0 : Nat) (v1 : Int32) (v2 : Int32) (v3 : Int32) (v6 : Int32) (v7 : Int32) (h : mj_H) (p : Int32 × mj_H) (hf : b_X9_sifts_62  K62 v0 v1 v2 v3 v6 v7 h = some p) : mj_W mX9_sifts (mj_FI p) 62 [(0, .ref v0), (1, .int v1), (2, .int v2), (3, .int v3), (6, .int v6), (7, .int v7)] [] h 0 0 := by
  unfold b_X9_sifts_62 at hf
  refine mj_blk k_X9_ok 35 2 (pc' := 65) (l' := [(0, .ref v0), (1, .int v1), (2, .int v2), (3, .int v3), (6, .int v6), (7, .int v7)]) (st' := [.int v3, .int v7]) rfl ?_
  refine mj_icmp_ge 37 90 rfl (by decide) (fun q => ?_) (fun q => ?_)
  · have hf := (if_pos q).symm.trans hf
    refine mj_blk k_X9_ok 49 2 (pc' := 93) (l' := [(0, .ref v0), (1, .int v1), (2, .int v2), (3, .int v3), (6, .int v6), (7, .int v7)]) (st' := [.ref v0, .int v6]) rfl ?_
    obtain ⟨x1, ex1, hf⟩ := mj_bd hf
    refine mj_get 51 rfl fl_X9_7 (mj_gR_V ex1) ?_
    refine mj_blk k_X9_ok 52 1 (pc' := 97) (l' := [(0, .ref v0), (1, .int v1), (2, .int v2), (3, .int v3), (6, .int v6), (7, .int v7)]) (st' := [.int (1 : Int32), .ref x1, .int v6]) rfl ?_
    obtain ⟨x2, ex2, hf⟩ := mj_bd hf
    refine mj_iald 53 rfl ex2 ?_
    refine mj_icmp_gt 54 117 rfl (by decide) (fun q => ?_) (fun q => ?_)
    · have hf := (if_pos q).symm.trans hf
      refine mj_blk k_X9_ok 63 1 (pc' := 118) (l' := [(0, .ref v0), (1, .int v1), (2, .int v2), (3, .int v3), (6, .int v6), (7, .int v7)]) (st' := [.int (0 : Int32)]) rfl ?_
      obtain rfl := Option.some.inj hf
      exact mj_end (some (.int (0 : Int32))) ⟨mj_dec tok_X9_sifts (a := 64) rfl, .boolean, rfl, rfl⟩ ⟨rfl, rfl⟩ (Nat.le_of_ble_eq_true rfl) (Nat.le_of_ble_eq_true rfl)
    · have hf := (if_neg q).symm.trans hf
      refine mj_blk k_X9_ok 55 1 (pc' := 102) (l' := [(0, .ref v0), (1, .int v1), (2, .int v2), (3, .int v3), (6, .int v6), (7, .int v7)]) (st' := [.ref v0]) rfl ?_
      obtain ⟨x3, ex3, hf⟩ := mj_bd hf
      refine mj_get 56 rfl fl_X9_43 (mj_gR_V ex3) ?_
      refine mj_blk k_X9_ok 57 1 (pc' := 106) (l' := [(0, .ref v0), (1, .int v1), (2, .int v2), (3, .int v3), (6, .int v6), (7, .int v7)]) (st' := [.int v1, .ref x3]) rfl ?_
      obtain ⟨p4, ep4, hf⟩ := mj_bd hf
      refine mj_callS mX9_trustOn [.ref x3, .int v1] 58 rfl ll_X9_200 lb_X9_trustOn li_X9_trustOn ⟨Nat.le_of_ble_eq_true rfl, Nat.le_of_ble_eq_true rfl⟩ rfl (rest := []) rfl (Nat.le_of_ble_eq_true rfl) ⟨Nat.le_of_ble_eq_true rfl, Nat.le_of_ble_eq_true rfl⟩ (c_X9_trustOn x3 v1 h p4 ep4) ?_
      show mj_W mX9_sifts (mj_FI p) 109 [(0, .ref v0), (1, .int v1), (2, .int v2), (3, .int v3), (6, .int v6), (7, .int v7)] [.int p4.1] p4.2 0 0
      refine mj_blk k_X9_ok 59 1 (pc' := 110) (l' := [(0, .ref v0), (1, .int v1), (2, .int v2), (3, .int v3), (6, .int v6), (7, .int v7)]) (st' := [.int v2, .int p4.1]) rfl ?_
      refine mj_icmp_lt 60 117 rfl (by decide) (fun q => ?_) (fun q => ?_)
      · have hf := (if_pos q).symm.trans hf
        refine mj_blk k_X9_ok 63 1 (pc' := 118) (l' := [(0, .ref v0), (1, .int v1), (2, .int v2), (3, .int v3), (6, .int v6), (7, .int v7)]) (st' := [.int (0 : Int32)]) rfl ?_
        obtain rfl := Option.some.inj hf
        exact mj_end (some (.int (0 : Int32))) ⟨mj_dec tok_X9_sifts (a := 64) rfl, .boolean, rfl, rfl⟩ ⟨rfl, rfl⟩ (Nat.le_of_ble_eq_true rfl) (Nat.le_of_ble_eq_true rfl)
      · have hf := (if_neg q).symm.trans hf
        refine mj_blk k_X9_ok 61 2 (pc' := 118) (l' := [(0, .ref v0), (1, .int v1), (2, .int v2), (3, .int v3), (6, .int v6), (7, .int v7)]) (st' := [.int (1 : Int32)]) rfl ?_
        obtain rfl := Option.some.inj hf
        exact mj_end (some (.int (1 : Int32))) ⟨mj_dec tok_X9_sifts (a := 64) rfl, .boolean, rfl, rfl⟩ ⟨rfl, rfl⟩ (Nat.le_of_ble_eq_true rfl) (Nat.le_of_ble_eq_true rfl)
  · have hf := (if_neg q).symm.trans hf
    refine mj_blk k_X9_ok 38 1 (pc' := 69) (l' := [(0, .ref v0), (1, .int v1), (2, .int v2), (3, .int v3), (6, .int v6), (7, .int v7)]) (st' := [.ref v0]) rfl ?_
    obtain ⟨x5, ex5, hf⟩ := mj_bd hf
    refine mj_get 39 rfl fl_X9_43 (mj_gR_V ex5) ?_
    refine mj_blk k_X9_ok 40 2 (pc' := 74) (l' := [(0, .ref v0), (1, .int v1), (2, .int v2), (3, .int v3), (6, .int v6), (7, .int v7)]) (st' := [.ref v0, .int v1, .ref x5]) rfl ?_
    obtain ⟨x6, ex6, hf⟩ := mj_bd hf
    refine mj_get 42 rfl fl_X9_46 (mj_gR_V ex6) ?_
    refine mj_blk k_X9_ok 43 1 (pc' := 79) (l' := [(0, .ref v0), (1, .int v1), (2, .int v2), (3, .int v3), (6, .int v6), (7, .int v7)]) (st' := [.int v7, .ref x6, .int v1, .ref x5]) rfl ?_
    obtain ⟨x7, ex7, hf⟩ := mj_bd hf
    refine mj_iald 44 rfl ex7 ?_
    refine mj_blk k_X9_ok 45 1 (pc' := 81) (l' := [(0, .ref v0), (1, .int v1), (2, .int v2), (3, .int v3), (6, .int v6), (7, .int v7)]) (st' := [.int (1 : Int32), .int x7, .int v1, .ref x5]) rfl ?_
    obtain ⟨p8, ep8, hf⟩ := mj_bd hf
    refine mj_callS mX9_tests [.ref x5, .int v1, .int x7, .int (1 : Int32)] 46 rfl ll_X9_197 lb_X9_tests li_X9_tests ⟨Nat.le_of_ble_eq_true rfl, Nat.le_of_ble_eq_true rfl⟩ rfl (rest := []) rfl (Nat.le_of_ble_eq_true rfl) ⟨Nat.le_of_ble_eq_true rfl, Nat.le_of_ble_eq_true rfl⟩ (c_X9_tests x5 v1 x7 (1 : Int32) h p8 ep8) ?_
    show mj_W mX9_sifts (mj_FI p) 84 [(0, .ref v0), (1, .int v1), (2, .int v2), (3, .int v3), (6, .int v6), (7, .int v7)] [] p8 0 0
    refine mj_blk k_X9_ok 47 2 (pc' := 62) (l' := [(7, .int (v7 + (1 : Int32))), (0, .ref v0), (1, .int v1), (2, .int v2), (3, .int v3), (6, .int v6)]) (st' := []) rfl ?_
    refine mj_locs [1, 2, 3, 4, 5, 0] (l' := [(0, .ref v0), (1, .int v1), (2, .int v2), (3, .int v3), (6, .int v6), (7, .int (v7 + (1 : Int32)))]) rfl ?_
    exact hK62 v0 v1 v2 v3 v6 (v7 + (1 : Int32)) p8 _ hf
def f_X9_sifts_62 (v0 : Nat) (v1 : Int32) (v2 : Int32) (v3 : Int32) (v6 : Int32) (v7 : Int32) (h : mj_H) : Option (Int32 × mj_H) := mj_fix (fun (K62 : (Nat × Int32 × Int32 × Int32 × Int32 × Int32 × mj_H) → Option (Int32 × mj_H)) (s : Nat × Int32 × Int32 × Int32 × Int32 × Int32 × mj_H) => b_X9_sifts_62  (fun v0 v1 v2 v3 v6 v7 h => K62 (v0, v1, v2, v3, v6, v7, h)) s.1 s.2.1 s.2.2.1 s.2.2.2.1 s.2.2.2.2.1 s.2.2.2.2.2.1 s.2.2.2.2.2.2) 1000 (v0, v1, v2, v3, v6, v7, h)
set_option maxHeartbeats 4000000 in
set_option maxRecDepth 100000 in
theorem w_X9_sifts_62 (v0 : Nat) (v1 : Int32) (v2 : Int32) (v3 : Int32) (v6 : Int32) (v7 : Int32) (h : mj_H) (p : Int32 × mj_H) (hf : f_X9_sifts_62  v0 v1 v2 v3 v6 v7 h = some p) : mj_W mX9_sifts (mj_FI p) 62 [(0, .ref v0), (1, .int v1), (2, .int v2), (3, .int v3), (6, .int v6), (7, .int v7)] [] h 0 0 := by
  unfold f_X9_sifts_62 at hf
  exact mj_fix_ind (F := (fun (K62 : (Nat × Int32 × Int32 × Int32 × Int32 × Int32 × mj_H) → Option (Int32 × mj_H)) (s : Nat × Int32 × Int32 × Int32 × Int32 × Int32 × mj_H) => b_X9_sifts_62  (fun v0 v1 v2 v3 v6 v7 h => K62 (v0, v1, v2, v3, v6, v7, h)) s.1 s.2.1 s.2.2.1 s.2.2.2.1 s.2.2.2.2.1 s.2.2.2.2.2.1 s.2.2.2.2.2.2)) (P := fun s p => mj_W mX9_sifts (mj_FI p) 62 [(0, .ref s.1), (1, .int s.2.1), (2, .int s.2.2.1), (3, .int s.2.2.2.1), (6, .int s.2.2.2.2.1), (7, .int s.2.2.2.2.2.1)] [] s.2.2.2.2.2.2 0 0) (fun K62 hK62 s p hf => wb_X9_sifts_62   (fun v0 v1 v2 v3 v6 v7 h => K62 (v0, v1, v2, v3, v6, v7, h)) (fun v0 v1 v2 v3 v6 v7 h p e => hK62 (v0, v1, v2, v3, v6, v7, h) p e) s.1 s.2.1 s.2.2.1 s.2.2.2.1 s.2.2.2.2.1 s.2.2.2.2.2.1 s.2.2.2.2.2.2 p hf) 1000 (v0, v1, v2, v3, v6, v7, h) p hf
def b_X9_sifts_12 (K12 : Nat → Int32 → Int32 → Int32 → Int32 → Int32 → Int32 → mj_H → Option (Int32 × mj_H)) (v0 : Nat) (v1 : Int32) (v2 : Int32) (v3 : Int32) (v5 : Int32) (v6 : Int32) (v7 : Int32) (h : mj_H) : Option (Int32 × mj_H) := (if v7 < 0 then (if mj_ob h v0 9 = true then (f_X9_layDay v0 h).bind fun p9 => f_X9_sifts_62 v0 v1 v2 v3 v6 (0 : Int32) p9 else none) else (mj_gR h v0 9 19).bind fun x10 => (mj_uI h x10 v7 (v5 - v5 / (3 : Int32) * (3 : Int32))).bind fun h11 => (mj_gR h11 v0 9 19).bind fun x12 => (mj_aI h11 x12 v7).bind fun x13 => (f_X9_costOf x13 h11).bind fun p14 => K12 v0 v1 v2 v3 (v5 / (3 : Int32)) (v6 + p14.1) (v7 + (-1 : Int32)) p14.2)
set_option maxHeartbeats 4000000 in
set_option maxRecDepth 100000 in
theorem wb_X9_sifts_12 (K12 : Nat → Int32 → Int32 → Int32 → Int32 → Int32 → Int32 → mj_H → Option (Int32 × mj_H)) (hK12 : ∀ (v0 : Nat) (v1 : Int32) (v2 : Int32) (v3 : Int32) (v5 : Int32) (v6 : Int32) (v7 : Int32)  (h : mj_H) (p : Int32 × mj_H), K12 v0 v1 v2 v3 v5 v6 v7 h = some p → mj_W mX9_sifts (mj_FI p) 12 [(0, .ref v0), (1, .int v1), (2, .int v2), (3, .int v3), (5, .int v5), (6, .int v6), (7, .int v7)] [] h 0 0) (v0 : Nat) (v1 : Int32) (v2 : Int32) (v3 : Int32) (v5 : Int32) (v6 : Int32) (v7 : Int32) (h : mj_H) (p : Int32 × mj_H) (hf : b_X9_sifts_12  K12 v0 v1 v2 v3 v5 v6 v7 h = some p) : mj_W mX9_sifts (mj_FI p) 12 [(0, .ref v0), (1, .int v1), (2, .int v2), (3, .int v3), (5, .int v5), (6, .int v6), (7, .int v7)] [] h 0 0 := by
  unfold b_X9_sifts_12 at hf
  refine mj_blk k_X9_ok 8 1 (pc' := 14) (l' := [(0, .ref v0), (1, .int v1), (2, .int v2), (3, .int v3), (5, .int v5), (6, .int v6), (7, .int v7)]) (st' := [.int v7]) rfl ?_
  refine mj_if_lt 9 55 rfl (by decide) (fun q => ?_) (fun q => ?_)
  · have hf := (if_pos q).symm.trans hf
    refine mj_blk k_X9_ok 31 1 (pc' := 56) (l' := [(0, .ref v0), (1, .int v1), (2, .int v2), (3, .int v3), (5, .int v5), (6, .int v6), (7, .int v7)]) (st' := [.ref v0]) rfl ?_
    obtain ⟨gp9, hf⟩ := mj_gd hf
    obtain ⟨p9, ep9, hf⟩ := mj_bd hf
    refine mj_callV (T := TX9) (N := 20) (ci := 9) mX9_layDay [] 32 rfl ll_X9_234 lb_X9_layDay li_X9_layDay ⟨Nat.le_of_ble_eq_true rfl, Nat.le_of_ble_eq_true rfl⟩ rfl gp9 rfl (rest := []) rfl (Nat.le_of_ble_eq_true rfl) ⟨Nat.le_of_ble_eq_true rfl, Nat.le_of_ble_eq_true rfl⟩ (c_X9_layDay v0 h p9 ep9) ?_
    show mj_W mX9_sifts (mj_FI p) 59 [(0, .ref v0), (1, .int v1), (2, .int v2), (3, .int v3), (5, .int v5), (6, .int v6), (7, .int v7)] [] p9 0 0
    refine mj_blk k_X9_ok 33 2 (pc' := 62) (l' := [(7, .int (0 : Int32)), (0, .ref v0), (1, .int v1), (2, .int v2), (3, .int v3), (5, .int v5), (6, .int v6)]) (st' := []) rfl ?_
    refine mj_locs [1, 2, 3, 4, 6, 0] (l' := [(0, .ref v0), (1, .int v1), (2, .int v2), (3, .int v3), (6, .int v6), (7, .int (0 : Int32))]) rfl ?_
    exact w_X9_sifts_62 v0 v1 v2 v3 v6 (0 : Int32) p9 _ hf
  · have hf := (if_neg q).symm.trans hf
    refine mj_blk k_X9_ok 10 1 (pc' := 18) (l' := [(0, .ref v0), (1, .int v1), (2, .int v2), (3, .int v3), (5, .int v5), (6, .int v6), (7, .int v7)]) (st' := [.ref v0]) rfl ?_
    obtain ⟨x10, ex10, hf⟩ := mj_bd hf
    refine mj_get 11 rfl fl_X9_46 (mj_gR_V ex10) ?_
    refine mj_blk k_X9_ok 12 3 (pc' := 26) (l' := [(0, .ref v0), (1, .int v1), (2, .int v2), (3, .int v3), (5, .int v5), (6, .int v6), (7, .int v7)]) (st' := [.int (3 : Int32), .int v5, .int v7, .ref x10]) rfl ?_
    refine mj_irem 15 rfl (by decide) ?_
    obtain ⟨h11, eh11, hf⟩ := mj_bd hf
    refine mj_iast 16 rfl eh11 ?_
    refine mj_blk k_X9_ok 17 2 (pc' := 31) (l' := [(0, .ref v0), (1, .int v1), (2, .int v2), (3, .int v3), (5, .int v5), (6, .int v6), (7, .int v7)]) (st' := [.int (3 : Int32), .int v5]) rfl ?_
    refine mj_idiv 19 rfl (by decide) ?_
    refine mj_blk k_X9_ok 20 3 (pc' := 37) (l' := [(5, .int (v5 / (3 : Int32))), (0, .ref v0), (1, .int v1), (2, .int v2), (3, .int v3), (6, .int v6), (7, .int v7)]) (st' := [.ref v0, .int v6]) rfl ?_
    obtain ⟨x12, ex12, hf⟩ := mj_bd hf
    refine mj_get 23 rfl fl_X9_46 (mj_gR_V ex12) ?_
    refine mj_blk k_X9_ok 24 1 (pc' := 42) (l' := [(5, .int (v5 / (3 : Int32))), (0, .ref v0), (1, .int v1), (2, .int v2), (3, .int v3), (6, .int v6), (7, .int v7)]) (st' := [.int v7, .ref x12, .int v6]) rfl ?_
    obtain ⟨x13, ex13, hf⟩ := mj_bd hf
    refine mj_iald 25 rfl ex13 ?_
    obtain ⟨p14, ep14, hf⟩ := mj_bd hf
    refine mj_callS mX9_costOf [.int x13] 26 rfl ll_X9_185 lb_X9_costOf li_X9_costOf ⟨Nat.le_of_ble_eq_true rfl, Nat.le_of_ble_eq_true rfl⟩ rfl (rest := [.int v6]) rfl (Nat.le_of_ble_eq_true rfl) ⟨Nat.le_of_ble_eq_true rfl, Nat.le_of_ble_eq_true rfl⟩ (c_X9_costOf x13 h11 p14 ep14) ?_
    show mj_W mX9_sifts (mj_FI p) 46 [(5, .int (v5 / (3 : Int32))), (0, .ref v0), (1, .int v1), (2, .int v2), (3, .int v3), (6, .int v6), (7, .int v7)] [.int p14.1, .int v6] p14.2 0 0
    refine mj_blk k_X9_ok 27 4 (pc' := 12) (l' := [(7, .int (v7 + (-1 : Int32))), (6, .int (v6 + p14.1)), (5, .int (v5 / (3 : Int32))), (0, .ref v0), (1, .int v1), (2, .int v2), (3, .int v3)]) (st' := []) rfl ?_
    refine mj_locs [3, 4, 5, 6, 2, 1, 0] (l' := [(0, .ref v0), (1, .int v1), (2, .int v2), (3, .int v3), (5, .int (v5 / (3 : Int32))), (6, .int (v6 + p14.1)), (7, .int (v7 + (-1 : Int32)))]) rfl ?_
    exact hK12 v0 v1 v2 v3 (v5 / (3 : Int32)) (v6 + p14.1) (v7 + (-1 : Int32)) p14.2 _ hf
def f_X9_sifts_12 (v0 : Nat) (v1 : Int32) (v2 : Int32) (v3 : Int32) (v5 : Int32) (v6 : Int32) (v7 : Int32) (h : mj_H) : Option (Int32 × mj_H) := mj_fix (fun (K12 : (Nat × Int32 × Int32 × Int32 × Int32 × Int32 × Int32 × mj_H) → Option (Int32 × mj_H)) (s : Nat × Int32 × Int32 × Int32 × Int32 × Int32 × Int32 × mj_H) => b_X9_sifts_12  (fun v0 v1 v2 v3 v5 v6 v7 h => K12 (v0, v1, v2, v3, v5, v6, v7, h)) s.1 s.2.1 s.2.2.1 s.2.2.2.1 s.2.2.2.2.1 s.2.2.2.2.2.1 s.2.2.2.2.2.2.1 s.2.2.2.2.2.2.2) 1000 (v0, v1, v2, v3, v5, v6, v7, h)
set_option maxHeartbeats 4000000 in
set_option maxRecDepth 100000 in
theorem w_X9_sifts_12 (v0 : Nat) (v1 : Int32) (v2 : Int32) (v3 : Int32) (v5 : Int32) (v6 : Int32) (v7 : Int32) (h : mj_H) (p : Int32 × mj_H) (hf : f_X9_sifts_12  v0 v1 v2 v3 v5 v6 v7 h = some p) : mj_W mX9_sifts (mj_FI p) 12 [(0, .ref v0), (1, .int v1), (2, .int v2), (3, .int v3), (5, .int v5), (6, .int v6), (7, .int v7)] [] h 0 0 := by
  unfold f_X9_sifts_12 at hf
  exact mj_fix_ind (F := (fun (K12 : (Nat × Int32 × Int32 × Int32 × Int32 × Int32 × Int32 × mj_H) → Option (Int32 × mj_H)) (s : Nat × Int32 × Int32 × Int32 × Int32 × Int32 × Int32 × mj_H) => b_X9_sifts_12  (fun v0 v1 v2 v3 v5 v6 v7 h => K12 (v0, v1, v2, v3, v5, v6, v7, h)) s.1 s.2.1 s.2.2.1 s.2.2.2.1 s.2.2.2.2.1 s.2.2.2.2.2.1 s.2.2.2.2.2.2.1 s.2.2.2.2.2.2.2)) (P := fun s p => mj_W mX9_sifts (mj_FI p) 12 [(0, .ref s.1), (1, .int s.2.1), (2, .int s.2.2.1), (3, .int s.2.2.2.1), (5, .int s.2.2.2.2.1), (6, .int s.2.2.2.2.2.1), (7, .int s.2.2.2.2.2.2.1)] [] s.2.2.2.2.2.2.2 0 0) (fun K12 hK12 s p hf => wb_X9_sifts_12   (fun v0 v1 v2 v3 v5 v6 v7 h => K12 (v0, v1, v2, v3, v5, v6, v7, h)) (fun v0 v1 v2 v3 v5 v6 v7 h p e => hK12 (v0, v1, v2, v3, v5, v6, v7, h) p e) s.1 s.2.1 s.2.2.1 s.2.2.2.1 s.2.2.2.2.1 s.2.2.2.2.2.1 s.2.2.2.2.2.2.1 s.2.2.2.2.2.2.2 p hf) 1000 (v0, v1, v2, v3, v5, v6, v7, h) p hf
def f_X9_sifts (v0 : Nat) (v1 : Int32) (v2 : Int32) (v3 : Int32) (v4 : Int32) (h : mj_H) : Option (Int32 × mj_H) := f_X9_sifts_12 v0 v1 v2 v3 v4 (0 : Int32) (v3 - (1 : Int32)) h
set_option maxHeartbeats 4000000 in
set_option maxRecDepth 100000 in
theorem c_X9_sifts (v0 : Nat) (v1 : Int32) (v2 : Int32) (v3 : Int32) (v4 : Int32) (h : mj_H) (p : Int32 × mj_H) (hf : f_X9_sifts v0 v1 v2 v3 v4 h = some p) : mj_Met mX9_sifts [.ref v0, .int v1, .int v2, .int v3, .int v4] h (some (.int p.1)) p.2 := by
  refine mj_met pl_X9 tok_X9_sifts (Nat.le_of_ble_eq_true rfl) ?_
  show mj_W mX9_sifts (mj_FI p) 0 [(0, .ref v0), (1, .int v1), (2, .int v2), (3, .int v3), (4, .int v4)] [] h 0 0
  unfold f_X9_sifts at hf
  refine mj_blk k_X9_ok 0 8 (pc' := 12) (l' := [(7, .int (v3 - (1 : Int32))), (6, .int (0 : Int32)), (5, .int v4), (0, .ref v0), (1, .int v1), (2, .int v2), (3, .int v3), (4, .int v4)]) (st' := []) rfl ?_
  refine mj_locs [3, 4, 5, 6, 2, 1, 0] (l' := [(0, .ref v0), (1, .int v1), (2, .int v2), (3, .int v3), (5, .int v4), (6, .int (0 : Int32)), (7, .int (v3 - (1 : Int32)))]) rfl ?_
  exact w_X9_sifts_12 v0 v1 v2 v3 v4 (0 : Int32) (v3 - (1 : Int32)) h _ hf
def b_X9_sift_47 (K38 : Nat → Int32 → Int32 → Int32 → Int32 → Int32 → mj_H → Option (Int32 × mj_H)) (K47 : Nat → Int32 → Int32 → Int32 → Int32 → Int32 → Int32 → mj_H → Option (Int32 × mj_H)) (v0 : Nat) (v1 : Int32) (v2 : Int32) (v3 : Int32) (v4 : Int32) (v5 : Int32) (v6 : Int32) (h : mj_H) : Option (Int32 × mj_H) := (if v4 ≤ v6 then K38 v0 v1 v2 v3 (v4 * (3 : Int32)) (v5 + (1 : Int32)) h else (if mj_ob h v0 9 = true then (f_X9_sifts v0 v1 v2 v5 v6 h).bind fun p1 => (if p1.1 = 0 then K47 v0 v1 v2 v3 v4 v5 (v6 + (1 : Int32)) p1.2 else (if v3 = (-1 : Int32) then some (v5, p1.2) else (if v5 ≤ v3 then some ((-5 : Int32), p1.2) else (mj_gR p1.2 v0 9 19).bind fun x2 => (mj_aI p1.2 x2 v3).bind fun x3 => some (x3, p1.2)))) else none))
set_option maxHeartbeats 4000000 in
set_option maxRecDepth 100000 in
theorem wb_X9_sift_47 (K38 : Nat → Int32 → Int32 → Int32 → Int32 → Int32 → mj_H → Option (Int32 × mj_H)) (hK38 : ∀ (v0 : Nat) (v1 : Int32) (v2 : Int32) (v3 : Int32) (v4 : Int32) (v5 : Int32)  (h : mj_H) (p : Int32 × mj_H), K38 v0 v1 v2 v3 v4 v5 h = some p → mj_W mX9_sift (mj_FI p) 38 [(0, .ref v0), (1, .int v1), (2, .int v2), (3, .int v3), (4, .int v4), (5, .int v5)] [] h 0 0) (K47 : Nat → Int32 → Int32 → Int32 → Int32 → Int32 → Int32 → mj_H → Option (Int32 × mj_H)) (hK47 : ∀ (v0 : Nat) (v1 : Int32) (v2 : Int32) (v3 : Int32) (v4 : Int32) (v5 : Int32) (v6 : Int32)  (h : mj_H) (p : Int32 × mj_H), K47 v0 v1 v2 v3 v4 v5 v6 h = some p → mj_W mX9_sift (mj_FI p) 47 [(0, .ref v0), (1, .int v1), (2, .int v2), (3, .int v3), (4, .int v4), (5, .int v5), (6, .int v6)] [] h 0 0) (v0 : Nat) (v1 : Int32) (v2 : Int32) (v3 : Int32) (v4 : Int32) (v5 : Int32) (v6 : Int32) (h : mj_H) (p : Int32 × mj_H) (hf : b_X9_sift_47 K38 K47 v0 v1 v2 v3 v4 v5 v6 h = some p) : mj_W mX9_sift (mj_FI p) 47 [(0, .ref v0), (1, .int v1), (2, .int v2), (3, .int v3), (4, .int v4), (5, .int v5), (6, .int v6)] [] h 0 0 := by
  unfold b_X9_sift_47 at hf
  refine mj_blk k_X9_ok 26 2 (pc' := 51) (l' := [(0, .ref v0), (1, .int v1), (2, .int v2), (3, .int v3), (4, .int v4), (5, .int v5), (6, .int v6)]) (st' := [.int v4, .int v6]) rfl ?_
  refine mj_icmp_ge 28 101 rfl (by decide) (fun q => ?_) (fun q => ?_)
  · have hf := (if_pos q).symm.trans hf
    refine mj_blk k_X9_ok 53 6 (pc' := 38) (l' := [(5, .int (v5 + (1 : Int32))), (4, .int (v4 * (3 : Int32))), (0, .ref v0), (1, .int v1), (2, .int v2), (3, .int v3), (6, .int v6)]) (st' := []) rfl ?_
    refine mj_locs [2, 3, 4, 5, 1, 0] (l' := [(0, .ref v0), (1, .int v1), (2, .int v2), (3, .int v3), (4, .int (v4 * (3 : Int32))), (5, .int (v5 + (1 : Int32)))]) rfl ?_
    exact hK38 v0 v1 v2 v3 (v4 * (3 : Int32)) (v5 + (1 : Int32)) h _ hf
  · have hf := (if_neg q).symm.trans hf
    refine mj_blk k_X9_ok 29 5 (pc' := 61) (l' := [(0, .ref v0), (1, .int v1), (2, .int v2), (3, .int v3), (4, .int v4), (5, .int v5), (6, .int v6)]) (st' := [.int v6, .int v5, .int v2, .int v1, .ref v0]) rfl ?_
    obtain ⟨gp1, hf⟩ := mj_gd hf
    obtain ⟨p1, ep1, hf⟩ := mj_bd hf
    refine mj_callV (T := TX9) (N := 20) (ci := 9) mX9_sifts [.int v1, .int v2, .int v5, .int v6] 34 rfl ll_X9_247 lb_X9_sifts li_X9_sifts ⟨Nat.le_of_ble_eq_true rfl, Nat.le_of_ble_eq_true rfl⟩ rfl gp1 rfl (rest := []) rfl (Nat.le_of_ble_eq_true rfl) ⟨Nat.le_of_ble_eq_true rfl, Nat.le_of_ble_eq_true rfl⟩ (c_X9_sifts v0 v1 v2 v5 v6 h p1 ep1) ?_
    show mj_W mX9_sift (mj_FI p) 64 [(0, .ref v0), (1, .int v1), (2, .int v2), (3, .int v3), (4, .int v4), (5, .int v5), (6, .int v6)] [.int p1.1] p1.2 0 0
    refine mj_if_eq 35 95 rfl (by decide) (fun q => ?_) (fun q => ?_)
    · have hf := (if_pos q).symm.trans hf
      refine mj_blk k_X9_ok 51 2 (pc' := 47) (l' := [(6, .int (v6 + (1 : Int32))), (0, .ref v0), (1, .int v1), (2, .int v2), (3, .int v3), (4, .int v4), (5, .int v5)]) (st' := []) rfl ?_
      refine mj_locs [1, 2, 3, 4, 5, 6, 0] (l' := [(0, .ref v0), (1, .int v1), (2, .int v2), (3, .int v3), (4, .int v4), (5, .int v5), (6, .int (v6 + (1 : Int32)))]) rfl ?_
      exact hK47 v0 v1 v2 v3 v4 v5 (v6 + (1 : Int32)) p1.2 _ hf
    · have hf := (if_neg q).symm.trans hf
      refine mj_blk k_X9_ok 36 2 (pc' := 69) (l' := [(0, .ref v0), (1, .int v1), (2, .int v2), (3, .int v3), (4, .int v4), (5, .int v5), (6, .int v6)]) (st' := [.int (-1 : Int32), .int v3]) rfl ?_
      refine mj_icmp_ne 38 77 rfl (by decide) (fun q => ?_) (fun q => ?_)
      · have hf := (if_neg q).symm.trans hf
        refine mj_blk k_X9_ok 41 2 (pc' := 80) (l' := [(0, .ref v0), (1, .int v1), (2, .int v2), (3, .int v3), (4, .int v4), (5, .int v5), (6, .int v6)]) (st' := [.int v5, .int v3]) rfl ?_
        refine mj_icmp_ge 43 92 rfl (by decide) (fun q => ?_) (fun q => ?_)
        · have hf := (if_pos q).symm.trans hf
          refine mj_blk k_X9_ok 49 1 (pc' := 94) (l' := [(0, .ref v0), (1, .int v1), (2, .int v2), (3, .int v3), (4, .int v4), (5, .int v5), (6, .int v6)]) (st' := [.int (-5 : Int32)]) rfl ?_
          obtain rfl := Option.some.inj hf
          exact mj_end (some (.int (-5 : Int32))) ⟨mj_dec tok_X9_sift (a := 50) rfl, .int, rfl, rfl⟩ ⟨rfl, rfl⟩ (Nat.le_of_ble_eq_true rfl) (Nat.le_of_ble_eq_true rfl)
        · have hf := (if_neg q).symm.trans hf
          refine mj_blk k_X9_ok 44 1 (pc' := 84) (l' := [(0, .ref v0), (1, .int v1), (2, .int v2), (3, .int v3), (4, .int v4), (5, .int v5), (6, .int v6)]) (st' := [.ref v0]) rfl ?_
          obtain ⟨x2, ex2, hf⟩ := mj_bd hf
          refine mj_get 45 rfl fl_X9_46 (mj_gR_V ex2) ?_
          refine mj_blk k_X9_ok 46 1 (pc' := 88) (l' := [(0, .ref v0), (1, .int v1), (2, .int v2), (3, .int v3), (4, .int v4), (5, .int v5), (6, .int v6)]) (st' := [.int v3, .ref x2]) rfl ?_
          obtain ⟨x3, ex3, hf⟩ := mj_bd hf
          refine mj_iald 47 rfl ex3 ?_
          refine mj_blk k_X9_ok 48 1 (pc' := 94) (l' := [(0, .ref v0), (1, .int v1), (2, .int v2), (3, .int v3), (4, .int v4), (5, .int v5), (6, .int v6)]) (st' := [.int x3]) rfl ?_
          obtain rfl := Option.some.inj hf
          exact mj_end (some (.int x3)) ⟨mj_dec tok_X9_sift (a := 50) rfl, .int, rfl, rfl⟩ ⟨rfl, rfl⟩ (Nat.le_of_ble_eq_true rfl) (Nat.le_of_ble_eq_true rfl)
      · have hf := (if_pos q).symm.trans hf
        refine mj_blk k_X9_ok 39 2 (pc' := 94) (l' := [(0, .ref v0), (1, .int v1), (2, .int v2), (3, .int v3), (4, .int v4), (5, .int v5), (6, .int v6)]) (st' := [.int v5]) rfl ?_
        obtain rfl := Option.some.inj hf
        exact mj_end (some (.int v5)) ⟨mj_dec tok_X9_sift (a := 50) rfl, .int, rfl, rfl⟩ ⟨rfl, rfl⟩ (Nat.le_of_ble_eq_true rfl) (Nat.le_of_ble_eq_true rfl)
def f_X9_sift_47 (K38 : Nat → Int32 → Int32 → Int32 → Int32 → Int32 → mj_H → Option (Int32 × mj_H)) (v0 : Nat) (v1 : Int32) (v2 : Int32) (v3 : Int32) (v4 : Int32) (v5 : Int32) (v6 : Int32) (h : mj_H) : Option (Int32 × mj_H) := mj_fix (fun (K47 : (Nat × Int32 × Int32 × Int32 × Int32 × Int32 × Int32 × mj_H) → Option (Int32 × mj_H)) (s : Nat × Int32 × Int32 × Int32 × Int32 × Int32 × Int32 × mj_H) => b_X9_sift_47 K38 (fun v0 v1 v2 v3 v4 v5 v6 h => K47 (v0, v1, v2, v3, v4, v5, v6, h)) s.1 s.2.1 s.2.2.1 s.2.2.2.1 s.2.2.2.2.1 s.2.2.2.2.2.1 s.2.2.2.2.2.2.1 s.2.2.2.2.2.2.2) 1000 (v0, v1, v2, v3, v4, v5, v6, h)
set_option maxHeartbeats 4000000 in
set_option maxRecDepth 100000 in
theorem w_X9_sift_47 (K38 : Nat → Int32 → Int32 → Int32 → Int32 → Int32 → mj_H → Option (Int32 × mj_H)) (hK38 : ∀ (v0 : Nat) (v1 : Int32) (v2 : Int32) (v3 : Int32) (v4 : Int32) (v5 : Int32)  (h : mj_H) (p : Int32 × mj_H), K38 v0 v1 v2 v3 v4 v5 h = some p → mj_W mX9_sift (mj_FI p) 38 [(0, .ref v0), (1, .int v1), (2, .int v2), (3, .int v3), (4, .int v4), (5, .int v5)] [] h 0 0) (v0 : Nat) (v1 : Int32) (v2 : Int32) (v3 : Int32) (v4 : Int32) (v5 : Int32) (v6 : Int32) (h : mj_H) (p : Int32 × mj_H) (hf : f_X9_sift_47 K38 v0 v1 v2 v3 v4 v5 v6 h = some p) : mj_W mX9_sift (mj_FI p) 47 [(0, .ref v0), (1, .int v1), (2, .int v2), (3, .int v3), (4, .int v4), (5, .int v5), (6, .int v6)] [] h 0 0 := by
  unfold f_X9_sift_47 at hf
  exact mj_fix_ind (F := (fun (K47 : (Nat × Int32 × Int32 × Int32 × Int32 × Int32 × Int32 × mj_H) → Option (Int32 × mj_H)) (s : Nat × Int32 × Int32 × Int32 × Int32 × Int32 × Int32 × mj_H) => b_X9_sift_47 K38 (fun v0 v1 v2 v3 v4 v5 v6 h => K47 (v0, v1, v2, v3, v4, v5, v6, h)) s.1 s.2.1 s.2.2.1 s.2.2.2.1 s.2.2.2.2.1 s.2.2.2.2.2.1 s.2.2.2.2.2.2.1 s.2.2.2.2.2.2.2)) (P := fun s p => mj_W mX9_sift (mj_FI p) 47 [(0, .ref s.1), (1, .int s.2.1), (2, .int s.2.2.1), (3, .int s.2.2.2.1), (4, .int s.2.2.2.2.1), (5, .int s.2.2.2.2.2.1), (6, .int s.2.2.2.2.2.2.1)] [] s.2.2.2.2.2.2.2 0 0) (fun K47 hK47 s p hf => wb_X9_sift_47 K38 hK38 (fun v0 v1 v2 v3 v4 v5 v6 h => K47 (v0, v1, v2, v3, v4, v5, v6, h)) (fun v0 v1 v2 v3 v4 v5 v6 h p e => hK47 (v0, v1, v2, v3, v4, v5, v6, h) p e) s.1 s.2.1 s.2.2.1 s.2.2.2.1 s.2.2.2.2.1 s.2.2.2.2.2.1 s.2.2.2.2.2.2.1 s.2.2.2.2.2.2.2 p hf) 1000 (v0, v1, v2, v3, v4, v5, v6, h) p hf
def b_X9_sift_38 (K38 : Nat → Int32 → Int32 → Int32 → Int32 → Int32 → mj_H → Option (Int32 × mj_H)) (v0 : Nat) (v1 : Int32) (v2 : Int32) (v3 : Int32) (v4 : Int32) (v5 : Int32) (h : mj_H) : Option (Int32 × mj_H) := (if (4 : Int32) ≤ v5 then some ((-1 : Int32), h) else f_X9_sift_47 K38 v0 v1 v2 v3 v4 v5 (0 : Int32) h)
set_option maxHeartbeats 4000000 in
set_option maxRecDepth 100000 in
theorem wb_X9_sift_38 (K38 : Nat → Int32 → Int32 → Int32 → Int32 → Int32 → mj_H → Option (Int32 × mj_H)) (hK38 : ∀ (v0 : Nat) (v1 : Int32) (v2 : Int32) (v3 : Int32) (v4 : Int32) (v5 : Int32)  (h : mj_H) (p : Int32 × mj_H), K38 v0 v1 v2 v3 v4 v5 h = some p → mj_W mX9_sift (mj_FI p) 38 [(0, .ref v0), (1, .int v1), (2, .int v2), (3, .int v3), (4, .int v4), (5, .int v5)] [] h 0 0) (v0 : Nat) (v1 : Int32) (v2 : Int32) (v3 : Int32) (v4 : Int32) (v5 : Int32) (h : mj_H) (p : Int32 × mj_H) (hf : b_X9_sift_38  K38 v0 v1 v2 v3 v4 v5 h = some p) : mj_W mX9_sift (mj_FI p) 38 [(0, .ref v0), (1, .int v1), (2, .int v2), (3, .int v3), (4, .int v4), (5, .int v5)] [] h 0 0 := by
  unfold b_X9_sift_38 at hf
  refine mj_blk k_X9_ok 21 2 (pc' := 41) (l' := [(0, .ref v0), (1, .int v1), (2, .int v2), (3, .int v3), (4, .int v4), (5, .int v5)]) (st' := [.int (4 : Int32), .int v5]) rfl ?_
  refine mj_icmp_ge 23 113 rfl (by decide) (fun q => ?_) (fun q => ?_)
  · have hf := (if_pos q).symm.trans hf
    refine mj_blk k_X9_ok 59 1 (pc' := 114) (l' := [(0, .ref v0), (1, .int v1), (2, .int v2), (3, .int v3), (4, .int v4), (5, .int v5)]) (st' := [.int (-1 : Int32)]) rfl ?_
    obtain rfl := Option.some.inj hf
    exact mj_end (some (.int (-1 : Int32))) ⟨mj_dec tok_X9_sift (a := 60) rfl, .int, rfl, rfl⟩ ⟨rfl, rfl⟩ (Nat.le_of_ble_eq_true rfl) (Nat.le_of_ble_eq_true rfl)
  · have hf := (if_neg q).symm.trans hf
    refine mj_blk k_X9_ok 24 2 (pc' := 47) (l' := [(6, .int (0 : Int32)), (0, .ref v0), (1, .int v1), (2, .int v2), (3, .int v3), (4, .int v4), (5, .int v5)]) (st' := []) rfl ?_
    refine mj_locs [1, 2, 3, 4, 5, 6, 0] (l' := [(0, .ref v0), (1, .int v1), (2, .int v2), (3, .int v3), (4, .int v4), (5, .int v5), (6, .int (0 : Int32))]) rfl ?_
    exact w_X9_sift_47 K38 hK38 v0 v1 v2 v3 v4 v5 (0 : Int32) h _ hf
def f_X9_sift_38 (v0 : Nat) (v1 : Int32) (v2 : Int32) (v3 : Int32) (v4 : Int32) (v5 : Int32) (h : mj_H) : Option (Int32 × mj_H) := mj_fix (fun (K38 : (Nat × Int32 × Int32 × Int32 × Int32 × Int32 × mj_H) → Option (Int32 × mj_H)) (s : Nat × Int32 × Int32 × Int32 × Int32 × Int32 × mj_H) => b_X9_sift_38  (fun v0 v1 v2 v3 v4 v5 h => K38 (v0, v1, v2, v3, v4, v5, h)) s.1 s.2.1 s.2.2.1 s.2.2.2.1 s.2.2.2.2.1 s.2.2.2.2.2.1 s.2.2.2.2.2.2) 1000 (v0, v1, v2, v3, v4, v5, h)
set_option maxHeartbeats 4000000 in
set_option maxRecDepth 100000 in
theorem w_X9_sift_38 (v0 : Nat) (v1 : Int32) (v2 : Int32) (v3 : Int32) (v4 : Int32) (v5 : Int32) (h : mj_H) (p : Int32 × mj_H) (hf : f_X9_sift_38  v0 v1 v2 v3 v4 v5 h = some p) : mj_W mX9_sift (mj_FI p) 38 [(0, .ref v0), (1, .int v1), (2, .int v2), (3, .int v3), (4, .int v4), (5, .int v5)] [] h 0 0 := by
  unfold f_X9_sift_38 at hf
  exact mj_fix_ind (F := (fun (K38 : (Nat × Int32 × Int32 × Int32 × Int32 × Int32 × mj_H) → Option (Int32 × mj_H)) (s : Nat × Int32 × Int32 × Int32 × Int32 × Int32 × mj_H) => b_X9_sift_38  (fun v0 v1 v2 v3 v4 v5 h => K38 (v0, v1, v2, v3, v4, v5, h)) s.1 s.2.1 s.2.2.1 s.2.2.2.1 s.2.2.2.2.1 s.2.2.2.2.2.1 s.2.2.2.2.2.2)) (P := fun s p => mj_W mX9_sift (mj_FI p) 38 [(0, .ref s.1), (1, .int s.2.1), (2, .int s.2.2.1), (3, .int s.2.2.2.1), (4, .int s.2.2.2.2.1), (5, .int s.2.2.2.2.2.1)] [] s.2.2.2.2.2.2 0 0) (fun K38 hK38 s p hf => wb_X9_sift_38   (fun v0 v1 v2 v3 v4 v5 h => K38 (v0, v1, v2, v3, v4, v5, h)) (fun v0 v1 v2 v3 v4 v5 h p e => hK38 (v0, v1, v2, v3, v4, v5, h) p e) s.1 s.2.1 s.2.2.1 s.2.2.2.1 s.2.2.2.2.1 s.2.2.2.2.2.1 s.2.2.2.2.2.2 p hf) 1000 (v0, v1, v2, v3, v4, v5, h) p hf
def f_X9_sift_25 (v0 : Nat) (h : mj_H) : Option (Int32 × mj_H) := (if mj_ob h v0 9 = true then (f_X9_bad v0 (-10 : Int32) h).bind fun p4 => some (p4.1, p4.2) else none)
set_option maxHeartbeats 4000000 in
set_option maxRecDepth 100000 in
theorem w_X9_sift_25 (v0 : Nat) (h : mj_H) (p : Int32 × mj_H) (hf : f_X9_sift_25  v0 h = some p) : mj_W mX9_sift (mj_FI p) 25 [(0, .ref v0)] [] h 0 0 := by
  unfold f_X9_sift_25 at hf
  refine mj_blk k_X9_ok 13 2 (pc' := 28) (l' := [(0, .ref v0)]) (st' := [.int (-10 : Int32), .ref v0]) rfl ?_
  obtain ⟨gp4, hf⟩ := mj_gd hf
  obtain ⟨p4, ep4, hf⟩ := mj_bd hf
  refine mj_callV (T := TX9) (N := 20) (ci := 9) mX9_bad [.int (-10 : Int32)] 15 rfl ll_X9_75 lb_X9_bad li_X9_bad ⟨Nat.le_of_ble_eq_true rfl, Nat.le_of_ble_eq_true rfl⟩ rfl gp4 rfl (rest := []) rfl (Nat.le_of_ble_eq_true rfl) ⟨Nat.le_of_ble_eq_true rfl, Nat.le_of_ble_eq_true rfl⟩ (c_X9_bad v0 (-10 : Int32) h p4 ep4) ?_
  show mj_W mX9_sift (mj_FI p) 31 [(0, .ref v0)] [.int p4.1] p4.2 0 0
  obtain rfl := Option.some.inj hf
  exact mj_end (some (.int p4.1)) ⟨mj_dec tok_X9_sift (a := 16) rfl, .int, rfl, rfl⟩ ⟨rfl, rfl⟩ (Nat.le_of_ble_eq_true rfl) (Nat.le_of_ble_eq_true rfl)
def f_X9_sift (v0 : Nat) (v1 : Int32) (v2 : Int32) (v3 : Int32) (h : mj_H) : Option (Int32 × mj_H) := (if mj_ob h v0 9 = true then (f_X9_isMan v0 v1 h).bind fun p5 => (if p5.1 = 0 then f_X9_sift_25 v0 p5.2 else (f_X9_in ((v2).toInt64) (0 : Int64) (60 : Int64) p5.2).bind fun p6 => (if p6.1 = 0 then f_X9_sift_25 v0 p6.2 else (if (-1 : Int32) ≤ v3 then f_X9_sift_38 v0 v1 v2 v3 (1 : Int32) (0 : Int32) p6.2 else f_X9_sift_25 v0 p6.2))) else none)
set_option maxHeartbeats 4000000 in
set_option maxRecDepth 100000 in
theorem c_X9_sift (v0 : Nat) (v1 : Int32) (v2 : Int32) (v3 : Int32) (h : mj_H) (p : Int32 × mj_H) (hf : f_X9_sift v0 v1 v2 v3 h = some p) : mj_Met mX9_sift [.ref v0, .int v1, .int v2, .int v3] h (some (.int p.1)) p.2 := by
  refine mj_met pl_X9 tok_X9_sift (Nat.le_of_ble_eq_true rfl) ?_
  show mj_W mX9_sift (mj_FI p) 0 [(0, .ref v0), (1, .int v1), (2, .int v2), (3, .int v3)] [] h 0 0
  unfold f_X9_sift at hf
  refine mj_blk k_X9_ok 0 2 (pc' := 2) (l' := [(0, .ref v0), (1, .int v1), (2, .int v2), (3, .int v3)]) (st' := [.int v1, .ref v0]) rfl ?_
  obtain ⟨gp5, hf⟩ := mj_gd hf
  obtain ⟨p5, ep5, hf⟩ := mj_bd hf
  refine mj_callV (T := TX9) (N := 20) (ci := 9) mX9_isMan [.int v1] 2 rfl ll_X9_63 lb_X9_isMan li_X9_isMan ⟨Nat.le_of_ble_eq_true rfl, Nat.le_of_ble_eq_true rfl⟩ rfl gp5 rfl (rest := []) rfl (Nat.le_of_ble_eq_true rfl) ⟨Nat.le_of_ble_eq_true rfl, Nat.le_of_ble_eq_true rfl⟩ (c_X9_isMan v0 v1 h p5 ep5) ?_
  show mj_W mX9_sift (mj_FI p) 5 [(0, .ref v0), (1, .int v1), (2, .int v2), (3, .int v3)] [.int p5.1] p5.2 0 0
  refine mj_if_eq 3 25 rfl (by decide) (fun q => ?_) (fun q => ?_)
  · have hf := (if_pos q).symm.trans hf
    refine mj_locs [0] (l' := [(0, .ref v0)]) rfl ?_
    exact w_X9_sift_25 v0 p5.2 _ hf
  · have hf := (if_neg q).symm.trans hf
    refine mj_blk k_X9_ok 4 4 (pc' := 14) (l' := [(0, .ref v0), (1, .int v1), (2, .int v2), (3, .int v3)]) (st' := [.long (60 : Int64), .long (0 : Int64), .long ((v2).toInt64)]) rfl ?_
    obtain ⟨p6, ep6, hf⟩ := mj_bd hf
    refine mj_callS mX9_in [.long ((v2).toInt64), .long (0 : Int64), .long (60 : Int64)] 8 rfl ll_X9_53 lb_X9_in li_X9_in ⟨Nat.le_of_ble_eq_true rfl, Nat.le_of_ble_eq_true rfl⟩ rfl (rest := []) rfl (Nat.le_of_ble_eq_true rfl) ⟨Nat.le_of_ble_eq_true rfl, Nat.le_of_ble_eq_true rfl⟩ (c_X9_in ((v2).toInt64) (0 : Int64) (60 : Int64) p5.2 p6 ep6) ?_
    show mj_W mX9_sift (mj_FI p) 17 [(0, .ref v0), (1, .int v1), (2, .int v2), (3, .int v3)] [.int p6.1] p6.2 0 0
    refine mj_if_eq 9 25 rfl (by decide) (fun q => ?_) (fun q => ?_)
    · have hf := (if_pos q).symm.trans hf
      refine mj_locs [0] (l' := [(0, .ref v0)]) rfl ?_
      exact w_X9_sift_25 v0 p6.2 _ hf
    · have hf := (if_neg q).symm.trans hf
      refine mj_blk k_X9_ok 10 2 (pc' := 22) (l' := [(0, .ref v0), (1, .int v1), (2, .int v2), (3, .int v3)]) (st' := [.int (-1 : Int32), .int v3]) rfl ?_
      refine mj_icmp_ge 12 32 rfl (by decide) (fun q => ?_) (fun q => ?_)
      · have hf := (if_pos q).symm.trans hf
        refine mj_blk k_X9_ok 17 4 (pc' := 38) (l' := [(5, .int (0 : Int32)), (4, .int (1 : Int32)), (0, .ref v0), (1, .int v1), (2, .int v2), (3, .int v3)]) (st' := []) rfl ?_
        refine mj_locs [2, 3, 4, 5, 1, 0] (l' := [(0, .ref v0), (1, .int v1), (2, .int v2), (3, .int v3), (4, .int (1 : Int32)), (5, .int (0 : Int32))]) rfl ?_
        exact w_X9_sift_38 v0 v1 v2 v3 (1 : Int32) (0 : Int32) p6.2 _ hf
      · have hf := (if_neg q).symm.trans hf
        refine mj_locs [0] (l' := [(0, .ref v0)]) rfl ?_
        exact w_X9_sift_25 v0 p6.2 _ hf
def f_X9_runs_54 (K23 : Nat → Int32 → Int32 → mj_H → Option (Int32 × mj_H)) (v0 : Nat) (v3 : Int32) (s0 : Int32) (s1 : Int32) (h : mj_H) : Option (Int32 × mj_H) := (mj_gR h v0 9 18).bind fun x1 => (f_X9_tests x1 v3 (0 : Int32) (1 : Int32) h).bind fun p2 => K23 v0 (s0 ||| s1) (v3 + (1 : Int32)) p2
set_option maxHeartbeats 4000000 in
set_option maxRecDepth 100000 in
theorem w_X9_runs_54 (K23 : Nat → Int32 → Int32 → mj_H → Option (Int32 × mj_H)) (hK23 : ∀ (v0 : Nat) (v2 : Int32) (v3 : Int32)  (h : mj_H) (p : Int32 × mj_H), K23 v0 v2 v3 h = some p → mj_W mX9_runs (mj_FI p) 23 [(0, .ref v0), (2, .int v2), (3, .int v3)] [] h 0 0) (v0 : Nat) (v3 : Int32) (s0 : Int32) (s1 : Int32) (h : mj_H) (p : Int32 × mj_H) (hf : f_X9_runs_54 K23 v0 v3 s0 s1 h = some p) : mj_W mX9_runs (mj_FI p) 54 [(0, .ref v0), (3, .int v3)] [.int s1, .int s0] h 0 0 := by
  unfold f_X9_runs_54 at hf
  refine mj_blk k_X9_ok 33 3 (pc' := 57) (l' := [(2, .int (s0 ||| s1)), (0, .ref v0), (3, .int v3)]) (st' := [.ref v0]) rfl ?_
  obtain ⟨x1, ex1, hf⟩ := mj_bd hf
  refine mj_get 36 rfl fl_X9_43 (mj_gR_V ex1) ?_
  refine mj_blk k_X9_ok 37 3 (pc' := 63) (l' := [(2, .int (s0 ||| s1)), (0, .ref v0), (3, .int v3)]) (st' := [.int (1 : Int32), .int (0 : Int32), .int v3, .ref x1]) rfl ?_
  obtain ⟨p2, ep2, hf⟩ := mj_bd hf
  refine mj_callS mX9_tests [.ref x1, .int v3, .int (0 : Int32), .int (1 : Int32)] 40 rfl ll_X9_197 lb_X9_tests li_X9_tests ⟨Nat.le_of_ble_eq_true rfl, Nat.le_of_ble_eq_true rfl⟩ rfl (rest := []) rfl (Nat.le_of_ble_eq_true rfl) ⟨Nat.le_of_ble_eq_true rfl, Nat.le_of_ble_eq_true rfl⟩ (c_X9_tests x1 v3 (0 : Int32) (1 : Int32) h p2 ep2) ?_
  show mj_W mX9_runs (mj_FI p) 66 [(2, .int (s0 ||| s1)), (0, .ref v0), (3, .int v3)] [] p2 0 0
  refine mj_blk k_X9_ok 41 2 (pc' := 23) (l' := [(3, .int (v3 + (1 : Int32))), (2, .int (s0 ||| s1)), (0, .ref v0)]) (st' := []) rfl ?_
  refine mj_locs [2, 1, 0] (l' := [(0, .ref v0), (2, .int (s0 ||| s1)), (3, .int (v3 + (1 : Int32)))]) rfl ?_
  exact hK23 v0 (s0 ||| s1) (v3 + (1 : Int32)) p2 _ hf
def b_X9_runs_23 (K23 : Nat → Int32 → Int32 → mj_H → Option (Int32 × mj_H)) (v0 : Nat) (v2 : Int32) (v3 : Int32) (h : mj_H) : Option (Int32 × mj_H) := (mj_gR h v0 9 18).bind fun x3 => (mj_aI h x3 (0 : Int32)).bind fun x4 => (if x4 ≤ v3 then some (v2, h) else (mj_gR h v0 9 18).bind fun x5 => (mj_aI h x5 (2 : Int32)).bind fun x6 => (f_X9_has x6 v3 h).bind fun p7 => (if p7.1 = 0 then f_X9_runs_54 K23 v0 v3 v2 (0 : Int32) p7.2 else f_X9_runs_54 K23 v0 v3 v2 ((1 : Int32) <<< (v3 &&& 31)) p7.2))
set_option maxHeartbeats 4000000 in
set_option maxRecDepth 100000 in
theorem wb_X9_runs_23 (K23 : Nat → Int32 → Int32 → mj_H → Option (Int32 × mj_H)) (hK23 : ∀ (v0 : Nat) (v2 : Int32) (v3 : Int32)  (h : mj_H) (p : Int32 × mj_H), K23 v0 v2 v3 h = some p → mj_W mX9_runs (mj_FI p) 23 [(0, .ref v0), (2, .int v2), (3, .int v3)] [] h 0 0) (v0 : Nat) (v2 : Int32) (v3 : Int32) (h : mj_H) (p : Int32 × mj_H) (hf : b_X9_runs_23  K23 v0 v2 v3 h = some p) : mj_W mX9_runs (mj_FI p) 23 [(0, .ref v0), (2, .int v2), (3, .int v3)] [] h 0 0 := by
  unfold b_X9_runs_23 at hf
  refine mj_blk k_X9_ok 14 2 (pc' := 25) (l' := [(0, .ref v0), (2, .int v2), (3, .int v3)]) (st' := [.ref v0, .int v3]) rfl ?_
  obtain ⟨x3, ex3, hf⟩ := mj_bd hf
  refine mj_get 16 rfl fl_X9_43 (mj_gR_V ex3) ?_
  refine mj_blk k_X9_ok 17 1 (pc' := 29) (l' := [(0, .ref v0), (2, .int v2), (3, .int v3)]) (st' := [.int (0 : Int32), .ref x3, .int v3]) rfl ?_
  obtain ⟨x4, ex4, hf⟩ := mj_bd hf
  refine mj_iald 18 rfl ex4 ?_
  refine mj_icmp_ge 19 72 rfl (by decide) (fun q => ?_) (fun q => ?_)
  · have hf := (if_pos q).symm.trans hf
    refine mj_blk k_X9_ok 43 1 (pc' := 73) (l' := [(0, .ref v0), (2, .int v2), (3, .int v3)]) (st' := [.int v2]) rfl ?_
    obtain rfl := Option.some.inj hf
    exact mj_end (some (.int v2)) ⟨mj_dec tok_X9_runs (a := 44) rfl, .int, rfl, rfl⟩ ⟨rfl, rfl⟩ (Nat.le_of_ble_eq_true rfl) (Nat.le_of_ble_eq_true rfl)
  · have hf := (if_neg q).symm.trans hf
    refine mj_blk k_X9_ok 20 2 (pc' := 35) (l' := [(0, .ref v0), (2, .int v2), (3, .int v3)]) (st' := [.ref v0, .int v2]) rfl ?_
    obtain ⟨x5, ex5, hf⟩ := mj_bd hf
    refine mj_get 22 rfl fl_X9_43 (mj_gR_V ex5) ?_
    refine mj_blk k_X9_ok 23 1 (pc' := 39) (l' := [(0, .ref v0), (2, .int v2), (3, .int v3)]) (st' := [.int (2 : Int32), .ref x5, .int v2]) rfl ?_
    obtain ⟨x6, ex6, hf⟩ := mj_bd hf
    refine mj_iald 24 rfl ex6 ?_
    refine mj_blk k_X9_ok 25 1 (pc' := 41) (l' := [(0, .ref v0), (2, .int v2), (3, .int v3)]) (st' := [.int v3, .int x6, .int v2]) rfl ?_
    obtain ⟨p7, ep7, hf⟩ := mj_bd hf
    refine mj_callS mX9_has [.int x6, .int v3] 26 rfl ll_X9_69 lb_X9_has li_X9_has ⟨Nat.le_of_ble_eq_true rfl, Nat.le_of_ble_eq_true rfl⟩ rfl (rest := [.int v2]) rfl (Nat.le_of_ble_eq_true rfl) ⟨Nat.le_of_ble_eq_true rfl, Nat.le_of_ble_eq_true rfl⟩ (c_X9_has x6 v3 h p7 ep7) ?_
    show mj_W mX9_runs (mj_FI p) 44 [(0, .ref v0), (2, .int v2), (3, .int v3)] [.int p7.1, .int v2] p7.2 0 0
    refine mj_if_eq 27 53 rfl (by decide) (fun q => ?_) (fun q => ?_)
    · have hf := (if_pos q).symm.trans hf
      refine mj_blk k_X9_ok 32 1 (pc' := 54) (l' := [(0, .ref v0), (2, .int v2), (3, .int v3)]) (st' := [.int (0 : Int32), .int v2]) rfl ?_
      refine mj_locs [0, 2] (l' := [(0, .ref v0), (3, .int v3)]) rfl ?_
      exact w_X9_runs_54 K23 hK23 v0 v3 v2 (0 : Int32) p7.2 _ hf
    · have hf := (if_neg q).symm.trans hf
      refine mj_blk k_X9_ok 28 4 (pc' := 54) (l' := [(0, .ref v0), (2, .int v2), (3, .int v3)]) (st' := [.int ((1 : Int32) <<< (v3 &&& 31)), .int v2]) rfl ?_
      refine mj_locs [0, 2] (l' := [(0, .ref v0), (3, .int v3)]) rfl ?_
      exact w_X9_runs_54 K23 hK23 v0 v3 v2 ((1 : Int32) <<< (v3 &&& 31)) p7.2 _ hf
def f_X9_runs_23 (v0 : Nat) (v2 : Int32) (v3 : Int32) (h : mj_H) : Option (Int32 × mj_H) := mj_fix (fun (K23 : (Nat × Int32 × Int32 × mj_H) → Option (Int32 × mj_H)) (s : Nat × Int32 × Int32 × mj_H) => b_X9_runs_23  (fun v0 v2 v3 h => K23 (v0, v2, v3, h)) s.1 s.2.1 s.2.2.1 s.2.2.2) 1000 (v0, v2, v3, h)
set_option maxHeartbeats 4000000 in
set_option maxRecDepth 100000 in
theorem w_X9_runs_23 (v0 : Nat) (v2 : Int32) (v3 : Int32) (h : mj_H) (p : Int32 × mj_H) (hf : f_X9_runs_23  v0 v2 v3 h = some p) : mj_W mX9_runs (mj_FI p) 23 [(0, .ref v0), (2, .int v2), (3, .int v3)] [] h 0 0 := by
  unfold f_X9_runs_23 at hf
  exact mj_fix_ind (F := (fun (K23 : (Nat × Int32 × Int32 × mj_H) → Option (Int32 × mj_H)) (s : Nat × Int32 × Int32 × mj_H) => b_X9_runs_23  (fun v0 v2 v3 h => K23 (v0, v2, v3, h)) s.1 s.2.1 s.2.2.1 s.2.2.2)) (P := fun s p => mj_W mX9_runs (mj_FI p) 23 [(0, .ref s.1), (2, .int s.2.1), (3, .int s.2.2.1)] [] s.2.2.2 0 0) (fun K23 hK23 s p hf => wb_X9_runs_23   (fun v0 v2 v3 h => K23 (v0, v2, v3, h)) (fun v0 v2 v3 h p e => hK23 (v0, v2, v3, h) p e) s.1 s.2.1 s.2.2.1 s.2.2.2 p hf) 1000 (v0, v2, v3, h) p hf
def f_X9_runs (v0 : Nat) (v1 : Int32) (h : mj_H) : Option (Int32 × mj_H) := (if mj_ob h v0 9 = true then (f_X9_isMan v0 v1 h).bind fun p8 => (if p8.1 = 0 then (if mj_ob p8.2 v0 9 = true then (f_X9_bad v0 (-2 : Int32) p8.2).bind fun p10 => some (p10.1, p10.2) else none) else (if mj_ob p8.2 v0 9 = true then (f_X9_layDay v0 p8.2).bind fun p9 => f_X9_runs_23 v0 (0 : Int32) v1 p9 else none)) else none)
set_option maxHeartbeats 4000000 in
set_option maxRecDepth 100000 in
theorem c_X9_runs (v0 : Nat) (v1 : Int32) (h : mj_H) (p : Int32 × mj_H) (hf : f_X9_runs v0 v1 h = some p) : mj_Met mX9_runs [.ref v0, .int v1] h (some (.int p.1)) p.2 := by
  refine mj_met pl_X9 tok_X9_runs (Nat.le_of_ble_eq_true rfl) ?_
  show mj_W mX9_runs (mj_FI p) 0 [(0, .ref v0), (1, .int v1)] [] h 0 0
  unfold f_X9_runs at hf
  refine mj_blk k_X9_ok 0 2 (pc' := 2) (l' := [(0, .ref v0), (1, .int v1)]) (st' := [.int v1, .ref v0]) rfl ?_
  obtain ⟨gp8, hf⟩ := mj_gd hf
  obtain ⟨p8, ep8, hf⟩ := mj_bd hf
  refine mj_callV (T := TX9) (N := 20) (ci := 9) mX9_isMan [.int v1] 2 rfl ll_X9_63 lb_X9_isMan li_X9_isMan ⟨Nat.le_of_ble_eq_true rfl, Nat.le_of_ble_eq_true rfl⟩ rfl gp8 rfl (rest := []) rfl (Nat.le_of_ble_eq_true rfl) ⟨Nat.le_of_ble_eq_true rfl, Nat.le_of_ble_eq_true rfl⟩ (c_X9_isMan v0 v1 h p8 ep8) ?_
  show mj_W mX9_runs (mj_FI p) 5 [(0, .ref v0), (1, .int v1)] [.int p8.1] p8.2 0 0
  refine mj_if_ne 3 15 rfl (by decide) (fun q => ?_) (fun q => ?_)
  · have hf := (if_neg q).symm.trans hf
    refine mj_blk k_X9_ok 8 1 (pc' := 16) (l' := [(0, .ref v0), (1, .int v1)]) (st' := [.ref v0]) rfl ?_
    obtain ⟨gp9, hf⟩ := mj_gd hf
    obtain ⟨p9, ep9, hf⟩ := mj_bd hf
    refine mj_callV (T := TX9) (N := 20) (ci := 9) mX9_layDay [] 9 rfl ll_X9_234 lb_X9_layDay li_X9_layDay ⟨Nat.le_of_ble_eq_true rfl, Nat.le_of_ble_eq_true rfl⟩ rfl gp9 rfl (rest := []) rfl (Nat.le_of_ble_eq_true rfl) ⟨Nat.le_of_ble_eq_true rfl, Nat.le_of_ble_eq_true rfl⟩ (c_X9_layDay v0 p8.2 p9 ep9) ?_
    show mj_W mX9_runs (mj_FI p) 19 [(0, .ref v0), (1, .int v1)] [] p9 0 0
    refine mj_blk k_X9_ok 10 4 (pc' := 23) (l' := [(3, .int v1), (2, .int (0 : Int32)), (0, .ref v0), (1, .int v1)]) (st' := []) rfl ?_
    refine mj_locs [2, 1, 0] (l' := [(0, .ref v0), (2, .int (0 : Int32)), (3, .int v1)]) rfl ?_
    exact w_X9_runs_23 v0 (0 : Int32) v1 p9 _ hf
  · have hf := (if_pos q).symm.trans hf
    refine mj_blk k_X9_ok 4 2 (pc' := 11) (l' := [(0, .ref v0), (1, .int v1)]) (st' := [.int (-2 : Int32), .ref v0]) rfl ?_
    obtain ⟨gp10, hf⟩ := mj_gd hf
    obtain ⟨p10, ep10, hf⟩ := mj_bd hf
    refine mj_callV (T := TX9) (N := 20) (ci := 9) mX9_bad [.int (-2 : Int32)] 6 rfl ll_X9_75 lb_X9_bad li_X9_bad ⟨Nat.le_of_ble_eq_true rfl, Nat.le_of_ble_eq_true rfl⟩ rfl gp10 rfl (rest := []) rfl (Nat.le_of_ble_eq_true rfl) ⟨Nat.le_of_ble_eq_true rfl, Nat.le_of_ble_eq_true rfl⟩ (c_X9_bad v0 (-2 : Int32) p8.2 p10 ep10) ?_
    show mj_W mX9_runs (mj_FI p) 14 [(0, .ref v0), (1, .int v1)] [.int p10.1] p10.2 0 0
    obtain rfl := Option.some.inj hf
    exact mj_end (some (.int p10.1)) ⟨mj_dec tok_X9_runs (a := 7) rfl, .int, rfl, rfl⟩ ⟨rfl, rfl⟩ (Nat.le_of_ble_eq_true rfl) (Nat.le_of_ble_eq_true rfl)
def f_X9_areWell_106 (K5 : Nat → Int32 → Int32 → Int32 → Int32 → mj_H → Option (Int32 × mj_H)) (K19 : Nat → Int32 → Int32 → Int32 → Int32 → Int32 → mj_H → Option (Int32 × mj_H)) (v0 : Nat) (v1 : Int32) (v2 : Int32) (v4 : Int32) (v5 : Int32) (s0 : Int32) (h : mj_H) : Option (Int32 × mj_H) := K19 v0 v1 v2 s0 v4 (v5 + (1 : Int32)) h
set_option maxHeartbeats 4000000 in
set_option maxRecDepth 100000 in
theorem w_X9_areWell_106 (K5 : Nat → Int32 → Int32 → Int32 → Int32 → mj_H → Option (Int32 × mj_H)) (K19 : Nat → Int32 → Int32 → Int32 → Int32 → Int32 → mj_H → Option (Int32 × mj_H)) (hK5 : ∀ (v0 : Nat) (v1 : Int32) (v2 : Int32) (v3 : Int32) (v4 : Int32)  (h : mj_H) (p : Int32 × mj_H), K5 v0 v1 v2 v3 v4 h = some p → mj_W mX9_areWell (mj_FI p) 5 [(0, .ref v0), (1, .int v1), (2, .int v2), (3, .int v3), (4, .int v4)] [] h 0 0) (hK19 : ∀ (v0 : Nat) (v1 : Int32) (v2 : Int32) (v3 : Int32) (v4 : Int32) (v5 : Int32)  (h : mj_H) (p : Int32 × mj_H), K19 v0 v1 v2 v3 v4 v5 h = some p → mj_W mX9_areWell (mj_FI p) 19 [(0, .ref v0), (1, .int v1), (2, .int v2), (3, .int v3), (4, .int v4), (5, .int v5)] [] h 0 0) (v0 : Nat) (v1 : Int32) (v2 : Int32) (v4 : Int32) (v5 : Int32) (s0 : Int32) (h : mj_H) (p : Int32 × mj_H) (hf : f_X9_areWell_106 K5 K19 v0 v1 v2 v4 v5 s0 h = some p) : mj_W mX9_areWell (mj_FI p) 106 [(0, .ref v0), (1, .int v1), (2, .int v2), (4, .int v4), (5, .int v5)] [.int s0] h 0 0 := by
  unfold f_X9_areWell_106 at hf
  refine mj_blk k_X9_ok 54 3 (pc' := 19) (l' := [(5, .int (v5 + (1 : Int32))), (3, .int s0), (0, .ref v0), (1, .int v1), (2, .int v2), (4, .int v4)]) (st' := []) rfl ?_
  refine mj_locs [2, 3, 4, 1, 5, 0] (l' := [(0, .ref v0), (1, .int v1), (2, .int v2), (3, .int s0), (4, .int v4), (5, .int (v5 + (1 : Int32)))]) rfl ?_
  exact hK19 v0 v1 v2 s0 v4 (v5 + (1 : Int32)) h _ hf
def f_X9_areWell_105 (K5 : Nat → Int32 → Int32 → Int32 → Int32 → mj_H → Option (Int32 × mj_H)) (K19 : Nat → Int32 → Int32 → Int32 → Int32 → Int32 → mj_H → Option (Int32 × mj_H)) (v0 : Nat) (v1 : Int32) (v2 : Int32) (v4 : Int32) (v5 : Int32) (h : mj_H) : Option (Int32 × mj_H) := f_X9_areWell_106 K5 K19 v0 v1 v2 v4 v5 (0 : Int32) h
set_option maxHeartbeats 4000000 in
set_option maxRecDepth 100000 in
theorem w_X9_areWell_105 (K5 : Nat → Int32 → Int32 → Int32 → Int32 → mj_H → Option (Int32 × mj_H)) (K19 : Nat → Int32 → Int32 → Int32 → Int32 → Int32 → mj_H → Option (Int32 × mj_H)) (hK5 : ∀ (v0 : Nat) (v1 : Int32) (v2 : Int32) (v3 : Int32) (v4 : Int32)  (h : mj_H) (p : Int32 × mj_H), K5 v0 v1 v2 v3 v4 h = some p → mj_W mX9_areWell (mj_FI p) 5 [(0, .ref v0), (1, .int v1), (2, .int v2), (3, .int v3), (4, .int v4)] [] h 0 0) (hK19 : ∀ (v0 : Nat) (v1 : Int32) (v2 : Int32) (v3 : Int32) (v4 : Int32) (v5 : Int32)  (h : mj_H) (p : Int32 × mj_H), K19 v0 v1 v2 v3 v4 v5 h = some p → mj_W mX9_areWell (mj_FI p) 19 [(0, .ref v0), (1, .int v1), (2, .int v2), (3, .int v3), (4, .int v4), (5, .int v5)] [] h 0 0) (v0 : Nat) (v1 : Int32) (v2 : Int32) (v4 : Int32) (v5 : Int32) (h : mj_H) (p : Int32 × mj_H) (hf : f_X9_areWell_105 K5 K19 v0 v1 v2 v4 v5 h = some p) : mj_W mX9_areWell (mj_FI p) 105 [(0, .ref v0), (1, .int v1), (2, .int v2), (4, .int v4), (5, .int v5)] [] h 0 0 := by
  unfold f_X9_areWell_105 at hf
  refine mj_blk k_X9_ok 53 1 (pc' := 106) (l' := [(0, .ref v0), (1, .int v1), (2, .int v2), (4, .int v4), (5, .int v5)]) (st' := [.int (0 : Int32)]) rfl ?_
  exact w_X9_areWell_106 K5 K19 hK5 hK19 v0 v1 v2 v4 v5 (0 : Int32) h _ hf
def f_X9_areWell_101 (K5 : Nat → Int32 → Int32 → Int32 → Int32 → mj_H → Option (Int32 × mj_H)) (K19 : Nat → Int32 → Int32 → Int32 → Int32 → Int32 → mj_H → Option (Int32 × mj_H)) (v0 : Nat) (v1 : Int32) (v2 : Int32) (v4 : Int32) (v5 : Int32) (h : mj_H) : Option (Int32 × mj_H) := f_X9_areWell_106 K5 K19 v0 v1 v2 v4 v5 (1 : Int32) h
set_option maxHeartbeats 4000000 in
set_option maxRecDepth 100000 in
theorem w_X9_areWell_101 (K5 : Nat → Int32 → Int32 → Int32 → Int32 → mj_H → Option (Int32 × mj_H)) (K19 : Nat → Int32 → Int32 → Int32 → Int32 → Int32 → mj_H → Option (Int32 × mj_H)) (hK5 : ∀ (v0 : Nat) (v1 : Int32) (v2 : Int32) (v3 : Int32) (v4 : Int32)  (h : mj_H) (p : Int32 × mj_H), K5 v0 v1 v2 v3 v4 h = some p → mj_W mX9_areWell (mj_FI p) 5 [(0, .ref v0), (1, .int v1), (2, .int v2), (3, .int v3), (4, .int v4)] [] h 0 0) (hK19 : ∀ (v0 : Nat) (v1 : Int32) (v2 : Int32) (v3 : Int32) (v4 : Int32) (v5 : Int32)  (h : mj_H) (p : Int32 × mj_H), K19 v0 v1 v2 v3 v4 v5 h = some p → mj_W mX9_areWell (mj_FI p) 19 [(0, .ref v0), (1, .int v1), (2, .int v2), (3, .int v3), (4, .int v4), (5, .int v5)] [] h 0 0) (v0 : Nat) (v1 : Int32) (v2 : Int32) (v4 : Int32) (v5 : Int32) (h : mj_H) (p : Int32 × mj_H) (hf : f_X9_areWell_101 K5 K19 v0 v1 v2 v4 v5 h = some p) : mj_W mX9_areWell (mj_FI p) 101 [(0, .ref v0), (1, .int v1), (2, .int v2), (4, .int v4), (5, .int v5)] [] h 0 0 := by
  unfold f_X9_areWell_101 at hf
  refine mj_blk k_X9_ok 51 2 (pc' := 106) (l' := [(0, .ref v0), (1, .int v1), (2, .int v2), (4, .int v4), (5, .int v5)]) (st' := [.int (1 : Int32)]) rfl ?_
  exact w_X9_areWell_106 K5 K19 hK5 hK19 v0 v1 v2 v4 v5 (1 : Int32) h _ hf
def f_X9_areWell_67 (K5 : Nat → Int32 → Int32 → Int32 → Int32 → mj_H → Option (Int32 × mj_H)) (K19 : Nat → Int32 → Int32 → Int32 → Int32 → Int32 → mj_H → Option (Int32 × mj_H)) (v0 : Nat) (v1 : Int32) (v2 : Int32) (v3 : Int32) (v4 : Int32) (v5 : Int32) (s0 : Int32) (h : mj_H) : Option (Int32 × mj_H) := (if v3 = 0 then f_X9_areWell_105 K5 K19 v0 v1 v2 v4 v5 h else (if s0 = 0 then f_X9_areWell_101 K5 K19 v0 v1 v2 v4 v5 h else (mj_gR h v0 9 0).bind fun x1 => (f_X9_trustOn x1 v4 h).bind fun p2 => (mj_gR p2.2 v0 9 0).bind fun x3 => (f_X9_trustOn x3 v5 p2.2).bind fun p4 => (if (p2.1 + p4.1) < v2 then f_X9_areWell_105 K5 K19 v0 v1 v2 v4 v5 p4.2 else f_X9_areWell_101 K5 K19 v0 v1 v2 v4 v5 p4.2)))
set_option maxHeartbeats 4000000 in
set_option maxRecDepth 100000 in
theorem w_X9_areWell_67 (K5 : Nat → Int32 → Int32 → Int32 → Int32 → mj_H → Option (Int32 × mj_H)) (K19 : Nat → Int32 → Int32 → Int32 → Int32 → Int32 → mj_H → Option (Int32 × mj_H)) (hK5 : ∀ (v0 : Nat) (v1 : Int32) (v2 : Int32) (v3 : Int32) (v4 : Int32)  (h : mj_H) (p : Int32 × mj_H), K5 v0 v1 v2 v3 v4 h = some p → mj_W mX9_areWell (mj_FI p) 5 [(0, .ref v0), (1, .int v1), (2, .int v2), (3, .int v3), (4, .int v4)] [] h 0 0) (hK19 : ∀ (v0 : Nat) (v1 : Int32) (v2 : Int32) (v3 : Int32) (v4 : Int32) (v5 : Int32)  (h : mj_H) (p : Int32 × mj_H), K19 v0 v1 v2 v3 v4 v5 h = some p → mj_W mX9_areWell (mj_FI p) 19 [(0, .ref v0), (1, .int v1), (2, .int v2), (3, .int v3), (4, .int v4), (5, .int v5)] [] h 0 0) (v0 : Nat) (v1 : Int32) (v2 : Int32) (v3 : Int32) (v4 : Int32) (v5 : Int32) (s0 : Int32) (h : mj_H) (p : Int32 × mj_H) (hf : f_X9_areWell_67 K5 K19 v0 v1 v2 v3 v4 v5 s0 h = some p) : mj_W mX9_areWell (mj_FI p) 67 [(0, .ref v0), (1, .int v1), (2, .int v2), (3, .int v3), (4, .int v4), (5, .int v5)] [.int s0] h 0 0 := by
  unfold f_X9_areWell_67 at hf
  refine mj_blk k_X9_ok 35 2 (pc' := 70) (l' := [(6, .int s0), (0, .ref v0), (1, .int v1), (2, .int v2), (3, .int v3), (4, .int v4), (5, .int v5)]) (st' := [.int v3]) rfl ?_
  refine mj_if_eq 37 105 rfl (by decide) (fun q => ?_) (fun q => ?_)
  · have hf := (if_pos q).symm.trans hf
    refine mj_locs [1, 2, 3, 5, 6] (l' := [(0, .ref v0), (1, .int v1), (2, .int v2), (4, .int v4), (5, .int v5)]) rfl ?_
    exact w_X9_areWell_105 K5 K19 hK5 hK19 v0 v1 v2 v4 v5 h _ hf
  · have hf := (if_neg q).symm.trans hf
    refine mj_blk k_X9_ok 38 1 (pc' := 75) (l' := [(6, .int s0), (0, .ref v0), (1, .int v1), (2, .int v2), (3, .int v3), (4, .int v4), (5, .int v5)]) (st' := [.int s0]) rfl ?_
    refine mj_if_eq 39 101 rfl (by decide) (fun q => ?_) (fun q => ?_)
    · have hf := (if_pos q).symm.trans hf
      refine mj_locs [1, 2, 3, 5, 6] (l' := [(0, .ref v0), (1, .int v1), (2, .int v2), (4, .int v4), (5, .int v5)]) rfl ?_
      exact w_X9_areWell_101 K5 K19 hK5 hK19 v0 v1 v2 v4 v5 h _ hf
    · have hf := (if_neg q).symm.trans hf
      refine mj_blk k_X9_ok 40 1 (pc' := 79) (l' := [(6, .int s0), (0, .ref v0), (1, .int v1), (2, .int v2), (3, .int v3), (4, .int v4), (5, .int v5)]) (st' := [.ref v0]) rfl ?_
      obtain ⟨x1, ex1, hf⟩ := mj_bd hf
      refine mj_get 41 rfl fl_X9_7 (mj_gR_V ex1) ?_
      refine mj_blk k_X9_ok 42 1 (pc' := 84) (l' := [(6, .int s0), (0, .ref v0), (1, .int v1), (2, .int v2), (3, .int v3), (4, .int v4), (5, .int v5)]) (st' := [.int v4, .ref x1]) rfl ?_
      obtain ⟨p2, ep2, hf⟩ := mj_bd hf
      refine mj_callS mX9_trustOn [.ref x1, .int v4] 43 rfl ll_X9_200 lb_X9_trustOn li_X9_trustOn ⟨Nat.le_of_ble_eq_true rfl, Nat.le_of_ble_eq_true rfl⟩ rfl (rest := []) rfl (Nat.le_of_ble_eq_true rfl) ⟨Nat.le_of_ble_eq_true rfl, Nat.le_of_ble_eq_true rfl⟩ (c_X9_trustOn x1 v4 h p2 ep2) ?_
      show mj_W mX9_areWell (mj_FI p) 87 [(6, .int s0), (0, .ref v0), (1, .int v1), (2, .int v2), (3, .int v3), (4, .int v4), (5, .int v5)] [.int p2.1] p2.2 0 0
      refine mj_blk k_X9_ok 44 1 (pc' := 88) (l' := [(6, .int s0), (0, .ref v0), (1, .int v1), (2, .int v2), (3, .int v3), (4, .int v4), (5, .int v5)]) (st' := [.ref v0, .int p2.1]) rfl ?_
      obtain ⟨x3, ex3, hf⟩ := mj_bd hf
      refine mj_get 45 rfl fl_X9_7 (mj_gR_V ex3) ?_
      refine mj_blk k_X9_ok 46 1 (pc' := 93) (l' := [(6, .int s0), (0, .ref v0), (1, .int v1), (2, .int v2), (3, .int v3), (4, .int v4), (5, .int v5)]) (st' := [.int v5, .ref x3, .int p2.1]) rfl ?_
      obtain ⟨p4, ep4, hf⟩ := mj_bd hf
      refine mj_callS mX9_trustOn [.ref x3, .int v5] 47 rfl ll_X9_200 lb_X9_trustOn li_X9_trustOn ⟨Nat.le_of_ble_eq_true rfl, Nat.le_of_ble_eq_true rfl⟩ rfl (rest := [.int p2.1]) rfl (Nat.le_of_ble_eq_true rfl) ⟨Nat.le_of_ble_eq_true rfl, Nat.le_of_ble_eq_true rfl⟩ (c_X9_trustOn x3 v5 p2.2 p4 ep4) ?_
      show mj_W mX9_areWell (mj_FI p) 96 [(6, .int s0), (0, .ref v0), (1, .int v1), (2, .int v2), (3, .int v3), (4, .int v4), (5, .int v5)] [.int p4.1, .int p2.1] p4.2 0 0
      refine mj_blk k_X9_ok 48 2 (pc' := 98) (l' := [(6, .int s0), (0, .ref v0), (1, .int v1), (2, .int v2), (3, .int v3), (4, .int v4), (5, .int v5)]) (st' := [.int v2, .int (p2.1 + p4.1)]) rfl ?_
      refine mj_icmp_lt 50 105 rfl (by decide) (fun q => ?_) (fun q => ?_)
      · have hf := (if_pos q).symm.trans hf
        refine mj_locs [1, 2, 3, 5, 6] (l' := [(0, .ref v0), (1, .int v1), (2, .int v2), (4, .int v4), (5, .int v5)]) rfl ?_
        exact w_X9_areWell_105 K5 K19 hK5 hK19 v0 v1 v2 v4 v5 p4.2 _ hf
      · have hf := (if_neg q).symm.trans hf
        refine mj_locs [1, 2, 3, 5, 6] (l' := [(0, .ref v0), (1, .int v1), (2, .int v2), (4, .int v4), (5, .int v5)]) rfl ?_
        exact w_X9_areWell_101 K5 K19 hK5 hK19 v0 v1 v2 v4 v5 p4.2 _ hf
def f_X9_areWell_66 (K5 : Nat → Int32 → Int32 → Int32 → Int32 → mj_H → Option (Int32 × mj_H)) (K19 : Nat → Int32 → Int32 → Int32 → Int32 → Int32 → mj_H → Option (Int32 × mj_H)) (v0 : Nat) (v1 : Int32) (v2 : Int32) (v3 : Int32) (v4 : Int32) (v5 : Int32) (h : mj_H) : Option (Int32 × mj_H) := f_X9_areWell_67 K5 K19 v0 v1 v2 v3 v4 v5 (0 : Int32) h
set_option maxHeartbeats 4000000 in
set_option maxRecDepth 100000 in
theorem w_X9_areWell_66 (K5 : Nat → Int32 → Int32 → Int32 → Int32 → mj_H → Option (Int32 × mj_H)) (K19 : Nat → Int32 → Int32 → Int32 → Int32 → Int32 → mj_H → Option (Int32 × mj_H)) (hK5 : ∀ (v0 : Nat) (v1 : Int32) (v2 : Int32) (v3 : Int32) (v4 : Int32)  (h : mj_H) (p : Int32 × mj_H), K5 v0 v1 v2 v3 v4 h = some p → mj_W mX9_areWell (mj_FI p) 5 [(0, .ref v0), (1, .int v1), (2, .int v2), (3, .int v3), (4, .int v4)] [] h 0 0) (hK19 : ∀ (v0 : Nat) (v1 : Int32) (v2 : Int32) (v3 : Int32) (v4 : Int32) (v5 : Int32)  (h : mj_H) (p : Int32 × mj_H), K19 v0 v1 v2 v3 v4 v5 h = some p → mj_W mX9_areWell (mj_FI p) 19 [(0, .ref v0), (1, .int v1), (2, .int v2), (3, .int v3), (4, .int v4), (5, .int v5)] [] h 0 0) (v0 : Nat) (v1 : Int32) (v2 : Int32) (v3 : Int32) (v4 : Int32) (v5 : Int32) (h : mj_H) (p : Int32 × mj_H) (hf : f_X9_areWell_66 K5 K19 v0 v1 v2 v3 v4 v5 h = some p) : mj_W mX9_areWell (mj_FI p) 66 [(0, .ref v0), (1, .int v1), (2, .int v2), (3, .int v3), (4, .int v4), (5, .int v5)] [] h 0 0 := by
  unfold f_X9_areWell_66 at hf
  refine mj_blk k_X9_ok 34 1 (pc' := 67) (l' := [(0, .ref v0), (1, .int v1), (2, .int v2), (3, .int v3), (4, .int v4), (5, .int v5)]) (st' := [.int (0 : Int32)]) rfl ?_
  exact w_X9_areWell_67 K5 K19 hK5 hK19 v0 v1 v2 v3 v4 v5 (0 : Int32) h _ hf
def b_X9_areWell_19 (K5 : Nat → Int32 → Int32 → Int32 → Int32 → mj_H → Option (Int32 × mj_H)) (K19 : Nat → Int32 → Int32 → Int32 → Int32 → Int32 → mj_H → Option (Int32 × mj_H)) (v0 : Nat) (v1 : Int32) (v2 : Int32) (v3 : Int32) (v4 : Int32) (v5 : Int32) (h : mj_H) : Option (Int32 × mj_H) := (if v4 ≤ v5 then K5 v0 v1 v2 v3 (v4 + (1 : Int32)) h else (f_X9_has v1 v4 h).bind fun p5 => (if p5.1 = 0 then f_X9_areWell_66 K5 K19 v0 v1 v2 v3 v4 v5 p5.2 else (f_X9_has v1 v5 p5.2).bind fun p6 => (if p6.1 = 0 then f_X9_areWell_66 K5 K19 v0 v1 v2 v3 v4 v5 p6.2 else (mj_gR p6.2 v0 9 0).bind fun x7 => (mj_aI p6.2 x7 ((10 : Int32) + v4)).bind fun x8 => (f_X9_has x8 v5 p6.2).bind fun p9 => (if p9.1 = 0 then f_X9_areWell_66 K5 K19 v0 v1 v2 v3 v4 v5 p9.2 else f_X9_areWell_67 K5 K19 v0 v1 v2 v3 v4 v5 (1 : Int32) p9.2))))
set_option maxHeartbeats 4000000 in
set_option maxRecDepth 100000 in
theorem wb_X9_areWell_19 (K5 : Nat → Int32 → Int32 → Int32 → Int32 → mj_H → Option (Int32 × mj_H)) (hK5 : ∀ (v0 : Nat) (v1 : Int32) (v2 : Int32) (v3 : Int32) (v4 : Int32)  (h : mj_H) (p : Int32 × mj_H), K5 v0 v1 v2 v3 v4 h = some p → mj_W mX9_areWell (mj_FI p) 5 [(0, .ref v0), (1, .int v1), (2, .int v2), (3, .int v3), (4, .int v4)] [] h 0 0) (K19 : Nat → Int32 → Int32 → Int32 → Int32 → Int32 → mj_H → Option (Int32 × mj_H)) (hK19 : ∀ (v0 : Nat) (v1 : Int32) (v2 : Int32) (v3 : Int32) (v4 : Int32) (v5 : Int32)  (h : mj_H) (p : Int32 × mj_H), K19 v0 v1 v2 v3 v4 v5 h = some p → mj_W mX9_areWell (mj_FI p) 19 [(0, .ref v0), (1, .int v1), (2, .int v2), (3, .int v3), (4, .int v4), (5, .int v5)] [] h 0 0) (v0 : Nat) (v1 : Int32) (v2 : Int32) (v3 : Int32) (v4 : Int32) (v5 : Int32) (h : mj_H) (p : Int32 × mj_H) (hf : b_X9_areWell_19 K5 K19 v0 v1 v2 v3 v4 v5 h = some p) : mj_W mX9_areWell (mj_FI p) 19 [(0, .ref v0), (1, .int v1), (2, .int v2), (3, .int v3), (4, .int v4), (5, .int v5)] [] h 0 0 := by
  unfold b_X9_areWell_19 at hf
  refine mj_blk k_X9_ok 12 2 (pc' := 23) (l' := [(0, .ref v0), (1, .int v1), (2, .int v2), (3, .int v3), (4, .int v4), (5, .int v5)]) (st' := [.int v4, .int v5]) rfl ?_
  refine mj_icmp_ge 14 113 rfl (by decide) (fun q => ?_) (fun q => ?_)
  · have hf := (if_pos q).symm.trans hf
    refine mj_blk k_X9_ok 57 2 (pc' := 5) (l' := [(4, .int (v4 + (1 : Int32))), (0, .ref v0), (1, .int v1), (2, .int v2), (3, .int v3), (5, .int v5)]) (st' := []) rfl ?_
    refine mj_locs [1, 2, 3, 4, 0] (l' := [(0, .ref v0), (1, .int v1), (2, .int v2), (3, .int v3), (4, .int (v4 + (1 : Int32)))]) rfl ?_
    exact hK5 v0 v1 v2 v3 (v4 + (1 : Int32)) h _ hf
  · have hf := (if_neg q).symm.trans hf
    refine mj_blk k_X9_ok 15 2 (pc' := 29) (l' := [(0, .ref v0), (1, .int v1), (2, .int v2), (3, .int v3), (4, .int v4), (5, .int v5)]) (st' := [.int v4, .int v1]) rfl ?_
    obtain ⟨p5, ep5, hf⟩ := mj_bd hf
    refine mj_callS mX9_has [.int v1, .int v4] 17 rfl ll_X9_69 lb_X9_has li_X9_has ⟨Nat.le_of_ble_eq_true rfl, Nat.le_of_ble_eq_true rfl⟩ rfl (rest := []) rfl (Nat.le_of_ble_eq_true rfl) ⟨Nat.le_of_ble_eq_true rfl, Nat.le_of_ble_eq_true rfl⟩ (c_X9_has v1 v4 h p5 ep5) ?_
    show mj_W mX9_areWell (mj_FI p) 32 [(0, .ref v0), (1, .int v1), (2, .int v2), (3, .int v3), (4, .int v4), (5, .int v5)] [.int p5.1] p5.2 0 0
    refine mj_if_eq 18 66 rfl (by decide) (fun q => ?_) (fun q => ?_)
    · have hf := (if_pos q).symm.trans hf
      exact w_X9_areWell_66 K5 K19 hK5 hK19 v0 v1 v2 v3 v4 v5 p5.2 _ hf
    · have hf := (if_neg q).symm.trans hf
      refine mj_blk k_X9_ok 19 2 (pc' := 38) (l' := [(0, .ref v0), (1, .int v1), (2, .int v2), (3, .int v3), (4, .int v4), (5, .int v5)]) (st' := [.int v5, .int v1]) rfl ?_
      obtain ⟨p6, ep6, hf⟩ := mj_bd hf
      refine mj_callS mX9_has [.int v1, .int v5] 21 rfl ll_X9_69 lb_X9_has li_X9_has ⟨Nat.le_of_ble_eq_true rfl, Nat.le_of_ble_eq_true rfl⟩ rfl (rest := []) rfl (Nat.le_of_ble_eq_true rfl) ⟨Nat.le_of_ble_eq_true rfl, Nat.le_of_ble_eq_true rfl⟩ (c_X9_has v1 v5 p5.2 p6 ep6) ?_
      show mj_W mX9_areWell (mj_FI p) 41 [(0, .ref v0), (1, .int v1), (2, .int v2), (3, .int v3), (4, .int v4), (5, .int v5)] [.int p6.1] p6.2 0 0
      refine mj_if_eq 22 66 rfl (by decide) (fun q => ?_) (fun q => ?_)
      · have hf := (if_pos q).symm.trans hf
        exact w_X9_areWell_66 K5 K19 hK5 hK19 v0 v1 v2 v3 v4 v5 p6.2 _ hf
      · have hf := (if_neg q).symm.trans hf
        refine mj_blk k_X9_ok 23 1 (pc' := 45) (l' := [(0, .ref v0), (1, .int v1), (2, .int v2), (3, .int v3), (4, .int v4), (5, .int v5)]) (st' := [.ref v0]) rfl ?_
        obtain ⟨x7, ex7, hf⟩ := mj_bd hf
        refine mj_get 24 rfl fl_X9_7 (mj_gR_V ex7) ?_
        refine mj_blk k_X9_ok 25 3 (pc' := 53) (l' := [(0, .ref v0), (1, .int v1), (2, .int v2), (3, .int v3), (4, .int v4), (5, .int v5)]) (st' := [.int ((10 : Int32) + v4), .ref x7]) rfl ?_
        obtain ⟨x8, ex8, hf⟩ := mj_bd hf
        refine mj_iald 28 rfl ex8 ?_
        refine mj_blk k_X9_ok 29 1 (pc' := 56) (l' := [(0, .ref v0), (1, .int v1), (2, .int v2), (3, .int v3), (4, .int v4), (5, .int v5)]) (st' := [.int v5, .int x8]) rfl ?_
        obtain ⟨p9, ep9, hf⟩ := mj_bd hf
        refine mj_callS mX9_has [.int x8, .int v5] 30 rfl ll_X9_69 lb_X9_has li_X9_has ⟨Nat.le_of_ble_eq_true rfl, Nat.le_of_ble_eq_true rfl⟩ rfl (rest := []) rfl (Nat.le_of_ble_eq_true rfl) ⟨Nat.le_of_ble_eq_true rfl, Nat.le_of_ble_eq_true rfl⟩ (c_X9_has x8 v5 p6.2 p9 ep9) ?_
        show mj_W mX9_areWell (mj_FI p) 59 [(0, .ref v0), (1, .int v1), (2, .int v2), (3, .int v3), (4, .int v4), (5, .int v5)] [.int p9.1] p9.2 0 0
        refine mj_if_eq 31 66 rfl (by decide) (fun q => ?_) (fun q => ?_)
        · have hf := (if_pos q).symm.trans hf
          exact w_X9_areWell_66 K5 K19 hK5 hK19 v0 v1 v2 v3 v4 v5 p9.2 _ hf
        · have hf := (if_neg q).symm.trans hf
          refine mj_blk k_X9_ok 32 2 (pc' := 67) (l' := [(0, .ref v0), (1, .int v1), (2, .int v2), (3, .int v3), (4, .int v4), (5, .int v5)]) (st' := [.int (1 : Int32)]) rfl ?_
          exact w_X9_areWell_67 K5 K19 hK5 hK19 v0 v1 v2 v3 v4 v5 (1 : Int32) p9.2 _ hf
def f_X9_areWell_19 (K5 : Nat → Int32 → Int32 → Int32 → Int32 → mj_H → Option (Int32 × mj_H)) (v0 : Nat) (v1 : Int32) (v2 : Int32) (v3 : Int32) (v4 : Int32) (v5 : Int32) (h : mj_H) : Option (Int32 × mj_H) := mj_fix (fun (K19 : (Nat × Int32 × Int32 × Int32 × Int32 × Int32 × mj_H) → Option (Int32 × mj_H)) (s : Nat × Int32 × Int32 × Int32 × Int32 × Int32 × mj_H) => b_X9_areWell_19 K5 (fun v0 v1 v2 v3 v4 v5 h => K19 (v0, v1, v2, v3, v4, v5, h)) s.1 s.2.1 s.2.2.1 s.2.2.2.1 s.2.2.2.2.1 s.2.2.2.2.2.1 s.2.2.2.2.2.2) 1000 (v0, v1, v2, v3, v4, v5, h)
set_option maxHeartbeats 4000000 in
set_option maxRecDepth 100000 in
theorem w_X9_areWell_19 (K5 : Nat → Int32 → Int32 → Int32 → Int32 → mj_H → Option (Int32 × mj_H)) (hK5 : ∀ (v0 : Nat) (v1 : Int32) (v2 : Int32) (v3 : Int32) (v4 : Int32)  (h : mj_H) (p : Int32 × mj_H), K5 v0 v1 v2 v3 v4 h = some p → mj_W mX9_areWell (mj_FI p) 5 [(0, .ref v0), (1, .int v1), (2, .int v2), (3, .int v3), (4, .int v4)] [] h 0 0) (v0 : Nat) (v1 : Int32) (v2 : Int32) (v3 : Int32) (v4 : Int32) (v5 : Int32) (h : mj_H) (p : Int32 × mj_H) (hf : f_X9_areWell_19 K5 v0 v1 v2 v3 v4 v5 h = some p) : mj_W mX9_areWell (mj_FI p) 19 [(0, .ref v0), (1, .int v1), (2, .int v2), (3, .int v3), (4, .int v4), (5, .int v5)] [] h 0 0 := by
  unfold f_X9_areWell_19 at hf
  exact mj_fix_ind (F := (fun (K19 : (Nat × Int32 × Int32 × Int32 × Int32 × Int32 × mj_H) → Option (Int32 × mj_H)) (s : Nat × Int32 × Int32 × Int32 × Int32 × Int32 × mj_H) => b_X9_areWell_19 K5 (fun v0 v1 v2 v3 v4 v5 h => K19 (v0, v1, v2, v3, v4, v5, h)) s.1 s.2.1 s.2.2.1 s.2.2.2.1 s.2.2.2.2.1 s.2.2.2.2.2.1 s.2.2.2.2.2.2)) (P := fun s p => mj_W mX9_areWell (mj_FI p) 19 [(0, .ref s.1), (1, .int s.2.1), (2, .int s.2.2.1), (3, .int s.2.2.2.1), (4, .int s.2.2.2.2.1), (5, .int s.2.2.2.2.2.1)] [] s.2.2.2.2.2.2 0 0) (fun K19 hK19 s p hf => wb_X9_areWell_19 K5 hK5 (fun v0 v1 v2 v3 v4 v5 h => K19 (v0, v1, v2, v3, v4, v5, h)) (fun v0 v1 v2 v3 v4 v5 h p e => hK19 (v0, v1, v2, v3, v4, v5, h) p e) s.1 s.2.1 s.2.2.1 s.2.2.2.1 s.2.2.2.2.1 s.2.2.2.2.2.1 s.2.2.2.2.2.2 p hf) 1000 (v0, v1, v2, v3, v4, v5, h) p hf
def b_X9_areWell_5 (K5 : Nat → Int32 → Int32 → Int32 → Int32 → mj_H → Option (Int32 × mj_H)) (v0 : Nat) (v1 : Int32) (v2 : Int32) (v3 : Int32) (v4 : Int32) (h : mj_H) : Option (Int32 × mj_H) := (mj_gR h v0 9 0).bind fun x10 => (mj_aI h x10 (0 : Int32)).bind fun x11 => (if x11 ≤ v4 then (if v3 = 0 ∨ v3 = 1 then some (v3, h) else none) else f_X9_areWell_19 K5 v0 v1 v2 v3 v4 (0 : Int32) h)
set_option maxHeartbeats 4000000 in
set_option maxRecDepth 100000 in
theorem wb_X9_areWell_5 (K5 : Nat → Int32 → Int32 → Int32 → Int32 → mj_H → Option (Int32 × mj_H)) (hK5 : ∀ (v0 : Nat) (v1 : Int32) (v2 : Int32) (v3 : Int32) (v4 : Int32)  (h : mj_H) (p : Int32 × mj_H), K5 v0 v1 v2 v3 v4 h = some p → mj_W mX9_areWell (mj_FI p) 5 [(0, .ref v0), (1, .int v1), (2, .int v2), (3, .int v3), (4, .int v4)] [] h 0 0) (v0 : Nat) (v1 : Int32) (v2 : Int32) (v3 : Int32) (v4 : Int32) (h : mj_H) (p : Int32 × mj_H) (hf : b_X9_areWell_5  K5 v0 v1 v2 v3 v4 h = some p) : mj_W mX9_areWell (mj_FI p) 5 [(0, .ref v0), (1, .int v1), (2, .int v2), (3, .int v3), (4, .int v4)] [] h 0 0 := by
  unfold b_X9_areWell_5 at hf
  refine mj_blk k_X9_ok 4 2 (pc' := 8) (l' := [(0, .ref v0), (1, .int v1), (2, .int v2), (3, .int v3), (4, .int v4)]) (st' := [.ref v0, .int v4]) rfl ?_
  obtain ⟨x10, ex10, hf⟩ := mj_bd hf
  refine mj_get 6 rfl fl_X9_7 (mj_gR_V ex10) ?_
  refine mj_blk k_X9_ok 7 1 (pc' := 12) (l' := [(0, .ref v0), (1, .int v1), (2, .int v2), (3, .int v3), (4, .int v4)]) (st' := [.int (0 : Int32), .ref x10, .int v4]) rfl ?_
  obtain ⟨x11, ex11, hf⟩ := mj_bd hf
  refine mj_iald 8 rfl ex11 ?_
  refine mj_icmp_ge 9 119 rfl (by decide) (fun q => ?_) (fun q => ?_)
  · have hf := (if_pos q).symm.trans hf
    refine mj_blk k_X9_ok 59 1 (pc' := 120) (l' := [(0, .ref v0), (1, .int v1), (2, .int v2), (3, .int v3), (4, .int v4)]) (st' := [.int v3]) rfl ?_
    obtain ⟨g, hf⟩ := mj_gp hf
    obtain rfl := Option.some.inj hf
    exact mj_end (some (.int v3)) ⟨mj_dec tok_X9_areWell (a := 60) rfl, .boolean, rfl, mj_bool g⟩ ⟨rfl, rfl⟩ (Nat.le_of_ble_eq_true rfl) (Nat.le_of_ble_eq_true rfl)
  · have hf := (if_neg q).symm.trans hf
    refine mj_blk k_X9_ok 10 2 (pc' := 19) (l' := [(5, .int (0 : Int32)), (0, .ref v0), (1, .int v1), (2, .int v2), (3, .int v3), (4, .int v4)]) (st' := []) rfl ?_
    refine mj_locs [1, 2, 3, 4, 5, 0] (l' := [(0, .ref v0), (1, .int v1), (2, .int v2), (3, .int v3), (4, .int v4), (5, .int (0 : Int32))]) rfl ?_
    exact w_X9_areWell_19 K5 hK5 v0 v1 v2 v3 v4 (0 : Int32) h _ hf
def f_X9_areWell_5 (v0 : Nat) (v1 : Int32) (v2 : Int32) (v3 : Int32) (v4 : Int32) (h : mj_H) : Option (Int32 × mj_H) := mj_fix (fun (K5 : (Nat × Int32 × Int32 × Int32 × Int32 × mj_H) → Option (Int32 × mj_H)) (s : Nat × Int32 × Int32 × Int32 × Int32 × mj_H) => b_X9_areWell_5  (fun v0 v1 v2 v3 v4 h => K5 (v0, v1, v2, v3, v4, h)) s.1 s.2.1 s.2.2.1 s.2.2.2.1 s.2.2.2.2.1 s.2.2.2.2.2) 1000 (v0, v1, v2, v3, v4, h)
set_option maxHeartbeats 4000000 in
set_option maxRecDepth 100000 in
theorem w_X9_areWell_5 (v0 : Nat) (v1 : Int32) (v2 : Int32) (v3 : Int32) (v4 : Int32) (h : mj_H) (p : Int32 × mj_H) (hf : f_X9_areWell_5  v0 v1 v2 v3 v4 h = some p) : mj_W mX9_areWell (mj_FI p) 5 [(0, .ref v0), (1, .int v1), (2, .int v2), (3, .int v3), (4, .int v4)] [] h 0 0 := by
  unfold f_X9_areWell_5 at hf
  exact mj_fix_ind (F := (fun (K5 : (Nat × Int32 × Int32 × Int32 × Int32 × mj_H) → Option (Int32 × mj_H)) (s : Nat × Int32 × Int32 × Int32 × Int32 × mj_H) => b_X9_areWell_5  (fun v0 v1 v2 v3 v4 h => K5 (v0, v1, v2, v3, v4, h)) s.1 s.2.1 s.2.2.1 s.2.2.2.1 s.2.2.2.2.1 s.2.2.2.2.2)) (P := fun s p => mj_W mX9_areWell (mj_FI p) 5 [(0, .ref s.1), (1, .int s.2.1), (2, .int s.2.2.1), (3, .int s.2.2.2.1), (4, .int s.2.2.2.2.1)] [] s.2.2.2.2.2 0 0) (fun K5 hK5 s p hf => wb_X9_areWell_5   (fun v0 v1 v2 v3 v4 h => K5 (v0, v1, v2, v3, v4, h)) (fun v0 v1 v2 v3 v4 h p e => hK5 (v0, v1, v2, v3, v4, h) p e) s.1 s.2.1 s.2.2.1 s.2.2.2.1 s.2.2.2.2.1 s.2.2.2.2.2 p hf) 1000 (v0, v1, v2, v3, v4, h) p hf
def f_X9_areWell (v0 : Nat) (v1 : Int32) (v2 : Int32) (h : mj_H) : Option (Int32 × mj_H) := f_X9_areWell_5 v0 v1 v2 (1 : Int32) (0 : Int32) h
set_option maxHeartbeats 4000000 in
set_option maxRecDepth 100000 in
theorem c_X9_areWell (v0 : Nat) (v1 : Int32) (v2 : Int32) (h : mj_H) (p : Int32 × mj_H) (hf : f_X9_areWell v0 v1 v2 h = some p) : mj_Met mX9_areWell [.ref v0, .int v1, .int v2] h (some (.int p.1)) p.2 := by
  refine mj_met pl_X9 tok_X9_areWell (Nat.le_of_ble_eq_true rfl) ?_
  show mj_W mX9_areWell (mj_FI p) 0 [(0, .ref v0), (1, .int v1), (2, .int v2)] [] h 0 0
  unfold f_X9_areWell at hf
  refine mj_blk k_X9_ok 0 4 (pc' := 5) (l' := [(4, .int (0 : Int32)), (3, .int (1 : Int32)), (0, .ref v0), (1, .int v1), (2, .int v2)]) (st' := []) rfl ?_
  refine mj_locs [2, 3, 4, 1, 0] (l' := [(0, .ref v0), (1, .int v1), (2, .int v2), (3, .int (1 : Int32)), (4, .int (0 : Int32))]) rfl ?_
  exact w_X9_areWell_5 v0 v1 v2 (1 : Int32) (0 : Int32) h _ hf
