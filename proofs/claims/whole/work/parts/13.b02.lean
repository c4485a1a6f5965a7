/-! printed by wip/whole/gen.py: X2_trustSeen, X2_addMan, X2_waysToHold, X2_chooseBest, X3_push, X3_pop, X3_forget, X3_become, X7_init, X4_init, X7_byteAt, X4_skipBlanks, X4_isLetter, X7_spells, X4_readWord, X4_isFigure, X4_readNumber, X4_readToken -/
def f_X2_trustSeen (v0 : Nat) (v1 : Int32) (h : mj_H) : Option (Int32 × mj_H) := (if v1 < 0 then some ((0 : Int32), h) else (mj_gR h v0 2 0).bind fun x1 => (mj_aL h x1).bind fun x2 => (if x2 ≤ v1 then some ((0 : Int32), h) else (mj_gR h v0 2 0).bind fun x3 => (mj_aI h x3 v1).bind fun x4 => some (x4, h)))
set_option maxHeartbeats 4000000 in
set_option maxRecDepth 100000 in
theorem c_X2_trustSeen (v0 : Nat) (v1 : Int32) (h : mj_H) (p : Int32 × mj_H) (hf : f_X2_trustSeen v0 v1 h = some p) : mj_Met mX2_trustSeen [.ref v0, .int v1] h (some (.int p.1)) p.2 := by
  refine mj_met pl_X2 tok_X2_trustSeen (Nat.le_of_ble_eq_true rfl) ?_
  show mj_W mX2_trustSeen (mj_FI p) 0 [(0, .ref v0), (1, .int v1)] [] h 0 0
  unfold f_X2_trustSeen at hf
  refine mj_blk k_X2_ok 0 1 (pc' := 1) (l' := [(0, .ref v0), (1, .int v1)]) (st' := [.int v1]) rfl ?_
  refine mj_if_lt 1 22 rfl (by decide) (fun q => ?_) (fun q => ?_)
  · have hf := (if_pos q).symm.trans hf
    refine mj_blk k_X2_ok 12 1 (pc' := 23) (l' := [(0, .ref v0), (1, .int v1)]) (st' := [.int (0 : Int32)]) rfl ?_
    obtain rfl := Option.some.inj hf
    exact mj_end (some (.int (0 : Int32))) ⟨mj_dec tok_X2_trustSeen (a := 13) rfl, .int, rfl, rfl⟩ ⟨rfl, rfl⟩ (Nat.le_of_ble_eq_true rfl) (Nat.le_of_ble_eq_true rfl)
  · have hf := (if_neg q).symm.trans hf
    refine mj_blk k_X2_ok 2 2 (pc' := 6) (l' := [(0, .ref v0), (1, .int v1)]) (st' := [.ref v0, .int v1]) rfl ?_
    obtain ⟨x1, ex1, hf⟩ := mj_bd hf
    refine mj_get 4 rfl fl_X2_9 (mj_gR_V ex1) ?_
    obtain ⟨x2, ex2, hf⟩ := mj_bd hf
    refine mj_alen 5 rfl ex2 ?_
    refine mj_icmp_ge 6 22 rfl (by decide) (fun q => ?_) (fun q => ?_)
    · have hf := (if_pos q).symm.trans hf
      refine mj_blk k_X2_ok 12 1 (pc' := 23) (l' := [(0, .ref v0), (1, .int v1)]) (st' := [.int (0 : Int32)]) rfl ?_
      obtain rfl := Option.some.inj hf
      exact mj_end (some (.int (0 : Int32))) ⟨mj_dec tok_X2_trustSeen (a := 13) rfl, .int, rfl, rfl⟩ ⟨rfl, rfl⟩ (Nat.le_of_ble_eq_true rfl) (Nat.le_of_ble_eq_true rfl)
    · have hf := (if_neg q).symm.trans hf
      refine mj_blk k_X2_ok 7 1 (pc' := 14) (l' := [(0, .ref v0), (1, .int v1)]) (st' := [.ref v0]) rfl ?_
      obtain ⟨x3, ex3, hf⟩ := mj_bd hf
      refine mj_get 8 rfl fl_X2_9 (mj_gR_V ex3) ?_
      refine mj_blk k_X2_ok 9 1 (pc' := 18) (l' := [(0, .ref v0), (1, .int v1)]) (st' := [.int v1, .ref x3]) rfl ?_
      obtain ⟨x4, ex4, hf⟩ := mj_bd hf
      refine mj_iald 10 rfl ex4 ?_
      refine mj_blk k_X2_ok 11 1 (pc' := 23) (l' := [(0, .ref v0), (1, .int v1)]) (st' := [.int x4]) rfl ?_
      obtain rfl := Option.some.inj hf
      exact mj_end (some (.int x4)) ⟨mj_dec tok_X2_trustSeen (a := 13) rfl, .int, rfl, rfl⟩ ⟨rfl, rfl⟩ (Nat.le_of_ble_eq_true rfl) (Nat.le_of_ble_eq_true rfl)
def b_X2_addMan_3 (K3 : Nat → Int32 → Int32 → mj_H → Option (mj_H)) (v0 : Nat) (v1 : Int32) (v2 : Int32) (h : mj_H) : Option (mj_H) := (if v2 ≤ 0 then (mj_gR h v0 2 1).bind fun x1 => (mj_aJ h x1 (0 : Int32)).bind fun x2 => (mj_uJ h x1 (0 : Int32) (x2 * ((((60 : Int32) - v1)).toInt64))).bind fun h3 => some h3 else (mj_gR h v0 2 1).bind fun x4 => (mj_gR h v0 2 1).bind fun x5 => (mj_aJ h x5 v2).bind fun x6 => (mj_gR h v0 2 1).bind fun x7 => (mj_aJ h x7 (v2 - (1 : Int32))).bind fun x8 => (mj_uJ h x4 v2 ((x6 * ((((60 : Int32) - v1)).toInt64)) + (x8 * ((v1).toInt64)))).bind fun h9 => K3 v0 v1 (v2 + (-1 : Int32)) h9)
set_option maxHeartbeats 4000000 in
set_option maxRecDepth 100000 in
theorem wb_X2_addMan_3 (K3 : Nat → Int32 → Int32 → mj_H → Option (mj_H)) (hK3 : ∀ (v0 : Nat) (v1 : Int32) (v2 : Int32)  (h : mj_H) (p : mj_H), K3 v0 v1 v2 h = some p → mj_W mX2_addMan (mj_FV p) 3 [(0, .ref v0), (1, .int v1), (2, .int v2)] [] h 0 0) (v0 : Nat) (v1 : Int32) (v2 : Int32) (h : mj_H) (p : mj_H) (hf : b_X2_addMan_3  K3 v0 v1 v2 h = some p) : mj_W mX2_addMan (mj_FV p) 3 [(0, .ref v0), (1, .int v1), (2, .int v2)] [] h 0 0 := by
  unfold b_X2_addMan_3 at hf
  refine mj_blk k_X2_ok 2 1 (pc' := 4) (l' := [(0, .ref v0), (1, .int v1), (2, .int v2)]) (st' := [.int v2]) rfl ?_
  refine mj_if_le 3 43 rfl (by decide) (fun q => ?_) (fun q => ?_)
  · have hf := (if_pos q).symm.trans hf
    refine mj_blk k_X2_ok 29 1 (pc' := 44) (l' := [(0, .ref v0), (1, .int v1), (2, .int v2)]) (st' := [.ref v0]) rfl ?_
    obtain ⟨x1, ex1, hf⟩ := mj_bd hf
    refine mj_get 30 rfl fl_X2_15 (mj_gR_V ex1) ?_
    refine mj_blk k_X2_ok 31 2 (pc' := 49) (l' := [(0, .ref v0), (1, .int v1), (2, .int v2)]) (st' := [.int (0 : Int32), .ref x1, .int (0 : Int32), .ref x1]) rfl ?_
    obtain ⟨x2, ex2, hf⟩ := mj_bd hf
    refine mj_lald 33 rfl ex2 ?_
    refine mj_blk k_X2_ok 34 5 (pc' := 56) (l' := [(0, .ref v0), (1, .int v1), (2, .int v2)]) (st' := [.long (x2 * ((((60 : Int32) - v1)).toInt64)), .int (0 : Int32), .ref x1]) rfl ?_
    obtain ⟨h3, eh3, hf⟩ := mj_bd hf
    refine mj_last 39 rfl eh3 ?_
    obtain rfl := Option.some.inj hf
    exact mj_end none ⟨mj_dec tok_X2_addMan (a := 40) rfl, rfl⟩ ⟨rfl, rfl⟩ (Nat.le_of_ble_eq_true rfl) (Nat.le_of_ble_eq_true rfl)
  · have hf := (if_neg q).symm.trans hf
    refine mj_blk k_X2_ok 4 1 (pc' := 8) (l' := [(0, .ref v0), (1, .int v1), (2, .int v2)]) (st' := [.ref v0]) rfl ?_
    obtain ⟨x4, ex4, hf⟩ := mj_bd hf
    refine mj_get 5 rfl fl_X2_15 (mj_gR_V ex4) ?_
    refine mj_blk k_X2_ok 6 2 (pc' := 13) (l' := [(0, .ref v0), (1, .int v1), (2, .int v2)]) (st' := [.ref v0, .int v2, .ref x4]) rfl ?_
    obtain ⟨x5, ex5, hf⟩ := mj_bd hf
    refine mj_get 8 rfl fl_X2_15 (mj_gR_V ex5) ?_
    refine mj_blk k_X2_ok 9 1 (pc' := 17) (l' := [(0, .ref v0), (1, .int v1), (2, .int v2)]) (st' := [.int v2, .ref x5, .int v2, .ref x4]) rfl ?_
    obtain ⟨x6, ex6, hf⟩ := mj_bd hf
    refine mj_lald 10 rfl ex6 ?_
    refine mj_blk k_X2_ok 11 6 (pc' := 25) (l' := [(0, .ref v0), (1, .int v1), (2, .int v2)]) (st' := [.ref v0, .long (x6 * ((((60 : Int32) - v1)).toInt64)), .int v2, .ref x4]) rfl ?_
    obtain ⟨x7, ex7, hf⟩ := mj_bd hf
    refine mj_get 17 rfl fl_X2_15 (mj_gR_V ex7) ?_
    refine mj_blk k_X2_ok 18 3 (pc' := 31) (l' := [(0, .ref v0), (1, .int v1), (2, .int v2)]) (st' := [.int (v2 - (1 : Int32)), .ref x7, .long (x6 * ((((60 : Int32) - v1)).toInt64)), .int v2, .ref x4]) rfl ?_
    obtain ⟨x8, ex8, hf⟩ := mj_bd hf
    refine mj_lald 21 rfl ex8 ?_
    refine mj_blk k_X2_ok 22 4 (pc' := 36) (l' := [(0, .ref v0), (1, .int v1), (2, .int v2)]) (st' := [.long ((x6 * ((((60 : Int32) - v1)).toInt64)) + (x8 * ((v1).toInt64))), .int v2, .ref x4]) rfl ?_
    obtain ⟨h9, eh9, hf⟩ := mj_bd hf
    refine mj_last 26 rfl eh9 ?_
    refine mj_blk k_X2_ok 27 2 (pc' := 3) (l' := [(2, .int (v2 + (-1 : Int32))), (0, .ref v0), (1, .int v1)]) (st' := []) rfl ?_
    refine mj_locs [1, 2, 0] (l' := [(0, .ref v0), (1, .int v1), (2, .int (v2 + (-1 : Int32)))]) rfl ?_
    exact hK3 v0 v1 (v2 + (-1 : Int32)) h9 _ hf
def f_X2_addMan_3 (v0 : Nat) (v1 : Int32) (v2 : Int32) (h : mj_H) : Option (mj_H) := mj_fix (fun (K3 : (Nat × Int32 × Int32 × mj_H) → Option (mj_H)) (s : Nat × Int32 × Int32 × mj_H) => b_X2_addMan_3  (fun v0 v1 v2 h => K3 (v0, v1, v2, h)) s.1 s.2.1 s.2.2.1 s.2.2.2) 1000 (v0, v1, v2, h)
set_option maxHeartbeats 4000000 in
set_option maxRecDepth 100000 in
theorem w_X2_addMan_3 (v0 : Nat) (v1 : Int32) (v2 : Int32) (h : mj_H) (p : mj_H) (hf : f_X2_addMan_3  v0 v1 v2 h = some p) : mj_W mX2_addMan (mj_FV p) 3 [(0, .ref v0), (1, .int v1), (2, .int v2)] [] h 0 0 := by
  unfold f_X2_addMan_3 at hf
  exact mj_fix_ind (F := (fun (K3 : (Nat × Int32 × Int32 × mj_H) → Option (mj_H)) (s : Nat × Int32 × Int32 × mj_H) => b_X2_addMan_3  (fun v0 v1 v2 h => K3 (v0, v1, v2, h)) s.1 s.2.1 s.2.2.1 s.2.2.2)) (P := fun s p => mj_W mX2_addMan (mj_FV p) 3 [(0, .ref s.1), (1, .int s.2.1), (2, .int s.2.2.1)] [] s.2.2.2 0 0) (fun K3 hK3 s p hf => wb_X2_addMan_3   (fun v0 v1 v2 h => K3 (v0, v1, v2, h)) (fun v0 v1 v2 h p e => hK3 (v0, v1, v2, h) p e) s.1 s.2.1 s.2.2.1 s.2.2.2 p hf) 1000 (v0, v1, v2, h) p hf
def f_X2_addMan (v0 : Nat) (v1 : Int32) (h : mj_H) : Option (mj_H) := f_X2_addMan_3 v0 v1 (6 : Int32) h
set_option maxHeartbeats 4000000 in
set_option maxRecDepth 100000 in
theorem c_X2_addMan (v0 : Nat) (v1 : Int32) (h : mj_H) (p : mj_H) (hf : f_X2_addMan v0 v1 h = some p) : mj_Met mX2_addMan [.ref v0, .int v1] h none p := by
  refine mj_met pl_X2 tok_X2_addMan (Nat.le_of_ble_eq_true rfl) ?_
  show mj_W mX2_addMan (mj_FV p) 0 [(0, .ref v0), (1, .int v1)] [] h 0 0
  unfold f_X2_addMan at hf
  refine mj_blk k_X2_ok 0 2 (pc' := 3) (l' := [(2, .int (6 : Int32)), (0, .ref v0), (1, .int v1)]) (st' := []) rfl ?_
  refine mj_locs [1, 2, 0] (l' := [(0, .ref v0), (1, .int v1), (2, .int (6 : Int32))]) rfl ?_
  exact w_X2_addMan_3 v0 v1 (6 : Int32) h _ hf
def f_X2_waysToHold_90 (K65 : Nat → Int32 → Int64 → Int32 → mj_H → Option (Int64 × mj_H)) (v0 : Nat) (v2 : Int32) (v5 : Int32) (s0 : Int64) (s1 : Int64) (h : mj_H) : Option (Int64 × mj_H) := K65 v0 v2 (s0 + s1) (v5 + (1 : Int32)) h
set_option maxHeartbeats 4000000 in
set_option maxRecDepth 100000 in
theorem w_X2_waysToHold_90 (K65 : Nat → Int32 → Int64 → Int32 → mj_H → Option (Int64 × mj_H)) (hK65 : ∀ (v0 : Nat) (v2 : Int32) (v3 : Int64) (v5 : Int32)  (h : mj_H) (p : Int64 × mj_H), K65 v0 v2 v3 v5 h = some p → mj_W mX2_waysToHold (mj_FJ p) 65 [(0, .ref v0), (2, .int v2), (3, .long v3), (5, .int v5)] [] h 0 0) (v0 : Nat) (v2 : Int32) (v5 : Int32) (s0 : Int64) (s1 : Int64) (h : mj_H) (p : Int64 × mj_H) (hf : f_X2_waysToHold_90 K65 v0 v2 v5 s0 s1 h = some p) : mj_W mX2_waysToHold (mj_FJ p) 90 [(0, .ref v0), (2, .int v2), (5, .int v5)] [.long s1, .long s0] h 0 0 := by
  unfold f_X2_waysToHold_90 at hf
  refine mj_blk k_X2_ok 51 4 (pc' := 65) (l' := [(5, .int (v5 + (1 : Int32))), (3, .long (s0 + s1)), (0, .ref v0), (2, .int v2)]) (st' := []) rfl ?_
  refine mj_locs [2, 3, 1, 0] (l' := [(0, .ref v0), (2, .int v2), (3, .long (s0 + s1)), (5, .int (v5 + (1 : Int32)))]) rfl ?_
  exact hK65 v0 v2 (s0 + s1) (v5 + (1 : Int32)) h _ hf
def b_X2_waysToHold_65 (K65 : Nat → Int32 → Int64 → Int32 → mj_H → Option (Int64 × mj_H)) (v0 : Nat) (v2 : Int32) (v3 : Int64) (v5 : Int32) (h : mj_H) : Option (Int64 × mj_H) := (if (6 : Int32) < v5 then some (v3, h) else (if v5 < v2 then f_X2_waysToHold_90 K65 v0 v2 v5 v3 (0 : Int64) h else (mj_gR h v0 2 1).bind fun x1 => (mj_aJ h x1 v5).bind fun x2 => f_X2_waysToHold_90 K65 v0 v2 v5 v3 x2 h))
set_option maxHeartbeats 4000000 in
set_option maxRecDepth 100000 in
theorem wb_X2_waysToHold_65 (K65 : Nat → Int32 → Int64 → Int32 → mj_H → Option (Int64 × mj_H)) (hK65 : ∀ (v0 : Nat) (v2 : Int32) (v3 : Int64) (v5 : Int32)  (h : mj_H) (p : Int64 × mj_H), K65 v0 v2 v3 v5 h = some p → mj_W mX2_waysToHold (mj_FJ p) 65 [(0, .ref v0), (2, .int v2), (3, .long v3), (5, .int v5)] [] h 0 0) (v0 : Nat) (v2 : Int32) (v3 : Int64) (v5 : Int32) (h : mj_H) (p : Int64 × mj_H) (hf : b_X2_waysToHold_65  K65 v0 v2 v3 v5 h = some p) : mj_W mX2_waysToHold (mj_FJ p) 65 [(0, .ref v0), (2, .int v2), (3, .long v3), (5, .int v5)] [] h 0 0 := by
  unfold b_X2_waysToHold_65 at hf
  refine mj_blk k_X2_ok 38 2 (pc' := 69) (l' := [(0, .ref v0), (2, .int v2), (3, .long v3), (5, .int v5)]) (st' := [.int (6 : Int32), .int v5]) rfl ?_
  refine mj_icmp_gt 40 98 rfl (by decide) (fun q => ?_) (fun q => ?_)
  · have hf := (if_pos q).symm.trans hf
    refine mj_blk k_X2_ok 55 1 (pc' := 99) (l' := [(0, .ref v0), (2, .int v2), (3, .long v3), (5, .int v5)]) (st' := [.long v3]) rfl ?_
    obtain rfl := Option.some.inj hf
    exact mj_end (some (.long v3)) ⟨mj_dec tok_X2_waysToHold (a := 56) rfl, rfl⟩ ⟨rfl, rfl⟩ (Nat.le_of_ble_eq_true rfl) (Nat.le_of_ble_eq_true rfl)
  · have hf := (if_neg q).symm.trans hf
    refine mj_blk k_X2_ok 41 3 (pc' := 76) (l' := [(0, .ref v0), (2, .int v2), (3, .long v3), (5, .int v5)]) (st' := [.int v2, .int v5, .long v3]) rfl ?_
    refine mj_icmp_lt 44 89 rfl (by decide) (fun q => ?_) (fun q => ?_)
    · have hf := (if_pos q).symm.trans hf
      refine mj_blk k_X2_ok 50 1 (pc' := 90) (l' := [(0, .ref v0), (2, .int v2), (3, .long v3), (5, .int v5)]) (st' := [.long (0 : Int64), .long v3]) rfl ?_
      refine mj_locs [0, 1, 3] (l' := [(0, .ref v0), (2, .int v2), (5, .int v5)]) rfl ?_
      exact w_X2_waysToHold_90 K65 hK65 v0 v2 v5 v3 (0 : Int64) h _ hf
    · have hf := (if_neg q).symm.trans hf
      refine mj_blk k_X2_ok 45 1 (pc' := 80) (l' := [(0, .ref v0), (2, .int v2), (3, .long v3), (5, .int v5)]) (st' := [.ref v0, .long v3]) rfl ?_
      obtain ⟨x1, ex1, hf⟩ := mj_bd hf
      refine mj_get 46 rfl fl_X2_15 (mj_gR_V ex1) ?_
      refine mj_blk k_X2_ok 47 1 (pc' := 85) (l' := [(0, .ref v0), (2, .int v2), (3, .long v3), (5, .int v5)]) (st' := [.int v5, .ref x1, .long v3]) rfl ?_
      obtain ⟨x2, ex2, hf⟩ := mj_bd hf
      refine mj_lald 48 rfl ex2 ?_
      refine mj_blk k_X2_ok 49 1 (pc' := 90) (l' := [(0, .ref v0), (2, .int v2), (3, .long v3), (5, .int v5)]) (st' := [.long x2, .long v3]) rfl ?_
      refine mj_locs [0, 1, 3] (l' := [(0, .ref v0), (2, .int v2), (5, .int v5)]) rfl ?_
      exact w_X2_waysToHold_90 K65 hK65 v0 v2 v5 v3 x2 h _ hf
def f_X2_waysToHold_65 (v0 : Nat) (v2 : Int32) (v3 : Int64) (v5 : Int32) (h : mj_H) : Option (Int64 × mj_H) := mj_fix (fun (K65 : (Nat × Int32 × Int64 × Int32 × mj_H) → Option (Int64 × mj_H)) (s : Nat × Int32 × Int64 × Int32 × mj_H) => b_X2_waysToHold_65  (fun v0 v2 v3 v5 h => K65 (v0, v2, v3, v5, h)) s.1 s.2.1 s.2.2.1 s.2.2.2.1 s.2.2.2.2) 1000 (v0, v2, v3, v5, h)
set_option maxHeartbeats 4000000 in
set_option maxRecDepth 100000 in
theorem w_X2_waysToHold_65 (v0 : Nat) (v2 : Int32) (v3 : Int64) (v5 : Int32) (h : mj_H) (p : Int64 × mj_H) (hf : f_X2_waysToHold_65  v0 v2 v3 v5 h = some p) : mj_W mX2_waysToHold (mj_FJ p) 65 [(0, .ref v0), (2, .int v2), (3, .long v3), (5, .int v5)] [] h 0 0 := by
  unfold f_X2_waysToHold_65 at hf
  exact mj_fix_ind (F := (fun (K65 : (Nat × Int32 × Int64 × Int32 × mj_H) → Option (Int64 × mj_H)) (s : Nat × Int32 × Int64 × Int32 × mj_H) => b_X2_waysToHold_65  (fun v0 v2 v3 v5 h => K65 (v0, v2, v3, v5, h)) s.1 s.2.1 s.2.2.1 s.2.2.2.1 s.2.2.2.2)) (P := fun s p => mj_W mX2_waysToHold (mj_FJ p) 65 [(0, .ref s.1), (2, .int s.2.1), (3, .long s.2.2.1), (5, .int s.2.2.2.1)] [] s.2.2.2.2 0 0) (fun K65 hK65 s p hf => wb_X2_waysToHold_65   (fun v0 v2 v3 v5 h => K65 (v0, v2, v3, v5, h)) (fun v0 v2 v3 v5 h p e => hK65 (v0, v2, v3, v5, h) p e) s.1 s.2.1 s.2.2.1 s.2.2.2.1 s.2.2.2.2 p hf) 1000 (v0, v2, v3, v5, h) p hf
def f_X2_waysToHold_54 (K30 : Nat → Int32 → Int32 → Int32 → mj_H → Option (Int64 × mj_H)) (v0 : Nat) (v1 : Int32) (v2 : Int32) (v3 : Int32) (h : mj_H) : Option (Int64 × mj_H) := K30 v0 v1 v2 (v3 + (1 : Int32)) h
set_option maxHeartbeats 4000000 in
set_option maxRecDepth 100000 in
theorem w_X2_waysToHold_54 (K30 : Nat → Int32 → Int32 → Int32 → mj_H → Option (Int64 × mj_H)) (hK30 : ∀ (v0 : Nat) (v1 : Int32) (v2 : Int32) (v3 : Int32)  (h : mj_H) (p : Int64 × mj_H), K30 v0 v1 v2 v3 h = some p → mj_W mX2_waysToHold (mj_FJ p) 30 [(0, .ref v0), (1, .int v1), (2, .int v2), (3, .int v3)] [] h 0 0) (v0 : Nat) (v1 : Int32) (v2 : Int32) (v3 : Int32) (h : mj_H) (p : Int64 × mj_H) (hf : f_X2_waysToHold_54 K30 v0 v1 v2 v3 h = some p) : mj_W mX2_waysToHold (mj_FJ p) 54 [(0, .ref v0), (1, .int v1), (2, .int v2), (3, .int v3)] [] h 0 0 := by
  unfold f_X2_waysToHold_54 at hf
  refine mj_blk k_X2_ok 32 2 (pc' := 30) (l' := [(3, .int (v3 + (1 : Int32))), (0, .ref v0), (1, .int v1), (2, .int v2)]) (st' := []) rfl ?_
  refine mj_locs [1, 2, 3, 0] (l' := [(0, .ref v0), (1, .int v1), (2, .int v2), (3, .int (v3 + (1 : Int32)))]) rfl ?_
  exact hK30 v0 v1 v2 (v3 + (1 : Int32)) h _ hf
def b_X2_waysToHold_30 (K30 : Nat → Int32 → Int32 → Int32 → mj_H → Option (Int64 × mj_H)) (v0 : Nat) (v1 : Int32) (v2 : Int32) (v3 : Int32) (h : mj_H) : Option (Int64 × mj_H) := (if (6 : Int32) ≤ v3 then f_X2_waysToHold_65 v0 v2 (0 : Int64) (0 : Int32) h else (f_X8_isIn v1 v3 h).bind fun p3 => (if p3.1 = 0 then f_X2_waysToHold_54 K30 v0 v1 v2 v3 p3.2 else (mj_gR p3.2 v0 2 0).bind fun x4 => (mj_aI p3.2 x4 v3).bind fun x5 => (if mj_ob p3.2 v0 2 = true then (f_X2_addMan v0 x5 p3.2).bind fun p6 => f_X2_waysToHold_54 K30 v0 v1 v2 v3 p6 else none)))
set_option maxHeartbeats 4000000 in
set_option maxRecDepth 100000 in
theorem wb_X2_waysToHold_30 (K30 : Nat → Int32 → Int32 → Int32 → mj_H → Option (Int64 × mj_H)) (hK30 : ∀ (v0 : Nat) (v1 : Int32) (v2 : Int32) (v3 : Int32)  (h : mj_H) (p : Int64 × mj_H), K30 v0 v1 v2 v3 h = some p → mj_W mX2_waysToHold (mj_FJ p) 30 [(0, .ref v0), (1, .int v1), (2, .int v2), (3, .int v3)] [] h 0 0) (v0 : Nat) (v1 : Int32) (v2 : Int32) (v3 : Int32) (h : mj_H) (p : Int64 × mj_H) (hf : b_X2_waysToHold_30  K30 v0 v1 v2 v3 h = some p) : mj_W mX2_waysToHold (mj_FJ p) 30 [(0, .ref v0), (1, .int v1), (2, .int v2), (3, .int v3)] [] h 0 0 := by
  unfold b_X2_waysToHold_30 at hf
  refine mj_blk k_X2_ok 19 2 (pc' := 33) (l' := [(0, .ref v0), (1, .int v1), (2, .int v2), (3, .int v3)]) (st' := [.int (6 : Int32), .int v3]) rfl ?_
  refine mj_icmp_ge 21 60 rfl (by decide) (fun q => ?_) (fun q => ?_)
  · have hf := (if_pos q).symm.trans hf
    refine mj_blk k_X2_ok 34 4 (pc' := 65) (l' := [(5, .int (0 : Int32)), (3, .long (0 : Int64)), (0, .ref v0), (1, .int v1), (2, .int v2)]) (st' := []) rfl ?_
    refine mj_locs [2, 4, 1, 0] (l' := [(0, .ref v0), (2, .int v2), (3, .long (0 : Int64)), (5, .int (0 : Int32))]) rfl ?_
    exact w_X2_waysToHold_65 v0 v2 (0 : Int64) (0 : Int32) h _ hf
  · have hf := (if_neg q).symm.trans hf
    refine mj_blk k_X2_ok 22 2 (pc' := 38) (l' := [(0, .ref v0), (1, .int v1), (2, .int v2), (3, .int v3)]) (st' := [.int v3, .int v1]) rfl ?_
    obtain ⟨p3, ep3, hf⟩ := mj_bd hf
    refine mj_callS mX8_isIn [.int v1, .int v3] 24 rfl ll_X2_33 lb_X8_isIn li_X8_isIn ⟨Nat.le_of_ble_eq_true rfl, Nat.le_of_ble_eq_true rfl⟩ rfl (rest := []) rfl (Nat.le_of_ble_eq_true rfl) ⟨Nat.le_of_ble_eq_true rfl, Nat.le_of_ble_eq_true rfl⟩ (c_X8_isIn v1 v3 h p3 ep3) ?_
    show mj_W mX2_waysToHold (mj_FJ p) 41 [(0, .ref v0), (1, .int v1), (2, .int v2), (3, .int v3)] [.int p3.1] p3.2 0 0
    refine mj_if_eq 25 54 rfl (by decide) (fun q => ?_) (fun q => ?_)
    · have hf := (if_pos q).symm.trans hf
      exact w_X2_waysToHold_54 K30 hK30 v0 v1 v2 v3 p3.2 _ hf
    · have hf := (if_neg q).symm.trans hf
      refine mj_blk k_X2_ok 26 2 (pc' := 46) (l' := [(0, .ref v0), (1, .int v1), (2, .int v2), (3, .int v3)]) (st' := [.ref v0, .ref v0]) rfl ?_
      obtain ⟨x4, ex4, hf⟩ := mj_bd hf
      refine mj_get 28 rfl fl_X2_9 (mj_gR_V ex4) ?_
      refine mj_blk k_X2_ok 29 1 (pc' := 50) (l' := [(0, .ref v0), (1, .int v1), (2, .int v2), (3, .int v3)]) (st' := [.int v3, .ref x4, .ref v0]) rfl ?_
      obtain ⟨x5, ex5, hf⟩ := mj_bd hf
      refine mj_iald 30 rfl ex5 ?_
      obtain ⟨gp6, hf⟩ := mj_gd hf
      obtain ⟨p6, ep6, hf⟩ := mj_bd hf
      refine mj_callV (T := TX2) (N := 3) (ci := 2) mX2_addMan [.int x5] 31 rfl ll_X2_37 lb_X2_addMan li_X2_addMan ⟨Nat.le_of_ble_eq_true rfl, Nat.le_of_ble_eq_true rfl⟩ rfl gp6 rfl (rest := []) rfl (Nat.le_of_ble_eq_true rfl) ⟨Nat.le_of_ble_eq_true rfl, Nat.le_of_ble_eq_true rfl⟩ (c_X2_addMan v0 x5 p3.2 p6 ep6) ?_
      show mj_W mX2_waysToHold (mj_FJ p) 54 [(0, .ref v0), (1, .int v1), (2, .int v2), (3, .int v3)] [] p6 0 0
      exact w_X2_waysToHold_54 K30 hK30 v0 v1 v2 v3 p6 _ hf
def f_X2_waysToHold_30 (v0 : Nat) (v1 : Int32) (v2 : Int32) (v3 : Int32) (h : mj_H) : Option (Int64 × mj_H) := mj_fix (fun (K30 : (Nat × Int32 × Int32 × Int32 × mj_H) → Option (Int64 × mj_H)) (s : Nat × Int32 × Int32 × Int32 × mj_H) => b_X2_waysToHold_30  (fun v0 v1 v2 v3 h => K30 (v0, v1, v2, v3, h)) s.1 s.2.1 s.2.2.1 s.2.2.2.1 s.2.2.2.2) 1000 (v0, v1, v2, v3, h)
set_option maxHeartbeats 4000000 in
set_option maxRecDepth 100000 in
theorem w_X2_waysToHold_30 (v0 : Nat) (v1 : Int32) (v2 : Int32) (v3 : Int32) (h : mj_H) (p : Int64 × mj_H) (hf : f_X2_waysToHold_30  v0 v1 v2 v3 h = some p) : mj_W mX2_waysToHold (mj_FJ p) 30 [(0, .ref v0), (1, .int v1), (2, .int v2), (3, .int v3)] [] h 0 0 := by
  unfold f_X2_waysToHold_30 at hf
  exact mj_fix_ind (F := (fun (K30 : (Nat × Int32 × Int32 × Int32 × mj_H) → Option (Int64 × mj_H)) (s : Nat × Int32 × Int32 × Int32 × mj_H) => b_X2_waysToHold_30  (fun v0 v1 v2 v3 h => K30 (v0, v1, v2, v3, h)) s.1 s.2.1 s.2.2.1 s.2.2.2.1 s.2.2.2.2)) (P := fun s p => mj_W mX2_waysToHold (mj_FJ p) 30 [(0, .ref s.1), (1, .int s.2.1), (2, .int s.2.2.1), (3, .int s.2.2.2.1)] [] s.2.2.2.2 0 0) (fun K30 hK30 s p hf => wb_X2_waysToHold_30   (fun v0 v1 v2 v3 h => K30 (v0, v1, v2, v3, h)) (fun v0 v1 v2 v3 h p e => hK30 (v0, v1, v2, v3, h) p e) s.1 s.2.1 s.2.2.1 s.2.2.2.1 s.2.2.2.2 p hf) 1000 (v0, v1, v2, v3, h) p hf
def b_X2_waysToHold_2 (K2 : Nat → Int32 → Int32 → Int32 → mj_H → Option (Int64 × mj_H)) (v0 : Nat) (v1 : Int32) (v2 : Int32) (v3 : Int32) (h : mj_H) : Option (Int64 × mj_H) := (if (6 : Int32) < v3 then (mj_gR h v0 2 1).bind fun x7 => (mj_uJ h x7 (0 : Int32) (1 : Int64)).bind fun h8 => f_X2_waysToHold_30 v0 v1 v2 (0 : Int32) h8 else (mj_gR h v0 2 1).bind fun x9 => (mj_uJ h x9 v3 (0 : Int64)).bind fun h10 => K2 v0 v1 v2 (v3 + (1 : Int32)) h10)
set_option maxHeartbeats 4000000 in
set_option maxRecDepth 100000 in
theorem wb_X2_waysToHold_2 (K2 : Nat → Int32 → Int32 → Int32 → mj_H → Option (Int64 × mj_H)) (hK2 : ∀ (v0 : Nat) (v1 : Int32) (v2 : Int32) (v3 : Int32)  (h : mj_H) (p : Int64 × mj_H), K2 v0 v1 v2 v3 h = some p → mj_W mX2_waysToHold (mj_FJ p) 2 [(0, .ref v0), (1, .int v1), (2, .int v2), (3, .int v3)] [] h 0 0) (v0 : Nat) (v1 : Int32) (v2 : Int32) (v3 : Int32) (h : mj_H) (p : Int64 × mj_H) (hf : b_X2_waysToHold_2  K2 v0 v1 v2 v3 h = some p) : mj_W mX2_waysToHold (mj_FJ p) 2 [(0, .ref v0), (1, .int v1), (2, .int v2), (3, .int v3)] [] h 0 0 := by
  unfold b_X2_waysToHold_2 at hf
  refine mj_blk k_X2_ok 2 2 (pc' := 5) (l' := [(0, .ref v0), (1, .int v1), (2, .int v2), (3, .int v3)]) (st' := [.int (6 : Int32), .int v3]) rfl ?_
  refine mj_icmp_gt 4 21 rfl (by decide) (fun q => ?_) (fun q => ?_)
  · have hf := (if_pos q).symm.trans hf
    refine mj_blk k_X2_ok 12 1 (pc' := 22) (l' := [(0, .ref v0), (1, .int v1), (2, .int v2), (3, .int v3)]) (st' := [.ref v0]) rfl ?_
    obtain ⟨x7, ex7, hf⟩ := mj_bd hf
    refine mj_get 13 rfl fl_X2_15 (mj_gR_V ex7) ?_
    refine mj_blk k_X2_ok 14 2 (pc' := 27) (l' := [(0, .ref v0), (1, .int v1), (2, .int v2), (3, .int v3)]) (st' := [.long (1 : Int64), .int (0 : Int32), .ref x7]) rfl ?_
    obtain ⟨h8, eh8, hf⟩ := mj_bd hf
    refine mj_last 16 rfl eh8 ?_
    refine mj_blk k_X2_ok 17 2 (pc' := 30) (l' := [(3, .int (0 : Int32)), (0, .ref v0), (1, .int v1), (2, .int v2)]) (st' := []) rfl ?_
    refine mj_locs [1, 2, 3, 0] (l' := [(0, .ref v0), (1, .int v1), (2, .int v2), (3, .int (0 : Int32))]) rfl ?_
    exact w_X2_waysToHold_30 v0 v1 v2 (0 : Int32) h8 _ hf
  · have hf := (if_neg q).symm.trans hf
    refine mj_blk k_X2_ok 5 1 (pc' := 9) (l' := [(0, .ref v0), (1, .int v1), (2, .int v2), (3, .int v3)]) (st' := [.ref v0]) rfl ?_
    obtain ⟨x9, ex9, hf⟩ := mj_bd hf
    refine mj_get 6 rfl fl_X2_15 (mj_gR_V ex9) ?_
    refine mj_blk k_X2_ok 7 2 (pc' := 14) (l' := [(0, .ref v0), (1, .int v1), (2, .int v2), (3, .int v3)]) (st' := [.long (0 : Int64), .int v3, .ref x9]) rfl ?_
    obtain ⟨h10, eh10, hf⟩ := mj_bd hf
    refine mj_last 9 rfl eh10 ?_
    refine mj_blk k_X2_ok 10 2 (pc' := 2) (l' := [(3, .int (v3 + (1 : Int32))), (0, .ref v0), (1, .int v1), (2, .int v2)]) (st' := []) rfl ?_
    refine mj_locs [1, 2, 3, 0] (l' := [(0, .ref v0), (1, .int v1), (2, .int v2), (3, .int (v3 + (1 : Int32)))]) rfl ?_
    exact hK2 v0 v1 v2 (v3 + (1 : Int32)) h10 _ hf
def f_X2_waysToHold_2 (v0 : Nat) (v1 : Int32) (v2 : Int32) (v3 : Int32) (h : mj_H) : Option (Int64 × mj_H) := mj_fix (fun (K2 : (Nat × Int32 × Int32 × Int32 × mj_H) → Option (Int64 × mj_H)) (s : Nat × Int32 × Int32 × Int32 × mj_H) => b_X2_waysToHold_2  (fun v0 v1 v2 v3 h => K2 (v0, v1, v2, v3, h)) s.1 s.2.1 s.2.2.1 s.2.2.2.1 s.2.2.2.2) 1000 (v0, v1, v2, v3, h)
set_option maxHeartbeats 4000000 in
set_option maxRecDepth 100000 in
theorem w_X2_waysToHold_2 (v0 : Nat) (v1 : Int32) (v2 : Int32) (v3 : Int32) (h : mj_H) (p : Int64 × mj_H) (hf : f_X2_waysToHold_2  v0 v1 v2 v3 h = some p) : mj_W mX2_waysToHold (mj_FJ p) 2 [(0, .ref v0), (1, .int v1), (2, .int v2), (3, .int v3)] [] h 0 0 := by
  unfold f_X2_waysToHold_2 at hf
  exact mj_fix_ind (F := (fun (K2 : (Nat × Int32 × Int32 × Int32 × mj_H) → Option (Int64 × mj_H)) (s : Nat × Int32 × Int32 × Int32 × mj_H) => b_X2_waysToHold_2  (fun v0 v1 v2 v3 h => K2 (v0, v1, v2, v3, h)) s.1 s.2.1 s.2.2.1 s.2.2.2.1 s.2.2.2.2)) (P := fun s p => mj_W mX2_waysToHold (mj_FJ p) 2 [(0, .ref s.1), (1, .int s.2.1), (2, .int s.2.2.1), (3, .int s.2.2.2.1)] [] s.2.2.2.2 0 0) (fun K2 hK2 s p hf => wb_X2_waysToHold_2   (fun v0 v1 v2 v3 h => K2 (v0, v1, v2, v3, h)) (fun v0 v1 v2 v3 h p e => hK2 (v0, v1, v2, v3, h) p e) s.1 s.2.1 s.2.2.1 s.2.2.2.1 s.2.2.2.2 p hf) 1000 (v0, v1, v2, v3, h) p hf
def f_X2_waysToHold (v0 : Nat) (v1 : Int32) (v2 : Int32) (h : mj_H) : Option (Int64 × mj_H) := f_X2_waysToHold_2 v0 v1 v2 (1 : Int32) h
set_option maxHeartbeats 4000000 in
set_option maxRecDepth 100000 in
theorem c_X2_waysToHold (v0 : Nat) (v1 : Int32) (v2 : Int32) (h : mj_H) (p : Int64 × mj_H) (hf : f_X2_waysToHold v0 v1 v2 h = some p) : mj_Met mX2_waysToHold [.ref v0, .int v1, .int v2] h (some (.long p.1)) p.2 := by
  refine mj_met pl_X2 tok_X2_waysToHold (Nat.le_of_ble_eq_true rfl) ?_
  show mj_W mX2_waysToHold (mj_FJ p) 0 [(0, .ref v0), (1, .int v1), (2, .int v2)] [] h 0 0
  unfold f_X2_waysToHold at hf
  refine mj_blk k_X2_ok 0 2 (pc' := 2) (l' := [(3, .int (1 : Int32)), (0, .ref v0), (1, .int v1), (2, .int v2)]) (st' := []) rfl ?_
  refine mj_locs [1, 2, 3, 0] (l' := [(0, .ref v0), (1, .int v1), (2, .int v2), (3, .int (1 : Int32))]) rfl ?_
  exact w_X2_waysToHold_2 v0 v1 v2 (1 : Int32) h _ hf
def f_X2_chooseBest_52 (K8 : Nat → Int32 → Int32 → Int32 → Int64 → Int32 → mj_H → Option (Int64 × mj_H)) (v0 : Nat) (v1 : Int32) (v2 : Int32) (v3 : Int32) (v4 : Int64) (v6 : Int32) (h : mj_H) : Option (Int64 × mj_H) := K8 v0 v1 v2 v3 v4 (v6 + (1 : Int32)) h
set_option maxHeartbeats 4000000 in
set_option maxRecDepth 100000 in
theorem w_X2_chooseBest_52 (K8 : Nat → Int32 → Int32 → Int32 → Int64 → Int32 → mj_H → Option (Int64 × mj_H)) (hK8 : ∀ (v0 : Nat) (v1 : Int32) (v2 : Int32) (v3 : Int32) (v4 : Int64) (v6 : Int32)  (h : mj_H) (p : Int64 × mj_H), K8 v0 v1 v2 v3 v4 v6 h = some p → mj_W mX2_chooseBest (mj_FJ p) 8 [(0, .ref v0), (1, .int v1), (2, .int v2), (3, .int v3), (4, .long v4), (6, .int v6)] [] h 0 0) (v0 : Nat) (v1 : Int32) (v2 : Int32) (v3 : Int32) (v4 : Int64) (v6 : Int32) (h : mj_H) (p : Int64 × mj_H) (hf : f_X2_chooseBest_52 K8 v0 v1 v2 v3 v4 v6 h = some p) : mj_W mX2_chooseBest (mj_FJ p) 52 [(0, .ref v0), (1, .int v1), (2, .int v2), (3, .int v3), (4, .long v4), (6, .int v6)] [] h 0 0 := by
  unfold f_X2_chooseBest_52 at hf
  refine mj_blk k_X2_ok 27 2 (pc' := 8) (l' := [(6, .int (v6 + (1 : Int32))), (0, .ref v0), (1, .int v1), (2, .int v2), (3, .int v3), (4, .long v4)]) (st' := []) rfl ?_
  refine mj_locs [1, 2, 3, 4, 5, 0] (l' := [(0, .ref v0), (1, .int v1), (2, .int v2), (3, .int v3), (4, .long v4), (6, .int (v6 + (1 : Int32)))]) rfl ?_
  exact hK8 v0 v1 v2 v3 v4 (v6 + (1 : Int32)) h _ hf
def b_X2_chooseBest_8 (K8 : Nat → Int32 → Int32 → Int32 → Int64 → Int32 → mj_H → Option (Int64 × mj_H)) (v0 : Nat) (v1 : Int32) (v2 : Int32) (v3 : Int32) (v4 : Int64) (v6 : Int32) (h : mj_H) : Option (Int64 × mj_H) := (if ((1 : Int32) <<< (v1 &&& 31)) ≤ v6 then some (v4, h) else (f_J6_bitCount_0f7a4 v6 h).bind fun p1 => (if p1.1 = v2 then (if mj_ob p1.2 v0 2 = true then (f_X2_waysToHold v0 v6 v3 p1.2).bind fun p2 => (if p2.1 ≤ v4 then f_X2_chooseBest_52 K8 v0 v1 v2 v3 v4 v6 p2.2 else (mj_sV p2.2 v0 2 2 (.int v6)).bind fun h3 => f_X2_chooseBest_52 K8 v0 v1 v2 v3 p2.1 v6 h3) else none) else f_X2_chooseBest_52 K8 v0 v1 v2 v3 v4 v6 p1.2))
set_option maxHeartbeats 4000000 in
set_option maxRecDepth 100000 in
theorem wb_X2_chooseBest_8 (K8 : Nat → Int32 → Int32 → Int32 → Int64 → Int32 → mj_H → Option (Int64 × mj_H)) (hK8 : ∀ (v0 : Nat) (v1 : Int32) (v2 : Int32) (v3 : Int32) (v4 : Int64) (v6 : Int32)  (h : mj_H) (p : Int64 × mj_H), K8 v0 v1 v2 v3 v4 v6 h = some p → mj_W mX2_chooseBest (mj_FJ p) 8 [(0, .ref v0), (1, .int v1), (2, .int v2), (3, .int v3), (4, .long v4), (6, .int v6)] [] h 0 0) (v0 : Nat) (v1 : Int32) (v2 : Int32) (v3 : Int32) (v4 : Int64) (v6 : Int32) (h : mj_H) (p : Int64 × mj_H) (hf : b_X2_chooseBest_8  K8 v0 v1 v2 v3 v4 v6 h = some p) : mj_W mX2_chooseBest (mj_FJ p) 8 [(0, .ref v0), (1, .int v1), (2, .int v2), (3, .int v3), (4, .long v4), (6, .int v6)] [] h 0 0 := by
  unfold b_X2_chooseBest_8 at hf
  refine mj_blk k_X2_ok 4 4 (pc' := 13) (l' := [(0, .ref v0), (1, .int v1), (2, .int v2), (3, .int v3), (4, .long v4), (6, .int v6)]) (st' := [.int ((1 : Int32) <<< (v1 &&& 31)), .int v6]) rfl ?_
  refine mj_icmp_ge 8 58 rfl (by decide) (fun q => ?_) (fun q => ?_)
  · have hf := (if_pos q).symm.trans hf
    refine mj_blk k_X2_ok 29 1 (pc' := 60) (l' := [(0, .ref v0), (1, .int v1), (2, .int v2), (3, .int v3), (4, .long v4), (6, .int v6)]) (st' := [.long v4]) rfl ?_
    obtain rfl := Option.some.inj hf
    exact mj_end (some (.long v4)) ⟨mj_dec tok_X2_chooseBest (a := 30) rfl, rfl⟩ ⟨rfl, rfl⟩ (Nat.le_of_ble_eq_true rfl) (Nat.le_of_ble_eq_true rfl)
  · have hf := (if_neg q).symm.trans hf
    refine mj_blk k_X2_ok 9 1 (pc' := 18) (l' := [(0, .ref v0), (1, .int v1), (2, .int v2), (3, .int v3), (4, .long v4), (6, .int v6)]) (st' := [.int v6]) rfl ?_
    obtain ⟨p1, ep1, hf⟩ := mj_bd hf
    refine mj_callS mJ6_bitCount_0f7a4 [.int v6] 10 rfl ll_X2_43 lb_J6_bitCount_0f7a4 li_J6_bitCount_0f7a4 ⟨Nat.le_of_ble_eq_true rfl, Nat.le_of_ble_eq_true rfl⟩ rfl (rest := []) rfl (Nat.le_of_ble_eq_true rfl) ⟨Nat.le_of_ble_eq_true rfl, Nat.le_of_ble_eq_true rfl⟩ (c_J6_bitCount_0f7a4 v6 h p1 ep1) ?_
    show mj_W mX2_chooseBest (mj_FJ p) 21 [(0, .ref v0), (1, .int v1), (2, .int v2), (3, .int v3), (4, .long v4), (6, .int v6)] [.int p1.1] p1.2 0 0
    refine mj_blk k_X2_ok 11 1 (pc' := 22) (l' := [(0, .ref v0), (1, .int v1), (2, .int v2), (3, .int v3), (4, .long v4), (6, .int v6)]) (st' := [.int v2, .int p1.1]) rfl ?_
    refine mj_icmp_ne 12 52 rfl (by decide) (fun q => ?_) (fun q => ?_)
    · have hf := (if_neg q).symm.trans hf
      exact w_X2_chooseBest_52 K8 hK8 v0 v1 v2 v3 v4 v6 p1.2 _ hf
    · have hf := (if_pos q).symm.trans hf
      refine mj_blk k_X2_ok 13 3 (pc' := 29) (l' := [(0, .ref v0), (1, .int v1), (2, .int v2), (3, .int v3), (4, .long v4), (6, .int v6)]) (st' := [.int v3, .int v6, .ref v0]) rfl ?_
      obtain ⟨gp2, hf⟩ := mj_gd hf
      obtain ⟨p2, ep2, hf⟩ := mj_bd hf
      refine mj_callV (T := TX2) (N := 3) (ci := 2) mX2_waysToHold [.int v6, .int v3] 16 rfl ll_X2_48 lb_X2_waysToHold li_X2_waysToHold ⟨Nat.le_of_ble_eq_true rfl, Nat.le_of_ble_eq_true rfl⟩ rfl gp2 rfl (rest := []) rfl (Nat.le_of_ble_eq_true rfl) ⟨Nat.le_of_ble_eq_true rfl, Nat.le_of_ble_eq_true rfl⟩ (c_X2_waysToHold v0 v6 v3 p1.2 p2 ep2) ?_
      show mj_W mX2_chooseBest (mj_FJ p) 32 [(0, .ref v0), (1, .int v1), (2, .int v2), (3, .int v3), (4, .long v4), (6, .int v6)] [.long p2.1] p2.2 0 0
      refine mj_blk k_X2_ok 17 3 (pc' := 38) (l' := [(7, .long p2.1), (0, .ref v0), (1, .int v1), (2, .int v2), (3, .int v3), (4, .long v4), (6, .int v6)]) (st' := [.long v4, .long p2.1]) rfl ?_
      refine mj_lcmp_le 20 52 rfl rfl (by decide) (fun q => ?_) (fun q => ?_)
      · have hf := (if_pos q).symm.trans hf
        refine mj_locs [1, 2, 3, 4, 5, 6] (l' := [(0, .ref v0), (1, .int v1), (2, .int v2), (3, .int v3), (4, .long v4), (6, .int v6)]) rfl ?_
        exact w_X2_chooseBest_52 K8 hK8 v0 v1 v2 v3 v4 v6 p2.2 _ hf
      · have hf := (if_neg q).symm.trans hf
        refine mj_blk k_X2_ok 22 4 (pc' := 49) (l' := [(4, .long p2.1), (7, .long p2.1), (0, .ref v0), (1, .int v1), (2, .int v2), (3, .int v3), (6, .int v6)]) (st' := [.int v6, .ref v0]) rfl ?_
        obtain ⟨h3, eh3, hf⟩ := mj_bd hf
        refine mj_put 26 rfl fp_X2_52 (fun _ => ⟨rfl, rfl⟩) eh3 ?_
        refine mj_locs [2, 3, 4, 5, 0, 6] (l' := [(0, .ref v0), (1, .int v1), (2, .int v2), (3, .int v3), (4, .long p2.1), (6, .int v6)]) rfl ?_
        exact w_X2_chooseBest_52 K8 hK8 v0 v1 v2 v3 p2.1 v6 h3 _ hf
def f_X2_chooseBest_8 (v0 : Nat) (v1 : Int32) (v2 : Int32) (v3 : Int32) (v4 : Int64) (v6 : Int32) (h : mj_H) : Option (Int64 × mj_H) := mj_fix (fun (K8 : (Nat × Int32 × Int32 × Int32 × Int64 × Int32 × mj_H) → Option (Int64 × mj_H)) (s : Nat × Int32 × Int32 × Int32 × Int64 × Int32 × mj_H) => b_X2_chooseBest_8  (fun v0 v1 v2 v3 v4 v6 h => K8 (v0, v1, v2, v3, v4, v6, h)) s.1 s.2.1 s.2.2.1 s.2.2.2.1 s.2.2.2.2.1 s.2.2.2.2.2.1 s.2.2.2.2.2.2) 1000 (v0, v1, v2, v3, v4, v6, h)
set_option maxHeartbeats 4000000 in
set_option maxRecDepth 100000 in
theorem w_X2_chooseBest_8 (v0 : Nat) (v1 : Int32) (v2 : Int32) (v3 : Int32) (v4 : Int64) (v6 : Int32) (h : mj_H) (p : Int64 × mj_H) (hf : f_X2_chooseBest_8  v0 v1 v2 v3 v4 v6 h = some p) : mj_W mX2_chooseBest (mj_FJ p) 8 [(0, .ref v0), (1, .int v1), (2, .int v2), (3, .int v3), (4, .long v4), (6, .int v6)] [] h 0 0 := by
  unfold f_X2_chooseBest_8 at hf
  exact mj_fix_ind (F := (fun (K8 : (Nat × Int32 × Int32 × Int32 × Int64 × Int32 × mj_H) → Option (Int64 × mj_H)) (s : Nat × Int32 × Int32 × Int32 × Int64 × Int32 × mj_H) => b_X2_chooseBest_8  (fun v0 v1 v2 v3 v4 v6 h => K8 (v0, v1, v2, v3, v4, v6, h)) s.1 s.2.1 s.2.2.1 s.2.2.2.1 s.2.2.2.2.1 s.2.2.2.2.2.1 s.2.2.2.2.2.2)) (P := fun s p => mj_W mX2_chooseBest (mj_FJ p) 8 [(0, .ref s.1), (1, .int s.2.1), (2, .int s.2.2.1), (3, .int s.2.2.2.1), (4, .long s.2.2.2.2.1), (6, .int s.2.2.2.2.2.1)] [] s.2.2.2.2.2.2 0 0) (fun K8 hK8 s p hf => wb_X2_chooseBest_8   (fun v0 v1 v2 v3 v4 v6 h => K8 (v0, v1, v2, v3, v4, v6, h)) (fun v0 v1 v2 v3 v4 v6 h p e => hK8 (v0, v1, v2, v3, v4, v6, h) p e) s.1 s.2.1 s.2.2.1 s.2.2.2.1 s.2.2.2.2.1 s.2.2.2.2.2.1 s.2.2.2.2.2.2 p hf) 1000 (v0, v1, v2, v3, v4, v6, h) p hf
def f_X2_chooseBest (v0 : Nat) (v1 : Int32) (v2 : Int32) (v3 : Int32) (h : mj_H) : Option (Int64 × mj_H) := f_X2_chooseBest_8 v0 v1 v2 v3 (-1 : Int64) (0 : Int32) h
set_option maxHeartbeats 4000000 in
set_option maxRecDepth 100000 in
theorem c_X2_chooseBest (v0 : Nat) (v1 : Int32) (v2 : Int32) (v3 : Int32) (h : mj_H) (p : Int64 × mj_H) (hf : f_X2_chooseBest v0 v1 v2 v3 h = some p) : mj_Met mX2_chooseBest [.ref v0, .int v1, .int v2, .int v3] h (some (.long p.1)) p.2 := by
  refine mj_met pl_X2 tok_X2_chooseBest (Nat.le_of_ble_eq_true rfl) ?_
  show mj_W mX2_chooseBest (mj_FJ p) 0 [(0, .ref v0), (1, .int v1), (2, .int v2), (3, .int v3)] [] h 0 0
  unfold f_X2_chooseBest at hf
  refine mj_blk k_X2_ok 0 4 (pc' := 8) (l' := [(6, .int (0 : Int32)), (4, .long (-1 : Int64)), (0, .ref v0), (1, .int v1), (2, .int v2), (3, .int v3)]) (st' := []) rfl ?_
  refine mj_locs [2, 3, 4, 5, 1, 0] (l' := [(0, .ref v0), (1, .int v1), (2, .int v2), (3, .int v3), (4, .long (-1 : Int64)), (6, .int (0 : Int32))]) rfl ?_
  exact w_X2_chooseBest_8 v0 v1 v2 v3 (-1 : Int64) (0 : Int32) h _ hf
def f_X3_push_32 (v0 : Nat) (v1 : Nat) (h : mj_H) : Option (mj_H) := (mj_gI h v0 3 3).bind fun x1 => (mj_gI h v0 3 4).bind fun x2 => (if 0 ≤ ((x1 + x2) - (x1 + x2) / (8 : Int32) * (8 : Int32)) then (mj_gR h v1 0 0).bind fun x3 => (mj_gR h v0 3 0).bind fun x4 => (mj_cpJ h x3 (0 : Int32) x4 (((x1 + x2) - (x1 + x2) / (8 : Int32) * (8 : Int32)) * (36 : Int32)) (36 : Int32)).bind fun h5 => (mj_gR h5 v0 3 1).bind fun x6 => (mj_gI h5 v1 0 5).bind fun x7 => (mj_uI h5 x6 ((x1 + x2) - (x1 + x2) / (8 : Int32) * (8 : Int32)) x7).bind fun h8 => (mj_gR h8 v0 3 2).bind fun x9 => (mj_gI h8 v1 0 6).bind fun x10 => (mj_uI h8 x9 ((x1 + x2) - (x1 + x2) / (8 : Int32) * (8 : Int32)) x10).bind fun h11 => (mj_gI h11 v0 3 4).bind fun x12 => (mj_sV h11 v0 3 4 (.int (x12 + (1 : Int32)))).bind fun h13 => some h13 else some h)
set_option maxHeartbeats 4000000 in
set_option maxRecDepth 100000 in
theorem w_X3_push_32 (v0 : Nat) (v1 : Nat) (h : mj_H) (p : mj_H) (hf : f_X3_push_32  v0 v1 h = some p) : mj_W mX3_push (mj_FV p) 32 [(0, .ref v0), (1, .ref v1)] [] h 0 0 := by
  unfold f_X3_push_32 at hf
  refine mj_blk k_X3_ok 18 1 (pc' := 33) (l' := [(0, .ref v0), (1, .ref v1)]) (st' := [.ref v0]) rfl ?_
  obtain ⟨x1, ex1, hf⟩ := mj_bd hf
  refine mj_get 19 rfl fl_X3_26 (mj_gI_V ex1) ?_
  refine mj_blk k_X3_ok 20 1 (pc' := 37) (l' := [(0, .ref v0), (1, .ref v1)]) (st' := [.ref v0, .int x1]) rfl ?_
  obtain ⟨x2, ex2, hf⟩ := mj_bd hf
  refine mj_get 21 rfl fl_X3_22 (mj_gI_V ex2) ?_
  refine mj_blk k_X3_ok 22 2 (pc' := 43) (l' := [(0, .ref v0), (1, .ref v1)]) (st' := [.int (8 : Int32), .int (x1 + x2)]) rfl ?_
  refine mj_irem 24 rfl (by decide) ?_
  refine mj_blk k_X3_ok 25 2 (pc' := 46) (l' := [(2, .int ((x1 + x2) - (x1 + x2) / (8 : Int32) * (8 : Int32))), (0, .ref v0), (1, .ref v1)]) (st' := [.ref v1]) rfl ?_
  refine mj_ifnull 27 rfl ?_
  refine mj_blk k_X3_ok 28 1 (pc' := 50) (l' := [(2, .int ((x1 + x2) - (x1 + x2) / (8 : Int32) * (8 : Int32))), (0, .ref v0), (1, .ref v1)]) (st' := [.int ((x1 + x2) - (x1 + x2) / (8 : Int32) * (8 : Int32))]) rfl ?_
  refine mj_if_ge 29 54 rfl (by decide) (fun q => ?_) (fun q => ?_)
  · have hf := (if_pos q).symm.trans hf
    refine mj_blk k_X3_ok 31 1 (pc' := 55) (l' := [(2, .int ((x1 + x2) - (x1 + x2) / (8 : Int32) * (8 : Int32))), (0, .ref v0), (1, .ref v1)]) (st' := [.ref v1]) rfl ?_
    obtain ⟨x3, ex3, hf⟩ := mj_bd hf
    refine mj_get 32 rfl fl_X3_29 (mj_gR_V ex3) ?_
    refine mj_blk k_X3_ok 33 2 (pc' := 60) (l' := [(2, .int ((x1 + x2) - (x1 + x2) / (8 : Int32) * (8 : Int32))), (0, .ref v0), (1, .ref v1)]) (st' := [.ref v0, .int (0 : Int32), .ref x3]) rfl ?_
    obtain ⟨x4, ex4, hf⟩ := mj_bd hf
    refine mj_get 35 rfl fl_X3_11 (mj_gR_V ex4) ?_
    refine mj_blk k_X3_ok 36 4 (pc' := 69) (l' := [(2, .int ((x1 + x2) - (x1 + x2) / (8 : Int32) * (8 : Int32))), (0, .ref v0), (1, .ref v1)]) (st' := [.int (36 : Int32), .int (((x1 + x2) - (x1 + x2) / (8 : Int32) * (8 : Int32)) * (36 : Int32)), .ref x4, .int (0 : Int32), .ref x3]) rfl ?_
    obtain ⟨h5, eh5, hf⟩ := mj_bd hf
    refine mj_cpJ_W 40 rfl cp_X3_32 ⟨Nat.le_of_ble_eq_true rfl, Nat.le_of_ble_eq_true rfl⟩ eh5 ?_
    refine mj_blk k_X3_ok 41 1 (pc' := 73) (l' := [(2, .int ((x1 + x2) - (x1 + x2) / (8 : Int32) * (8 : Int32))), (0, .ref v0), (1, .ref v1)]) (st' := [.ref v0]) rfl ?_
    obtain ⟨x6, ex6, hf⟩ := mj_bd hf
    refine mj_get 42 rfl fl_X3_15 (mj_gR_V ex6) ?_
    refine mj_blk k_X3_ok 43 2 (pc' := 78) (l' := [(2, .int ((x1 + x2) - (x1 + x2) / (8 : Int32) * (8 : Int32))), (0, .ref v0), (1, .ref v1)]) (st' := [.ref v1, .int ((x1 + x2) - (x1 + x2) / (8 : Int32) * (8 : Int32)), .ref x6]) rfl ?_
    obtain ⟨x7, ex7, hf⟩ := mj_bd hf
    refine mj_get 45 rfl fl_X3_38 (mj_gI_V ex7) ?_
    obtain ⟨h8, eh8, hf⟩ := mj_bd hf
    refine mj_iast 46 rfl eh8 ?_
    refine mj_blk k_X3_ok 47 1 (pc' := 83) (l' := [(2, .int ((x1 + x2) - (x1 + x2) / (8 : Int32) * (8 : Int32))), (0, .ref v0), (1, .ref v1)]) (st' := [.ref v0]) rfl ?_
    obtain ⟨x9, ex9, hf⟩ := mj_bd hf
    refine mj_get 48 rfl fl_X3_19 (mj_gR_V ex9) ?_
    refine mj_blk k_X3_ok 49 2 (pc' := 88) (l' := [(2, .int ((x1 + x2) - (x1 + x2) / (8 : Int32) * (8 : Int32))), (0, .ref v0), (1, .ref v1)]) (st' := [.ref v1, .int ((x1 + x2) - (x1 + x2) / (8 : Int32) * (8 : Int32)), .ref x9]) rfl ?_
    obtain ⟨x10, ex10, hf⟩ := mj_bd hf
    refine mj_get 51 rfl fl_X3_40 (mj_gI_V ex10) ?_
    obtain ⟨h11, eh11, hf⟩ := mj_bd hf
    refine mj_iast 52 rfl eh11 ?_
    refine mj_blk k_X3_ok 53 2 (pc' := 94) (l' := [(2, .int ((x1 + x2) - (x1 + x2) / (8 : Int32) * (8 : Int32))), (0, .ref v0), (1, .ref v1)]) (st' := [.ref v0, .ref v0]) rfl ?_
    obtain ⟨x12, ex12, hf⟩ := mj_bd hf
    refine mj_get 55 rfl fl_X3_22 (mj_gI_V ex12) ?_
    refine mj_blk k_X3_ok 56 2 (pc' := 99) (l' := [(2, .int ((x1 + x2) - (x1 + x2) / (8 : Int32) * (8 : Int32))), (0, .ref v0), (1, .ref v1)]) (st' := [.int (x12 + (1 : Int32)), .ref v0]) rfl ?_
    obtain ⟨h13, eh13, hf⟩ := mj_bd hf
    refine mj_put 58 rfl fp_X3_22 (fun _ => ⟨rfl, rfl⟩) eh13 ?_
    obtain rfl := Option.some.inj hf
    exact mj_end none ⟨mj_dec tok_X3_push (a := 59) rfl, rfl⟩ ⟨rfl, rfl⟩ (Nat.le_of_ble_eq_true rfl) (Nat.le_of_ble_eq_true rfl)
  · have hf := (if_neg q).symm.trans hf
    obtain rfl := Option.some.inj hf
    exact mj_end none ⟨mj_dec tok_X3_push (a := 30) rfl, rfl⟩ ⟨rfl, rfl⟩ (Nat.le_of_ble_eq_true rfl) (Nat.le_of_ble_eq_true rfl)
def f_X3_push (v0 : Nat) (v1 : Nat) (h : mj_H) : Option (mj_H) := (mj_gI h v0 3 4).bind fun x14 => (if x14 = (8 : Int32) then (mj_gI h v0 3 3).bind fun x15 => (mj_sV h v0 3 3 (.int ((x15 + (1 : Int32)) - (x15 + (1 : Int32)) / (8 : Int32) * (8 : Int32)))).bind fun h16 => (mj_gI h16 v0 3 4).bind fun x17 => (mj_sV h16 v0 3 4 (.int (x17 - (1 : Int32)))).bind fun h18 => f_X3_push_32 v0 v1 h18 else f_X3_push_32 v0 v1 h)
set_option maxHeartbeats 4000000 in
set_option maxRecDepth 100000 in
theorem c_X3_push (v0 : Nat) (v1 : Nat) (h : mj_H) (p : mj_H) (hf : f_X3_push v0 v1 h = some p) : mj_Met mX3_push [.ref v0, .ref v1] h none p := by
  refine mj_met pl_X3 tok_X3_push (Nat.le_of_ble_eq_true rfl) ?_
  show mj_W mX3_push (mj_FV p) 0 [(0, .ref v0), (1, .ref v1)] [] h 0 0
  unfold f_X3_push at hf
  refine mj_blk k_X3_ok 0 1 (pc' := 1) (l' := [(0, .ref v0), (1, .ref v1)]) (st' := [.ref v0]) rfl ?_
  obtain ⟨x14, ex14, hf⟩ := mj_bd hf
  refine mj_get 1 rfl fl_X3_22 (mj_gI_V ex14) ?_
  refine mj_blk k_X3_ok 2 1 (pc' := 6) (l' := [(0, .ref v0), (1, .ref v1)]) (st' := [.int (8 : Int32), .int x14]) rfl ?_
  refine mj_icmp_ne 3 32 rfl (by decide) (fun q => ?_) (fun q => ?_)
  · have hf := (if_neg q).symm.trans hf
    exact w_X3_push_32 v0 v1 h _ hf
  · have hf := (if_pos q).symm.trans hf
    refine mj_blk k_X3_ok 4 2 (pc' := 11) (l' := [(0, .ref v0), (1, .ref v1)]) (st' := [.ref v0, .ref v0]) rfl ?_
    obtain ⟨x15, ex15, hf⟩ := mj_bd hf
    refine mj_get 6 rfl fl_X3_26 (mj_gI_V ex15) ?_
    refine mj_blk k_X3_ok 7 3 (pc' := 18) (l' := [(0, .ref v0), (1, .ref v1)]) (st' := [.int (8 : Int32), .int (x15 + (1 : Int32)), .ref v0]) rfl ?_
    refine mj_irem 10 rfl (by decide) ?_
    obtain ⟨h16, eh16, hf⟩ := mj_bd hf
    refine mj_put 11 rfl fp_X3_26 (fun _ => ⟨rfl, rfl⟩) eh16 ?_
    refine mj_blk k_X3_ok 12 2 (pc' := 24) (l' := [(0, .ref v0), (1, .ref v1)]) (st' := [.ref v0, .ref v0]) rfl ?_
    obtain ⟨x17, ex17, hf⟩ := mj_bd hf
    refine mj_get 14 rfl fl_X3_22 (mj_gI_V ex17) ?_
    refine mj_blk k_X3_ok 15 2 (pc' := 29) (l' := [(0, .ref v0), (1, .ref v1)]) (st' := [.int (x17 - (1 : Int32)), .ref v0]) rfl ?_
    obtain ⟨h18, eh18, hf⟩ := mj_bd hf
    refine mj_put 17 rfl fp_X3_22 (fun _ => ⟨rfl, rfl⟩) eh18 ?_
    exact w_X3_push_32 v0 v1 h18 _ hf
def f_X3_pop (v0 : Nat) (v1 : Nat) (h : mj_H) : Option (Int32 × mj_H) := (mj_gI h v0 3 4).bind fun x1 => (if 0 < x1 then (mj_gI h v0 3 4).bind fun x2 => (mj_sV h v0 3 4 (.int (x2 - (1 : Int32)))).bind fun h3 => (mj_gI h3 v0 3 3).bind fun x4 => (mj_gI h3 v0 3 4).bind fun x5 => (if 0 ≤ ((x4 + x5) - (x4 + x5) / (8 : Int32) * (8 : Int32)) then (mj_gR h3 v0 3 0).bind fun x6 => (mj_gR h3 v1 0 0).bind fun x7 => (mj_cpJ h3 x6 (((x4 + x5) - (x4 + x5) / (8 : Int32) * (8 : Int32)) * (36 : Int32)) x7 (0 : Int32) (36 : Int32)).bind fun h8 => (mj_gR h8 v0 3 1).bind fun x9 => (mj_aI h8 x9 ((x4 + x5) - (x4 + x5) / (8 : Int32) * (8 : Int32))).bind fun x10 => (mj_sV h8 v1 0 5 (.int x10)).bind fun h11 => (mj_gR h11 v0 3 2).bind fun x12 => (mj_aI h11 x12 ((x4 + x5) - (x4 + x5) / (8 : Int32) * (8 : Int32))).bind fun x13 => (mj_sV h11 v1 0 6 (.int x13)).bind fun h14 => some ((1 : Int32), h14) else some ((0 : Int32), h3)) else some ((0 : Int32), h))
set_option maxHeartbeats 4000000 in
set_option maxRecDepth 100000 in
theorem c_X3_pop (v0 : Nat) (v1 : Nat) (h : mj_H) (p : Int32 × mj_H) (hf : f_X3_pop v0 v1 h = some p) : mj_Met mX3_pop [.ref v0, .ref v1] h (some (.int p.1)) p.2 := by
  refine mj_met pl_X3 tok_X3_pop (Nat.le_of_ble_eq_true rfl) ?_
  show mj_W mX3_pop (mj_FI p) 0 [(0, .ref v0), (1, .ref v1)] [] h 0 0
  unfold f_X3_pop at hf
  refine mj_blk k_X3_ok 0 1 (pc' := 1) (l' := [(0, .ref v0), (1, .ref v1)]) (st' := [.ref v1]) rfl ?_
  refine mj_ifnull 1 rfl ?_
  refine mj_blk k_X3_ok 2 1 (pc' := 5) (l' := [(0, .ref v0), (1, .ref v1)]) (st' := [.ref v0]) rfl ?_
  obtain ⟨x1, ex1, hf⟩ := mj_bd hf
  refine mj_get 3 rfl fl_X3_22 (mj_gI_V ex1) ?_
  refine mj_if_gt 4 13 rfl (by decide) (fun q => ?_) (fun q => ?_)
  · have hf := (if_pos q).symm.trans hf
    refine mj_blk k_X3_ok 7 2 (pc' := 15) (l' := [(0, .ref v0), (1, .ref v1)]) (st' := [.ref v0, .ref v0]) rfl ?_
    obtain ⟨x2, ex2, hf⟩ := mj_bd hf
    refine mj_get 9 rfl fl_X3_22 (mj_gI_V ex2) ?_
    refine mj_blk k_X3_ok 10 2 (pc' := 20) (l' := [(0, .ref v0), (1, .ref v1)]) (st' := [.int (x2 - (1 : Int32)), .ref v0]) rfl ?_
    obtain ⟨h3, eh3, hf⟩ := mj_bd hf
    refine mj_put 12 rfl fp_X3_22 (fun _ => ⟨rfl, rfl⟩) eh3 ?_
    refine mj_blk k_X3_ok 13 1 (pc' := 24) (l' := [(0, .ref v0), (1, .ref v1)]) (st' := [.ref v0]) rfl ?_
    obtain ⟨x4, ex4, hf⟩ := mj_bd hf
    refine mj_get 14 rfl fl_X3_26 (mj_gI_V ex4) ?_
    refine mj_blk k_X3_ok 15 1 (pc' := 28) (l' := [(0, .ref v0), (1, .ref v1)]) (st' := [.ref v0, .int x4]) rfl ?_
    obtain ⟨x5, ex5, hf⟩ := mj_bd hf
    refine mj_get 16 rfl fl_X3_22 (mj_gI_V ex5) ?_
    refine mj_blk k_X3_ok 17 2 (pc' := 34) (l' := [(0, .ref v0), (1, .ref v1)]) (st' := [.int (8 : Int32), .int (x4 + x5)]) rfl ?_
    refine mj_irem 19 rfl (by decide) ?_
    refine mj_blk k_X3_ok 20 2 (pc' := 37) (l' := [(2, .int ((x4 + x5) - (x4 + x5) / (8 : Int32) * (8 : Int32))), (0, .ref v0), (1, .ref v1)]) (st' := [.int ((x4 + x5) - (x4 + x5) / (8 : Int32) * (8 : Int32))]) rfl ?_
    refine mj_if_ge 22 42 rfl (by decide) (fun q => ?_) (fun q => ?_)
    · have hf := (if_pos q).symm.trans hf
      refine mj_blk k_X3_ok 25 1 (pc' := 43) (l' := [(2, .int ((x4 + x5) - (x4 + x5) / (8 : Int32) * (8 : Int32))), (0, .ref v0), (1, .ref v1)]) (st' := [.ref v0]) rfl ?_
      obtain ⟨x6, ex6, hf⟩ := mj_bd hf
      refine mj_get 26 rfl fl_X3_11 (mj_gR_V ex6) ?_
      refine mj_blk k_X3_ok 27 4 (pc' := 51) (l' := [(2, .int ((x4 + x5) - (x4 + x5) / (8 : Int32) * (8 : Int32))), (0, .ref v0), (1, .ref v1)]) (st' := [.ref v1, .int (((x4 + x5) - (x4 + x5) / (8 : Int32) * (8 : Int32)) * (36 : Int32)), .ref x6]) rfl ?_
      obtain ⟨x7, ex7, hf⟩ := mj_bd hf
      refine mj_get 31 rfl fl_X3_29 (mj_gR_V ex7) ?_
      refine mj_blk k_X3_ok 32 2 (pc' := 57) (l' := [(2, .int ((x4 + x5) - (x4 + x5) / (8 : Int32) * (8 : Int32))), (0, .ref v0), (1, .ref v1)]) (st' := [.int (36 : Int32), .int (0 : Int32), .ref x7, .int (((x4 + x5) - (x4 + x5) / (8 : Int32) * (8 : Int32)) * (36 : Int32)), .ref x6]) rfl ?_
      obtain ⟨h8, eh8, hf⟩ := mj_bd hf
      refine mj_cpJ_W 34 rfl cp_X3_32 ⟨Nat.le_of_ble_eq_true rfl, Nat.le_of_ble_eq_true rfl⟩ eh8 ?_
      refine mj_blk k_X3_ok 35 2 (pc' := 62) (l' := [(2, .int ((x4 + x5) - (x4 + x5) / (8 : Int32) * (8 : Int32))), (0, .ref v0), (1, .ref v1)]) (st' := [.ref v0, .ref v1]) rfl ?_
      obtain ⟨x9, ex9, hf⟩ := mj_bd hf
      refine mj_get 37 rfl fl_X3_15 (mj_gR_V ex9) ?_
      refine mj_blk k_X3_ok 38 1 (pc' := 66) (l' := [(2, .int ((x4 + x5) - (x4 + x5) / (8 : Int32) * (8 : Int32))), (0, .ref v0), (1, .ref v1)]) (st' := [.int ((x4 + x5) - (x4 + x5) / (8 : Int32) * (8 : Int32)), .ref x9, .ref v1]) rfl ?_
      obtain ⟨x10, ex10, hf⟩ := mj_bd hf
      refine mj_iald 39 rfl ex10 ?_
      obtain ⟨h11, eh11, hf⟩ := mj_bd hf
      refine mj_put 40 rfl fp_X3_38 (fun _ => ⟨rfl, rfl⟩) eh11 ?_
      refine mj_blk k_X3_ok 41 2 (pc' := 72) (l' := [(2, .int ((x4 + x5) - (x4 + x5) / (8 : Int32) * (8 : Int32))), (0, .ref v0), (1, .ref v1)]) (st' := [.ref v0, .ref v1]) rfl ?_
      obtain ⟨x12, ex12, hf⟩ := mj_bd hf
      refine mj_get 43 rfl fl_X3_19 (mj_gR_V ex12) ?_
      refine mj_blk k_X3_ok 44 1 (pc' := 76) (l' := [(2, .int ((x4 + x5) - (x4 + x5) / (8 : Int32) * (8 : Int32))), (0, .ref v0), (1, .ref v1)]) (st' := [.int ((x4 + x5) - (x4 + x5) / (8 : Int32) * (8 : Int32)), .ref x12, .ref v1]) rfl ?_
      obtain ⟨x13, ex13, hf⟩ := mj_bd hf
      refine mj_iald 45 rfl ex13 ?_
      obtain ⟨h14, eh14, hf⟩ := mj_bd hf
      refine mj_put 46 rfl fp_X3_40 (fun _ => ⟨rfl, rfl⟩) eh14 ?_
      refine mj_blk k_X3_ok 47 1 (pc' := 81) (l' := [(2, .int ((x4 + x5) - (x4 + x5) / (8 : Int32) * (8 : Int32))), (0, .ref v0), (1, .ref v1)]) (st' := [.int (1 : Int32)]) rfl ?_
      obtain rfl := Option.some.inj hf
      exact mj_end (some (.int (1 : Int32))) ⟨mj_dec tok_X3_pop (a := 48) rfl, .boolean, rfl, rfl⟩ ⟨rfl, rfl⟩ (Nat.le_of_ble_eq_true rfl) (Nat.le_of_ble_eq_true rfl)
    · have hf := (if_neg q).symm.trans hf
      refine mj_blk k_X3_ok 23 1 (pc' := 41) (l' := [(2, .int ((x4 + x5) - (x4 + x5) / (8 : Int32) * (8 : Int32))), (0, .ref v0), (1, .ref v1)]) (st' := [.int (0 : Int32)]) rfl ?_
      obtain rfl := Option.some.inj hf
      exact mj_end (some (.int (0 : Int32))) ⟨mj_dec tok_X3_pop (a := 24) rfl, .boolean, rfl, rfl⟩ ⟨rfl, rfl⟩ (Nat.le_of_ble_eq_true rfl) (Nat.le_of_ble_eq_true rfl)
  · have hf := (if_neg q).symm.trans hf
    refine mj_blk k_X3_ok 5 1 (pc' := 12) (l' := [(0, .ref v0), (1, .ref v1)]) (st' := [.int (0 : Int32)]) rfl ?_
    obtain rfl := Option.some.inj hf
    exact mj_end (some (.int (0 : Int32))) ⟨mj_dec tok_X3_pop (a := 6) rfl, .boolean, rfl, rfl⟩ ⟨rfl, rfl⟩ (Nat.le_of_ble_eq_true rfl) (Nat.le_of_ble_eq_true rfl)
def f_X3_forget (v0 : Nat) (h : mj_H) : Option (mj_H) := (mj_sV h v0 3 4 (.int (0 : Int32))).bind fun h1 => some h1
set_option maxHeartbeats 4000000 in
set_option maxRecDepth 100000 in
theorem c_X3_forget (v0 : Nat) (h : mj_H) (p : mj_H) (hf : f_X3_forget v0 h = some p) : mj_Met mX3_forget [.ref v0] h none p := by
  refine mj_met pl_X3 tok_X3_forget (Nat.le_of_ble_eq_true rfl) ?_
  show mj_W mX3_forget (mj_FV p) 0 [(0, .ref v0)] [] h 0 0
  unfold f_X3_forget at hf
  refine mj_blk k_X3_ok 0 2 (pc' := 2) (l' := [(0, .ref v0)]) (st' := [.int (0 : Int32), .ref v0]) rfl ?_
  obtain ⟨h1, eh1, hf⟩ := mj_bd hf
  refine mj_put 2 rfl fp_X3_22 (fun _ => ⟨rfl, rfl⟩) eh1 ?_
  obtain rfl := Option.some.inj hf
  exact mj_end none ⟨mj_dec tok_X3_forget (a := 3) rfl, rfl⟩ ⟨rfl, rfl⟩ (Nat.le_of_ble_eq_true rfl) (Nat.le_of_ble_eq_true rfl)
def f_X3_become (v0 : Nat) (v1 : Nat) (h : mj_H) : Option (mj_H) := (mj_gR h v1 3 0).bind fun x1 => (mj_gR h v0 3 0).bind fun x2 => (mj_cpJ h x1 (0 : Int32) x2 (0 : Int32) (288 : Int32)).bind fun h3 => (mj_gR h3 v1 3 1).bind fun x4 => (mj_gR h3 v0 3 1).bind fun x5 => (mj_cpI h3 x4 (0 : Int32) x5 (0 : Int32) (8 : Int32)).bind fun h6 => (mj_gR h6 v1 3 2).bind fun x7 => (mj_gR h6 v0 3 2).bind fun x8 => (mj_cpI h6 x7 (0 : Int32) x8 (0 : Int32) (8 : Int32)).bind fun h9 => (mj_gI h9 v1 3 3).bind fun x10 => (mj_sV h9 v0 3 3 (.int x10)).bind fun h11 => (mj_gI h11 v1 3 4).bind fun x12 => (mj_sV h11 v0 3 4 (.int x12)).bind fun h13 => some h13
set_option maxHeartbeats 4000000 in
set_option maxRecDepth 100000 in
theorem c_X3_become (v0 : Nat) (v1 : Nat) (h : mj_H) (p : mj_H) (hf : f_X3_become v0 v1 h = some p) : mj_Met mX3_become [.ref v0, .ref v1] h none p := by
  refine mj_met pl_X3 tok_X3_become (Nat.le_of_ble_eq_true rfl) ?_
  show mj_W mX3_become (mj_FV p) 0 [(0, .ref v0), (1, .ref v1)] [] h 0 0
  unfold f_X3_become at hf
  refine mj_blk k_X3_ok 0 1 (pc' := 1) (l' := [(0, .ref v0), (1, .ref v1)]) (st' := [.ref v1]) rfl ?_
  refine mj_ifnonnull 1 5 rfl (by decide) ?_
  refine mj_blk k_X3_ok 3 1 (pc' := 6) (l' := [(0, .ref v0), (1, .ref v1)]) (st' := [.ref v1]) rfl ?_
  obtain ⟨x1, ex1, hf⟩ := mj_bd hf
  refine mj_get 4 rfl fl_X3_11 (mj_gR_V ex1) ?_
  refine mj_blk k_X3_ok 5 2 (pc' := 11) (l' := [(0, .ref v0), (1, .ref v1)]) (st' := [.ref v0, .int (0 : Int32), .ref x1]) rfl ?_
  obtain ⟨x2, ex2, hf⟩ := mj_bd hf
  refine mj_get 7 rfl fl_X3_11 (mj_gR_V ex2) ?_
  refine mj_blk k_X3_ok 8 2 (pc' := 18) (l' := [(0, .ref v0), (1, .ref v1)]) (st' := [.int (288 : Int32), .int (0 : Int32), .ref x2, .int (0 : Int32), .ref x1]) rfl ?_
  obtain ⟨h3, eh3, hf⟩ := mj_bd hf
  refine mj_cpJ_W 10 rfl cp_X3_32 ⟨Nat.le_of_ble_eq_true rfl, Nat.le_of_ble_eq_true rfl⟩ eh3 ?_
  refine mj_blk k_X3_ok 11 1 (pc' := 22) (l' := [(0, .ref v0), (1, .ref v1)]) (st' := [.ref v1]) rfl ?_
  obtain ⟨x4, ex4, hf⟩ := mj_bd hf
  refine mj_get 12 rfl fl_X3_15 (mj_gR_V ex4) ?_
  refine mj_blk k_X3_ok 13 2 (pc' := 27) (l' := [(0, .ref v0), (1, .ref v1)]) (st' := [.ref v0, .int (0 : Int32), .ref x4]) rfl ?_
  obtain ⟨x5, ex5, hf⟩ := mj_bd hf
  refine mj_get 15 rfl fl_X3_15 (mj_gR_V ex5) ?_
  refine mj_blk k_X3_ok 16 2 (pc' := 33) (l' := [(0, .ref v0), (1, .ref v1)]) (st' := [.int (8 : Int32), .int (0 : Int32), .ref x5, .int (0 : Int32), .ref x4]) rfl ?_
  obtain ⟨h6, eh6, hf⟩ := mj_bd hf
  refine mj_cpI_W 18 rfl cp_X3_32 ⟨Nat.le_of_ble_eq_true rfl, Nat.le_of_ble_eq_true rfl⟩ eh6 ?_
  refine mj_blk k_X3_ok 19 1 (pc' := 37) (l' := [(0, .ref v0), (1, .ref v1)]) (st' := [.ref v1]) rfl ?_
  obtain ⟨x7, ex7, hf⟩ := mj_bd hf
  refine mj_get 20 rfl fl_X3_19 (mj_gR_V ex7) ?_
  refine mj_blk k_X3_ok 21 2 (pc' := 42) (l' := [(0, .ref v0), (1, .ref v1)]) (st' := [.ref v0, .int (0 : Int32), .ref x7]) rfl ?_
  obtain ⟨x8, ex8, hf⟩ := mj_bd hf
  refine mj_get 23 rfl fl_X3_19 (mj_gR_V ex8) ?_
  refine mj_blk k_X3_ok 24 2 (pc' := 48) (l' := [(0, .ref v0), (1, .ref v1)]) (st' := [.int (8 : Int32), .int (0 : Int32), .ref x8, .int (0 : Int32), .ref x7]) rfl ?_
  obtain ⟨h9, eh9, hf⟩ := mj_bd hf
  refine mj_cpI_W 26 rfl cp_X3_32 ⟨Nat.le_of_ble_eq_true rfl, Nat.le_of_ble_eq_true rfl⟩ eh9 ?_
  refine mj_blk k_X3_ok 27 2 (pc' := 53) (l' := [(0, .ref v0), (1, .ref v1)]) (st' := [.ref v1, .ref v0]) rfl ?_
  obtain ⟨x10, ex10, hf⟩ := mj_bd hf
  refine mj_get 29 rfl fl_X3_26 (mj_gI_V ex10) ?_
  obtain ⟨h11, eh11, hf⟩ := mj_bd hf
  refine mj_put 30 rfl fp_X3_26 (fun _ => ⟨rfl, rfl⟩) eh11 ?_
  refine mj_blk k_X3_ok 31 2 (pc' := 61) (l' := [(0, .ref v0), (1, .ref v1)]) (st' := [.ref v1, .ref v0]) rfl ?_
  obtain ⟨x12, ex12, hf⟩ := mj_bd hf
  refine mj_get 33 rfl fl_X3_22 (mj_gI_V ex12) ?_
  obtain ⟨h13, eh13, hf⟩ := mj_bd hf
  refine mj_put 34 rfl fp_X3_22 (fun _ => ⟨rfl, rfl⟩) eh13 ?_
  obtain rfl := Option.some.inj hf
  exact mj_end none ⟨mj_dec tok_X3_become (a := 35) rfl, rfl⟩ ⟨rfl, rfl⟩ (Nat.le_of_ble_eq_true rfl) (Nat.le_of_ble_eq_true rfl)
def f_X7_init (v0 : Nat) (h : mj_H) : Option (mj_H) := (mj_mk h (.inl (0, 150, .inl (fun _ => (0 : Int32))))).bind fun p1 => (mj_sV p1.2 v0 7 0 (.ref p1.1)).bind fun h2 => some h2
set_option maxHeartbeats 4000000 in
set_option maxRecDepth 100000 in
theorem c_X7_init (v0 : Nat) (h : mj_H) (p : mj_H) (hf : f_X7_init v0 h = some p) : mj_Met mX7_init [.ref v0] h none p := by
  refine mj_met pl_X7 tok_X7_init (Nat.le_of_ble_eq_true rfl) ?_
  show mj_W mX7_init (mj_FV p) 0 [(0, .ref v0)] [] h 0 0
  unfold f_X7_init at hf
  refine mj_blk k_X7_ok 0 1 (pc' := 1) (l' := [(0, .ref v0)]) (st' := [.ref v0]) rfl ?_
  refine mj_obj 1 rfl ob_X7_3 ⟨Nat.le_of_ble_eq_true rfl, Nat.le_of_ble_eq_true rfl⟩ ?_
  refine mj_blk k_X7_ok 2 2 (pc' := 8) (l' := [(0, .ref v0)]) (st' := [.int (150 : Int32), .ref v0]) rfl ?_
  obtain ⟨p1, ep1, hf⟩ := mj_bd hf
  refine mj_newIP 150 4 rfl rfl (by decide) aw_int ep1 (Nat.le_of_ble_eq_true rfl) (Nat.le_of_ble_eq_true rfl) ?_
  obtain ⟨h2, eh2, hf⟩ := mj_bd hf
  refine mj_put 5 rfl fp_X7_11 (fun _ => ⟨rfl, rfl⟩) eh2 ?_
  obtain rfl := Option.some.inj hf
  exact mj_end none ⟨mj_dec tok_X7_init (a := 6) rfl, rfl⟩ ⟨rfl, rfl⟩ (Nat.le_of_ble_eq_true rfl) (Nat.le_of_ble_eq_true rfl)
def f_X4_init (v0 : Nat) (h : mj_H) : Option (mj_H) := (mj_mk h (.inr (7, [.null, .int 0]))).bind fun p1 => (f_X7_init p1.1 p1.2).bind fun p2 => (mj_sV p2 v0 4 0 (.ref p1.1)).bind fun h3 => (mj_mk h3 (.inr (0, [.null, .null, .null, .null, .int 0, .int 0, .int 0]))).bind fun p4 => (f_X0_init p4.1 p4.2).bind fun p5 => (mj_sV p5 v0 4 1 (.ref p4.1)).bind fun h6 => (mj_mk h6 (.inl (0, 6, .inl (fun _ => (0 : Int32))))).bind fun p7 => (mj_sV p7.2 v0 4 2 (.ref p7.1)).bind fun h8 => some h8
set_option maxHeartbeats 4000000 in
set_option maxRecDepth 100000 in
theorem c_X4_init (v0 : Nat) (h : mj_H) (p : mj_H) (hf : f_X4_init v0 h = some p) : mj_Met mX4_init [.ref v0] h none p := by
  refine mj_met pl_X4 tok_X4_init (Nat.le_of_ble_eq_true rfl) ?_
  show mj_W mX4_init (mj_FV p) 0 [(0, .ref v0)] [] h 0 0
  unfold f_X4_init at hf
  refine mj_blk k_X4_ok 0 1 (pc' := 1) (l' := [(0, .ref v0)]) (st' := [.ref v0]) rfl ?_
  refine mj_obj 1 rfl ob_X4_3 ⟨Nat.le_of_ble_eq_true rfl, Nat.le_of_ble_eq_true rfl⟩ ?_
  refine mj_blk k_X4_ok 2 1 (pc' := 5) (l' := [(0, .ref v0)]) (st' := [.ref v0]) rfl ?_
  obtain ⟨p1, ep1, hf⟩ := mj_bd hf
  refine mj_newP 3 rfl nw_X4_9 (by simp [mj_0]) ep1 (Nat.le_of_ble_eq_true rfl) (Nat.le_of_ble_eq_true rfl) ?_
  refine mj_blk k_X4_ok 4 1 (pc' := 9) (l' := [(0, .ref v0)]) (st' := [.ref p1.1, .ref p1.1, .ref v0]) rfl ?_
  obtain ⟨p2, ep2, hf⟩ := mj_bd hf
  refine mj_callI mX7_init [] 5 rfl ll_X4_11 lb_X7_init li_X7_init ⟨Nat.le_of_ble_eq_true rfl, Nat.le_of_ble_eq_true rfl⟩ rfl (rest := [.ref p1.1, .ref v0]) rfl (Nat.le_of_ble_eq_true rfl) ⟨Nat.le_of_ble_eq_true rfl, Nat.le_of_ble_eq_true rfl⟩ (c_X7_init p1.1 p1.2 p2 ep2) ?_
  show mj_W mX4_init (mj_FV p) 12 [(0, .ref v0)] [.ref p1.1, .ref v0] p2 2 152
  obtain ⟨h3, eh3, hf⟩ := mj_bd hf
  refine mj_put 6 rfl fp_X4_12 (fun _ => ⟨rfl, rfl⟩) eh3 ?_
  refine mj_blk k_X4_ok 7 1 (pc' := 16) (l' := [(0, .ref v0)]) (st' := [.ref v0]) rfl ?_
  obtain ⟨p4, ep4, hf⟩ := mj_bd hf
  refine mj_newP 8 rfl nw_X4_18 (by simp [mj_0]) ep4 (Nat.le_of_ble_eq_true rfl) (Nat.le_of_ble_eq_true rfl) ?_
  refine mj_blk k_X4_ok 9 1 (pc' := 20) (l' := [(0, .ref v0)]) (st' := [.ref p4.1, .ref p4.1, .ref v0]) rfl ?_
  obtain ⟨p5, ep5, hf⟩ := mj_bd hf
  refine mj_callI mX0_init [] 10 rfl ll_X4_20 lb_X0_init li_X0_init ⟨Nat.le_of_ble_eq_true rfl, Nat.le_of_ble_eq_true rfl⟩ rfl (rest := [.ref p4.1, .ref v0]) rfl (Nat.le_of_ble_eq_true rfl) ⟨Nat.le_of_ble_eq_true rfl, Nat.le_of_ble_eq_true rfl⟩ (c_X0_init p4.1 p4.2 p5 ep5) ?_
  show mj_W mX4_init (mj_FV p) 23 [(0, .ref v0)] [.ref p4.1, .ref v0] p5 8 214
  obtain ⟨h6, eh6, hf⟩ := mj_bd hf
  refine mj_put 11 rfl fp_X4_21 (fun _ => ⟨rfl, rfl⟩) eh6 ?_
  refine mj_blk k_X4_ok 12 2 (pc' := 29) (l' := [(0, .ref v0)]) (st' := [.int (6 : Int32), .ref v0]) rfl ?_
  obtain ⟨p7, ep7, hf⟩ := mj_bd hf
  refine mj_newIP 6 14 rfl rfl (by decide) aw_int ep7 (Nat.le_of_ble_eq_true rfl) (Nat.le_of_ble_eq_true rfl) ?_
  obtain ⟨h8, eh8, hf⟩ := mj_bd hf
  refine mj_put 15 rfl fp_X4_25 (fun _ => ⟨rfl, rfl⟩) eh8 ?_
  obtain rfl := Option.some.inj hf
  exact mj_end none ⟨mj_dec tok_X4_init (a := 16) rfl, rfl⟩ ⟨rfl, rfl⟩ (Nat.le_of_ble_eq_true rfl) (Nat.le_of_ble_eq_true rfl)
def f_X7_byteAt (v0 : Nat) (v1 : Int32) (h : mj_H) : Option (Int32 × mj_H) := (if v1 < 0 then some ((-1 : Int32), h) else (mj_gI h v0 7 1).bind fun x1 => (if x1 ≤ v1 then some ((-1 : Int32), h) else (if (150 : Int32) ≤ v1 then some ((-1 : Int32), h) else (mj_gR h v0 7 0).bind fun x2 => (mj_aI h x2 v1).bind fun x3 => some (x3, h))))
set_option maxHeartbeats 4000000 in
set_option maxRecDepth 100000 in
theorem c_X7_byteAt (v0 : Nat) (v1 : Int32) (h : mj_H) (p : Int32 × mj_H) (hf : f_X7_byteAt v0 v1 h = some p) : mj_Met mX7_byteAt [.ref v0, .int v1] h (some (.int p.1)) p.2 := by
  refine mj_met pl_X7 tok_X7_byteAt (Nat.le_of_ble_eq_true rfl) ?_
  show mj_W mX7_byteAt (mj_FI p) 0 [(0, .ref v0), (1, .int v1)] [] h 0 0
  unfold f_X7_byteAt at hf
  refine mj_blk k_X7_ok 0 1 (pc' := 1) (l' := [(0, .ref v0), (1, .int v1)]) (st' := [.int v1]) rfl ?_
  refine mj_if_lt 1 28 rfl (by decide) (fun q => ?_) (fun q => ?_)
  · have hf := (if_pos q).symm.trans hf
    refine mj_blk k_X7_ok 14 1 (pc' := 29) (l' := [(0, .ref v0), (1, .int v1)]) (st' := [.int (-1 : Int32)]) rfl ?_
    obtain rfl := Option.some.inj hf
    exact mj_end (some (.int (-1 : Int32))) ⟨mj_dec tok_X7_byteAt (a := 15) rfl, .int, rfl, rfl⟩ ⟨rfl, rfl⟩ (Nat.le_of_ble_eq_true rfl) (Nat.le_of_ble_eq_true rfl)
  · have hf := (if_neg q).symm.trans hf
    refine mj_blk k_X7_ok 2 2 (pc' := 6) (l' := [(0, .ref v0), (1, .int v1)]) (st' := [.ref v0, .int v1]) rfl ?_
    obtain ⟨x1, ex1, hf⟩ := mj_bd hf
    refine mj_get 4 rfl fl_X7_15 (mj_gI_V ex1) ?_
    refine mj_icmp_ge 5 28 rfl (by decide) (fun q => ?_) (fun q => ?_)
    · have hf := (if_pos q).symm.trans hf
      refine mj_blk k_X7_ok 14 1 (pc' := 29) (l' := [(0, .ref v0), (1, .int v1)]) (st' := [.int (-1 : Int32)]) rfl ?_
      obtain rfl := Option.some.inj hf
      exact mj_end (some (.int (-1 : Int32))) ⟨mj_dec tok_X7_byteAt (a := 15) rfl, .int, rfl, rfl⟩ ⟨rfl, rfl⟩ (Nat.le_of_ble_eq_true rfl) (Nat.le_of_ble_eq_true rfl)
    · have hf := (if_neg q).symm.trans hf
      refine mj_blk k_X7_ok 6 2 (pc' := 16) (l' := [(0, .ref v0), (1, .int v1)]) (st' := [.int (150 : Int32), .int v1]) rfl ?_
      refine mj_icmp_ge 8 28 rfl (by decide) (fun q => ?_) (fun q => ?_)
      · have hf := (if_pos q).symm.trans hf
        refine mj_blk k_X7_ok 14 1 (pc' := 29) (l' := [(0, .ref v0), (1, .int v1)]) (st' := [.int (-1 : Int32)]) rfl ?_
        obtain rfl := Option.some.inj hf
        exact mj_end (some (.int (-1 : Int32))) ⟨mj_dec tok_X7_byteAt (a := 15) rfl, .int, rfl, rfl⟩ ⟨rfl, rfl⟩ (Nat.le_of_ble_eq_true rfl) (Nat.le_of_ble_eq_true rfl)
      · have hf := (if_neg q).symm.trans hf
        refine mj_blk k_X7_ok 9 1 (pc' := 20) (l' := [(0, .ref v0), (1, .int v1)]) (st' := [.ref v0]) rfl ?_
        obtain ⟨x2, ex2, hf⟩ := mj_bd hf
        refine mj_get 10 rfl fl_X7_11 (mj_gR_V ex2) ?_
        refine mj_blk k_X7_ok 11 1 (pc' := 24) (l' := [(0, .ref v0), (1, .int v1)]) (st' := [.int v1, .ref x2]) rfl ?_
        obtain ⟨x3, ex3, hf⟩ := mj_bd hf
        refine mj_iald 12 rfl ex3 ?_
        refine mj_blk k_X7_ok 13 1 (pc' := 29) (l' := [(0, .ref v0), (1, .int v1)]) (st' := [.int x3]) rfl ?_
        obtain rfl := Option.some.inj hf
        exact mj_end (some (.int x3)) ⟨mj_dec tok_X7_byteAt (a := 15) rfl, .int, rfl, rfl⟩ ⟨rfl, rfl⟩ (Nat.le_of_ble_eq_true rfl) (Nat.le_of_ble_eq_true rfl)
def b_X4_skipBlanks_2 (K2 : Nat → Int32 → mj_H → Option (mj_H)) (v0 : Nat) (v1 : Int32) (h : mj_H) : Option (mj_H) := (if (150 : Int32) ≤ v1 then some h else (mj_gR h v0 4 0).bind fun x1 => (mj_gI h v0 4 3).bind fun x2 => (if mj_ob h x1 7 = true then (f_X7_byteAt x1 x2 h).bind fun p3 => (if p3.1 = (32 : Int32) then (mj_gI p3.2 v0 4 3).bind fun x4 => (mj_sV p3.2 v0 4 3 (.int (x4 + (1 : Int32)))).bind fun h5 => K2 v0 (v1 + (1 : Int32)) h5 else some p3.2) else none))
set_option maxHeartbeats 4000000 in
set_option maxRecDepth 100000 in
theorem wb_X4_skipBlanks_2 (K2 : Nat → Int32 → mj_H → Option (mj_H)) (hK2 : ∀ (v0 : Nat) (v1 : Int32)  (h : mj_H) (p : mj_H), K2 v0 v1 h = some p → mj_W mX4_skipBlanks (mj_FV p) 2 [(0, .ref v0), (1, .int v1)] [] h 0 0) (v0 : Nat) (v1 : Int32) (h : mj_H) (p : mj_H) (hf : b_X4_skipBlanks_2  K2 v0 v1 h = some p) : mj_W mX4_skipBlanks (mj_FV p) 2 [(0, .ref v0), (1, .int v1)] [] h 0 0 := by
  unfold b_X4_skipBlanks_2 at hf
  refine mj_blk k_X4_ok 2 2 (pc' := 6) (l' := [(0, .ref v0), (1, .int v1)]) (st' := [.int (150 : Int32), .int v1]) rfl ?_
  refine mj_icmp_ge 4 41 rfl (by decide) (fun q => ?_) (fun q => ?_)
  · have hf := (if_pos q).symm.trans hf
    obtain rfl := Option.some.inj hf
    exact mj_end none ⟨mj_dec tok_X4_skipBlanks (a := 20) rfl, rfl⟩ ⟨rfl, rfl⟩ (Nat.le_of_ble_eq_true rfl) (Nat.le_of_ble_eq_true rfl)
  · have hf := (if_neg q).symm.trans hf
    refine mj_blk k_X4_ok 5 1 (pc' := 10) (l' := [(0, .ref v0), (1, .int v1)]) (st' := [.ref v0]) rfl ?_
    obtain ⟨x1, ex1, hf⟩ := mj_bd hf
    refine mj_get 6 rfl fl_X4_12 (mj_gR_V ex1) ?_
    refine mj_blk k_X4_ok 7 1 (pc' := 14) (l' := [(0, .ref v0), (1, .int v1)]) (st' := [.ref v0, .ref x1]) rfl ?_
    obtain ⟨x2, ex2, hf⟩ := mj_bd hf
    refine mj_get 8 rfl fl_X4_29 (mj_gI_V ex2) ?_
    obtain ⟨gp3, hf⟩ := mj_gd hf
    obtain ⟨p3, ep3, hf⟩ := mj_bd hf
    refine mj_callV (T := TX7) (N := 2) (ci := 7) mX7_byteAt [.int x2] 9 rfl ll_X4_39 lb_X7_byteAt li_X7_byteAt ⟨Nat.le_of_ble_eq_true rfl, Nat.le_of_ble_eq_true rfl⟩ rfl gp3 rfl (rest := []) rfl (Nat.le_of_ble_eq_true rfl) ⟨Nat.le_of_ble_eq_true rfl, Nat.le_of_ble_eq_true rfl⟩ (c_X7_byteAt x1 x2 h p3 ep3) ?_
    show mj_W mX4_skipBlanks (mj_FV p) 20 [(0, .ref v0), (1, .int v1)] [.int p3.1] p3.2 0 0
    refine mj_blk k_X4_ok 10 1 (pc' := 22) (l' := [(0, .ref v0), (1, .int v1)]) (st' := [.int (32 : Int32), .int p3.1]) rfl ?_
    refine mj_icmp_ne 11 41 rfl (by decide) (fun q => ?_) (fun q => ?_)
    · have hf := (if_neg q).symm.trans hf
      obtain rfl := Option.some.inj hf
      exact mj_end none ⟨mj_dec tok_X4_skipBlanks (a := 20) rfl, rfl⟩ ⟨rfl, rfl⟩ (Nat.le_of_ble_eq_true rfl) (Nat.le_of_ble_eq_true rfl)
    · have hf := (if_pos q).symm.trans hf
      refine mj_blk k_X4_ok 12 2 (pc' := 27) (l' := [(0, .ref v0), (1, .int v1)]) (st' := [.ref v0, .ref v0]) rfl ?_
      obtain ⟨x4, ex4, hf⟩ := mj_bd hf
      refine mj_get 14 rfl fl_X4_29 (mj_gI_V ex4) ?_
      refine mj_blk k_X4_ok 15 2 (pc' := 32) (l' := [(0, .ref v0), (1, .int v1)]) (st' := [.int (x4 + (1 : Int32)), .ref v0]) rfl ?_
      obtain ⟨h5, eh5, hf⟩ := mj_bd hf
      refine mj_put 17 rfl fp_X4_29 (fun _ => ⟨rfl, rfl⟩) eh5 ?_
      refine mj_blk k_X4_ok 18 2 (pc' := 2) (l' := [(1, .int (v1 + (1 : Int32))), (0, .ref v0)]) (st' := []) rfl ?_
      refine mj_locs [1, 0] (l' := [(0, .ref v0), (1, .int (v1 + (1 : Int32)))]) rfl ?_
      exact hK2 v0 (v1 + (1 : Int32)) h5 _ hf
def f_X4_skipBlanks_2 (v0 : Nat) (v1 : Int32) (h : mj_H) : Option (mj_H) := mj_fix (fun (K2 : (Nat × Int32 × mj_H) → Option (mj_H)) (s : Nat × Int32 × mj_H) => b_X4_skipBlanks_2  (fun v0 v1 h => K2 (v0, v1, h)) s.1 s.2.1 s.2.2) 1000 (v0, v1, h)
set_option maxHeartbeats 4000000 in
set_option maxRecDepth 100000 in
theorem w_X4_skipBlanks_2 (v0 : Nat) (v1 : Int32) (h : mj_H) (p : mj_H) (hf : f_X4_skipBlanks_2  v0 v1 h = some p) : mj_W mX4_skipBlanks (mj_FV p) 2 [(0, .ref v0), (1, .int v1)] [] h 0 0 := by
  unfold f_X4_skipBlanks_2 at hf
  exact mj_fix_ind (F := (fun (K2 : (Nat × Int32 × mj_H) → Option (mj_H)) (s : Nat × Int32 × mj_H) => b_X4_skipBlanks_2  (fun v0 v1 h => K2 (v0, v1, h)) s.1 s.2.1 s.2.2)) (P := fun s p => mj_W mX4_skipBlanks (mj_FV p) 2 [(0, .ref s.1), (1, .int s.2.1)] [] s.2.2 0 0) (fun K2 hK2 s p hf => wb_X4_skipBlanks_2   (fun v0 v1 h => K2 (v0, v1, h)) (fun v0 v1 h p e => hK2 (v0, v1, h) p e) s.1 s.2.1 s.2.2 p hf) 1000 (v0, v1, h) p hf
def f_X4_skipBlanks (v0 : Nat) (h : mj_H) : Option (mj_H) := f_X4_skipBlanks_2 v0 (0 : Int32) h
set_option maxHeartbeats 4000000 in
set_option maxRecDepth 100000 in
theorem c_X4_skipBlanks (v0 : Nat) (h : mj_H) (p : mj_H) (hf : f_X4_skipBlanks v0 h = some p) : mj_Met mX4_skipBlanks [.ref v0] h none p := by
  refine mj_met pl_X4 tok_X4_skipBlanks (Nat.le_of_ble_eq_true rfl) ?_
  show mj_W mX4_skipBlanks (mj_FV p) 0 [(0, .ref v0)] [] h 0 0
  unfold f_X4_skipBlanks at hf
  refine mj_blk k_X4_ok 0 2 (pc' := 2) (l' := [(1, .int (0 : Int32)), (0, .ref v0)]) (st' := []) rfl ?_
  refine mj_locs [1, 0] (l' := [(0, .ref v0), (1, .int (0 : Int32))]) rfl ?_
  exact w_X4_skipBlanks_2 v0 (0 : Int32) h _ hf
def f_X4_isLetter (v0 : Int32) (h : mj_H) : Option (Int32 × mj_H) := (if v0 < (97 : Int32) then some ((0 : Int32), h) else (if (122 : Int32) < v0 then some ((0 : Int32), h) else some ((1 : Int32), h)))
set_option maxHeartbeats 4000000 in
set_option maxRecDepth 100000 in
theorem c_X4_isLetter (v0 : Int32) (h : mj_H) (p : Int32 × mj_H) (hf : f_X4_isLetter v0 h = some p) : mj_Met mX4_isLetter [.int v0] h (some (.int p.1)) p.2 := by
  refine mj_met pl_X4 tok_X4_isLetter (Nat.le_of_ble_eq_true rfl) ?_
  show mj_W mX4_isLetter (mj_FI p) 0 [(0, .int v0)] [] h 0 0
  unfold f_X4_isLetter at hf
  refine mj_blk k_X4_ok 0 2 (pc' := 3) (l' := [(0, .int v0)]) (st' := [.int (97 : Int32), .int v0]) rfl ?_
  refine mj_icmp_lt 2 16 rfl (by decide) (fun q => ?_) (fun q => ?_)
  · have hf := (if_pos q).symm.trans hf
    refine mj_blk k_X4_ok 8 1 (pc' := 17) (l' := [(0, .int v0)]) (st' := [.int (0 : Int32)]) rfl ?_
    obtain rfl := Option.some.inj hf
    exact mj_end (some (.int (0 : Int32))) ⟨mj_dec tok_X4_isLetter (a := 9) rfl, .boolean, rfl, rfl⟩ ⟨rfl, rfl⟩ (Nat.le_of_ble_eq_true rfl) (Nat.le_of_ble_eq_true rfl)
  · have hf := (if_neg q).symm.trans hf
    refine mj_blk k_X4_ok 3 2 (pc' := 9) (l' := [(0, .int v0)]) (st' := [.int (122 : Int32), .int v0]) rfl ?_
    refine mj_icmp_gt 5 16 rfl (by decide) (fun q => ?_) (fun q => ?_)
    · have hf := (if_pos q).symm.trans hf
      refine mj_blk k_X4_ok 8 1 (pc' := 17) (l' := [(0, .int v0)]) (st' := [.int (0 : Int32)]) rfl ?_
      obtain rfl := Option.some.inj hf
      exact mj_end (some (.int (0 : Int32))) ⟨mj_dec tok_X4_isLetter (a := 9) rfl, .boolean, rfl, rfl⟩ ⟨rfl, rfl⟩ (Nat.le_of_ble_eq_true rfl) (Nat.le_of_ble_eq_true rfl)
    · have hf := (if_neg q).symm.trans hf
      refine mj_blk k_X4_ok 6 2 (pc' := 17) (l' := [(0, .int v0)]) (st' := [.int (1 : Int32)]) rfl ?_
      obtain rfl := Option.some.inj hf
      exact mj_end (some (.int (1 : Int32))) ⟨mj_dec tok_X4_isLetter (a := 9) rfl, .boolean, rfl, rfl⟩ ⟨rfl, rfl⟩ (Nat.le_of_ble_eq_true rfl) (Nat.le_of_ble_eq_true rfl)
def b_X7_spells_19 (K19 : Nat → Nat → Int32 → Int32 → mj_H → Option (Int32 × mj_H)) (v0 : Nat) (v1 : Nat) (v2 : Int32) (v4 : Int32) (h : mj_H) : Option (Int32 × mj_H) := (mj_sl v1).bind fun p1 => (if p1 ≤ v4 then some ((1 : Int32), h) else (if mj_ob h v0 7 = true then (f_X7_byteAt v0 (v2 + v4) h).bind fun p2 => (mj_sc v1 v4).bind fun p3 => (if p2.1 = p3 then K19 v0 v1 v2 (v4 + (1 : Int32)) p2.2 else some ((0 : Int32), p2.2)) else none))
set_option maxHeartbeats 4000000 in
set_option maxRecDepth 100000 in
theorem wb_X7_spells_19 (K19 : Nat → Nat → Int32 → Int32 → mj_H → Option (Int32 × mj_H)) (hK19 : ∀ (v0 : Nat) (v1 : Nat) (v2 : Int32) (v4 : Int32)  (h : mj_H) (p : Int32 × mj_H), K19 v0 v1 v2 v4 h = some p → mj_W mX7_spells (mj_FI p) 19 [(0, .ref v0), (1, .ref v1), (2, .int v2), (4, .int v4)] [] h 0 0) (v0 : Nat) (v1 : Nat) (v2 : Int32) (v4 : Int32) (h : mj_H) (p : Int32 × mj_H) (hf : b_X7_spells_19  K19 v0 v1 v2 v4 h = some p) : mj_W mX7_spells (mj_FI p) 19 [(0, .ref v0), (1, .ref v1), (2, .int v2), (4, .int v4)] [] h 0 0 := by
  unfold b_X7_spells_19 at hf
  refine mj_blk k_X7_ok 12 2 (pc' := 22) (l' := [(0, .ref v0), (1, .ref v1), (2, .int v2), (4, .int v4)]) (st' := [.ref v1, .int v4]) rfl ?_
  obtain ⟨p1, ep1, hf⟩ := mj_bd hf
  refine mj_callT mJ0_length_8abf5 [] 14 rfl ll_X7_19 lb_J0_length_8abf5 li_J0_length_8abf5 ⟨Nat.le_of_ble_eq_true rfl, Nat.le_of_ble_eq_true rfl⟩ (mj_sl_at ep1) rfl rfl (rest := [.int v4]) rfl (Nat.le_of_ble_eq_true rfl) ⟨Nat.le_of_ble_eq_true rfl, Nat.le_of_ble_eq_true rfl⟩ (c_J0_length_8abf5 v1 h p1 ep1) ?_
  show mj_W mX7_spells (mj_FI p) 25 [(0, .ref v0), (1, .ref v1), (2, .int v2), (4, .int v4)] [.int p1, .int v4] h 0 0
  refine mj_icmp_ge 15 53 rfl (by decide) (fun q => ?_) (fun q => ?_)
  · have hf := (if_pos q).symm.trans hf
    refine mj_blk k_X7_ok 29 1 (pc' := 54) (l' := [(0, .ref v0), (1, .ref v1), (2, .int v2), (4, .int v4)]) (st' := [.int (1 : Int32)]) rfl ?_
    obtain rfl := Option.some.inj hf
    exact mj_end (some (.int (1 : Int32))) ⟨mj_dec tok_X7_spells (a := 30) rfl, .boolean, rfl, rfl⟩ ⟨rfl, rfl⟩ (Nat.le_of_ble_eq_true rfl) (Nat.le_of_ble_eq_true rfl)
  · have hf := (if_neg q).symm.trans hf
    refine mj_blk k_X7_ok 16 4 (pc' := 33) (l' := [(0, .ref v0), (1, .ref v1), (2, .int v2), (4, .int v4)]) (st' := [.int (v2 + v4), .ref v0]) rfl ?_
    obtain ⟨gp2, hf⟩ := mj_gd hf
    obtain ⟨p2, ep2, hf⟩ := mj_bd hf
    refine mj_callV (T := TX7) (N := 2) (ci := 7) mX7_byteAt [.int (v2 + v4)] 20 rfl ll_X7_25 lb_X7_byteAt li_X7_byteAt ⟨Nat.le_of_ble_eq_true rfl, Nat.le_of_ble_eq_true rfl⟩ rfl gp2 rfl (rest := []) rfl (Nat.le_of_ble_eq_true rfl) ⟨Nat.le_of_ble_eq_true rfl, Nat.le_of_ble_eq_true rfl⟩ (c_X7_byteAt v0 (v2 + v4) h p2 ep2) ?_
    show mj_W mX7_spells (mj_FI p) 36 [(0, .ref v0), (1, .ref v1), (2, .int v2), (4, .int v4)] [.int p2.1] p2.2 0 0
    refine mj_blk k_X7_ok 21 2 (pc' := 39) (l' := [(0, .ref v0), (1, .ref v1), (2, .int v2), (4, .int v4)]) (st' := [.int v4, .ref v1, .int p2.1]) rfl ?_
    obtain ⟨p3, ep3, hf⟩ := mj_bd hf
    refine mj_callT mJ0_charAt_5068e [.int v4] 23 rfl ll_X7_29 lb_J0_charAt_5068e li_J0_charAt_5068e ⟨Nat.le_of_ble_eq_true rfl, Nat.le_of_ble_eq_true rfl⟩ (mj_sc_at ep3) rfl rfl (rest := [.int p2.1]) rfl (Nat.le_of_ble_eq_true rfl) ⟨Nat.le_of_ble_eq_true rfl, Nat.le_of_ble_eq_true rfl⟩ (c_J0_charAt_5068e v1 v4 p2.2 p3 ep3) ?_
    show mj_W mX7_spells (mj_FI p) 42 [(0, .ref v0), (1, .ref v1), (2, .int v2), (4, .int v4)] [.int p3, .int p2.1] p2.2 0 0
    refine mj_icmp_eq 24 47 rfl (by decide) (fun q => ?_) (fun q => ?_)
    · have hf := (if_pos q).symm.trans hf
      refine mj_blk k_X7_ok 27 2 (pc' := 19) (l' := [(4, .int (v4 + (1 : Int32))), (0, .ref v0), (1, .ref v1), (2, .int v2)]) (st' := []) rfl ?_
      refine mj_locs [1, 2, 3, 0] (l' := [(0, .ref v0), (1, .ref v1), (2, .int v2), (4, .int (v4 + (1 : Int32)))]) rfl ?_
      exact hK19 v0 v1 v2 (v4 + (1 : Int32)) p2.2 _ hf
    · have hf := (if_neg q).symm.trans hf
      refine mj_blk k_X7_ok 25 1 (pc' := 46) (l' := [(0, .ref v0), (1, .ref v1), (2, .int v2), (4, .int v4)]) (st' := [.int (0 : Int32)]) rfl ?_
      obtain rfl := Option.some.inj hf
      exact mj_end (some (.int (0 : Int32))) ⟨mj_dec tok_X7_spells (a := 26) rfl, .boolean, rfl, rfl⟩ ⟨rfl, rfl⟩ (Nat.le_of_ble_eq_true rfl) (Nat.le_of_ble_eq_true rfl)
def f_X7_spells_19 (v0 : Nat) (v1 : Nat) (v2 : Int32) (v4 : Int32) (h : mj_H) : Option (Int32 × mj_H) := mj_fix (fun (K19 : (Nat × Nat × Int32 × Int32 × mj_H) → Option (Int32 × mj_H)) (s : Nat × Nat × Int32 × Int32 × mj_H) => b_X7_spells_19  (fun v0 v1 v2 v4 h => K19 (v0, v1, v2, v4, h)) s.1 s.2.1 s.2.2.1 s.2.2.2.1 s.2.2.2.2) 1000 (v0, v1, v2, v4, h)
set_option maxHeartbeats 4000000 in
set_option maxRecDepth 100000 in
theorem w_X7_spells_19 (v0 : Nat) (v1 : Nat) (v2 : Int32) (v4 : Int32) (h : mj_H) (p : Int32 × mj_H) (hf : f_X7_spells_19  v0 v1 v2 v4 h = some p) : mj_W mX7_spells (mj_FI p) 19 [(0, .ref v0), (1, .ref v1), (2, .int v2), (4, .int v4)] [] h 0 0 := by
  unfold f_X7_spells_19 at hf
  exact mj_fix_ind (F := (fun (K19 : (Nat × Nat × Int32 × Int32 × mj_H) → Option (Int32 × mj_H)) (s : Nat × Nat × Int32 × Int32 × mj_H) => b_X7_spells_19  (fun v0 v1 v2 v4 h => K19 (v0, v1, v2, v4, h)) s.1 s.2.1 s.2.2.1 s.2.2.2.1 s.2.2.2.2)) (P := fun s p => mj_W mX7_spells (mj_FI p) 19 [(0, .ref s.1), (1, .ref s.2.1), (2, .int s.2.2.1), (4, .int s.2.2.2.1)] [] s.2.2.2.2 0 0) (fun K19 hK19 s p hf => wb_X7_spells_19   (fun v0 v1 v2 v4 h => K19 (v0, v1, v2, v4, h)) (fun v0 v1 v2 v4 h p e => hK19 (v0, v1, v2, v4, h) p e) s.1 s.2.1 s.2.2.1 s.2.2.2.1 s.2.2.2.2 p hf) 1000 (v0, v1, v2, v4, h) p hf
def f_X7_spells (v0 : Nat) (v1 : Nat) (v2 : Int32) (v3 : Int32) (h : mj_H) : Option (Int32 × mj_H) := (mj_sl v1).bind fun p4 => (if p4 = (v3 - v2) then f_X7_spells_19 v0 v1 v2 (0 : Int32) h else some ((0 : Int32), h))
set_option maxHeartbeats 4000000 in
set_option maxRecDepth 100000 in
theorem c_X7_spells (v0 : Nat) (v1 : Nat) (v2 : Int32) (v3 : Int32) (h : mj_H) (p : Int32 × mj_H) (hf : f_X7_spells v0 v1 v2 v3 h = some p) : mj_Met mX7_spells [.ref v0, .ref v1, .int v2, .int v3] h (some (.int p.1)) p.2 := by
  refine mj_met pl_X7 tok_X7_spells (Nat.le_of_ble_eq_true rfl) ?_
  show mj_W mX7_spells (mj_FI p) 0 [(0, .ref v0), (1, .ref v1), (2, .int v2), (3, .int v3)] [] h 0 0
  unfold f_X7_spells at hf
  refine mj_blk k_X7_ok 0 1 (pc' := 1) (l' := [(0, .ref v0), (1, .ref v1), (2, .int v2), (3, .int v3)]) (st' := [.ref v1]) rfl ?_
  refine mj_ifnull 1 rfl ?_
  refine mj_blk k_X7_ok 2 1 (pc' := 5) (l' := [(0, .ref v0), (1, .ref v1), (2, .int v2), (3, .int v3)]) (st' := [.ref v1]) rfl ?_
  obtain ⟨p4, ep4, hf⟩ := mj_bd hf
  refine mj_callT mJ0_length_8abf5 [] 3 rfl ll_X7_19 lb_J0_length_8abf5 li_J0_length_8abf5 ⟨Nat.le_of_ble_eq_true rfl, Nat.le_of_ble_eq_true rfl⟩ (mj_sl_at ep4) rfl rfl (rest := []) rfl (Nat.le_of_ble_eq_true rfl) ⟨Nat.le_of_ble_eq_true rfl, Nat.le_of_ble_eq_true rfl⟩ (c_J0_length_8abf5 v1 h p4 ep4) ?_
  show mj_W mX7_spells (mj_FI p) 8 [(0, .ref v0), (1, .ref v1), (2, .int v2), (3, .int v3)] [.int p4] h 0 0
  refine mj_blk k_X7_ok 4 3 (pc' := 11) (l' := [(0, .ref v0), (1, .ref v1), (2, .int v2), (3, .int v3)]) (st' := [.int (v3 - v2), .int p4]) rfl ?_
  refine mj_icmp_eq 7 16 rfl (by decide) (fun q => ?_) (fun q => ?_)
  · have hf := (if_pos q).symm.trans hf
    refine mj_blk k_X7_ok 10 2 (pc' := 19) (l' := [(4, .int (0 : Int32)), (0, .ref v0), (1, .ref v1), (2, .int v2), (3, .int v3)]) (st' := []) rfl ?_
    refine mj_locs [1, 2, 3, 0] (l' := [(0, .ref v0), (1, .ref v1), (2, .int v2), (4, .int (0 : Int32))]) rfl ?_
    exact w_X7_spells_19 v0 v1 v2 (0 : Int32) h _ hf
  · have hf := (if_neg q).symm.trans hf
    refine mj_blk k_X7_ok 8 1 (pc' := 15) (l' := [(0, .ref v0), (1, .ref v1), (2, .int v2), (3, .int v3)]) (st' := [.int (0 : Int32)]) rfl ?_
    obtain rfl := Option.some.inj hf
    exact mj_end (some (.int (0 : Int32))) ⟨mj_dec tok_X7_spells (a := 9) rfl, .boolean, rfl, rfl⟩ ⟨rfl, rfl⟩ (Nat.le_of_ble_eq_true rfl) (Nat.le_of_ble_eq_true rfl)
def f_X4_readWord_42 (v0 : Nat) (h : mj_H) : Option (mj_H) := (mj_sV h v0 4 5 (.int (1 : Int32))).bind fun h1 => (mj_gR h1 v0 4 0).bind fun x2 => (mj_gI h1 v0 4 4).bind fun x3 => (mj_gI h1 v0 4 3).bind fun x4 => (if mj_ob h1 x2 7 = true then (f_X7_spells x2 (1010 + 0) x3 x4 h1).bind fun p5 => (if p5.1 = 0 then (mj_gR p5.2 v0 4 0).bind fun x6 => (mj_gI p5.2 v0 4 4).bind fun x7 => (mj_gI p5.2 v0 4 3).bind fun x8 => (if mj_ob p5.2 x6 7 = true then (f_X7_spells x6 (1010 + 1) x7 x8 p5.2).bind fun p9 => (if p9.1 = 0 then (mj_gR p9.2 v0 4 0).bind fun x10 => (mj_gI p9.2 v0 4 4).bind fun x11 => (mj_gI p9.2 v0 4 3).bind fun x12 => (if mj_ob p9.2 x10 7 = true then (f_X7_spells x10 (1010 + 2) x11 x12 p9.2).bind fun p13 => (if p13.1 = 0 then (mj_gR p13.2 v0 4 0).bind fun x14 => (mj_gI p13.2 v0 4 4).bind fun x15 => (mj_gI p13.2 v0 4 3).bind fun x16 => (if mj_ob p13.2 x14 7 = true then (f_X7_spells x14 (1010 + 3) x15 x16 p13.2).bind fun p17 => (if p17.1 = 0 then (mj_gR p17.2 v0 4 0).bind fun x18 => (mj_gI p17.2 v0 4 4).bind fun x19 => (mj_gI p17.2 v0 4 3).bind fun x20 => (if mj_ob p17.2 x18 7 = true then (f_X7_spells x18 (1010 + 4) x19 x20 p17.2).bind fun p21 => (if p21.1 = 0 then (mj_sV p21.2 v0 4 5 (.int (0 : Int32))).bind fun h22 => some h22 else (mj_sV p21.2 v0 4 6 (.int (4 : Int32))).bind fun h23 => some h23) else none) else (mj_sV p17.2 v0 4 6 (.int (3 : Int32))).bind fun h24 => some h24) else none) else (mj_sV p13.2 v0 4 6 (.int (2 : Int32))).bind fun h25 => some h25) else none) else (mj_sV p9.2 v0 4 6 (.int (1 : Int32))).bind fun h26 => some h26) else none) else (mj_sV p5.2 v0 4 6 (.int (0 : Int32))).bind fun h27 => some h27) else none)
set_option maxHeartbeats 4000000 in
set_option maxRecDepth 100000 in
theorem w_X4_readWord_42 (v0 : Nat) (h : mj_H) (p : mj_H) (hf : f_X4_readWord_42  v0 h = some p) : mj_W mX4_readWord (mj_FV p) 42 [(0, .ref v0)] [] h 0 0 := by
  unfold f_X4_readWord_42 at hf
  refine mj_blk k_X4_ok 20 2 (pc' := 44) (l' := [(0, .ref v0)]) (st' := [.int (1 : Int32), .ref v0]) rfl ?_
  obtain ⟨h1, eh1, hf⟩ := mj_bd hf
  refine mj_put 22 rfl fp_X4_77 (fun _ => ⟨rfl, rfl⟩) eh1 ?_
  refine mj_blk k_X4_ok 23 1 (pc' := 48) (l' := [(0, .ref v0)]) (st' := [.ref v0]) rfl ?_
  obtain ⟨x2, ex2, hf⟩ := mj_bd hf
  refine mj_get 24 rfl fl_X4_12 (mj_gR_V ex2) ?_
  refine mj_ldcS 0 25 rfl rfl rfl ?_
  refine mj_blk k_X4_ok 26 1 (pc' := 54) (l' := [(0, .ref v0)]) (st' := [.ref v0, .ref (1010 + 0), .ref x2]) rfl ?_
  obtain ⟨x3, ex3, hf⟩ := mj_bd hf
  refine mj_get 27 rfl fl_X4_47 (mj_gI_V ex3) ?_
  refine mj_blk k_X4_ok 28 1 (pc' := 58) (l' := [(0, .ref v0)]) (st' := [.ref v0, .int x3, .ref (1010 + 0), .ref x2]) rfl ?_
  obtain ⟨x4, ex4, hf⟩ := mj_bd hf
  refine mj_get 29 rfl fl_X4_29 (mj_gI_V ex4) ?_
  obtain ⟨gp5, hf⟩ := mj_gd hf
  obtain ⟨p5, ep5, hf⟩ := mj_bd hf
  refine mj_callV (T := TX7) (N := 2) (ci := 7) mX7_spells [.ref (1010 + 0), .int x3, .int x4] 30 rfl ll_X4_101 lb_X7_spells li_X7_spells ⟨Nat.le_of_ble_eq_true rfl, Nat.le_of_ble_eq_true rfl⟩ rfl gp5 rfl (rest := []) rfl (Nat.le_of_ble_eq_true rfl) ⟨Nat.le_of_ble_eq_true rfl, Nat.le_of_ble_eq_true rfl⟩ (c_X7_spells x2 (1010 + 0) x3 x4 h1 p5 ep5) ?_
  show mj_W mX4_readWord (mj_FV p) 64 [(0, .ref v0)] [.int p5.1] p5.2 0 0
  refine mj_if_eq 31 75 rfl (by decide) (fun q => ?_) (fun q => ?_)
  · have hf := (if_pos q).symm.trans hf
    refine mj_blk k_X4_ok 36 1 (pc' := 76) (l' := [(0, .ref v0)]) (st' := [.ref v0]) rfl ?_
    obtain ⟨x6, ex6, hf⟩ := mj_bd hf
    refine mj_get 37 rfl fl_X4_12 (mj_gR_V ex6) ?_
    refine mj_ldcS 1 38 rfl rfl rfl ?_
    refine mj_blk k_X4_ok 39 1 (pc' := 82) (l' := [(0, .ref v0)]) (st' := [.ref v0, .ref (1010 + 1), .ref x6]) rfl ?_
    obtain ⟨x7, ex7, hf⟩ := mj_bd hf
    refine mj_get 40 rfl fl_X4_47 (mj_gI_V ex7) ?_
    refine mj_blk k_X4_ok 41 1 (pc' := 86) (l' := [(0, .ref v0)]) (st' := [.ref v0, .int x7, .ref (1010 + 1), .ref x6]) rfl ?_
    obtain ⟨x8, ex8, hf⟩ := mj_bd hf
    refine mj_get 42 rfl fl_X4_29 (mj_gI_V ex8) ?_
    obtain ⟨gp9, hf⟩ := mj_gd hf
    obtain ⟨p9, ep9, hf⟩ := mj_bd hf
    refine mj_callV (T := TX7) (N := 2) (ci := 7) mX7_spells [.ref (1010 + 1), .int x7, .int x8] 43 rfl ll_X4_101 lb_X7_spells li_X7_spells ⟨Nat.le_of_ble_eq_true rfl, Nat.le_of_ble_eq_true rfl⟩ rfl gp9 rfl (rest := []) rfl (Nat.le_of_ble_eq_true rfl) ⟨Nat.le_of_ble_eq_true rfl, Nat.le_of_ble_eq_true rfl⟩ (c_X7_spells x6 (1010 + 1) x7 x8 p5.2 p9 ep9) ?_
    show mj_W mX4_readWord (mj_FV p) 92 [(0, .ref v0)] [.int p9.1] p9.2 0 0
    refine mj_if_eq 44 103 rfl (by decide) (fun q => ?_) (fun q => ?_)
    · have hf := (if_pos q).symm.trans hf
      refine mj_blk k_X4_ok 49 1 (pc' := 104) (l' := [(0, .ref v0)]) (st' := [.ref v0]) rfl ?_
      obtain ⟨x10, ex10, hf⟩ := mj_bd hf
      refine mj_get 50 rfl fl_X4_12 (mj_gR_V ex10) ?_
      refine mj_ldcS 2 51 rfl rfl rfl ?_
      refine mj_blk k_X4_ok 52 1 (pc' := 110) (l' := [(0, .ref v0)]) (st' := [.ref v0, .ref (1010 + 2), .ref x10]) rfl ?_
      obtain ⟨x11, ex11, hf⟩ := mj_bd hf
      refine mj_get 53 rfl fl_X4_47 (mj_gI_V ex11) ?_
      refine mj_blk k_X4_ok 54 1 (pc' := 114) (l' := [(0, .ref v0)]) (st' := [.ref v0, .int x11, .ref (1010 + 2), .ref x10]) rfl ?_
      obtain ⟨x12, ex12, hf⟩ := mj_bd hf
      refine mj_get 55 rfl fl_X4_29 (mj_gI_V ex12) ?_
      obtain ⟨gp13, hf⟩ := mj_gd hf
      obtain ⟨p13, ep13, hf⟩ := mj_bd hf
      refine mj_callV (T := TX7) (N := 2) (ci := 7) mX7_spells [.ref (1010 + 2), .int x11, .int x12] 56 rfl ll_X4_101 lb_X7_spells li_X7_spells ⟨Nat.le_of_ble_eq_true rfl, Nat.le_of_ble_eq_true rfl⟩ rfl gp13 rfl (rest := []) rfl (Nat.le_of_ble_eq_true rfl) ⟨Nat.le_of_ble_eq_true rfl, Nat.le_of_ble_eq_true rfl⟩ (c_X7_spells x10 (1010 + 2) x11 x12 p9.2 p13 ep13) ?_
      show mj_W mX4_readWord (mj_FV p) 120 [(0, .ref v0)] [.int p13.1] p13.2 0 0
      refine mj_if_eq 57 131 rfl (by decide) (fun q => ?_) (fun q => ?_)
      · have hf := (if_pos q).symm.trans hf
        refine mj_blk k_X4_ok 62 1 (pc' := 132) (l' := [(0, .ref v0)]) (st' := [.ref v0]) rfl ?_
        obtain ⟨x14, ex14, hf⟩ := mj_bd hf
        refine mj_get 63 rfl fl_X4_12 (mj_gR_V ex14) ?_
        refine mj_ldcS 3 64 rfl rfl rfl ?_
        refine mj_blk k_X4_ok 65 1 (pc' := 138) (l' := [(0, .ref v0)]) (st' := [.ref v0, .ref (1010 + 3), .ref x14]) rfl ?_
        obtain ⟨x15, ex15, hf⟩ := mj_bd hf
        refine mj_get 66 rfl fl_X4_47 (mj_gI_V ex15) ?_
        refine mj_blk k_X4_ok 67 1 (pc' := 142) (l' := [(0, .ref v0)]) (st' := [.ref v0, .int x15, .ref (1010 + 3), .ref x14]) rfl ?_
        obtain ⟨x16, ex16, hf⟩ := mj_bd hf
        refine mj_get 68 rfl fl_X4_29 (mj_gI_V ex16) ?_
        obtain ⟨gp17, hf⟩ := mj_gd hf
        obtain ⟨p17, ep17, hf⟩ := mj_bd hf
        refine mj_callV (T := TX7) (N := 2) (ci := 7) mX7_spells [.ref (1010 + 3), .int x15, .int x16] 69 rfl ll_X4_101 lb_X7_spells li_X7_spells ⟨Nat.le_of_ble_eq_true rfl, Nat.le_of_ble_eq_true rfl⟩ rfl gp17 rfl (rest := []) rfl (Nat.le_of_ble_eq_true rfl) ⟨Nat.le_of_ble_eq_true rfl, Nat.le_of_ble_eq_true rfl⟩ (c_X7_spells x14 (1010 + 3) x15 x16 p13.2 p17 ep17) ?_
        show mj_W mX4_readWord (mj_FV p) 148 [(0, .ref v0)] [.int p17.1] p17.2 0 0
        refine mj_if_eq 70 159 rfl (by decide) (fun q => ?_) (fun q => ?_)
        · have hf := (if_pos q).symm.trans hf
          refine mj_blk k_X4_ok 75 1 (pc' := 160) (l' := [(0, .ref v0)]) (st' := [.ref v0]) rfl ?_
          obtain ⟨x18, ex18, hf⟩ := mj_bd hf
          refine mj_get 76 rfl fl_X4_12 (mj_gR_V ex18) ?_
          refine mj_ldcS 4 77 rfl rfl rfl ?_
          refine mj_blk k_X4_ok 78 1 (pc' := 166) (l' := [(0, .ref v0)]) (st' := [.ref v0, .ref (1010 + 4), .ref x18]) rfl ?_
          obtain ⟨x19, ex19, hf⟩ := mj_bd hf
          refine mj_get 79 rfl fl_X4_47 (mj_gI_V ex19) ?_
          refine mj_blk k_X4_ok 80 1 (pc' := 170) (l' := [(0, .ref v0)]) (st' := [.ref v0, .int x19, .ref (1010 + 4), .ref x18]) rfl ?_
          obtain ⟨x20, ex20, hf⟩ := mj_bd hf
          refine mj_get 81 rfl fl_X4_29 (mj_gI_V ex20) ?_
          obtain ⟨gp21, hf⟩ := mj_gd hf
          obtain ⟨p21, ep21, hf⟩ := mj_bd hf
          refine mj_callV (T := TX7) (N := 2) (ci := 7) mX7_spells [.ref (1010 + 4), .int x19, .int x20] 82 rfl ll_X4_101 lb_X7_spells li_X7_spells ⟨Nat.le_of_ble_eq_true rfl, Nat.le_of_ble_eq_true rfl⟩ rfl gp21 rfl (rest := []) rfl (Nat.le_of_ble_eq_true rfl) ⟨Nat.le_of_ble_eq_true rfl, Nat.le_of_ble_eq_true rfl⟩ (c_X7_spells x18 (1010 + 4) x19 x20 p17.2 p21 ep21) ?_
          show mj_W mX4_readWord (mj_FV p) 176 [(0, .ref v0)] [.int p21.1] p21.2 0 0
          refine mj_if_eq 83 187 rfl (by decide) (fun q => ?_) (fun q => ?_)
          · have hf := (if_pos q).symm.trans hf
            refine mj_blk k_X4_ok 88 2 (pc' := 189) (l' := [(0, .ref v0)]) (st' := [.int (0 : Int32), .ref v0]) rfl ?_
            obtain ⟨h22, eh22, hf⟩ := mj_bd hf
            refine mj_put 90 rfl fp_X4_77 (fun _ => ⟨rfl, rfl⟩) eh22 ?_
            obtain rfl := Option.some.inj hf
            exact mj_end none ⟨mj_dec tok_X4_readWord (a := 91) rfl, rfl⟩ ⟨rfl, rfl⟩ (Nat.le_of_ble_eq_true rfl) (Nat.le_of_ble_eq_true rfl)
          · have hf := (if_neg q).symm.trans hf
            refine mj_blk k_X4_ok 84 2 (pc' := 181) (l' := [(0, .ref v0)]) (st' := [.int (4 : Int32), .ref v0]) rfl ?_
            obtain ⟨h23, eh23, hf⟩ := mj_bd hf
            refine mj_put 86 rfl fp_X4_80 (fun _ => ⟨rfl, rfl⟩) eh23 ?_
            refine mj_blk k_X4_ok 87 1 (pc' := 192) (l' := [(0, .ref v0)]) (st' := []) rfl ?_
            obtain rfl := Option.some.inj hf
            exact mj_end none ⟨mj_dec tok_X4_readWord (a := 91) rfl, rfl⟩ ⟨rfl, rfl⟩ (Nat.le_of_ble_eq_true rfl) (Nat.le_of_ble_eq_true rfl)
        · have hf := (if_neg q).symm.trans hf
          refine mj_blk k_X4_ok 71 2 (pc' := 153) (l' := [(0, .ref v0)]) (st' := [.int (3 : Int32), .ref v0]) rfl ?_
          obtain ⟨h24, eh24, hf⟩ := mj_bd hf
          refine mj_put 73 rfl fp_X4_80 (fun _ => ⟨rfl, rfl⟩) eh24 ?_
          refine mj_blk k_X4_ok 74 1 (pc' := 192) (l' := [(0, .ref v0)]) (st' := []) rfl ?_
          obtain rfl := Option.some.inj hf
          exact mj_end none ⟨mj_dec tok_X4_readWord (a := 91) rfl, rfl⟩ ⟨rfl, rfl⟩ (Nat.le_of_ble_eq_true rfl) (Nat.le_of_ble_eq_true rfl)
      · have hf := (if_neg q).symm.trans hf
        refine mj_blk k_X4_ok 58 2 (pc' := 125) (l' := [(0, .ref v0)]) (st' := [.int (2 : Int32), .ref v0]) rfl ?_
        obtain ⟨h25, eh25, hf⟩ := mj_bd hf
        refine mj_put 60 rfl fp_X4_80 (fun _ => ⟨rfl, rfl⟩) eh25 ?_
        refine mj_blk k_X4_ok 61 1 (pc' := 192) (l' := [(0, .ref v0)]) (st' := []) rfl ?_
        obtain rfl := Option.some.inj hf
        exact mj_end none ⟨mj_dec tok_X4_readWord (a := 91) rfl, rfl⟩ ⟨rfl, rfl⟩ (Nat.le_of_ble_eq_true rfl) (Nat.le_of_ble_eq_true rfl)
    · have hf := (if_neg q).symm.trans hf
      refine mj_blk k_X4_ok 45 2 (pc' := 97) (l' := [(0, .ref v0)]) (st' := [.int (1 : Int32), .ref v0]) rfl ?_
      obtain ⟨h26, eh26, hf⟩ := mj_bd hf
      refine mj_put 47 rfl fp_X4_80 (fun _ => ⟨rfl, rfl⟩) eh26 ?_
      refine mj_blk k_X4_ok 48 1 (pc' := 192) (l' := [(0, .ref v0)]) (st' := []) rfl ?_
      obtain rfl := Option.some.inj hf
      exact mj_end none ⟨mj_dec tok_X4_readWord (a := 91) rfl, rfl⟩ ⟨rfl, rfl⟩ (Nat.le_of_ble_eq_true rfl) (Nat.le_of_ble_eq_true rfl)
  · have hf := (if_neg q).symm.trans hf
    refine mj_blk k_X4_ok 32 2 (pc' := 69) (l' := [(0, .ref v0)]) (st' := [.int (0 : Int32), .ref v0]) rfl ?_
    obtain ⟨h27, eh27, hf⟩ := mj_bd hf
    refine mj_put 34 rfl fp_X4_80 (fun _ => ⟨rfl, rfl⟩) eh27 ?_
    refine mj_blk k_X4_ok 35 1 (pc' := 192) (l' := [(0, .ref v0)]) (st' := []) rfl ?_
    obtain rfl := Option.some.inj hf
    exact mj_end none ⟨mj_dec tok_X4_readWord (a := 91) rfl, rfl⟩ ⟨rfl, rfl⟩ (Nat.le_of_ble_eq_true rfl) (Nat.le_of_ble_eq_true rfl)
def b_X4_readWord_2 (K2 : Nat → Int32 → mj_H → Option (mj_H)) (v0 : Nat) (v1 : Int32) (h : mj_H) : Option (mj_H) := (if (150 : Int32) ≤ v1 then f_X4_readWord_42 v0 h else (mj_gR h v0 4 0).bind fun x28 => (mj_gI h v0 4 3).bind fun x29 => (if mj_ob h x28 7 = true then (f_X7_byteAt x28 x29 h).bind fun p30 => (f_X4_isLetter p30.1 p30.2).bind fun p31 => (if p31.1 = 0 then f_X4_readWord_42 v0 p31.2 else (mj_gI p31.2 v0 4 3).bind fun x32 => (mj_sV p31.2 v0 4 3 (.int (x32 + (1 : Int32)))).bind fun h33 => K2 v0 (v1 + (1 : Int32)) h33) else none))
set_option maxHeartbeats 4000000 in
set_option maxRecDepth 100000 in
theorem wb_X4_readWord_2 (K2 : Nat → Int32 → mj_H → Option (mj_H)) (hK2 : ∀ (v0 : Nat) (v1 : Int32)  (h : mj_H) (p : mj_H), K2 v0 v1 h = some p → mj_W mX4_readWord (mj_FV p) 2 [(0, .ref v0), (1, .int v1)] [] h 0 0) (v0 : Nat) (v1 : Int32) (h : mj_H) (p : mj_H) (hf : b_X4_readWord_2  K2 v0 v1 h = some p) : mj_W mX4_readWord (mj_FV p) 2 [(0, .ref v0), (1, .int v1)] [] h 0 0 := by
  unfold b_X4_readWord_2 at hf
  refine mj_blk k_X4_ok 2 2 (pc' := 6) (l' := [(0, .ref v0), (1, .int v1)]) (st' := [.int (150 : Int32), .int v1]) rfl ?_
  refine mj_icmp_ge 4 42 rfl (by decide) (fun q => ?_) (fun q => ?_)
  · have hf := (if_pos q).symm.trans hf
    refine mj_locs [0] (l' := [(0, .ref v0)]) rfl ?_
    exact w_X4_readWord_42 v0 h _ hf
  · have hf := (if_neg q).symm.trans hf
    refine mj_blk k_X4_ok 5 1 (pc' := 10) (l' := [(0, .ref v0), (1, .int v1)]) (st' := [.ref v0]) rfl ?_
    obtain ⟨x28, ex28, hf⟩ := mj_bd hf
    refine mj_get 6 rfl fl_X4_12 (mj_gR_V ex28) ?_
    refine mj_blk k_X4_ok 7 1 (pc' := 14) (l' := [(0, .ref v0), (1, .int v1)]) (st' := [.ref v0, .ref x28]) rfl ?_
    obtain ⟨x29, ex29, hf⟩ := mj_bd hf
    refine mj_get 8 rfl fl_X4_29 (mj_gI_V ex29) ?_
    obtain ⟨gp30, hf⟩ := mj_gd hf
    obtain ⟨p30, ep30, hf⟩ := mj_bd hf
    refine mj_callV (T := TX7) (N := 2) (ci := 7) mX7_byteAt [.int x29] 9 rfl ll_X4_39 lb_X7_byteAt li_X7_byteAt ⟨Nat.le_of_ble_eq_true rfl, Nat.le_of_ble_eq_true rfl⟩ rfl gp30 rfl (rest := []) rfl (Nat.le_of_ble_eq_true rfl) ⟨Nat.le_of_ble_eq_true rfl, Nat.le_of_ble_eq_true rfl⟩ (c_X7_byteAt x28 x29 h p30 ep30) ?_
    show mj_W mX4_readWord (mj_FV p) 20 [(0, .ref v0), (1, .int v1)] [.int p30.1] p30.2 0 0
    obtain ⟨p31, ep31, hf⟩ := mj_bd hf
    refine mj_callS mX4_isLetter [.int p30.1] 10 rfl ll_X4_86 lb_X4_isLetter li_X4_isLetter ⟨Nat.le_of_ble_eq_true rfl, Nat.le_of_ble_eq_true rfl⟩ rfl (rest := []) rfl (Nat.le_of_ble_eq_true rfl) ⟨Nat.le_of_ble_eq_true rfl, Nat.le_of_ble_eq_true rfl⟩ (c_X4_isLetter p30.1 p30.2 p31 ep31) ?_
    show mj_W mX4_readWord (mj_FV p) 23 [(0, .ref v0), (1, .int v1)] [.int p31.1] p31.2 0 0
    refine mj_if_eq 11 42 rfl (by decide) (fun q => ?_) (fun q => ?_)
    · have hf := (if_pos q).symm.trans hf
      refine mj_locs [0] (l' := [(0, .ref v0)]) rfl ?_
      exact w_X4_readWord_42 v0 p31.2 _ hf
    · have hf := (if_neg q).symm.trans hf
      refine mj_blk k_X4_ok 12 2 (pc' := 28) (l' := [(0, .ref v0), (1, .int v1)]) (st' := [.ref v0, .ref v0]) rfl ?_
      obtain ⟨x32, ex32, hf⟩ := mj_bd hf
      refine mj_get 14 rfl fl_X4_29 (mj_gI_V ex32) ?_
      refine mj_blk k_X4_ok 15 2 (pc' := 33) (l' := [(0, .ref v0), (1, .int v1)]) (st' := [.int (x32 + (1 : Int32)), .ref v0]) rfl ?_
      obtain ⟨h33, eh33, hf⟩ := mj_bd hf
      refine mj_put 17 rfl fp_X4_29 (fun _ => ⟨rfl, rfl⟩) eh33 ?_
      refine mj_blk k_X4_ok 18 2 (pc' := 2) (l' := [(1, .int (v1 + (1 : Int32))), (0, .ref v0)]) (st' := []) rfl ?_
      refine mj_locs [1, 0] (l' := [(0, .ref v0), (1, .int (v1 + (1 : Int32)))]) rfl ?_
      exact hK2 v0 (v1 + (1 : Int32)) h33 _ hf
def f_X4_readWord_2 (v0 : Nat) (v1 : Int32) (h : mj_H) : Option (mj_H) := mj_fix (fun (K2 : (Nat × Int32 × mj_H) → Option (mj_H)) (s : Nat × Int32 × mj_H) => b_X4_readWord_2  (fun v0 v1 h => K2 (v0, v1, h)) s.1 s.2.1 s.2.2) 1000 (v0, v1, h)
set_option maxHeartbeats 4000000 in
set_option maxRecDepth 100000 in
theorem w_X4_readWord_2 (v0 : Nat) (v1 : Int32) (h : mj_H) (p : mj_H) (hf : f_X4_readWord_2  v0 v1 h = some p) : mj_W mX4_readWord (mj_FV p) 2 [(0, .ref v0), (1, .int v1)] [] h 0 0 := by
  unfold f_X4_readWord_2 at hf
  exact mj_fix_ind (F := (fun (K2 : (Nat × Int32 × mj_H) → Option (mj_H)) (s : Nat × Int32 × mj_H) => b_X4_readWord_2  (fun v0 v1 h => K2 (v0, v1, h)) s.1 s.2.1 s.2.2)) (P := fun s p => mj_W mX4_readWord (mj_FV p) 2 [(0, .ref s.1), (1, .int s.2.1)] [] s.2.2 0 0) (fun K2 hK2 s p hf => wb_X4_readWord_2   (fun v0 v1 h => K2 (v0, v1, h)) (fun v0 v1 h p e => hK2 (v0, v1, h) p e) s.1 s.2.1 s.2.2 p hf) 1000 (v0, v1, h) p hf
def f_X4_readWord (v0 : Nat) (h : mj_H) : Option (mj_H) := f_X4_readWord_2 v0 (0 : Int32) h
set_option maxHeartbeats 4000000 in
set_option maxRecDepth 100000 in
theorem c_X4_readWord (v0 : Nat) (h : mj_H) (p : mj_H) (hf : f_X4_readWord v0 h = some p) : mj_Met mX4_readWord [.ref v0] h none p := by
  refine mj_met pl_X4 tok_X4_readWord (Nat.le_of_ble_eq_true rfl) ?_
  show mj_W mX4_readWord (mj_FV p) 0 [(0, .ref v0)] [] h 0 0
  unfold f_X4_readWord at hf
  refine mj_blk k_X4_ok 0 2 (pc' := 2) (l' := [(1, .int (0 : Int32)), (0, .ref v0)]) (st' := []) rfl ?_
  refine mj_locs [1, 0] (l' := [(0, .ref v0), (1, .int (0 : Int32))]) rfl ?_
  exact w_X4_readWord_2 v0 (0 : Int32) h _ hf
def f_X4_isFigure (v0 : Int32) (h : mj_H) : Option (Int32 × mj_H) := (if v0 < (48 : Int32) then some ((0 : Int32), h) else (if (57 : Int32) < v0 then some ((0 : Int32), h) else some ((1 : Int32), h)))
set_option maxHeartbeats 4000000 in
set_option maxRecDepth 100000 in
theorem c_X4_isFigure (v0 : Int32) (h : mj_H) (p : Int32 × mj_H) (hf : f_X4_isFigure v0 h = some p) : mj_Met mX4_isFigure [.int v0] h (some (.int p.1)) p.2 := by
  refine mj_met pl_X4 tok_X4_isFigure (Nat.le_of_ble_eq_true rfl) ?_
  show mj_W mX4_isFigure (mj_FI p) 0 [(0, .int v0)] [] h 0 0
  unfold f_X4_isFigure at hf
  refine mj_blk k_X4_ok 0 2 (pc' := 3) (l' := [(0, .int v0)]) (st' := [.int (48 : Int32), .int v0]) rfl ?_
  refine mj_icmp_lt 2 16 rfl (by decide) (fun q => ?_) (fun q => ?_)
  · have hf := (if_pos q).symm.trans hf
    refine mj_blk k_X4_ok 8 1 (pc' := 17) (l' := [(0, .int v0)]) (st' := [.int (0 : Int32)]) rfl ?_
    obtain rfl := Option.some.inj hf
    exact mj_end (some (.int (0 : Int32))) ⟨mj_dec tok_X4_isFigure (a := 9) rfl, .boolean, rfl, rfl⟩ ⟨rfl, rfl⟩ (Nat.le_of_ble_eq_true rfl) (Nat.le_of_ble_eq_true rfl)
  · have hf := (if_neg q).symm.trans hf
    refine mj_blk k_X4_ok 3 2 (pc' := 9) (l' := [(0, .int v0)]) (st' := [.int (57 : Int32), .int v0]) rfl ?_
    refine mj_icmp_gt 5 16 rfl (by decide) (fun q => ?_) (fun q => ?_)
    · have hf := (if_pos q).symm.trans hf
      refine mj_blk k_X4_ok 8 1 (pc' := 17) (l' := [(0, .int v0)]) (st' := [.int (0 : Int32)]) rfl ?_
      obtain rfl := Option.some.inj hf
      exact mj_end (some (.int (0 : Int32))) ⟨mj_dec tok_X4_isFigure (a := 9) rfl, .boolean, rfl, rfl⟩ ⟨rfl, rfl⟩ (Nat.le_of_ble_eq_true rfl) (Nat.le_of_ble_eq_true rfl)
    · have hf := (if_neg q).symm.trans hf
      refine mj_blk k_X4_ok 6 2 (pc' := 17) (l' := [(0, .int v0)]) (st' := [.int (1 : Int32)]) rfl ?_
      obtain rfl := Option.some.inj hf
      exact mj_end (some (.int (1 : Int32))) ⟨mj_dec tok_X4_isFigure (a := 9) rfl, .boolean, rfl, rfl⟩ ⟨rfl, rfl⟩ (Nat.le_of_ble_eq_true rfl) (Nat.le_of_ble_eq_true rfl)
def f_X4_readNumber_97 (s0 : Nat) (s1 : Int32) (h : mj_H) : Option (mj_H) := (mj_sV h s0 4 5 (.int s1)).bind fun h1 => some h1
set_option maxHeartbeats 4000000 in
set_option maxRecDepth 100000 in
theorem w_X4_readNumber_97 (s0 : Nat) (s1 : Int32) (h : mj_H) (p : mj_H) (hf : f_X4_readNumber_97  s0 s1 h = some p) : mj_W mX4_readNumber (mj_FV p) 97 [] [.int s1, .ref s0] h 0 0 := by
  unfold f_X4_readNumber_97 at hf
  obtain ⟨h1, eh1, hf⟩ := mj_bd hf
  refine mj_put 51 rfl fp_X4_77 (fun _ => ⟨rfl, rfl⟩) eh1 ?_
  obtain rfl := Option.some.inj hf
  exact mj_end none ⟨mj_dec tok_X4_readNumber (a := 52) rfl, rfl⟩ ⟨rfl, rfl⟩ (Nat.le_of_ble_eq_true rfl) (Nat.le_of_ble_eq_true rfl)
def f_X4_readNumber_78 (v0 : Nat) (h : mj_H) : Option (mj_H) := (mj_gI h v0 4 3).bind fun x2 => (mj_gI h v0 4 4).bind fun x3 => (if (2 : Int32) < (x2 - x3) then f_X4_readNumber_97 v0 (0 : Int32) h else f_X4_readNumber_97 v0 (2 : Int32) h)
set_option maxHeartbeats 4000000 in
set_option maxRecDepth 100000 in
theorem w_X4_readNumber_78 (v0 : Nat) (h : mj_H) (p : mj_H) (hf : f_X4_readNumber_78  v0 h = some p) : mj_W mX4_readNumber (mj_FV p) 78 [(0, .ref v0)] [] h 0 0 := by
  unfold f_X4_readNumber_78 at hf
  refine mj_blk k_X4_ok 40 2 (pc' := 80) (l' := [(0, .ref v0)]) (st' := [.ref v0, .ref v0]) rfl ?_
  obtain ⟨x2, ex2, hf⟩ := mj_bd hf
  refine mj_get 42 rfl fl_X4_29 (mj_gI_V ex2) ?_
  refine mj_blk k_X4_ok 43 1 (pc' := 84) (l' := [(0, .ref v0)]) (st' := [.ref v0, .int x2, .ref v0]) rfl ?_
  obtain ⟨x3, ex3, hf⟩ := mj_bd hf
  refine mj_get 44 rfl fl_X4_47 (mj_gI_V ex3) ?_
  refine mj_blk k_X4_ok 45 2 (pc' := 89) (l' := [(0, .ref v0)]) (st' := [.int (2 : Int32), .int (x2 - x3), .ref v0]) rfl ?_
  refine mj_icmp_gt 47 96 rfl (by decide) (fun q => ?_) (fun q => ?_)
  · have hf := (if_pos q).symm.trans hf
    refine mj_blk k_X4_ok 50 1 (pc' := 97) (l' := [(0, .ref v0)]) (st' := [.int (0 : Int32), .ref v0]) rfl ?_
    refine mj_locs [] (l' := []) rfl ?_
    exact w_X4_readNumber_97 v0 (0 : Int32) h _ hf
  · have hf := (if_neg q).symm.trans hf
    refine mj_blk k_X4_ok 48 2 (pc' := 97) (l' := [(0, .ref v0)]) (st' := [.int (2 : Int32), .ref v0]) rfl ?_
    refine mj_locs [] (l' := []) rfl ?_
    exact w_X4_readNumber_97 v0 (2 : Int32) h _ hf
def f_X4_readNumber_62 (K7 : Nat → Int32 → mj_H → Option (mj_H)) (v0 : Nat) (v1 : Int32) (h : mj_H) : Option (mj_H) := (mj_gI h v0 4 3).bind fun x4 => (mj_sV h v0 4 3 (.int (x4 + (1 : Int32)))).bind fun h5 => K7 v0 (v1 + (1 : Int32)) h5
set_option maxHeartbeats 4000000 in
set_option maxRecDepth 100000 in
theorem w_X4_readNumber_62 (K7 : Nat → Int32 → mj_H → Option (mj_H)) (hK7 : ∀ (v0 : Nat) (v1 : Int32)  (h : mj_H) (p : mj_H), K7 v0 v1 h = some p → mj_W mX4_readNumber (mj_FV p) 7 [(0, .ref v0), (1, .int v1)] [] h 0 0) (v0 : Nat) (v1 : Int32) (h : mj_H) (p : mj_H) (hf : f_X4_readNumber_62 K7 v0 v1 h = some p) : mj_W mX4_readNumber (mj_FV p) 62 [(0, .ref v0), (1, .int v1)] [] h 0 0 := by
  unfold f_X4_readNumber_62 at hf
  refine mj_blk k_X4_ok 32 2 (pc' := 64) (l' := [(0, .ref v0), (1, .int v1)]) (st' := [.ref v0, .ref v0]) rfl ?_
  obtain ⟨x4, ex4, hf⟩ := mj_bd hf
  refine mj_get 34 rfl fl_X4_29 (mj_gI_V ex4) ?_
  refine mj_blk k_X4_ok 35 2 (pc' := 69) (l' := [(0, .ref v0), (1, .int v1)]) (st' := [.int (x4 + (1 : Int32)), .ref v0]) rfl ?_
  obtain ⟨h5, eh5, hf⟩ := mj_bd hf
  refine mj_put 37 rfl fp_X4_29 (fun _ => ⟨rfl, rfl⟩) eh5 ?_
  refine mj_blk k_X4_ok 38 2 (pc' := 7) (l' := [(1, .int (v1 + (1 : Int32))), (0, .ref v0)]) (st' := []) rfl ?_
  refine mj_locs [1, 0] (l' := [(0, .ref v0), (1, .int (v1 + (1 : Int32)))]) rfl ?_
  exact hK7 v0 (v1 + (1 : Int32)) h5 _ hf
def b_X4_readNumber_7 (K7 : Nat → Int32 → mj_H → Option (mj_H)) (v0 : Nat) (v1 : Int32) (h : mj_H) : Option (mj_H) := (if (150 : Int32) ≤ v1 then f_X4_readNumber_78 v0 h else (mj_gR h v0 4 0).bind fun x6 => (mj_gI h v0 4 3).bind fun x7 => (if mj_ob h x6 7 = true then (f_X7_byteAt x6 x7 h).bind fun p8 => (f_X4_isFigure p8.1 p8.2).bind fun p9 => (if p9.1 = 0 then f_X4_readNumber_78 v0 p9.2 else (if (2 : Int32) ≤ v1 then f_X4_readNumber_62 K7 v0 v1 p9.2 else (mj_gI p9.2 v0 4 6).bind fun x10 => (mj_gR p9.2 v0 4 0).bind fun x11 => (mj_gI p9.2 v0 4 3).bind fun x12 => (if mj_ob p9.2 x11 7 = true then (f_X7_byteAt x11 x12 p9.2).bind fun p13 => (mj_sV p13.2 v0 4 6 (.int ((((10 : Int32) * x10) + p13.1) - (48 : Int32)))).bind fun h14 => f_X4_readNumber_62 K7 v0 v1 h14 else none))) else none))
set_option maxHeartbeats 4000000 in
set_option maxRecDepth 100000 in
theorem wb_X4_readNumber_7 (K7 : Nat → Int32 → mj_H → Option (mj_H)) (hK7 : ∀ (v0 : Nat) (v1 : Int32)  (h : mj_H) (p : mj_H), K7 v0 v1 h = some p → mj_W mX4_readNumber (mj_FV p) 7 [(0, .ref v0), (1, .int v1)] [] h 0 0) (v0 : Nat) (v1 : Int32) (h : mj_H) (p : mj_H) (hf : b_X4_readNumber_7  K7 v0 v1 h = some p) : mj_W mX4_readNumber (mj_FV p) 7 [(0, .ref v0), (1, .int v1)] [] h 0 0 := by
  unfold b_X4_readNumber_7 at hf
  refine mj_blk k_X4_ok 5 2 (pc' := 11) (l' := [(0, .ref v0), (1, .int v1)]) (st' := [.int (150 : Int32), .int v1]) rfl ?_
  refine mj_icmp_ge 7 78 rfl (by decide) (fun q => ?_) (fun q => ?_)
  · have hf := (if_pos q).symm.trans hf
    refine mj_locs [0] (l' := [(0, .ref v0)]) rfl ?_
    exact w_X4_readNumber_78 v0 h _ hf
  · have hf := (if_neg q).symm.trans hf
    refine mj_blk k_X4_ok 8 1 (pc' := 15) (l' := [(0, .ref v0), (1, .int v1)]) (st' := [.ref v0]) rfl ?_
    obtain ⟨x6, ex6, hf⟩ := mj_bd hf
    refine mj_get 9 rfl fl_X4_12 (mj_gR_V ex6) ?_
    refine mj_blk k_X4_ok 10 1 (pc' := 19) (l' := [(0, .ref v0), (1, .int v1)]) (st' := [.ref v0, .ref x6]) rfl ?_
    obtain ⟨x7, ex7, hf⟩ := mj_bd hf
    refine mj_get 11 rfl fl_X4_29 (mj_gI_V ex7) ?_
    obtain ⟨gp8, hf⟩ := mj_gd hf
    obtain ⟨p8, ep8, hf⟩ := mj_bd hf
    refine mj_callV (T := TX7) (N := 2) (ci := 7) mX7_byteAt [.int x7] 12 rfl ll_X4_39 lb_X7_byteAt li_X7_byteAt ⟨Nat.le_of_ble_eq_true rfl, Nat.le_of_ble_eq_true rfl⟩ rfl gp8 rfl (rest := []) rfl (Nat.le_of_ble_eq_true rfl) ⟨Nat.le_of_ble_eq_true rfl, Nat.le_of_ble_eq_true rfl⟩ (c_X7_byteAt x6 x7 h p8 ep8) ?_
    show mj_W mX4_readNumber (mj_FV p) 25 [(0, .ref v0), (1, .int v1)] [.int p8.1] p8.2 0 0
    obtain ⟨p9, ep9, hf⟩ := mj_bd hf
    refine mj_callS mX4_isFigure [.int p8.1] 13 rfl ll_X4_93 lb_X4_isFigure li_X4_isFigure ⟨Nat.le_of_ble_eq_true rfl, Nat.le_of_ble_eq_true rfl⟩ rfl (rest := []) rfl (Nat.le_of_ble_eq_true rfl) ⟨Nat.le_of_ble_eq_true rfl, Nat.le_of_ble_eq_true rfl⟩ (c_X4_isFigure p8.1 p8.2 p9 ep9) ?_
    show mj_W mX4_readNumber (mj_FV p) 28 [(0, .ref v0), (1, .int v1)] [.int p9.1] p9.2 0 0
    refine mj_if_eq 14 78 rfl (by decide) (fun q => ?_) (fun q => ?_)
    · have hf := (if_pos q).symm.trans hf
      refine mj_locs [0] (l' := [(0, .ref v0)]) rfl ?_
      exact w_X4_readNumber_78 v0 p9.2 _ hf
    · have hf := (if_neg q).symm.trans hf
      refine mj_blk k_X4_ok 15 2 (pc' := 33) (l' := [(0, .ref v0), (1, .int v1)]) (st' := [.int (2 : Int32), .int v1]) rfl ?_
      refine mj_icmp_ge 17 62 rfl (by decide) (fun q => ?_) (fun q => ?_)
      · have hf := (if_pos q).symm.trans hf
        exact w_X4_readNumber_62 K7 hK7 v0 v1 p9.2 _ hf
      · have hf := (if_neg q).symm.trans hf
        refine mj_blk k_X4_ok 18 3 (pc' := 40) (l' := [(0, .ref v0), (1, .int v1)]) (st' := [.ref v0, .int (10 : Int32), .ref v0]) rfl ?_
        obtain ⟨x10, ex10, hf⟩ := mj_bd hf
        refine mj_get 21 rfl fl_X4_80 (mj_gI_V ex10) ?_
        refine mj_blk k_X4_ok 22 2 (pc' := 45) (l' := [(0, .ref v0), (1, .int v1)]) (st' := [.ref v0, .int ((10 : Int32) * x10), .ref v0]) rfl ?_
        obtain ⟨x11, ex11, hf⟩ := mj_bd hf
        refine mj_get 24 rfl fl_X4_12 (mj_gR_V ex11) ?_
        refine mj_blk k_X4_ok 25 1 (pc' := 49) (l' := [(0, .ref v0), (1, .int v1)]) (st' := [.ref v0, .ref x11, .int ((10 : Int32) * x10), .ref v0]) rfl ?_
        obtain ⟨x12, ex12, hf⟩ := mj_bd hf
        refine mj_get 26 rfl fl_X4_29 (mj_gI_V ex12) ?_
        obtain ⟨gp13, hf⟩ := mj_gd hf
        obtain ⟨p13, ep13, hf⟩ := mj_bd hf
        refine mj_callV (T := TX7) (N := 2) (ci := 7) mX7_byteAt [.int x12] 27 rfl ll_X4_39 lb_X7_byteAt li_X7_byteAt ⟨Nat.le_of_ble_eq_true rfl, Nat.le_of_ble_eq_true rfl⟩ rfl gp13 rfl (rest := [.int ((10 : Int32) * x10), .ref v0]) rfl (Nat.le_of_ble_eq_true rfl) ⟨Nat.le_of_ble_eq_true rfl, Nat.le_of_ble_eq_true rfl⟩ (c_X7_byteAt x11 x12 p9.2 p13 ep13) ?_
        show mj_W mX4_readNumber (mj_FV p) 55 [(0, .ref v0), (1, .int v1)] [.int p13.1, .int ((10 : Int32) * x10), .ref v0] p13.2 0 0
        refine mj_blk k_X4_ok 28 3 (pc' := 59) (l' := [(0, .ref v0), (1, .int v1)]) (st' := [.int ((((10 : Int32) * x10) + p13.1) - (48 : Int32)), .ref v0]) rfl ?_
        obtain ⟨h14, eh14, hf⟩ := mj_bd hf
        refine mj_put 31 rfl fp_X4_80 (fun _ => ⟨rfl, rfl⟩) eh14 ?_
        exact w_X4_readNumber_62 K7 hK7 v0 v1 h14 _ hf
def f_X4_readNumber_7 (v0 : Nat) (v1 : Int32) (h : mj_H) : Option (mj_H) := mj_fix (fun (K7 : (Nat × Int32 × mj_H) → Option (mj_H)) (s : Nat × Int32 × mj_H) => b_X4_readNumber_7  (fun v0 v1 h => K7 (v0, v1, h)) s.1 s.2.1 s.2.2) 1000 (v0, v1, h)
set_option maxHeartbeats 4000000 in
set_option maxRecDepth 100000 in
theorem w_X4_readNumber_7 (v0 : Nat) (v1 : Int32) (h : mj_H) (p : mj_H) (hf : f_X4_readNumber_7  v0 v1 h = some p) : mj_W mX4_readNumber (mj_FV p) 7 [(0, .ref v0), (1, .int v1)] [] h 0 0 := by
  unfold f_X4_readNumber_7 at hf
  exact mj_fix_ind (F := (fun (K7 : (Nat × Int32 × mj_H) → Option (mj_H)) (s : Nat × Int32 × mj_H) => b_X4_readNumber_7  (fun v0 v1 h => K7 (v0, v1, h)) s.1 s.2.1 s.2.2)) (P := fun s p => mj_W mX4_readNumber (mj_FV p) 7 [(0, .ref s.1), (1, .int s.2.1)] [] s.2.2 0 0) (fun K7 hK7 s p hf => wb_X4_readNumber_7   (fun v0 v1 h => K7 (v0, v1, h)) (fun v0 v1 h p e => hK7 (v0, v1, h) p e) s.1 s.2.1 s.2.2 p hf) 1000 (v0, v1, h) p hf
def f_X4_readNumber (v0 : Nat) (h : mj_H) : Option (mj_H) := (mj_sV h v0 4 6 (.int (0 : Int32))).bind fun h15 => f_X4_readNumber_7 v0 (0 : Int32) h15
set_option maxHeartbeats 4000000 in
set_option maxRecDepth 100000 in
theorem c_X4_readNumber (v0 : Nat) (h : mj_H) (p : mj_H) (hf : f_X4_readNumber v0 h = some p) : mj_Met mX4_readNumber [.ref v0] h none p := by
  refine mj_met pl_X4 tok_X4_readNumber (Nat.le_of_ble_eq_true rfl) ?_
  show mj_W mX4_readNumber (mj_FV p) 0 [(0, .ref v0)] [] h 0 0
  unfold f_X4_readNumber at hf
  refine mj_blk k_X4_ok 0 2 (pc' := 2) (l' := [(0, .ref v0)]) (st' := [.int (0 : Int32), .ref v0]) rfl ?_
  obtain ⟨h15, eh15, hf⟩ := mj_bd hf
  refine mj_put 2 rfl fp_X4_80 (fun _ => ⟨rfl, rfl⟩) eh15 ?_
  refine mj_blk k_X4_ok 3 2 (pc' := 7) (l' := [(1, .int (0 : Int32)), (0, .ref v0)]) (st' := []) rfl ?_
  refine mj_locs [1, 0] (l' := [(0, .ref v0), (1, .int (0 : Int32))]) rfl ?_
  exact w_X4_readNumber_7 v0 (0 : Int32) h15 _ hf
def f_X4_readToken (v0 : Nat) (h : mj_H) : Option (mj_H) := (if mj_ob h v0 4 = true then (f_X4_skipBlanks v0 h).bind fun p1 => (mj_gI p1 v0 4 3).bind fun x2 => (mj_sV p1 v0 4 4 (.int x2)).bind fun h3 => (mj_sV h3 v0 4 5 (.int (0 : Int32))).bind fun h4 => (mj_gR h4 v0 4 0).bind fun x5 => (mj_gI h4 v0 4 3).bind fun x6 => (if mj_ob h4 x5 7 = true then (f_X7_byteAt x5 x6 h4).bind fun p7 => (f_X4_isLetter p7.1 p7.2).bind fun p8 => (if p8.1 = 0 then (f_X4_isFigure p7.1 p8.2).bind fun p9 => (if p9.1 = 0 then (if p7.1 = (59 : Int32) then (mj_sV p9.2 v0 4 5 (.int (3 : Int32))).bind fun h10 => (mj_gI h10 v0 4 3).bind fun x11 => (mj_sV h10 v0 4 3 (.int (x11 + (1 : Int32)))).bind fun h12 => some h12 else some p9.2) else (if mj_ob p9.2 v0 4 = true then (f_X4_readNumber v0 p9.2).bind fun p13 => some p13 else none)) else (if mj_ob p8.2 v0 4 = true then (f_X4_readWord v0 p8.2).bind fun p14 => some p14 else none)) else none) else none)
set_option maxHeartbeats 4000000 in
set_option maxRecDepth 100000 in
theorem c_X4_readToken (v0 : Nat) (h : mj_H) (p : mj_H) (hf : f_X4_readToken v0 h = some p) : mj_Met mX4_readToken [.ref v0] h none p := by
  refine mj_met pl_X4 tok_X4_readToken (Nat.le_of_ble_eq_true rfl) ?_
  show mj_W mX4_readToken (mj_FV p) 0 [(0, .ref v0)] [] h 0 0
  unfold f_X4_readToken at hf
  refine mj_blk k_X4_ok 0 1 (pc' := 1) (l' := [(0, .ref v0)]) (st' := [.ref v0]) rfl ?_
  obtain ⟨gp1, hf⟩ := mj_gd hf
  obtain ⟨p1, ep1, hf⟩ := mj_bd hf
  refine mj_callV (T := TX4) (N := 9) (ci := 4) mX4_skipBlanks [] 1 rfl ll_X4_36 lb_X4_skipBlanks li_X4_skipBlanks ⟨Nat.le_of_ble_eq_true rfl, Nat.le_of_ble_eq_true rfl⟩ rfl gp1 rfl (rest := []) rfl (Nat.le_of_ble_eq_true rfl) ⟨Nat.le_of_ble_eq_true rfl, Nat.le_of_ble_eq_true rfl⟩ (c_X4_skipBlanks v0 h p1 ep1) ?_
  show mj_W mX4_readToken (mj_FV p) 4 [(0, .ref v0)] [] p1 0 0
  refine mj_blk k_X4_ok 2 2 (pc' := 6) (l' := [(0, .ref v0)]) (st' := [.ref v0, .ref v0]) rfl ?_
  obtain ⟨x2, ex2, hf⟩ := mj_bd hf
  refine mj_get 4 rfl fl_X4_29 (mj_gI_V ex2) ?_
  obtain ⟨h3, eh3, hf⟩ := mj_bd hf
  refine mj_put 5 rfl fp_X4_47 (fun _ => ⟨rfl, rfl⟩) eh3 ?_
  refine mj_blk k_X4_ok 6 2 (pc' := 14) (l' := [(0, .ref v0)]) (st' := [.int (0 : Int32), .ref v0]) rfl ?_
  obtain ⟨h4, eh4, hf⟩ := mj_bd hf
  refine mj_put 8 rfl fp_X4_77 (fun _ => ⟨rfl, rfl⟩) eh4 ?_
  refine mj_blk k_X4_ok 9 1 (pc' := 18) (l' := [(0, .ref v0)]) (st' := [.ref v0]) rfl ?_
  obtain ⟨x5, ex5, hf⟩ := mj_bd hf
  refine mj_get 10 rfl fl_X4_12 (mj_gR_V ex5) ?_
  refine mj_blk k_X4_ok 11 1 (pc' := 22) (l' := [(0, .ref v0)]) (st' := [.ref v0, .ref x5]) rfl ?_
  obtain ⟨x6, ex6, hf⟩ := mj_bd hf
  refine mj_get 12 rfl fl_X4_29 (mj_gI_V ex6) ?_
  obtain ⟨gp7, hf⟩ := mj_gd hf
  obtain ⟨p7, ep7, hf⟩ := mj_bd hf
  refine mj_callV (T := TX7) (N := 2) (ci := 7) mX7_byteAt [.int x6] 13 rfl ll_X4_39 lb_X7_byteAt li_X7_byteAt ⟨Nat.le_of_ble_eq_true rfl, Nat.le_of_ble_eq_true rfl⟩ rfl gp7 rfl (rest := []) rfl (Nat.le_of_ble_eq_true rfl) ⟨Nat.le_of_ble_eq_true rfl, Nat.le_of_ble_eq_true rfl⟩ (c_X7_byteAt x5 x6 h4 p7 ep7) ?_
  show mj_W mX4_readToken (mj_FV p) 28 [(0, .ref v0)] [.int p7.1] p7.2 0 0
  refine mj_blk k_X4_ok 14 2 (pc' := 30) (l' := [(1, .int p7.1), (0, .ref v0)]) (st' := [.int p7.1]) rfl ?_
  obtain ⟨p8, ep8, hf⟩ := mj_bd hf
  refine mj_callS mX4_isLetter [.int p7.1] 16 rfl ll_X4_86 lb_X4_isLetter li_X4_isLetter ⟨Nat.le_of_ble_eq_true rfl, Nat.le_of_ble_eq_true rfl⟩ rfl (rest := []) rfl (Nat.le_of_ble_eq_true rfl) ⟨Nat.le_of_ble_eq_true rfl, Nat.le_of_ble_eq_true rfl⟩ (c_X4_isLetter p7.1 p7.2 p8 ep8) ?_
  show mj_W mX4_readToken (mj_FV p) 33 [(1, .int p7.1), (0, .ref v0)] [.int p8.1] p8.2 0 0
  refine mj_if_eq 17 43 rfl (by decide) (fun q => ?_) (fun q => ?_)
  · have hf := (if_pos q).symm.trans hf
    refine mj_blk k_X4_ok 21 1 (pc' := 44) (l' := [(1, .int p7.1), (0, .ref v0)]) (st' := [.int p7.1]) rfl ?_
    obtain ⟨p9, ep9, hf⟩ := mj_bd hf
    refine mj_callS mX4_isFigure [.int p7.1] 22 rfl ll_X4_93 lb_X4_isFigure li_X4_isFigure ⟨Nat.le_of_ble_eq_true rfl, Nat.le_of_ble_eq_true rfl⟩ rfl (rest := []) rfl (Nat.le_of_ble_eq_true rfl) ⟨Nat.le_of_ble_eq_true rfl, Nat.le_of_ble_eq_true rfl⟩ (c_X4_isFigure p7.1 p8.2 p9 ep9) ?_
    show mj_W mX4_readToken (mj_FV p) 47 [(1, .int p7.1), (0, .ref v0)] [.int p9.1] p9.2 0 0
    refine mj_if_eq 23 57 rfl (by decide) (fun q => ?_) (fun q => ?_)
    · have hf := (if_pos q).symm.trans hf
      refine mj_blk k_X4_ok 27 2 (pc' := 60) (l' := [(1, .int p7.1), (0, .ref v0)]) (st' := [.int (59 : Int32), .int p7.1]) rfl ?_
      refine mj_icmp_ne 29 78 rfl (by decide) (fun q => ?_) (fun q => ?_)
      · have hf := (if_neg q).symm.trans hf
        obtain rfl := Option.some.inj hf
        exact mj_end none ⟨mj_dec tok_X4_readToken (a := 39) rfl, rfl⟩ ⟨rfl, rfl⟩ (Nat.le_of_ble_eq_true rfl) (Nat.le_of_ble_eq_true rfl)
      · have hf := (if_pos q).symm.trans hf
        refine mj_blk k_X4_ok 30 2 (pc' := 65) (l' := [(1, .int p7.1), (0, .ref v0)]) (st' := [.int (3 : Int32), .ref v0]) rfl ?_
        obtain ⟨h10, eh10, hf⟩ := mj_bd hf
        refine mj_put 32 rfl fp_X4_77 (fun _ => ⟨rfl, rfl⟩) eh10 ?_
        refine mj_blk k_X4_ok 33 2 (pc' := 70) (l' := [(1, .int p7.1), (0, .ref v0)]) (st' := [.ref v0, .ref v0]) rfl ?_
        obtain ⟨x11, ex11, hf⟩ := mj_bd hf
        refine mj_get 35 rfl fl_X4_29 (mj_gI_V ex11) ?_
        refine mj_blk k_X4_ok 36 2 (pc' := 75) (l' := [(1, .int p7.1), (0, .ref v0)]) (st' := [.int (x11 + (1 : Int32)), .ref v0]) rfl ?_
        obtain ⟨h12, eh12, hf⟩ := mj_bd hf
        refine mj_put 38 rfl fp_X4_29 (fun _ => ⟨rfl, rfl⟩) eh12 ?_
        obtain rfl := Option.some.inj hf
        exact mj_end none ⟨mj_dec tok_X4_readToken (a := 39) rfl, rfl⟩ ⟨rfl, rfl⟩ (Nat.le_of_ble_eq_true rfl) (Nat.le_of_ble_eq_true rfl)
    · have hf := (if_neg q).symm.trans hf
      refine mj_blk k_X4_ok 24 1 (pc' := 51) (l' := [(1, .int p7.1), (0, .ref v0)]) (st' := [.ref v0]) rfl ?_
      obtain ⟨gp13, hf⟩ := mj_gd hf
      obtain ⟨p13, ep13, hf⟩ := mj_bd hf
      refine mj_callV (T := TX4) (N := 9) (ci := 4) mX4_readNumber [] 25 rfl ll_X4_96 lb_X4_readNumber li_X4_readNumber ⟨Nat.le_of_ble_eq_true rfl, Nat.le_of_ble_eq_true rfl⟩ rfl gp13 rfl (rest := []) rfl (Nat.le_of_ble_eq_true rfl) ⟨Nat.le_of_ble_eq_true rfl, Nat.le_of_ble_eq_true rfl⟩ (c_X4_readNumber v0 p9.2 p13 ep13) ?_
      show mj_W mX4_readToken (mj_FV p) 54 [(1, .int p7.1), (0, .ref v0)] [] p13 0 0
      refine mj_blk k_X4_ok 26 1 (pc' := 78) (l' := [(1, .int p7.1), (0, .ref v0)]) (st' := []) rfl ?_
      obtain rfl := Option.some.inj hf
      exact mj_end none ⟨mj_dec tok_X4_readToken (a := 39) rfl, rfl⟩ ⟨rfl, rfl⟩ (Nat.le_of_ble_eq_true rfl) (Nat.le_of_ble_eq_true rfl)
  · have hf := (if_neg q).symm.trans hf
    refine mj_blk k_X4_ok 18 1 (pc' := 37) (l' := [(1, .int p7.1), (0, .ref v0)]) (st' := [.ref v0]) rfl ?_
    obtain ⟨gp14, hf⟩ := mj_gd hf
    obtain ⟨p14, ep14, hf⟩ := mj_bd hf
    refine mj_callV (T := TX4) (N := 9) (ci := 4) mX4_readWord [] 19 rfl ll_X4_90 lb_X4_readWord li_X4_readWord ⟨Nat.le_of_ble_eq_true rfl, Nat.le_of_ble_eq_true rfl⟩ rfl gp14 rfl (rest := []) rfl (Nat.le_of_ble_eq_true rfl) ⟨Nat.le_of_ble_eq_true rfl, Nat.le_of_ble_eq_true rfl⟩ (c_X4_readWord v0 p8.2 p14 ep14) ?_
    show mj_W mX4_readToken (mj_FV p) 40 [(1, .int p7.1), (0, .ref v0)] [] p14 0 0
    refine mj_blk k_X4_ok 20 1 (pc' := 78) (l' := [(1, .int p7.1), (0, .ref v0)]) (st' := []) rfl ?_
    obtain rfl := Option.some.inj hf
    exact mj_end none ⟨mj_dec tok_X4_readToken (a := 39) rfl, rfl⟩ ⟨rfl, rfl⟩ (Nat.le_of_ble_eq_true rfl) (Nat.le_of_ble_eq_true rfl)
