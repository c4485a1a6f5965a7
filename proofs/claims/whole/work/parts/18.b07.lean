/-! printed by wip/whole/gen.py: X9_has, X9_bits, X9_copies, X9_isMan, X9_areMen, X9_doMan, X9_doWorn, X9_doPair, X9_doWord, X9_muster, X9_man, X9_worn, X9_pair, X9_word, X9_type, X9_clear, X9_takes, X9_itemOf, X9_reads -/
def f_X9_has (v0 : Int32) (v1 : Int32) (h : mj_H) : Option (Int32 × mj_H) := (if ((v0 >>> (v1 &&& 31)) &&& (1 : Int32)) = (1 : Int32) then some ((1 : Int32), h) else some ((0 : Int32), h))
set_option maxHeartbeats 4000000 in
set_option maxRecDepth 100000 in
theorem c_X9_has (v0 : Int32) (v1 : Int32) (h : mj_H) (p : Int32 × mj_H) (hf : f_X9_has v0 v1 h = some p) : mj_Met mX9_has [.int v0, .int v1] h (some (.int p.1)) p.2 := by
  refine mj_met pl_X9 tok_X9_has (Nat.le_of_ble_eq_true rfl) ?_
  show mj_W mX9_has (mj_FI p) 0 [(0, .int v0), (1, .int v1)] [] h 0 0
  unfold f_X9_has at hf
  refine mj_blk k_X9_ok 0 6 (pc' := 6) (l' := [(0, .int v0), (1, .int v1)]) (st' := [.int (1 : Int32), .int ((v0 >>> (v1 &&& 31)) &&& (1 : Int32))]) rfl ?_
  refine mj_icmp_ne 6 13 rfl (by decide) (fun q => ?_) (fun q => ?_)
  · have hf := (if_neg q).symm.trans hf
    refine mj_blk k_X9_ok 9 1 (pc' := 14) (l' := [(0, .int v0), (1, .int v1)]) (st' := [.int (0 : Int32)]) rfl ?_
    obtain rfl := Option.some.inj hf
    exact mj_end (some (.int (0 : Int32))) ⟨mj_dec tok_X9_has (a := 10) rfl, .boolean, rfl, rfl⟩ ⟨rfl, rfl⟩ (Nat.le_of_ble_eq_true rfl) (Nat.le_of_ble_eq_true rfl)
  · have hf := (if_pos q).symm.trans hf
    refine mj_blk k_X9_ok 7 2 (pc' := 14) (l' := [(0, .int v0), (1, .int v1)]) (st' := [.int (1 : Int32)]) rfl ?_
    obtain rfl := Option.some.inj hf
    exact mj_end (some (.int (1 : Int32))) ⟨mj_dec tok_X9_has (a := 10) rfl, .boolean, rfl, rfl⟩ ⟨rfl, rfl⟩ (Nat.le_of_ble_eq_true rfl) (Nat.le_of_ble_eq_true rfl)
def b_X9_bits_4 (K4 : Int32 → Int32 → mj_H → Option (Int32 × mj_H)) (v1 : Int32) (v2 : Int32) (h : mj_H) : Option (Int32 × mj_H) := (if v2 = 0 then some (v1, h) else K4 (v1 + (1 : Int32)) (v2 &&& (v2 - (1 : Int32))) h)
set_option maxHeartbeats 4000000 in
set_option maxRecDepth 100000 in
theorem wb_X9_bits_4 (K4 : Int32 → Int32 → mj_H → Option (Int32 × mj_H)) (hK4 : ∀ (v1 : Int32) (v2 : Int32)  (h : mj_H) (p : Int32 × mj_H), K4 v1 v2 h = some p → mj_W mX9_bits (mj_FI p) 4 [(1, .int v1), (2, .int v2)] [] h 0 0) (v1 : Int32) (v2 : Int32) (h : mj_H) (p : Int32 × mj_H) (hf : b_X9_bits_4  K4 v1 v2 h = some p) : mj_W mX9_bits (mj_FI p) 4 [(1, .int v1), (2, .int v2)] [] h 0 0 := by
  unfold b_X9_bits_4 at hf
  refine mj_blk k_X9_ok 4 1 (pc' := 5) (l' := [(1, .int v1), (2, .int v2)]) (st' := [.int v2]) rfl ?_
  refine mj_if_eq 5 20 rfl (by decide) (fun q => ?_) (fun q => ?_)
  · have hf := (if_pos q).symm.trans hf
    refine mj_blk k_X9_ok 14 1 (pc' := 21) (l' := [(1, .int v1), (2, .int v2)]) (st' := [.int v1]) rfl ?_
    obtain rfl := Option.some.inj hf
    exact mj_end (some (.int v1)) ⟨mj_dec tok_X9_bits (a := 15) rfl, .int, rfl, rfl⟩ ⟨rfl, rfl⟩ (Nat.le_of_ble_eq_true rfl) (Nat.le_of_ble_eq_true rfl)
  · have hf := (if_neg q).symm.trans hf
    refine mj_blk k_X9_ok 6 8 (pc' := 4) (l' := [(2, .int (v2 &&& (v2 - (1 : Int32)))), (1, .int (v1 + (1 : Int32)))]) (st' := []) rfl ?_
    refine mj_locs [1, 0] (l' := [(1, .int (v1 + (1 : Int32))), (2, .int (v2 &&& (v2 - (1 : Int32))))]) rfl ?_
    exact hK4 (v1 + (1 : Int32)) (v2 &&& (v2 - (1 : Int32))) h _ hf
def f_X9_bits_4 (v1 : Int32) (v2 : Int32) (h : mj_H) : Option (Int32 × mj_H) := mj_fix (fun (K4 : (Int32 × Int32 × mj_H) → Option (Int32 × mj_H)) (s : Int32 × Int32 × mj_H) => b_X9_bits_4  (fun v1 v2 h => K4 (v1, v2, h)) s.1 s.2.1 s.2.2) 1000 (v1, v2, h)
set_option maxHeartbeats 4000000 in
set_option maxRecDepth 100000 in
theorem w_X9_bits_4 (v1 : Int32) (v2 : Int32) (h : mj_H) (p : Int32 × mj_H) (hf : f_X9_bits_4  v1 v2 h = some p) : mj_W mX9_bits (mj_FI p) 4 [(1, .int v1), (2, .int v2)] [] h 0 0 := by
  unfold f_X9_bits_4 at hf
  exact mj_fix_ind (F := (fun (K4 : (Int32 × Int32 × mj_H) → Option (Int32 × mj_H)) (s : Int32 × Int32 × mj_H) => b_X9_bits_4  (fun v1 v2 h => K4 (v1, v2, h)) s.1 s.2.1 s.2.2)) (P := fun s p => mj_W mX9_bits (mj_FI p) 4 [(1, .int s.1), (2, .int s.2.1)] [] s.2.2 0 0) (fun K4 hK4 s p hf => wb_X9_bits_4   (fun v1 v2 h => K4 (v1, v2, h)) (fun v1 v2 h p e => hK4 (v1, v2, h) p e) s.1 s.2.1 s.2.2 p hf) 1000 (v1, v2, h) p hf
def f_X9_bits (v0 : Int32) (h : mj_H) : Option (Int32 × mj_H) := f_X9_bits_4 (0 : Int32) v0 h
set_option maxHeartbeats 4000000 in
set_option maxRecDepth 100000 in
theorem c_X9_bits (v0 : Int32) (h : mj_H) (p : Int32 × mj_H) (hf : f_X9_bits v0 h = some p) : mj_Met mX9_bits [.int v0] h (some (.int p.1)) p.2 := by
  refine mj_met pl_X9 tok_X9_bits (Nat.le_of_ble_eq_true rfl) ?_
  show mj_W mX9_bits (mj_FI p) 0 [(0, .int v0)] [] h 0 0
  unfold f_X9_bits at hf
  refine mj_blk k_X9_ok 0 4 (pc' := 4) (l' := [(2, .int v0), (1, .int (0 : Int32)), (0, .int v0)]) (st' := []) rfl ?_
  refine mj_locs [1, 0] (l' := [(1, .int (0 : Int32)), (2, .int v0)]) rfl ?_
  exact w_X9_bits_4 (0 : Int32) v0 h _ hf
def b_X9_copies_3 (K3 : Nat → Int32 → Nat → Int32 → Int32 → Int32 → mj_H → Option (mj_H)) (v0 : Nat) (v1 : Int32) (v2 : Nat) (v3 : Int32) (v4 : Int32) (v5 : Int32) (h : mj_H) : Option (mj_H) := (if v4 ≤ v5 then some h else (mj_aI h v0 (v1 + v5)).bind fun x1 => (mj_uI h v2 (v3 + v5) x1).bind fun h2 => K3 v0 v1 v2 v3 v4 (v5 + (1 : Int32)) h2)
set_option maxHeartbeats 4000000 in
set_option maxRecDepth 100000 in
theorem wb_X9_copies_3 (K3 : Nat → Int32 → Nat → Int32 → Int32 → Int32 → mj_H → Option (mj_H)) (hK3 : ∀ (v0 : Nat) (v1 : Int32) (v2 : Nat) (v3 : Int32) (v4 : Int32) (v5 : Int32)  (h : mj_H) (p : mj_H), K3 v0 v1 v2 v3 v4 v5 h = some p → mj_W mX9_copies (mj_FV p) 3 [(0, .ref v0), (1, .int v1), (2, .ref v2), (3, .int v3), (4, .int v4), (5, .int v5)] [] h 0 0) (v0 : Nat) (v1 : Int32) (v2 : Nat) (v3 : Int32) (v4 : Int32) (v5 : Int32) (h : mj_H) (p : mj_H) (hf : b_X9_copies_3  K3 v0 v1 v2 v3 v4 v5 h = some p) : mj_W mX9_copies (mj_FV p) 3 [(0, .ref v0), (1, .int v1), (2, .ref v2), (3, .int v3), (4, .int v4), (5, .int v5)] [] h 0 0 := by
  unfold b_X9_copies_3 at hf
  refine mj_blk k_X9_ok 2 2 (pc' := 7) (l' := [(0, .ref v0), (1, .int v1), (2, .ref v2), (3, .int v3), (4, .int v4), (5, .int v5)]) (st' := [.int v4, .int v5]) rfl ?_
  refine mj_icmp_ge 4 28 rfl (by decide) (fun q => ?_) (fun q => ?_)
  · have hf := (if_pos q).symm.trans hf
    obtain rfl := Option.some.inj hf
    exact mj_end none ⟨mj_dec tok_X9_copies (a := 17) rfl, rfl⟩ ⟨rfl, rfl⟩ (Nat.le_of_ble_eq_true rfl) (Nat.le_of_ble_eq_true rfl)
  · have hf := (if_neg q).symm.trans hf
    refine mj_blk k_X9_ok 5 8 (pc' := 20) (l' := [(0, .ref v0), (1, .int v1), (2, .ref v2), (3, .int v3), (4, .int v4), (5, .int v5)]) (st' := [.int (v1 + v5), .ref v0, .int (v3 + v5), .ref v2]) rfl ?_
    obtain ⟨x1, ex1, hf⟩ := mj_bd hf
    refine mj_iald 13 rfl ex1 ?_
    obtain ⟨h2, eh2, hf⟩ := mj_bd hf
    refine mj_iast 14 rfl eh2 ?_
    refine mj_blk k_X9_ok 15 2 (pc' := 3) (l' := [(5, .int (v5 + (1 : Int32))), (0, .ref v0), (1, .int v1), (2, .ref v2), (3, .int v3), (4, .int v4)]) (st' := []) rfl ?_
    refine mj_locs [1, 2, 3, 4, 5, 0] (l' := [(0, .ref v0), (1, .int v1), (2, .ref v2), (3, .int v3), (4, .int v4), (5, .int (v5 + (1 : Int32)))]) rfl ?_
    exact hK3 v0 v1 v2 v3 v4 (v5 + (1 : Int32)) h2 _ hf
def f_X9_copies_3 (v0 : Nat) (v1 : Int32) (v2 : Nat) (v3 : Int32) (v4 : Int32) (v5 : Int32) (h : mj_H) : Option (mj_H) := mj_fix (fun (K3 : (Nat × Int32 × Nat × Int32 × Int32 × Int32 × mj_H) → Option (mj_H)) (s : Nat × Int32 × Nat × Int32 × Int32 × Int32 × mj_H) => b_X9_copies_3  (fun v0 v1 v2 v3 v4 v5 h => K3 (v0, v1, v2, v3, v4, v5, h)) s.1 s.2.1 s.2.2.1 s.2.2.2.1 s.2.2.2.2.1 s.2.2.2.2.2.1 s.2.2.2.2.2.2) 1000 (v0, v1, v2, v3, v4, v5, h)
set_option maxHeartbeats 4000000 in
set_option maxRecDepth 100000 in
theorem w_X9_copies_3 (v0 : Nat) (v1 : Int32) (v2 : Nat) (v3 : Int32) (v4 : Int32) (v5 : Int32) (h : mj_H) (p : mj_H) (hf : f_X9_copies_3  v0 v1 v2 v3 v4 v5 h = some p) : mj_W mX9_copies (mj_FV p) 3 [(0, .ref v0), (1, .int v1), (2, .ref v2), (3, .int v3), (4, .int v4), (5, .int v5)] [] h 0 0 := by
  unfold f_X9_copies_3 at hf
  exact mj_fix_ind (F := (fun (K3 : (Nat × Int32 × Nat × Int32 × Int32 × Int32 × mj_H) → Option (mj_H)) (s : Nat × Int32 × Nat × Int32 × Int32 × Int32 × mj_H) => b_X9_copies_3  (fun v0 v1 v2 v3 v4 v5 h => K3 (v0, v1, v2, v3, v4, v5, h)) s.1 s.2.1 s.2.2.1 s.2.2.2.1 s.2.2.2.2.1 s.2.2.2.2.2.1 s.2.2.2.2.2.2)) (P := fun s p => mj_W mX9_copies (mj_FV p) 3 [(0, .ref s.1), (1, .int s.2.1), (2, .ref s.2.2.1), (3, .int s.2.2.2.1), (4, .int s.2.2.2.2.1), (5, .int s.2.2.2.2.2.1)] [] s.2.2.2.2.2.2 0 0) (fun K3 hK3 s p hf => wb_X9_copies_3   (fun v0 v1 v2 v3 v4 v5 h => K3 (v0, v1, v2, v3, v4, v5, h)) (fun v0 v1 v2 v3 v4 v5 h p e => hK3 (v0, v1, v2, v3, v4, v5, h) p e) s.1 s.2.1 s.2.2.1 s.2.2.2.1 s.2.2.2.2.1 s.2.2.2.2.2.1 s.2.2.2.2.2.2 p hf) 1000 (v0, v1, v2, v3, v4, v5, h) p hf
def f_X9_copies (v0 : Nat) (v1 : Int32) (v2 : Nat) (v3 : Int32) (v4 : Int32) (h : mj_H) : Option (mj_H) := f_X9_copies_3 v0 v1 v2 v3 v4 (0 : Int32) h
set_option maxHeartbeats 4000000 in
set_option maxRecDepth 100000 in
theorem c_X9_copies (v0 : Nat) (v1 : Int32) (v2 : Nat) (v3 : Int32) (v4 : Int32) (h : mj_H) (p : mj_H) (hf : f_X9_copies v0 v1 v2 v3 v4 h = some p) : mj_Met mX9_copies [.ref v0, .int v1, .ref v2, .int v3, .int v4] h none p := by
  refine mj_met pl_X9 tok_X9_copies (Nat.le_of_ble_eq_true rfl) ?_
  show mj_W mX9_copies (mj_FV p) 0 [(0, .ref v0), (1, .int v1), (2, .ref v2), (3, .int v3), (4, .int v4)] [] h 0 0
  unfold f_X9_copies at hf
  refine mj_blk k_X9_ok 0 2 (pc' := 3) (l' := [(5, .int (0 : Int32)), (0, .ref v0), (1, .int v1), (2, .ref v2), (3, .int v3), (4, .int v4)]) (st' := []) rfl ?_
  refine mj_locs [1, 2, 3, 4, 5, 0] (l' := [(0, .ref v0), (1, .int v1), (2, .ref v2), (3, .int v3), (4, .int v4), (5, .int (0 : Int32))]) rfl ?_
  exact w_X9_copies_3 v0 v1 v2 v3 v4 (0 : Int32) h _ hf
def f_X9_isMan (v0 : Nat) (v1 : Int32) (h : mj_H) : Option (Int32 × mj_H) := (mj_gR h v0 9 0).bind fun x1 => (mj_aI h x1 (0 : Int32)).bind fun x2 => (f_X9_in ((v1).toInt64) (0 : Int64) (((x2 - (1 : Int32))).toInt64) h).bind fun p3 => (if p3.1 = 0 ∨ p3.1 = 1 then some (p3.1, p3.2) else none)
set_option maxHeartbeats 4000000 in
set_option maxRecDepth 100000 in
theorem c_X9_isMan (v0 : Nat) (v1 : Int32) (h : mj_H) (p : Int32 × mj_H) (hf : f_X9_isMan v0 v1 h = some p) : mj_Met mX9_isMan [.ref v0, .int v1] h (some (.int p.1)) p.2 := by
  refine mj_met pl_X9 tok_X9_isMan (Nat.le_of_ble_eq_true rfl) ?_
  show mj_W mX9_isMan (mj_FI p) 0 [(0, .ref v0), (1, .int v1)] [] h 0 0
  unfold f_X9_isMan at hf
  refine mj_blk k_X9_ok 0 4 (pc' := 4) (l' := [(0, .ref v0), (1, .int v1)]) (st' := [.ref v0, .long (0 : Int64), .long ((v1).toInt64)]) rfl ?_
  obtain ⟨x1, ex1, hf⟩ := mj_bd hf
  refine mj_get 4 rfl fl_X9_7 (mj_gR_V ex1) ?_
  refine mj_blk k_X9_ok 5 1 (pc' := 8) (l' := [(0, .ref v0), (1, .int v1)]) (st' := [.int (0 : Int32), .ref x1, .long (0 : Int64), .long ((v1).toInt64)]) rfl ?_
  obtain ⟨x2, ex2, hf⟩ := mj_bd hf
  refine mj_iald 6 rfl ex2 ?_
  refine mj_blk k_X9_ok 7 3 (pc' := 12) (l' := [(0, .ref v0), (1, .int v1)]) (st' := [.long (((x2 - (1 : Int32))).toInt64), .long (0 : Int64), .long ((v1).toInt64)]) rfl ?_
  obtain ⟨p3, ep3, hf⟩ := mj_bd hf
  refine mj_callS mX9_in [.long ((v1).toInt64), .long (0 : Int64), .long (((x2 - (1 : Int32))).toInt64)] 10 rfl ll_X9_53 lb_X9_in li_X9_in ⟨Nat.le_of_ble_eq_true rfl, Nat.le_of_ble_eq_true rfl⟩ rfl (rest := []) rfl (Nat.le_of_ble_eq_true rfl) ⟨Nat.le_of_ble_eq_true rfl, Nat.le_of_ble_eq_true rfl⟩ (c_X9_in ((v1).toInt64) (0 : Int64) (((x2 - (1 : Int32))).toInt64) h p3 ep3) ?_
  show mj_W mX9_isMan (mj_FI p) 15 [(0, .ref v0), (1, .int v1)] [.int p3.1] p3.2 0 0
  obtain ⟨g, hf⟩ := mj_gp hf
  obtain rfl := Option.some.inj hf
  exact mj_end (some (.int p3.1)) ⟨mj_dec tok_X9_isMan (a := 11) rfl, .boolean, rfl, mj_bool g⟩ ⟨rfl, rfl⟩ (Nat.le_of_ble_eq_true rfl) (Nat.le_of_ble_eq_true rfl)
def f_X9_areMen (v0 : Nat) (v1 : Int32) (h : mj_H) : Option (Int32 × mj_H) := (mj_gR h v0 9 0).bind fun x1 => (mj_aI h x1 (0 : Int32)).bind fun x2 => (f_X9_in ((v1).toInt64) (0 : Int64) (((((1 : Int32) <<< (x2 &&& 31)) - (1 : Int32))).toInt64) h).bind fun p3 => (if p3.1 = 0 ∨ p3.1 = 1 then some (p3.1, p3.2) else none)
set_option maxHeartbeats 4000000 in
set_option maxRecDepth 100000 in
theorem c_X9_areMen (v0 : Nat) (v1 : Int32) (h : mj_H) (p : Int32 × mj_H) (hf : f_X9_areMen v0 v1 h = some p) : mj_Met mX9_areMen [.ref v0, .int v1] h (some (.int p.1)) p.2 := by
  refine mj_met pl_X9 tok_X9_areMen (Nat.le_of_ble_eq_true rfl) ?_
  show mj_W mX9_areMen (mj_FI p) 0 [(0, .ref v0), (1, .int v1)] [] h 0 0
  unfold f_X9_areMen at hf
  refine mj_blk k_X9_ok 0 5 (pc' := 5) (l' := [(0, .ref v0), (1, .int v1)]) (st' := [.ref v0, .int (1 : Int32), .long (0 : Int64), .long ((v1).toInt64)]) rfl ?_
  obtain ⟨x1, ex1, hf⟩ := mj_bd hf
  refine mj_get 5 rfl fl_X9_7 (mj_gR_V ex1) ?_
  refine mj_blk k_X9_ok 6 1 (pc' := 9) (l' := [(0, .ref v0), (1, .int v1)]) (st' := [.int (0 : Int32), .ref x1, .int (1 : Int32), .long (0 : Int64), .long ((v1).toInt64)]) rfl ?_
  obtain ⟨x2, ex2, hf⟩ := mj_bd hf
  refine mj_iald 7 rfl ex2 ?_
  refine mj_blk k_X9_ok 8 4 (pc' := 14) (l' := [(0, .ref v0), (1, .int v1)]) (st' := [.long (((((1 : Int32) <<< (x2 &&& 31)) - (1 : Int32))).toInt64), .long (0 : Int64), .long ((v1).toInt64)]) rfl ?_
  obtain ⟨p3, ep3, hf⟩ := mj_bd hf
  refine mj_callS mX9_in [.long ((v1).toInt64), .long (0 : Int64), .long (((((1 : Int32) <<< (x2 &&& 31)) - (1 : Int32))).toInt64)] 12 rfl ll_X9_53 lb_X9_in li_X9_in ⟨Nat.le_of_ble_eq_true rfl, Nat.le_of_ble_eq_true rfl⟩ rfl (rest := []) rfl (Nat.le_of_ble_eq_true rfl) ⟨Nat.le_of_ble_eq_true rfl, Nat.le_of_ble_eq_true rfl⟩ (c_X9_in ((v1).toInt64) (0 : Int64) (((((1 : Int32) <<< (x2 &&& 31)) - (1 : Int32))).toInt64) h p3 ep3) ?_
  show mj_W mX9_areMen (mj_FI p) 17 [(0, .ref v0), (1, .int v1)] [.int p3.1] p3.2 0 0
  obtain ⟨g, hf⟩ := mj_gp hf
  obtain rfl := Option.some.inj hf
  exact mj_end (some (.int p3.1)) ⟨mj_dec tok_X9_areMen (a := 13) rfl, .boolean, rfl, mj_bool g⟩ ⟨rfl, rfl⟩ (Nat.le_of_ble_eq_true rfl) (Nat.le_of_ble_eq_true rfl)
def b_X9_doMan_4 (K4 : Nat → Int32 → Int32 → mj_H → Option (Int32 × mj_H)) (v0 : Nat) (v1 : Int32) (v2 : Int32) (h : mj_H) : Option (Int32 × mj_H) := (if (6 : Int32) ≤ v2 then (if v1 = 0 then some ((-2 : Int32), h) else (mj_gR h v0 9 0).bind fun x1 => (mj_aI h x1 (0 : Int32)).bind fun x2 => (if x2 = (6 : Int32) then some ((-4 : Int32), h) else (mj_gR h v0 9 8).bind fun x3 => (mj_gR h v0 9 0).bind fun x4 => (f_X9_copies x3 (0 : Int32) x4 ((16 : Int32) + ((6 : Int32) * x2)) (6 : Int32) h).bind fun p5 => (mj_gR p5 v0 9 0).bind fun x6 => (mj_aI p5 x6 (0 : Int32)).bind fun x7 => (mj_uI p5 x6 (0 : Int32) (x7 + (1 : Int32))).bind fun h8 => (mj_gR h8 v0 9 0).bind fun x9 => (mj_uI h8 x9 (3 : Int32) (0 : Int32)).bind fun h10 => some (x2, h10))) else (mj_gR h v0 9 8).bind fun x11 => (mj_aI h x11 v2).bind fun x12 => (f_X9_in ((x12).toInt64) (0 : Int64) (9 : Int64) h).bind fun p13 => (if p13.1 = 0 then some ((-2 : Int32), p13.2) else (mj_gR p13.2 v0 9 8).bind fun x14 => (mj_aI p13.2 x14 v2).bind fun x15 => K4 v0 (v1 + x15) (v2 + (1 : Int32)) p13.2))
set_option maxHeartbeats 4000000 in
set_option maxRecDepth 100000 in
theorem wb_X9_doMan_4 (K4 : Nat → Int32 → Int32 → mj_H → Option (Int32 × mj_H)) (hK4 : ∀ (v0 : Nat) (v1 : Int32) (v2 : Int32)  (h : mj_H) (p : Int32 × mj_H), K4 v0 v1 v2 h = some p → mj_W mX9_doMan (mj_FI p) 4 [(0, .ref v0), (1, .int v1), (2, .int v2)] [] h 0 0) (v0 : Nat) (v1 : Int32) (v2 : Int32) (h : mj_H) (p : Int32 × mj_H) (hf : b_X9_doMan_4  K4 v0 v1 v2 h = some p) : mj_W mX9_doMan (mj_FI p) 4 [(0, .ref v0), (1, .int v1), (2, .int v2)] [] h 0 0 := by
  unfold b_X9_doMan_4 at hf
  refine mj_blk k_X9_ok 4 2 (pc' := 7) (l' := [(0, .ref v0), (1, .int v1), (2, .int v2)]) (st' := [.int (6 : Int32), .int v2]) rfl ?_
  refine mj_icmp_ge 6 45 rfl (by decide) (fun q => ?_) (fun q => ?_)
  · have hf := (if_pos q).symm.trans hf
    refine mj_blk k_X9_ok 27 1 (pc' := 46) (l' := [(0, .ref v0), (1, .int v1), (2, .int v2)]) (st' := [.int v1]) rfl ?_
    refine mj_if_ne 28 52 rfl (by decide) (fun q => ?_) (fun q => ?_)
    · have hf := (if_neg q).symm.trans hf
      refine mj_blk k_X9_ok 31 1 (pc' := 53) (l' := [(0, .ref v0), (1, .int v1), (2, .int v2)]) (st' := [.ref v0]) rfl ?_
      obtain ⟨x1, ex1, hf⟩ := mj_bd hf
      refine mj_get 32 rfl fl_X9_7 (mj_gR_V ex1) ?_
      refine mj_blk k_X9_ok 33 1 (pc' := 57) (l' := [(0, .ref v0), (1, .int v1), (2, .int v2)]) (st' := [.int (0 : Int32), .ref x1]) rfl ?_
      obtain ⟨x2, ex2, hf⟩ := mj_bd hf
      refine mj_iald 34 rfl ex2 ?_
      refine mj_blk k_X9_ok 35 3 (pc' := 62) (l' := [(2, .int x2), (0, .ref v0), (1, .int v1)]) (st' := [.int (6 : Int32), .int x2]) rfl ?_
      refine mj_icmp_ne 38 68 rfl (by decide) (fun q => ?_) (fun q => ?_)
      · have hf := (if_neg q).symm.trans hf
        refine mj_blk k_X9_ok 41 1 (pc' := 69) (l' := [(2, .int x2), (0, .ref v0), (1, .int v1)]) (st' := [.ref v0]) rfl ?_
        obtain ⟨x3, ex3, hf⟩ := mj_bd hf
        refine mj_get 42 rfl fl_X9_30 (mj_gR_V ex3) ?_
        refine mj_blk k_X9_ok 43 2 (pc' := 74) (l' := [(2, .int x2), (0, .ref v0), (1, .int v1)]) (st' := [.ref v0, .int (0 : Int32), .ref x3]) rfl ?_
        obtain ⟨x4, ex4, hf⟩ := mj_bd hf
        refine mj_get 45 rfl fl_X9_7 (mj_gR_V ex4) ?_
        refine mj_blk k_X9_ok 46 6 (pc' := 86) (l' := [(2, .int x2), (0, .ref v0), (1, .int v1)]) (st' := [.int (6 : Int32), .int ((16 : Int32) + ((6 : Int32) * x2)), .ref x4, .int (0 : Int32), .ref x3]) rfl ?_
        obtain ⟨p5, ep5, hf⟩ := mj_bd hf
        refine mj_callS mX9_copies [.ref x3, .int (0 : Int32), .ref x4, .int ((16 : Int32) + ((6 : Int32) * x2)), .int (6 : Int32)] 52 rfl ll_X9_59 lb_X9_copies li_X9_copies ⟨Nat.le_of_ble_eq_true rfl, Nat.le_of_ble_eq_true rfl⟩ rfl (rest := []) rfl (Nat.le_of_ble_eq_true rfl) ⟨Nat.le_of_ble_eq_true rfl, Nat.le_of_ble_eq_true rfl⟩ (c_X9_copies x3 (0 : Int32) x4 ((16 : Int32) + ((6 : Int32) * x2)) (6 : Int32) h p5 ep5) ?_
        show mj_W mX9_doMan (mj_FI p) 89 [(2, .int x2), (0, .ref v0), (1, .int v1)] [] p5 0 0
        refine mj_blk k_X9_ok 53 1 (pc' := 90) (l' := [(2, .int x2), (0, .ref v0), (1, .int v1)]) (st' := [.ref v0]) rfl ?_
        obtain ⟨x6, ex6, hf⟩ := mj_bd hf
        refine mj_get 54 rfl fl_X9_7 (mj_gR_V ex6) ?_
        refine mj_blk k_X9_ok 55 2 (pc' := 95) (l' := [(2, .int x2), (0, .ref v0), (1, .int v1)]) (st' := [.int (0 : Int32), .ref x6, .int (0 : Int32), .ref x6]) rfl ?_
        obtain ⟨x7, ex7, hf⟩ := mj_bd hf
        refine mj_iald 57 rfl ex7 ?_
        refine mj_blk k_X9_ok 58 2 (pc' := 98) (l' := [(2, .int x2), (0, .ref v0), (1, .int v1)]) (st' := [.int (x7 + (1 : Int32)), .int (0 : Int32), .ref x6]) rfl ?_
        obtain ⟨h8, eh8, hf⟩ := mj_bd hf
        refine mj_iast 60 rfl eh8 ?_
        refine mj_blk k_X9_ok 61 1 (pc' := 100) (l' := [(2, .int x2), (0, .ref v0), (1, .int v1)]) (st' := [.ref v0]) rfl ?_
        obtain ⟨x9, ex9, hf⟩ := mj_bd hf
        refine mj_get 62 rfl fl_X9_7 (mj_gR_V ex9) ?_
        refine mj_blk k_X9_ok 63 2 (pc' := 105) (l' := [(2, .int x2), (0, .ref v0), (1, .int v1)]) (st' := [.int (0 : Int32), .int (3 : Int32), .ref x9]) rfl ?_
        obtain ⟨h10, eh10, hf⟩ := mj_bd hf
        refine mj_iast 65 rfl eh10 ?_
        refine mj_blk k_X9_ok 66 1 (pc' := 107) (l' := [(2, .int x2), (0, .ref v0), (1, .int v1)]) (st' := [.int x2]) rfl ?_
        obtain rfl := Option.some.inj hf
        exact mj_end (some (.int x2)) ⟨mj_dec tok_X9_doMan (a := 67) rfl, .int, rfl, rfl⟩ ⟨rfl, rfl⟩ (Nat.le_of_ble_eq_true rfl) (Nat.le_of_ble_eq_true rfl)
      · have hf := (if_pos q).symm.trans hf
        refine mj_blk k_X9_ok 39 1 (pc' := 67) (l' := [(2, .int x2), (0, .ref v0), (1, .int v1)]) (st' := [.int (-4 : Int32)]) rfl ?_
        obtain rfl := Option.some.inj hf
        exact mj_end (some (.int (-4 : Int32))) ⟨mj_dec tok_X9_doMan (a := 40) rfl, .int, rfl, rfl⟩ ⟨rfl, rfl⟩ (Nat.le_of_ble_eq_true rfl) (Nat.le_of_ble_eq_true rfl)
    · have hf := (if_pos q).symm.trans hf
      refine mj_blk k_X9_ok 29 1 (pc' := 51) (l' := [(0, .ref v0), (1, .int v1), (2, .int v2)]) (st' := [.int (-2 : Int32)]) rfl ?_
      obtain rfl := Option.some.inj hf
      exact mj_end (some (.int (-2 : Int32))) ⟨mj_dec tok_X9_doMan (a := 30) rfl, .int, rfl, rfl⟩ ⟨rfl, rfl⟩ (Nat.le_of_ble_eq_true rfl) (Nat.le_of_ble_eq_true rfl)
  · have hf := (if_neg q).symm.trans hf
    refine mj_blk k_X9_ok 7 1 (pc' := 11) (l' := [(0, .ref v0), (1, .int v1), (2, .int v2)]) (st' := [.ref v0]) rfl ?_
    obtain ⟨x11, ex11, hf⟩ := mj_bd hf
    refine mj_get 8 rfl fl_X9_30 (mj_gR_V ex11) ?_
    refine mj_blk k_X9_ok 9 1 (pc' := 15) (l' := [(0, .ref v0), (1, .int v1), (2, .int v2)]) (st' := [.int v2, .ref x11]) rfl ?_
    obtain ⟨x12, ex12, hf⟩ := mj_bd hf
    refine mj_iald 10 rfl ex12 ?_
    refine mj_blk k_X9_ok 11 3 (pc' := 21) (l' := [(0, .ref v0), (1, .int v1), (2, .int v2)]) (st' := [.long (9 : Int64), .long (0 : Int64), .long ((x12).toInt64)]) rfl ?_
    obtain ⟨p13, ep13, hf⟩ := mj_bd hf
    refine mj_callS mX9_in [.long ((x12).toInt64), .long (0 : Int64), .long (9 : Int64)] 14 rfl ll_X9_53 lb_X9_in li_X9_in ⟨Nat.le_of_ble_eq_true rfl, Nat.le_of_ble_eq_true rfl⟩ rfl (rest := []) rfl (Nat.le_of_ble_eq_true rfl) ⟨Nat.le_of_ble_eq_true rfl, Nat.le_of_ble_eq_true rfl⟩ (c_X9_in ((x12).toInt64) (0 : Int64) (9 : Int64) h p13 ep13) ?_
    show mj_W mX9_doMan (mj_FI p) 24 [(0, .ref v0), (1, .int v1), (2, .int v2)] [.int p13.1] p13.2 0 0
    refine mj_if_ne 15 30 rfl (by decide) (fun q => ?_) (fun q => ?_)
    · have hf := (if_neg q).symm.trans hf
      refine mj_blk k_X9_ok 18 2 (pc' := 32) (l' := [(0, .ref v0), (1, .int v1), (2, .int v2)]) (st' := [.ref v0, .int v1]) rfl ?_
      obtain ⟨x14, ex14, hf⟩ := mj_bd hf
      refine mj_get 20 rfl fl_X9_30 (mj_gR_V ex14) ?_
      refine mj_blk k_X9_ok 21 1 (pc' := 36) (l' := [(0, .ref v0), (1, .int v1), (2, .int v2)]) (st' := [.int v2, .ref x14, .int v1]) rfl ?_
      obtain ⟨x15, ex15, hf⟩ := mj_bd hf
      refine mj_iald 22 rfl ex15 ?_
      refine mj_blk k_X9_ok 23 4 (pc' := 4) (l' := [(2, .int (v2 + (1 : Int32))), (1, .int (v1 + x15)), (0, .ref v0)]) (st' := []) rfl ?_
      refine mj_locs [2, 1, 0] (l' := [(0, .ref v0), (1, .int (v1 + x15)), (2, .int (v2 + (1 : Int32)))]) rfl ?_
      exact hK4 v0 (v1 + x15) (v2 + (1 : Int32)) p13.2 _ hf
    · have hf := (if_pos q).symm.trans hf
      refine mj_blk k_X9_ok 16 1 (pc' := 29) (l' := [(0, .ref v0), (1, .int v1), (2, .int v2)]) (st' := [.int (-2 : Int32)]) rfl ?_
      obtain rfl := Option.some.inj hf
      exact mj_end (some (.int (-2 : Int32))) ⟨mj_dec tok_X9_doMan (a := 17) rfl, .int, rfl, rfl⟩ ⟨rfl, rfl⟩ (Nat.le_of_ble_eq_true rfl) (Nat.le_of_ble_eq_true rfl)
def f_X9_doMan_4 (v0 : Nat) (v1 : Int32) (v2 : Int32) (h : mj_H) : Option (Int32 × mj_H) := mj_fix (fun (K4 : (Nat × Int32 × Int32 × mj_H) → Option (Int32 × mj_H)) (s : Nat × Int32 × Int32 × mj_H) => b_X9_doMan_4  (fun v0 v1 v2 h => K4 (v0, v1, v2, h)) s.1 s.2.1 s.2.2.1 s.2.2.2) 1000 (v0, v1, v2, h)
set_option maxHeartbeats 4000000 in
set_option maxRecDepth 100000 in
theorem w_X9_doMan_4 (v0 : Nat) (v1 : Int32) (v2 : Int32) (h : mj_H) (p : Int32 × mj_H) (hf : f_X9_doMan_4  v0 v1 v2 h = some p) : mj_W mX9_doMan (mj_FI p) 4 [(0, .ref v0), (1, .int v1), (2, .int v2)] [] h 0 0 := by
  unfold f_X9_doMan_4 at hf
  exact mj_fix_ind (F := (fun (K4 : (Nat × Int32 × Int32 × mj_H) → Option (Int32 × mj_H)) (s : Nat × Int32 × Int32 × mj_H) => b_X9_doMan_4  (fun v0 v1 v2 h => K4 (v0, v1, v2, h)) s.1 s.2.1 s.2.2.1 s.2.2.2)) (P := fun s p => mj_W mX9_doMan (mj_FI p) 4 [(0, .ref s.1), (1, .int s.2.1), (2, .int s.2.2.1)] [] s.2.2.2 0 0) (fun K4 hK4 s p hf => wb_X9_doMan_4   (fun v0 v1 v2 h => K4 (v0, v1, v2, h)) (fun v0 v1 v2 h p e => hK4 (v0, v1, v2, h) p e) s.1 s.2.1 s.2.2.1 s.2.2.2 p hf) 1000 (v0, v1, v2, h) p hf
def f_X9_doMan (v0 : Nat) (h : mj_H) : Option (Int32 × mj_H) := f_X9_doMan_4 v0 (0 : Int32) (0 : Int32) h
set_option maxHeartbeats 4000000 in
set_option maxRecDepth 100000 in
theorem c_X9_doMan (v0 : Nat) (h : mj_H) (p : Int32 × mj_H) (hf : f_X9_doMan v0 h = some p) : mj_Met mX9_doMan [.ref v0] h (some (.int p.1)) p.2 := by
  refine mj_met pl_X9 tok_X9_doMan (Nat.le_of_ble_eq_true rfl) ?_
  show mj_W mX9_doMan (mj_FI p) 0 [(0, .ref v0)] [] h 0 0
  unfold f_X9_doMan at hf
  refine mj_blk k_X9_ok 0 4 (pc' := 4) (l' := [(2, .int (0 : Int32)), (1, .int (0 : Int32)), (0, .ref v0)]) (st' := []) rfl ?_
  refine mj_locs [2, 1, 0] (l' := [(0, .ref v0), (1, .int (0 : Int32)), (2, .int (0 : Int32))]) rfl ?_
  exact w_X9_doMan_4 v0 (0 : Int32) (0 : Int32) h _ hf
def f_X9_doWorn (v0 : Nat) (v1 : Int32) (v2 : Int32) (h : mj_H) : Option (Int32 × mj_H) := (if mj_ob h v0 9 = true then (f_X9_isMan v0 v1 h).bind fun p1 => (if p1.1 = 0 then some ((-2 : Int32), p1.2) else (f_X9_in ((v2).toInt64) (0 : Int64) (31 : Int64) p1.2).bind fun p2 => (if p2.1 = 0 then some ((-2 : Int32), p2.2) else (mj_gR p2.2 v0 9 0).bind fun x3 => (mj_aI p2.2 x3 ((4 : Int32) + v1)).bind fun x4 => (mj_gR p2.2 v0 9 0).bind fun x5 => (mj_uI p2.2 x5 ((4 : Int32) + v1) v2).bind fun h6 => (mj_gR h6 v0 9 0).bind fun x7 => (mj_uI h6 x7 (3 : Int32) (0 : Int32)).bind fun h8 => some (x4, h8))) else none)
set_option maxHeartbeats 4000000 in
set_option maxRecDepth 100000 in
theorem c_X9_doWorn (v0 : Nat) (v1 : Int32) (v2 : Int32) (h : mj_H) (p : Int32 × mj_H) (hf : f_X9_doWorn v0 v1 v2 h = some p) : mj_Met mX9_doWorn [.ref v0, .int v1, .int v2] h (some (.int p.1)) p.2 := by
  refine mj_met pl_X9 tok_X9_doWorn (Nat.le_of_ble_eq_true rfl) ?_
  show mj_W mX9_doWorn (mj_FI p) 0 [(0, .ref v0), (1, .int v1), (2, .int v2)] [] h 0 0
  unfold f_X9_doWorn at hf
  refine mj_blk k_X9_ok 0 2 (pc' := 2) (l' := [(0, .ref v0), (1, .int v1), (2, .int v2)]) (st' := [.int v1, .ref v0]) rfl ?_
  obtain ⟨gp1, hf⟩ := mj_gd hf
  obtain ⟨p1, ep1, hf⟩ := mj_bd hf
  refine mj_callV (T := TX9) (N := 20) (ci := 9) mX9_isMan [.int v1] 2 rfl ll_X9_63 lb_X9_isMan li_X9_isMan ⟨Nat.le_of_ble_eq_true rfl, Nat.le_of_ble_eq_true rfl⟩ rfl gp1 rfl (rest := []) rfl (Nat.le_of_ble_eq_true rfl) ⟨Nat.le_of_ble_eq_true rfl, Nat.le_of_ble_eq_true rfl⟩ (c_X9_isMan v0 v1 h p1 ep1) ?_
  show mj_W mX9_doWorn (mj_FI p) 5 [(0, .ref v0), (1, .int v1), (2, .int v2)] [.int p1.1] p1.2 0 0
  refine mj_if_eq 3 20 rfl (by decide) (fun q => ?_) (fun q => ?_)
  · have hf := (if_pos q).symm.trans hf
    refine mj_blk k_X9_ok 10 1 (pc' := 22) (l' := [(0, .ref v0), (1, .int v1), (2, .int v2)]) (st' := [.int (-2 : Int32)]) rfl ?_
    obtain rfl := Option.some.inj hf
    exact mj_end (some (.int (-2 : Int32))) ⟨mj_dec tok_X9_doWorn (a := 11) rfl, .int, rfl, rfl⟩ ⟨rfl, rfl⟩ (Nat.le_of_ble_eq_true rfl) (Nat.le_of_ble_eq_true rfl)
  · have hf := (if_neg q).symm.trans hf
    refine mj_blk k_X9_ok 4 4 (pc' := 14) (l' := [(0, .ref v0), (1, .int v1), (2, .int v2)]) (st' := [.long (31 : Int64), .long (0 : Int64), .long ((v2).toInt64)]) rfl ?_
    obtain ⟨p2, ep2, hf⟩ := mj_bd hf
    refine mj_callS mX9_in [.long ((v2).toInt64), .long (0 : Int64), .long (31 : Int64)] 8 rfl ll_X9_53 lb_X9_in li_X9_in ⟨Nat.le_of_ble_eq_true rfl, Nat.le_of_ble_eq_true rfl⟩ rfl (rest := []) rfl (Nat.le_of_ble_eq_true rfl) ⟨Nat.le_of_ble_eq_true rfl, Nat.le_of_ble_eq_true rfl⟩ (c_X9_in ((v2).toInt64) (0 : Int64) (31 : Int64) p1.2 p2 ep2) ?_
    show mj_W mX9_doWorn (mj_FI p) 17 [(0, .ref v0), (1, .int v1), (2, .int v2)] [.int p2.1] p2.2 0 0
    refine mj_if_ne 9 23 rfl (by decide) (fun q => ?_) (fun q => ?_)
    · have hf := (if_neg q).symm.trans hf
      refine mj_blk k_X9_ok 12 1 (pc' := 24) (l' := [(0, .ref v0), (1, .int v1), (2, .int v2)]) (st' := [.ref v0]) rfl ?_
      obtain ⟨x3, ex3, hf⟩ := mj_bd hf
      refine mj_get 13 rfl fl_X9_7 (mj_gR_V ex3) ?_
      refine mj_blk k_X9_ok 14 3 (pc' := 30) (l' := [(0, .ref v0), (1, .int v1), (2, .int v2)]) (st' := [.int ((4 : Int32) + v1), .ref x3]) rfl ?_
      obtain ⟨x4, ex4, hf⟩ := mj_bd hf
      refine mj_iald 17 rfl ex4 ?_
      refine mj_blk k_X9_ok 18 2 (pc' := 33) (l' := [(3, .int x4), (0, .ref v0), (1, .int v1), (2, .int v2)]) (st' := [.ref v0]) rfl ?_
      obtain ⟨x5, ex5, hf⟩ := mj_bd hf
      refine mj_get 20 rfl fl_X9_7 (mj_gR_V ex5) ?_
      refine mj_blk k_X9_ok 21 4 (pc' := 40) (l' := [(3, .int x4), (0, .ref v0), (1, .int v1), (2, .int v2)]) (st' := [.int v2, .int ((4 : Int32) + v1), .ref x5]) rfl ?_
      obtain ⟨h6, eh6, hf⟩ := mj_bd hf
      refine mj_iast 25 rfl eh6 ?_
      refine mj_blk k_X9_ok 26 1 (pc' := 42) (l' := [(3, .int x4), (0, .ref v0), (1, .int v1), (2, .int v2)]) (st' := [.ref v0]) rfl ?_
      obtain ⟨x7, ex7, hf⟩ := mj_bd hf
      refine mj_get 27 rfl fl_X9_7 (mj_gR_V ex7) ?_
      refine mj_blk k_X9_ok 28 2 (pc' := 47) (l' := [(3, .int x4), (0, .ref v0), (1, .int v1), (2, .int v2)]) (st' := [.int (0 : Int32), .int (3 : Int32), .ref x7]) rfl ?_
      obtain ⟨h8, eh8, hf⟩ := mj_bd hf
      refine mj_iast 30 rfl eh8 ?_
      refine mj_blk k_X9_ok 31 1 (pc' := 49) (l' := [(3, .int x4), (0, .ref v0), (1, .int v1), (2, .int v2)]) (st' := [.int x4]) rfl ?_
      obtain rfl := Option.some.inj hf
      exact mj_end (some (.int x4)) ⟨mj_dec tok_X9_doWorn (a := 32) rfl, .int, rfl, rfl⟩ ⟨rfl, rfl⟩ (Nat.le_of_ble_eq_true rfl) (Nat.le_of_ble_eq_true rfl)
    · have hf := (if_pos q).symm.trans hf
      refine mj_blk k_X9_ok 10 1 (pc' := 22) (l' := [(0, .ref v0), (1, .int v1), (2, .int v2)]) (st' := [.int (-2 : Int32)]) rfl ?_
      obtain rfl := Option.some.inj hf
      exact mj_end (some (.int (-2 : Int32))) ⟨mj_dec tok_X9_doWorn (a := 11) rfl, .int, rfl, rfl⟩ ⟨rfl, rfl⟩ (Nat.le_of_ble_eq_true rfl) (Nat.le_of_ble_eq_true rfl)
def f_X9_doPair (v0 : Nat) (v1 : Int32) (v2 : Int32) (h : mj_H) : Option (Int32 × mj_H) := (if mj_ob h v0 9 = true then (f_X9_isMan v0 v1 h).bind fun p1 => (if p1.1 = 0 then some ((-2 : Int32), p1.2) else (if mj_ob p1.2 v0 9 = true then (f_X9_isMan v0 v2 p1.2).bind fun p2 => (if p2.1 = 0 then some ((-2 : Int32), p2.2) else (if v1 = v2 then some ((-2 : Int32), p2.2) else (mj_gR p2.2 v0 9 0).bind fun x3 => (mj_aI p2.2 x3 ((10 : Int32) + v1)).bind fun x4 => (f_X9_has x4 v2 p2.2).bind fun p5 => (if p5.1 = 0 then (mj_gR p5.2 v0 9 0).bind fun x6 => (mj_aI p5.2 x6 ((10 : Int32) + v1)).bind fun x7 => (mj_uI p5.2 x6 ((10 : Int32) + v1) (x7 ||| ((1 : Int32) <<< (v2 &&& 31)))).bind fun h8 => (mj_gR h8 v0 9 0).bind fun x9 => (mj_aI h8 x9 ((10 : Int32) + v2)).bind fun x10 => (mj_uI h8 x9 ((10 : Int32) + v2) (x10 ||| ((1 : Int32) <<< (v1 &&& 31)))).bind fun h11 => (mj_gR h11 v0 9 0).bind fun x12 => (mj_uI h11 x12 (3 : Int32) (0 : Int32)).bind fun h13 => some ((1 : Int32), h13) else some ((-3 : Int32), p5.2)))) else none)) else none)
set_option maxHeartbeats 4000000 in
set_option maxRecDepth 100000 in
theorem c_X9_doPair (v0 : Nat) (v1 : Int32) (v2 : Int32) (h : mj_H) (p : Int32 × mj_H) (hf : f_X9_doPair v0 v1 v2 h = some p) : mj_Met mX9_doPair [.ref v0, .int v1, .int v2] h (some (.int p.1)) p.2 := by
  refine mj_met pl_X9 tok_X9_doPair (Nat.le_of_ble_eq_true rfl) ?_
  show mj_W mX9_doPair (mj_FI p) 0 [(0, .ref v0), (1, .int v1), (2, .int v2)] [] h 0 0
  unfold f_X9_doPair at hf
  refine mj_blk k_X9_ok 0 2 (pc' := 2) (l' := [(0, .ref v0), (1, .int v1), (2, .int v2)]) (st' := [.int v1, .ref v0]) rfl ?_
  obtain ⟨gp1, hf⟩ := mj_gd hf
  obtain ⟨p1, ep1, hf⟩ := mj_bd hf
  refine mj_callV (T := TX9) (N := 20) (ci := 9) mX9_isMan [.int v1] 2 rfl ll_X9_63 lb_X9_isMan li_X9_isMan ⟨Nat.le_of_ble_eq_true rfl, Nat.le_of_ble_eq_true rfl⟩ rfl gp1 rfl (rest := []) rfl (Nat.le_of_ble_eq_true rfl) ⟨Nat.le_of_ble_eq_true rfl, Nat.le_of_ble_eq_true rfl⟩ (c_X9_isMan v0 v1 h p1 ep1) ?_
  show mj_W mX9_doPair (mj_FI p) 5 [(0, .ref v0), (1, .int v1), (2, .int v2)] [.int p1.1] p1.2 0 0
  refine mj_if_eq 3 21 rfl (by decide) (fun q => ?_) (fun q => ?_)
  · have hf := (if_pos q).symm.trans hf
    refine mj_blk k_X9_ok 11 1 (pc' := 23) (l' := [(0, .ref v0), (1, .int v1), (2, .int v2)]) (st' := [.int (-2 : Int32)]) rfl ?_
    obtain rfl := Option.some.inj hf
    exact mj_end (some (.int (-2 : Int32))) ⟨mj_dec tok_X9_doPair (a := 12) rfl, .int, rfl, rfl⟩ ⟨rfl, rfl⟩ (Nat.le_of_ble_eq_true rfl) (Nat.le_of_ble_eq_true rfl)
  · have hf := (if_neg q).symm.trans hf
    refine mj_blk k_X9_ok 4 2 (pc' := 10) (l' := [(0, .ref v0), (1, .int v1), (2, .int v2)]) (st' := [.int v2, .ref v0]) rfl ?_
    obtain ⟨gp2, hf⟩ := mj_gd hf
    obtain ⟨p2, ep2, hf⟩ := mj_bd hf
    refine mj_callV (T := TX9) (N := 20) (ci := 9) mX9_isMan [.int v2] 6 rfl ll_X9_63 lb_X9_isMan li_X9_isMan ⟨Nat.le_of_ble_eq_true rfl, Nat.le_of_ble_eq_true rfl⟩ rfl gp2 rfl (rest := []) rfl (Nat.le_of_ble_eq_true rfl) ⟨Nat.le_of_ble_eq_true rfl, Nat.le_of_ble_eq_true rfl⟩ (c_X9_isMan v0 v2 p1.2 p2 ep2) ?_
    show mj_W mX9_doPair (mj_FI p) 13 [(0, .ref v0), (1, .int v1), (2, .int v2)] [.int p2.1] p2.2 0 0
    refine mj_if_eq 7 21 rfl (by decide) (fun q => ?_) (fun q => ?_)
    · have hf := (if_pos q).symm.trans hf
      refine mj_blk k_X9_ok 11 1 (pc' := 23) (l' := [(0, .ref v0), (1, .int v1), (2, .int v2)]) (st' := [.int (-2 : Int32)]) rfl ?_
      obtain rfl := Option.some.inj hf
      exact mj_end (some (.int (-2 : Int32))) ⟨mj_dec tok_X9_doPair (a := 12) rfl, .int, rfl, rfl⟩ ⟨rfl, rfl⟩ (Nat.le_of_ble_eq_true rfl) (Nat.le_of_ble_eq_true rfl)
    · have hf := (if_neg q).symm.trans hf
      refine mj_blk k_X9_ok 8 2 (pc' := 18) (l' := [(0, .ref v0), (1, .int v1), (2, .int v2)]) (st' := [.int v2, .int v1]) rfl ?_
      refine mj_icmp_ne 10 24 rfl (by decide) (fun q => ?_) (fun q => ?_)
      · have hf := (if_neg q).symm.trans hf
        refine mj_blk k_X9_ok 13 1 (pc' := 25) (l' := [(0, .ref v0), (1, .int v1), (2, .int v2)]) (st' := [.ref v0]) rfl ?_
        obtain ⟨x3, ex3, hf⟩ := mj_bd hf
        refine mj_get 14 rfl fl_X9_7 (mj_gR_V ex3) ?_
        refine mj_blk k_X9_ok 15 3 (pc' := 32) (l' := [(0, .ref v0), (1, .int v1), (2, .int v2)]) (st' := [.int ((10 : Int32) + v1), .ref x3]) rfl ?_
        obtain ⟨x4, ex4, hf⟩ := mj_bd hf
        refine mj_iald 18 rfl ex4 ?_
        refine mj_blk k_X9_ok 19 1 (pc' := 34) (l' := [(0, .ref v0), (1, .int v1), (2, .int v2)]) (st' := [.int v2, .int x4]) rfl ?_
        obtain ⟨p5, ep5, hf⟩ := mj_bd hf
        refine mj_callS mX9_has [.int x4, .int v2] 20 rfl ll_X9_69 lb_X9_has li_X9_has ⟨Nat.le_of_ble_eq_true rfl, Nat.le_of_ble_eq_true rfl⟩ rfl (rest := []) rfl (Nat.le_of_ble_eq_true rfl) ⟨Nat.le_of_ble_eq_true rfl, Nat.le_of_ble_eq_true rfl⟩ (c_X9_has x4 v2 p2.2 p5 ep5) ?_
        show mj_W mX9_doPair (mj_FI p) 37 [(0, .ref v0), (1, .int v1), (2, .int v2)] [.int p5.1] p5.2 0 0
        refine mj_if_eq 21 43 rfl (by decide) (fun q => ?_) (fun q => ?_)
        · have hf := (if_pos q).symm.trans hf
          refine mj_blk k_X9_ok 24 1 (pc' := 44) (l' := [(0, .ref v0), (1, .int v1), (2, .int v2)]) (st' := [.ref v0]) rfl ?_
          obtain ⟨x6, ex6, hf⟩ := mj_bd hf
          refine mj_get 25 rfl fl_X9_7 (mj_gR_V ex6) ?_
          refine mj_blk k_X9_ok 26 4 (pc' := 52) (l' := [(0, .ref v0), (1, .int v1), (2, .int v2)]) (st' := [.int ((10 : Int32) + v1), .ref x6, .int ((10 : Int32) + v1), .ref x6]) rfl ?_
          obtain ⟨x7, ex7, hf⟩ := mj_bd hf
          refine mj_iald 30 rfl ex7 ?_
          refine mj_blk k_X9_ok 31 4 (pc' := 57) (l' := [(0, .ref v0), (1, .int v1), (2, .int v2)]) (st' := [.int (x7 ||| ((1 : Int32) <<< (v2 &&& 31))), .int ((10 : Int32) + v1), .ref x6]) rfl ?_
          obtain ⟨h8, eh8, hf⟩ := mj_bd hf
          refine mj_iast 35 rfl eh8 ?_
          refine mj_blk k_X9_ok 36 1 (pc' := 59) (l' := [(0, .ref v0), (1, .int v1), (2, .int v2)]) (st' := [.ref v0]) rfl ?_
          obtain ⟨x9, ex9, hf⟩ := mj_bd hf
          refine mj_get 37 rfl fl_X9_7 (mj_gR_V ex9) ?_
          refine mj_blk k_X9_ok 38 4 (pc' := 67) (l' := [(0, .ref v0), (1, .int v1), (2, .int v2)]) (st' := [.int ((10 : Int32) + v2), .ref x9, .int ((10 : Int32) + v2), .ref x9]) rfl ?_
          obtain ⟨x10, ex10, hf⟩ := mj_bd hf
          refine mj_iald 42 rfl ex10 ?_
          refine mj_blk k_X9_ok 43 4 (pc' := 72) (l' := [(0, .ref v0), (1, .int v1), (2, .int v2)]) (st' := [.int (x10 ||| ((1 : Int32) <<< (v1 &&& 31))), .int ((10 : Int32) + v2), .ref x9]) rfl ?_
          obtain ⟨h11, eh11, hf⟩ := mj_bd hf
          refine mj_iast 47 rfl eh11 ?_
          refine mj_blk k_X9_ok 48 1 (pc' := 74) (l' := [(0, .ref v0), (1, .int v1), (2, .int v2)]) (st' := [.ref v0]) rfl ?_
          obtain ⟨x12, ex12, hf⟩ := mj_bd hf
          refine mj_get 49 rfl fl_X9_7 (mj_gR_V ex12) ?_
          refine mj_blk k_X9_ok 50 2 (pc' := 79) (l' := [(0, .ref v0), (1, .int v1), (2, .int v2)]) (st' := [.int (0 : Int32), .int (3 : Int32), .ref x12]) rfl ?_
          obtain ⟨h13, eh13, hf⟩ := mj_bd hf
          refine mj_iast 52 rfl eh13 ?_
          refine mj_blk k_X9_ok 53 1 (pc' := 81) (l' := [(0, .ref v0), (1, .int v1), (2, .int v2)]) (st' := [.int (1 : Int32)]) rfl ?_
          obtain rfl := Option.some.inj hf
          exact mj_end (some (.int (1 : Int32))) ⟨mj_dec tok_X9_doPair (a := 54) rfl, .int, rfl, rfl⟩ ⟨rfl, rfl⟩ (Nat.le_of_ble_eq_true rfl) (Nat.le_of_ble_eq_true rfl)
        · have hf := (if_neg q).symm.trans hf
          refine mj_blk k_X9_ok 22 1 (pc' := 42) (l' := [(0, .ref v0), (1, .int v1), (2, .int v2)]) (st' := [.int (-3 : Int32)]) rfl ?_
          obtain rfl := Option.some.inj hf
          exact mj_end (some (.int (-3 : Int32))) ⟨mj_dec tok_X9_doPair (a := 23) rfl, .int, rfl, rfl⟩ ⟨rfl, rfl⟩ (Nat.le_of_ble_eq_true rfl) (Nat.le_of_ble_eq_true rfl)
      · have hf := (if_pos q).symm.trans hf
        refine mj_blk k_X9_ok 11 1 (pc' := 23) (l' := [(0, .ref v0), (1, .int v1), (2, .int v2)]) (st' := [.int (-2 : Int32)]) rfl ?_
        obtain rfl := Option.some.inj hf
        exact mj_end (some (.int (-2 : Int32))) ⟨mj_dec tok_X9_doPair (a := 12) rfl, .int, rfl, rfl⟩ ⟨rfl, rfl⟩ (Nat.le_of_ble_eq_true rfl) (Nat.le_of_ble_eq_true rfl)
def f_X9_doWord (v0 : Nat) (v1 : Int32) (h : mj_H) : Option (Int32 × mj_H) := (if mj_ob h v0 9 = true then (f_X9_isMan v0 v1 h).bind fun p1 => (if p1.1 = 0 then some ((-2 : Int32), p1.2) else (mj_gR p1.2 v0 9 0).bind fun x2 => (mj_aI p1.2 x2 (2 : Int32)).bind fun x3 => (f_X9_has x3 v1 p1.2).bind fun p4 => (if p4.1 = 0 then (mj_gR p4.2 v0 9 0).bind fun x5 => (mj_aI p4.2 x5 (2 : Int32)).bind fun x6 => (mj_uI p4.2 x5 (2 : Int32) (x6 ||| ((1 : Int32) <<< (v1 &&& 31)))).bind fun h7 => (mj_gR h7 v0 9 0).bind fun x8 => (mj_uI h7 x8 (3 : Int32) (0 : Int32)).bind fun h9 => some ((1 : Int32), h9) else some ((-3 : Int32), p4.2))) else none)
set_option maxHeartbeats 4000000 in
set_option maxRecDepth 100000 in
theorem c_X9_doWord (v0 : Nat) (v1 : Int32) (h : mj_H) (p : Int32 × mj_H) (hf : f_X9_doWord v0 v1 h = some p) : mj_Met mX9_doWord [.ref v0, .int v1] h (some (.int p.1)) p.2 := by
  refine mj_met pl_X9 tok_X9_doWord (Nat.le_of_ble_eq_true rfl) ?_
  show mj_W mX9_doWord (mj_FI p) 0 [(0, .ref v0), (1, .int v1)] [] h 0 0
  unfold f_X9_doWord at hf
  refine mj_blk k_X9_ok 0 2 (pc' := 2) (l' := [(0, .ref v0), (1, .int v1)]) (st' := [.int v1, .ref v0]) rfl ?_
  obtain ⟨gp1, hf⟩ := mj_gd hf
  obtain ⟨p1, ep1, hf⟩ := mj_bd hf
  refine mj_callV (T := TX9) (N := 20) (ci := 9) mX9_isMan [.int v1] 2 rfl ll_X9_63 lb_X9_isMan li_X9_isMan ⟨Nat.le_of_ble_eq_true rfl, Nat.le_of_ble_eq_true rfl⟩ rfl gp1 rfl (rest := []) rfl (Nat.le_of_ble_eq_true rfl) ⟨Nat.le_of_ble_eq_true rfl, Nat.le_of_ble_eq_true rfl⟩ (c_X9_isMan v0 v1 h p1 ep1) ?_
  show mj_W mX9_doWord (mj_FI p) 5 [(0, .ref v0), (1, .int v1)] [.int p1.1] p1.2 0 0
  refine mj_if_ne 3 11 rfl (by decide) (fun q => ?_) (fun q => ?_)
  · have hf := (if_neg q).symm.trans hf
    refine mj_blk k_X9_ok 6 1 (pc' := 12) (l' := [(0, .ref v0), (1, .int v1)]) (st' := [.ref v0]) rfl ?_
    obtain ⟨x2, ex2, hf⟩ := mj_bd hf
    refine mj_get 7 rfl fl_X9_7 (mj_gR_V ex2) ?_
    refine mj_blk k_X9_ok 8 1 (pc' := 16) (l' := [(0, .ref v0), (1, .int v1)]) (st' := [.int (2 : Int32), .ref x2]) rfl ?_
    obtain ⟨x3, ex3, hf⟩ := mj_bd hf
    refine mj_iald 9 rfl ex3 ?_
    refine mj_blk k_X9_ok 10 1 (pc' := 18) (l' := [(0, .ref v0), (1, .int v1)]) (st' := [.int v1, .int x3]) rfl ?_
    obtain ⟨p4, ep4, hf⟩ := mj_bd hf
    refine mj_callS mX9_has [.int x3, .int v1] 11 rfl ll_X9_69 lb_X9_has li_X9_has ⟨Nat.le_of_ble_eq_true rfl, Nat.le_of_ble_eq_true rfl⟩ rfl (rest := []) rfl (Nat.le_of_ble_eq_true rfl) ⟨Nat.le_of_ble_eq_true rfl, Nat.le_of_ble_eq_true rfl⟩ (c_X9_has x3 v1 p1.2 p4 ep4) ?_
    show mj_W mX9_doWord (mj_FI p) 21 [(0, .ref v0), (1, .int v1)] [.int p4.1] p4.2 0 0
    refine mj_if_eq 12 27 rfl (by decide) (fun q => ?_) (fun q => ?_)
    · have hf := (if_pos q).symm.trans hf
      refine mj_blk k_X9_ok 15 1 (pc' := 28) (l' := [(0, .ref v0), (1, .int v1)]) (st' := [.ref v0]) rfl ?_
      obtain ⟨x5, ex5, hf⟩ := mj_bd hf
      refine mj_get 16 rfl fl_X9_7 (mj_gR_V ex5) ?_
      refine mj_blk k_X9_ok 17 2 (pc' := 33) (l' := [(0, .ref v0), (1, .int v1)]) (st' := [.int (2 : Int32), .ref x5, .int (2 : Int32), .ref x5]) rfl ?_
      obtain ⟨x6, ex6, hf⟩ := mj_bd hf
      refine mj_iald 19 rfl ex6 ?_
      refine mj_blk k_X9_ok 20 4 (pc' := 38) (l' := [(0, .ref v0), (1, .int v1)]) (st' := [.int (x6 ||| ((1 : Int32) <<< (v1 &&& 31))), .int (2 : Int32), .ref x5]) rfl ?_
      obtain ⟨h7, eh7, hf⟩ := mj_bd hf
      refine mj_iast 24 rfl eh7 ?_
      refine mj_blk k_X9_ok 25 1 (pc' := 40) (l' := [(0, .ref v0), (1, .int v1)]) (st' := [.ref v0]) rfl ?_
      obtain ⟨x8, ex8, hf⟩ := mj_bd hf
      refine mj_get 26 rfl fl_X9_7 (mj_gR_V ex8) ?_
      refine mj_blk k_X9_ok 27 2 (pc' := 45) (l' := [(0, .ref v0), (1, .int v1)]) (st' := [.int (0 : Int32), .int (3 : Int32), .ref x8]) rfl ?_
      obtain ⟨h9, eh9, hf⟩ := mj_bd hf
      refine mj_iast 29 rfl eh9 ?_
      refine mj_blk k_X9_ok 30 1 (pc' := 47) (l' := [(0, .ref v0), (1, .int v1)]) (st' := [.int (1 : Int32)]) rfl ?_
      obtain rfl := Option.some.inj hf
      exact mj_end (some (.int (1 : Int32))) ⟨mj_dec tok_X9_doWord (a := 31) rfl, .int, rfl, rfl⟩ ⟨rfl, rfl⟩ (Nat.le_of_ble_eq_true rfl) (Nat.le_of_ble_eq_true rfl)
    · have hf := (if_neg q).symm.trans hf
      refine mj_blk k_X9_ok 13 1 (pc' := 26) (l' := [(0, .ref v0), (1, .int v1)]) (st' := [.int (-3 : Int32)]) rfl ?_
      obtain rfl := Option.some.inj hf
      exact mj_end (some (.int (-3 : Int32))) ⟨mj_dec tok_X9_doWord (a := 14) rfl, .int, rfl, rfl⟩ ⟨rfl, rfl⟩ (Nat.le_of_ble_eq_true rfl) (Nat.le_of_ble_eq_true rfl)
  · have hf := (if_pos q).symm.trans hf
    refine mj_blk k_X9_ok 4 1 (pc' := 10) (l' := [(0, .ref v0), (1, .int v1)]) (st' := [.int (-2 : Int32)]) rfl ?_
    obtain rfl := Option.some.inj hf
    exact mj_end (some (.int (-2 : Int32))) ⟨mj_dec tok_X9_doWord (a := 5) rfl, .int, rfl, rfl⟩ ⟨rfl, rfl⟩ (Nat.le_of_ble_eq_true rfl) (Nat.le_of_ble_eq_true rfl)
def f_X9_muster (v0 : Nat) (v1 : Int32) (h : mj_H) : Option (Int32 × mj_H) := (f_X9_in ((v1).toInt64) (0 : Int64) (99 : Int64) h).bind fun p1 => (if p1.1 = 0 then (if mj_ob p1.2 v0 9 = true then (f_X9_bad v0 (-2 : Int32) p1.2).bind fun p5 => some (p5.1, p5.2) else none) else (mj_gR p1.2 v0 9 0).bind fun x2 => (mj_aI p1.2 x2 (0 : Int32)).bind fun x3 => (if mj_ob p1.2 v0 9 = true then (f_X9_clean v0 v1 p1.2).bind fun p4 => some (x3, p4) else none))
set_option maxHeartbeats 4000000 in
set_option maxRecDepth 100000 in
theorem c_X9_muster (v0 : Nat) (v1 : Int32) (h : mj_H) (p : Int32 × mj_H) (hf : f_X9_muster v0 v1 h = some p) : mj_Met mX9_muster [.ref v0, .int v1] h (some (.int p.1)) p.2 := by
  refine mj_met pl_X9 tok_X9_muster (Nat.le_of_ble_eq_true rfl) ?_
  show mj_W mX9_muster (mj_FI p) 0 [(0, .ref v0), (1, .int v1)] [] h 0 0
  unfold f_X9_muster at hf
  refine mj_blk k_X9_ok 0 4 (pc' := 6) (l' := [(0, .ref v0), (1, .int v1)]) (st' := [.long (99 : Int64), .long (0 : Int64), .long ((v1).toInt64)]) rfl ?_
  obtain ⟨p1, ep1, hf⟩ := mj_bd hf
  refine mj_callS mX9_in [.long ((v1).toInt64), .long (0 : Int64), .long (99 : Int64)] 4 rfl ll_X9_53 lb_X9_in li_X9_in ⟨Nat.le_of_ble_eq_true rfl, Nat.le_of_ble_eq_true rfl⟩ rfl (rest := []) rfl (Nat.le_of_ble_eq_true rfl) ⟨Nat.le_of_ble_eq_true rfl, Nat.le_of_ble_eq_true rfl⟩ (c_X9_in ((v1).toInt64) (0 : Int64) (99 : Int64) h p1 ep1) ?_
  show mj_W mX9_muster (mj_FI p) 9 [(0, .ref v0), (1, .int v1)] [.int p1.1] p1.2 0 0
  refine mj_if_ne 5 19 rfl (by decide) (fun q => ?_) (fun q => ?_)
  · have hf := (if_neg q).symm.trans hf
    refine mj_blk k_X9_ok 10 1 (pc' := 20) (l' := [(0, .ref v0), (1, .int v1)]) (st' := [.ref v0]) rfl ?_
    obtain ⟨x2, ex2, hf⟩ := mj_bd hf
    refine mj_get 11 rfl fl_X9_7 (mj_gR_V ex2) ?_
    refine mj_blk k_X9_ok 12 1 (pc' := 24) (l' := [(0, .ref v0), (1, .int v1)]) (st' := [.int (0 : Int32), .ref x2]) rfl ?_
    obtain ⟨x3, ex3, hf⟩ := mj_bd hf
    refine mj_iald 13 rfl ex3 ?_
    refine mj_blk k_X9_ok 14 3 (pc' := 28) (l' := [(2, .int x3), (0, .ref v0), (1, .int v1)]) (st' := [.int v1, .ref v0]) rfl ?_
    obtain ⟨gp4, hf⟩ := mj_gd hf
    obtain ⟨p4, ep4, hf⟩ := mj_bd hf
    refine mj_callV (T := TX9) (N := 20) (ci := 9) mX9_clean [.int v1] 17 rfl ll_X9_49 lb_X9_clean li_X9_clean ⟨Nat.le_of_ble_eq_true rfl, Nat.le_of_ble_eq_true rfl⟩ rfl gp4 rfl (rest := []) rfl (Nat.le_of_ble_eq_true rfl) ⟨Nat.le_of_ble_eq_true rfl, Nat.le_of_ble_eq_true rfl⟩ (c_X9_clean v0 v1 p1.2 p4 ep4) ?_
    show mj_W mX9_muster (mj_FI p) 31 [(2, .int x3), (0, .ref v0), (1, .int v1)] [] p4 0 0
    refine mj_blk k_X9_ok 18 1 (pc' := 32) (l' := [(2, .int x3), (0, .ref v0), (1, .int v1)]) (st' := [.int x3]) rfl ?_
    obtain rfl := Option.some.inj hf
    exact mj_end (some (.int x3)) ⟨mj_dec tok_X9_muster (a := 19) rfl, .int, rfl, rfl⟩ ⟨rfl, rfl⟩ (Nat.le_of_ble_eq_true rfl) (Nat.le_of_ble_eq_true rfl)
  · have hf := (if_pos q).symm.trans hf
    refine mj_blk k_X9_ok 6 2 (pc' := 15) (l' := [(0, .ref v0), (1, .int v1)]) (st' := [.int (-2 : Int32), .ref v0]) rfl ?_
    obtain ⟨gp5, hf⟩ := mj_gd hf
    obtain ⟨p5, ep5, hf⟩ := mj_bd hf
    refine mj_callV (T := TX9) (N := 20) (ci := 9) mX9_bad [.int (-2 : Int32)] 8 rfl ll_X9_75 lb_X9_bad li_X9_bad ⟨Nat.le_of_ble_eq_true rfl, Nat.le_of_ble_eq_true rfl⟩ rfl gp5 rfl (rest := []) rfl (Nat.le_of_ble_eq_true rfl) ⟨Nat.le_of_ble_eq_true rfl, Nat.le_of_ble_eq_true rfl⟩ (c_X9_bad v0 (-2 : Int32) p1.2 p5 ep5) ?_
    show mj_W mX9_muster (mj_FI p) 18 [(0, .ref v0), (1, .int v1)] [.int p5.1] p5.2 0 0
    obtain rfl := Option.some.inj hf
    exact mj_end (some (.int p5.1)) ⟨mj_dec tok_X9_muster (a := 9) rfl, .int, rfl, rfl⟩ ⟨rfl, rfl⟩ (Nat.le_of_ble_eq_true rfl) (Nat.le_of_ble_eq_true rfl)
def f_X9_man (v0 : Nat) (v1 : Int32) (v2 : Int32) (v3 : Int32) (v4 : Int32) (v5 : Int32) (v6 : Int32) (h : mj_H) : Option (Int32 × mj_H) := (mj_gR h v0 9 8).bind fun x1 => (mj_uI h x1 (0 : Int32) v1).bind fun h2 => (mj_gR h2 v0 9 8).bind fun x3 => (mj_uI h2 x3 (1 : Int32) v2).bind fun h4 => (mj_gR h4 v0 9 8).bind fun x5 => (mj_uI h4 x5 (2 : Int32) v3).bind fun h6 => (mj_gR h6 v0 9 8).bind fun x7 => (mj_uI h6 x7 (3 : Int32) v4).bind fun h8 => (mj_gR h8 v0 9 8).bind fun x9 => (mj_uI h8 x9 (4 : Int32) v5).bind fun h10 => (mj_gR h10 v0 9 8).bind fun x11 => (mj_uI h10 x11 (5 : Int32) v6).bind fun h12 => (if mj_ob h12 v0 9 = true then (f_X9_doMan v0 h12).bind fun p13 => (if mj_ob p13.2 v0 9 = true then (f_X9_tell v0 p13.1 p13.2).bind fun p14 => some (p14.1, p14.2) else none) else none)
set_option maxHeartbeats 4000000 in
set_option maxRecDepth 100000 in
theorem c_X9_man (v0 : Nat) (v1 : Int32) (v2 : Int32) (v3 : Int32) (v4 : Int32) (v5 : Int32) (v6 : Int32) (h : mj_H) (p : Int32 × mj_H) (hf : f_X9_man v0 v1 v2 v3 v4 v5 v6 h = some p) : mj_Met mX9_man [.ref v0, .int v1, .int v2, .int v3, .int v4, .int v5, .int v6] h (some (.int p.1)) p.2 := by
  refine mj_met pl_X9 tok_X9_man (Nat.le_of_ble_eq_true rfl) ?_
  show mj_W mX9_man (mj_FI p) 0 [(0, .ref v0), (1, .int v1), (2, .int v2), (3, .int v3), (4, .int v4), (5, .int v5), (6, .int v6)] [] h 0 0
  unfold f_X9_man at hf
  refine mj_blk k_X9_ok 0 1 (pc' := 1) (l' := [(0, .ref v0), (1, .int v1), (2, .int v2), (3, .int v3), (4, .int v4), (5, .int v5), (6, .int v6)]) (st' := [.ref v0]) rfl ?_
  obtain ⟨x1, ex1, hf⟩ := mj_bd hf
  refine mj_get 1 rfl fl_X9_30 (mj_gR_V ex1) ?_
  refine mj_blk k_X9_ok 2 2 (pc' := 6) (l' := [(0, .ref v0), (1, .int v1), (2, .int v2), (3, .int v3), (4, .int v4), (5, .int v5), (6, .int v6)]) (st' := [.int v1, .int (0 : Int32), .ref x1]) rfl ?_
  obtain ⟨h2, eh2, hf⟩ := mj_bd hf
  refine mj_iast 4 rfl eh2 ?_
  refine mj_blk k_X9_ok 5 1 (pc' := 8) (l' := [(0, .ref v0), (1, .int v1), (2, .int v2), (3, .int v3), (4, .int v4), (5, .int v5), (6, .int v6)]) (st' := [.ref v0]) rfl ?_
  obtain ⟨x3, ex3, hf⟩ := mj_bd hf
  refine mj_get 6 rfl fl_X9_30 (mj_gR_V ex3) ?_
  refine mj_blk k_X9_ok 7 2 (pc' := 13) (l' := [(0, .ref v0), (1, .int v1), (2, .int v2), (3, .int v3), (4, .int v4), (5, .int v5), (6, .int v6)]) (st' := [.int v2, .int (1 : Int32), .ref x3]) rfl ?_
  obtain ⟨h4, eh4, hf⟩ := mj_bd hf
  refine mj_iast 9 rfl eh4 ?_
  refine mj_blk k_X9_ok 10 1 (pc' := 15) (l' := [(0, .ref v0), (1, .int v1), (2, .int v2), (3, .int v3), (4, .int v4), (5, .int v5), (6, .int v6)]) (st' := [.ref v0]) rfl ?_
  obtain ⟨x5, ex5, hf⟩ := mj_bd hf
  refine mj_get 11 rfl fl_X9_30 (mj_gR_V ex5) ?_
  refine mj_blk k_X9_ok 12 2 (pc' := 20) (l' := [(0, .ref v0), (1, .int v1), (2, .int v2), (3, .int v3), (4, .int v4), (5, .int v5), (6, .int v6)]) (st' := [.int v3, .int (2 : Int32), .ref x5]) rfl ?_
  obtain ⟨h6, eh6, hf⟩ := mj_bd hf
  refine mj_iast 14 rfl eh6 ?_
  refine mj_blk k_X9_ok 15 1 (pc' := 22) (l' := [(0, .ref v0), (1, .int v1), (2, .int v2), (3, .int v3), (4, .int v4), (5, .int v5), (6, .int v6)]) (st' := [.ref v0]) rfl ?_
  obtain ⟨x7, ex7, hf⟩ := mj_bd hf
  refine mj_get 16 rfl fl_X9_30 (mj_gR_V ex7) ?_
  refine mj_blk k_X9_ok 17 2 (pc' := 28) (l' := [(0, .ref v0), (1, .int v1), (2, .int v2), (3, .int v3), (4, .int v4), (5, .int v5), (6, .int v6)]) (st' := [.int v4, .int (3 : Int32), .ref x7]) rfl ?_
  obtain ⟨h8, eh8, hf⟩ := mj_bd hf
  refine mj_iast 19 rfl eh8 ?_
  refine mj_blk k_X9_ok 20 1 (pc' := 30) (l' := [(0, .ref v0), (1, .int v1), (2, .int v2), (3, .int v3), (4, .int v4), (5, .int v5), (6, .int v6)]) (st' := [.ref v0]) rfl ?_
  obtain ⟨x9, ex9, hf⟩ := mj_bd hf
  refine mj_get 21 rfl fl_X9_30 (mj_gR_V ex9) ?_
  refine mj_blk k_X9_ok 22 2 (pc' := 36) (l' := [(0, .ref v0), (1, .int v1), (2, .int v2), (3, .int v3), (4, .int v4), (5, .int v5), (6, .int v6)]) (st' := [.int v5, .int (4 : Int32), .ref x9]) rfl ?_
  obtain ⟨h10, eh10, hf⟩ := mj_bd hf
  refine mj_iast 24 rfl eh10 ?_
  refine mj_blk k_X9_ok 25 1 (pc' := 38) (l' := [(0, .ref v0), (1, .int v1), (2, .int v2), (3, .int v3), (4, .int v4), (5, .int v5), (6, .int v6)]) (st' := [.ref v0]) rfl ?_
  obtain ⟨x11, ex11, hf⟩ := mj_bd hf
  refine mj_get 26 rfl fl_X9_30 (mj_gR_V ex11) ?_
  refine mj_blk k_X9_ok 27 2 (pc' := 44) (l' := [(0, .ref v0), (1, .int v1), (2, .int v2), (3, .int v3), (4, .int v4), (5, .int v5), (6, .int v6)]) (st' := [.int v6, .int (5 : Int32), .ref x11]) rfl ?_
  obtain ⟨h12, eh12, hf⟩ := mj_bd hf
  refine mj_iast 29 rfl eh12 ?_
  refine mj_blk k_X9_ok 30 2 (pc' := 47) (l' := [(0, .ref v0), (1, .int v1), (2, .int v2), (3, .int v3), (4, .int v4), (5, .int v5), (6, .int v6)]) (st' := [.ref v0, .ref v0]) rfl ?_
  obtain ⟨gp13, hf⟩ := mj_gd hf
  obtain ⟨p13, ep13, hf⟩ := mj_bd hf
  refine mj_callV (T := TX9) (N := 20) (ci := 9) mX9_doMan [] 32 rfl ll_X9_79 lb_X9_doMan li_X9_doMan ⟨Nat.le_of_ble_eq_true rfl, Nat.le_of_ble_eq_true rfl⟩ rfl gp13 rfl (rest := [.ref v0]) rfl (Nat.le_of_ble_eq_true rfl) ⟨Nat.le_of_ble_eq_true rfl, Nat.le_of_ble_eq_true rfl⟩ (c_X9_doMan v0 h12 p13 ep13) ?_
  show mj_W mX9_man (mj_FI p) 50 [(0, .ref v0), (1, .int v1), (2, .int v2), (3, .int v3), (4, .int v4), (5, .int v5), (6, .int v6)] [.int p13.1, .ref v0] p13.2 0 0
  obtain ⟨gp14, hf⟩ := mj_gd hf
  obtain ⟨p14, ep14, hf⟩ := mj_bd hf
  refine mj_callV (T := TX9) (N := 20) (ci := 9) mX9_tell [.int p13.1] 33 rfl ll_X9_83 lb_X9_tell li_X9_tell ⟨Nat.le_of_ble_eq_true rfl, Nat.le_of_ble_eq_true rfl⟩ rfl gp14 rfl (rest := []) rfl (Nat.le_of_ble_eq_true rfl) ⟨Nat.le_of_ble_eq_true rfl, Nat.le_of_ble_eq_true rfl⟩ (c_X9_tell v0 p13.1 p13.2 p14 ep14) ?_
  show mj_W mX9_man (mj_FI p) 53 [(0, .ref v0), (1, .int v1), (2, .int v2), (3, .int v3), (4, .int v4), (5, .int v5), (6, .int v6)] [.int p14.1] p14.2 0 0
  obtain rfl := Option.some.inj hf
  exact mj_end (some (.int p14.1)) ⟨mj_dec tok_X9_man (a := 34) rfl, .int, rfl, rfl⟩ ⟨rfl, rfl⟩ (Nat.le_of_ble_eq_true rfl) (Nat.le_of_ble_eq_true rfl)
def f_X9_worn (v0 : Nat) (v1 : Int32) (v2 : Int32) (h : mj_H) : Option (Int32 × mj_H) := (if mj_ob h v0 9 = true then (f_X9_doWorn v0 v1 v2 h).bind fun p1 => (if mj_ob p1.2 v0 9 = true then (f_X9_tell v0 p1.1 p1.2).bind fun p2 => some (p2.1, p2.2) else none) else none)
set_option maxHeartbeats 4000000 in
set_option maxRecDepth 100000 in
theorem c_X9_worn (v0 : Nat) (v1 : Int32) (v2 : Int32) (h : mj_H) (p : Int32 × mj_H) (hf : f_X9_worn v0 v1 v2 h = some p) : mj_Met mX9_worn [.ref v0, .int v1, .int v2] h (some (.int p.1)) p.2 := by
  refine mj_met pl_X9 tok_X9_worn (Nat.le_of_ble_eq_true rfl) ?_
  show mj_W mX9_worn (mj_FI p) 0 [(0, .ref v0), (1, .int v1), (2, .int v2)] [] h 0 0
  unfold f_X9_worn at hf
  refine mj_blk k_X9_ok 0 4 (pc' := 4) (l' := [(0, .ref v0), (1, .int v1), (2, .int v2)]) (st' := [.int v2, .int v1, .ref v0, .ref v0]) rfl ?_
  obtain ⟨gp1, hf⟩ := mj_gd hf
  obtain ⟨p1, ep1, hf⟩ := mj_bd hf
  refine mj_callV (T := TX9) (N := 20) (ci := 9) mX9_doWorn [.int v1, .int v2] 4 rfl ll_X9_86 lb_X9_doWorn li_X9_doWorn ⟨Nat.le_of_ble_eq_true rfl, Nat.le_of_ble_eq_true rfl⟩ rfl gp1 rfl (rest := [.ref v0]) rfl (Nat.le_of_ble_eq_true rfl) ⟨Nat.le_of_ble_eq_true rfl, Nat.le_of_ble_eq_true rfl⟩ (c_X9_doWorn v0 v1 v2 h p1 ep1) ?_
  show mj_W mX9_worn (mj_FI p) 7 [(0, .ref v0), (1, .int v1), (2, .int v2)] [.int p1.1, .ref v0] p1.2 0 0
  obtain ⟨gp2, hf⟩ := mj_gd hf
  obtain ⟨p2, ep2, hf⟩ := mj_bd hf
  refine mj_callV (T := TX9) (N := 20) (ci := 9) mX9_tell [.int p1.1] 5 rfl ll_X9_83 lb_X9_tell li_X9_tell ⟨Nat.le_of_ble_eq_true rfl, Nat.le_of_ble_eq_true rfl⟩ rfl gp2 rfl (rest := []) rfl (Nat.le_of_ble_eq_true rfl) ⟨Nat.le_of_ble_eq_true rfl, Nat.le_of_ble_eq_true rfl⟩ (c_X9_tell v0 p1.1 p1.2 p2 ep2) ?_
  show mj_W mX9_worn (mj_FI p) 10 [(0, .ref v0), (1, .int v1), (2, .int v2)] [.int p2.1] p2.2 0 0
  obtain rfl := Option.some.inj hf
  exact mj_end (some (.int p2.1)) ⟨mj_dec tok_X9_worn (a := 6) rfl, .int, rfl, rfl⟩ ⟨rfl, rfl⟩ (Nat.le_of_ble_eq_true rfl) (Nat.le_of_ble_eq_true rfl)
def f_X9_pair (v0 : Nat) (v1 : Int32) (v2 : Int32) (h : mj_H) : Option (Int32 × mj_H) := (if mj_ob h v0 9 = true then (f_X9_doPair v0 v1 v2 h).bind fun p1 => (if mj_ob p1.2 v0 9 = true then (f_X9_tell v0 p1.1 p1.2).bind fun p2 => some (p2.1, p2.2) else none) else none)
set_option maxHeartbeats 4000000 in
set_option maxRecDepth 100000 in
theorem c_X9_pair (v0 : Nat) (v1 : Int32) (v2 : Int32) (h : mj_H) (p : Int32 × mj_H) (hf : f_X9_pair v0 v1 v2 h = some p) : mj_Met mX9_pair [.ref v0, .int v1, .int v2] h (some (.int p.1)) p.2 := by
  refine mj_met pl_X9 tok_X9_pair (Nat.le_of_ble_eq_true rfl) ?_
  show mj_W mX9_pair (mj_FI p) 0 [(0, .ref v0), (1, .int v1), (2, .int v2)] [] h 0 0
  unfold f_X9_pair at hf
  refine mj_blk k_X9_ok 0 4 (pc' := 4) (l' := [(0, .ref v0), (1, .int v1), (2, .int v2)]) (st' := [.int v2, .int v1, .ref v0, .ref v0]) rfl ?_
  obtain ⟨gp1, hf⟩ := mj_gd hf
  obtain ⟨p1, ep1, hf⟩ := mj_bd hf
  refine mj_callV (T := TX9) (N := 20) (ci := 9) mX9_doPair [.int v1, .int v2] 4 rfl ll_X9_90 lb_X9_doPair li_X9_doPair ⟨Nat.le_of_ble_eq_true rfl, Nat.le_of_ble_eq_true rfl⟩ rfl gp1 rfl (rest := [.ref v0]) rfl (Nat.le_of_ble_eq_true rfl) ⟨Nat.le_of_ble_eq_true rfl, Nat.le_of_ble_eq_true rfl⟩ (c_X9_doPair v0 v1 v2 h p1 ep1) ?_
  show mj_W mX9_pair (mj_FI p) 7 [(0, .ref v0), (1, .int v1), (2, .int v2)] [.int p1.1, .ref v0] p1.2 0 0
  obtain ⟨gp2, hf⟩ := mj_gd hf
  obtain ⟨p2, ep2, hf⟩ := mj_bd hf
  refine mj_callV (T := TX9) (N := 20) (ci := 9) mX9_tell [.int p1.1] 5 rfl ll_X9_83 lb_X9_tell li_X9_tell ⟨Nat.le_of_ble_eq_true rfl, Nat.le_of_ble_eq_true rfl⟩ rfl gp2 rfl (rest := []) rfl (Nat.le_of_ble_eq_true rfl) ⟨Nat.le_of_ble_eq_true rfl, Nat.le_of_ble_eq_true rfl⟩ (c_X9_tell v0 p1.1 p1.2 p2 ep2) ?_
  show mj_W mX9_pair (mj_FI p) 10 [(0, .ref v0), (1, .int v1), (2, .int v2)] [.int p2.1] p2.2 0 0
  obtain rfl := Option.some.inj hf
  exact mj_end (some (.int p2.1)) ⟨mj_dec tok_X9_pair (a := 6) rfl, .int, rfl, rfl⟩ ⟨rfl, rfl⟩ (Nat.le_of_ble_eq_true rfl) (Nat.le_of_ble_eq_true rfl)
def f_X9_word (v0 : Nat) (v1 : Int32) (h : mj_H) : Option (Int32 × mj_H) := (if mj_ob h v0 9 = true then (f_X9_doWord v0 v1 h).bind fun p1 => (if mj_ob p1.2 v0 9 = true then (f_X9_tell v0 p1.1 p1.2).bind fun p2 => some (p2.1, p2.2) else none) else none)
set_option maxHeartbeats 4000000 in
set_option maxRecDepth 100000 in
theorem c_X9_word (v0 : Nat) (v1 : Int32) (h : mj_H) (p : Int32 × mj_H) (hf : f_X9_word v0 v1 h = some p) : mj_Met mX9_word [.ref v0, .int v1] h (some (.int p.1)) p.2 := by
  refine mj_met pl_X9 tok_X9_word (Nat.le_of_ble_eq_true rfl) ?_
  show mj_W mX9_word (mj_FI p) 0 [(0, .ref v0), (1, .int v1)] [] h 0 0
  unfold f_X9_word at hf
  refine mj_blk k_X9_ok 0 3 (pc' := 3) (l' := [(0, .ref v0), (1, .int v1)]) (st' := [.int v1, .ref v0, .ref v0]) rfl ?_
  obtain ⟨gp1, hf⟩ := mj_gd hf
  obtain ⟨p1, ep1, hf⟩ := mj_bd hf
  refine mj_callV (T := TX9) (N := 20) (ci := 9) mX9_doWord [.int v1] 3 rfl ll_X9_93 lb_X9_doWord li_X9_doWord ⟨Nat.le_of_ble_eq_true rfl, Nat.le_of_ble_eq_true rfl⟩ rfl gp1 rfl (rest := [.ref v0]) rfl (Nat.le_of_ble_eq_true rfl) ⟨Nat.le_of_ble_eq_true rfl, Nat.le_of_ble_eq_true rfl⟩ (c_X9_doWord v0 v1 h p1 ep1) ?_
  show mj_W mX9_word (mj_FI p) 6 [(0, .ref v0), (1, .int v1)] [.int p1.1, .ref v0] p1.2 0 0
  obtain ⟨gp2, hf⟩ := mj_gd hf
  obtain ⟨p2, ep2, hf⟩ := mj_bd hf
  refine mj_callV (T := TX9) (N := 20) (ci := 9) mX9_tell [.int p1.1] 4 rfl ll_X9_83 lb_X9_tell li_X9_tell ⟨Nat.le_of_ble_eq_true rfl, Nat.le_of_ble_eq_true rfl⟩ rfl gp2 rfl (rest := []) rfl (Nat.le_of_ble_eq_true rfl) ⟨Nat.le_of_ble_eq_true rfl, Nat.le_of_ble_eq_true rfl⟩ (c_X9_tell v0 p1.1 p1.2 p2 ep2) ?_
  show mj_W mX9_word (mj_FI p) 9 [(0, .ref v0), (1, .int v1)] [.int p2.1] p2.2 0 0
  obtain rfl := Option.some.inj hf
  exact mj_end (some (.int p2.1)) ⟨mj_dec tok_X9_word (a := 5) rfl, .int, rfl, rfl⟩ ⟨rfl, rfl⟩ (Nat.le_of_ble_eq_true rfl) (Nat.le_of_ble_eq_true rfl)
def f_X9_type (v0 : Nat) (v1 : Int32) (h : mj_H) : Option (Int32 × mj_H) := (f_X9_in ((v1).toInt64) (0 : Int64) (127 : Int64) h).bind fun p1 => (if p1.1 = 0 then (if mj_ob p1.2 v0 9 = true then (f_X9_bad v0 (-2 : Int32) p1.2).bind fun p10 => some (p10.1, p10.2) else none) else (mj_gI p1.2 v0 9 4).bind fun x2 => (if x2 = (150 : Int32) then (if mj_ob p1.2 v0 9 = true then (f_X9_tell v0 (-4 : Int32) p1.2).bind fun p9 => some (p9.1, p9.2) else none) else (mj_gR p1.2 v0 9 3).bind fun x3 => (mj_gI p1.2 v0 9 4).bind fun x4 => (mj_uI p1.2 x3 x4 v1).bind fun h5 => (mj_gI h5 v0 9 4).bind fun x6 => (mj_sV h5 v0 9 4 (.int (x6 + (1 : Int32)))).bind fun h7 => (mj_gI h7 v0 9 4).bind fun x8 => some (x8, h7)))
set_option maxHeartbeats 4000000 in
set_option maxRecDepth 100000 in
theorem c_X9_type (v0 : Nat) (v1 : Int32) (h : mj_H) (p : Int32 × mj_H) (hf : f_X9_type v0 v1 h = some p) : mj_Met mX9_type [.ref v0, .int v1] h (some (.int p.1)) p.2 := by
  refine mj_met pl_X9 tok_X9_type (Nat.le_of_ble_eq_true rfl) ?_
  show mj_W mX9_type (mj_FI p) 0 [(0, .ref v0), (1, .int v1)] [] h 0 0
  unfold f_X9_type at hf
  refine mj_blk k_X9_ok 0 4 (pc' := 6) (l' := [(0, .ref v0), (1, .int v1)]) (st' := [.long (127 : Int64), .long (0 : Int64), .long ((v1).toInt64)]) rfl ?_
  obtain ⟨p1, ep1, hf⟩ := mj_bd hf
  refine mj_callS mX9_in [.long ((v1).toInt64), .long (0 : Int64), .long (127 : Int64)] 4 rfl ll_X9_53 lb_X9_in li_X9_in ⟨Nat.le_of_ble_eq_true rfl, Nat.le_of_ble_eq_true rfl⟩ rfl (rest := []) rfl (Nat.le_of_ble_eq_true rfl) ⟨Nat.le_of_ble_eq_true rfl, Nat.le_of_ble_eq_true rfl⟩ (c_X9_in ((v1).toInt64) (0 : Int64) (127 : Int64) h p1 ep1) ?_
  show mj_W mX9_type (mj_FI p) 9 [(0, .ref v0), (1, .int v1)] [.int p1.1] p1.2 0 0
  refine mj_if_ne 5 19 rfl (by decide) (fun q => ?_) (fun q => ?_)
  · have hf := (if_neg q).symm.trans hf
    refine mj_blk k_X9_ok 10 1 (pc' := 20) (l' := [(0, .ref v0), (1, .int v1)]) (st' := [.ref v0]) rfl ?_
    obtain ⟨x2, ex2, hf⟩ := mj_bd hf
    refine mj_get 11 rfl fl_X9_98 (mj_gI_V ex2) ?_
    refine mj_blk k_X9_ok 12 1 (pc' := 26) (l' := [(0, .ref v0), (1, .int v1)]) (st' := [.int (150 : Int32), .int x2]) rfl ?_
    refine mj_icmp_ne 13 36 rfl (by decide) (fun q => ?_) (fun q => ?_)
    · have hf := (if_neg q).symm.trans hf
      refine mj_blk k_X9_ok 18 1 (pc' := 37) (l' := [(0, .ref v0), (1, .int v1)]) (st' := [.ref v0]) rfl ?_
      obtain ⟨x3, ex3, hf⟩ := mj_bd hf
      refine mj_get 19 rfl fl_X9_20 (mj_gR_V ex3) ?_
      refine mj_blk k_X9_ok 20 1 (pc' := 41) (l' := [(0, .ref v0), (1, .int v1)]) (st' := [.ref v0, .ref x3]) rfl ?_
      obtain ⟨x4, ex4, hf⟩ := mj_bd hf
      refine mj_get 21 rfl fl_X9_98 (mj_gI_V ex4) ?_
      refine mj_blk k_X9_ok 22 1 (pc' := 45) (l' := [(0, .ref v0), (1, .int v1)]) (st' := [.int v1, .int x4, .ref x3]) rfl ?_
      obtain ⟨h5, eh5, hf⟩ := mj_bd hf
      refine mj_iast 23 rfl eh5 ?_
      refine mj_blk k_X9_ok 24 2 (pc' := 48) (l' := [(0, .ref v0), (1, .int v1)]) (st' := [.ref v0, .ref v0]) rfl ?_
      obtain ⟨x6, ex6, hf⟩ := mj_bd hf
      refine mj_get 26 rfl fl_X9_98 (mj_gI_V ex6) ?_
      refine mj_blk k_X9_ok 27 2 (pc' := 53) (l' := [(0, .ref v0), (1, .int v1)]) (st' := [.int (x6 + (1 : Int32)), .ref v0]) rfl ?_
      obtain ⟨h7, eh7, hf⟩ := mj_bd hf
      refine mj_put 29 rfl fp_X9_98 (fun _ => ⟨rfl, rfl⟩) eh7 ?_
      refine mj_blk k_X9_ok 30 1 (pc' := 57) (l' := [(0, .ref v0), (1, .int v1)]) (st' := [.ref v0]) rfl ?_
      obtain ⟨x8, ex8, hf⟩ := mj_bd hf
      refine mj_get 31 rfl fl_X9_98 (mj_gI_V ex8) ?_
      obtain rfl := Option.some.inj hf
      exact mj_end (some (.int x8)) ⟨mj_dec tok_X9_type (a := 32) rfl, .int, rfl, rfl⟩ ⟨rfl, rfl⟩ (Nat.le_of_ble_eq_true rfl) (Nat.le_of_ble_eq_true rfl)
    · have hf := (if_pos q).symm.trans hf
      refine mj_blk k_X9_ok 14 2 (pc' := 32) (l' := [(0, .ref v0), (1, .int v1)]) (st' := [.int (-4 : Int32), .ref v0]) rfl ?_
      obtain ⟨gp9, hf⟩ := mj_gd hf
      obtain ⟨p9, ep9, hf⟩ := mj_bd hf
      refine mj_callV (T := TX9) (N := 20) (ci := 9) mX9_tell [.int (-4 : Int32)] 16 rfl ll_X9_83 lb_X9_tell li_X9_tell ⟨Nat.le_of_ble_eq_true rfl, Nat.le_of_ble_eq_true rfl⟩ rfl gp9 rfl (rest := []) rfl (Nat.le_of_ble_eq_true rfl) ⟨Nat.le_of_ble_eq_true rfl, Nat.le_of_ble_eq_true rfl⟩ (c_X9_tell v0 (-4 : Int32) p1.2 p9 ep9) ?_
      show mj_W mX9_type (mj_FI p) 35 [(0, .ref v0), (1, .int v1)] [.int p9.1] p9.2 0 0
      obtain rfl := Option.some.inj hf
      exact mj_end (some (.int p9.1)) ⟨mj_dec tok_X9_type (a := 17) rfl, .int, rfl, rfl⟩ ⟨rfl, rfl⟩ (Nat.le_of_ble_eq_true rfl) (Nat.le_of_ble_eq_true rfl)
  · have hf := (if_pos q).symm.trans hf
    refine mj_blk k_X9_ok 6 2 (pc' := 15) (l' := [(0, .ref v0), (1, .int v1)]) (st' := [.int (-2 : Int32), .ref v0]) rfl ?_
    obtain ⟨gp10, hf⟩ := mj_gd hf
    obtain ⟨p10, ep10, hf⟩ := mj_bd hf
    refine mj_callV (T := TX9) (N := 20) (ci := 9) mX9_bad [.int (-2 : Int32)] 8 rfl ll_X9_75 lb_X9_bad li_X9_bad ⟨Nat.le_of_ble_eq_true rfl, Nat.le_of_ble_eq_true rfl⟩ rfl gp10 rfl (rest := []) rfl (Nat.le_of_ble_eq_true rfl) ⟨Nat.le_of_ble_eq_true rfl, Nat.le_of_ble_eq_true rfl⟩ (c_X9_bad v0 (-2 : Int32) p1.2 p10 ep10) ?_
    show mj_W mX9_type (mj_FI p) 18 [(0, .ref v0), (1, .int v1)] [.int p10.1] p10.2 0 0
    obtain rfl := Option.some.inj hf
    exact mj_end (some (.int p10.1)) ⟨mj_dec tok_X9_type (a := 9) rfl, .int, rfl, rfl⟩ ⟨rfl, rfl⟩ (Nat.le_of_ble_eq_true rfl) (Nat.le_of_ble_eq_true rfl)
def f_X9_clear (v0 : Nat) (h : mj_H) : Option (Int32 × mj_H) := (mj_gI h v0 9 4).bind fun x1 => (mj_sV h v0 9 4 (.int (0 : Int32))).bind fun h2 => some (x1, h2)
set_option maxHeartbeats 4000000 in
set_option maxRecDepth 100000 in
theorem c_X9_clear (v0 : Nat) (h : mj_H) (p : Int32 × mj_H) (hf : f_X9_clear v0 h = some p) : mj_Met mX9_clear [.ref v0] h (some (.int p.1)) p.2 := by
  refine mj_met pl_X9 tok_X9_clear (Nat.le_of_ble_eq_true rfl) ?_
  show mj_W mX9_clear (mj_FI p) 0 [(0, .ref v0)] [] h 0 0
  unfold f_X9_clear at hf
  refine mj_blk k_X9_ok 0 1 (pc' := 1) (l' := [(0, .ref v0)]) (st' := [.ref v0]) rfl ?_
  obtain ⟨x1, ex1, hf⟩ := mj_bd hf
  refine mj_get 1 rfl fl_X9_98 (mj_gI_V ex1) ?_
  refine mj_blk k_X9_ok 2 3 (pc' := 7) (l' := [(1, .int x1), (0, .ref v0)]) (st' := [.int (0 : Int32), .ref v0]) rfl ?_
  obtain ⟨h2, eh2, hf⟩ := mj_bd hf
  refine mj_put 5 rfl fp_X9_98 (fun _ => ⟨rfl, rfl⟩) eh2 ?_
  refine mj_blk k_X9_ok 6 1 (pc' := 11) (l' := [(1, .int x1), (0, .ref v0)]) (st' := [.int x1]) rfl ?_
  obtain rfl := Option.some.inj hf
  exact mj_end (some (.int x1)) ⟨mj_dec tok_X9_clear (a := 7) rfl, .int, rfl, rfl⟩ ⟨rfl, rfl⟩ (Nat.le_of_ble_eq_true rfl) (Nat.le_of_ble_eq_true rfl)
def f_X9_takes_387 (s0 : Nat) (s1 : Int32) (h : mj_H) : Option (mj_H) := (mj_sV h s0 9 11 (.int s1)).bind fun h1 => some h1
set_option maxHeartbeats 4000000 in
set_option maxRecDepth 100000 in
theorem w_X9_takes_387 (s0 : Nat) (s1 : Int32) (h : mj_H) (p : mj_H) (hf : f_X9_takes_387  s0 s1 h = some p) : mj_W mX9_takes (mj_FV p) 387 [] [.int s1, .ref s0] h 0 0 := by
  unfold f_X9_takes_387 at hf
  obtain ⟨h1, eh1, hf⟩ := mj_bd hf
  refine mj_put 196 rfl fp_X9_116 (fun _ => ⟨rfl, rfl⟩) eh1 ?_
  obtain rfl := Option.some.inj hf
  exact mj_end none ⟨mj_dec tok_X9_takes (a := 197) rfl, rfl⟩ ⟨rfl, rfl⟩ (Nat.le_of_ble_eq_true rfl) (Nat.le_of_ble_eq_true rfl)
def f_X9_takes_383 (v0 : Nat) (s0 : Nat) (h : mj_H) : Option (mj_H) := (mj_gI h v0 9 11).bind fun x2 => f_X9_takes_387 s0 x2 h
set_option maxHeartbeats 4000000 in
set_option maxRecDepth 100000 in
theorem w_X9_takes_383 (v0 : Nat) (s0 : Nat) (h : mj_H) (p : mj_H) (hf : f_X9_takes_383  v0 s0 h = some p) : mj_W mX9_takes (mj_FV p) 383 [(0, .ref v0)] [.ref s0] h 0 0 := by
  unfold f_X9_takes_383 at hf
  refine mj_blk k_X9_ok 194 1 (pc' := 384) (l' := [(0, .ref v0)]) (st' := [.ref v0, .ref s0]) rfl ?_
  obtain ⟨x2, ex2, hf⟩ := mj_bd hf
  refine mj_get 195 rfl fl_X9_116 (mj_gI_V ex2) ?_
  refine mj_locs [] (l' := []) rfl ?_
  exact w_X9_takes_387 s0 x2 h _ hf
def f_X9_takes_357 (v0 : Nat) (h : mj_H) : Option (mj_H) := (mj_gI h v0 9 11).bind fun x3 => (if x3 = (2 : Int32) then (mj_gI h v0 9 9).bind fun x4 => (mj_gI h v0 9 10).bind fun x5 => (if (x4 - x5) ≤ (2 : Int32) then f_X9_takes_383 v0 v0 h else f_X9_takes_387 v0 (4 : Int32) h) else f_X9_takes_383 v0 v0 h)
set_option maxHeartbeats 4000000 in
set_option maxRecDepth 100000 in
theorem w_X9_takes_357 (v0 : Nat) (h : mj_H) (p : mj_H) (hf : f_X9_takes_357  v0 h = some p) : mj_W mX9_takes (mj_FV p) 357 [(0, .ref v0)] [] h 0 0 := by
  unfold f_X9_takes_357 at hf
  refine mj_blk k_X9_ok 180 2 (pc' := 359) (l' := [(0, .ref v0)]) (st' := [.ref v0, .ref v0]) rfl ?_
  obtain ⟨x3, ex3, hf⟩ := mj_bd hf
  refine mj_get 182 rfl fl_X9_116 (mj_gI_V ex3) ?_
  refine mj_blk k_X9_ok 183 1 (pc' := 363) (l' := [(0, .ref v0)]) (st' := [.int (2 : Int32), .int x3, .ref v0]) rfl ?_
  refine mj_icmp_ne 184 383 rfl (by decide) (fun q => ?_) (fun q => ?_)
  · have hf := (if_neg q).symm.trans hf
    exact w_X9_takes_383 v0 v0 h _ hf
  · have hf := (if_pos q).symm.trans hf
    refine mj_blk k_X9_ok 185 1 (pc' := 367) (l' := [(0, .ref v0)]) (st' := [.ref v0, .ref v0]) rfl ?_
    obtain ⟨x4, ex4, hf⟩ := mj_bd hf
    refine mj_get 186 rfl fl_X9_102 (mj_gI_V ex4) ?_
    refine mj_blk k_X9_ok 187 1 (pc' := 371) (l' := [(0, .ref v0)]) (st' := [.ref v0, .int x4, .ref v0]) rfl ?_
    obtain ⟨x5, ex5, hf⟩ := mj_bd hf
    refine mj_get 188 rfl fl_X9_105 (mj_gI_V ex5) ?_
    refine mj_blk k_X9_ok 189 2 (pc' := 376) (l' := [(0, .ref v0)]) (st' := [.int (2 : Int32), .int (x4 - x5), .ref v0]) rfl ?_
    refine mj_icmp_le 191 383 rfl (by decide) (fun q => ?_) (fun q => ?_)
    · have hf := (if_pos q).symm.trans hf
      exact w_X9_takes_383 v0 v0 h _ hf
    · have hf := (if_neg q).symm.trans hf
      refine mj_blk k_X9_ok 192 2 (pc' := 387) (l' := [(0, .ref v0)]) (st' := [.int (4 : Int32), .ref v0]) rfl ?_
      refine mj_locs [] (l' := []) rfl ?_
      exact w_X9_takes_387 v0 (4 : Int32) h _ hf
def f_X9_takes_341 (K259 : Nat → mj_H → Option (mj_H)) (v0 : Nat) (s0 : Nat) (s1 : Int32) (h : mj_H) : Option (mj_H) := (mj_sV h s0 9 12 (.int s1)).bind fun h6 => (mj_gI h6 v0 9 9).bind fun x7 => (mj_sV h6 v0 9 9 (.int (x7 + (1 : Int32)))).bind fun h8 => K259 v0 h8
set_option maxHeartbeats 4000000 in
set_option maxRecDepth 100000 in
theorem w_X9_takes_341 (K259 : Nat → mj_H → Option (mj_H)) (hK259 : ∀ (v0 : Nat)  (h : mj_H) (p : mj_H), K259 v0 h = some p → mj_W mX9_takes (mj_FV p) 259 [(0, .ref v0)] [] h 0 0) (v0 : Nat) (s0 : Nat) (s1 : Int32) (h : mj_H) (p : mj_H) (hf : f_X9_takes_341 K259 v0 s0 s1 h = some p) : mj_W mX9_takes (mj_FV p) 341 [(0, .ref v0)] [.int s1, .ref s0] h 0 0 := by
  unfold f_X9_takes_341 at hf
  obtain ⟨h6, eh6, hf⟩ := mj_bd hf
  refine mj_put 172 rfl fp_X9_119 (fun _ => ⟨rfl, rfl⟩) eh6 ?_
  refine mj_blk k_X9_ok 173 2 (pc' := 346) (l' := [(0, .ref v0)]) (st' := [.ref v0, .ref v0]) rfl ?_
  obtain ⟨x7, ex7, hf⟩ := mj_bd hf
  refine mj_get 175 rfl fl_X9_102 (mj_gI_V ex7) ?_
  refine mj_blk k_X9_ok 176 2 (pc' := 351) (l' := [(0, .ref v0)]) (st' := [.int (x7 + (1 : Int32)), .ref v0]) rfl ?_
  obtain ⟨h8, eh8, hf⟩ := mj_bd hf
  refine mj_put 178 rfl fp_X9_102 (fun _ => ⟨rfl, rfl⟩) eh8 ?_
  refine mj_blk k_X9_ok 179 1 (pc' := 259) (l' := [(0, .ref v0)]) (st' := []) rfl ?_
  exact hK259 v0 h8 _ hf
def b_X9_takes_259 (K259 : Nat → mj_H → Option (mj_H)) (v0 : Nat) (h : mj_H) : Option (mj_H) := (mj_gI h v0 9 11).bind fun x9 => (if x9 = (2 : Int32) then (mj_gI h v0 9 9).bind fun x10 => (mj_gI h v0 9 4).bind fun x11 => (if x11 ≤ x10 then f_X9_takes_357 v0 h else (mj_gR h v0 9 3).bind fun x12 => (mj_gI h v0 9 9).bind fun x13 => (mj_aI h x12 x13).bind fun x14 => (f_X9_in ((x14).toInt64) (48 : Int64) (57 : Int64) h).bind fun p15 => (if p15.1 = 0 then f_X9_takes_357 v0 p15.2 else (mj_gI p15.2 v0 9 9).bind fun x16 => (mj_gI p15.2 v0 9 10).bind fun x17 => (if (2 : Int32) ≤ (x16 - x17) then (mj_gI p15.2 v0 9 12).bind fun x18 => f_X9_takes_341 K259 v0 v0 x18 p15.2 else (mj_gI p15.2 v0 9 12).bind fun x19 => (mj_gR p15.2 v0 9 3).bind fun x20 => (mj_gI p15.2 v0 9 9).bind fun x21 => (mj_aI p15.2 x20 x21).bind fun x22 => f_X9_takes_341 K259 v0 v0 ((((10 : Int32) * x19) + x22) - (48 : Int32)) p15.2))) else f_X9_takes_357 v0 h)
set_option maxHeartbeats 4000000 in
set_option maxRecDepth 100000 in
theorem wb_X9_takes_259 (K259 : Nat → mj_H → Option (mj_H)) (hK259 : ∀ (v0 : Nat)  (h : mj_H) (p : mj_H), K259 v0 h = some p → mj_W mX9_takes (mj_FV p) 259 [(0, .ref v0)] [] h 0 0) (v0 : Nat) (h : mj_H) (p : mj_H) (hf : b_X9_takes_259  K259 v0 h = some p) : mj_W mX9_takes (mj_FV p) 259 [(0, .ref v0)] [] h 0 0 := by
  unfold b_X9_takes_259 at hf
  refine mj_blk k_X9_ok 130 1 (pc' := 260) (l' := [(0, .ref v0)]) (st' := [.ref v0]) rfl ?_
  obtain ⟨x9, ex9, hf⟩ := mj_bd hf
  refine mj_get 131 rfl fl_X9_116 (mj_gI_V ex9) ?_
  refine mj_blk k_X9_ok 132 1 (pc' := 264) (l' := [(0, .ref v0)]) (st' := [.int (2 : Int32), .int x9]) rfl ?_
  refine mj_icmp_ne 133 357 rfl (by decide) (fun q => ?_) (fun q => ?_)
  · have hf := (if_neg q).symm.trans hf
    exact w_X9_takes_357 v0 h _ hf
  · have hf := (if_pos q).symm.trans hf
    refine mj_blk k_X9_ok 134 1 (pc' := 268) (l' := [(0, .ref v0)]) (st' := [.ref v0]) rfl ?_
    obtain ⟨x10, ex10, hf⟩ := mj_bd hf
    refine mj_get 135 rfl fl_X9_102 (mj_gI_V ex10) ?_
    refine mj_blk k_X9_ok 136 1 (pc' := 272) (l' := [(0, .ref v0)]) (st' := [.ref v0, .int x10]) rfl ?_
    obtain ⟨x11, ex11, hf⟩ := mj_bd hf
    refine mj_get 137 rfl fl_X9_98 (mj_gI_V ex11) ?_
    refine mj_icmp_ge 138 357 rfl (by decide) (fun q => ?_) (fun q => ?_)
    · have hf := (if_pos q).symm.trans hf
      exact w_X9_takes_357 v0 h _ hf
    · have hf := (if_neg q).symm.trans hf
      refine mj_blk k_X9_ok 139 1 (pc' := 279) (l' := [(0, .ref v0)]) (st' := [.ref v0]) rfl ?_
      obtain ⟨x12, ex12, hf⟩ := mj_bd hf
      refine mj_get 140 rfl fl_X9_20 (mj_gR_V ex12) ?_
      refine mj_blk k_X9_ok 141 1 (pc' := 283) (l' := [(0, .ref v0)]) (st' := [.ref v0, .ref x12]) rfl ?_
      obtain ⟨x13, ex13, hf⟩ := mj_bd hf
      refine mj_get 142 rfl fl_X9_102 (mj_gI_V ex13) ?_
      obtain ⟨x14, ex14, hf⟩ := mj_bd hf
      refine mj_iald 143 rfl ex14 ?_
      refine mj_blk k_X9_ok 144 3 (pc' := 294) (l' := [(0, .ref v0)]) (st' := [.long (57 : Int64), .long (48 : Int64), .long ((x14).toInt64)]) rfl ?_
      obtain ⟨p15, ep15, hf⟩ := mj_bd hf
      refine mj_callS mX9_in [.long ((x14).toInt64), .long (48 : Int64), .long (57 : Int64)] 147 rfl ll_X9_53 lb_X9_in li_X9_in ⟨Nat.le_of_ble_eq_true rfl, Nat.le_of_ble_eq_true rfl⟩ rfl (rest := []) rfl (Nat.le_of_ble_eq_true rfl) ⟨Nat.le_of_ble_eq_true rfl, Nat.le_of_ble_eq_true rfl⟩ (c_X9_in ((x14).toInt64) (48 : Int64) (57 : Int64) h p15 ep15) ?_
      show mj_W mX9_takes (mj_FV p) 297 [(0, .ref v0)] [.int p15.1] p15.2 0 0
      refine mj_if_eq 148 357 rfl (by decide) (fun q => ?_) (fun q => ?_)
      · have hf := (if_pos q).symm.trans hf
        exact w_X9_takes_357 v0 p15.2 _ hf
      · have hf := (if_neg q).symm.trans hf
        refine mj_blk k_X9_ok 149 2 (pc' := 302) (l' := [(0, .ref v0)]) (st' := [.ref v0, .ref v0]) rfl ?_
        obtain ⟨x16, ex16, hf⟩ := mj_bd hf
        refine mj_get 151 rfl fl_X9_102 (mj_gI_V ex16) ?_
        refine mj_blk k_X9_ok 152 1 (pc' := 306) (l' := [(0, .ref v0)]) (st' := [.ref v0, .int x16, .ref v0]) rfl ?_
        obtain ⟨x17, ex17, hf⟩ := mj_bd hf
        refine mj_get 153 rfl fl_X9_105 (mj_gI_V ex17) ?_
        refine mj_blk k_X9_ok 154 2 (pc' := 311) (l' := [(0, .ref v0)]) (st' := [.int (2 : Int32), .int (x16 - x17), .ref v0]) rfl ?_
        refine mj_icmp_ge 156 337 rfl (by decide) (fun q => ?_) (fun q => ?_)
        · have hf := (if_pos q).symm.trans hf
          refine mj_blk k_X9_ok 170 1 (pc' := 338) (l' := [(0, .ref v0)]) (st' := [.ref v0, .ref v0]) rfl ?_
          obtain ⟨x18, ex18, hf⟩ := mj_bd hf
          refine mj_get 171 rfl fl_X9_119 (mj_gI_V ex18) ?_
          exact w_X9_takes_341 K259 hK259 v0 v0 x18 p15.2 _ hf
        · have hf := (if_neg q).symm.trans hf
          refine mj_blk k_X9_ok 157 2 (pc' := 317) (l' := [(0, .ref v0)]) (st' := [.ref v0, .int (10 : Int32), .ref v0]) rfl ?_
          obtain ⟨x19, ex19, hf⟩ := mj_bd hf
          refine mj_get 159 rfl fl_X9_119 (mj_gI_V ex19) ?_
          refine mj_blk k_X9_ok 160 2 (pc' := 322) (l' := [(0, .ref v0)]) (st' := [.ref v0, .int ((10 : Int32) * x19), .ref v0]) rfl ?_
          obtain ⟨x20, ex20, hf⟩ := mj_bd hf
          refine mj_get 162 rfl fl_X9_20 (mj_gR_V ex20) ?_
          refine mj_blk k_X9_ok 163 1 (pc' := 326) (l' := [(0, .ref v0)]) (st' := [.ref v0, .ref x20, .int ((10 : Int32) * x19), .ref v0]) rfl ?_
          obtain ⟨x21, ex21, hf⟩ := mj_bd hf
          refine mj_get 164 rfl fl_X9_102 (mj_gI_V ex21) ?_
          obtain ⟨x22, ex22, hf⟩ := mj_bd hf
          refine mj_iald 165 rfl ex22 ?_
          refine mj_blk k_X9_ok 166 4 (pc' := 341) (l' := [(0, .ref v0)]) (st' := [.int ((((10 : Int32) * x19) + x22) - (48 : Int32)), .ref v0]) rfl ?_
          exact w_X9_takes_341 K259 hK259 v0 v0 ((((10 : Int32) * x19) + x22) - (48 : Int32)) p15.2 _ hf
def f_X9_takes_259 (v0 : Nat) (h : mj_H) : Option (mj_H) := mj_fix (fun (K259 : (Nat × mj_H) → Option (mj_H)) (s : Nat × mj_H) => b_X9_takes_259  (fun v0 h => K259 (v0, h)) s.1 s.2) 1000 (v0, h)
set_option maxHeartbeats 4000000 in
set_option maxRecDepth 100000 in
theorem w_X9_takes_259 (v0 : Nat) (h : mj_H) (p : mj_H) (hf : f_X9_takes_259  v0 h = some p) : mj_W mX9_takes (mj_FV p) 259 [(0, .ref v0)] [] h 0 0 := by
  unfold f_X9_takes_259 at hf
  exact mj_fix_ind (F := (fun (K259 : (Nat × mj_H) → Option (mj_H)) (s : Nat × mj_H) => b_X9_takes_259  (fun v0 h => K259 (v0, h)) s.1 s.2)) (P := fun s p => mj_W mX9_takes (mj_FV p) 259 [(0, .ref s.1)] [] s.2 0 0) (fun K259 hK259 s p hf => wb_X9_takes_259   (fun v0 h => K259 (v0, h)) (fun v0 h p e => hK259 (v0, h) p e) s.1 s.2 p hf) 1000 (v0, h) p hf
def f_X9_takes_243 (K162 : Nat → mj_H → Option (mj_H)) (v0 : Nat) (s0 : Nat) (s1 : Int64) (h : mj_H) : Option (mj_H) := (mj_sV h s0 9 13 (.long s1)).bind fun h23 => (mj_gI h23 v0 9 9).bind fun x24 => (mj_sV h23 v0 9 9 (.int (x24 + (1 : Int32)))).bind fun h25 => K162 v0 h25
set_option maxHeartbeats 4000000 in
set_option maxRecDepth 100000 in
theorem w_X9_takes_243 (K162 : Nat → mj_H → Option (mj_H)) (hK162 : ∀ (v0 : Nat)  (h : mj_H) (p : mj_H), K162 v0 h = some p → mj_W mX9_takes (mj_FV p) 162 [(0, .ref v0)] [] h 0 0) (v0 : Nat) (s0 : Nat) (s1 : Int64) (h : mj_H) (p : mj_H) (hf : f_X9_takes_243 K162 v0 s0 s1 h = some p) : mj_W mX9_takes (mj_FV p) 243 [(0, .ref v0)] [.long s1, .ref s0] h 0 0 := by
  unfold f_X9_takes_243 at hf
  obtain ⟨h23, eh23, hf⟩ := mj_bd hf
  refine mj_put 122 rfl fp_X9_122 (fun _ => ⟨rfl, rfl⟩) eh23 ?_
  refine mj_blk k_X9_ok 123 2 (pc' := 248) (l' := [(0, .ref v0)]) (st' := [.ref v0, .ref v0]) rfl ?_
  obtain ⟨x24, ex24, hf⟩ := mj_bd hf
  refine mj_get 125 rfl fl_X9_102 (mj_gI_V ex24) ?_
  refine mj_blk k_X9_ok 126 2 (pc' := 253) (l' := [(0, .ref v0)]) (st' := [.int (x24 + (1 : Int32)), .ref v0]) rfl ?_
  obtain ⟨h25, eh25, hf⟩ := mj_bd hf
  refine mj_put 128 rfl fp_X9_102 (fun _ => ⟨rfl, rfl⟩) eh25 ?_
  refine mj_blk k_X9_ok 129 1 (pc' := 162) (l' := [(0, .ref v0)]) (st' := []) rfl ?_
  exact hK162 v0 h25 _ hf
def b_X9_takes_162 (K162 : Nat → mj_H → Option (mj_H)) (v0 : Nat) (h : mj_H) : Option (mj_H) := (mj_gI h v0 9 11).bind fun x26 => (if x26 = (1 : Int32) then (mj_gI h v0 9 9).bind fun x27 => (mj_gI h v0 9 4).bind fun x28 => (if x28 ≤ x27 then f_X9_takes_259 v0 h else (mj_gR h v0 9 3).bind fun x29 => (mj_gI h v0 9 9).bind fun x30 => (mj_aI h x29 x30).bind fun x31 => (f_X9_in ((x31).toInt64) (97 : Int64) (122 : Int64) h).bind fun p32 => (if p32.1 = 0 then f_X9_takes_259 v0 p32.2 else (mj_gI p32.2 v0 9 9).bind fun x33 => (mj_gI p32.2 v0 9 10).bind fun x34 => (if (7 : Int32) ≤ (x33 - x34) then f_X9_takes_243 K162 v0 v0 (-1 : Int64) p32.2 else (mj_gJ p32.2 v0 9 13).bind fun x35 => (mj_gR p32.2 v0 9 3).bind fun x36 => (mj_gI p32.2 v0 9 9).bind fun x37 => (mj_aI p32.2 x36 x37).bind fun x38 => f_X9_takes_243 K162 v0 v0 ((x35 * (256 : Int64)) + ((x38).toInt64)) p32.2))) else f_X9_takes_259 v0 h)
set_option maxHeartbeats 4000000 in
set_option maxRecDepth 100000 in
theorem wb_X9_takes_162 (K162 : Nat → mj_H → Option (mj_H)) (hK162 : ∀ (v0 : Nat)  (h : mj_H) (p : mj_H), K162 v0 h = some p → mj_W mX9_takes (mj_FV p) 162 [(0, .ref v0)] [] h 0 0) (v0 : Nat) (h : mj_H) (p : mj_H) (hf : b_X9_takes_162  K162 v0 h = some p) : mj_W mX9_takes (mj_FV p) 162 [(0, .ref v0)] [] h 0 0 := by
  unfold b_X9_takes_162 at hf
  refine mj_blk k_X9_ok 82 1 (pc' := 163) (l' := [(0, .ref v0)]) (st' := [.ref v0]) rfl ?_
  obtain ⟨x26, ex26, hf⟩ := mj_bd hf
  refine mj_get 83 rfl fl_X9_116 (mj_gI_V ex26) ?_
  refine mj_blk k_X9_ok 84 1 (pc' := 167) (l' := [(0, .ref v0)]) (st' := [.int (1 : Int32), .int x26]) rfl ?_
  refine mj_icmp_ne 85 259 rfl (by decide) (fun q => ?_) (fun q => ?_)
  · have hf := (if_neg q).symm.trans hf
    exact w_X9_takes_259 v0 h _ hf
  · have hf := (if_pos q).symm.trans hf
    refine mj_blk k_X9_ok 86 1 (pc' := 171) (l' := [(0, .ref v0)]) (st' := [.ref v0]) rfl ?_
    obtain ⟨x27, ex27, hf⟩ := mj_bd hf
    refine mj_get 87 rfl fl_X9_102 (mj_gI_V ex27) ?_
    refine mj_blk k_X9_ok 88 1 (pc' := 175) (l' := [(0, .ref v0)]) (st' := [.ref v0, .int x27]) rfl ?_
    obtain ⟨x28, ex28, hf⟩ := mj_bd hf
    refine mj_get 89 rfl fl_X9_98 (mj_gI_V ex28) ?_
    refine mj_icmp_ge 90 259 rfl (by decide) (fun q => ?_) (fun q => ?_)
    · have hf := (if_pos q).symm.trans hf
      exact w_X9_takes_259 v0 h _ hf
    · have hf := (if_neg q).symm.trans hf
      refine mj_blk k_X9_ok 91 1 (pc' := 182) (l' := [(0, .ref v0)]) (st' := [.ref v0]) rfl ?_
      obtain ⟨x29, ex29, hf⟩ := mj_bd hf
      refine mj_get 92 rfl fl_X9_20 (mj_gR_V ex29) ?_
      refine mj_blk k_X9_ok 93 1 (pc' := 186) (l' := [(0, .ref v0)]) (st' := [.ref v0, .ref x29]) rfl ?_
      obtain ⟨x30, ex30, hf⟩ := mj_bd hf
      refine mj_get 94 rfl fl_X9_102 (mj_gI_V ex30) ?_
      obtain ⟨x31, ex31, hf⟩ := mj_bd hf
      refine mj_iald 95 rfl ex31 ?_
      refine mj_blk k_X9_ok 96 3 (pc' := 197) (l' := [(0, .ref v0)]) (st' := [.long (122 : Int64), .long (97 : Int64), .long ((x31).toInt64)]) rfl ?_
      obtain ⟨p32, ep32, hf⟩ := mj_bd hf
      refine mj_callS mX9_in [.long ((x31).toInt64), .long (97 : Int64), .long (122 : Int64)] 99 rfl ll_X9_53 lb_X9_in li_X9_in ⟨Nat.le_of_ble_eq_true rfl, Nat.le_of_ble_eq_true rfl⟩ rfl (rest := []) rfl (Nat.le_of_ble_eq_true rfl) ⟨Nat.le_of_ble_eq_true rfl, Nat.le_of_ble_eq_true rfl⟩ (c_X9_in ((x31).toInt64) (97 : Int64) (122 : Int64) h p32 ep32) ?_
      show mj_W mX9_takes (mj_FV p) 200 [(0, .ref v0)] [.int p32.1] p32.2 0 0
      refine mj_if_eq 100 259 rfl (by decide) (fun q => ?_) (fun q => ?_)
      · have hf := (if_pos q).symm.trans hf
        exact w_X9_takes_259 v0 p32.2 _ hf
      · have hf := (if_neg q).symm.trans hf
        refine mj_blk k_X9_ok 101 2 (pc' := 205) (l' := [(0, .ref v0)]) (st' := [.ref v0, .ref v0]) rfl ?_
        obtain ⟨x33, ex33, hf⟩ := mj_bd hf
        refine mj_get 103 rfl fl_X9_102 (mj_gI_V ex33) ?_
        refine mj_blk k_X9_ok 104 1 (pc' := 209) (l' := [(0, .ref v0)]) (st' := [.ref v0, .int x33, .ref v0]) rfl ?_
        obtain ⟨x34, ex34, hf⟩ := mj_bd hf
        refine mj_get 105 rfl fl_X9_105 (mj_gI_V ex34) ?_
        refine mj_blk k_X9_ok 106 2 (pc' := 215) (l' := [(0, .ref v0)]) (st' := [.int (7 : Int32), .int (x33 - x34), .ref v0]) rfl ?_
        refine mj_icmp_ge 108 240 rfl (by decide) (fun q => ?_) (fun q => ?_)
        · have hf := (if_pos q).symm.trans hf
          refine mj_blk k_X9_ok 121 1 (pc' := 243) (l' := [(0, .ref v0)]) (st' := [.long (-1 : Int64), .ref v0]) rfl ?_
          exact w_X9_takes_243 K162 hK162 v0 v0 (-1 : Int64) p32.2 _ hf
        · have hf := (if_neg q).symm.trans hf
          refine mj_blk k_X9_ok 109 1 (pc' := 219) (l' := [(0, .ref v0)]) (st' := [.ref v0, .ref v0]) rfl ?_
          obtain ⟨x35, ex35, hf⟩ := mj_bd hf
          refine mj_get 110 rfl fl_X9_122 (mj_gJ_V ex35) ?_
          refine mj_blk k_X9_ok 111 3 (pc' := 227) (l' := [(0, .ref v0)]) (st' := [.ref v0, .long (x35 * (256 : Int64)), .ref v0]) rfl ?_
          obtain ⟨x36, ex36, hf⟩ := mj_bd hf
          refine mj_get 114 rfl fl_X9_20 (mj_gR_V ex36) ?_
          refine mj_blk k_X9_ok 115 1 (pc' := 231) (l' := [(0, .ref v0)]) (st' := [.ref v0, .ref x36, .long (x35 * (256 : Int64)), .ref v0]) rfl ?_
          obtain ⟨x37, ex37, hf⟩ := mj_bd hf
          refine mj_get 116 rfl fl_X9_102 (mj_gI_V ex37) ?_
          obtain ⟨x38, ex38, hf⟩ := mj_bd hf
          refine mj_iald 117 rfl ex38 ?_
          refine mj_blk k_X9_ok 118 3 (pc' := 243) (l' := [(0, .ref v0)]) (st' := [.long ((x35 * (256 : Int64)) + ((x38).toInt64)), .ref v0]) rfl ?_
          exact w_X9_takes_243 K162 hK162 v0 v0 ((x35 * (256 : Int64)) + ((x38).toInt64)) p32.2 _ hf
def f_X9_takes_162 (v0 : Nat) (h : mj_H) : Option (mj_H) := mj_fix (fun (K162 : (Nat × mj_H) → Option (mj_H)) (s : Nat × mj_H) => b_X9_takes_162  (fun v0 h => K162 (v0, h)) s.1 s.2) 1000 (v0, h)
set_option maxHeartbeats 4000000 in
set_option maxRecDepth 100000 in
theorem w_X9_takes_162 (v0 : Nat) (h : mj_H) (p : mj_H) (hf : f_X9_takes_162  v0 h = some p) : mj_W mX9_takes (mj_FV p) 162 [(0, .ref v0)] [] h 0 0 := by
  unfold f_X9_takes_162 at hf
  exact mj_fix_ind (F := (fun (K162 : (Nat × mj_H) → Option (mj_H)) (s : Nat × mj_H) => b_X9_takes_162  (fun v0 h => K162 (v0, h)) s.1 s.2)) (P := fun s p => mj_W mX9_takes (mj_FV p) 162 [(0, .ref s.1)] [] s.2 0 0) (fun K162 hK162 s p hf => wb_X9_takes_162   (fun v0 h => K162 (v0, h)) (fun v0 h p e => hK162 (v0, h) p e) s.1 s.2 p hf) 1000 (v0, h) p hf
def f_X9_takes_158 (v0 : Nat) (s0 : Nat) (s1 : Int32) (s2 : Int32) (h : mj_H) : Option (mj_H) := (mj_sV h s0 9 9 (.int (s1 + s2))).bind fun h39 => f_X9_takes_162 v0 h39
set_option maxHeartbeats 4000000 in
set_option maxRecDepth 100000 in
theorem w_X9_takes_158 (v0 : Nat) (s0 : Nat) (s1 : Int32) (s2 : Int32) (h : mj_H) (p : mj_H) (hf : f_X9_takes_158  v0 s0 s1 s2 h = some p) : mj_W mX9_takes (mj_FV p) 158 [(0, .ref v0)] [.int s2, .int s1, .ref s0] h 0 0 := by
  unfold f_X9_takes_158 at hf
  refine mj_blk k_X9_ok 80 1 (pc' := 159) (l' := [(0, .ref v0)]) (st' := [.int (s1 + s2), .ref s0]) rfl ?_
  obtain ⟨h39, eh39, hf⟩ := mj_bd hf
  refine mj_put 81 rfl fp_X9_102 (fun _ => ⟨rfl, rfl⟩) eh39 ?_
  exact w_X9_takes_162 v0 h39 _ hf
def f_X9_takes_127 (v0 : Nat) (s0 : Nat) (s1 : Int32) (h : mj_H) : Option (mj_H) := (mj_sV h s0 9 11 (.int s1)).bind fun h40 => (mj_sV h40 v0 9 12 (.int (0 : Int32))).bind fun h41 => (mj_sV h41 v0 9 13 (.long (0 : Int64))).bind fun h42 => (mj_gI h42 v0 9 9).bind fun x43 => (mj_gI h42 v0 9 11).bind fun x44 => (if x44 ≤ (2 : Int32) then f_X9_takes_158 v0 v0 x43 (0 : Int32) h42 else f_X9_takes_158 v0 v0 x43 (1 : Int32) h42)
set_option maxHeartbeats 4000000 in
set_option maxRecDepth 100000 in
theorem w_X9_takes_127 (v0 : Nat) (s0 : Nat) (s1 : Int32) (h : mj_H) (p : mj_H) (hf : f_X9_takes_127  v0 s0 s1 h = some p) : mj_W mX9_takes (mj_FV p) 127 [(0, .ref v0)] [.int s1, .ref s0] h 0 0 := by
  unfold f_X9_takes_127 at hf
  obtain ⟨h40, eh40, hf⟩ := mj_bd hf
  refine mj_put 63 rfl fp_X9_116 (fun _ => ⟨rfl, rfl⟩) eh40 ?_
  refine mj_blk k_X9_ok 64 2 (pc' := 132) (l' := [(0, .ref v0)]) (st' := [.int (0 : Int32), .ref v0]) rfl ?_
  obtain ⟨h41, eh41, hf⟩ := mj_bd hf
  refine mj_put 66 rfl fp_X9_119 (fun _ => ⟨rfl, rfl⟩) eh41 ?_
  refine mj_blk k_X9_ok 67 2 (pc' := 137) (l' := [(0, .ref v0)]) (st' := [.long (0 : Int64), .ref v0]) rfl ?_
  obtain ⟨h42, eh42, hf⟩ := mj_bd hf
  refine mj_put 69 rfl fp_X9_122 (fun _ => ⟨rfl, rfl⟩) eh42 ?_
  refine mj_blk k_X9_ok 70 2 (pc' := 142) (l' := [(0, .ref v0)]) (st' := [.ref v0, .ref v0]) rfl ?_
  obtain ⟨x43, ex43, hf⟩ := mj_bd hf
  refine mj_get 72 rfl fl_X9_102 (mj_gI_V ex43) ?_
  refine mj_blk k_X9_ok 73 1 (pc' := 146) (l' := [(0, .ref v0)]) (st' := [.ref v0, .int x43, .ref v0]) rfl ?_
  obtain ⟨x44, ex44, hf⟩ := mj_bd hf
  refine mj_get 74 rfl fl_X9_116 (mj_gI_V ex44) ?_
  refine mj_blk k_X9_ok 75 1 (pc' := 150) (l' := [(0, .ref v0)]) (st' := [.int (2 : Int32), .int x44, .int x43, .ref v0]) rfl ?_
  refine mj_icmp_le 76 157 rfl (by decide) (fun q => ?_) (fun q => ?_)
  · have hf := (if_pos q).symm.trans hf
    refine mj_blk k_X9_ok 79 1 (pc' := 158) (l' := [(0, .ref v0)]) (st' := [.int (0 : Int32), .int x43, .ref v0]) rfl ?_
    exact w_X9_takes_158 v0 v0 x43 (0 : Int32) h42 _ hf
  · have hf := (if_neg q).symm.trans hf
    refine mj_blk k_X9_ok 77 2 (pc' := 158) (l' := [(0, .ref v0)]) (st' := [.int (1 : Int32), .int x43, .ref v0]) rfl ?_
    exact w_X9_takes_158 v0 v0 x43 (1 : Int32) h42 _ hf
def f_X9_takes_70 (v0 : Nat) (s0 : Int32) (h : mj_H) : Option (mj_H) := (if 0 ≤ s0 then (f_X9_in ((s0).toInt64) (97 : Int64) (122 : Int64) h).bind fun p45 => (if p45.1 = 0 then (f_X9_in ((s0).toInt64) (48 : Int64) (57 : Int64) p45.2).bind fun p46 => (if p46.1 = 0 then (if s0 = (59 : Int32) then f_X9_takes_127 v0 v0 (3 : Int32) p46.2 else f_X9_takes_127 v0 v0 (4 : Int32) p46.2) else f_X9_takes_127 v0 v0 (2 : Int32) p46.2) else f_X9_takes_127 v0 v0 (1 : Int32) p45.2) else f_X9_takes_127 v0 v0 (0 : Int32) h)
set_option maxHeartbeats 4000000 in
set_option maxRecDepth 100000 in
theorem w_X9_takes_70 (v0 : Nat) (s0 : Int32) (h : mj_H) (p : mj_H) (hf : f_X9_takes_70  v0 s0 h = some p) : mj_W mX9_takes (mj_FV p) 70 [(0, .ref v0)] [.int s0] h 0 0 := by
  unfold f_X9_takes_70 at hf
  refine mj_blk k_X9_ok 35 3 (pc' := 73) (l' := [(1, .int s0), (0, .ref v0)]) (st' := [.int s0, .ref v0]) rfl ?_
  refine mj_if_ge 38 80 rfl (by decide) (fun q => ?_) (fun q => ?_)
  · have hf := (if_pos q).symm.trans hf
    refine mj_blk k_X9_ok 41 4 (pc' := 88) (l' := [(1, .int s0), (0, .ref v0)]) (st' := [.long (122 : Int64), .long (97 : Int64), .long ((s0).toInt64), .ref v0]) rfl ?_
    obtain ⟨p45, ep45, hf⟩ := mj_bd hf
    refine mj_callS mX9_in [.long ((s0).toInt64), .long (97 : Int64), .long (122 : Int64)] 45 rfl ll_X9_53 lb_X9_in li_X9_in ⟨Nat.le_of_ble_eq_true rfl, Nat.le_of_ble_eq_true rfl⟩ rfl (rest := [.ref v0]) rfl (Nat.le_of_ble_eq_true rfl) ⟨Nat.le_of_ble_eq_true rfl, Nat.le_of_ble_eq_true rfl⟩ (c_X9_in ((s0).toInt64) (97 : Int64) (122 : Int64) h p45 ep45) ?_
    show mj_W mX9_takes (mj_FV p) 91 [(1, .int s0), (0, .ref v0)] [.int p45.1, .ref v0] p45.2 0 0
    refine mj_if_eq 46 98 rfl (by decide) (fun q => ?_) (fun q => ?_)
    · have hf := (if_pos q).symm.trans hf
      refine mj_blk k_X9_ok 49 4 (pc' := 106) (l' := [(1, .int s0), (0, .ref v0)]) (st' := [.long (57 : Int64), .long (48 : Int64), .long ((s0).toInt64), .ref v0]) rfl ?_
      obtain ⟨p46, ep46, hf⟩ := mj_bd hf
      refine mj_callS mX9_in [.long ((s0).toInt64), .long (48 : Int64), .long (57 : Int64)] 53 rfl ll_X9_53 lb_X9_in li_X9_in ⟨Nat.le_of_ble_eq_true rfl, Nat.le_of_ble_eq_true rfl⟩ rfl (rest := [.ref v0]) rfl (Nat.le_of_ble_eq_true rfl) ⟨Nat.le_of_ble_eq_true rfl, Nat.le_of_ble_eq_true rfl⟩ (c_X9_in ((s0).toInt64) (48 : Int64) (57 : Int64) p45.2 p46 ep46) ?_
      show mj_W mX9_takes (mj_FV p) 109 [(1, .int s0), (0, .ref v0)] [.int p46.1, .ref v0] p46.2 0 0
      refine mj_if_eq 54 116 rfl (by decide) (fun q => ?_) (fun q => ?_)
      · have hf := (if_pos q).symm.trans hf
        refine mj_blk k_X9_ok 57 2 (pc' := 119) (l' := [(1, .int s0), (0, .ref v0)]) (st' := [.int (59 : Int32), .int s0, .ref v0]) rfl ?_
        refine mj_icmp_ne 59 126 rfl (by decide) (fun q => ?_) (fun q => ?_)
        · have hf := (if_neg q).symm.trans hf
          refine mj_blk k_X9_ok 62 1 (pc' := 127) (l' := [(1, .int s0), (0, .ref v0)]) (st' := [.int (4 : Int32), .ref v0]) rfl ?_
          refine mj_locs [1] (l' := [(0, .ref v0)]) rfl ?_
          exact w_X9_takes_127 v0 v0 (4 : Int32) p46.2 _ hf
        · have hf := (if_pos q).symm.trans hf
          refine mj_blk k_X9_ok 60 2 (pc' := 127) (l' := [(1, .int s0), (0, .ref v0)]) (st' := [.int (3 : Int32), .ref v0]) rfl ?_
          refine mj_locs [1] (l' := [(0, .ref v0)]) rfl ?_
          exact w_X9_takes_127 v0 v0 (3 : Int32) p46.2 _ hf
      · have hf := (if_neg q).symm.trans hf
        refine mj_blk k_X9_ok 55 2 (pc' := 127) (l' := [(1, .int s0), (0, .ref v0)]) (st' := [.int (2 : Int32), .ref v0]) rfl ?_
        refine mj_locs [1] (l' := [(0, .ref v0)]) rfl ?_
        exact w_X9_takes_127 v0 v0 (2 : Int32) p46.2 _ hf
    · have hf := (if_neg q).symm.trans hf
      refine mj_blk k_X9_ok 47 2 (pc' := 127) (l' := [(1, .int s0), (0, .ref v0)]) (st' := [.int (1 : Int32), .ref v0]) rfl ?_
      refine mj_locs [1] (l' := [(0, .ref v0)]) rfl ?_
      exact w_X9_takes_127 v0 v0 (1 : Int32) p45.2 _ hf
  · have hf := (if_neg q).symm.trans hf
    refine mj_blk k_X9_ok 39 2 (pc' := 127) (l' := [(1, .int s0), (0, .ref v0)]) (st' := [.int (0 : Int32), .ref v0]) rfl ?_
    refine mj_locs [1] (l' := [(0, .ref v0)]) rfl ?_
    exact w_X9_takes_127 v0 v0 (0 : Int32) h _ hf
def f_X9_takes_38 (v0 : Nat) (h : mj_H) : Option (mj_H) := (mj_gI h v0 9 9).bind fun x47 => (mj_sV h v0 9 10 (.int x47)).bind fun h48 => (mj_gI h48 v0 9 9).bind fun x49 => (mj_gI h48 v0 9 4).bind fun x50 => (if x50 ≤ x49 then f_X9_takes_70 v0 (-1 : Int32) h48 else (mj_gR h48 v0 9 3).bind fun x51 => (mj_gI h48 v0 9 9).bind fun x52 => (mj_aI h48 x51 x52).bind fun x53 => f_X9_takes_70 v0 x53 h48)
set_option maxHeartbeats 4000000 in
set_option maxRecDepth 100000 in
theorem w_X9_takes_38 (v0 : Nat) (h : mj_H) (p : mj_H) (hf : f_X9_takes_38  v0 h = some p) : mj_W mX9_takes (mj_FV p) 38 [(0, .ref v0)] [] h 0 0 := by
  unfold f_X9_takes_38 at hf
  refine mj_blk k_X9_ok 19 2 (pc' := 40) (l' := [(0, .ref v0)]) (st' := [.ref v0, .ref v0]) rfl ?_
  obtain ⟨x47, ex47, hf⟩ := mj_bd hf
  refine mj_get 21 rfl fl_X9_102 (mj_gI_V ex47) ?_
  obtain ⟨h48, eh48, hf⟩ := mj_bd hf
  refine mj_put 22 rfl fp_X9_105 (fun _ => ⟨rfl, rfl⟩) eh48 ?_
  refine mj_blk k_X9_ok 23 1 (pc' := 47) (l' := [(0, .ref v0)]) (st' := [.ref v0]) rfl ?_
  obtain ⟨x49, ex49, hf⟩ := mj_bd hf
  refine mj_get 24 rfl fl_X9_102 (mj_gI_V ex49) ?_
  refine mj_blk k_X9_ok 25 1 (pc' := 51) (l' := [(0, .ref v0)]) (st' := [.ref v0, .int x49]) rfl ?_
  obtain ⟨x50, ex50, hf⟩ := mj_bd hf
  refine mj_get 26 rfl fl_X9_98 (mj_gI_V ex50) ?_
  refine mj_icmp_ge 27 69 rfl (by decide) (fun q => ?_) (fun q => ?_)
  · have hf := (if_pos q).symm.trans hf
    refine mj_blk k_X9_ok 34 1 (pc' := 70) (l' := [(0, .ref v0)]) (st' := [.int (-1 : Int32)]) rfl ?_
    exact w_X9_takes_70 v0 (-1 : Int32) h48 _ hf
  · have hf := (if_neg q).symm.trans hf
    refine mj_blk k_X9_ok 28 1 (pc' := 58) (l' := [(0, .ref v0)]) (st' := [.ref v0]) rfl ?_
    obtain ⟨x51, ex51, hf⟩ := mj_bd hf
    refine mj_get 29 rfl fl_X9_20 (mj_gR_V ex51) ?_
    refine mj_blk k_X9_ok 30 1 (pc' := 62) (l' := [(0, .ref v0)]) (st' := [.ref v0, .ref x51]) rfl ?_
    obtain ⟨x52, ex52, hf⟩ := mj_bd hf
    refine mj_get 31 rfl fl_X9_102 (mj_gI_V ex52) ?_
    obtain ⟨x53, ex53, hf⟩ := mj_bd hf
    refine mj_iald 32 rfl ex53 ?_
    refine mj_blk k_X9_ok 33 1 (pc' := 70) (l' := [(0, .ref v0)]) (st' := [.int x53]) rfl ?_
    exact w_X9_takes_70 v0 x53 h48 _ hf
def b_X9_takes_0 (K0 : Nat → mj_H → Option (mj_H)) (v0 : Nat) (h : mj_H) : Option (mj_H) := (mj_gI h v0 9 9).bind fun x54 => (mj_gI h v0 9 4).bind fun x55 => (if x55 ≤ x54 then f_X9_takes_38 v0 h else (mj_gR h v0 9 3).bind fun x56 => (mj_gI h v0 9 9).bind fun x57 => (mj_aI h x56 x57).bind fun x58 => (if x58 = (32 : Int32) then (mj_gI h v0 9 9).bind fun x59 => (mj_sV h v0 9 9 (.int (x59 + (1 : Int32)))).bind fun h60 => K0 v0 h60 else f_X9_takes_38 v0 h))
set_option maxHeartbeats 4000000 in
set_option maxRecDepth 100000 in
theorem wb_X9_takes_0 (K0 : Nat → mj_H → Option (mj_H)) (hK0 : ∀ (v0 : Nat)  (h : mj_H) (p : mj_H), K0 v0 h = some p → mj_W mX9_takes (mj_FV p) 0 [(0, .ref v0)] [] h 0 0) (v0 : Nat) (h : mj_H) (p : mj_H) (hf : b_X9_takes_0  K0 v0 h = some p) : mj_W mX9_takes (mj_FV p) 0 [(0, .ref v0)] [] h 0 0 := by
  unfold b_X9_takes_0 at hf
  refine mj_blk k_X9_ok 0 1 (pc' := 1) (l' := [(0, .ref v0)]) (st' := [.ref v0]) rfl ?_
  obtain ⟨x54, ex54, hf⟩ := mj_bd hf
  refine mj_get 1 rfl fl_X9_102 (mj_gI_V ex54) ?_
  refine mj_blk k_X9_ok 2 1 (pc' := 5) (l' := [(0, .ref v0)]) (st' := [.ref v0, .int x54]) rfl ?_
  obtain ⟨x55, ex55, hf⟩ := mj_bd hf
  refine mj_get 3 rfl fl_X9_98 (mj_gI_V ex55) ?_
  refine mj_icmp_ge 4 38 rfl (by decide) (fun q => ?_) (fun q => ?_)
  · have hf := (if_pos q).symm.trans hf
    exact w_X9_takes_38 v0 h _ hf
  · have hf := (if_neg q).symm.trans hf
    refine mj_blk k_X9_ok 5 1 (pc' := 12) (l' := [(0, .ref v0)]) (st' := [.ref v0]) rfl ?_
    obtain ⟨x56, ex56, hf⟩ := mj_bd hf
    refine mj_get 6 rfl fl_X9_20 (mj_gR_V ex56) ?_
    refine mj_blk k_X9_ok 7 1 (pc' := 16) (l' := [(0, .ref v0)]) (st' := [.ref v0, .ref x56]) rfl ?_
    obtain ⟨x57, ex57, hf⟩ := mj_bd hf
    refine mj_get 8 rfl fl_X9_102 (mj_gI_V ex57) ?_
    obtain ⟨x58, ex58, hf⟩ := mj_bd hf
    refine mj_iald 9 rfl ex58 ?_
    refine mj_blk k_X9_ok 10 1 (pc' := 22) (l' := [(0, .ref v0)]) (st' := [.int (32 : Int32), .int x58]) rfl ?_
    refine mj_icmp_ne 11 38 rfl (by decide) (fun q => ?_) (fun q => ?_)
    · have hf := (if_neg q).symm.trans hf
      exact w_X9_takes_38 v0 h _ hf
    · have hf := (if_pos q).symm.trans hf
      refine mj_blk k_X9_ok 12 2 (pc' := 27) (l' := [(0, .ref v0)]) (st' := [.ref v0, .ref v0]) rfl ?_
      obtain ⟨x59, ex59, hf⟩ := mj_bd hf
      refine mj_get 14 rfl fl_X9_102 (mj_gI_V ex59) ?_
      refine mj_blk k_X9_ok 15 2 (pc' := 32) (l' := [(0, .ref v0)]) (st' := [.int (x59 + (1 : Int32)), .ref v0]) rfl ?_
      obtain ⟨h60, eh60, hf⟩ := mj_bd hf
      refine mj_put 17 rfl fp_X9_102 (fun _ => ⟨rfl, rfl⟩) eh60 ?_
      refine mj_blk k_X9_ok 18 1 (pc' := 0) (l' := [(0, .ref v0)]) (st' := []) rfl ?_
      exact hK0 v0 h60 _ hf
def f_X9_takes_0 (v0 : Nat) (h : mj_H) : Option (mj_H) := mj_fix (fun (K0 : (Nat × mj_H) → Option (mj_H)) (s : Nat × mj_H) => b_X9_takes_0  (fun v0 h => K0 (v0, h)) s.1 s.2) 1000 (v0, h)
set_option maxHeartbeats 4000000 in
set_option maxRecDepth 100000 in
theorem w_X9_takes_0 (v0 : Nat) (h : mj_H) (p : mj_H) (hf : f_X9_takes_0  v0 h = some p) : mj_W mX9_takes (mj_FV p) 0 [(0, .ref v0)] [] h 0 0 := by
  unfold f_X9_takes_0 at hf
  exact mj_fix_ind (F := (fun (K0 : (Nat × mj_H) → Option (mj_H)) (s : Nat × mj_H) => b_X9_takes_0  (fun v0 h => K0 (v0, h)) s.1 s.2)) (P := fun s p => mj_W mX9_takes (mj_FV p) 0 [(0, .ref s.1)] [] s.2 0 0) (fun K0 hK0 s p hf => wb_X9_takes_0   (fun v0 h => K0 (v0, h)) (fun v0 h p e => hK0 (v0, h) p e) s.1 s.2 p hf) 1000 (v0, h) p hf
def f_X9_takes (v0 : Nat) (h : mj_H) : Option (mj_H) := f_X9_takes_0 v0 h
set_option maxHeartbeats 4000000 in
set_option maxRecDepth 100000 in
theorem c_X9_takes (v0 : Nat) (h : mj_H) (p : mj_H) (hf : f_X9_takes v0 h = some p) : mj_Met mX9_takes [.ref v0] h none p := by
  refine mj_met pl_X9 tok_X9_takes (Nat.le_of_ble_eq_true rfl) ?_
  show mj_W mX9_takes (mj_FV p) 0 [(0, .ref v0)] [] h 0 0
  unfold f_X9_takes at hf
  exact w_X9_takes_0 v0 h _ hf
def f_X9_itemOf (v0 : Int64) (h : mj_H) : Option (Int32 × mj_H) := (if v0 = (120351215609202 : Int64) then some ((1 : Int32), h) else (if v0 = (7168366 : Int64) then some ((16 : Int32), h) else (if v0 = (2003792494 : Int64) then some ((22 : Int32), h) else (if v0 = (1885432178 : Int64) then some ((32 : Int32), h) else (if v0 = (2003792484 : Int64) then some ((41 : Int32), h) else some ((-1 : Int32), h))))))
set_option maxHeartbeats 4000000 in
set_option maxRecDepth 100000 in
theorem c_X9_itemOf (v0 : Int64) (h : mj_H) (p : Int32 × mj_H) (hf : f_X9_itemOf v0 h = some p) : mj_Met mX9_itemOf [.long v0] h (some (.int p.1)) p.2 := by
  refine mj_met pl_X9 tok_X9_itemOf (Nat.le_of_ble_eq_true rfl) ?_
  show mj_W mX9_itemOf (mj_FI p) 0 [(0, .long v0)] [] h 0 0
  unfold f_X9_itemOf at hf
  refine mj_blk k_X9_ok 0 2 (pc' := 4) (l' := [(0, .long v0)]) (st' := [.long (120351215609202 : Int64), .long v0]) rfl ?_
  refine mj_lcmp_ne 2 10 rfl rfl (by decide) (fun q => ?_) (fun q => ?_)
  · have hf := (if_neg q).symm.trans hf
    refine mj_blk k_X9_ok 6 2 (pc' := 14) (l' := [(0, .long v0)]) (st' := [.long (7168366 : Int64), .long v0]) rfl ?_
    refine mj_lcmp_ne 8 21 rfl rfl (by decide) (fun q => ?_) (fun q => ?_)
    · have hf := (if_neg q).symm.trans hf
      refine mj_blk k_X9_ok 12 2 (pc' := 25) (l' := [(0, .long v0)]) (st' := [.long (2003792494 : Int64), .long v0]) rfl ?_
      refine mj_lcmp_ne 14 32 rfl rfl (by decide) (fun q => ?_) (fun q => ?_)
      · have hf := (if_neg q).symm.trans hf
        refine mj_blk k_X9_ok 18 2 (pc' := 36) (l' := [(0, .long v0)]) (st' := [.long (1885432178 : Int64), .long v0]) rfl ?_
        refine mj_lcmp_ne 20 43 rfl rfl (by decide) (fun q => ?_) (fun q => ?_)
        · have hf := (if_neg q).symm.trans hf
          refine mj_blk k_X9_ok 24 2 (pc' := 47) (l' := [(0, .long v0)]) (st' := [.long (2003792484 : Int64), .long v0]) rfl ?_
          refine mj_lcmp_ne 26 56 rfl rfl (by decide) (fun q => ?_) (fun q => ?_)
          · have hf := (if_neg q).symm.trans hf
            refine mj_blk k_X9_ok 30 1 (pc' := 57) (l' := [(0, .long v0)]) (st' := [.int (-1 : Int32)]) rfl ?_
            obtain rfl := Option.some.inj hf
            exact mj_end (some (.int (-1 : Int32))) ⟨mj_dec tok_X9_itemOf (a := 31) rfl, .int, rfl, rfl⟩ ⟨rfl, rfl⟩ (Nat.le_of_ble_eq_true rfl) (Nat.le_of_ble_eq_true rfl)
          · have hf := (if_pos q).symm.trans hf
            refine mj_blk k_X9_ok 28 2 (pc' := 57) (l' := [(0, .long v0)]) (st' := [.int (41 : Int32)]) rfl ?_
            obtain rfl := Option.some.inj hf
            exact mj_end (some (.int (41 : Int32))) ⟨mj_dec tok_X9_itemOf (a := 31) rfl, .int, rfl, rfl⟩ ⟨rfl, rfl⟩ (Nat.le_of_ble_eq_true rfl) (Nat.le_of_ble_eq_true rfl)
        · have hf := (if_pos q).symm.trans hf
          refine mj_blk k_X9_ok 22 1 (pc' := 42) (l' := [(0, .long v0)]) (st' := [.int (32 : Int32)]) rfl ?_
          obtain rfl := Option.some.inj hf
          exact mj_end (some (.int (32 : Int32))) ⟨mj_dec tok_X9_itemOf (a := 23) rfl, .int, rfl, rfl⟩ ⟨rfl, rfl⟩ (Nat.le_of_ble_eq_true rfl) (Nat.le_of_ble_eq_true rfl)
      · have hf := (if_pos q).symm.trans hf
        refine mj_blk k_X9_ok 16 1 (pc' := 31) (l' := [(0, .long v0)]) (st' := [.int (22 : Int32)]) rfl ?_
        obtain rfl := Option.some.inj hf
        exact mj_end (some (.int (22 : Int32))) ⟨mj_dec tok_X9_itemOf (a := 17) rfl, .int, rfl, rfl⟩ ⟨rfl, rfl⟩ (Nat.le_of_ble_eq_true rfl) (Nat.le_of_ble_eq_true rfl)
    · have hf := (if_pos q).symm.trans hf
      refine mj_blk k_X9_ok 10 1 (pc' := 20) (l' := [(0, .long v0)]) (st' := [.int (16 : Int32)]) rfl ?_
      obtain rfl := Option.some.inj hf
      exact mj_end (some (.int (16 : Int32))) ⟨mj_dec tok_X9_itemOf (a := 11) rfl, .int, rfl, rfl⟩ ⟨rfl, rfl⟩ (Nat.le_of_ble_eq_true rfl) (Nat.le_of_ble_eq_true rfl)
  · have hf := (if_pos q).symm.trans hf
    refine mj_blk k_X9_ok 4 1 (pc' := 9) (l' := [(0, .long v0)]) (st' := [.int (1 : Int32)]) rfl ?_
    obtain rfl := Option.some.inj hf
    exact mj_end (some (.int (1 : Int32))) ⟨mj_dec tok_X9_itemOf (a := 5) rfl, .int, rfl, rfl⟩ ⟨rfl, rfl⟩ (Nat.le_of_ble_eq_true rfl) (Nat.le_of_ble_eq_true rfl)
def b_X9_reads_100 (K14 : Nat → mj_H → Option (Int32 × mj_H)) (K100 : Nat → Int32 → Int32 → mj_H → Option (Int32 × mj_H)) (v0 : Nat) (v1 : Int32) (v2 : Int32) (h : mj_H) : Option (Int32 × mj_H) := (if (v1 - v1 / (10 : Int32) * (10 : Int32)) ≤ v2 then (if mj_ob h v0 9 = true then (f_X9_takes v0 h).bind fun p1 => (mj_gI p1 v0 9 11).bind fun x2 => (if x2 = (3 : Int32) then (mj_gI p1 v0 9 15).bind fun x3 => (mj_sV p1 v0 9 15 (.int (x3 + (1 : Int32)))).bind fun h4 => (if mj_ob h4 v0 9 = true then (f_X9_takes v0 h4).bind fun p5 => K14 v0 p5 else none) else (mj_gI p1 v0 9 10).bind fun x6 => some (x6, p1)) else none) else (if mj_ob h v0 9 = true then (f_X9_takes v0 h).bind fun p7 => (mj_gI p7 v0 9 11).bind fun x8 => (if x8 = (2 : Int32) then (mj_gR p7 v0 9 14).bind fun x9 => (mj_gI p7 v0 9 15).bind fun x10 => (mj_gI p7 v0 9 12).bind fun x11 => (mj_uI p7 x9 ((((7 : Int32) * x10) + (1 : Int32)) + v2) x11).bind fun h12 => K100 v0 v1 (v2 + (1 : Int32)) h12 else (mj_gI p7 v0 9 10).bind fun x13 => some (x13, p7)) else none))
set_option maxHeartbeats 4000000 in
set_option maxRecDepth 100000 in
theorem wb_X9_reads_100 (K14 : Nat → mj_H → Option (Int32 × mj_H)) (hK14 : ∀ (v0 : Nat)  (h : mj_H) (p : Int32 × mj_H), K14 v0 h = some p → mj_W mX9_reads (mj_FI p) 14 [(0, .ref v0)] [] h 0 0) (K100 : Nat → Int32 → Int32 → mj_H → Option (Int32 × mj_H)) (hK100 : ∀ (v0 : Nat) (v1 : Int32) (v2 : Int32)  (h : mj_H) (p : Int32 × mj_H), K100 v0 v1 v2 h = some p → mj_W mX9_reads (mj_FI p) 100 [(0, .ref v0), (1, .int v1), (2, .int v2)] [] h 0 0) (v0 : Nat) (v1 : Int32) (v2 : Int32) (h : mj_H) (p : Int32 × mj_H) (hf : b_X9_reads_100 K14 K100 v0 v1 v2 h = some p) : mj_W mX9_reads (mj_FI p) 100 [(0, .ref v0), (1, .int v1), (2, .int v2)] [] h 0 0 := by
  unfold b_X9_reads_100 at hf
  refine mj_blk k_X9_ok 54 3 (pc' := 104) (l' := [(0, .ref v0), (1, .int v1), (2, .int v2)]) (st' := [.int (10 : Int32), .int v1, .int v2]) rfl ?_
  refine mj_irem 57 rfl (by decide) ?_
  refine mj_icmp_ge 58 151 rfl (by decide) (fun q => ?_) (fun q => ?_)
  · have hf := (if_pos q).symm.trans hf
    refine mj_blk k_X9_ok 83 1 (pc' := 152) (l' := [(0, .ref v0), (1, .int v1), (2, .int v2)]) (st' := [.ref v0]) rfl ?_
    obtain ⟨gp1, hf⟩ := mj_gd hf
    obtain ⟨p1, ep1, hf⟩ := mj_bd hf
    refine mj_callV (T := TX9) (N := 20) (ci := 9) mX9_takes [] 84 rfl ll_X9_142 lb_X9_takes li_X9_takes ⟨Nat.le_of_ble_eq_true rfl, Nat.le_of_ble_eq_true rfl⟩ rfl gp1 rfl (rest := []) rfl (Nat.le_of_ble_eq_true rfl) ⟨Nat.le_of_ble_eq_true rfl, Nat.le_of_ble_eq_true rfl⟩ (c_X9_takes v0 h p1 ep1) ?_
    show mj_W mX9_reads (mj_FI p) 155 [(0, .ref v0), (1, .int v1), (2, .int v2)] [] p1 0 0
    refine mj_blk k_X9_ok 85 1 (pc' := 156) (l' := [(0, .ref v0), (1, .int v1), (2, .int v2)]) (st' := [.ref v0]) rfl ?_
    obtain ⟨x2, ex2, hf⟩ := mj_bd hf
    refine mj_get 86 rfl fl_X9_116 (mj_gI_V ex2) ?_
    refine mj_blk k_X9_ok 87 1 (pc' := 160) (l' := [(0, .ref v0), (1, .int v1), (2, .int v2)]) (st' := [.int (3 : Int32), .int x2]) rfl ?_
    refine mj_icmp_eq 88 168 rfl (by decide) (fun q => ?_) (fun q => ?_)
    · have hf := (if_pos q).symm.trans hf
      refine mj_blk k_X9_ok 92 2 (pc' := 170) (l' := [(0, .ref v0), (1, .int v1), (2, .int v2)]) (st' := [.ref v0, .ref v0]) rfl ?_
      obtain ⟨x3, ex3, hf⟩ := mj_bd hf
      refine mj_get 94 rfl fl_X9_139 (mj_gI_V ex3) ?_
      refine mj_blk k_X9_ok 95 2 (pc' := 175) (l' := [(0, .ref v0), (1, .int v1), (2, .int v2)]) (st' := [.int (x3 + (1 : Int32)), .ref v0]) rfl ?_
      obtain ⟨h4, eh4, hf⟩ := mj_bd hf
      refine mj_put 97 rfl fp_X9_139 (fun _ => ⟨rfl, rfl⟩) eh4 ?_
      refine mj_blk k_X9_ok 98 1 (pc' := 179) (l' := [(0, .ref v0), (1, .int v1), (2, .int v2)]) (st' := [.ref v0]) rfl ?_
      obtain ⟨gp5, hf⟩ := mj_gd hf
      obtain ⟨p5, ep5, hf⟩ := mj_bd hf
      refine mj_callV (T := TX9) (N := 20) (ci := 9) mX9_takes [] 99 rfl ll_X9_142 lb_X9_takes li_X9_takes ⟨Nat.le_of_ble_eq_true rfl, Nat.le_of_ble_eq_true rfl⟩ rfl gp5 rfl (rest := []) rfl (Nat.le_of_ble_eq_true rfl) ⟨Nat.le_of_ble_eq_true rfl, Nat.le_of_ble_eq_true rfl⟩ (c_X9_takes v0 h4 p5 ep5) ?_
      show mj_W mX9_reads (mj_FI p) 182 [(0, .ref v0), (1, .int v1), (2, .int v2)] [] p5 0 0
      refine mj_blk k_X9_ok 100 1 (pc' := 14) (l' := [(0, .ref v0), (1, .int v1), (2, .int v2)]) (st' := []) rfl ?_
      refine mj_locs [0] (l' := [(0, .ref v0)]) rfl ?_
      exact hK14 v0 p5 _ hf
    · have hf := (if_neg q).symm.trans hf
      refine mj_blk k_X9_ok 89 1 (pc' := 164) (l' := [(0, .ref v0), (1, .int v1), (2, .int v2)]) (st' := [.ref v0]) rfl ?_
      obtain ⟨x6, ex6, hf⟩ := mj_bd hf
      refine mj_get 90 rfl fl_X9_105 (mj_gI_V ex6) ?_
      obtain rfl := Option.some.inj hf
      exact mj_end (some (.int x6)) ⟨mj_dec tok_X9_reads (a := 91) rfl, .int, rfl, rfl⟩ ⟨rfl, rfl⟩ (Nat.le_of_ble_eq_true rfl) (Nat.le_of_ble_eq_true rfl)
  · have hf := (if_neg q).symm.trans hf
    refine mj_blk k_X9_ok 59 1 (pc' := 109) (l' := [(0, .ref v0), (1, .int v1), (2, .int v2)]) (st' := [.ref v0]) rfl ?_
    obtain ⟨gp7, hf⟩ := mj_gd hf
    obtain ⟨p7, ep7, hf⟩ := mj_bd hf
    refine mj_callV (T := TX9) (N := 20) (ci := 9) mX9_takes [] 60 rfl ll_X9_142 lb_X9_takes li_X9_takes ⟨Nat.le_of_ble_eq_true rfl, Nat.le_of_ble_eq_true rfl⟩ rfl gp7 rfl (rest := []) rfl (Nat.le_of_ble_eq_true rfl) ⟨Nat.le_of_ble_eq_true rfl, Nat.le_of_ble_eq_true rfl⟩ (c_X9_takes v0 h p7 ep7) ?_
    show mj_W mX9_reads (mj_FI p) 112 [(0, .ref v0), (1, .int v1), (2, .int v2)] [] p7 0 0
    refine mj_blk k_X9_ok 61 1 (pc' := 113) (l' := [(0, .ref v0), (1, .int v1), (2, .int v2)]) (st' := [.ref v0]) rfl ?_
    obtain ⟨x8, ex8, hf⟩ := mj_bd hf
    refine mj_get 62 rfl fl_X9_116 (mj_gI_V ex8) ?_
    refine mj_blk k_X9_ok 63 1 (pc' := 117) (l' := [(0, .ref v0), (1, .int v1), (2, .int v2)]) (st' := [.int (2 : Int32), .int x8]) rfl ?_
    refine mj_icmp_eq 64 125 rfl (by decide) (fun q => ?_) (fun q => ?_)
    · have hf := (if_pos q).symm.trans hf
      refine mj_blk k_X9_ok 68 1 (pc' := 126) (l' := [(0, .ref v0), (1, .int v1), (2, .int v2)]) (st' := [.ref v0]) rfl ?_
      obtain ⟨x9, ex9, hf⟩ := mj_bd hf
      refine mj_get 69 rfl fl_X9_33 (mj_gR_V ex9) ?_
      refine mj_blk k_X9_ok 70 2 (pc' := 132) (l' := [(0, .ref v0), (1, .int v1), (2, .int v2)]) (st' := [.ref v0, .int (7 : Int32), .ref x9]) rfl ?_
      obtain ⟨x10, ex10, hf⟩ := mj_bd hf
      refine mj_get 72 rfl fl_X9_139 (mj_gI_V ex10) ?_
      refine mj_blk k_X9_ok 73 6 (pc' := 141) (l' := [(0, .ref v0), (1, .int v1), (2, .int v2)]) (st' := [.ref v0, .int ((((7 : Int32) * x10) + (1 : Int32)) + v2), .ref x9]) rfl ?_
      obtain ⟨x11, ex11, hf⟩ := mj_bd hf
      refine mj_get 79 rfl fl_X9_119 (mj_gI_V ex11) ?_
      obtain ⟨h12, eh12, hf⟩ := mj_bd hf
      refine mj_iast 80 rfl eh12 ?_
      refine mj_blk k_X9_ok 81 2 (pc' := 100) (l' := [(2, .int (v2 + (1 : Int32))), (0, .ref v0), (1, .int v1)]) (st' := []) rfl ?_
      refine mj_locs [1, 2, 0] (l' := [(0, .ref v0), (1, .int v1), (2, .int (v2 + (1 : Int32)))]) rfl ?_
      exact hK100 v0 v1 (v2 + (1 : Int32)) h12 _ hf
    · have hf := (if_neg q).symm.trans hf
      refine mj_blk k_X9_ok 65 1 (pc' := 121) (l' := [(0, .ref v0), (1, .int v1), (2, .int v2)]) (st' := [.ref v0]) rfl ?_
      obtain ⟨x13, ex13, hf⟩ := mj_bd hf
      refine mj_get 66 rfl fl_X9_105 (mj_gI_V ex13) ?_
      obtain rfl := Option.some.inj hf
      exact mj_end (some (.int x13)) ⟨mj_dec tok_X9_reads (a := 67) rfl, .int, rfl, rfl⟩ ⟨rfl, rfl⟩ (Nat.le_of_ble_eq_true rfl) (Nat.le_of_ble_eq_true rfl)
def f_X9_reads_100 (K14 : Nat → mj_H → Option (Int32 × mj_H)) (v0 : Nat) (v1 : Int32) (v2 : Int32) (h : mj_H) : Option (Int32 × mj_H) := mj_fix (fun (K100 : (Nat × Int32 × Int32 × mj_H) → Option (Int32 × mj_H)) (s : Nat × Int32 × Int32 × mj_H) => b_X9_reads_100 K14 (fun v0 v1 v2 h => K100 (v0, v1, v2, h)) s.1 s.2.1 s.2.2.1 s.2.2.2) 1000 (v0, v1, v2, h)
set_option maxHeartbeats 4000000 in
set_option maxRecDepth 100000 in
theorem w_X9_reads_100 (K14 : Nat → mj_H → Option (Int32 × mj_H)) (hK14 : ∀ (v0 : Nat)  (h : mj_H) (p : Int32 × mj_H), K14 v0 h = some p → mj_W mX9_reads (mj_FI p) 14 [(0, .ref v0)] [] h 0 0) (v0 : Nat) (v1 : Int32) (v2 : Int32) (h : mj_H) (p : Int32 × mj_H) (hf : f_X9_reads_100 K14 v0 v1 v2 h = some p) : mj_W mX9_reads (mj_FI p) 100 [(0, .ref v0), (1, .int v1), (2, .int v2)] [] h 0 0 := by
  unfold f_X9_reads_100 at hf
  exact mj_fix_ind (F := (fun (K100 : (Nat × Int32 × Int32 × mj_H) → Option (Int32 × mj_H)) (s : Nat × Int32 × Int32 × mj_H) => b_X9_reads_100 K14 (fun v0 v1 v2 h => K100 (v0, v1, v2, h)) s.1 s.2.1 s.2.2.1 s.2.2.2)) (P := fun s p => mj_W mX9_reads (mj_FI p) 100 [(0, .ref s.1), (1, .int s.2.1), (2, .int s.2.2.1)] [] s.2.2.2 0 0) (fun K100 hK100 s p hf => wb_X9_reads_100 K14 hK14 (fun v0 v1 v2 h => K100 (v0, v1, v2, h)) (fun v0 v1 v2 h p e => hK100 (v0, v1, v2, h) p e) s.1 s.2.1 s.2.2.1 s.2.2.2 p hf) 1000 (v0, v1, v2, h) p hf
def f_X9_reads_77 (v0 : Nat) (h : mj_H) : Option (Int32 × mj_H) := (mj_gI h v0 9 10).bind fun x14 => some (x14, h)
set_option maxHeartbeats 4000000 in
set_option maxRecDepth 100000 in
theorem w_X9_reads_77 (v0 : Nat) (h : mj_H) (p : Int32 × mj_H) (hf : f_X9_reads_77  v0 h = some p) : mj_W mX9_reads (mj_FI p) 77 [(0, .ref v0)] [] h 0 0 := by
  unfold f_X9_reads_77 at hf
  refine mj_blk k_X9_ok 39 1 (pc' := 78) (l' := [(0, .ref v0)]) (st' := [.ref v0]) rfl ?_
  obtain ⟨x14, ex14, hf⟩ := mj_bd hf
  refine mj_get 40 rfl fl_X9_105 (mj_gI_V ex14) ?_
  obtain rfl := Option.some.inj hf
  exact mj_end (some (.int x14)) ⟨mj_dec tok_X9_reads (a := 41) rfl, .int, rfl, rfl⟩ ⟨rfl, rfl⟩ (Nat.le_of_ble_eq_true rfl) (Nat.le_of_ble_eq_true rfl)
def f_X9_reads_74 (K14 : Nat → mj_H → Option (Int32 × mj_H)) (v0 : Nat) (v1 : Int32) (s0 : Int32) (s1 : Int32) (h : mj_H) : Option (Int32 × mj_H) := (if s0 = s1 then (mj_gR h v0 9 14).bind fun x15 => (mj_gI h v0 9 15).bind fun x16 => (mj_uI h x15 ((7 : Int32) * x16) (v1 / (10 : Int32))).bind fun h17 => f_X9_reads_100 K14 v0 v1 (0 : Int32) h17 else f_X9_reads_77 v0 h)
set_option maxHeartbeats 4000000 in
set_option maxRecDepth 100000 in
theorem w_X9_reads_74 (K14 : Nat → mj_H → Option (Int32 × mj_H)) (hK14 : ∀ (v0 : Nat)  (h : mj_H) (p : Int32 × mj_H), K14 v0 h = some p → mj_W mX9_reads (mj_FI p) 14 [(0, .ref v0)] [] h 0 0) (v0 : Nat) (v1 : Int32) (s0 : Int32) (s1 : Int32) (h : mj_H) (p : Int32 × mj_H) (hf : f_X9_reads_74 K14 v0 v1 s0 s1 h = some p) : mj_W mX9_reads (mj_FI p) 74 [(0, .ref v0), (1, .int v1)] [.int s1, .int s0] h 0 0 := by
  unfold f_X9_reads_74 at hf
  refine mj_icmp_eq 38 82 rfl (by decide) (fun q => ?_) (fun q => ?_)
  · have hf := (if_pos q).symm.trans hf
    refine mj_blk k_X9_ok 42 1 (pc' := 83) (l' := [(0, .ref v0), (1, .int v1)]) (st' := [.ref v0]) rfl ?_
    obtain ⟨x15, ex15, hf⟩ := mj_bd hf
    refine mj_get 43 rfl fl_X9_33 (mj_gR_V ex15) ?_
    refine mj_blk k_X9_ok 44 2 (pc' := 89) (l' := [(0, .ref v0), (1, .int v1)]) (st' := [.ref v0, .int (7 : Int32), .ref x15]) rfl ?_
    obtain ⟨x16, ex16, hf⟩ := mj_bd hf
    refine mj_get 46 rfl fl_X9_139 (mj_gI_V ex16) ?_
    refine mj_blk k_X9_ok 47 3 (pc' := 96) (l' := [(0, .ref v0), (1, .int v1)]) (st' := [.int (10 : Int32), .int v1, .int ((7 : Int32) * x16), .ref x15]) rfl ?_
    refine mj_idiv 50 rfl (by decide) ?_
    obtain ⟨h17, eh17, hf⟩ := mj_bd hf
    refine mj_iast 51 rfl eh17 ?_
    refine mj_blk k_X9_ok 52 2 (pc' := 100) (l' := [(2, .int (0 : Int32)), (0, .ref v0), (1, .int v1)]) (st' := []) rfl ?_
    refine mj_locs [1, 2, 0] (l' := [(0, .ref v0), (1, .int v1), (2, .int (0 : Int32))]) rfl ?_
    exact w_X9_reads_100 K14 hK14 v0 v1 (0 : Int32) h17 _ hf
  · have hf := (if_neg q).symm.trans hf
    refine mj_locs [0] (l' := [(0, .ref v0)]) rfl ?_
    exact w_X9_reads_77 v0 h _ hf
def f_X9_reads_62 (K14 : Nat → mj_H → Option (Int32 × mj_H)) (v0 : Nat) (v1 : Int32) (s0 : Int32) (h : mj_H) : Option (Int32 × mj_H) := (mj_gI h v0 9 15).bind fun x18 => (if x18 = 0 then f_X9_reads_74 K14 v0 v1 s0 (1 : Int32) h else f_X9_reads_74 K14 v0 v1 s0 (0 : Int32) h)
set_option maxHeartbeats 4000000 in
set_option maxRecDepth 100000 in
theorem w_X9_reads_62 (K14 : Nat → mj_H → Option (Int32 × mj_H)) (hK14 : ∀ (v0 : Nat)  (h : mj_H) (p : Int32 × mj_H), K14 v0 h = some p → mj_W mX9_reads (mj_FI p) 14 [(0, .ref v0)] [] h 0 0) (v0 : Nat) (v1 : Int32) (s0 : Int32) (h : mj_H) (p : Int32 × mj_H) (hf : f_X9_reads_62 K14 v0 v1 s0 h = some p) : mj_W mX9_reads (mj_FI p) 62 [(0, .ref v0), (1, .int v1)] [.int s0] h 0 0 := by
  unfold f_X9_reads_62 at hf
  refine mj_blk k_X9_ok 32 1 (pc' := 63) (l' := [(0, .ref v0), (1, .int v1)]) (st' := [.ref v0, .int s0]) rfl ?_
  obtain ⟨x18, ex18, hf⟩ := mj_bd hf
  refine mj_get 33 rfl fl_X9_139 (mj_gI_V ex18) ?_
  refine mj_if_ne 34 73 rfl (by decide) (fun q => ?_) (fun q => ?_)
  · have hf := (if_neg q).symm.trans hf
    refine mj_blk k_X9_ok 37 1 (pc' := 74) (l' := [(0, .ref v0), (1, .int v1)]) (st' := [.int (0 : Int32), .int s0]) rfl ?_
    exact w_X9_reads_74 K14 hK14 v0 v1 s0 (0 : Int32) h _ hf
  · have hf := (if_pos q).symm.trans hf
    refine mj_blk k_X9_ok 35 2 (pc' := 74) (l' := [(0, .ref v0), (1, .int v1)]) (st' := [.int (1 : Int32), .int s0]) rfl ?_
    exact w_X9_reads_74 K14 hK14 v0 v1 s0 (1 : Int32) h _ hf
def f_X9_reads_47 (K14 : Nat → mj_H → Option (Int32 × mj_H)) (v0 : Nat) (s0 : Int32) (h : mj_H) : Option (Int32 × mj_H) := (if s0 < 0 then f_X9_reads_77 v0 h else (if s0 = (1 : Int32) then f_X9_reads_62 K14 v0 s0 (1 : Int32) h else f_X9_reads_62 K14 v0 s0 (0 : Int32) h))
set_option maxHeartbeats 4000000 in
set_option maxRecDepth 100000 in
theorem w_X9_reads_47 (K14 : Nat → mj_H → Option (Int32 × mj_H)) (hK14 : ∀ (v0 : Nat)  (h : mj_H) (p : Int32 × mj_H), K14 v0 h = some p → mj_W mX9_reads (mj_FI p) 14 [(0, .ref v0)] [] h 0 0) (v0 : Nat) (s0 : Int32) (h : mj_H) (p : Int32 × mj_H) (hf : f_X9_reads_47 K14 v0 s0 h = some p) : mj_W mX9_reads (mj_FI p) 47 [(0, .ref v0)] [.int s0] h 0 0 := by
  unfold f_X9_reads_47 at hf
  refine mj_blk k_X9_ok 23 2 (pc' := 49) (l' := [(1, .int s0), (0, .ref v0)]) (st' := [.int s0]) rfl ?_
  refine mj_if_lt 25 77 rfl (by decide) (fun q => ?_) (fun q => ?_)
  · have hf := (if_pos q).symm.trans hf
    refine mj_locs [1] (l' := [(0, .ref v0)]) rfl ?_
    exact w_X9_reads_77 v0 h _ hf
  · have hf := (if_neg q).symm.trans hf
    refine mj_blk k_X9_ok 26 2 (pc' := 54) (l' := [(1, .int s0), (0, .ref v0)]) (st' := [.int (1 : Int32), .int s0]) rfl ?_
    refine mj_icmp_ne 28 61 rfl (by decide) (fun q => ?_) (fun q => ?_)
    · have hf := (if_neg q).symm.trans hf
      refine mj_blk k_X9_ok 31 1 (pc' := 62) (l' := [(1, .int s0), (0, .ref v0)]) (st' := [.int (0 : Int32)]) rfl ?_
      refine mj_locs [1, 0] (l' := [(0, .ref v0), (1, .int s0)]) rfl ?_
      exact w_X9_reads_62 K14 hK14 v0 s0 (0 : Int32) h _ hf
    · have hf := (if_pos q).symm.trans hf
      refine mj_blk k_X9_ok 29 2 (pc' := 62) (l' := [(1, .int s0), (0, .ref v0)]) (st' := [.int (1 : Int32)]) rfl ?_
      refine mj_locs [1, 0] (l' := [(0, .ref v0), (1, .int s0)]) rfl ?_
      exact w_X9_reads_62 K14 hK14 v0 s0 (1 : Int32) h _ hf
def f_X9_reads_28 (K14 : Nat → mj_H → Option (Int32 × mj_H)) (v0 : Nat) (h : mj_H) : Option (Int32 × mj_H) := (mj_gI h v0 9 11).bind fun x19 => (if x19 = (1 : Int32) then (mj_gJ h v0 9 13).bind fun x20 => (f_X9_itemOf x20 h).bind fun p21 => f_X9_reads_47 K14 v0 p21.1 p21.2 else f_X9_reads_47 K14 v0 (-1 : Int32) h)
set_option maxHeartbeats 4000000 in
set_option maxRecDepth 100000 in
theorem w_X9_reads_28 (K14 : Nat → mj_H → Option (Int32 × mj_H)) (hK14 : ∀ (v0 : Nat)  (h : mj_H) (p : Int32 × mj_H), K14 v0 h = some p → mj_W mX9_reads (mj_FI p) 14 [(0, .ref v0)] [] h 0 0) (v0 : Nat) (h : mj_H) (p : Int32 × mj_H) (hf : f_X9_reads_28 K14 v0 h = some p) : mj_W mX9_reads (mj_FI p) 28 [(0, .ref v0)] [] h 0 0 := by
  unfold f_X9_reads_28 at hf
  refine mj_blk k_X9_ok 14 1 (pc' := 29) (l' := [(0, .ref v0)]) (st' := [.ref v0]) rfl ?_
  obtain ⟨x19, ex19, hf⟩ := mj_bd hf
  refine mj_get 15 rfl fl_X9_116 (mj_gI_V ex19) ?_
  refine mj_blk k_X9_ok 16 1 (pc' := 33) (l' := [(0, .ref v0)]) (st' := [.int (1 : Int32), .int x19]) rfl ?_
  refine mj_icmp_ne 17 46 rfl (by decide) (fun q => ?_) (fun q => ?_)
  · have hf := (if_neg q).symm.trans hf
    refine mj_blk k_X9_ok 22 1 (pc' := 47) (l' := [(0, .ref v0)]) (st' := [.int (-1 : Int32)]) rfl ?_
    exact w_X9_reads_47 K14 hK14 v0 (-1 : Int32) h _ hf
  · have hf := (if_pos q).symm.trans hf
    refine mj_blk k_X9_ok 18 1 (pc' := 37) (l' := [(0, .ref v0)]) (st' := [.ref v0]) rfl ?_
    obtain ⟨x20, ex20, hf⟩ := mj_bd hf
    refine mj_get 19 rfl fl_X9_122 (mj_gJ_V ex20) ?_
    obtain ⟨p21, ep21, hf⟩ := mj_bd hf
    refine mj_callS mX9_itemOf [.long x20] 20 rfl ll_X9_145 lb_X9_itemOf li_X9_itemOf ⟨Nat.le_of_ble_eq_true rfl, Nat.le_of_ble_eq_true rfl⟩ rfl (rest := []) rfl (Nat.le_of_ble_eq_true rfl) ⟨Nat.le_of_ble_eq_true rfl, Nat.le_of_ble_eq_true rfl⟩ (c_X9_itemOf x20 h p21 ep21) ?_
    show mj_W mX9_reads (mj_FI p) 43 [(0, .ref v0)] [.int p21.1] p21.2 0 0
    refine mj_blk k_X9_ok 21 1 (pc' := 47) (l' := [(0, .ref v0)]) (st' := [.int p21.1]) rfl ?_
    exact w_X9_reads_47 K14 hK14 v0 p21.1 p21.2 _ hf
def b_X9_reads_14 (K14 : Nat → mj_H → Option (Int32 × mj_H)) (v0 : Nat) (h : mj_H) : Option (Int32 × mj_H) := (mj_gI h v0 9 11).bind fun x22 => (if x22 = 0 then (mj_gI h v0 9 15).bind fun x23 => (if x23 = 0 then f_X9_reads_28 K14 v0 h else some ((-1 : Int32), h)) else f_X9_reads_28 K14 v0 h)
set_option maxHeartbeats 4000000 in
set_option maxRecDepth 100000 in
theorem wb_X9_reads_14 (K14 : Nat → mj_H → Option (Int32 × mj_H)) (hK14 : ∀ (v0 : Nat)  (h : mj_H) (p : Int32 × mj_H), K14 v0 h = some p → mj_W mX9_reads (mj_FI p) 14 [(0, .ref v0)] [] h 0 0) (v0 : Nat) (h : mj_H) (p : Int32 × mj_H) (hf : b_X9_reads_14  K14 v0 h = some p) : mj_W mX9_reads (mj_FI p) 14 [(0, .ref v0)] [] h 0 0 := by
  unfold b_X9_reads_14 at hf
  refine mj_blk k_X9_ok 8 1 (pc' := 15) (l' := [(0, .ref v0)]) (st' := [.ref v0]) rfl ?_
  obtain ⟨x22, ex22, hf⟩ := mj_bd hf
  refine mj_get 9 rfl fl_X9_116 (mj_gI_V ex22) ?_
  refine mj_if_ne 10 28 rfl (by decide) (fun q => ?_) (fun q => ?_)
  · have hf := (if_neg q).symm.trans hf
    exact w_X9_reads_28 K14 hK14 v0 h _ hf
  · have hf := (if_pos q).symm.trans hf
    refine mj_blk k_X9_ok 11 1 (pc' := 22) (l' := [(0, .ref v0)]) (st' := [.ref v0]) rfl ?_
    obtain ⟨x23, ex23, hf⟩ := mj_bd hf
    refine mj_get 12 rfl fl_X9_139 (mj_gI_V ex23) ?_
    refine mj_if_ne 13 185 rfl (by decide) (fun q => ?_) (fun q => ?_)
    · have hf := (if_neg q).symm.trans hf
      refine mj_blk k_X9_ok 101 1 (pc' := 186) (l' := [(0, .ref v0)]) (st' := [.int (-1 : Int32)]) rfl ?_
      obtain rfl := Option.some.inj hf
      exact mj_end (some (.int (-1 : Int32))) ⟨mj_dec tok_X9_reads (a := 102) rfl, .int, rfl, rfl⟩ ⟨rfl, rfl⟩ (Nat.le_of_ble_eq_true rfl) (Nat.le_of_ble_eq_true rfl)
    · have hf := (if_pos q).symm.trans hf
      exact w_X9_reads_28 K14 hK14 v0 h _ hf
def f_X9_reads_14 (v0 : Nat) (h : mj_H) : Option (Int32 × mj_H) := mj_fix (fun (K14 : (Nat × mj_H) → Option (Int32 × mj_H)) (s : Nat × mj_H) => b_X9_reads_14  (fun v0 h => K14 (v0, h)) s.1 s.2) 1000 (v0, h)
set_option maxHeartbeats 4000000 in
set_option maxRecDepth 100000 in
theorem w_X9_reads_14 (v0 : Nat) (h : mj_H) (p : Int32 × mj_H) (hf : f_X9_reads_14  v0 h = some p) : mj_W mX9_reads (mj_FI p) 14 [(0, .ref v0)] [] h 0 0 := by
  unfold f_X9_reads_14 at hf
  exact mj_fix_ind (F := (fun (K14 : (Nat × mj_H) → Option (Int32 × mj_H)) (s : Nat × mj_H) => b_X9_reads_14  (fun v0 h => K14 (v0, h)) s.1 s.2)) (P := fun s p => mj_W mX9_reads (mj_FI p) 14 [(0, .ref s.1)] [] s.2 0 0) (fun K14 hK14 s p hf => wb_X9_reads_14   (fun v0 h => K14 (v0, h)) (fun v0 h p e => hK14 (v0, h) p e) s.1 s.2 p hf) 1000 (v0, h) p hf
def f_X9_reads (v0 : Nat) (h : mj_H) : Option (Int32 × mj_H) := (mj_sV h v0 9 9 (.int (0 : Int32))).bind fun h24 => (mj_sV h24 v0 9 15 (.int (0 : Int32))).bind fun h25 => (if mj_ob h25 v0 9 = true then (f_X9_takes v0 h25).bind fun p26 => f_X9_reads_14 v0 p26 else none)
set_option maxHeartbeats 4000000 in
set_option maxRecDepth 100000 in
theorem c_X9_reads (v0 : Nat) (h : mj_H) (p : Int32 × mj_H) (hf : f_X9_reads v0 h = some p) : mj_Met mX9_reads [.ref v0] h (some (.int p.1)) p.2 := by
  refine mj_met pl_X9 tok_X9_reads (Nat.le_of_ble_eq_true rfl) ?_
  show mj_W mX9_reads (mj_FI p) 0 [(0, .ref v0)] [] h 0 0
  unfold f_X9_reads at hf
  refine mj_blk k_X9_ok 0 2 (pc' := 2) (l' := [(0, .ref v0)]) (st' := [.int (0 : Int32), .ref v0]) rfl ?_
  obtain ⟨h24, eh24, hf⟩ := mj_bd hf
  refine mj_put 2 rfl fp_X9_102 (fun _ => ⟨rfl, rfl⟩) eh24 ?_
  refine mj_blk k_X9_ok 3 2 (pc' := 7) (l' := [(0, .ref v0)]) (st' := [.int (0 : Int32), .ref v0]) rfl ?_
  obtain ⟨h25, eh25, hf⟩ := mj_bd hf
  refine mj_put 5 rfl fp_X9_139 (fun _ => ⟨rfl, rfl⟩) eh25 ?_
  refine mj_blk k_X9_ok 6 1 (pc' := 11) (l' := [(0, .ref v0)]) (st' := [.ref v0]) rfl ?_
  obtain ⟨gp26, hf⟩ := mj_gd hf
  obtain ⟨p26, ep26, hf⟩ := mj_bd hf
  refine mj_callV (T := TX9) (N := 20) (ci := 9) mX9_takes [] 7 rfl ll_X9_142 lb_X9_takes li_X9_takes ⟨Nat.le_of_ble_eq_true rfl, Nat.le_of_ble_eq_true rfl⟩ rfl gp26 rfl (rest := []) rfl (Nat.le_of_ble_eq_true rfl) ⟨Nat.le_of_ble_eq_true rfl, Nat.le_of_ble_eq_true rfl⟩ (c_X9_takes v0 h25 p26 ep26) ?_
  show mj_W mX9_reads (mj_FI p) 14 [(0, .ref v0)] [] p26 0 0
  exact w_X9_reads_14 v0 p26 _ hf
