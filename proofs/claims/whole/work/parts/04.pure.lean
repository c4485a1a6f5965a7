/-! the pure instructions, by an evaluator -/
def mj_lk : List (Nat × Value) → Nat → Option Value
  | [], _ => none
  | (j, v) :: r, i => match Nat.beq j i with
    | true => some v
    | false => mj_lk r i
def mj_s1 (l : List (Nat × Value)) (i : Nat) (v : Value) : List (Nat × Value) := (i, v) :: l.filter (fun q => !(q.1 == i) && !(q.1 + 1 == i && q.2.category == 2))
def mj_s2 (l : List (Nat × Value)) (i : Nat) (v : Value) : List (Nat × Value) := (i, v) :: l.filter (fun q => !(q.1 == i) && (!(q.1 == i + 1) && !(q.1 + 1 == i && q.2.category == 2)))
theorem mj_lk_mem : ∀ (l : List (Nat × Value)) (i : Nat) (v : Value), mj_lk l i = some v → (i, v) ∈ l
  | [], _, _, h => by cases h
  | (j, w) :: r, i, v, h => by
    unfold mj_lk at h
    split at h
    next e => cases h; rw [Nat.eq_of_beq_eq_true e]; exact List.mem_cons_self
    next e => exact List.mem_cons_of_mem _ (mj_lk_mem r i v h)
theorem mj_lk_real {l : List (Nat × Value)} {i : Nat} {v : Value} (h : mj_lk l i = some v) (ad : Nat → Nat) : (i, mj_v ad v) ∈ mj_l ad l := List.mem_map.mpr ⟨(i, v), mj_lk_mem l i v h, rfl⟩
theorem mj_lk_at {ls : Array Slot} {nL : Nat} {l : List (Nat × Value)} {ad : Nat → Nat} (hl : lv_has ls nL (mj_l ad l)) {i : Nat} {v : Value} (h : mj_lk l i = some v) : ls[i]? = some (.val (mj_v ad v)) := hl.2.2 _ (mj_lk_real h ad)
theorem mj_lk_c {l : List (Nat × Value)} {i n : Nat} {v : Value} (h : mj_lk l i = some v) (hc : ∀ q ∈ l, mj_cv n q.2) : mj_cv n v := hc _ (mj_lk_mem l i v h)
theorem mj_s1_real (l : List (Nat × Value)) (i : Nat) (v : Value) (ad : Nat → Nat) : (i, mj_v ad v) :: (mj_l ad l).filter (fun q => !(q.1 == i) && !(q.1 + 1 == i && q.2.category == 2)) = mj_l ad (mj_s1 l i v) := by
  simp only [mj_l, mj_s1, List.map_cons, List.filter_map]
  congr 2
  exact List.filter_congr fun q _ => by simp [mj_v_cat]
theorem mj_s2_real (l : List (Nat × Value)) (i : Nat) (v : Value) (ad : Nat → Nat) : (i, mj_v ad v) :: (mj_l ad l).filter (fun q => !(q.1 == i) && (!(q.1 == i + 1) && !(q.1 + 1 == i && q.2.category == 2))) = mj_l ad (mj_s2 l i v) := by
  simp only [mj_l, mj_s2, List.map_cons, List.filter_map]
  congr 2
  exact List.filter_congr fun q _ => by simp [mj_v_cat]
theorem mj_s1_c {l : List (Nat × Value)} {i n : Nat} {v : Value} (hl : ∀ q ∈ l, mj_cv n q.2) (hv : mj_cv n v) : ∀ q ∈ mj_s1 l i v, mj_cv n q.2 := by
  intro q hq
  rcases List.mem_cons.mp hq with rfl | hq
  · exact hv
  · exact hl q (List.mem_filter.mp hq).1
theorem mj_s2_c {l : List (Nat × Value)} {i n : Nat} {v : Value} (hl : ∀ q ∈ l, mj_cv n q.2) (hv : mj_cv n v) : ∀ q ∈ mj_s2 l i v, mj_cv n q.2 := by
  intro q hq
  rcases List.mem_cons.mp hq with rfl | hq
  · exact hv
  · exact hl q (List.mem_filter.mp hq).1

def mj_ev (kon : List (Nat × Value)) (nL : Nat) (i : Instr) (n pc : Nat) (l : List (Nat × Value)) (st : List Value) : Option (Nat × List (Nat × Value) × List Value) := match i with
  | .iconst z => if n = 1 then some (pc + 1, l, .int (Int32.ofInt z) :: st) else none
  | .bipush z => if n = 2 then some (pc + 2, l, .int (Int8.ofInt z).toInt32 :: st) else none
  | .sipush z => if n = 3 then some (pc + 3, l, .int (Int16.ofInt z).toInt32 :: st) else none
  | .lconst z => if n = 1 then some (pc + 1, l, .long (Int64.ofNat (z : Nat)) :: st) else none
  | .iload_n k => if n = 1 then (match mj_lk l (k : Nat) with
    | some (.int x) => some (pc + 1, l, .int x :: st)
    | _ => none) else none
  | .iload k => if n = 2 then (match mj_lk l k with
    | some (.int x) => some (pc + 2, l, .int x :: st)
    | _ => none) else none
  | .lload_n k => if n = 1 then (match mj_lk l (k : Nat) with
    | some (.long x) => some (pc + 1, l, .long x :: st)
    | _ => none) else none
  | .lload k => if n = 2 then (match mj_lk l k with
    | some (.long x) => some (pc + 2, l, .long x :: st)
    | _ => none) else none
  | .aload_n k => if n = 1 then (match mj_lk l (k : Nat) with
    | some (.ref x) => some (pc + 1, l, .ref x :: st)
    | _ => none) else none
  | .aload k => if n = 2 then (match mj_lk l k with
    | some (.ref x) => some (pc + 2, l, .ref x :: st)
    | _ => none) else none
  | .istore_n k => if n = 1 then (if (k : Nat) < nL then (match st with
    | .int x :: r => some (pc + 1, mj_s1 l (k : Nat) (.int x), r)
    | _ => none) else none) else none
  | .istore k => if n = 2 then (if k < nL then (match st with
    | .int x :: r => some (pc + 2, mj_s1 l k (.int x), r)
    | _ => none) else none) else none
  | .astore_n k => if n = 1 then (if (k : Nat) < nL then (match st with
    | .ref x :: r => some (pc + 1, mj_s1 l (k : Nat) (.ref x), r)
    | _ => none) else none) else none
  | .astore k => if n = 2 then (if k < nL then (match st with
    | .ref x :: r => some (pc + 2, mj_s1 l k (.ref x), r)
    | _ => none) else none) else none
  | .lstore_n k => if n = 1 then (if (k : Nat) + 1 < nL then (match st with
    | .long x :: r => some (pc + 1, mj_s2 l (k : Nat) (.long x), r)
    | _ => none) else none) else none
  | .lstore k => if n = 2 then (if k + 1 < nL then (match st with
    | .long x :: r => some (pc + 2, mj_s2 l k (.long x), r)
    | _ => none) else none) else none
  | .iinc k z => if n = 3 then (if k < nL then (match mj_lk l k with
    | some (.int x) => some (pc + 3, mj_s1 l k (.int (x + Int32.ofInt z)), st)
    | _ => none) else none) else none
  | .iadd => if n = 1 then (match st with
    | .int y :: .int x :: r => some (pc + 1, l, .int (x + y) :: r)
    | _ => none) else none
  | .isub => if n = 1 then (match st with
    | .int y :: .int x :: r => some (pc + 1, l, .int (x - y) :: r)
    | _ => none) else none
  | .imul => if n = 1 then (match st with
    | .int y :: .int x :: r => some (pc + 1, l, .int (x * y) :: r)
    | _ => none) else none
  | .iand => if n = 1 then (match st with
    | .int y :: .int x :: r => some (pc + 1, l, .int (x &&& y) :: r)
    | _ => none) else none
  | .ior => if n = 1 then (match st with
    | .int y :: .int x :: r => some (pc + 1, l, .int (x ||| y) :: r)
    | _ => none) else none
  | .ixor => if n = 1 then (match st with
    | .int y :: .int x :: r => some (pc + 1, l, .int (x ^^^ y) :: r)
    | _ => none) else none
  | .ladd => if n = 1 then (match st with
    | .long y :: .long x :: r => some (pc + 1, l, .long (x + y) :: r)
    | _ => none) else none
  | .lsub => if n = 1 then (match st with
    | .long y :: .long x :: r => some (pc + 1, l, .long (x - y) :: r)
    | _ => none) else none
  | .lmul => if n = 1 then (match st with
    | .long y :: .long x :: r => some (pc + 1, l, .long (x * y) :: r)
    | _ => none) else none
  | .ishl => if n = 1 then (match st with
    | .int y :: .int x :: r => some (pc + 1, l, .int (x <<< (y &&& 31)) :: r)
    | _ => none) else none
  | .ishr => if n = 1 then (match st with
    | .int y :: .int x :: r => some (pc + 1, l, .int (x >>> (y &&& 31)) :: r)
    | _ => none) else none
  | .iushr => if n = 1 then (match st with
    | .int y :: .int x :: r => some (pc + 1, l, .int ((x.toUInt32 >>> (y.toUInt32 &&& Int32.toUInt32 31)).toInt32) :: r)
    | _ => none) else none
  | .i2l => if n = 1 then (match st with
    | .int x :: r => some (pc + 1, l, .long (x.toInt64) :: r)
    | _ => none) else none
  | .l2i => if n = 1 then (match st with
    | .long x :: r => some (pc + 1, l, .int (x.toInt32) :: r)
    | _ => none) else none
  | .i2c => if n = 1 then (match st with
    | .int x :: r => some (pc + 1, l, .int ((x.toUInt32 % 65536).toInt32) :: r)
    | _ => none) else none
  | .ineg => if n = 1 then (match st with
    | .int x :: r => some (pc + 1, l, .int (-x) :: r)
    | _ => none) else none
  | .dup => if n = 1 then (match st with
    | v :: r => if v.category = 1 then some (pc + 1, l, v :: v :: r) else none
    | _ => none) else none
  | .pop => if n = 1 then (match st with
    | v :: r => if v.category = 1 then some (pc + 1, l, r) else none
    | _ => none) else none
  | .pop2 => if n = 1 then (match st with
    | v :: r => if v.category = 2 then some (pc + 1, l, r) else none
    | _ => none) else none
  | .dup2 => if n = 1 then (match st with
    | v :: r => if v.category = 2 then some (pc + 1, l, v :: v :: r) else (match r with
      | w :: q => if w.category = 1 then some (pc + 1, l, v :: w :: v :: w :: q) else none
      | _ => none)
    | _ => none) else none
  | .goto off => if n = 3 then (match ((pc : Int) + off) with
    | .ofNat t => some (t, l, st)
    | _ => none) else none
  | .ldc k => if n = 2 then (match mj_lk kon k with
    | some (.int x) => some (pc + 2, l, .int x :: st)
    | _ => none) else none
  | .ldc_w k => if n = 3 then (match mj_lk kon k with
    | some (.int x) => some (pc + 3, l, .int x :: st)
    | _ => none) else none
  | .ldc2_w k => if n = 3 then (match mj_lk kon k with
    | some (.long x) => some (pc + 3, l, .long x :: st)
    | _ => none) else none
  | _ => none
theorem mj_e_iconst {p : Program} {lc : Launch} {e : Env} {R : Room} {s : State} {m : MethodId} {args : Array Value} {below : List Frame} {meth : Method} {c : Code} {H : Heap} {locs : List Loc} {cells slots : Nat} {Q : State → Prop} {cc : ByteArray} {ls : Array Slot} {ad : Nat → Nat} {N : Nat} {own : String} {kon : List (Nat × Value)} {nL n pc pc' : Nat} {l l' : List (Nat × Value)} {st st' : List Value} {z : Int} (hx : p.tables.exec = Jvm.exec) (hb : c.code = cc) (hown : s.vm.findClass own = some m.cls) (hkon : ∀ i v, mj_lk kon i = some v → (∃ x, v = .int x ∧ (Jvm.Cond.constant own i x).before args s = true) ∨ ∃ x, v = .long x ∧ (Jvm.Cond.constantLong own i x).before args s = true)
    (hl : lv_has ls nL (mj_l ad l)) (hcl : ∀ q ∈ l, mj_cv N q.2) (hcs : ∀ v ∈ st, mj_cv N v) (hd : decode cc pc = .ok (.iconst z, n)) (h : mj_ev kon nL (.iconst z) n pc l st = some (pc', l', st'))
    (kk : ∀ ls', lv_has ls' nL (mj_l ad l') → (∀ q ∈ l', mj_cv N q.2) → (∀ v ∈ st', mj_cv N v) → W p lc e R s m args below meth c H locs cells slots Q (F0 m pc' ls' (st'.map (mj_v ad)))) : W p lc e R s m args below meth c H locs cells slots Q (F0 m pc ls (st.map (mj_v ad))) := by
  unfold mj_ev at h
  dsimp only at h
  split at h
  next hn =>
    subst hn
    cases h
    exact lv_iconst hx hb hd rfl (kk ls hl hcl (fun v hv => by rcases List.mem_cons.mp hv with rfl | hv; trivial; exact hcs v hv))
  next => cases h

theorem mj_e_bipush {p : Program} {lc : Launch} {e : Env} {R : Room} {s : State} {m : MethodId} {args : Array Value} {below : List Frame} {meth : Method} {c : Code} {H : Heap} {locs : List Loc} {cells slots : Nat} {Q : State → Prop} {cc : ByteArray} {ls : Array Slot} {ad : Nat → Nat} {N : Nat} {own : String} {kon : List (Nat × Value)} {nL n pc pc' : Nat} {l l' : List (Nat × Value)} {st st' : List Value} {z : Int} (hx : p.tables.exec = Jvm.exec) (hb : c.code = cc) (hown : s.vm.findClass own = some m.cls) (hkon : ∀ i v, mj_lk kon i = some v → (∃ x, v = .int x ∧ (Jvm.Cond.constant own i x).before args s = true) ∨ ∃ x, v = .long x ∧ (Jvm.Cond.constantLong own i x).before args s = true)
    (hl : lv_has ls nL (mj_l ad l)) (hcl : ∀ q ∈ l, mj_cv N q.2) (hcs : ∀ v ∈ st, mj_cv N v) (hd : decode cc pc = .ok (.bipush z, n)) (h : mj_ev kon nL (.bipush z) n pc l st = some (pc', l', st'))
    (kk : ∀ ls', lv_has ls' nL (mj_l ad l') → (∀ q ∈ l', mj_cv N q.2) → (∀ v ∈ st', mj_cv N v) → W p lc e R s m args below meth c H locs cells slots Q (F0 m pc' ls' (st'.map (mj_v ad)))) : W p lc e R s m args below meth c H locs cells slots Q (F0 m pc ls (st.map (mj_v ad))) := by
  unfold mj_ev at h
  dsimp only at h
  split at h
  next hn =>
    subst hn
    cases h
    exact lv_bipush hx hb hd rfl (kk ls hl hcl (fun v hv => by rcases List.mem_cons.mp hv with rfl | hv; trivial; exact hcs v hv))
  next => cases h

theorem mj_e_sipush {p : Program} {lc : Launch} {e : Env} {R : Room} {s : State} {m : MethodId} {args : Array Value} {below : List Frame} {meth : Method} {c : Code} {H : Heap} {locs : List Loc} {cells slots : Nat} {Q : State → Prop} {cc : ByteArray} {ls : Array Slot} {ad : Nat → Nat} {N : Nat} {own : String} {kon : List (Nat × Value)} {nL n pc pc' : Nat} {l l' : List (Nat × Value)} {st st' : List Value} {z : Int} (hx : p.tables.exec = Jvm.exec) (hb : c.code = cc) (hown : s.vm.findClass own = some m.cls) (hkon : ∀ i v, mj_lk kon i = some v → (∃ x, v = .int x ∧ (Jvm.Cond.constant own i x).before args s = true) ∨ ∃ x, v = .long x ∧ (Jvm.Cond.constantLong own i x).before args s = true)
    (hl : lv_has ls nL (mj_l ad l)) (hcl : ∀ q ∈ l, mj_cv N q.2) (hcs : ∀ v ∈ st, mj_cv N v) (hd : decode cc pc = .ok (.sipush z, n)) (h : mj_ev kon nL (.sipush z) n pc l st = some (pc', l', st'))
    (kk : ∀ ls', lv_has ls' nL (mj_l ad l') → (∀ q ∈ l', mj_cv N q.2) → (∀ v ∈ st', mj_cv N v) → W p lc e R s m args below meth c H locs cells slots Q (F0 m pc' ls' (st'.map (mj_v ad)))) : W p lc e R s m args below meth c H locs cells slots Q (F0 m pc ls (st.map (mj_v ad))) := by
  unfold mj_ev at h
  dsimp only at h
  split at h
  next hn =>
    subst hn
    cases h
    exact lv_sipush hx hb hd rfl (kk ls hl hcl (fun v hv => by rcases List.mem_cons.mp hv with rfl | hv; trivial; exact hcs v hv))
  next => cases h

theorem mj_e_lconst {p : Program} {lc : Launch} {e : Env} {R : Room} {s : State} {m : MethodId} {args : Array Value} {below : List Frame} {meth : Method} {c : Code} {H : Heap} {locs : List Loc} {cells slots : Nat} {Q : State → Prop} {cc : ByteArray} {ls : Array Slot} {ad : Nat → Nat} {N : Nat} {own : String} {kon : List (Nat × Value)} {nL n pc pc' : Nat} {l l' : List (Nat × Value)} {st st' : List Value} {z : Fin 2} (hx : p.tables.exec = Jvm.exec) (hb : c.code = cc) (hown : s.vm.findClass own = some m.cls) (hkon : ∀ i v, mj_lk kon i = some v → (∃ x, v = .int x ∧ (Jvm.Cond.constant own i x).before args s = true) ∨ ∃ x, v = .long x ∧ (Jvm.Cond.constantLong own i x).before args s = true)
    (hl : lv_has ls nL (mj_l ad l)) (hcl : ∀ q ∈ l, mj_cv N q.2) (hcs : ∀ v ∈ st, mj_cv N v) (hd : decode cc pc = .ok (.lconst z, n)) (h : mj_ev kon nL (.lconst z) n pc l st = some (pc', l', st'))
    (kk : ∀ ls', lv_has ls' nL (mj_l ad l') → (∀ q ∈ l', mj_cv N q.2) → (∀ v ∈ st', mj_cv N v) → W p lc e R s m args below meth c H locs cells slots Q (F0 m pc' ls' (st'.map (mj_v ad)))) : W p lc e R s m args below meth c H locs cells slots Q (F0 m pc ls (st.map (mj_v ad))) := by
  unfold mj_ev at h
  dsimp only at h
  split at h
  next hn =>
    subst hn
    cases h
    exact lv_lconst hx hb hd rfl (kk ls hl hcl (fun v hv => by rcases List.mem_cons.mp hv with rfl | hv; trivial; exact hcs v hv))
  next => cases h

theorem mj_e_iload_n {p : Program} {lc : Launch} {e : Env} {R : Room} {s : State} {m : MethodId} {args : Array Value} {below : List Frame} {meth : Method} {c : Code} {H : Heap} {locs : List Loc} {cells slots : Nat} {Q : State → Prop} {cc : ByteArray} {ls : Array Slot} {ad : Nat → Nat} {N : Nat} {own : String} {kon : List (Nat × Value)} {nL n pc pc' : Nat} {l l' : List (Nat × Value)} {st st' : List Value} {k : Fin 4} (hx : p.tables.exec = Jvm.exec) (hb : c.code = cc) (hown : s.vm.findClass own = some m.cls) (hkon : ∀ i v, mj_lk kon i = some v → (∃ x, v = .int x ∧ (Jvm.Cond.constant own i x).before args s = true) ∨ ∃ x, v = .long x ∧ (Jvm.Cond.constantLong own i x).before args s = true)
    (hl : lv_has ls nL (mj_l ad l)) (hcl : ∀ q ∈ l, mj_cv N q.2) (hcs : ∀ v ∈ st, mj_cv N v) (hd : decode cc pc = .ok (.iload_n k, n)) (h : mj_ev kon nL (.iload_n k) n pc l st = some (pc', l', st'))
    (kk : ∀ ls', lv_has ls' nL (mj_l ad l') → (∀ q ∈ l', mj_cv N q.2) → (∀ v ∈ st', mj_cv N v) → W p lc e R s m args below meth c H locs cells slots Q (F0 m pc' ls' (st'.map (mj_v ad)))) : W p lc e R s m args below meth c H locs cells slots Q (F0 m pc ls (st.map (mj_v ad))) := by
  unfold mj_ev at h
  dsimp only at h
  split at h
  next hn =>
    subst hn
    split at h
    next x hg =>
      cases h
      exact lv_iload_n hx hb hd rfl (mj_lk_at hl hg) (kk ls hl hcl (fun v hv => by rcases List.mem_cons.mp hv with rfl | hv; exact mj_lk_c hg hcl; exact hcs v hv))
    next => cases h
  next => cases h

theorem mj_e_iload {p : Program} {lc : Launch} {e : Env} {R : Room} {s : State} {m : MethodId} {args : Array Value} {below : List Frame} {meth : Method} {c : Code} {H : Heap} {locs : List Loc} {cells slots : Nat} {Q : State → Prop} {cc : ByteArray} {ls : Array Slot} {ad : Nat → Nat} {N : Nat} {own : String} {kon : List (Nat × Value)} {nL n pc pc' : Nat} {l l' : List (Nat × Value)} {st st' : List Value} {k : Nat} (hx : p.tables.exec = Jvm.exec) (hb : c.code = cc) (hown : s.vm.findClass own = some m.cls) (hkon : ∀ i v, mj_lk kon i = some v → (∃ x, v = .int x ∧ (Jvm.Cond.constant own i x).before args s = true) ∨ ∃ x, v = .long x ∧ (Jvm.Cond.constantLong own i x).before args s = true)
    (hl : lv_has ls nL (mj_l ad l)) (hcl : ∀ q ∈ l, mj_cv N q.2) (hcs : ∀ v ∈ st, mj_cv N v) (hd : decode cc pc = .ok (.iload k, n)) (h : mj_ev kon nL (.iload k) n pc l st = some (pc', l', st'))
    (kk : ∀ ls', lv_has ls' nL (mj_l ad l') → (∀ q ∈ l', mj_cv N q.2) → (∀ v ∈ st', mj_cv N v) → W p lc e R s m args below meth c H locs cells slots Q (F0 m pc' ls' (st'.map (mj_v ad)))) : W p lc e R s m args below meth c H locs cells slots Q (F0 m pc ls (st.map (mj_v ad))) := by
  unfold mj_ev at h
  dsimp only at h
  split at h
  next hn =>
    subst hn
    split at h
    next x hg =>
      cases h
      exact lv_iload hx hb hd (mj_lk_at hl hg) (kk ls hl hcl (fun v hv => by rcases List.mem_cons.mp hv with rfl | hv; exact mj_lk_c hg hcl; exact hcs v hv))
    next => cases h
  next => cases h

theorem mj_e_lload_n {p : Program} {lc : Launch} {e : Env} {R : Room} {s : State} {m : MethodId} {args : Array Value} {below : List Frame} {meth : Method} {c : Code} {H : Heap} {locs : List Loc} {cells slots : Nat} {Q : State → Prop} {cc : ByteArray} {ls : Array Slot} {ad : Nat → Nat} {N : Nat} {own : String} {kon : List (Nat × Value)} {nL n pc pc' : Nat} {l l' : List (Nat × Value)} {st st' : List Value} {k : Fin 4} (hx : p.tables.exec = Jvm.exec) (hb : c.code = cc) (hown : s.vm.findClass own = some m.cls) (hkon : ∀ i v, mj_lk kon i = some v → (∃ x, v = .int x ∧ (Jvm.Cond.constant own i x).before args s = true) ∨ ∃ x, v = .long x ∧ (Jvm.Cond.constantLong own i x).before args s = true)
    (hl : lv_has ls nL (mj_l ad l)) (hcl : ∀ q ∈ l, mj_cv N q.2) (hcs : ∀ v ∈ st, mj_cv N v) (hd : decode cc pc = .ok (.lload_n k, n)) (h : mj_ev kon nL (.lload_n k) n pc l st = some (pc', l', st'))
    (kk : ∀ ls', lv_has ls' nL (mj_l ad l') → (∀ q ∈ l', mj_cv N q.2) → (∀ v ∈ st', mj_cv N v) → W p lc e R s m args below meth c H locs cells slots Q (F0 m pc' ls' (st'.map (mj_v ad)))) : W p lc e R s m args below meth c H locs cells slots Q (F0 m pc ls (st.map (mj_v ad))) := by
  unfold mj_ev at h
  dsimp only at h
  split at h
  next hn =>
    subst hn
    split at h
    next x hg =>
      cases h
      exact lv_lload_n hx hb hd rfl (mj_lk_at hl hg) (kk ls hl hcl (fun v hv => by rcases List.mem_cons.mp hv with rfl | hv; exact mj_lk_c hg hcl; exact hcs v hv))
    next => cases h
  next => cases h

theorem mj_e_lload {p : Program} {lc : Launch} {e : Env} {R : Room} {s : State} {m : MethodId} {args : Array Value} {below : List Frame} {meth : Method} {c : Code} {H : Heap} {locs : List Loc} {cells slots : Nat} {Q : State → Prop} {cc : ByteArray} {ls : Array Slot} {ad : Nat → Nat} {N : Nat} {own : String} {kon : List (Nat × Value)} {nL n pc pc' : Nat} {l l' : List (Nat × Value)} {st st' : List Value} {k : Nat} (hx : p.tables.exec = Jvm.exec) (hb : c.code = cc) (hown : s.vm.findClass own = some m.cls) (hkon : ∀ i v, mj_lk kon i = some v → (∃ x, v = .int x ∧ (Jvm.Cond.constant own i x).before args s = true) ∨ ∃ x, v = .long x ∧ (Jvm.Cond.constantLong own i x).before args s = true)
    (hl : lv_has ls nL (mj_l ad l)) (hcl : ∀ q ∈ l, mj_cv N q.2) (hcs : ∀ v ∈ st, mj_cv N v) (hd : decode cc pc = .ok (.lload k, n)) (h : mj_ev kon nL (.lload k) n pc l st = some (pc', l', st'))
    (kk : ∀ ls', lv_has ls' nL (mj_l ad l') → (∀ q ∈ l', mj_cv N q.2) → (∀ v ∈ st', mj_cv N v) → W p lc e R s m args below meth c H locs cells slots Q (F0 m pc' ls' (st'.map (mj_v ad)))) : W p lc e R s m args below meth c H locs cells slots Q (F0 m pc ls (st.map (mj_v ad))) := by
  unfold mj_ev at h
  dsimp only at h
  split at h
  next hn =>
    subst hn
    split at h
    next x hg =>
      cases h
      exact lv_lload hx hb hd (mj_lk_at hl hg) (kk ls hl hcl (fun v hv => by rcases List.mem_cons.mp hv with rfl | hv; exact mj_lk_c hg hcl; exact hcs v hv))
    next => cases h
  next => cases h

theorem mj_e_aload_n {p : Program} {lc : Launch} {e : Env} {R : Room} {s : State} {m : MethodId} {args : Array Value} {below : List Frame} {meth : Method} {c : Code} {H : Heap} {locs : List Loc} {cells slots : Nat} {Q : State → Prop} {cc : ByteArray} {ls : Array Slot} {ad : Nat → Nat} {N : Nat} {own : String} {kon : List (Nat × Value)} {nL n pc pc' : Nat} {l l' : List (Nat × Value)} {st st' : List Value} {k : Fin 4} (hx : p.tables.exec = Jvm.exec) (hb : c.code = cc) (hown : s.vm.findClass own = some m.cls) (hkon : ∀ i v, mj_lk kon i = some v → (∃ x, v = .int x ∧ (Jvm.Cond.constant own i x).before args s = true) ∨ ∃ x, v = .long x ∧ (Jvm.Cond.constantLong own i x).before args s = true)
    (hl : lv_has ls nL (mj_l ad l)) (hcl : ∀ q ∈ l, mj_cv N q.2) (hcs : ∀ v ∈ st, mj_cv N v) (hd : decode cc pc = .ok (.aload_n k, n)) (h : mj_ev kon nL (.aload_n k) n pc l st = some (pc', l', st'))
    (kk : ∀ ls', lv_has ls' nL (mj_l ad l') → (∀ q ∈ l', mj_cv N q.2) → (∀ v ∈ st', mj_cv N v) → W p lc e R s m args below meth c H locs cells slots Q (F0 m pc' ls' (st'.map (mj_v ad)))) : W p lc e R s m args below meth c H locs cells slots Q (F0 m pc ls (st.map (mj_v ad))) := by
  unfold mj_ev at h
  dsimp only at h
  split at h
  next hn =>
    subst hn
    split at h
    next x hg =>
      cases h
      exact lv_aload_n hx hb hd rfl (mj_lk_at hl hg) (kk ls hl hcl (fun v hv => by rcases List.mem_cons.mp hv with rfl | hv; exact mj_lk_c hg hcl; exact hcs v hv))
    next => cases h
  next => cases h

theorem mj_e_aload {p : Program} {lc : Launch} {e : Env} {R : Room} {s : State} {m : MethodId} {args : Array Value} {below : List Frame} {meth : Method} {c : Code} {H : Heap} {locs : List Loc} {cells slots : Nat} {Q : State → Prop} {cc : ByteArray} {ls : Array Slot} {ad : Nat → Nat} {N : Nat} {own : String} {kon : List (Nat × Value)} {nL n pc pc' : Nat} {l l' : List (Nat × Value)} {st st' : List Value} {k : Nat} (hx : p.tables.exec = Jvm.exec) (hb : c.code = cc) (hown : s.vm.findClass own = some m.cls) (hkon : ∀ i v, mj_lk kon i = some v → (∃ x, v = .int x ∧ (Jvm.Cond.constant own i x).before args s = true) ∨ ∃ x, v = .long x ∧ (Jvm.Cond.constantLong own i x).before args s = true)
    (hl : lv_has ls nL (mj_l ad l)) (hcl : ∀ q ∈ l, mj_cv N q.2) (hcs : ∀ v ∈ st, mj_cv N v) (hd : decode cc pc = .ok (.aload k, n)) (h : mj_ev kon nL (.aload k) n pc l st = some (pc', l', st'))
    (kk : ∀ ls', lv_has ls' nL (mj_l ad l') → (∀ q ∈ l', mj_cv N q.2) → (∀ v ∈ st', mj_cv N v) → W p lc e R s m args below meth c H locs cells slots Q (F0 m pc' ls' (st'.map (mj_v ad)))) : W p lc e R s m args below meth c H locs cells slots Q (F0 m pc ls (st.map (mj_v ad))) := by
  unfold mj_ev at h
  dsimp only at h
  split at h
  next hn =>
    subst hn
    split at h
    next x hg =>
      cases h
      exact lv_aload hx hb hd (mj_lk_at hl hg) (kk ls hl hcl (fun v hv => by rcases List.mem_cons.mp hv with rfl | hv; exact mj_lk_c hg hcl; exact hcs v hv))
    next => cases h
  next => cases h

theorem mj_e_istore_n {p : Program} {lc : Launch} {e : Env} {R : Room} {s : State} {m : MethodId} {args : Array Value} {below : List Frame} {meth : Method} {c : Code} {H : Heap} {locs : List Loc} {cells slots : Nat} {Q : State → Prop} {cc : ByteArray} {ls : Array Slot} {ad : Nat → Nat} {N : Nat} {own : String} {kon : List (Nat × Value)} {nL n pc pc' : Nat} {l l' : List (Nat × Value)} {st st' : List Value} {k : Fin 4} (hx : p.tables.exec = Jvm.exec) (hb : c.code = cc) (hown : s.vm.findClass own = some m.cls) (hkon : ∀ i v, mj_lk kon i = some v → (∃ x, v = .int x ∧ (Jvm.Cond.constant own i x).before args s = true) ∨ ∃ x, v = .long x ∧ (Jvm.Cond.constantLong own i x).before args s = true)
    (hl : lv_has ls nL (mj_l ad l)) (hcl : ∀ q ∈ l, mj_cv N q.2) (hcs : ∀ v ∈ st, mj_cv N v) (hd : decode cc pc = .ok (.istore_n k, n)) (h : mj_ev kon nL (.istore_n k) n pc l st = some (pc', l', st'))
    (kk : ∀ ls', lv_has ls' nL (mj_l ad l') → (∀ q ∈ l', mj_cv N q.2) → (∀ v ∈ st', mj_cv N v) → W p lc e R s m args below meth c H locs cells slots Q (F0 m pc' ls' (st'.map (mj_v ad)))) : W p lc e R s m args below meth c H locs cells slots Q (F0 m pc ls (st.map (mj_v ad))) := by
  unfold mj_ev at h
  dsimp only at h
  split at h
  next hn =>
    subst hn
    split at h
    next hb2 =>
      split at h
      next x r =>
        cases h
        have hx0 : mj_cv N (.int x) := hcs _ List.mem_cons_self
        exact lv_istore_n (lv' := mj_l ad (mj_s1 l (k : Nat) (.int x))) hx hb hd rfl hl hb2 (mj_s1_real l (k : Nat) (.int x) ad) (fun ls' hl' => kk ls' hl' (mj_s1_c hcl hx0) (fun v hv => hcs v (List.mem_cons_of_mem _ hv)))
      next => cases h
    next => cases h
  next => cases h

theorem mj_e_istore {p : Program} {lc : Launch} {e : Env} {R : Room} {s : State} {m : MethodId} {args : Array Value} {below : List Frame} {meth : Method} {c : Code} {H : Heap} {locs : List Loc} {cells slots : Nat} {Q : State → Prop} {cc : ByteArray} {ls : Array Slot} {ad : Nat → Nat} {N : Nat} {own : String} {kon : List (Nat × Value)} {nL n pc pc' : Nat} {l l' : List (Nat × Value)} {st st' : List Value} {k : Nat} (hx : p.tables.exec = Jvm.exec) (hb : c.code = cc) (hown : s.vm.findClass own = some m.cls) (hkon : ∀ i v, mj_lk kon i = some v → (∃ x, v = .int x ∧ (Jvm.Cond.constant own i x).before args s = true) ∨ ∃ x, v = .long x ∧ (Jvm.Cond.constantLong own i x).before args s = true)
    (hl : lv_has ls nL (mj_l ad l)) (hcl : ∀ q ∈ l, mj_cv N q.2) (hcs : ∀ v ∈ st, mj_cv N v) (hd : decode cc pc = .ok (.istore k, n)) (h : mj_ev kon nL (.istore k) n pc l st = some (pc', l', st'))
    (kk : ∀ ls', lv_has ls' nL (mj_l ad l') → (∀ q ∈ l', mj_cv N q.2) → (∀ v ∈ st', mj_cv N v) → W p lc e R s m args below meth c H locs cells slots Q (F0 m pc' ls' (st'.map (mj_v ad)))) : W p lc e R s m args below meth c H locs cells slots Q (F0 m pc ls (st.map (mj_v ad))) := by
  unfold mj_ev at h
  dsimp only at h
  split at h
  next hn =>
    subst hn
    split at h
    next hb2 =>
      split at h
      next x r =>
        cases h
        have hx0 : mj_cv N (.int x) := hcs _ List.mem_cons_self
        exact lv_istore (lv' := mj_l ad (mj_s1 l k (.int x))) hx hb hd hl hb2 (mj_s1_real l k (.int x) ad) (fun ls' hl' => kk ls' hl' (mj_s1_c hcl hx0) (fun v hv => hcs v (List.mem_cons_of_mem _ hv)))
      next => cases h
    next => cases h
  next => cases h

theorem mj_e_astore_n {p : Program} {lc : Launch} {e : Env} {R : Room} {s : State} {m : MethodId} {args : Array Value} {below : List Frame} {meth : Method} {c : Code} {H : Heap} {locs : List Loc} {cells slots : Nat} {Q : State → Prop} {cc : ByteArray} {ls : Array Slot} {ad : Nat → Nat} {N : Nat} {own : String} {kon : List (Nat × Value)} {nL n pc pc' : Nat} {l l' : List (Nat × Value)} {st st' : List Value} {k : Fin 4} (hx : p.tables.exec = Jvm.exec) (hb : c.code = cc) (hown : s.vm.findClass own = some m.cls) (hkon : ∀ i v, mj_lk kon i = some v → (∃ x, v = .int x ∧ (Jvm.Cond.constant own i x).before args s = true) ∨ ∃ x, v = .long x ∧ (Jvm.Cond.constantLong own i x).before args s = true)
    (hl : lv_has ls nL (mj_l ad l)) (hcl : ∀ q ∈ l, mj_cv N q.2) (hcs : ∀ v ∈ st, mj_cv N v) (hd : decode cc pc = .ok (.astore_n k, n)) (h : mj_ev kon nL (.astore_n k) n pc l st = some (pc', l', st'))
    (kk : ∀ ls', lv_has ls' nL (mj_l ad l') → (∀ q ∈ l', mj_cv N q.2) → (∀ v ∈ st', mj_cv N v) → W p lc e R s m args below meth c H locs cells slots Q (F0 m pc' ls' (st'.map (mj_v ad)))) : W p lc e R s m args below meth c H locs cells slots Q (F0 m pc ls (st.map (mj_v ad))) := by
  unfold mj_ev at h
  dsimp only at h
  split at h
  next hn =>
    subst hn
    split at h
    next hb2 =>
      split at h
      next x r =>
        cases h
        have hx0 : mj_cv N (.ref x) := hcs _ List.mem_cons_self
        exact lv_astore_n (lv' := mj_l ad (mj_s1 l (k : Nat) (.ref x))) hx hb hd rfl hl hb2 (mj_s1_real l (k : Nat) (.ref x) ad) (fun ls' hl' => kk ls' hl' (mj_s1_c hcl hx0) (fun v hv => hcs v (List.mem_cons_of_mem _ hv)))
      next => cases h
    next => cases h
  next => cases h

theorem mj_e_astore {p : Program} {lc : Launch} {e : Env} {R : Room} {s : State} {m : MethodId} {args : Array Value} {below : List Frame} {meth : Method} {c : Code} {H : Heap} {locs : List Loc} {cells slots : Nat} {Q : State → Prop} {cc : ByteArray} {ls : Array Slot} {ad : Nat → Nat} {N : Nat} {own : String} {kon : List (Nat × Value)} {nL n pc pc' : Nat} {l l' : List (Nat × Value)} {st st' : List Value} {k : Nat} (hx : p.tables.exec = Jvm.exec) (hb : c.code = cc) (hown : s.vm.findClass own = some m.cls) (hkon : ∀ i v, mj_lk kon i = some v → (∃ x, v = .int x ∧ (Jvm.Cond.constant own i x).before args s = true) ∨ ∃ x, v = .long x ∧ (Jvm.Cond.constantLong own i x).before args s = true)
    (hl : lv_has ls nL (mj_l ad l)) (hcl : ∀ q ∈ l, mj_cv N q.2) (hcs : ∀ v ∈ st, mj_cv N v) (hd : decode cc pc = .ok (.astore k, n)) (h : mj_ev kon nL (.astore k) n pc l st = some (pc', l', st'))
    (kk : ∀ ls', lv_has ls' nL (mj_l ad l') → (∀ q ∈ l', mj_cv N q.2) → (∀ v ∈ st', mj_cv N v) → W p lc e R s m args below meth c H locs cells slots Q (F0 m pc' ls' (st'.map (mj_v ad)))) : W p lc e R s m args below meth c H locs cells slots Q (F0 m pc ls (st.map (mj_v ad))) := by
  unfold mj_ev at h
  dsimp only at h
  split at h
  next hn =>
    subst hn
    split at h
    next hb2 =>
      split at h
      next x r =>
        cases h
        have hx0 : mj_cv N (.ref x) := hcs _ List.mem_cons_self
        exact lv_astore (lv' := mj_l ad (mj_s1 l k (.ref x))) hx hb hd hl hb2 (mj_s1_real l k (.ref x) ad) (fun ls' hl' => kk ls' hl' (mj_s1_c hcl hx0) (fun v hv => hcs v (List.mem_cons_of_mem _ hv)))
      next => cases h
    next => cases h
  next => cases h

theorem mj_e_lstore_n {p : Program} {lc : Launch} {e : Env} {R : Room} {s : State} {m : MethodId} {args : Array Value} {below : List Frame} {meth : Method} {c : Code} {H : Heap} {locs : List Loc} {cells slots : Nat} {Q : State → Prop} {cc : ByteArray} {ls : Array Slot} {ad : Nat → Nat} {N : Nat} {own : String} {kon : List (Nat × Value)} {nL n pc pc' : Nat} {l l' : List (Nat × Value)} {st st' : List Value} {k : Fin 4} (hx : p.tables.exec = Jvm.exec) (hb : c.code = cc) (hown : s.vm.findClass own = some m.cls) (hkon : ∀ i v, mj_lk kon i = some v → (∃ x, v = .int x ∧ (Jvm.Cond.constant own i x).before args s = true) ∨ ∃ x, v = .long x ∧ (Jvm.Cond.constantLong own i x).before args s = true)
    (hl : lv_has ls nL (mj_l ad l)) (hcl : ∀ q ∈ l, mj_cv N q.2) (hcs : ∀ v ∈ st, mj_cv N v) (hd : decode cc pc = .ok (.lstore_n k, n)) (h : mj_ev kon nL (.lstore_n k) n pc l st = some (pc', l', st'))
    (kk : ∀ ls', lv_has ls' nL (mj_l ad l') → (∀ q ∈ l', mj_cv N q.2) → (∀ v ∈ st', mj_cv N v) → W p lc e R s m args below meth c H locs cells slots Q (F0 m pc' ls' (st'.map (mj_v ad)))) : W p lc e R s m args below meth c H locs cells slots Q (F0 m pc ls (st.map (mj_v ad))) := by
  unfold mj_ev at h
  dsimp only at h
  split at h
  next hn =>
    subst hn
    split at h
    next hb2 =>
      split at h
      next x r =>
        cases h
        have hx0 : mj_cv N (.long x) := hcs _ List.mem_cons_self
        exact lv_lstore_n (lv' := mj_l ad (mj_s2 l (k : Nat) (.long x))) hx hb hd rfl hl hb2 (mj_s2_real l (k : Nat) (.long x) ad) (fun ls' hl' => kk ls' hl' (mj_s2_c hcl hx0) (fun v hv => hcs v (List.mem_cons_of_mem _ hv)))
      next => cases h
    next => cases h
  next => cases h

theorem mj_e_lstore {p : Program} {lc : Launch} {e : Env} {R : Room} {s : State} {m : MethodId} {args : Array Value} {below : List Frame} {meth : Method} {c : Code} {H : Heap} {locs : List Loc} {cells slots : Nat} {Q : State → Prop} {cc : ByteArray} {ls : Array Slot} {ad : Nat → Nat} {N : Nat} {own : String} {kon : List (Nat × Value)} {nL n pc pc' : Nat} {l l' : List (Nat × Value)} {st st' : List Value} {k : Nat} (hx : p.tables.exec = Jvm.exec) (hb : c.code = cc) (hown : s.vm.findClass own = some m.cls) (hkon : ∀ i v, mj_lk kon i = some v → (∃ x, v = .int x ∧ (Jvm.Cond.constant own i x).before args s = true) ∨ ∃ x, v = .long x ∧ (Jvm.Cond.constantLong own i x).before args s = true)
    (hl : lv_has ls nL (mj_l ad l)) (hcl : ∀ q ∈ l, mj_cv N q.2) (hcs : ∀ v ∈ st, mj_cv N v) (hd : decode cc pc = .ok (.lstore k, n)) (h : mj_ev kon nL (.lstore k) n pc l st = some (pc', l', st'))
    (kk : ∀ ls', lv_has ls' nL (mj_l ad l') → (∀ q ∈ l', mj_cv N q.2) → (∀ v ∈ st', mj_cv N v) → W p lc e R s m args below meth c H locs cells slots Q (F0 m pc' ls' (st'.map (mj_v ad)))) : W p lc e R s m args below meth c H locs cells slots Q (F0 m pc ls (st.map (mj_v ad))) := by
  unfold mj_ev at h
  dsimp only at h
  split at h
  next hn =>
    subst hn
    split at h
    next hb2 =>
      split at h
      next x r =>
        cases h
        have hx0 : mj_cv N (.long x) := hcs _ List.mem_cons_self
        exact lv_lstore (lv' := mj_l ad (mj_s2 l k (.long x))) hx hb hd hl hb2 (mj_s2_real l k (.long x) ad) (fun ls' hl' => kk ls' hl' (mj_s2_c hcl hx0) (fun v hv => hcs v (List.mem_cons_of_mem _ hv)))
      next => cases h
    next => cases h
  next => cases h

theorem mj_e_iinc {p : Program} {lc : Launch} {e : Env} {R : Room} {s : State} {m : MethodId} {args : Array Value} {below : List Frame} {meth : Method} {c : Code} {H : Heap} {locs : List Loc} {cells slots : Nat} {Q : State → Prop} {cc : ByteArray} {ls : Array Slot} {ad : Nat → Nat} {N : Nat} {own : String} {kon : List (Nat × Value)} {nL n pc pc' : Nat} {l l' : List (Nat × Value)} {st st' : List Value} {k : Nat} {z : Int} (hx : p.tables.exec = Jvm.exec) (hb : c.code = cc) (hown : s.vm.findClass own = some m.cls) (hkon : ∀ i v, mj_lk kon i = some v → (∃ x, v = .int x ∧ (Jvm.Cond.constant own i x).before args s = true) ∨ ∃ x, v = .long x ∧ (Jvm.Cond.constantLong own i x).before args s = true)
    (hl : lv_has ls nL (mj_l ad l)) (hcl : ∀ q ∈ l, mj_cv N q.2) (hcs : ∀ v ∈ st, mj_cv N v) (hd : decode cc pc = .ok (.iinc k z, n)) (h : mj_ev kon nL (.iinc k z) n pc l st = some (pc', l', st'))
    (kk : ∀ ls', lv_has ls' nL (mj_l ad l') → (∀ q ∈ l', mj_cv N q.2) → (∀ v ∈ st', mj_cv N v) → W p lc e R s m args below meth c H locs cells slots Q (F0 m pc' ls' (st'.map (mj_v ad)))) : W p lc e R s m args below meth c H locs cells slots Q (F0 m pc ls (st.map (mj_v ad))) := by
  unfold mj_ev at h
  dsimp only at h
  split at h
  next hn =>
    subst hn
    split at h
    next hb2 =>
      split at h
      next x hg =>
        cases h
        obtain ⟨j, hj⟩ := List.mem_iff_getElem?.mp (mj_lk_real hg ad)
        exact lv_iinc (k := j) (x := x) (v := x + Int32.ofInt z) (lv' := mj_l ad (mj_s1 l k (.int (x + Int32.ofInt z)))) hx hb hd hl hj rfl hb2 (mj_s1_real l k (.int (x + Int32.ofInt z)) ad) (fun ls' hl' => kk ls' hl' (mj_s1_c hcl trivial) hcs)
      next => cases h
    next => cases h
  next => cases h

theorem mj_e_iadd {p : Program} {lc : Launch} {e : Env} {R : Room} {s : State} {m : MethodId} {args : Array Value} {below : List Frame} {meth : Method} {c : Code} {H : Heap} {locs : List Loc} {cells slots : Nat} {Q : State → Prop} {cc : ByteArray} {ls : Array Slot} {ad : Nat → Nat} {N : Nat} {own : String} {kon : List (Nat × Value)} {nL n pc pc' : Nat} {l l' : List (Nat × Value)} {st st' : List Value} (hx : p.tables.exec = Jvm.exec) (hb : c.code = cc) (hown : s.vm.findClass own = some m.cls) (hkon : ∀ i v, mj_lk kon i = some v → (∃ x, v = .int x ∧ (Jvm.Cond.constant own i x).before args s = true) ∨ ∃ x, v = .long x ∧ (Jvm.Cond.constantLong own i x).before args s = true)
    (hl : lv_has ls nL (mj_l ad l)) (hcl : ∀ q ∈ l, mj_cv N q.2) (hcs : ∀ v ∈ st, mj_cv N v) (hd : decode cc pc = .ok (.iadd, n)) (h : mj_ev kon nL (.iadd) n pc l st = some (pc', l', st'))
    (kk : ∀ ls', lv_has ls' nL (mj_l ad l') → (∀ q ∈ l', mj_cv N q.2) → (∀ v ∈ st', mj_cv N v) → W p lc e R s m args below meth c H locs cells slots Q (F0 m pc' ls' (st'.map (mj_v ad)))) : W p lc e R s m args below meth c H locs cells slots Q (F0 m pc ls (st.map (mj_v ad))) := by
  unfold mj_ev at h
  dsimp only at h
  split at h
  next hn =>
    subst hn
    split at h
    next y x r =>
      cases h
      exact lv_iadd hx hb hd (kk ls hl hcl (fun v hv => by rcases List.mem_cons.mp hv with rfl | hv; trivial; exact hcs v (List.mem_cons_of_mem _ (List.mem_cons_of_mem _ hv))))
    next => cases h
  next => cases h

theorem mj_e_isub {p : Program} {lc : Launch} {e : Env} {R : Room} {s : State} {m : MethodId} {args : Array Value} {below : List Frame} {meth : Method} {c : Code} {H : Heap} {locs : List Loc} {cells slots : Nat} {Q : State → Prop} {cc : ByteArray} {ls : Array Slot} {ad : Nat → Nat} {N : Nat} {own : String} {kon : List (Nat × Value)} {nL n pc pc' : Nat} {l l' : List (Nat × Value)} {st st' : List Value} (hx : p.tables.exec = Jvm.exec) (hb : c.code = cc) (hown : s.vm.findClass own = some m.cls) (hkon : ∀ i v, mj_lk kon i = some v → (∃ x, v = .int x ∧ (Jvm.Cond.constant own i x).before args s = true) ∨ ∃ x, v = .long x ∧ (Jvm.Cond.constantLong own i x).before args s = true)
    (hl : lv_has ls nL (mj_l ad l)) (hcl : ∀ q ∈ l, mj_cv N q.2) (hcs : ∀ v ∈ st, mj_cv N v) (hd : decode cc pc = .ok (.isub, n)) (h : mj_ev kon nL (.isub) n pc l st = some (pc', l', st'))
    (kk : ∀ ls', lv_has ls' nL (mj_l ad l') → (∀ q ∈ l', mj_cv N q.2) → (∀ v ∈ st', mj_cv N v) → W p lc e R s m args below meth c H locs cells slots Q (F0 m pc' ls' (st'.map (mj_v ad)))) : W p lc e R s m args below meth c H locs cells slots Q (F0 m pc ls (st.map (mj_v ad))) := by
  unfold mj_ev at h
  dsimp only at h
  split at h
  next hn =>
    subst hn
    split at h
    next y x r =>
      cases h
      exact lv_isub hx hb hd (kk ls hl hcl (fun v hv => by rcases List.mem_cons.mp hv with rfl | hv; trivial; exact hcs v (List.mem_cons_of_mem _ (List.mem_cons_of_mem _ hv))))
    next => cases h
  next => cases h

theorem mj_e_imul {p : Program} {lc : Launch} {e : Env} {R : Room} {s : State} {m : MethodId} {args : Array Value} {below : List Frame} {meth : Method} {c : Code} {H : Heap} {locs : List Loc} {cells slots : Nat} {Q : State → Prop} {cc : ByteArray} {ls : Array Slot} {ad : Nat → Nat} {N : Nat} {own : String} {kon : List (Nat × Value)} {nL n pc pc' : Nat} {l l' : List (Nat × Value)} {st st' : List Value} (hx : p.tables.exec = Jvm.exec) (hb : c.code = cc) (hown : s.vm.findClass own = some m.cls) (hkon : ∀ i v, mj_lk kon i = some v → (∃ x, v = .int x ∧ (Jvm.Cond.constant own i x).before args s = true) ∨ ∃ x, v = .long x ∧ (Jvm.Cond.constantLong own i x).before args s = true)
    (hl : lv_has ls nL (mj_l ad l)) (hcl : ∀ q ∈ l, mj_cv N q.2) (hcs : ∀ v ∈ st, mj_cv N v) (hd : decode cc pc = .ok (.imul, n)) (h : mj_ev kon nL (.imul) n pc l st = some (pc', l', st'))
    (kk : ∀ ls', lv_has ls' nL (mj_l ad l') → (∀ q ∈ l', mj_cv N q.2) → (∀ v ∈ st', mj_cv N v) → W p lc e R s m args below meth c H locs cells slots Q (F0 m pc' ls' (st'.map (mj_v ad)))) : W p lc e R s m args below meth c H locs cells slots Q (F0 m pc ls (st.map (mj_v ad))) := by
  unfold mj_ev at h
  dsimp only at h
  split at h
  next hn =>
    subst hn
    split at h
    next y x r =>
      cases h
      exact lv_imul hx hb hd (kk ls hl hcl (fun v hv => by rcases List.mem_cons.mp hv with rfl | hv; trivial; exact hcs v (List.mem_cons_of_mem _ (List.mem_cons_of_mem _ hv))))
    next => cases h
  next => cases h

theorem mj_e_iand {p : Program} {lc : Launch} {e : Env} {R : Room} {s : State} {m : MethodId} {args : Array Value} {below : List Frame} {meth : Method} {c : Code} {H : Heap} {locs : List Loc} {cells slots : Nat} {Q : State → Prop} {cc : ByteArray} {ls : Array Slot} {ad : Nat → Nat} {N : Nat} {own : String} {kon : List (Nat × Value)} {nL n pc pc' : Nat} {l l' : List (Nat × Value)} {st st' : List Value} (hx : p.tables.exec = Jvm.exec) (hb : c.code = cc) (hown : s.vm.findClass own = some m.cls) (hkon : ∀ i v, mj_lk kon i = some v → (∃ x, v = .int x ∧ (Jvm.Cond.constant own i x).before args s = true) ∨ ∃ x, v = .long x ∧ (Jvm.Cond.constantLong own i x).before args s = true)
    (hl : lv_has ls nL (mj_l ad l)) (hcl : ∀ q ∈ l, mj_cv N q.2) (hcs : ∀ v ∈ st, mj_cv N v) (hd : decode cc pc = .ok (.iand, n)) (h : mj_ev kon nL (.iand) n pc l st = some (pc', l', st'))
    (kk : ∀ ls', lv_has ls' nL (mj_l ad l') → (∀ q ∈ l', mj_cv N q.2) → (∀ v ∈ st', mj_cv N v) → W p lc e R s m args below meth c H locs cells slots Q (F0 m pc' ls' (st'.map (mj_v ad)))) : W p lc e R s m args below meth c H locs cells slots Q (F0 m pc ls (st.map (mj_v ad))) := by
  unfold mj_ev at h
  dsimp only at h
  split at h
  next hn =>
    subst hn
    split at h
    next y x r =>
      cases h
      exact lv_iand hx hb hd (kk ls hl hcl (fun v hv => by rcases List.mem_cons.mp hv with rfl | hv; trivial; exact hcs v (List.mem_cons_of_mem _ (List.mem_cons_of_mem _ hv))))
    next => cases h
  next => cases h

theorem mj_e_ior {p : Program} {lc : Launch} {e : Env} {R : Room} {s : State} {m : MethodId} {args : Array Value} {below : List Frame} {meth : Method} {c : Code} {H : Heap} {locs : List Loc} {cells slots : Nat} {Q : State → Prop} {cc : ByteArray} {ls : Array Slot} {ad : Nat → Nat} {N : Nat} {own : String} {kon : List (Nat × Value)} {nL n pc pc' : Nat} {l l' : List (Nat × Value)} {st st' : List Value} (hx : p.tables.exec = Jvm.exec) (hb : c.code = cc) (hown : s.vm.findClass own = some m.cls) (hkon : ∀ i v, mj_lk kon i = some v → (∃ x, v = .int x ∧ (Jvm.Cond.constant own i x).before args s = true) ∨ ∃ x, v = .long x ∧ (Jvm.Cond.constantLong own i x).before args s = true)
    (hl : lv_has ls nL (mj_l ad l)) (hcl : ∀ q ∈ l, mj_cv N q.2) (hcs : ∀ v ∈ st, mj_cv N v) (hd : decode cc pc = .ok (.ior, n)) (h : mj_ev kon nL (.ior) n pc l st = some (pc', l', st'))
    (kk : ∀ ls', lv_has ls' nL (mj_l ad l') → (∀ q ∈ l', mj_cv N q.2) → (∀ v ∈ st', mj_cv N v) → W p lc e R s m args below meth c H locs cells slots Q (F0 m pc' ls' (st'.map (mj_v ad)))) : W p lc e R s m args below meth c H locs cells slots Q (F0 m pc ls (st.map (mj_v ad))) := by
  unfold mj_ev at h
  dsimp only at h
  split at h
  next hn =>
    subst hn
    split at h
    next y x r =>
      cases h
      exact lv_ior hx hb hd (kk ls hl hcl (fun v hv => by rcases List.mem_cons.mp hv with rfl | hv; trivial; exact hcs v (List.mem_cons_of_mem _ (List.mem_cons_of_mem _ hv))))
    next => cases h
  next => cases h

theorem mj_e_ixor {p : Program} {lc : Launch} {e : Env} {R : Room} {s : State} {m : MethodId} {args : Array Value} {below : List Frame} {meth : Method} {c : Code} {H : Heap} {locs : List Loc} {cells slots : Nat} {Q : State → Prop} {cc : ByteArray} {ls : Array Slot} {ad : Nat → Nat} {N : Nat} {own : String} {kon : List (Nat × Value)} {nL n pc pc' : Nat} {l l' : List (Nat × Value)} {st st' : List Value} (hx : p.tables.exec = Jvm.exec) (hb : c.code = cc) (hown : s.vm.findClass own = some m.cls) (hkon : ∀ i v, mj_lk kon i = some v → (∃ x, v = .int x ∧ (Jvm.Cond.constant own i x).before args s = true) ∨ ∃ x, v = .long x ∧ (Jvm.Cond.constantLong own i x).before args s = true)
    (hl : lv_has ls nL (mj_l ad l)) (hcl : ∀ q ∈ l, mj_cv N q.2) (hcs : ∀ v ∈ st, mj_cv N v) (hd : decode cc pc = .ok (.ixor, n)) (h : mj_ev kon nL (.ixor) n pc l st = some (pc', l', st'))
    (kk : ∀ ls', lv_has ls' nL (mj_l ad l') → (∀ q ∈ l', mj_cv N q.2) → (∀ v ∈ st', mj_cv N v) → W p lc e R s m args below meth c H locs cells slots Q (F0 m pc' ls' (st'.map (mj_v ad)))) : W p lc e R s m args below meth c H locs cells slots Q (F0 m pc ls (st.map (mj_v ad))) := by
  unfold mj_ev at h
  dsimp only at h
  split at h
  next hn =>
    subst hn
    split at h
    next y x r =>
      cases h
      exact lv_ixor hx hb hd (kk ls hl hcl (fun v hv => by rcases List.mem_cons.mp hv with rfl | hv; trivial; exact hcs v (List.mem_cons_of_mem _ (List.mem_cons_of_mem _ hv))))
    next => cases h
  next => cases h

theorem mj_e_ladd {p : Program} {lc : Launch} {e : Env} {R : Room} {s : State} {m : MethodId} {args : Array Value} {below : List Frame} {meth : Method} {c : Code} {H : Heap} {locs : List Loc} {cells slots : Nat} {Q : State → Prop} {cc : ByteArray} {ls : Array Slot} {ad : Nat → Nat} {N : Nat} {own : String} {kon : List (Nat × Value)} {nL n pc pc' : Nat} {l l' : List (Nat × Value)} {st st' : List Value} (hx : p.tables.exec = Jvm.exec) (hb : c.code = cc) (hown : s.vm.findClass own = some m.cls) (hkon : ∀ i v, mj_lk kon i = some v → (∃ x, v = .int x ∧ (Jvm.Cond.constant own i x).before args s = true) ∨ ∃ x, v = .long x ∧ (Jvm.Cond.constantLong own i x).before args s = true)
    (hl : lv_has ls nL (mj_l ad l)) (hcl : ∀ q ∈ l, mj_cv N q.2) (hcs : ∀ v ∈ st, mj_cv N v) (hd : decode cc pc = .ok (.ladd, n)) (h : mj_ev kon nL (.ladd) n pc l st = some (pc', l', st'))
    (kk : ∀ ls', lv_has ls' nL (mj_l ad l') → (∀ q ∈ l', mj_cv N q.2) → (∀ v ∈ st', mj_cv N v) → W p lc e R s m args below meth c H locs cells slots Q (F0 m pc' ls' (st'.map (mj_v ad)))) : W p lc e R s m args below meth c H locs cells slots Q (F0 m pc ls (st.map (mj_v ad))) := by
  unfold mj_ev at h
  dsimp only at h
  split at h
  next hn =>
    subst hn
    split at h
    next y x r =>
      cases h
      exact lv_ladd hx hb hd (kk ls hl hcl (fun v hv => by rcases List.mem_cons.mp hv with rfl | hv; trivial; exact hcs v (List.mem_cons_of_mem _ (List.mem_cons_of_mem _ hv))))
    next => cases h
  next => cases h

theorem mj_e_lsub {p : Program} {lc : Launch} {e : Env} {R : Room} {s : State} {m : MethodId} {args : Array Value} {below : List Frame} {meth : Method} {c : Code} {H : Heap} {locs : List Loc} {cells slots : Nat} {Q : State → Prop} {cc : ByteArray} {ls : Array Slot} {ad : Nat → Nat} {N : Nat} {own : String} {kon : List (Nat × Value)} {nL n pc pc' : Nat} {l l' : List (Nat × Value)} {st st' : List Value} (hx : p.tables.exec = Jvm.exec) (hb : c.code = cc) (hown : s.vm.findClass own = some m.cls) (hkon : ∀ i v, mj_lk kon i = some v → (∃ x, v = .int x ∧ (Jvm.Cond.constant own i x).before args s = true) ∨ ∃ x, v = .long x ∧ (Jvm.Cond.constantLong own i x).before args s = true)
    (hl : lv_has ls nL (mj_l ad l)) (hcl : ∀ q ∈ l, mj_cv N q.2) (hcs : ∀ v ∈ st, mj_cv N v) (hd : decode cc pc = .ok (.lsub, n)) (h : mj_ev kon nL (.lsub) n pc l st = some (pc', l', st'))
    (kk : ∀ ls', lv_has ls' nL (mj_l ad l') → (∀ q ∈ l', mj_cv N q.2) → (∀ v ∈ st', mj_cv N v) → W p lc e R s m args below meth c H locs cells slots Q (F0 m pc' ls' (st'.map (mj_v ad)))) : W p lc e R s m args below meth c H locs cells slots Q (F0 m pc ls (st.map (mj_v ad))) := by
  unfold mj_ev at h
  dsimp only at h
  split at h
  next hn =>
    subst hn
    split at h
    next y x r =>
      cases h
      exact lv_lsub hx hb hd (kk ls hl hcl (fun v hv => by rcases List.mem_cons.mp hv with rfl | hv; trivial; exact hcs v (List.mem_cons_of_mem _ (List.mem_cons_of_mem _ hv))))
    next => cases h
  next => cases h

theorem mj_e_lmul {p : Program} {lc : Launch} {e : Env} {R : Room} {s : State} {m : MethodId} {args : Array Value} {below : List Frame} {meth : Method} {c : Code} {H : Heap} {locs : List Loc} {cells slots : Nat} {Q : State → Prop} {cc : ByteArray} {ls : Array Slot} {ad : Nat → Nat} {N : Nat} {own : String} {kon : List (Nat × Value)} {nL n pc pc' : Nat} {l l' : List (Nat × Value)} {st st' : List Value} (hx : p.tables.exec = Jvm.exec) (hb : c.code = cc) (hown : s.vm.findClass own = some m.cls) (hkon : ∀ i v, mj_lk kon i = some v → (∃ x, v = .int x ∧ (Jvm.Cond.constant own i x).before args s = true) ∨ ∃ x, v = .long x ∧ (Jvm.Cond.constantLong own i x).before args s = true)
    (hl : lv_has ls nL (mj_l ad l)) (hcl : ∀ q ∈ l, mj_cv N q.2) (hcs : ∀ v ∈ st, mj_cv N v) (hd : decode cc pc = .ok (.lmul, n)) (h : mj_ev kon nL (.lmul) n pc l st = some (pc', l', st'))
    (kk : ∀ ls', lv_has ls' nL (mj_l ad l') → (∀ q ∈ l', mj_cv N q.2) → (∀ v ∈ st', mj_cv N v) → W p lc e R s m args below meth c H locs cells slots Q (F0 m pc' ls' (st'.map (mj_v ad)))) : W p lc e R s m args below meth c H locs cells slots Q (F0 m pc ls (st.map (mj_v ad))) := by
  unfold mj_ev at h
  dsimp only at h
  split at h
  next hn =>
    subst hn
    split at h
    next y x r =>
      cases h
      exact lv_lmul hx hb hd (kk ls hl hcl (fun v hv => by rcases List.mem_cons.mp hv with rfl | hv; trivial; exact hcs v (List.mem_cons_of_mem _ (List.mem_cons_of_mem _ hv))))
    next => cases h
  next => cases h

theorem mj_e_ishl {p : Program} {lc : Launch} {e : Env} {R : Room} {s : State} {m : MethodId} {args : Array Value} {below : List Frame} {meth : Method} {c : Code} {H : Heap} {locs : List Loc} {cells slots : Nat} {Q : State → Prop} {cc : ByteArray} {ls : Array Slot} {ad : Nat → Nat} {N : Nat} {own : String} {kon : List (Nat × Value)} {nL n pc pc' : Nat} {l l' : List (Nat × Value)} {st st' : List Value} (hx : p.tables.exec = Jvm.exec) (hb : c.code = cc) (hown : s.vm.findClass own = some m.cls) (hkon : ∀ i v, mj_lk kon i = some v → (∃ x, v = .int x ∧ (Jvm.Cond.constant own i x).before args s = true) ∨ ∃ x, v = .long x ∧ (Jvm.Cond.constantLong own i x).before args s = true)
    (hl : lv_has ls nL (mj_l ad l)) (hcl : ∀ q ∈ l, mj_cv N q.2) (hcs : ∀ v ∈ st, mj_cv N v) (hd : decode cc pc = .ok (.ishl, n)) (h : mj_ev kon nL (.ishl) n pc l st = some (pc', l', st'))
    (kk : ∀ ls', lv_has ls' nL (mj_l ad l') → (∀ q ∈ l', mj_cv N q.2) → (∀ v ∈ st', mj_cv N v) → W p lc e R s m args below meth c H locs cells slots Q (F0 m pc' ls' (st'.map (mj_v ad)))) : W p lc e R s m args below meth c H locs cells slots Q (F0 m pc ls (st.map (mj_v ad))) := by
  unfold mj_ev at h
  dsimp only at h
  split at h
  next hn =>
    subst hn
    split at h
    next y x r =>
      cases h
      exact lv_ishl hx hb hd (kk ls hl hcl (fun v hv => by rcases List.mem_cons.mp hv with rfl | hv; trivial; exact hcs v (List.mem_cons_of_mem _ (List.mem_cons_of_mem _ hv))))
    next => cases h
  next => cases h

theorem mj_e_ishr {p : Program} {lc : Launch} {e : Env} {R : Room} {s : State} {m : MethodId} {args : Array Value} {below : List Frame} {meth : Method} {c : Code} {H : Heap} {locs : List Loc} {cells slots : Nat} {Q : State → Prop} {cc : ByteArray} {ls : Array Slot} {ad : Nat → Nat} {N : Nat} {own : String} {kon : List (Nat × Value)} {nL n pc pc' : Nat} {l l' : List (Nat × Value)} {st st' : List Value} (hx : p.tables.exec = Jvm.exec) (hb : c.code = cc) (hown : s.vm.findClass own = some m.cls) (hkon : ∀ i v, mj_lk kon i = some v → (∃ x, v = .int x ∧ (Jvm.Cond.constant own i x).before args s = true) ∨ ∃ x, v = .long x ∧ (Jvm.Cond.constantLong own i x).before args s = true)
    (hl : lv_has ls nL (mj_l ad l)) (hcl : ∀ q ∈ l, mj_cv N q.2) (hcs : ∀ v ∈ st, mj_cv N v) (hd : decode cc pc = .ok (.ishr, n)) (h : mj_ev kon nL (.ishr) n pc l st = some (pc', l', st'))
    (kk : ∀ ls', lv_has ls' nL (mj_l ad l') → (∀ q ∈ l', mj_cv N q.2) → (∀ v ∈ st', mj_cv N v) → W p lc e R s m args below meth c H locs cells slots Q (F0 m pc' ls' (st'.map (mj_v ad)))) : W p lc e R s m args below meth c H locs cells slots Q (F0 m pc ls (st.map (mj_v ad))) := by
  unfold mj_ev at h
  dsimp only at h
  split at h
  next hn =>
    subst hn
    split at h
    next y x r =>
      cases h
      exact lv_ishr hx hb hd (kk ls hl hcl (fun v hv => by rcases List.mem_cons.mp hv with rfl | hv; trivial; exact hcs v (List.mem_cons_of_mem _ (List.mem_cons_of_mem _ hv))))
    next => cases h
  next => cases h

theorem mj_e_iushr {p : Program} {lc : Launch} {e : Env} {R : Room} {s : State} {m : MethodId} {args : Array Value} {below : List Frame} {meth : Method} {c : Code} {H : Heap} {locs : List Loc} {cells slots : Nat} {Q : State → Prop} {cc : ByteArray} {ls : Array Slot} {ad : Nat → Nat} {N : Nat} {own : String} {kon : List (Nat × Value)} {nL n pc pc' : Nat} {l l' : List (Nat × Value)} {st st' : List Value} (hx : p.tables.exec = Jvm.exec) (hb : c.code = cc) (hown : s.vm.findClass own = some m.cls) (hkon : ∀ i v, mj_lk kon i = some v → (∃ x, v = .int x ∧ (Jvm.Cond.constant own i x).before args s = true) ∨ ∃ x, v = .long x ∧ (Jvm.Cond.constantLong own i x).before args s = true)
    (hl : lv_has ls nL (mj_l ad l)) (hcl : ∀ q ∈ l, mj_cv N q.2) (hcs : ∀ v ∈ st, mj_cv N v) (hd : decode cc pc = .ok (.iushr, n)) (h : mj_ev kon nL (.iushr) n pc l st = some (pc', l', st'))
    (kk : ∀ ls', lv_has ls' nL (mj_l ad l') → (∀ q ∈ l', mj_cv N q.2) → (∀ v ∈ st', mj_cv N v) → W p lc e R s m args below meth c H locs cells slots Q (F0 m pc' ls' (st'.map (mj_v ad)))) : W p lc e R s m args below meth c H locs cells slots Q (F0 m pc ls (st.map (mj_v ad))) := by
  unfold mj_ev at h
  dsimp only at h
  split at h
  next hn =>
    subst hn
    split at h
    next y x r =>
      cases h
      exact lv_iushr hx hb hd rfl (kk ls hl hcl (fun v hv => by rcases List.mem_cons.mp hv with rfl | hv; trivial; exact hcs v (List.mem_cons_of_mem _ (List.mem_cons_of_mem _ hv))))
    next => cases h
  next => cases h

theorem mj_e_i2l {p : Program} {lc : Launch} {e : Env} {R : Room} {s : State} {m : MethodId} {args : Array Value} {below : List Frame} {meth : Method} {c : Code} {H : Heap} {locs : List Loc} {cells slots : Nat} {Q : State → Prop} {cc : ByteArray} {ls : Array Slot} {ad : Nat → Nat} {N : Nat} {own : String} {kon : List (Nat × Value)} {nL n pc pc' : Nat} {l l' : List (Nat × Value)} {st st' : List Value} (hx : p.tables.exec = Jvm.exec) (hb : c.code = cc) (hown : s.vm.findClass own = some m.cls) (hkon : ∀ i v, mj_lk kon i = some v → (∃ x, v = .int x ∧ (Jvm.Cond.constant own i x).before args s = true) ∨ ∃ x, v = .long x ∧ (Jvm.Cond.constantLong own i x).before args s = true)
    (hl : lv_has ls nL (mj_l ad l)) (hcl : ∀ q ∈ l, mj_cv N q.2) (hcs : ∀ v ∈ st, mj_cv N v) (hd : decode cc pc = .ok (.i2l, n)) (h : mj_ev kon nL (.i2l) n pc l st = some (pc', l', st'))
    (kk : ∀ ls', lv_has ls' nL (mj_l ad l') → (∀ q ∈ l', mj_cv N q.2) → (∀ v ∈ st', mj_cv N v) → W p lc e R s m args below meth c H locs cells slots Q (F0 m pc' ls' (st'.map (mj_v ad)))) : W p lc e R s m args below meth c H locs cells slots Q (F0 m pc ls (st.map (mj_v ad))) := by
  unfold mj_ev at h
  dsimp only at h
  split at h
  next hn =>
    subst hn
    split at h
    next x r =>
      cases h
      exact lv_i2l hx hb hd rfl (kk ls hl hcl (fun v hv => by rcases List.mem_cons.mp hv with rfl | hv; trivial; exact hcs v (List.mem_cons_of_mem _ hv)))
    next => cases h
  next => cases h

theorem mj_e_l2i {p : Program} {lc : Launch} {e : Env} {R : Room} {s : State} {m : MethodId} {args : Array Value} {below : List Frame} {meth : Method} {c : Code} {H : Heap} {locs : List Loc} {cells slots : Nat} {Q : State → Prop} {cc : ByteArray} {ls : Array Slot} {ad : Nat → Nat} {N : Nat} {own : String} {kon : List (Nat × Value)} {nL n pc pc' : Nat} {l l' : List (Nat × Value)} {st st' : List Value} (hx : p.tables.exec = Jvm.exec) (hb : c.code = cc) (hown : s.vm.findClass own = some m.cls) (hkon : ∀ i v, mj_lk kon i = some v → (∃ x, v = .int x ∧ (Jvm.Cond.constant own i x).before args s = true) ∨ ∃ x, v = .long x ∧ (Jvm.Cond.constantLong own i x).before args s = true)
    (hl : lv_has ls nL (mj_l ad l)) (hcl : ∀ q ∈ l, mj_cv N q.2) (hcs : ∀ v ∈ st, mj_cv N v) (hd : decode cc pc = .ok (.l2i, n)) (h : mj_ev kon nL (.l2i) n pc l st = some (pc', l', st'))
    (kk : ∀ ls', lv_has ls' nL (mj_l ad l') → (∀ q ∈ l', mj_cv N q.2) → (∀ v ∈ st', mj_cv N v) → W p lc e R s m args below meth c H locs cells slots Q (F0 m pc' ls' (st'.map (mj_v ad)))) : W p lc e R s m args below meth c H locs cells slots Q (F0 m pc ls (st.map (mj_v ad))) := by
  unfold mj_ev at h
  dsimp only at h
  split at h
  next hn =>
    subst hn
    split at h
    next x r =>
      cases h
      exact lv_l2i hx hb hd rfl (kk ls hl hcl (fun v hv => by rcases List.mem_cons.mp hv with rfl | hv; trivial; exact hcs v (List.mem_cons_of_mem _ hv)))
    next => cases h
  next => cases h

theorem mj_e_i2c {p : Program} {lc : Launch} {e : Env} {R : Room} {s : State} {m : MethodId} {args : Array Value} {below : List Frame} {meth : Method} {c : Code} {H : Heap} {locs : List Loc} {cells slots : Nat} {Q : State → Prop} {cc : ByteArray} {ls : Array Slot} {ad : Nat → Nat} {N : Nat} {own : String} {kon : List (Nat × Value)} {nL n pc pc' : Nat} {l l' : List (Nat × Value)} {st st' : List Value} (hx : p.tables.exec = Jvm.exec) (hb : c.code = cc) (hown : s.vm.findClass own = some m.cls) (hkon : ∀ i v, mj_lk kon i = some v → (∃ x, v = .int x ∧ (Jvm.Cond.constant own i x).before args s = true) ∨ ∃ x, v = .long x ∧ (Jvm.Cond.constantLong own i x).before args s = true)
    (hl : lv_has ls nL (mj_l ad l)) (hcl : ∀ q ∈ l, mj_cv N q.2) (hcs : ∀ v ∈ st, mj_cv N v) (hd : decode cc pc = .ok (.i2c, n)) (h : mj_ev kon nL (.i2c) n pc l st = some (pc', l', st'))
    (kk : ∀ ls', lv_has ls' nL (mj_l ad l') → (∀ q ∈ l', mj_cv N q.2) → (∀ v ∈ st', mj_cv N v) → W p lc e R s m args below meth c H locs cells slots Q (F0 m pc' ls' (st'.map (mj_v ad)))) : W p lc e R s m args below meth c H locs cells slots Q (F0 m pc ls (st.map (mj_v ad))) := by
  unfold mj_ev at h
  dsimp only at h
  split at h
  next hn =>
    subst hn
    split at h
    next x r =>
      cases h
      exact lv_i2c hx hb hd rfl (kk ls hl hcl (fun v hv => by rcases List.mem_cons.mp hv with rfl | hv; trivial; exact hcs v (List.mem_cons_of_mem _ hv)))
    next => cases h
  next => cases h

theorem mj_e_ineg {p : Program} {lc : Launch} {e : Env} {R : Room} {s : State} {m : MethodId} {args : Array Value} {below : List Frame} {meth : Method} {c : Code} {H : Heap} {locs : List Loc} {cells slots : Nat} {Q : State → Prop} {cc : ByteArray} {ls : Array Slot} {ad : Nat → Nat} {N : Nat} {own : String} {kon : List (Nat × Value)} {nL n pc pc' : Nat} {l l' : List (Nat × Value)} {st st' : List Value} (hx : p.tables.exec = Jvm.exec) (hb : c.code = cc) (hown : s.vm.findClass own = some m.cls) (hkon : ∀ i v, mj_lk kon i = some v → (∃ x, v = .int x ∧ (Jvm.Cond.constant own i x).before args s = true) ∨ ∃ x, v = .long x ∧ (Jvm.Cond.constantLong own i x).before args s = true)
    (hl : lv_has ls nL (mj_l ad l)) (hcl : ∀ q ∈ l, mj_cv N q.2) (hcs : ∀ v ∈ st, mj_cv N v) (hd : decode cc pc = .ok (.ineg, n)) (h : mj_ev kon nL (.ineg) n pc l st = some (pc', l', st'))
    (kk : ∀ ls', lv_has ls' nL (mj_l ad l') → (∀ q ∈ l', mj_cv N q.2) → (∀ v ∈ st', mj_cv N v) → W p lc e R s m args below meth c H locs cells slots Q (F0 m pc' ls' (st'.map (mj_v ad)))) : W p lc e R s m args below meth c H locs cells slots Q (F0 m pc ls (st.map (mj_v ad))) := by
  unfold mj_ev at h
  dsimp only at h
  split at h
  next hn =>
    subst hn
    split at h
    next x r =>
      cases h
      exact lv_ineg hx hb hd (kk ls hl hcl (fun v hv => by rcases List.mem_cons.mp hv with rfl | hv; trivial; exact hcs v (List.mem_cons_of_mem _ hv)))
    next => cases h
  next => cases h

theorem mj_e_dup {p : Program} {lc : Launch} {e : Env} {R : Room} {s : State} {m : MethodId} {args : Array Value} {below : List Frame} {meth : Method} {c : Code} {H : Heap} {locs : List Loc} {cells slots : Nat} {Q : State → Prop} {cc : ByteArray} {ls : Array Slot} {ad : Nat → Nat} {N : Nat} {own : String} {kon : List (Nat × Value)} {nL n pc pc' : Nat} {l l' : List (Nat × Value)} {st st' : List Value} (hx : p.tables.exec = Jvm.exec) (hb : c.code = cc) (hown : s.vm.findClass own = some m.cls) (hkon : ∀ i v, mj_lk kon i = some v → (∃ x, v = .int x ∧ (Jvm.Cond.constant own i x).before args s = true) ∨ ∃ x, v = .long x ∧ (Jvm.Cond.constantLong own i x).before args s = true)
    (hl : lv_has ls nL (mj_l ad l)) (hcl : ∀ q ∈ l, mj_cv N q.2) (hcs : ∀ v ∈ st, mj_cv N v) (hd : decode cc pc = .ok (.dup, n)) (h : mj_ev kon nL (.dup) n pc l st = some (pc', l', st'))
    (kk : ∀ ls', lv_has ls' nL (mj_l ad l') → (∀ q ∈ l', mj_cv N q.2) → (∀ v ∈ st', mj_cv N v) → W p lc e R s m args below meth c H locs cells slots Q (F0 m pc' ls' (st'.map (mj_v ad)))) : W p lc e R s m args below meth c H locs cells slots Q (F0 m pc ls (st.map (mj_v ad))) := by
  unfold mj_ev at h
  dsimp only at h
  split at h
  next hn =>
    subst hn
    split at h
    next v r =>
      split at h
      next hc1 =>
        cases h
        exact lv_dup hx hb hd (by rw [mj_v_cat]; exact hc1) (kk ls hl hcl (fun w hw => by rcases List.mem_cons.mp hw with rfl | hw; exact hcs _ List.mem_cons_self; exact hcs w hw))
      next => cases h
    next => cases h
  next => cases h

theorem mj_e_pop {p : Program} {lc : Launch} {e : Env} {R : Room} {s : State} {m : MethodId} {args : Array Value} {below : List Frame} {meth : Method} {c : Code} {H : Heap} {locs : List Loc} {cells slots : Nat} {Q : State → Prop} {cc : ByteArray} {ls : Array Slot} {ad : Nat → Nat} {N : Nat} {own : String} {kon : List (Nat × Value)} {nL n pc pc' : Nat} {l l' : List (Nat × Value)} {st st' : List Value} (hx : p.tables.exec = Jvm.exec) (hb : c.code = cc) (hown : s.vm.findClass own = some m.cls) (hkon : ∀ i v, mj_lk kon i = some v → (∃ x, v = .int x ∧ (Jvm.Cond.constant own i x).before args s = true) ∨ ∃ x, v = .long x ∧ (Jvm.Cond.constantLong own i x).before args s = true)
    (hl : lv_has ls nL (mj_l ad l)) (hcl : ∀ q ∈ l, mj_cv N q.2) (hcs : ∀ v ∈ st, mj_cv N v) (hd : decode cc pc = .ok (.pop, n)) (h : mj_ev kon nL (.pop) n pc l st = some (pc', l', st'))
    (kk : ∀ ls', lv_has ls' nL (mj_l ad l') → (∀ q ∈ l', mj_cv N q.2) → (∀ v ∈ st', mj_cv N v) → W p lc e R s m args below meth c H locs cells slots Q (F0 m pc' ls' (st'.map (mj_v ad)))) : W p lc e R s m args below meth c H locs cells slots Q (F0 m pc ls (st.map (mj_v ad))) := by
  unfold mj_ev at h
  dsimp only at h
  split at h
  next hn =>
    subst hn
    split at h
    next v r =>
      split at h
      next hc1 =>
        cases h
        exact lv_pop hx hb hd (by rw [mj_v_cat]; exact hc1) (kk ls hl hcl (fun w hw => hcs w (List.mem_cons_of_mem _ hw)))
      next => cases h
    next => cases h
  next => cases h

theorem mj_e_pop2 {p : Program} {lc : Launch} {e : Env} {R : Room} {s : State} {m : MethodId} {args : Array Value} {below : List Frame} {meth : Method} {c : Code} {H : Heap} {locs : List Loc} {cells slots : Nat} {Q : State → Prop} {cc : ByteArray} {ls : Array Slot} {ad : Nat → Nat} {N : Nat} {own : String} {kon : List (Nat × Value)} {nL n pc pc' : Nat} {l l' : List (Nat × Value)} {st st' : List Value} (hx : p.tables.exec = Jvm.exec) (hb : c.code = cc) (hown : s.vm.findClass own = some m.cls) (hkon : ∀ i v, mj_lk kon i = some v → (∃ x, v = .int x ∧ (Jvm.Cond.constant own i x).before args s = true) ∨ ∃ x, v = .long x ∧ (Jvm.Cond.constantLong own i x).before args s = true)
    (hl : lv_has ls nL (mj_l ad l)) (hcl : ∀ q ∈ l, mj_cv N q.2) (hcs : ∀ v ∈ st, mj_cv N v) (hd : decode cc pc = .ok (.pop2, n)) (h : mj_ev kon nL (.pop2) n pc l st = some (pc', l', st'))
    (kk : ∀ ls', lv_has ls' nL (mj_l ad l') → (∀ q ∈ l', mj_cv N q.2) → (∀ v ∈ st', mj_cv N v) → W p lc e R s m args below meth c H locs cells slots Q (F0 m pc' ls' (st'.map (mj_v ad)))) : W p lc e R s m args below meth c H locs cells slots Q (F0 m pc ls (st.map (mj_v ad))) := by
  unfold mj_ev at h
  dsimp only at h
  split at h
  next hn =>
    subst hn
    split at h
    next v r =>
      split at h
      next hc1 =>
        cases h
        exact lv_pop2_2 hx hb hd (by rw [mj_v_cat]; exact hc1) (kk ls hl hcl (fun w hw => hcs w (List.mem_cons_of_mem _ hw)))
      next => cases h
    next => cases h
  next => cases h

theorem mj_e_dup2 {p : Program} {lc : Launch} {e : Env} {R : Room} {s : State} {m : MethodId} {args : Array Value} {below : List Frame} {meth : Method} {c : Code} {H : Heap} {locs : List Loc} {cells slots : Nat} {Q : State → Prop} {cc : ByteArray} {ls : Array Slot} {ad : Nat → Nat} {N : Nat} {own : String} {kon : List (Nat × Value)} {nL n pc pc' : Nat} {l l' : List (Nat × Value)} {st st' : List Value} (hx : p.tables.exec = Jvm.exec) (hb : c.code = cc) (hown : s.vm.findClass own = some m.cls) (hkon : ∀ i v, mj_lk kon i = some v → (∃ x, v = .int x ∧ (Jvm.Cond.constant own i x).before args s = true) ∨ ∃ x, v = .long x ∧ (Jvm.Cond.constantLong own i x).before args s = true)
    (hl : lv_has ls nL (mj_l ad l)) (hcl : ∀ q ∈ l, mj_cv N q.2) (hcs : ∀ v ∈ st, mj_cv N v) (hd : decode cc pc = .ok (.dup2, n)) (h : mj_ev kon nL (.dup2) n pc l st = some (pc', l', st'))
    (kk : ∀ ls', lv_has ls' nL (mj_l ad l') → (∀ q ∈ l', mj_cv N q.2) → (∀ v ∈ st', mj_cv N v) → W p lc e R s m args below meth c H locs cells slots Q (F0 m pc' ls' (st'.map (mj_v ad)))) : W p lc e R s m args below meth c H locs cells slots Q (F0 m pc ls (st.map (mj_v ad))) := by
  unfold mj_ev at h
  dsimp only at h
  split at h
  next hn =>
    subst hn
    split at h
    next v r =>
      split at h
      next hc1 =>
        cases h
        exact lv_dup2_2 hx hb hd (by rw [mj_v_cat]; exact hc1) (kk ls hl hcl (fun w hw => by rcases List.mem_cons.mp hw with rfl | hw; exact hcs _ List.mem_cons_self; exact hcs w hw))
      next hc1 =>
        split at h
        next w q =>
          split at h
          next hc2 =>
            cases h
            have hv1 : v.category = 1 := (lv_cat v).resolve_right hc1
            exact lv_dup2_11 hx hb hd (by rw [mj_v_cat]; exact hv1) (by rw [mj_v_cat]; exact hc2) (kk ls hl hcl (fun z hz => by
              rcases List.mem_cons.mp hz with rfl | hz
              · exact hcs _ List.mem_cons_self
              · rcases List.mem_cons.mp hz with rfl | hz
                · exact hcs _ (List.mem_cons_of_mem _ List.mem_cons_self)
                · exact hcs z hz))
          next => cases h
        next => cases h
    next => cases h
  next => cases h

theorem mj_e_goto {p : Program} {lc : Launch} {e : Env} {R : Room} {s : State} {m : MethodId} {args : Array Value} {below : List Frame} {meth : Method} {c : Code} {H : Heap} {locs : List Loc} {cells slots : Nat} {Q : State → Prop} {cc : ByteArray} {ls : Array Slot} {ad : Nat → Nat} {N : Nat} {own : String} {kon : List (Nat × Value)} {nL n pc pc' : Nat} {l l' : List (Nat × Value)} {st st' : List Value} {off : Int} (hx : p.tables.exec = Jvm.exec) (hb : c.code = cc) (hown : s.vm.findClass own = some m.cls) (hkon : ∀ i v, mj_lk kon i = some v → (∃ x, v = .int x ∧ (Jvm.Cond.constant own i x).before args s = true) ∨ ∃ x, v = .long x ∧ (Jvm.Cond.constantLong own i x).before args s = true)
    (hl : lv_has ls nL (mj_l ad l)) (hcl : ∀ q ∈ l, mj_cv N q.2) (hcs : ∀ v ∈ st, mj_cv N v) (hd : decode cc pc = .ok (.goto off, n)) (h : mj_ev kon nL (.goto off) n pc l st = some (pc', l', st'))
    (kk : ∀ ls', lv_has ls' nL (mj_l ad l') → (∀ q ∈ l', mj_cv N q.2) → (∀ v ∈ st', mj_cv N v) → W p lc e R s m args below meth c H locs cells slots Q (F0 m pc' ls' (st'.map (mj_v ad)))) : W p lc e R s m args below meth c H locs cells slots Q (F0 m pc ls (st.map (mj_v ad))) := by
  unfold mj_ev at h
  dsimp only at h
  split at h
  next hn =>
    subst hn
    split at h
    next t ht =>
      cases h
      exact lv_goto hx hb hd ht (kk ls hl hcl hcs)
    next => cases h
  next => cases h

theorem mj_e_ldc {p : Program} {lc : Launch} {e : Env} {R : Room} {s : State} {m : MethodId} {args : Array Value} {below : List Frame} {meth : Method} {c : Code} {H : Heap} {locs : List Loc} {cells slots : Nat} {Q : State → Prop} {cc : ByteArray} {ls : Array Slot} {ad : Nat → Nat} {N : Nat} {own : String} {kon : List (Nat × Value)} {nL n pc pc' : Nat} {l l' : List (Nat × Value)} {st st' : List Value} {k : Nat} (hx : p.tables.exec = Jvm.exec) (hb : c.code = cc) (hown : s.vm.findClass own = some m.cls) (hkon : ∀ i v, mj_lk kon i = some v → (∃ x, v = .int x ∧ (Jvm.Cond.constant own i x).before args s = true) ∨ ∃ x, v = .long x ∧ (Jvm.Cond.constantLong own i x).before args s = true)
    (hl : lv_has ls nL (mj_l ad l)) (hcl : ∀ q ∈ l, mj_cv N q.2) (hcs : ∀ v ∈ st, mj_cv N v) (hd : decode cc pc = .ok (.ldc k, n)) (h : mj_ev kon nL (.ldc k) n pc l st = some (pc', l', st'))
    (kk : ∀ ls', lv_has ls' nL (mj_l ad l') → (∀ q ∈ l', mj_cv N q.2) → (∀ v ∈ st', mj_cv N v) → W p lc e R s m args below meth c H locs cells slots Q (F0 m pc' ls' (st'.map (mj_v ad)))) : W p lc e R s m args below meth c H locs cells slots Q (F0 m pc ls (st.map (mj_v ad))) := by
  unfold mj_ev at h
  dsimp only at h
  split at h
  next hn =>
    subst hn
    split at h
    next x hg =>
      cases h
      have hk : (Jvm.Cond.constant own k x).before args s = true := by
        rcases hkon _ _ hg with ⟨y, h1, h2⟩ | ⟨y, h1, h2⟩
        all_goals (cases h1; try exact h2)
      exact lv_ldc hx hb hown hk hd (kk ls hl hcl (fun v hv => by rcases List.mem_cons.mp hv with rfl | hv; trivial; exact hcs v hv))
    next => cases h
  next => cases h

theorem mj_e_ldc_w {p : Program} {lc : Launch} {e : Env} {R : Room} {s : State} {m : MethodId} {args : Array Value} {below : List Frame} {meth : Method} {c : Code} {H : Heap} {locs : List Loc} {cells slots : Nat} {Q : State → Prop} {cc : ByteArray} {ls : Array Slot} {ad : Nat → Nat} {N : Nat} {own : String} {kon : List (Nat × Value)} {nL n pc pc' : Nat} {l l' : List (Nat × Value)} {st st' : List Value} {k : Nat} (hx : p.tables.exec = Jvm.exec) (hb : c.code = cc) (hown : s.vm.findClass own = some m.cls) (hkon : ∀ i v, mj_lk kon i = some v → (∃ x, v = .int x ∧ (Jvm.Cond.constant own i x).before args s = true) ∨ ∃ x, v = .long x ∧ (Jvm.Cond.constantLong own i x).before args s = true)
    (hl : lv_has ls nL (mj_l ad l)) (hcl : ∀ q ∈ l, mj_cv N q.2) (hcs : ∀ v ∈ st, mj_cv N v) (hd : decode cc pc = .ok (.ldc_w k, n)) (h : mj_ev kon nL (.ldc_w k) n pc l st = some (pc', l', st'))
    (kk : ∀ ls', lv_has ls' nL (mj_l ad l') → (∀ q ∈ l', mj_cv N q.2) → (∀ v ∈ st', mj_cv N v) → W p lc e R s m args below meth c H locs cells slots Q (F0 m pc' ls' (st'.map (mj_v ad)))) : W p lc e R s m args below meth c H locs cells slots Q (F0 m pc ls (st.map (mj_v ad))) := by
  unfold mj_ev at h
  dsimp only at h
  split at h
  next hn =>
    subst hn
    split at h
    next x hg =>
      cases h
      have hk : (Jvm.Cond.constant own k x).before args s = true := by
        rcases hkon _ _ hg with ⟨y, h1, h2⟩ | ⟨y, h1, h2⟩
        all_goals (cases h1; try exact h2)
      exact lv_ldcw hx hb hown hk hd (kk ls hl hcl (fun v hv => by rcases List.mem_cons.mp hv with rfl | hv; trivial; exact hcs v hv))
    next => cases h
  next => cases h

theorem mj_e_ldc2_w {p : Program} {lc : Launch} {e : Env} {R : Room} {s : State} {m : MethodId} {args : Array Value} {below : List Frame} {meth : Method} {c : Code} {H : Heap} {locs : List Loc} {cells slots : Nat} {Q : State → Prop} {cc : ByteArray} {ls : Array Slot} {ad : Nat → Nat} {N : Nat} {own : String} {kon : List (Nat × Value)} {nL n pc pc' : Nat} {l l' : List (Nat × Value)} {st st' : List Value} {k : Nat} (hx : p.tables.exec = Jvm.exec) (hb : c.code = cc) (hown : s.vm.findClass own = some m.cls) (hkon : ∀ i v, mj_lk kon i = some v → (∃ x, v = .int x ∧ (Jvm.Cond.constant own i x).before args s = true) ∨ ∃ x, v = .long x ∧ (Jvm.Cond.constantLong own i x).before args s = true)
    (hl : lv_has ls nL (mj_l ad l)) (hcl : ∀ q ∈ l, mj_cv N q.2) (hcs : ∀ v ∈ st, mj_cv N v) (hd : decode cc pc = .ok (.ldc2_w k, n)) (h : mj_ev kon nL (.ldc2_w k) n pc l st = some (pc', l', st'))
    (kk : ∀ ls', lv_has ls' nL (mj_l ad l') → (∀ q ∈ l', mj_cv N q.2) → (∀ v ∈ st', mj_cv N v) → W p lc e R s m args below meth c H locs cells slots Q (F0 m pc' ls' (st'.map (mj_v ad)))) : W p lc e R s m args below meth c H locs cells slots Q (F0 m pc ls (st.map (mj_v ad))) := by
  unfold mj_ev at h
  dsimp only at h
  split at h
  next hn =>
    subst hn
    split at h
    next x hg =>
      cases h
      have hk : (Jvm.Cond.constantLong own k x).before args s = true := by
        rcases hkon _ _ hg with ⟨y, h1, h2⟩ | ⟨y, h1, h2⟩
        all_goals (cases h1; try exact h2)
      exact lv_ldc2 hx hb hown hk hd (kk ls hl hcl (fun v hv => by rcases List.mem_cons.mp hv with rfl | hv; trivial; exact hcs v hv))
    next => cases h
  next => cases h

theorem mj_ev_W {p : Program} {lc : Launch} {e : Env} {R : Room} {s : State} {m : MethodId} {args : Array Value} {below : List Frame} {meth : Method} {c : Code} {H : Heap} {locs : List Loc} {cells slots : Nat} {Q : State → Prop} {cc : ByteArray} {ls : Array Slot} {ad : Nat → Nat} {N : Nat} {own : String} {kon : List (Nat × Value)} {nL n pc pc' : Nat} {i : Instr} {l l' : List (Nat × Value)} {st st' : List Value} (hx : p.tables.exec = Jvm.exec) (hb : c.code = cc) (hown : s.vm.findClass own = some m.cls) (hkon : ∀ i v, mj_lk kon i = some v → (∃ x, v = .int x ∧ (Jvm.Cond.constant own i x).before args s = true) ∨ ∃ x, v = .long x ∧ (Jvm.Cond.constantLong own i x).before args s = true)
    (hl : lv_has ls nL (mj_l ad l)) (hcl : ∀ q ∈ l, mj_cv N q.2) (hcs : ∀ v ∈ st, mj_cv N v) (hd : decode cc pc = .ok (i, n)) (h : mj_ev kon nL i n pc l st = some (pc', l', st'))
    (kk : ∀ ls', lv_has ls' nL (mj_l ad l') → (∀ q ∈ l', mj_cv N q.2) → (∀ v ∈ st', mj_cv N v) → W p lc e R s m args below meth c H locs cells slots Q (F0 m pc' ls' (st'.map (mj_v ad)))) : W p lc e R s m args below meth c H locs cells slots Q (F0 m pc ls (st.map (mj_v ad))) := by
  cases i
  case iconst z => exact mj_e_iconst hx hb hown hkon hl hcl hcs hd h kk
  case bipush z => exact mj_e_bipush hx hb hown hkon hl hcl hcs hd h kk
  case sipush z => exact mj_e_sipush hx hb hown hkon hl hcl hcs hd h kk
  case lconst z => exact mj_e_lconst hx hb hown hkon hl hcl hcs hd h kk
  case iload_n k => exact mj_e_iload_n hx hb hown hkon hl hcl hcs hd h kk
  case iload k => exact mj_e_iload hx hb hown hkon hl hcl hcs hd h kk
  case lload_n k => exact mj_e_lload_n hx hb hown hkon hl hcl hcs hd h kk
  case lload k => exact mj_e_lload hx hb hown hkon hl hcl hcs hd h kk
  case aload_n k => exact mj_e_aload_n hx hb hown hkon hl hcl hcs hd h kk
  case aload k => exact mj_e_aload hx hb hown hkon hl hcl hcs hd h kk
  case istore_n k => exact mj_e_istore_n hx hb hown hkon hl hcl hcs hd h kk
  case istore k => exact mj_e_istore hx hb hown hkon hl hcl hcs hd h kk
  case astore_n k => exact mj_e_astore_n hx hb hown hkon hl hcl hcs hd h kk
  case astore k => exact mj_e_astore hx hb hown hkon hl hcl hcs hd h kk
  case lstore_n k => exact mj_e_lstore_n hx hb hown hkon hl hcl hcs hd h kk
  case lstore k => exact mj_e_lstore hx hb hown hkon hl hcl hcs hd h kk
  case iinc k z => exact mj_e_iinc hx hb hown hkon hl hcl hcs hd h kk
  case iadd => exact mj_e_iadd hx hb hown hkon hl hcl hcs hd h kk
  case isub => exact mj_e_isub hx hb hown hkon hl hcl hcs hd h kk
  case imul => exact mj_e_imul hx hb hown hkon hl hcl hcs hd h kk
  case iand => exact mj_e_iand hx hb hown hkon hl hcl hcs hd h kk
  case ior => exact mj_e_ior hx hb hown hkon hl hcl hcs hd h kk
  case ixor => exact mj_e_ixor hx hb hown hkon hl hcl hcs hd h kk
  case ladd => exact mj_e_ladd hx hb hown hkon hl hcl hcs hd h kk
  case lsub => exact mj_e_lsub hx hb hown hkon hl hcl hcs hd h kk
  case lmul => exact mj_e_lmul hx hb hown hkon hl hcl hcs hd h kk
  case ishl => exact mj_e_ishl hx hb hown hkon hl hcl hcs hd h kk
  case ishr => exact mj_e_ishr hx hb hown hkon hl hcl hcs hd h kk
  case iushr => exact mj_e_iushr hx hb hown hkon hl hcl hcs hd h kk
  case i2l => exact mj_e_i2l hx hb hown hkon hl hcl hcs hd h kk
  case l2i => exact mj_e_l2i hx hb hown hkon hl hcl hcs hd h kk
  case i2c => exact mj_e_i2c hx hb hown hkon hl hcl hcs hd h kk
  case ineg => exact mj_e_ineg hx hb hown hkon hl hcl hcs hd h kk
  case dup => exact mj_e_dup hx hb hown hkon hl hcl hcs hd h kk
  case pop => exact mj_e_pop hx hb hown hkon hl hcl hcs hd h kk
  case pop2 => exact mj_e_pop2 hx hb hown hkon hl hcl hcs hd h kk
  case dup2 => exact mj_e_dup2 hx hb hown hkon hl hcl hcs hd h kk
  case goto off => exact mj_e_goto hx hb hown hkon hl hcl hcs hd h kk
  case ldc k => exact mj_e_ldc hx hb hown hkon hl hcl hcs hd h kk
  case ldc_w k => exact mj_e_ldc_w hx hb hown hkon hl hcl hcs hd h kk
  case ldc2_w k => exact mj_e_ldc2_w hx hb hown hkon hl hcl hcs hd h kk
  all_goals (cases h)

def mj_evs (kon : List (Nat × Value)) (nL : Nat) : List (Nat × Instr × Nat) → Nat → List (Nat × Value) → List Value → Option (Nat × List (Nat × Value) × List Value)
  | [], pc, l, st => some (pc, l, st)
  | q :: r, pc, l, st => match Nat.beq q.1 pc with
    | true => (match mj_ev kon nL q.2.1 q.2.2 pc l st with
      | some z => mj_evs kon nL r z.1 z.2.1 z.2.2
      | none => none)
    | false => none
theorem mj_evs_W {p : Program} {lc : Launch} {e : Env} {R : Room} {s : State} {m : MethodId} {args : Array Value} {below : List Frame} {meth : Method} {c : Code} {H : Heap} {locs : List Loc} {cells slots : Nat} {Q : State → Prop} {cc : ByteArray} {ad : Nat → Nat} {N : Nat} {own : String} {kon : List (Nat × Value)} {nL : Nat} (hx : p.tables.exec = Jvm.exec) (hb : c.code = cc) (hown : s.vm.findClass own = some m.cls) (hkon : ∀ i v, mj_lk kon i = some v → (∃ x, v = .int x ∧ (Jvm.Cond.constant own i x).before args s = true) ∨ ∃ x, v = .long x ∧ (Jvm.Cond.constantLong own i x).before args s = true) {pc' : Nat} {l' : List (Nat × Value)} {st' : List Value}
    (kk : ∀ ls', lv_has ls' nL (mj_l ad l') → (∀ q ∈ l', mj_cv N q.2) → (∀ v ∈ st', mj_cv N v) → W p lc e R s m args below meth c H locs cells slots Q (F0 m pc' ls' (st'.map (mj_v ad)))) : ∀ (b : List (Nat × Instr × Nat)) (pc : Nat) (l : List (Nat × Value)) (st : List Value) (ls : Array Slot), (∀ q ∈ b, decode cc q.1 = .ok q.2) → mj_evs kon nL b pc l st = some (pc', l', st') → lv_has ls nL (mj_l ad l) → (∀ q ∈ l, mj_cv N q.2) → (∀ v ∈ st, mj_cv N v) → W p lc e R s m args below meth c H locs cells slots Q (F0 m pc ls (st.map (mj_v ad)))
  | [], pc, l, st, ls, hb2, h, hl, hcl, hcs => by
    cases h
    exact kk ls hl hcl hcs
  | q :: r, pc, l, st, ls, hb2, h, hl, hcl, hcs => by
    unfold mj_evs at h
    split at h
    next e =>
      have e := Nat.eq_of_beq_eq_true e
      split at h
      next z hz =>
        have hd : decode cc pc = .ok (q.2.1, q.2.2) := by rw [← e]; exact hb2 q List.mem_cons_self
        exact mj_ev_W hx hb hown hkon hl hcl hcs hd (pc' := z.1) (l' := z.2.1) (st' := z.2.2) hz (fun ls' hl' hcl' hcs' => mj_evs_W hx hb hown hkon kk r z.1 z.2.1 z.2.2 ls' (fun w hw => hb2 w (List.mem_cons_of_mem _ hw)) h hl' hcl' hcs')
      next => cases h
    next => cases h
/-- a class's constants -/
def mj_KO (own : String) (kon : List (Nat × Value)) : Prop := ∀ i v, mj_lk kon i = some v → (∃ x, v = .int x ∧ Jvm.Cond.constant own i x ∈ mj_G) ∨ ∃ x, v = .long x ∧ Jvm.Cond.constantLong own i x ∈ mj_G
/-- a block of pure instructions: b of them, from the a-th of the table on -/
theorem mj_blk {M : mj_M} {Fin : mj_F} {pc : Nat} {l : List (Nat × Value)} {st : List Value} {h : mj_H} {k n : Nat} {kon : List (Nat × Value)} (hkon : mj_KO M.1.cls kon) (a b : Nat) {pc' : Nat} {l' : List (Nat × Value)} {st' : List Value} (hev : mj_evs kon M.2.2.1 ((M.2.2.2.2.2.drop a).take b) pc l st = some (pc', l', st')) (kk : mj_W M Fin pc' l' st' h k n) : mj_W M Fin pc l st h k n := by
  intro p lc e s m args below meth c H locs ls A Q dC dI cy ad ad0 n0 CX I hl hcl hcs hag hn hz hret
  have CX' := CX
  obtain ⟨hx, hb, hml, hr, hown, hts, hlk, hnm, hN, hT⟩ := CX
  exact mj_evs_W hx hb hown (fun i v hv => (hkon i v hv).imp (fun ⟨x, h1, h2⟩ => ⟨x, h1, hts _ h2⟩) (fun ⟨x, h1, h2⟩ => ⟨x, h1, hts _ h2⟩)) (fun ls' hl' hcl' hcs' => kk p lc e s m args below meth c H locs ls' A Q dC dI cy ad ad0 n0 CX' I hl' hcl' hcs' hag hn hz hret) _ pc l st ls (fun q hq => hT q (List.mem_of_mem_drop (List.mem_of_mem_take hq))) hev hl hcl hcs
