/-! THE MINI LAYER: the heap as a list of cells by place; places from 1000 on are cells that nobody writes (static arrays, String constants). -/
abbrev mj_C : Type := (Nat × vp_A) ⊕ (Nat × List Value)
abbrev mj_H : Type := List mj_C
/-- a method: its name, code, how many locals, what it returns, its room, its instructions by place -/
abbrev mj_M : Type := MethodName × ByteArray × Nat × Option FieldType × Room × List (Nat × Instr × Nat)
def mj_G : List Cond := lw_tbl.filter goodWord
def mj_isN : Cond → Bool
  | .fieldLinkNest .. => true
  | .methodLinkNest .. => true
  | _ => false
def mj_N : List Cond := lw_tbl.filter mj_isN
theorem mj_inG {w : Cond} (i : Nat) (h : lw_tbl[i]? = some w) (hg : goodWord w = true) : w ∈ mj_G := List.mem_filter.mpr ⟨List.mem_of_getElem? h, hg⟩
theorem mj_inN {w : Cond} (i : Nat) (h : lw_tbl[i]? = some w) (hg : mj_isN w = true) : w ∈ mj_N := List.mem_filter.mpr ⟨List.mem_of_getElem? h, hg⟩
def mj_v (ad : Nat → Nat) (v : Value) : Value := match v with
  | .ref k => .ref (ad k)
  | w => w
theorem mj_v_cat (ad : Nat → Nat) (v : Value) : (mj_v ad v).category = v.category := by cases v <;> rfl
def mj_c (cy : Nat → ClassId) (ad : Nat → Nat) (c : mj_C) : va_E := match c with
  | .inl a => .inl (cy a.1, a.2)
  | .inr o => .inr (o.1, o.2.map (mj_v ad))
def mj_w (cy : Nat → ClassId) (ad : Nat → Nat) (h : mj_H) : va_W := h.mapIdx (fun k c => (ad k, mj_c cy ad c))
def mj_l (ad : Nat → Nat) (l : List (Nat × Value)) : List (Nat × Value) := l.map (fun q => (q.1, mj_v ad q.2))
def mj_cv (n : Nat) (v : Value) : Prop := match v with
  | .ref k => k < n ∨ 1000 ≤ k
  | _ => True
def mj_cc (n : Nat) (c : mj_C) : Prop := match c with
  | .inl _ => True
  | .inr o => ∀ v ∈ o.2, mj_cv n v
def mj_ch (h : mj_H) : Prop := h.length ≤ 1000 ∧ ∀ c ∈ h, mj_cc h.length c
def mj_ty (cy : Nat → ClassId) : List (ClassId × FieldType) := [(cy 0, .int), (cy 1, .long), (cy 2, .boolean)]
theorem mj_cv_mono {n k : Nat} (h : n ≤ k) {v : Value} (hv : mj_cv n v) : mj_cv k v := by
  cases v <;> simp only [mj_cv] at hv ⊢
  exact hv.elim (fun q => Or.inl (Nat.lt_of_lt_of_le q h)) Or.inr
theorem mj_cc_mono {n k : Nat} (h : n ≤ k) {c : mj_C} (hc : mj_cc n c) : mj_cc k c := by
  cases c with
  | inl a => trivial
  | inr o => exact fun v hv => mj_cv_mono h (hc v hv)
theorem mj_w_get (cy : Nat → ClassId) (ad : Nat → Nat) {h : mj_H} {k : Nat} {c : mj_C} (hc : h[k]? = some c) : (mj_w cy ad h)[k]? = some (ad k, mj_c cy ad c) := by
  simp [mj_w, List.getElem?_mapIdx, hc]
theorem mj_w_len (cy : Nat → ClassId) (ad : Nat → Nat) (h : mj_H) : (mj_w cy ad h).length = h.length := by simp [mj_w]
theorem mj_w_set (cy : Nat → ClassId) (ad : Nat → Nat) (h : mj_H) (k : Nat) (c : mj_C) : (mj_w cy ad h).set k (ad k, mj_c cy ad c) = mj_w cy ad (h.set k c) := by
  apply List.ext_getElem?
  intro i
  simp only [mj_w, List.getElem?_set, List.getElem?_mapIdx, List.length_mapIdx]
  by_cases hi : k = i
  · subst hi
    by_cases hl : k < h.length <;> simp [hl]
  · simp [hi]
/-- two valuations agree where a world of n cells reaches -/
def mj_ag (n : Nat) (a b : Nat → Nat) : Prop := ∀ k : Nat, k < n ∨ 1000 ≤ k → b k = a k
theorem mj_ag.rf (n : Nat) (a : Nat → Nat) : mj_ag n a a := fun _ _ => rfl
theorem mj_ag.tr {n m : Nat} {a b c : Nat → Nat} (h : mj_ag n a b) (h2 : mj_ag m b c) (hm : n ≤ m) : mj_ag n a c := fun k hk => (h2 k (by omega)).trans (h k hk)
theorem mj_v_ag {n : Nat} {a b : Nat → Nat} (h : mj_ag n a b) {v : Value} (hv : mj_cv n v) : mj_v b v = mj_v a v := by
  cases v <;> simp only [mj_v, mj_cv] at hv ⊢
  rw [h _ hv]
theorem mj_c_ag {cy : Nat → ClassId} {n : Nat} {a b : Nat → Nat} (h : mj_ag n a b) {c : mj_C} (hc : mj_cc n c) : mj_c cy b c = mj_c cy a c := by
  cases c with
  | inl x => rfl
  | inr o =>
    simp only [mj_c]
    congr 2
    exact List.map_congr_left fun v hv => mj_v_ag h (hc v hv)
theorem mj_l_ag {n : Nat} {a b : Nat → Nat} (h : mj_ag n a b) {l : List (Nat × Value)} (hl : ∀ q ∈ l, mj_cv n q.2) : mj_l b l = mj_l a l := by
  simp only [mj_l]
  exact List.map_congr_left fun q hq => by rw [mj_v_ag h (hl q hq)]
theorem mj_s_ag {n : Nat} {a b : Nat → Nat} (h : mj_ag n a b) {l : List Value} (hl : ∀ q ∈ l, mj_cv n q) : l.map (mj_v b) = l.map (mj_v a) :=
  List.map_congr_left fun q hq => mj_v_ag h (hl q hq)
theorem mj_w_ag {cy : Nat → ClassId} {a b : Nat → Nat} {h : mj_H} (hab : mj_ag h.length a b) (hc : ∀ c ∈ h, mj_cc h.length c) : mj_w cy b h = mj_w cy a h := by
  apply List.ext_getElem?
  intro i
  simp only [mj_w, List.getElem?_mapIdx]
  cases hi : h[i]? with
  | none => rfl
  | some c =>
    have hl : i < h.length := (List.getElem?_eq_some_iff.mp hi).1
    simp only [Option.map_some]
    rw [hab i (Or.inl hl), mj_c_ag hab (hc c (List.mem_of_getElem? hi))]
theorem mj_w_push (cy : Nat → ClassId) {ad : Nat → Nat} {h : mj_H} (q : Nat) {c : mj_C} (hh : mj_ch h) (hl : h.length < 1000) (hc : mj_cc h.length c) :
    mj_w cy ad h ++ [(q, mj_c cy ad c)] = mj_w cy (va_up ad h.length q) (h ++ [c]) ∧ mj_ag h.length ad (va_up ad h.length q) := by
  have hag : mj_ag h.length ad (va_up ad h.length q) := fun k hk => va_up_ne _ _ (by omega)
  refine ⟨?_, hag⟩
  have h1 : mj_w cy (va_up ad h.length q) (h ++ [c]) = mj_w cy (va_up ad h.length q) h ++ [(q, mj_c cy (va_up ad h.length q) c)] := by
    simp only [mj_w, List.mapIdx_append, List.mapIdx_cons, List.mapIdx_nil, Nat.zero_add]
    rw [va_up_self]
  rw [h1, mj_w_ag hag hh.2, mj_c_ag hag hc]
theorem mj_ch_set {h : mj_H} (hh : mj_ch h) (k : Nat) {c : mj_C} (hc : mj_cc h.length c) : mj_ch (h.set k c) := by
  refine ⟨by simpa using hh.1, fun x hx => ?_⟩
  rw [List.length_set]
  rcases List.mem_or_eq_of_mem_set hx with h1 | h1
  · exact hh.2 x h1
  · rw [h1]; exact hc
theorem mj_ch_push {h : mj_H} (hh : mj_ch h) (hl : h.length < 1000) {c : mj_C} (hc : mj_cc h.length c) : mj_ch (h ++ [c]) := by
  refine ⟨by simp; omega, fun x hx => ?_⟩
  have : h.length ≤ (h ++ [c]).length := by simp
  rcases List.mem_append.mp hx with h1 | h1
  · exact mj_cc_mono this (hh.2 x h1)
  · rw [List.mem_singleton.mp h1]; exact mj_cc_mono this hc
/-! what nobody writes -/
def mj_roI (k j : Nat) : Int32 := (([[6, 5, 4, 6, 9, 8, 7, 10, 3, 2, 1, 2, 3, 2, 1, 1, 4, 10, 9, 11, 3, 2, 1, 0], [2, 5, 3], [1, 6, 2, 2, 1]] : List (List Int32)).getD k []).getD j 0
def mj_roN (k : Nat) : Nat := ([24, 3, 5] : List Nat).getD k 0
def mj_strs : List (List Int32) := [[109, 117, 115, 116, 101, 114], [109, 97, 110], [119, 111, 114, 110], [112, 97, 105, 114], [119, 111, 114, 100]]
def mj_lens : List Nat := [6, 3, 4, 4, 4]
def mj_keys : List (Nat × String) := [(99, "muster"), (105, "man"), (107, "worn"), (109, "pair"), (111, "word")]
def mj_stat : List (String × String × Nat) := [("RiverChoice", "CASES", 0), ("RiverChoice", "COSTS", 1), ("RiverChoice$Reader", "NEEDS", 2)]
def mj_R (ad : Nat → Nat) (A : Nat → Prop) (U : State) (H : Heap) : Prop :=
  (∀ q ∈ mj_stat, va_Z q.1 q.2.1 "[I" (.ref (ad (1000 + q.2.2))) A U H ∧ va_T .int (ad (1000 + q.2.2)) (mj_roN q.2.2) (fun j => .int (mj_roI q.2.2 j)) A U H) ∧
  va_Z "java/lang/String" "COMPACT_STRINGS" "Z" (.int 1) A U H ∧ va_Zq "jdk/internal/util/Preconditions" "SIOOBE_FORMATTER" "Ljava/util/function/BiFunction;" A U H ∧
  vk_S 5 mj_lens mj_strs (fun i => ad (1010 + i)) (fun i => ad (1020 + i)) A U H ∧ ∀ (i : Nat) (q : Nat × String), mj_keys[i]? = some q → vk_R "RiverChoice$Reader" q.1 q.2 (ad (1010 + i)) U
theorem mj_R.warm {ad : Nat → Nat} {A B : Nat → Prop} {s U : State} {H H1 : Heap} (h : mj_R ad A s H) (hW : s.WarmedH U.vm) (hq : ∀ a : Nat, a < H.size → ¬ A a → H1[a]? = H[a]?) (hAB : ∀ q, B q → A q) : mj_R ad B U H1 := by
  obtain ⟨h1, h2, h3, h4, h5⟩ := h
  have ha := hW.alike
  exact ⟨fun q hm => ⟨(((h1 q hm).1.moved ha).kept hq).narrow hAB, (((h1 q hm).2.moved ha).kept hq).narrow hAB⟩, ((h2.moved ha).kept hq).narrow hAB, ((h3.moved ha).kept hq).narrow hAB, ((h4.moved ha).kept hq).narrow hAB, fun i q hi => (h5 i q hi).warm hW⟩
theorem mj_R.same {ad : Nat → Nat} {A : Nat → Prop} {s U : State} {H : Heap} (h : mj_R ad A s H) (hv : U.vm = s.vm) : mj_R ad A U H := by
  obtain ⟨h1, h2, h3, h4, h5⟩ := h
  have ha : s.vm.Alike U.vm := by rw [hv]; exact Vm.Alike.refl _
  exact ⟨fun q hm => ⟨(h1 q hm).1.moved ha, (h1 q hm).2.moved ha⟩, h2.moved ha, h3.moved ha, h4.moved ha, fun i q hi => (h5 i q hi).same hv⟩
theorem mj_R.ag {ad ad' : Nat → Nat} {n : Nat} {A : Nat → Prop} {s : State} {H : Heap} (h : mj_R ad A s H) (hg : mj_ag n ad ad') : mj_R ad' A s H := by
  have e : ∀ k, 1000 ≤ k → ad' k = ad k := fun k hk => hg k (Or.inr hk)
  obtain ⟨h1, h2, h3, h4, h5⟩ := h
  refine ⟨fun q hm => by rw [e _ (by omega)]; exact h1 q hm, h2, h3, ?_, fun i q hi => by rw [e _ (by omega)]; exact h5 i q hi⟩
  have e1 : (fun i => ad' (1010 + i)) = fun i => ad (1010 + i) := funext fun i => e _ (by omega)
  have e2 : (fun i => ad' (1020 + i)) = fun i => ad (1020 + i) := funext fun i => e _ (by omega)
  rw [e1, e2]; exact h4
theorem mj_N.warm {s U : State} (hW : s.WarmedH U.vm) (h : ∀ w ∈ mj_N, va_Nw w s) : ∀ w ∈ mj_N, va_Nw w U := by
  intro w hw
  have h1 := h w hw
  have h2 := (List.mem_filter.mp hw).2
  cases w <;> first | (simp [mj_isN] at h2; done) | exact va_Nw.warmF hW h1 | exact va_Nw.warmM hW h1
theorem mj_N.same {s U : State} (hv : U.vm = s.vm) (h : ∀ w ∈ mj_N, va_Nw w s) : ∀ w ∈ mj_N, va_Nw w U := by
  intro w hw
  have h1 := h w hw
  have h2 := (List.mem_filter.mp hw).2
  cases w <;> first | (simp [mj_isN] at h2; done) | exact va_Nw.same rfl hv.symm h1
/-! the judgement -/
def mj_CX (M : mj_M) (p : Program) (s : State) (m : MethodId) (args : Array Value) (meth : Method) (c : Code) : Prop :=
  p.tables.exec = Jvm.exec ∧ c.code = M.2.1 ∧ c.maxLocals = M.2.2.1 ∧ meth.sig.returnType = M.2.2.2.1 ∧ s.vm.findClass M.1.cls = some m.cls ∧ (∀ w ∈ mj_G, w.before args s = true) ∧ meth.locks = false ∧ meth.name = M.1.name ∧ (∀ w ∈ mj_N, va_Nw w s) ∧ ∀ q ∈ M.2.2.2.2.2, decode M.2.1 q.1 = .ok q.2
def mj_I (dC : Nat → ClassId) (dI : Nat → Nat → Nat) (cy : Nat → ClassId) (A : Nat → Prop) (s : State) (ad : Nat → Nat) (h : mj_H) (H : Heap) (locs : List Loc) : Prop :=
  va_K (dC, dI) vwCl (mj_ty cy) s ∧ (∀ q, s.heap.size ≤ q → A q) ∧ mj_R ad A s s.heap ∧ va_P (dC, dI) vwCl (mj_w cy ad h) H ∧ va_D A (mj_w cy ad h) ∧ va_S A s.heap H locs ∧ mj_ch h
def mj_ret (M : mj_M) (pc : Nat) (r : Option Value) : Prop := match r with
  | none => decode M.2.1 pc = .ok (.return_, 1) ∧ M.2.2.2.1 = none
  | some (.int x) => decode M.2.1 pc = .ok (.ireturn, 1) ∧ ∃ ty, M.2.2.2.1 = some ty ∧ narrow ty (.int x) = .int x
  | some (.long _) => decode M.2.1 pc = .ok (.lreturn, 1) ∧ M.2.2.2.1 = some .long
  | some (.ref _) => decode M.2.1 pc = .ok (.areturn, 1) ∧ ∃ n, M.2.2.2.1 = some (.object n)
  | _ => False
def mj_cr (n : Nat) (r : Option Value) : Prop := ∀ v, r = some v → mj_cv n v
/-- what the end must be, and what else is known of the start -/
abbrev mj_F : Type := (Option Value → mj_H → Prop) × (State → (Nat → Prop) → (Nat → Nat) → Prop)
def mj_W (M : mj_M) (Fin : mj_F) (pc : Nat) (l : List (Nat × Value)) (st : List Value) (h : mj_H) (k n : Nat) : Prop :=
  ∀ (p : Program) (lc : Launch) (e : Env) (s : State) (m : MethodId) (args : Array Value) (below : List Frame) (meth : Method) (c : Code) (H : Heap) (locs : List Loc) (ls : Array Slot) (A : Nat → Prop) (Q : State → Prop) (dC : Nat → ClassId) (dI : Nat → Nat → Nat) (cy : Nat → ClassId) (ad ad0 : Nat → Nat) (n0 : Nat),
    mj_CX M p s m args meth c → mj_I dC dI cy A s ad h H locs → lv_has ls M.2.2.1 (mj_l ad l) → (∀ q ∈ l, mj_cv h.length q.2) → (∀ v ∈ st, mj_cv h.length v) → mj_ag n0 ad0 ad → n0 ≤ h.length → Fin.2 s A ad0 →
    (∀ (pc : Nat) (H : Heap) (locs : List Loc) (ls : Array Slot) (ad : Nat → Nat) (h : mj_H) (r : Option Value) (k n : Nat), mj_I dC dI cy A s ad h H locs → mj_ag n0 ad0 ad → n0 ≤ h.length → mj_cr h.length r → Fin.1 r h → mj_ret M pc r → ls.size = M.2.2.1 → k ≤ M.2.2.2.2.1.cells → n ≤ M.2.2.2.2.1.slots →
      W p lc e M.2.2.2.2.1 s m args below meth c H locs k n Q (F0 m pc ls ((r.map (mj_v ad)).toList))) →
    W p lc e M.2.2.2.2.1 s m args below meth c H locs k n Q (F0 m pc ls (st.map (mj_v ad)))
