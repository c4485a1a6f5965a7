/-! contracts, calls, returns -/
def mj_ws (M : mj_M) : List Cond := .code M.1 M.2.1 M.2.2.1 M.2.2.2.1 :: mj_G
def mj_Pre (dC : Nat → ClassId) (dI : Nat → Nat → Nat) (cy : Nat → ClassId) (ad : Nat → Nat) (h : mj_H) (sz : Nat) (U : State) : Prop :=
  U.heap.size = sz ∧ va_P (dC, dI) vwCl (mj_w cy ad h) U.heap ∧ va_K (dC, dI) vwCl (mj_ty cy) U ∧ va_D (fun _ => True) (mj_w cy ad h) ∧ mj_ch h ∧ mj_R ad (va_A (mj_w cy ad h) sz) U U.heap ∧ ∀ w ∈ mj_N, va_Nw w U
def mj_B (dC : Nat → ClassId) (dI : Nat → Nat → Nat) (cy : Nat → ClassId) (ad : Nat → Nat) (h : mj_H) (A : Nat → Prop) (r : Option Value) (h' : mj_H) (ad' : Nat → Nat) (t : State) : Prop :=
  mj_ag h.length ad ad' ∧ h.length ≤ h'.length ∧ mj_ch h' ∧ mj_cr h'.length r ∧ va_P (dC, dI) vwCl (mj_w cy ad' h') t.heap ∧ va_D A (mj_w cy ad' h')
def mj_Q (r : Option Value) (B : (Nat → Nat) → State → Prop) (A : Nat → Prop) : Array Value → State → Outcome → State → Prop := match r with
  | none => va_Qv (fun _ => True) B A
  | some (.int x) => va_Qi (fun y _ => y = x) B A
  | some (.long x) => va_Ql (fun y _ => y = x) B A
  | some (.ref k) => va_Qr (fun _ => True) (fun (ad' : Nat → Nat) a t => a = ad' k ∧ B ad' t) A
  | _ => fun _ _ _ _ => False
/-- what a method does: from every world that looks like h, with these arguments, it answers r, and the world looks like h' -/
def mj_Met (M : mj_M) (as : List Value) (h : mj_H) (r : Option Value) (h' : mj_H) : Prop :=
  ∀ (lc : Launch) (dC : Nat → ClassId) (dI : Nat → Nat → Nat) (cy : Nat → ClassId) (ad : Nat → Nat) (sz : Nat), (∀ v ∈ as, mj_cv h.length v) →
    Met lc M.1 (mj_ws M) M.2.2.2.2.1 (va_Pc (as.map (mj_v ad)) (mj_Pre dC dI cy ad h sz)) (mj_Q r (mj_B dC dI cy ad h (va_A (mj_w cy ad h) sz) r h') (va_A (mj_w cy ad h) sz)) M.2.2.2.2.1.cells M.2.2.2.2.1.slots (va_A (mj_w cy ad h) sz)
theorem mj_args_real (ad : Nat → Nat) : ∀ (as : List Value) (i : Nat), lv_args i (as.map (mj_v ad)) = mj_l ad (lv_args i as)
  | [], _ => rfl
  | v :: r, i => by
    simp only [List.map_cons, lv_args, mj_v_cat, mj_args_real ad r, mj_l]
theorem mj_args_c {n : Nat} : ∀ (as : List Value) (i : Nat), (∀ v ∈ as, mj_cv n v) → ∀ q ∈ lv_args i as, mj_cv n q.2
  | [], _, _, q, hq => by cases hq
  | v :: r, i, h, q, hq => by
    rcases List.mem_cons.mp hq with rfl | hq
    · exact h v List.mem_cons_self
    · exact mj_args_c r _ (fun w hw => h w (List.mem_cons_of_mem _ hw)) q hq
theorem mj_sl_real (ad : Nat → Nat) (as : List Value) : (lg_sl (as.map (mj_v ad))).length = (lg_sl as).length := by
  induction as with
  | nil => rfl
  | cons v r ih =>
    simp only [lg_sl, List.map_cons, List.flatMap_cons, List.length_append, mj_v_cat] at ih ⊢
    rw [ih]
    congr 1
    split <;> rfl
theorem mj_code_in {M : mj_M} (h : Jvm.Cond.code M.1 M.2.1 M.2.2.1 M.2.2.2.1 ∈ mj_G) : ∀ w ∈ mj_ws M, w ∈ mj_G := fun w hw => (List.mem_cons.mp hw).elim (fun e => e ▸ h) id
theorem mj_ws_good {M' : mj_M} (hc : Jvm.Cond.code M'.1 M'.2.1 M'.2.2.1 M'.2.2.2.1 ∈ mj_G) : GoodIn mj_G (mj_ws M') := fun w hw => ⟨mj_code_in hc w hw, good_of_word (List.mem_filter.mp (mj_code_in hc w hw)).2⟩
theorem mj_met {M : mj_M} {as : List Value} {h : mj_H} {r : Option Value} {h' : mj_H} (hpl : plainName M.1.cls = true) (hT : ∀ q ∈ M.2.2.2.2.2, decode M.2.1 q.1 = .ok q.2) (hlen : (lg_sl as).length ≤ M.2.2.1) (hW : mj_W M (fun r' h'' => r' = r ∧ h'' = h', fun _ _ _ => True) 0 (lv_args 0 as) [] h 0 0) : mj_Met M as h r h' := by
  intro lc dC dI cy ad sz hcas
  refine Met.ofW (cc := M.2.1) (maxL := M.2.2.1) (ret := M.2.2.2.1) (ws' := mj_G) hpl rfl ?_
  intro p e s m args below meth c s₁ B hml hv
  obtain ⟨rfl, hsz, hP, hK, hD0, hch, hR, hN⟩ := hv
  have hts := atoms_spec (ws := mj_ws M) B.pre
  have hown : s.vm.findClass M.1.cls = some m.cls := findClass_of_methodNamed B.named
  have hnm : meth.name = M.1.name := (name_of_methodNamed B.named B.method).1
  subst hsz
  have hD := hD0.self (sz := s.heap.size)
  generalize hAe : va_A (mj_w cy ad h) s.heap.size = A at hD hR ⊢
  have hA : ∀ q : Nat, s.heap.size ≤ q → A q := fun q h => by rw [← hAe]; exact Or.inr h
  have hS : va_S A s.heap s.heap [] := va_S.rf
  have hl := lv_entry (as.map (mj_v ad)) (n := M.2.2.1) (by rw [mj_sl_real]; exact hlen)
  rw [mj_args_real] at hl
  rw [lg_entry_eq]
  generalize (lg_sl (as.map (mj_v ad)) ++ List.replicate (M.2.2.1 - (lg_sl (as.map (mj_v ad))).length) Slot.unset).toArray = ls at hl ⊢
  have CX : mj_CX M p s m (as.map (mj_v ad)).toArray meth c := ⟨B.exec, B.bytes, hml, B.returns, hown, fun w hw => hts w (List.mem_cons_of_mem _ hw), B.notSynchronized, hnm, hN, hT⟩
  refine hW p lc e s m (as.map (mj_v ad)).toArray below meth c s.heap [] ls A _ dC dI cy ad ad h.length CX ⟨hK, hA, hR, hP, hD, hS, hch⟩ hl (mj_args_c as 0 hcas) (fun v hv => by cases hv) (mj_ag.rf _ _) (Nat.le_refl _) trivial ?_
  intro pc H locs ls2 ad2 h2 r2 k2 n2 I2 hag2 hn2 hcr2 hfin hret hsz2 hk2 hns2
  obtain ⟨rfl, rfl⟩ := hfin
  obtain ⟨-, -, -, hP2, hD2, hS2, hch2⟩ := I2
  refine W.widen hk2 hns2 ?_
  have hBB : ∀ t : State, t.heap = H → mj_B dC dI cy ad h A r2 h2 ad2 t := fun t ht => ⟨hag2, hn2, hch2, hcr2, by rw [ht]; exact hP2, hD2⟩
  match r2, hret, hBB with
  | none, hret, hBB => exact W.vret B.exec B.bytes (B.returns.trans hret.2) (fun t ht hW => ⟨⟨ad2, rfl, trivial, hBB t ht⟩, hS2.F ht⟩) hS2.2.2 hret.1 B.notSynchronized
  | some (.int x), hret, hBB =>
    obtain ⟨h1, ty, h3, h4⟩ := hret
    exact W.zret B.exec B.bytes (B.returns.trans h3) h4 (fun t ht hW => ⟨⟨x, ad2, rfl, rfl, hBB t ht⟩, hS2.F ht⟩) hS2.2.2 h1 B.notSynchronized
  | some (.long x), hret, hBB => exact W.lret B.exec B.bytes (B.returns.trans hret.2) (fun t ht hW => ⟨⟨x, ad2, rfl, rfl, hBB t ht⟩, hS2.F ht⟩) hS2.2.2 hret.1 B.notSynchronized
  | some (.ref x), hret, hBB =>
    obtain ⟨h1, nm, h3⟩ := hret
    exact W.aret (rt := .object nm) B.exec B.bytes (B.returns.trans h3) (Or.inl ⟨nm, rfl⟩) (Or.inr ⟨ad2 x, rfl⟩) (fun t ht hW => ⟨⟨ad2, ad2 x, rfl, trivial, rfl, hBB t ht⟩, hS2.F ht⟩) hS2.2.2 h1 B.notSynchronized
/-- a method's own end -/
theorem mj_end {M : mj_M} {Fin : mj_F} {pc : Nat} {l : List (Nat × Value)} {h : mj_H} {k n : Nat} (r : Option Value) (hr : mj_ret M pc r) (hF : Fin.1 r h) (hk : k ≤ M.2.2.2.2.1.cells) (hn : n ≤ M.2.2.2.2.1.slots) : mj_W M Fin pc l r.toList h k n := by
  intro p lc e s m args below meth c H locs ls A Q dC dI cy ad ad0 n0 CX I hl hcl hcs hag hn0 hz hret
  have key := hret pc H locs ls ad h r k n I hag hn0 (fun v hv => hcs v (by rw [hv]; exact List.mem_cons_self)) hF hr hl.1 hk hn
  have e1 : r.toList.map (mj_v ad) = (r.map (mj_v ad)).toList := by cases r <;> rfl
  rw [e1]
  exact key
/-- behind a call -/
theorem mj_after {M : mj_M} {Fin : mj_F} {pc : Nat} {l : List (Nat × Value)} {rest : List Value} {h h' : mj_H} {k n mc ms : Nat} {r : Option Value} (kk : mj_W M Fin (pc + 3) l (r.toList ++ rest) h' (k + mc) (n + ms))
    {p : Program} {lc : Launch} {e : Env} {s : State} {m : MethodId} {args : Array Value} {below : List Frame} {meth : Method} {c : Code} {H : Heap} {locs : List Loc} {ls : Array Slot} {A : Nat → Prop} {Q : State → Prop} {dC : Nat → ClassId} {dI : Nat → Nat → Nat} {cy : Nat → ClassId} {ad ad0 : Nat → Nat} {n0 : Nat} {st0 : List Value} {a : Array Value}
    (CX : mj_CX M p s m args meth c) (I : mj_I dC dI cy A s ad h H locs) (hl : lv_has ls M.2.2.1 (mj_l ad l)) (hcl : ∀ q ∈ l, mj_cv h.length q.2) (hcs : ∀ v ∈ rest, mj_cv h.length v) (hag : mj_ag n0 ad0 ad) (hn : n0 ≤ h.length) (hz : Fin.2 s A ad0)
    (hret : ∀ (pc : Nat) (H : Heap) (locs : List Loc) (ls : Array Slot) (ad : Nat → Nat) (h : mj_H) (r : Option Value) (k n : Nat), mj_I dC dI cy A s ad h H locs → mj_ag n0 ad0 ad → n0 ≤ h.length → mj_cr h.length r → Fin.1 r h → mj_ret M pc r → ls.size = M.2.2.1 → k ≤ M.2.2.2.2.1.cells → n ≤ M.2.2.2.2.1.slots →
      W p lc e M.2.2.2.2.1 s m args below meth c H locs k n Q (F0 m pc ls ((r.map (mj_v ad)).toList)))
    (hr : va_Run p lc e M.2.2.2.2.1 s m args below meth c H locs k n mc ms (F0 m pc ls st0) (rest.map (mj_v ad)) (mj_Q r (mj_B dC dI cy ad h (va_A (mj_w cy ad h) H.size) r h') (va_A (mj_w cy ad h) H.size) a) (va_A (mj_w cy ad h) H.size)) : W p lc e M.2.2.2.2.1 s m args below meth c H locs k n Q (F0 m pc ls st0) := by
  obtain ⟨hK, hA, hR, hP, hD, hS, hch⟩ := I
  have hAA : ∀ q, va_A (mj_w cy ad h) H.size q → A q := by
    intro q hq
    rcases hq with ⟨k2, e2, hq⟩ | hq
    · exact hD.2 k2 _ hq
    · exact hA q (Nat.le_trans hS.1 hq)
  have fin : ∀ (ad' : Nat → Nat) (t : State) (H1 : Heap) (locs1 : List Loc), t.heap = H1 → mj_B dC dI cy ad h (va_A (mj_w cy ad h) H.size) r h' ad' t → va_S A s.heap H1 locs1 →
      W p lc e M.2.2.2.2.1 s m args below meth c H1 locs1 (k + mc) (n + ms) Q (F0 m (pc + 3) ls ((r.toList ++ rest).map (mj_v ad'))) := by
    intro ad' t H1 locs1 ht hB hS1
    obtain ⟨b1, b2, b3, b4, b5, b6⟩ := hB
    rw [ht] at b5
    refine kk p lc e s m args below meth c H1 locs1 ls A Q dC dI cy ad' ad0 n0 CX ⟨hK, hA, hR.ag b1, b5, b6.weaken (fun _ q _ hq => hAA q.1 hq), hS1, b3⟩ (by rw [mj_l_ag b1 hcl]; exact hl) (fun q hq => mj_cv_mono b2 (hcl q hq)) (fun v hv => ?_) (hag.tr b1 hn) (Nat.le_trans hn b2) hz hret
    rcases List.mem_append.mp hv with h1 | h1
    · exact b4 v (Option.mem_toList.mp h1)
    · exact mj_cv_mono b2 (hcs v h1)
  have er : ∀ ad', mj_ag h.length ad ad' → (r.toList ++ rest).map (mj_v ad') = (r.map (mj_v ad')).toList ++ rest.map (mj_v ad) := by
    intro ad' hg
    rw [List.map_append, mj_s_ag hg hcs]
    cases r <;> rfl
  match r, hr, fin, er with
  | none, hr, fin, er =>
    refine va_callv (a := a) hr hS (fun q _ h => hAA q h) hAA (fun u t H1 locs1 ht hvm _ hB hz1 hk1 hS1 => ?_)
    have := fin u t H1 locs1 ht hB hS1
    rw [er u hB.1] at this
    exact this
  | some (.int x), hr, fin, er =>
    refine va_calli (a := a) hr hS (fun q _ h => hAA q h) hAA (fun y u t H1 locs1 ht hvm hy hB hz1 hk1 hS1 => ?_)
    have := fin u t H1 locs1 ht hB hS1
    rw [er u hB.1] at this
    subst hy
    exact this
  | some (.long x), hr, fin, er =>
    refine va_calll (a := a) hr hS (fun q _ h => hAA q h) hAA (fun y u t H1 locs1 ht hvm hy hB hz1 hk1 hS1 => ?_)
    have := fin u t H1 locs1 ht hB hS1
    rw [er u hB.1] at this
    subst hy
    exact this
  | some (.ref x), hr, fin, er =>
    refine va_callr (a := a) hr hS (fun q _ h => hAA q h) hAA (fun u ra t H1 locs1 ht hvm _ hB hz1 hk1 hS1 => ?_)
    have := fin u t H1 locs1 ht hB.2 hS1
    rw [er u hB.2.1] at this
    rw [hB.1]
    exact this
  | some (.float x), hr, fin, er =>
    intro T hT X
    obtain ⟨v, st₀, t, T', L, h0, X', hL, e1, e2, hq, st⟩ := hr T hT X
    exact hq.elim
  | some (.double x), hr, fin, er =>
    intro T hT X
    obtain ⟨v, st₀, t, T', L, h0, X', hL, e1, e2, hq, st⟩ := hr T hT X
    exact hq.elim
  | some .null, hr, fin, er =>
    intro T hT X
    obtain ⟨v, st₀, t, T', L, h0, X', hL, e1, e2, hq, st⟩ := hr T hT X
    exact hq.elim
  | some (.retAddr x), hr, fin, er =>
    intro T hT X
    obtain ⟨v, st₀, t, T', L, h0, X', hL, e1, e2, hq, st⟩ := hr T hT X
    exact hq.elim
theorem mj_pre_at {dC : Nat → ClassId} {dI : Nat → Nat → Nat} {cy : Nat → ClassId} {A : Nat → Prop} {s U : State} {ad : Nat → Nat} {h : mj_H} {H : Heap} {locs : List Loc} (I : mj_I dC dI cy A s ad h H locs) (hN : ∀ w ∈ mj_N, va_Nw w s) (hU : U.heap = H) (hW : s.WarmedH U.vm) : mj_Pre dC dI cy ad h H.size U := by
  obtain ⟨hK, hA, hR, hP, hD, hS, hch⟩ := I
  have hAA : ∀ q, va_A (mj_w cy ad h) H.size q → A q := by
    intro q hq
    rcases hq with ⟨k2, e2, hq⟩ | hq
    · exact hD.2 k2 _ hq
    · exact hA q (Nat.le_trans hS.1 hq)
  refine ⟨by rw [hU], by rw [hU]; exact hP, hK.moved hW.alike, hD.weaken (fun _ _ _ _ => trivial), hch, ?_, mj_N.warm hW hN⟩
  exact hR.warm hW (fun a h1 h2 => by rw [hU]; exact hS.2.1 a h1 h2) hAA
theorem mj_blind {dC : Nat → ClassId} {dI : Nat → Nat → Nat} {cy : Nat → ClassId} {ad : Nat → Nat} {h : mj_H} {sz : Nat} {av : List Value} : FrameBlind (va_Pc av (mj_Pre dC dI cy ad h sz)) := by
  intro a U g mk q
  obtain ⟨q0, q1, q2, q3, q4, q5, q6, q7⟩ := q
  exact ⟨q0, q1, q2, q3.moved (Vm.Alike.refl U.vm), q4, q5, mj_R.same (s := U) (U := U.calling g mk a) q6 rfl, mj_N.same (s := U) (U := U.calling g mk a) rfl q7⟩
/-- the rooms fit -/
def mj_rm (R : Room) (M' : mj_M) : Prop := M'.2.2.2.2.1.frames + 1 ≤ R.frames ∧ 8 + (M'.2.2.1 + 11) + M'.2.2.2.2.1.locals ≤ R.locals
/-- what the tables say of a call -/
def mj_LB (M' : mj_M) (n : Nat) : Prop := Jvm.Cond.code M'.1 M'.2.1 M'.2.2.1 M'.2.2.2.1 ∈ mj_G ∧ Jvm.Cond.initialized M'.1.cls ∈ mj_G ∧ (M'.1.cls ≠ "java/lang/invoke/MethodHandle" ∧ M'.1.cls ≠ "java/lang/invoke/VarHandle" ∧ (parseMethodDescriptor M'.1.desc).map (fun d => d.parameters.length) = some n)
def mj_LL (own : String) (idx : Nat) (M' : mj_M) : Prop := Jvm.Cond.methodLink own idx M'.1 ∈ mj_G ∨ ∃ host, Jvm.Cond.methodLinkNest own idx M'.1 host ∈ mj_N
def mj_ob (h : mj_H) (b ci : Nat) : Bool := match h[b]? with
  | some (.inr q) => q.1 == ci
  | _ => false
theorem mj_ob_at {h : mj_H} {b ci : Nat} (e : mj_ob h b ci = true) : ∃ fs : List Value, h[b]? = some (.inr (ci, fs)) := by
  unfold mj_ob at e
  split at e
  next q hq => exact ⟨q.2, by rw [hq, ← (beq_iff_eq.mp e)]⟩
  next => cases e
theorem mj_cat (ad : Nat → Nat) (st : List Value) : ((st.map (mj_v ad)).map fun v => v.category).sum = (st.map fun v => v.category).sum := by
  rw [List.map_map]
  congr 1
  exact List.map_congr_left fun v _ => mj_v_cat ad v
theorem mj_callV {M : mj_M} {Fin : mj_F} {pc : Nat} {l : List (Nat × Value)} {st rest : List Value} {h h' : mj_H} {k n : Nat} {idx b ci np : Nat} {T : u_T} {N : Nat} {r : Option Value} (M' : mj_M) (as : List Value) (a : Nat) (ha : M.2.2.2.2.2[a]? = some (pc, .invokevirtual idx, 3)) (hL : mj_LL M.1.cls idx M') (hB : mj_LB M' np) (hi : Jvm.Cond.instanceMethod M'.1 ∈ mj_G ∧ Jvm.Cond.selects M'.1.cls M'.1 M'.1 ∈ mj_G) (hm : mj_rm M.2.2.2.2.1 M') (hci : vwCl[ci]? = some (M'.1.cls, T, N)) (hob : mj_ob h b ci = true) (hnp : as.length = np) (hst : st = as.reverse ++ .ref b :: rest) (hcat : (rest.map fun v => v.category).sum ≤ 8) (hk : k + M'.2.2.2.2.1.cells ≤ M.2.2.2.2.1.cells ∧ n + M'.2.2.2.2.1.slots ≤ M.2.2.2.2.1.slots) (hM : mj_Met M' (.ref b :: as) h r h')
    (kk : mj_W M Fin (pc + 3) l (r.toList ++ rest) h' (k + M'.2.2.2.2.1.cells) (n + M'.2.2.2.2.1.slots)) : mj_W M Fin pc l st h k n := by
  intro p lc e s m args below meth c H locs ls A Q dC dI cy ad ad0 n0 CX I hl hcl hcs hag hn hz hret
  have CX' := CX
  obtain ⟨hx, hb, hml, hr, hown, hts, hlk, hnm, hN, hT⟩ := CX
  subst hst
  have hca : ∀ v ∈ Value.ref b :: as, mj_cv h.length v := by
    intro v hv
    rcases List.mem_cons.mp hv with rfl | hv
    · exact hcs _ (List.mem_append_right _ List.mem_cons_self)
    · exact hcs _ (List.mem_append_left _ (List.mem_reverse.mpr hv))
  have hcr : ∀ v ∈ rest, mj_cv h.length v := fun v hv => hcs _ (List.mem_append_right _ (List.mem_cons_of_mem _ hv))
  have hMt := hM lc dC dI cy ad H.size hca
  have hrecv : ∃ cellB : Cell, H[ad b]? = some cellB ∧ cellB.vm.isStatics = false ∧ s.vm.findClass M'.1.cls = some cellB.cls := by
    obtain ⟨fs, hq⟩ := mj_ob_at hob
    exact va_recv I.1 I.2.2.2.1 (q0 := b) hci (mj_w_get cy ad hq)
  have hp : PreV s H M'.1.cls (ad b) (va_Pc ((Value.ref b :: as).map (mj_v ad)) (mj_Pre dC dI cy ad h H.size)) (as.map (mj_v ad)) := ⟨mj_blind, hrecv, fun U hU hW => ⟨rfl, mj_pre_at I hN hU hW⟩⟩
  have hstk : ((as.reverse ++ Value.ref b :: rest).map (mj_v ad)) = (as.map (mj_v ad)).reverse ++ .ref (ad b) :: rest.map (mj_v ad) := by
    rw [List.map_append, List.map_reverse]; rfl
  have hGW := mj_ws_good hB.1
  have hd := mj_dec hT ha
  rw [hstk]
  rcases hL with hL | ⟨host, hL⟩
  · exact mj_after kk CX' I hl hcl hcr hag hn hz hret (va_runV (As := as.map (mj_v ad)) (rest := rest.map (mj_v ad)) (nL := M.2.2.1) (Ts := mj_G) (own := M.1.cls) ⟨hx, hb, hml, hown, hts⟩ hMt ⟨callB_of np hts hGW rfl rfl rfl (hts _ hB.2.1) (hts _ hL) hB.2.2 hm, hts _ hi.1, hts _ hi.2⟩ hp rfl (by rw [List.length_map]; exact hnp) hl.1 rfl (by rw [mj_cat]; exact Nat.le_trans (by simp) (Nat.le_trans (Nat.le_of_eq (Nat.zero_add _)) hcat)) hd hk)
  · exact mj_after kk CX' I hl hcl hcr hag hn hz hret (va_runVN (As := as.map (mj_v ad)) (rest := rest.map (mj_v ad)) (nL := M.2.2.1) (Ts := mj_G) (own := M.1.cls) ⟨hx, hb, hml, hown, hts⟩ hMt ⟨va_cnB np hts hGW rfl rfl rfl (hN _ hL) (hts _ hB.2.1) hB.2.2 hm, hts _ hi.1, hts _ hi.2⟩ hp rfl (by rw [List.length_map]; exact hnp) hl.1 rfl (by rw [mj_cat]; exact Nat.le_trans (by simp) (Nat.le_trans (Nat.le_of_eq (Nat.zero_add _)) hcat)) hd hk)
theorem mj_callS {M : mj_M} {Fin : mj_F} {pc : Nat} {l : List (Nat × Value)} {st rest : List Value} {h h' : mj_H} {k n : Nat} {idx np : Nat} {r : Option Value} (M' : mj_M) (as : List Value) (a : Nat) (ha : M.2.2.2.2.2[a]? = some (pc, .invokestatic idx, 3)) (hL : mj_LL M.1.cls idx M') (hB : mj_LB M' np) (hi : Jvm.Cond.static M'.1 ∈ mj_G) (hm : mj_rm M.2.2.2.2.1 M') (hnp : as.length = np) (hst : st = as.reverse ++ rest) (hcat : (rest.map fun v => v.category).sum ≤ 8) (hk : k + M'.2.2.2.2.1.cells ≤ M.2.2.2.2.1.cells ∧ n + M'.2.2.2.2.1.slots ≤ M.2.2.2.2.1.slots) (hM : mj_Met M' as h r h')
    (kk : mj_W M Fin (pc + 3) l (r.toList ++ rest) h' (k + M'.2.2.2.2.1.cells) (n + M'.2.2.2.2.1.slots)) : mj_W M Fin pc l st h k n := by
  intro p lc e s m args below meth c H locs ls A Q dC dI cy ad ad0 n0 CX I hl hcl hcs hag hn hz hret
  have CX' := CX
  obtain ⟨hx, hb, hml, hr, hown, hts, hlk, hnm, hN, hT⟩ := CX
  subst hst
  have hca : ∀ v ∈ as, mj_cv h.length v := fun v hv => hcs _ (List.mem_append_left _ (List.mem_reverse.mpr hv))
  have hcr : ∀ v ∈ rest, mj_cv h.length v := fun v hv => hcs _ (List.mem_append_right _ hv)
  have hMt := hM lc dC dI cy ad H.size hca
  have hp : PreS s H (va_Pc (as.map (mj_v ad)) (mj_Pre dC dI cy ad h H.size)) (as.map (mj_v ad)) := ⟨mj_blind, fun U hU hW => ⟨rfl, mj_pre_at I hN hU hW⟩⟩
  have hstk : ((as.reverse ++ rest).map (mj_v ad)) = (as.map (mj_v ad)).reverse ++ rest.map (mj_v ad) := by
    rw [List.map_append, List.map_reverse]
  have hGW := mj_ws_good hB.1
  have hd := mj_dec hT ha
  rw [hstk]
  rcases hL with hL | ⟨host, hL⟩
  · exact mj_after kk CX' I hl hcl hcr hag hn hz hret (va_runS (As := as.map (mj_v ad)) (rest := rest.map (mj_v ad)) (nL := M.2.2.1) (Ts := mj_G) (own := M.1.cls) ⟨hx, hb, hml, hown, hts⟩ hMt ⟨callB_of np hts hGW rfl rfl rfl (hts _ hB.2.1) (hts _ hL) hB.2.2 hm, hts _ hi⟩ hp rfl (by rw [List.length_map]; exact hnp) hl.1 rfl (by rw [mj_cat]; exact Nat.le_trans (by simp) (Nat.le_trans (Nat.le_of_eq (Nat.zero_add _)) hcat)) hd hk)
  · exact mj_after kk CX' I hl hcl hcr hag hn hz hret (va_runSN (As := as.map (mj_v ad)) (rest := rest.map (mj_v ad)) (nL := M.2.2.1) (Ts := mj_G) (own := M.1.cls) ⟨hx, hb, hml, hown, hts⟩ hMt ⟨va_cnB np hts hGW rfl rfl rfl (hN _ hL) (hts _ hB.2.1) hB.2.2 hm, hts _ hi, trivial⟩ hp rfl (by rw [List.length_map]; exact hnp) hl.1 rfl (by rw [mj_cat]; exact Nat.le_trans (by simp) (Nat.le_trans (Nat.le_of_eq (Nat.zero_add _)) hcat)) hd hk)
theorem mj_callI {M : mj_M} {Fin : mj_F} {pc : Nat} {l : List (Nat × Value)} {st rest : List Value} {h h' : mj_H} {k n : Nat} {idx b np : Nat} (M' : mj_M) (as : List Value) (a : Nat) (ha : M.2.2.2.2.2[a]? = some (pc, .invokespecial idx, 3)) (hL : mj_LL M.1.cls idx M') (hB : mj_LB M' np) (hi : M'.1.name = "<init>" ∧ M'.2.2.2.1 = none ∧ Jvm.Cond.instanceMethod M'.1 ∈ mj_G) (hm : mj_rm M.2.2.2.2.1 M') (hnp : as.length = np) (hst : st = as.reverse ++ .ref b :: rest) (hcat : (rest.map fun v => v.category).sum ≤ 8) (hk : k + M'.2.2.2.2.1.cells ≤ M.2.2.2.2.1.cells ∧ n + M'.2.2.2.2.1.slots ≤ M.2.2.2.2.1.slots) (hM : mj_Met M' (.ref b :: as) h none h')
    (kk : mj_W M Fin (pc + 3) l rest h' (k + M'.2.2.2.2.1.cells) (n + M'.2.2.2.2.1.slots)) : mj_W M Fin pc l st h k n := by
  intro p lc e s m args below meth c H locs ls A Q dC dI cy ad ad0 n0 CX I hl hcl hcs hag hn hz hret
  have CX' := CX
  obtain ⟨hx, hb, hml, hr, hown, hts, hlk, hnm, hN, hT⟩ := CX
  subst hst
  have hca : ∀ v ∈ Value.ref b :: as, mj_cv h.length v := by
    intro v hv
    rcases List.mem_cons.mp hv with rfl | hv
    · exact hcs _ (List.mem_append_right _ List.mem_cons_self)
    · exact hcs _ (List.mem_append_left _ (List.mem_reverse.mpr hv))
  have hcr : ∀ v ∈ rest, mj_cv h.length v := fun v hv => hcs _ (List.mem_append_right _ (List.mem_cons_of_mem _ hv))
  have hMt := hM lc dC dI cy ad H.size hca
  have hp : PreS s H (va_Pc ((Value.ref b :: as).map (mj_v ad)) (mj_Pre dC dI cy ad h H.size)) (.ref (ad b) :: as.map (mj_v ad)) := ⟨mj_blind, fun U hU hW => ⟨rfl, mj_pre_at I hN hU hW⟩⟩
  have hstk : ((as.reverse ++ Value.ref b :: rest).map (mj_v ad)) = (as.map (mj_v ad)).reverse ++ .ref (ad b) :: rest.map (mj_v ad) := by
    rw [List.map_append, List.map_reverse]; rfl
  have hcode : Jvm.Cond.code M'.1 M'.2.1 M'.2.2.1 none ∈ mj_G := by rw [← hi.2.1]; exact hB.1
  have hGW : GoodIn mj_G (mj_ws M') := mj_ws_good hB.1
  have hws : mj_ws M' = Jvm.Cond.code M'.1 M'.2.1 M'.2.2.1 none :: mj_G := by unfold mj_ws; rw [hi.2.1]
  have hd := mj_dec hT ha
  rw [hstk]
  rcases hL with hL | ⟨host, hL⟩
  · exact mj_after (r := none) kk CX' I hl hcl hcr hag hn hz hret (va_runI (As := as.map (mj_v ad)) (rest := rest.map (mj_v ad)) (nL := M.2.2.1) (Ts := mj_G) (own := M.1.cls) ⟨hx, hb, hml, hown, hts⟩ hMt ⟨callB_of np hts hGW hws rfl rfl (hts _ hB.2.1) (hts _ hL) hB.2.2 hm, hi.1, hts _ hi.2.2⟩ hp rfl (by rw [List.length_map]; exact hnp) hl.1 rfl (by rw [mj_cat]; exact Nat.le_trans (by simp) (Nat.le_trans (Nat.le_of_eq (Nat.zero_add _)) hcat)) hd hk)
  · exact mj_after (r := none) kk CX' I hl hcl hcr hag hn hz hret (va_runIN (As := as.map (mj_v ad)) (rest := rest.map (mj_v ad)) (nL := M.2.2.1) (Ts := mj_G) (own := M.1.cls) ⟨hx, hb, hml, hown, hts⟩ hMt ⟨va_cnB np hts hGW hws rfl rfl (hN _ hL) (hts _ hB.2.1) hB.2.2 hm, hi.1, hts _ hi.2.2⟩ hp rfl (by rw [List.length_map]; exact hnp) hl.1 rfl (by rw [mj_cat]; exact Nat.le_trans (by simp) (Nat.le_trans (Nat.le_of_eq (Nat.zero_add _)) hcat)) hd hk)
/-- Object's own constructor -/
theorem mj_obj {M : mj_M} {Fin : mj_F} {pc : Nat} {l : List (Nat × Value)} {st : List Value} {h : mj_H} {k n : Nat} {idx b : Nat} (a : Nat) (ha : M.2.2.2.2.2[a]? = some (pc, .invokespecial idx, 3)) (hw : Jvm.Cond.methodLink M.1.cls idx Lib.objectInit ∈ mj_G ∧ Jvm.Cond.instanceMethod Lib.objectInit ∈ mj_G ∧ Jvm.Cond.code Lib.objectInit ⟨#[0xb1]⟩ 1 none ∈ mj_G) (hm : 1 ≤ M.2.2.2.2.1.frames ∧ (st.map fun v => v.category).sum + 12 ≤ M.2.2.2.2.1.locals) (kk : mj_W M Fin (pc + 3) l st h k n) : mj_W M Fin pc l (.ref b :: st) h k n := by
  intro p lc e s m args below meth c H locs ls A Q dC dI cy ad ad0 n0 CX I hl hcl hcs hag hn hz hret
  have CX' := CX
  obtain ⟨hx, hb, hml, hr, hown, hts, hlk, hnm, hN, hT⟩ := CX
  have hd := mj_dec hT ha
  refine W.objInit hx hb hown (hts _ hw.1) (hts _ hw.2.1) (hts _ hw.2.2) rfl (by rw [hml]; exact hl.1) rfl hd hm.1 (by rw [mj_cat]; exact Nat.le_trans (by simp) hm.2) ?_
  exact W.eq (g2 := F0 m (pc + 3) ls (st.map (mj_v ad))) rfl (kk p lc e s m args below meth c H locs ls A Q dC dI cy ad ad0 n0 CX' I hl hcl (mj_tl hcs) hag hn hz hret)
