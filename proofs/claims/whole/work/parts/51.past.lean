/-! PURE: the class's past -/
def PSn (h : mj_H) (p c n : Nat) (S : Nat → Nat) : Prop := ∃ o, o < 8 ∧ n ≤ 8 ∧ h[p]? = some (cO 3 [.ref (p + 1), .ref (p + 2), .ref (p + 3), .int (nI o), .int (nI n)]) ∧ (∃ w, h[p + 1]? = some (cJ 288 w) ∧ ∀ u, u < n → ∀ i, i < 6 * c → w ((o + u) % 8 * 36 + i) = lN (S (54 + 38 * u + i))) ∧ (∃ f, h[p + 2]? = some (cI 8 f) ∧ ∀ u, u < n → f ((o + u) % 8) = nI (S (53 + 38 * u))) ∧ ∃ d, h[p + 3]? = some (cI 8 d) ∧ ∀ u, u < n → d ((o + u) % 8) = nI (S (52 + 38 * u))
def PS (h : mj_H) (p : Nat) (T : Nat → Nat) : Prop := PSn h p (T 0) (T 3) T
theorem PSn.fr {h h' : mj_H} {p c n : Nat} {S : Nat → Nat} (b : PSn h p c n S) (e : ∀ k, p ≤ k → k < p + 4 → h'[k]? = h[k]?) : PSn h' p c n S := by
  obtain ⟨o, o1, o2, b1, ⟨w, b2, b3⟩, ⟨f, b4, b5⟩, d, b6, b7⟩ := b
  exact ⟨o, o1, o2, by rw [e p (by omega) (by omega)]; exact b1, ⟨w, by rw [e _ (by omega) (by omega)]; exact b2, b3⟩, ⟨f, by rw [e _ (by omega) (by omega)]; exact b4, b5⟩, d, by rw [e _ (by omega) (by omega)]; exact b6, b7⟩
theorem PS.fr {h h' : mj_H} {p : Nat} {T : Nat → Nat} (b : PS h p T) (e : ∀ k, p ≤ k → k < p + 4 → h'[k]? = h[k]?) : PS h' p T := PSn.fr b e
theorem PSn.co {h : mj_H} {p c n : Nat} {S S' : Nat → Nat} (b : PSn h p c n S) (e : ∀ u, u < n → S' (52 + 38 * u) = S (52 + 38 * u) ∧ S' (53 + 38 * u) = S (53 + 38 * u) ∧ ∀ i, i < 6 * c → S' (54 + 38 * u + i) = S (54 + 38 * u + i)) : PSn h p c n S' := by
  obtain ⟨o, o1, o2, b1, ⟨w, b2, b3⟩, ⟨f, b4, b5⟩, d, b6, b7⟩ := b
  exact ⟨o, o1, o2, b1, ⟨w, b2, fun u hu i hi => by rw [(e u hu).2.2 i hi]; exact b3 u hu i hi⟩, ⟨f, b4, fun u hu => by rw [(e u hu).2.1]; exact b5 u hu⟩, d, b6, fun u hu => by rw [(e u hu).1]; exact b7 u hu⟩
theorem PSn.ob {h : mj_H} {p c n : Nat} {S : Nat → Nat} (b : PSn h p c n S) : mj_ob h p 3 = true := by
  obtain ⟨o, o1, o2, b1, -⟩ := b
  exact ob_r b1
theorem X3_forget_s {h : mj_H} {p c n : Nat} {S : Nat → Nat} (b : PSn h p c n S) : ∃ h', f_X3_forget p h = some h' ∧ (∀ c' S', PSn h' p c' 0 S') ∧ h'.length = h.length ∧ ∀ k, k ≠ p → h'[k]? = h[k]? := by
  obtain ⟨o, o1, o2, b1, ⟨w, b2, b3⟩, ⟨f, b4, b5⟩, d, b6, b7⟩ := b
  refine ⟨h.set p (cO 3 [.ref (p + 1), .ref (p + 2), .ref (p + 3), .int (nI o), .int 0]), by simp [f_X3_forget, sV_r _ b1], fun c' S' => ⟨o, o1, by omega, get_self b1, ⟨w, get_set b2 (by omega), fun u hu => by omega⟩, ⟨f, get_set b4 (by omega), fun u hu => by omega⟩, d, get_set b6 (by omega), fun u hu => by omega⟩, by simp, fun k hk => List.getElem?_set_ne (by omega)⟩
/-- the slots when the oldest is dropped -/
def dropS (S : Nat → Nat) : Nat → Nat := fun j => S (j + 38)
/-- the slots with the present laid on the n-th -/
def layS (S T : Nat → Nat) (n : Nat) : Nat → Nat := fun j => if j < 52 + 38 * n then S j else if j = 52 + 38 * n then T 1 else if j = 53 + 38 * n then T 2 else if j < 54 + 38 * n + 36 then T (16 + (j - (54 + 38 * n))) else S j
theorem X3_push32_s {h : mj_H} {T S : Nat → Nat} {n : Nat} (b : BN h 1 T) (c : PSn h 7 (T 0) n S) (hn : n < 8) : ∃ h', f_X3_push_32 7 1 h = some h' ∧ PSn h' 7 (T 0) (n + 1) (layS S T n) ∧ h'.length = h.length ∧ ∀ k, (k < 7 ∨ 11 ≤ k) → h'[k]? = h[k]? := by
  obtain ⟨b0, b1, ⟨ww, b2, b3⟩, -⟩ := b
  obtain ⟨o, o1, o2, c1, ⟨w, c2, c3⟩, ⟨f, c4, c5⟩, d, c6, c7⟩ := c
  have hs : (o + n) % 8 < 8 := Nat.mod_lt _ (by decide)
  have e1 : (nI o + nI n) - (nI o + nI n) / (8 : Int32) * (8 : Int32) = nI ((o + n) % 8) := by
    rw [nI_add]; exact pk_rem (d := 8) (by omega) (by decide) (by decide)
  have e2 : nI ((o + n) % 8) * (36 : Int32) = nI ((o + n) % 8 * 36) := pk_mul _ 36
  have e3 : (0 : Int32) ≤ nI ((o + n) % 8) := nI_le (a := 0) (by omega) (by omega)
  obtain ⟨s, hse⟩ : ∃ s, s = (o + n) % 8 := ⟨_, rfl⟩
  rw [← hse] at e1 e2 e3 hs
  have r1 := cpJ_r (s := 0) (d := s * 36) (n := 36) b2 c2 (by omega) (by omega) (by decide) (by decide)
  rw [nI_0] at r1
  have r2 := uI_r (nI (T 2)) (get_set (c := cJ 288 (va_cpy ww w 0 (s * 36) 36)) c4 (show 7 + 1 ≠ 7 + 2 by decide)) (show s < 8 by omega) (by decide)
  have r3 := uI_r (nI (T 1)) (get_set (c := cI 8 (upd f s (nI (T 2)))) (get_set (c := cJ 288 (va_cpy ww w 0 (s * 36) 36)) c6 (show 7 + 1 ≠ 7 + 3 by decide)) (show 7 + 2 ≠ 7 + 3 by decide)) (show s < 8 by omega) (by decide)
  have d1 := get_set (c := cJ 288 (va_cpy ww w 0 (s * 36) 36)) c1 (show 7 + 1 ≠ 7 by decide)
  have d2 := get_set (c := cI 8 (upd f s (nI (T 2)))) d1 (show 7 + 2 ≠ 7 by decide)
  have d3 := get_set (c := cI 8 (upd d s (nI (T 1)))) d2 (show 7 + 3 ≠ 7 by decide)
  have g1 := get_set (c := cJ 288 (va_cpy ww w 0 (s * 36) 36)) b1 (show 7 + 1 ≠ 1 by decide)
  have g2 := get_set (c := cI 8 (upd f s (nI (T 2)))) g1 (show 7 + 2 ≠ 1 by decide)
  refine ⟨(((h.set (7 + 1) (cJ 288 (va_cpy ww w 0 (s * 36) 36))).set (7 + 2) (cI 8 (upd f s (nI (T 2))))).set (7 + 3) (cI 8 (upd d s (nI (T 1))))).set 7 (cO 3 [.ref (7 + 1), .ref (7 + 2), .ref (7 + 3), .int (nI o), .int (nI (n + 1))]), ?_, ?_, by simp, ?_⟩
  · have y1 := gI_r (k := 3) (x := nI o) c1 rfl
    have y2 := gI_r (k := 4) (x := nI n) c1 rfl
    have y3 := gR_r (k := 0) (q := 1 + 1) b1 rfl
    have y4 := gR_r (k := 0) (q := 7 + 1) c1 rfl
    have y5 := gR_r (k := 1) (q := 7 + 2) d1 rfl
    have y6 := gI_r (k := 5) (x := nI (T 2)) g1 rfl
    have y7 := gR_r (k := 2) (q := 7 + 3) d2 rfl
    have y8 := gI_r (k := 6) (x := nI (T 1)) g2 rfl
    have y9 := gI_r (k := 4) (x := nI n) d3 rfl
    have y10 := sV_r (k := 4) (.int (nI (n + 1))) d3 (by simp)
    have e36 : (36 : Int32) = nI 36 := rfl
    rw [e36] at e2
    simp only [f_X3_push_32, y1, y2, Option.bind_some, e1, if_pos e3, y3, y4, e36, e2, r1, y5, y6, r2, y7, y8, r3, y9, nI_1, y10]
    rfl
  · refine ⟨o, o1, by omega, get_self d3, ⟨_, get_set (get_set (get_set (get_self c2) (by decide)) (by decide)) (by decide), fun u hu i hi => ?_⟩, ⟨_, get_set (get_set (get_self (get_set c4 (by decide))) (by decide)) (by decide), fun u hu => ?_⟩, _, get_set (get_self (get_set (get_set c6 (by decide)) (by decide))) (by decide), fun u hu => ?_⟩
    · by_cases q : u = n
      · subst q
        rw [← hse, pk_cpy_in (by omega) (by omega), show 0 + (s * 36 + i - s * 36) = i by omega, b3 i hi]
        unfold layS
        rw [if_neg (by omega), if_neg (by omega), if_neg (by omega), if_pos (by omega), show 54 + 38 * u + i - (54 + 38 * u) = i by omega]
      · rw [pk_cpy_out (by omega), c3 u (by omega) i hi]
        unfold layS
        rw [if_pos (by omega)]
    · by_cases q : u = n
      · subst q
        rw [← hse, pk_us]
        unfold layS
        rw [if_neg (by omega), if_neg (by omega), if_pos rfl]
      · rw [pk_un (by omega), c5 u (by omega)]
        unfold layS
        rw [if_pos (by omega)]
    · by_cases q : u = n
      · subst q
        rw [← hse, pk_us]
        unfold layS
        rw [if_neg (by omega), if_pos rfl]
      · rw [pk_un (by omega), c7 u (by omega)]
        unfold layS
        rw [if_pos (by omega)]
  · intro k hk
    rw [List.getElem?_set_ne (by omega), List.getElem?_set_ne (by omega), List.getElem?_set_ne (by omega), List.getElem?_set_ne (by omega)]
/-- the muster once the present was remembered -/
def pushT (T : Nat → Nat) : Nat → Nat := fun j => if j = 3 then (if T 3 = 8 then 8 else T 3 + 1) else if j < 52 then T j else if T 3 = 8 then layS (dropS T) T 7 j else layS T T (T 3) j
theorem pushT_lo {T : Nat → Nat} {j : Nat} (h : j < 52) (h3 : j ≠ 3) : pushT T j = T j := by
  unfold pushT; rw [if_neg h3, if_pos h]
theorem X3_push_s {h : mj_H} {T : Nat → Nat} (b : BN h 1 T) (c : PS h 7 T) : ∃ h', f_X3_push 7 1 h = some h' ∧ PS h' 7 (pushT T) ∧ h'.length = h.length ∧ ∀ k, (k < 7 ∨ 11 ≤ k) → h'[k]? = h[k]? := by
  have t0 : pushT T 0 = T 0 := pushT_lo (by decide) (by decide)
  have c' := c
  obtain ⟨o, o1, o2, c1, ⟨w, c2, c3⟩, ⟨f, c4, c5⟩, d, c6, c7⟩ := c'
  by_cases q : T 3 = 8
  · have e1 : (nI o + (1 : Int32)) - (nI o + (1 : Int32)) / (8 : Int32) * (8 : Int32) = nI ((o + 1) % 8) := by
      rw [nI_1]; exact pk_rem (d := 8) (by omega) (by decide) (by decide)
    have e2 : nI (T 3) - (1 : Int32) = nI 7 := by rw [q]; decide
    have c1s := get_self (c := cO 3 [.ref (7 + 1), .ref (7 + 2), .ref (7 + 3), .int (nI ((o + 1) % 8)), .int (nI (T 3))]) c1
    have c1t := get_self (c := cO 3 [.ref (7 + 1), .ref (7 + 2), .ref (7 + 3), .int (nI ((o + 1) % 8)), .int (nI 7)]) c1
    have b' : BN (h.set 7 (cO 3 [.ref (7 + 1), .ref (7 + 2), .ref (7 + 3), .int (nI ((o + 1) % 8)), .int (nI 7)])) 1 T := b.set (by omega)
    have cc : PSn (h.set 7 (cO 3 [.ref (7 + 1), .ref (7 + 2), .ref (7 + 3), .int (nI ((o + 1) % 8)), .int (nI 7)])) 7 (T 0) 7 (dropS T) := by
      refine ⟨(o + 1) % 8, by omega, by omega, c1t, ⟨w, get_set c2 (by decide), fun u hu i hi => ?_⟩, ⟨f, get_set c4 (by decide), fun u hu => ?_⟩, d, get_set c6 (by decide), fun u hu => ?_⟩
      · rw [show ((o + 1) % 8 + u) % 8 = (o + (u + 1)) % 8 by omega, c3 (u + 1) (by omega) i hi]; unfold dropS; congr 2; omega
      · rw [show ((o + 1) % 8 + u) % 8 = (o + (u + 1)) % 8 by omega, c5 (u + 1) (by omega)]; unfold dropS; congr 2
      · rw [show ((o + 1) % 8 + u) % 8 = (o + (u + 1)) % 8 by omega, c7 (u + 1) (by omega)]; unfold dropS; congr 2
    obtain ⟨h', a1, a2, a3, a4⟩ := X3_push32_s b' cc (by decide)
    refine ⟨h', ?_, ?_, by rw [a3]; simp, fun k hk => (a4 k hk).trans (List.getElem?_set_ne (by omega))⟩
    · rw [← a1]
      have x1 : nI (T 3) = (8 : Int32) := by rw [q]; rfl
      have z1 : mj_sV h 7 3 3 (.int (nI ((o + 1) % 8))) = some (h.set 7 (cO 3 [.ref (7 + 1), .ref (7 + 2), .ref (7 + 3), .int (nI ((o + 1) % 8)), .int (nI (T 3))])) := sV_r _ c1 (by simp)
      have z2 : mj_sV (h.set 7 (cO 3 [.ref (7 + 1), .ref (7 + 2), .ref (7 + 3), .int (nI ((o + 1) % 8)), .int (nI (T 3))])) 7 3 4 (.int (nI 7)) = some (h.set 7 (cO 3 [.ref (7 + 1), .ref (7 + 2), .ref (7 + 3), .int (nI ((o + 1) % 8)), .int (nI 7)])) := sV_s _ c1 (by simp)
      simp only [f_X3_push, gI_r (k := 4) (x := nI (T 3)) c1 rfl, Option.bind_some, if_pos x1, gI_r (k := 3) (x := nI o) c1 rfl, e1, z1, gI_r (k := 4) (x := nI (T 3)) c1s rfl, e2, z2]
    · unfold PS
      rw [t0, show pushT T 3 = 8 by simp [pushT, q]]
      refine a2.co (fun u hu => ⟨?_, ?_, fun i hi => ?_⟩)
      · unfold pushT; rw [if_neg (by omega), if_neg (by omega), if_pos q]
      · unfold pushT; rw [if_neg (by omega), if_neg (by omega), if_pos q]
      · unfold pushT; rw [if_neg (by omega), if_neg (by omega), if_pos q]
  · obtain ⟨h', a1, a2, a3, a4⟩ := X3_push32_s b c (by omega)
    refine ⟨h', ?_, ?_, a3, a4⟩
    · rw [← a1]
      have x1 : ¬ nI (T 3) = (8 : Int32) := fun z => q ((nI_eq (b := 8) (by omega) (by decide)).mp z)
      simp [f_X3_push, mj_gI, mj_gV, c1, x1]
    · unfold PS
      rw [t0, show pushT T 3 = T 3 + 1 by simp [pushT, q]]
      refine a2.co (fun u hu => ⟨?_, ?_, fun i hi => ?_⟩)
      · unfold pushT; rw [if_neg (by omega), if_neg (by omega), if_neg q]
      · unfold pushT; rw [if_neg (by omega), if_neg (by omega), if_neg q]
      · unfold pushT; rw [if_neg (by omega), if_neg (by omega), if_neg q]
/-- the muster once the last test was undone -/
def popT (T : Nat → Nat) : Nat → Nat := fun j => if j = 3 then T 3 - 1 else if j = 1 then T (52 + 38 * (T 3 - 1)) else if j = 2 then T (53 + 38 * (T 3 - 1)) else if 16 ≤ j ∧ j < 52 then T (54 + 38 * (T 3 - 1) + (j - 16)) else T j
theorem X3_pop_s {h : mj_H} {T : Nat → Nat} (b : BN h 1 T) (c : PS h 7 T) : (T 3 = 0 → f_X3_pop 7 1 h = some (0, h)) ∧ (0 < T 3 → ∃ h', f_X3_pop 7 1 h = some (1, h') ∧ BN h' 1 (popT T) ∧ PS h' 7 (popT T) ∧ h'.length = h.length ∧ ∀ k, (k < 1 ∨ 11 ≤ k) → h'[k]? = h[k]?) := by
  obtain ⟨b0, b1, ⟨ww, b2, b3⟩, ⟨sg, b4, b5⟩, ⟨br, b6, b7⟩, b8, g, b9⟩ := b
  obtain ⟨o, o1, o2, c1, ⟨w, c2, c3⟩, ⟨f, c4, c5⟩, d, c6, c7⟩ := c
  refine ⟨fun q => ?_, fun q => ?_⟩
  · have x1 : ¬ (0 : Int32) < nI (T 3) := by rw [q]; decide
    simp [f_X3_pop, mj_gI, mj_gV, c1, x1]
  · obtain ⟨n, hn⟩ : ∃ n, T 3 = n + 1 := ⟨T 3 - 1, by omega⟩
    have x1 : (0 : Int32) < nI (n + 1) := nI_lt (a := 0) (by omega) (by omega)
    rw [hn] at c1
    obtain ⟨s, hse⟩ : ∃ s, s = (o + n) % 8 := ⟨_, rfl⟩
    have e1 : (nI o + nI n) - (nI o + nI n) / (8 : Int32) * (8 : Int32) = nI s := by
      rw [nI_add, hse]; exact pk_rem (d := 8) (by omega) (by decide) (by decide)
    have e2 : nI s * nI 36 = nI (s * 36) := pk_mul _ 36
    have e3 : (0 : Int32) ≤ nI s := nI_le (a := 0) (by omega) (by omega)
    have e36 : (36 : Int32) = nI 36 := rfl
    have k1 := get_self (c := cO 3 [.ref (7 + 1), .ref (7 + 2), .ref (7 + 3), .int (nI o), .int (nI n)]) c1
    have r1 := cpJ_r (s := s * 36) (d := 0) (n := 36) (get_set (c := cO 3 [.ref (7 + 1), .ref (7 + 2), .ref (7 + 3), .int (nI o), .int (nI n)]) c2 (show 7 ≠ 7 + 1 by decide)) (get_set (c := cO 3 [.ref (7 + 1), .ref (7 + 2), .ref (7 + 3), .int (nI o), .int (nI n)]) b2 (show 7 ≠ 1 + 1 by decide)) (by omega) (by omega) (by decide) (by decide)
    rw [nI_0] at r1
    have k2 := get_set (c := cJ 36 (va_cpy w ww (s * 36) 0 36)) k1 (show 1 + 1 ≠ 7 by decide)
    have g1 := get_set (c := cJ 36 (va_cpy w ww (s * 36) 0 36)) (get_set (c := cO 3 [.ref (7 + 1), .ref (7 + 2), .ref (7 + 3), .int (nI o), .int (nI n)]) b1 (show 7 ≠ 1 by decide)) (show 1 + 1 ≠ 1 by decide)
    have f1 := get_set (c := cJ 36 (va_cpy w ww (s * 36) 0 36)) (get_set (c := cO 3 [.ref (7 + 1), .ref (7 + 2), .ref (7 + 3), .int (nI o), .int (nI n)]) c4 (show 7 ≠ 7 + 2 by decide)) (show 1 + 1 ≠ 7 + 2 by decide)
    have d1 := get_set (c := cJ 36 (va_cpy w ww (s * 36) 0 36)) (get_set (c := cO 3 [.ref (7 + 1), .ref (7 + 2), .ref (7 + 3), .int (nI o), .int (nI n)]) c6 (show 7 ≠ 7 + 3 by decide)) (show 1 + 1 ≠ 7 + 3 by decide)
    have k3 : ∀ cc, (((h.set 7 (cO 3 [.ref (7 + 1), .ref (7 + 2), .ref (7 + 3), .int (nI o), .int (nI n)])).set (1 + 1) (cJ 36 (va_cpy w ww (s * 36) 0 36))).set 1 cc)[7]? = _ := fun cc => get_set k2 (show 1 ≠ 7 by decide)
    have d2 : ∀ cc, (((h.set 7 (cO 3 [.ref (7 + 1), .ref (7 + 2), .ref (7 + 3), .int (nI o), .int (nI n)])).set (1 + 1) (cJ 36 (va_cpy w ww (s * 36) 0 36))).set 1 cc)[7 + 3]? = _ := fun cc => get_set d1 (show 1 ≠ 7 + 3 by decide)
    have a1 := aI_r f1 (show s < 8 by omega) (by decide)
    have fs : f s = nI (T (53 + 38 * n)) := by rw [hse]; exact c5 n (by omega)
    have ds : d s = nI (T (52 + 38 * n)) := by rw [hse]; exact c7 n (by omega)
    rw [fs] at a1
    have u1 := sV_r (k := 5) (.int (nI (T (53 + 38 * n)))) g1 (by simp)
    have y1 := gI_r (k := 4) (x := nI (n + 1)) c1 rfl
    have y2 := sV_r (k := 4) (.int (nI n)) c1 (by simp)
    have y3 := gI_r (k := 3) (x := nI o) k1 rfl
    have y4 := gI_r (k := 4) (x := nI n) k1 rfl
    have y5 := gR_r (k := 0) (q := 7 + 1) k1 rfl
    have y6 := gR_r (k := 0) (q := 1 + 1) (get_set (c := cO 3 [.ref (7 + 1), .ref (7 + 2), .ref (7 + 3), .int (nI o), .int (nI n)]) b1 (show 7 ≠ 1 by decide)) rfl
    have y7 := gR_r (k := 1) (q := 7 + 2) k2 rfl
    refine ⟨((h.set 7 (cO 3 [.ref (7 + 1), .ref (7 + 2), .ref (7 + 3), .int (nI o), .int (nI n)])).set (1 + 1) (cJ 36 (va_cpy w ww (s * 36) 0 36))).set 1 (cO 0 [.ref (1 + 1), .ref (1 + 2), .ref (1 + 3), .ref (1 + 4), .int (nI (T 0)), .int (nI (T (53 + 38 * n))), .int (nI (T (52 + 38 * n)))]), ?_, ?_, ?_, by simp, ?_⟩
    · have y8 : ∀ cc, mj_gR (((h.set 7 (cO 3 [.ref (7 + 1), .ref (7 + 2), .ref (7 + 3), .int (nI o), .int (nI n)])).set (1 + 1) (cJ 36 (va_cpy w ww (s * 36) 0 36))).set 1 cc) 7 3 2 = some (7 + 3) := fun cc => gR_r (k3 cc) rfl
      have y9 : ∀ cc, mj_aI (((h.set 7 (cO 3 [.ref (7 + 1), .ref (7 + 2), .ref (7 + 3), .int (nI o), .int (nI n)])).set (1 + 1) (cJ 36 (va_cpy w ww (s * 36) 0 36))).set 1 cc) (7 + 3) (nI s) = some (nI (T (52 + 38 * n))) := fun cc => by rw [aI_r (d2 cc) (show s < 8 by omega) (by decide), ds]
      have y2' : mj_sV h 7 3 4 (.int (nI (n + 1) - 1)) = some (h.set 7 (cO 3 [.ref (7 + 1), .ref (7 + 2), .ref (7 + 3), .int (nI o), .int (nI n)])) := by rw [nI_pred]; exact y2
      simp only [f_X3_pop, y1, Option.bind_some, if_pos x1, y2', y3, y4, e1, if_pos e3, y5, y6, e36, e2, r1, y7, a1, u1, y8, y9]
      rw [sV_s _ g1 (by simp)]
      rfl
    · have p0 : popT T 0 = T 0 := by simp [popT]
      have p1 : popT T 1 = T (52 + 38 * n) := by simp [popT, hn]
      have p2 : popT T 2 = T (53 + 38 * n) := by simp [popT, hn]
      refine ⟨by rw [p0]; exact b0, by rw [p0, p1, p2]; exact get_self g1, ⟨_, get_set (get_self (get_set b2 (by decide))) (by decide), fun i hi => ?_⟩, ⟨sg, get_set (get_set (get_set b4 (by decide)) (by decide)) (by decide), fun m hm => ?_⟩, ⟨br, get_set (get_set (get_set b6 (by decide)) (by decide)) (by decide), fun m hm => ?_⟩, get_set (get_set (get_set b8 (by decide)) (by decide)) (by decide), g, get_set (get_set (get_set b9 (by decide)) (by decide)) (by decide)⟩
      · rw [p0] at hi
        rw [pk_cpy_in (by omega) (by omega), Nat.sub_zero, hse, c3 n (by omega) i hi]
        unfold popT
        rw [if_neg (by omega), if_neg (by omega), if_neg (by omega), if_pos (by omega), hn, show n + 1 - 1 = n by omega, show 16 + i - 16 = i by omega]
      · rw [p0] at hm
        rw [b5 m hm]; unfold popT
        rw [if_neg (by omega), if_neg (by omega), if_neg (by omega), if_neg (by omega)]
      · rw [p0] at hm
        rw [b7 m hm]; unfold popT
        rw [if_neg (by omega), if_neg (by omega), if_neg (by omega), if_neg (by omega)]
    · have p0 : popT T 0 = T 0 := by simp [popT]
      have p3 : popT T 3 = n := by simp [popT, hn]
      unfold PS
      rw [p0, p3]
      have hi : ∀ j, 52 ≤ j → popT T j = T j := fun j hj => by unfold popT; rw [if_neg (by omega), if_neg (by omega), if_neg (by omega), if_neg (by omega)]
      refine ⟨o, o1, by omega, k3 _, ⟨w, get_set (get_set (get_set c2 (by decide)) (by decide)) (by decide), fun u hu i hi2 => ?_⟩, ⟨f, get_set (get_set (get_set c4 (by decide)) (by decide)) (by decide), fun u hu => ?_⟩, d, d2 _, fun u hu => ?_⟩
      · rw [hi _ (by omega)]; exact c3 u (by omega) i hi2
      · rw [hi _ (by omega)]; exact c5 u (by omega)
      · rw [hi _ (by omega)]; exact c7 u (by omega)
    · intro k hk
      rw [List.getElem?_set_ne (by omega), List.getElem?_set_ne (by omega), List.getElem?_set_ne (by omega)]
theorem X3_become_s {h : mj_H} {p q : Nat} {T U : Nat → Nat} (b : PS h p T) (c : PS h q U) (hu6 : U 0 ≤ 6) (d : p + 4 ≤ q ∨ q + 4 ≤ p) : ∃ h', f_X3_become p q h = some h' ∧ PS h' p U ∧ h'.length = h.length ∧ ∀ k, (k < p ∨ p + 4 ≤ k) → h'[k]? = h[k]? := by
  obtain ⟨o, o1, o2, b1, ⟨w, b2, b3⟩, ⟨sg, b4, b5⟩, br, b6, b7⟩ := b
  obtain ⟨o', o1', o2', c1, ⟨w', c2, c3⟩, ⟨sg', c4, c5⟩, br', c6, c7⟩ := c
  have r1 := cpJ_r (s := 0) (d := 0) (n := 288) c2 b2 (by decide) (by decide) (by decide) (by decide)
  have b1a := get_set (c := cJ 288 (va_cpy w' w 0 0 288)) b1 (show p + 1 ≠ p by omega)
  have c1a := get_set (c := cJ 288 (va_cpy w' w 0 0 288)) c1 (show p + 1 ≠ q by omega)
  have b4a := get_set (c := cJ 288 (va_cpy w' w 0 0 288)) b4 (show p + 1 ≠ p + 2 by omega)
  have c4a := get_set (c := cJ 288 (va_cpy w' w 0 0 288)) c4 (show p + 1 ≠ q + 2 by omega)
  have r2 := cpI_r (s := 0) (d := 0) (n := 8) c4a b4a (by decide) (by decide) (by decide) (by decide)
  have b1b := get_set (c := cI 8 (va_cpy sg' sg 0 0 8)) b1a (show p + 2 ≠ p by omega)
  have c1b := get_set (c := cI 8 (va_cpy sg' sg 0 0 8)) c1a (show p + 2 ≠ q by omega)
  have b6b := get_set (c := cI 8 (va_cpy sg' sg 0 0 8)) (get_set (c := cJ 288 (va_cpy w' w 0 0 288)) b6 (show p + 1 ≠ p + 3 by omega)) (show p + 2 ≠ p + 3 by omega)
  have c6b := get_set (c := cI 8 (va_cpy sg' sg 0 0 8)) (get_set (c := cJ 288 (va_cpy w' w 0 0 288)) c6 (show p + 1 ≠ q + 3 by omega)) (show p + 2 ≠ q + 3 by omega)
  have r3 := cpI_r (s := 0) (d := 0) (n := 8) c6b b6b (by decide) (by decide) (by decide) (by decide)
  have b1c := get_set (c := cI 8 (va_cpy br' br 0 0 8)) b1b (show p + 3 ≠ p by omega)
  have c1c := get_set (c := cI 8 (va_cpy br' br 0 0 8)) c1b (show p + 3 ≠ q by omega)
  rw [nI_0] at r1 r2 r3
  have c1d : ∀ cc, ((((h.set (p + 1) (cJ 288 (va_cpy w' w 0 0 288))).set (p + 2) (cI 8 (va_cpy sg' sg 0 0 8))).set (p + 3) (cI 8 (va_cpy br' br 0 0 8))).set p cc)[q]? = _ := fun cc => get_set c1c (show p ≠ q by omega)
  refine ⟨(((h.set (p + 1) (cJ 288 (va_cpy w' w 0 0 288))).set (p + 2) (cI 8 (va_cpy sg' sg 0 0 8))).set (p + 3) (cI 8 (va_cpy br' br 0 0 8))).set p (cO 3 [.ref (p + 1), .ref (p + 2), .ref (p + 3), .int (nI o'), .int (nI (U 3))]), ?_, ?_, by simp, ?_⟩
  · simp [f_X3_become, mj_gR, mj_gI, mj_gV, b1, c1, show (288 : Int32) = nI 288 from rfl, show (8 : Int32) = nI 8 from rfl, r1, b1a, c1a, r2, b1b, c1b, r3, c1c, sV_r _ b1c, sV_s _ b1c, c1d]
  · refine ⟨o', o1', o2', get_self b1c, ⟨_, get_set (get_set (get_set (get_self b2) (by omega)) (by omega)) (by omega), fun u hu i hi => ?_⟩, ⟨_, get_set (get_set (get_self b4a) (by omega)) (by omega), fun i hi => ?_⟩, _, get_set (get_self b6b) (by omega), fun i hi => ?_⟩
    · rw [pk_cpy_in (by omega) (by omega), Nat.zero_add, Nat.sub_zero]; exact c3 u hu i hi
    · rw [pk_cpy_in (by omega) (by omega), Nat.zero_add, Nat.sub_zero]; exact c5 i hi
    · rw [pk_cpy_in (by omega) (by omega), Nat.zero_add, Nat.sub_zero]; exact c7 i hi
  · intro k hk
    rw [List.getElem?_set_ne (by omega), List.getElem?_set_ne (by omega), List.getElem?_set_ne (by omega), List.getElem?_set_ne (by omega)]
