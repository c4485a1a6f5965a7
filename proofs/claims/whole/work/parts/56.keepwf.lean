/-! PURE: what is told keeps a muster well formed; the values of hold and worth -/
def WO (T : Nat → Nat) : Prop := WF T ∧ WZ T
theorem testT_hi {T : Nat → Nat} {m test : Nat} {shown : Bool} (h0 : T 0 ≤ 6) {j : Nat} (hj : 52 ≤ j) : testT T m test shown j = T j := by
  unfold testT; rw [if_neg (by omega), if_neg (by omega), if_neg (by omega)]
theorem testT_lo {T : Nat → Nat} {m test : Nat} {shown : Bool} {j : Nat} (hj : j < 16) (h1 : j ≠ 1) (h2 : j ≠ 2) : testT T m test shown j = T j := by
  unfold testT; rw [if_neg h1, if_neg h2, if_neg (by omega)]
theorem testT_0 {T : Nat → Nat} {m test : Nat} {shown : Bool} : testT T m test shown 0 = T 0 := testT_lo (by decide) (by decide) (by decide)
theorem testT_1 {T : Nat → Nat} {m test : Nat} {shown : Bool} : testT T m test shown 1 = T 1 - cost test := by simp [testT]
theorem testT_2 {T : Nat → Nat} {m test : Nat} {shown : Bool} : testT T m test shown 2 = if test = 0 then T 2 ||| beside (T 0) m else T 2 := by simp [testT]
theorem WF.tests {T : Nat → Nat} (w : WF T) {m test : Nat} (hm : m < T 0) (ht : test < 3) (shown : Bool) : WF (testT T m test shown) := by
  obtain ⟨w0, w1, w2, w3, w4, w5, w6, w7⟩ := w
  have w' : WF T := ⟨w0, w1, w2, w3, w4, w5, w6, w7⟩
  unfold WF
  rw [testT_0, testT_1, testT_2, testT_lo (j := 3) (by decide) (by decide) (by decide)]
  refine ⟨w0, by omega, ?_, w3, fun x hx => ?_, fun a ha b hb => ?_, ⟨fun i hi => ?_, fun x hx => ?_⟩, fun u hu => ?_⟩
  · split
    · exact or_lt w2 (beside_lt hm)
    · exact w2
  · rw [testT_lo (j := 4 + x) (by omega) (by omega) (by omega), testT_lo (j := 10 + x) (by omega) (by omega) (by omega)]
    refine ⟨(w4 x hx).1, (w4 x hx).2.1, ?_⟩
    unfold brob; rw [testT_lo (by omega) (by omega) (by omega)]; exact (w4 x hx).2.2
  · unfold brob; rw [testT_lo (by omega) (by omega) (by omega), testT_lo (by omega) (by omega) (by omega)]; exact w5 a ha b hb
  · show testT T m test shown (16 + i) ≤ 999999
    have := tw_testT (T := T) (tested := m) (test := test) (shown := shown) (m := i / 6) (k := i % 6) (by omega) (by omega)
    rw [show 16 + (6 * (i / 6) + i % 6) = 16 + i by omega] at this
    rw [this]
    exact (beh_ok w' ht (show i / 6 < T 0 by omega)).1 _ (by omega)
  · obtain ⟨k, hk, hp⟩ := (beh_ok (tested := m) (shown := shown) w' ht hx).2
    exact ⟨k, hk, by show 0 < testT T m test shown (16 + (6 * x + k)); rw [tw_testT hx hk]; exact hp⟩
  · obtain ⟨u1, u2, u3, u4⟩ := w7 u hu
    rw [testT_hi w0 (by omega), testT_hi w0 (by omega)]
    refine ⟨u1, u2, fun i hi => ?_, fun x hx => ?_⟩
    · show testT T m test shown (54 + 38 * u + i) ≤ 999999
      rw [testT_hi w0 (by omega)]; exact u3 i hi
    · obtain ⟨k, hk, hp⟩ := u4 x hx
      exact ⟨k, hk, by show 0 < testT T m test shown (54 + 38 * u + (6 * x + k)); rw [testT_hi w0 (by omega)]; exact hp⟩
theorem WZ.of {T S : Nat → Nat} (z : WZ T) (h0 : S 0 = T 0) (h : ∀ j, 4 ≤ j → j < 16 → S j = T j) : WZ S := fun m h1 h2 => by
  rw [h0] at h1
  rw [h _ (by omega) (by omega), h _ (by omega) (by omega)]; exact z m h1 h2
theorem WO.tests {T : Nat → Nat} (w : WO T) {m test : Nat} (hm : m < T 0) (ht : test < 3) (shown : Bool) : WO (testT T m test shown) :=
  ⟨w.1.tests hm ht shown, w.2.of testT_0 (fun j h1 h2 => testT_lo h2 (by omega) (by omega))⟩
theorem WF.of {T S : Nat → Nat} (w : WF T) (h0 : S 0 = T 0) (h1 : S 1 = T 1) (h2 : S 2 = T 2) (h : ∀ j, 4 ≤ j → j < 52 → S j = T j) (h3 : S 3 ≤ 8) (hu : ∀ u, u < S 3 → S (52 + 38 * u) ≤ 99 ∧ S (53 + 38 * u) < 2 ^ T 0 ∧ WR6 (T 0) (fun i => S (54 + 38 * u + i))) : WF S := by
  obtain ⟨w0, w1, w2, w3, w4, w5, w6, w7⟩ := w
  unfold WF
  rw [h0, h1, h2]
  refine ⟨w0, w1, w2, h3, fun x hx => ?_, fun a ha b hb => ?_, ⟨fun i hi => ?_, fun x hx => ?_⟩, hu⟩
  · unfold brob; rw [h _ (by omega) (by omega), h _ (by omega) (by omega)]; exact w4 x hx
  · unfold brob; rw [h _ (by omega) (by omega), h _ (by omega) (by omega)]; exact w5 a ha b hb
  · show S (16 + i) ≤ _; rw [h _ (by omega) (by omega)]; exact w6.1 i hi
  · obtain ⟨k, hk, hp⟩ := w6.2 x hx
    exact ⟨k, hk, by show 0 < S (16 + (6 * x + k)); rw [h _ (by omega) (by omega)]; exact hp⟩
theorem layS_ok {S T : Nat → Nat} {n : Nat} (w : WF T) (hu : ∀ u, u < n → S (52 + 38 * u) ≤ 99 ∧ S (53 + 38 * u) < 2 ^ T 0 ∧ WR6 (T 0) (fun i => S (54 + 38 * u + i))) : ∀ u, u < n + 1 → layS S T n (52 + 38 * u) ≤ 99 ∧ layS S T n (53 + 38 * u) < 2 ^ T 0 ∧ WR6 (T 0) (fun i => layS S T n (54 + 38 * u + i)) := by
  intro u hu1
  have w0 := w.1
  by_cases q : u = n
  · subst q
    have e1 : layS S T u (52 + 38 * u) = T 1 := by unfold layS; rw [if_neg (by omega), if_pos rfl]
    have e2 : layS S T u (53 + 38 * u) = T 2 := by unfold layS; rw [if_neg (by omega), if_neg (by omega), if_pos rfl]
    have e3 : ∀ i, i < 36 → layS S T u (54 + 38 * u + i) = T (16 + i) := fun i hi => by
      unfold layS; rw [if_neg (by omega), if_neg (by omega), if_neg (by omega), if_pos (by omega), show 54 + 38 * u + i - (54 + 38 * u) = i by omega]
    refine ⟨by rw [e1]; exact w.2.1, by rw [e2]; exact w.2.2.1, fun i hi => ?_, fun x hx => ?_⟩
    · show layS S T u (54 + 38 * u + i) ≤ _; rw [e3 i (by omega)]; exact w.2.2.2.2.2.2.1.1 i hi
    · obtain ⟨k, hk, hp⟩ := w.2.2.2.2.2.2.1.2 x hx
      exact ⟨k, hk, by show 0 < layS S T u (54 + 38 * u + (6 * x + k)); rw [e3 _ (by omega)]; exact hp⟩
  · obtain ⟨u1, u2, u3, u4⟩ := hu u (by omega)
    have e : ∀ j, j < 52 + 38 * n → layS S T n j = S j := fun j hj => by unfold layS; rw [if_pos hj]
    refine ⟨by rw [e _ (by omega)]; exact u1, by rw [e _ (by omega)]; exact u2, fun i hi => ?_, fun x hx => ?_⟩
    · show layS S T n (54 + 38 * u + i) ≤ _; rw [e _ (by omega)]; exact u3 i hi
    · obtain ⟨k, hk, hp⟩ := u4 x hx
      exact ⟨k, hk, by show 0 < layS S T n (54 + 38 * u + (6 * x + k)); rw [e _ (by omega)]; exact hp⟩
theorem pushT_3 (T : Nat → Nat) : pushT T 3 = if T 3 = 8 then 8 else T 3 + 1 := by simp [pushT]
theorem WO.push {T : Nat → Nat} (w : WO T) : WO (pushT T) := by
  obtain ⟨w, z⟩ := w
  have w3 := w.2.2.2.1
  refine ⟨w.of (pushT_lo (by decide) (by decide)) (pushT_lo (by decide) (by decide)) (pushT_lo (by decide) (by decide)) (fun j h1 h2 => pushT_lo h2 (by omega)) ?_ ?_, z.of (pushT_lo (by decide) (by decide)) (fun j h1 h2 => pushT_lo (by omega) (by omega))⟩
  · rw [pushT_3]; split <;> omega
  · rw [pushT_3]
    by_cases q : T 3 = 8
    · rw [if_pos q]
      have e : ∀ j, 52 ≤ j → pushT T j = layS (dropS T) T 7 j := fun j hj => by unfold pushT; rw [if_neg (by omega), if_neg (by omega), if_pos q]
      intro u hu
      have := layS_ok (S := dropS T) (n := 7) w (fun v hv => by
        obtain ⟨v1, v2, v3, v4⟩ := w.2.2.2.2.2.2.2 (v + 1) (by omega)
        unfold dropS
        rw [show 52 + 38 * v + 38 = 52 + 38 * (v + 1) by omega, show 53 + 38 * v + 38 = 53 + 38 * (v + 1) by omega]
        refine ⟨v1, v2, fun i hi => ?_, fun x hx => ?_⟩
        · show T (54 + 38 * v + i + 38) ≤ _
          rw [show 54 + 38 * v + i + 38 = 54 + 38 * (v + 1) + i by omega]; exact v3 i hi
        · obtain ⟨k, hk, hp⟩ := v4 x hx
          exact ⟨k, hk, by show 0 < T (54 + 38 * v + (6 * x + k) + 38); rw [show 54 + 38 * v + (6 * x + k) + 38 = 54 + 38 * (v + 1) + (6 * x + k) by omega]; exact hp⟩) u (by omega)
      rw [e _ (by omega), e _ (by omega)]
      exact ⟨this.1, this.2.1, fun i hi => by show pushT T (54 + 38 * u + i) ≤ _; rw [e _ (by omega)]; exact this.2.2.1 i hi, fun x hx => by
        obtain ⟨k, hk, hp⟩ := this.2.2.2 x hx
        exact ⟨k, hk, by show 0 < pushT T (54 + 38 * u + (6 * x + k)); rw [e _ (by omega)]; exact hp⟩⟩
    · rw [if_neg q]
      have e : ∀ j, 52 ≤ j → pushT T j = layS T T (T 3) j := fun j hj => by unfold pushT; rw [if_neg (by omega), if_neg (by omega), if_neg q]
      intro u hu
      have := layS_ok (S := T) (n := T 3) w (fun v hv => w.2.2.2.2.2.2.2 v hv) u hu
      rw [e _ (by omega), e _ (by omega)]
      exact ⟨this.1, this.2.1, fun i hi => by show pushT T (54 + 38 * u + i) ≤ _; rw [e _ (by omega)]; exact this.2.2.1 i hi, fun x hx => by
        obtain ⟨k, hk, hp⟩ := this.2.2.2 x hx
        exact ⟨k, hk, by show 0 < pushT T (54 + 38 * u + (6 * x + k)); rw [e _ (by omega)]; exact hp⟩⟩
theorem WO.pop {T : Nat → Nat} (w : WO T) (h3 : 0 < T 3) : WO (popT T) := by
  obtain ⟨⟨w0, w1, w2, w3, w4, w5, w6, w7⟩, z⟩ := w
  have p0 : popT T 0 = T 0 := by simp [popT]
  have p1 : popT T 1 = T (52 + 38 * (T 3 - 1)) := by simp [popT]
  have p2 : popT T 2 = T (53 + 38 * (T 3 - 1)) := by simp [popT]
  have p3 : popT T 3 = T 3 - 1 := by simp [popT]
  have pl : ∀ j, 4 ≤ j → j < 16 → popT T j = T j := fun j h1 h2 => by
    unfold popT; rw [if_neg (by omega), if_neg (by omega), if_neg (by omega), if_neg (by omega)]
  have ph : ∀ j, 52 ≤ j → popT T j = T j := fun j h1 => by
    unfold popT; rw [if_neg (by omega), if_neg (by omega), if_neg (by omega), if_neg (by omega)]
  have pw : ∀ i, i < 36 → popT T (16 + i) = T (54 + 38 * (T 3 - 1) + i) := fun i hi => by
    unfold popT; rw [if_neg (by omega), if_neg (by omega), if_neg (by omega), if_pos (by omega), show 16 + i - 16 = i by omega]
  obtain ⟨u1, u2, u3, u4⟩ := w7 (T 3 - 1) (by omega)
  refine ⟨?_, z.of p0 (fun j h1 h2 => pl j h1 h2)⟩
  unfold WF
  rw [p0, p1, p2, p3]
  refine ⟨w0, u1, u2, by omega, fun x hx => ?_, fun a ha b hb => ?_, ⟨fun i hi => ?_, fun x hx => ?_⟩, fun u hu => ?_⟩
  · unfold brob; rw [pl _ (by omega) (by omega), pl _ (by omega) (by omega)]; exact w4 x hx
  · unfold brob; rw [pl _ (by omega) (by omega), pl _ (by omega) (by omega)]; exact w5 a ha b hb
  · show popT T (16 + i) ≤ _; rw [pw _ (by omega)]; exact u3 i hi
  · obtain ⟨k, hk, hp⟩ := u4 x hx
    exact ⟨k, hk, by show 0 < popT T (16 + (6 * x + k)); rw [pw _ (by omega)]; exact hp⟩
  · obtain ⟨v1, v2, v3, v4⟩ := w7 u (by omega)
    rw [ph _ (by omega), ph _ (by omega)]
    refine ⟨v1, v2, fun i hi => ?_, fun x hx => ?_⟩
    · show popT T (54 + 38 * u + i) ≤ _; rw [ph _ (by omega)]; exact v3 i hi
    · obtain ⟨k, hk, hp⟩ := v4 x hx
      exact ⟨k, hk, by show 0 < popT T (54 + 38 * u + (6 * x + k)); rw [ph _ (by omega)]; exact hp⟩
theorem WO.muster {d : Nat} (hd : d ≤ 99) : WO (musterT d) := by
  refine ⟨?_, fun m _ h => ⟨by unfold musterT; rw [if_neg (by omega)], by unfold musterT; rw [if_neg (by omega)]⟩⟩
  unfold WF musterT
  refine ⟨by simp, by simpa using hd, by simp, by simp, ?_, ?_, ?_, ?_⟩ <;> simp [WR6]
theorem WO.rMuster {T : Nat → Nat} (w : WO T) (x : Int32) : WO (musterR T x).2 := by
  unfold musterR
  split
  · rename_i h
    obtain ⟨-, h2, -⟩ := ok_c h
    exact WO.muster (by omega)
  · exact w
theorem aOk_le {f : Nat → Int32} (h : aOk f 6 = true) {k : Nat} (hk : k < 6) : gN f k ≤ 9 := by
  have := aOk_ix.mp h k hk
  obtain ⟨-, h2, -⟩ := ok_c this
  unfold gN; omega
theorem WO.rMan {T : Nat → Nat} (w : WO T) (f : Nat → Int32) : WO (manR T f).2 := by
  unfold manR
  split
  · rename_i h
    split
    · rename_i h6
      obtain ⟨⟨w0, w1, w2, w3, w4, w5, w6, w7⟩, z⟩ := w
      obtain ⟨h1, h2⟩ := h
      have p0 : manT T (gN f) 0 = T 0 + 1 := by simp [manT]
      have p3 : manT T (gN f) 3 = 0 := by simp [manT]
      have pl : ∀ j, j < 16 → j ≠ 0 → j ≠ 3 → manT T (gN f) j = T j := fun j h1 h2 h3 => by
        unfold manT; rw [if_neg h2, if_neg h3, if_neg (by omega)]
      have pw : ∀ i, i < 6 * T 0 → manT T (gN f) (16 + i) = T (16 + i) := fun i hi => by
        unfold manT; rw [if_neg (by omega), if_neg (by omega), if_neg (by omega)]
      have pn : ∀ k, k < 6 → manT T (gN f) (16 + (6 * T 0 + k)) = gN f k := fun k hk => by
        unfold manT; rw [if_neg (by omega), if_neg (by omega), if_pos (by omega), show 16 + (6 * T 0 + k) - (16 + 6 * T 0) = k by omega]
      have hpw : 2 ^ T 0 < 2 ^ (T 0 + 1) := Nat.pow_lt_pow_right (by decide) (by omega)
      obtain ⟨z1, z2⟩ := z (T 0) (Nat.le_refl _) h6
      have bz : ∀ x, x < T 0 → (T (10 + x)).testBit (T 0) = false := fun x hx => Nat.testBit_lt_two_pow (w4 x hx).2.1
      show WO (manT T (gN f))
      refine ⟨?_, fun m h1 h2 => ?_⟩
      · unfold WF
        rw [p0, p3, pl 1 (by decide) (by decide) (by decide), pl 2 (by decide) (by decide) (by decide)]
        refine ⟨by omega, w1, by omega, by omega, fun x hx => ?_, fun a ha b hb => ?_, ⟨fun i hi => ?_, fun x hx => ?_⟩, fun u hu => by omega⟩
        · unfold brob
          rw [pl _ (by omega) (by omega) (by omega), pl _ (by omega) (by omega) (by omega)]
          by_cases q : x = T 0
          · subst q; rw [z1, z2]; exact ⟨by omega, by omega, Nat.zero_testBit _⟩
          · have := w4 x (by omega)
            exact ⟨this.1, by omega, this.2.2⟩
        · unfold brob
          rw [pl _ (by omega) (by omega) (by omega), pl _ (by omega) (by omega) (by omega)]
          by_cases q : a = T 0
          · subst q
            rw [z2, Nat.zero_testBit]
            by_cases q2 : b = T 0
            · subst q2; rw [z2, Nat.zero_testBit]
            · rw [bz b (by omega)]
          · by_cases q2 : b = T 0
            · subst q2; rw [z2, Nat.zero_testBit, bz a (by omega)]
            · exact w5 a (by omega) b (by omega)
        · show manT T (gN f) (16 + i) ≤ _
          by_cases q : i < 6 * T 0
          · rw [pw i q]; exact w6.1 i q
          · have := pn (i - 6 * T 0) (by omega)
            rw [show 16 + (6 * T 0 + (i - 6 * T 0)) = 16 + i by omega] at this
            rw [this]
            have := aOk_le h1 (show i - 6 * T 0 < 6 by omega)
            omega
        · by_cases q : x = T 0
          · subst q
            have : ∃ k, k < 6 ∧ 0 < gN f k := by
              rcases Nat.lt_or_ge 0 (mxw (gN f) 6) with y | y
              · exact mxw_pos y
              · have : sm (gN f) 6 = 0 := sm_zero.mpr (fun k hk => by have := le_mxw (W := gN f) hk; omega)
                omega
            obtain ⟨k, hk, hp⟩ := this
            exact ⟨k, hk, by show 0 < manT T (gN f) (16 + (6 * T 0 + k)); rw [pn k hk]; exact hp⟩
          · obtain ⟨k, hk, hp⟩ := w6.2 x (by omega)
            exact ⟨k, hk, by show 0 < manT T (gN f) (16 + (6 * x + k)); rw [pw _ (by omega)]; exact hp⟩
      · rw [p0] at h1
        rw [pl _ (by omega) (by omega) (by omega), pl _ (by omega) (by omega) (by omega)]
        exact z m (by omega) h2
    · exact w
  · exact w
theorem WO.rWorn {T : Nat → Nat} (w : WO T) (m s : Int32) : WO (wornR T m s).2 := by
  unfold wornR
  split
  · rename_i h
    obtain ⟨-, a2, -⟩ := ok_c h.1
    obtain ⟨-, b2, -⟩ := ok_c h.2
    obtain ⟨⟨w0, w1, w2, w3, w4, w5, w6, w7⟩, z⟩ := w
    obtain ⟨p, hp⟩ : ∃ p, p = tN m := ⟨_, rfl⟩
    rw [← hp] at a2 ⊢
    have p3 : wornT T p (tN s) 3 = 0 := by simp [wornT]
    have pl : ∀ j, j ≠ 4 + p → j ≠ 3 → wornT T p (tN s) j = T j := fun j h1 h2 => by
      unfold wornT; rw [if_neg h2, if_neg h1]
    have pe : wornT T p (tN s) (4 + p) = tN s := by unfold wornT; rw [if_neg (by omega), if_pos rfl]
    refine ⟨?_, fun m h1 h2 => ?_⟩
    · show WF (wornT T p (tN s))
      unfold WF
      rw [p3, pl 0 (by omega) (by decide), pl 1 (by omega) (by decide), pl 2 (by omega) (by decide)]
      refine ⟨w0, w1, w2, by omega, fun x hx => ?_, fun a ha b hb => ?_, ⟨fun i hi => ?_, fun x hx => ?_⟩, fun u hu => by omega⟩
      · unfold brob
        rw [pl (10 + x) (by omega) (by omega)]
        refine ⟨?_, (w4 x hx).2⟩
        by_cases q : x = p
        · subst q; rw [pe]; omega
        · rw [pl _ (by omega) (by omega)]; exact (w4 x hx).1
      · unfold brob; rw [pl _ (by omega) (by omega), pl _ (by omega) (by omega)]; exact w5 a ha b hb
      · show wornT T p (tN s) (16 + i) ≤ _; rw [pl _ (by omega) (by omega)]; exact w6.1 i hi
      · obtain ⟨k, hk, hp⟩ := w6.2 x hx
        exact ⟨k, hk, by show 0 < wornT T p (tN s) (16 + (6 * x + k)); rw [pl _ (by omega) (by omega)]; exact hp⟩
    · show wornT T p (tN s) (4 + m) = 0 ∧ wornT T p (tN s) (10 + m) = 0
      have h1' : wornT T p (tN s) 0 ≤ m := h1
      rw [pl 0 (by omega) (by omega)] at h1'
      rw [pl _ (by omega) (by omega), pl _ (by omega) (by omega)]; exact z m h1' h2
  · exact w
theorem tb_or2 (x y i : Nat) : (x ||| 2 ^ y).testBit i = (x.testBit i || decide (y = i)) := by
  rw [Nat.testBit_or, Nat.testBit_two_pow]
theorem WO.rPair {T : Nat → Nat} (w : WO T) (x y : Int32) : WO (pairR T x y).2 := by
  unfold pairR
  split
  · rename_i h
    split
    · exact w
    · obtain ⟨a1, a2, -⟩ := ok_c h.1
      obtain ⟨b1, b2, -⟩ := ok_c h.2.1
      have hne := h.2.2
      rw [a1, b1] at hne
      obtain ⟨⟨w0, w1, w2, w3, w4, w5, w6, w7⟩, z⟩ := w
      obtain ⟨p, hp⟩ : ∃ p, p = tN x := ⟨_, rfl⟩
      obtain ⟨q, hq⟩ : ∃ q, q = tN y := ⟨_, rfl⟩
      rw [← hp, ← hq] at hne
      rw [← hp] at a2 ⊢
      rw [← hq] at b2 ⊢
      have hpq : p ≠ q := fun z => hne (by rw [z])
      have p3 : pairT T p q 3 = 0 := by simp [pairT]
      have pl : ∀ j, j ≠ 10 + p → j ≠ 10 + q → j ≠ 3 → pairT T p q j = T j := fun j h1 h2 h3 => by
        unfold pairT; rw [if_neg h3, if_neg h1, if_neg h2]
      have pp : pairT T p q (10 + p) = T (10 + p) ||| 2 ^ q := by unfold pairT; rw [if_neg (by omega), if_pos rfl]
      have pq : pairT T p q (10 + q) = T (10 + q) ||| 2 ^ p := by unfold pairT; rw [if_neg (by omega), if_neg (by omega), if_pos rfl]
      have bb : ∀ a b, brob (pairT T p q) a b = (brob T a b || (decide (a = p) && decide (q = b)) || (decide (a = q) && decide (p = b))) := fun a b => by
        unfold brob
        by_cases c1 : a = p
        · subst c1; rw [pp, tb_or2]; simp [hpq]
        · by_cases c2 : a = q
          · subst c2; rw [pq, tb_or2]; simp [c1]
          · by_cases c3 : 10 + a = 3
            · omega
            · rw [pl _ (by omega) (by omega) c3]; simp [c1, c2]
      refine ⟨?_, fun m h1 h2 => ?_⟩
      · show WF (pairT T p q)
        unfold WF
        rw [p3, pl 0 (by omega) (by omega) (by decide), pl 1 (by omega) (by omega) (by decide), pl 2 (by omega) (by omega) (by decide)]
        refine ⟨w0, w1, w2, by omega, fun x hx => ?_, fun a ha b hb => ?_, ⟨fun i hi => ?_, fun x hx => ?_⟩, fun u hu => by omega⟩
        · obtain ⟨v1, v2, v3⟩ := w4 x hx
          refine ⟨by rw [pl _ (by omega) (by omega) (by omega)]; exact v1, ?_, ?_⟩
          · by_cases c1 : x = p
            · subst c1; rw [pp]; exact or_lt v2 (Nat.pow_lt_pow_right (by decide) b2)
            · by_cases c2 : x = q
              · subst c2; rw [pq]; exact or_lt v2 (Nat.pow_lt_pow_right (by decide) a2)
              · rw [pl _ (by omega) (by omega) (by omega)]; exact v2
          · rw [bb, v3]
            by_cases c1 : x = p
            · subst c1
              have : ¬ q = x := fun z => hpq z.symm
              simp [this, hpq]
            · by_cases c2 : x = q
              · subst c2; simp [c1, hpq]
              · simp [c1, c2]
        · rw [bb, bb, w5 a ha b hb]
          have dc : ∀ x y : Nat, decide (x = y) = decide (y = x) := fun x y => decide_eq_decide.mpr ⟨Eq.symm, Eq.symm⟩
          rw [dc q b, dc p b, dc q a, dc p a]
          generalize brob T b a = z0
          generalize decide (a = p) = z1
          generalize decide (b = q) = z2
          generalize decide (a = q) = z3
          generalize decide (b = p) = z4
          cases z0 <;> cases z1 <;> cases z2 <;> cases z3 <;> cases z4 <;> rfl
        · show pairT T p q (16 + i) ≤ _; rw [pl _ (by omega) (by omega) (by omega)]; exact w6.1 i hi
        · obtain ⟨k, hk, hp⟩ := w6.2 x hx
          exact ⟨k, hk, by show 0 < pairT T p q (16 + (6 * x + k)); rw [pl _ (by omega) (by omega) (by omega)]; exact hp⟩
      · show pairT T p q (4 + m) = 0 ∧ pairT T p q (10 + m) = 0
        have h1' : pairT T p q 0 ≤ m := h1
        rw [pl 0 (by omega) (by omega) (by omega)] at h1'
        rw [pl _ (by omega) (by omega) (by omega), pl _ (by omega) (by omega) (by omega)]; exact z m h1' h2
  · exact w
theorem WO.rWord {T : Nat → Nat} (w : WO T) (x : Int32) : WO (wordR T x).2 := by
  unfold wordR
  split
  · rename_i h
    split
    · exact w
    · obtain ⟨a1, a2, -⟩ := ok_c h
      obtain ⟨⟨w0, w1, w2, w3, w4, w5, w6, w7⟩, z⟩ := w
      obtain ⟨p, hp⟩ : ∃ p, p = tN x := ⟨_, rfl⟩
      rw [← hp] at a2 ⊢
      have pl : ∀ j, j ≠ 2 → j ≠ 3 → wordT T p j = T j := fun j h1 h2 => by
        unfold wordT; rw [if_neg h2, if_neg h1]
      have p2 : wordT T p 2 = T 2 ||| 2 ^ p := by simp [wordT]
      have p3 : wordT T p 3 = 0 := by simp [wordT]
      refine ⟨?_, z.of (pl 0 (by decide) (by decide)) (fun j h1 h2 => pl j (by omega) (by omega))⟩
      show WF (wordT T p)
      unfold WF
      rw [p2, p3, pl 0 (by decide) (by decide), pl 1 (by decide) (by decide)]
      refine ⟨w0, w1, or_lt w2 (Nat.pow_lt_pow_right (by decide) a2), by omega, fun x hx => ?_, fun a ha b hb => ?_, ⟨fun i hi => ?_, fun x hx => ?_⟩, fun u hu => by omega⟩
      · unfold brob; rw [pl _ (by omega) (by omega), pl _ (by omega) (by omega)]; exact w4 x hx
      · unfold brob; rw [pl _ (by omega) (by omega), pl _ (by omega) (by omega)]; exact w5 a ha b hb
      · show wordT T p (16 + i) ≤ _; rw [pl _ (by omega) (by omega)]; exact w6.1 i hi
      · obtain ⟨k, hk, hp⟩ := w6.2 x hx
        exact ⟨k, hk, by show 0 < wordT T p (16 + (6 * x + k)); rw [pl _ (by omega) (by omega)]; exact hp⟩
  · exact w
/-! values -/
theorem share_congr {V W : Nat → Nat} (e : ∀ k, k < 6 → V k = W k) (what : Nat) (r : Bool) : share V what r = share W what r := by
  unfold share
  rw [sm_congr (n := 6) (f := V) (g := W) e, sm_congr (n := 6) (f := fun k => V k * cas k what r) (g := fun k => W k * cas k what r) (fun k hk => by show V k * _ = W k * _; rw [e k hk])]
theorem trust_testT {T : Nat → Nat} {m test : Nat} {shown : Bool} {x : Nat} (hx : x < T 0) : trust (testT T m test shown) x = share (beh T m test shown x) 3 false :=
  share_congr (fun _ hk => tw_testT hx hk) 3 false
theorem holdN_eq {tr tr' : Nat → Nat} {men j c : Nat} (e : ∀ m, m < c → tr m = tr' m) (h : men < 2 ^ c) (hc : c ≤ 6) : holdN tr men j c = holdN tr' men j 6 := by
  unfold holdN
  obtain ⟨d, hd⟩ : ∃ d, 6 = c + d := ⟨6 - c, by omega⟩
  rw [hd, dp_out h d, dp_congr e]
theorem hold_now {T : Nat → Nat} {men j : Nat} (h : men < 2 ^ T 0) (hc : T 0 ≤ 6) : holdN (trust T) men j (T 0) = holdN (trs T) men j 6 :=
  holdN_eq (fun m hm => by unfold trs; rw [if_pos hm]) h hc
theorem hold_beh {T : Nat → Nat} {m test : Nat} {shown : Bool} {men j : Nat} (h : men < 2 ^ T 0) (hc : T 0 ≤ 6) : holdN (trust (testT T m test shown)) men j (T 0) = holdN (trb T m test shown) men j 6 :=
  holdN_eq (fun x hx => by unfold trb; rw [if_pos hx, trust_testT hx]) h hc
/-- the ways of the best choice -/
def vN (tr : Nat → Nat) (c k j : Nat) : Int64 := cbM (cb (fun men => holdN tr men j 6) k (2 ^ c))
def kN (T : Nat → Nat) (k j : Nat) : Int32 := cbB (-1) (cb (fun men => holdN (trs T) men j 6) k (2 ^ T 0))
def wN (T : Nat → Nat) (m test k j : Nat) : Int32 := (lN (showsN T m test) * vN (trb T m test true) (T 0) k j + lN (60 - showsN T m test) * vN (trb T m test false) (T 0) k j - 60 * vN (trs T) (T 0) k j).toInt32
