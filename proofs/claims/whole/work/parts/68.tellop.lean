/-! PURE: the calls that tell -/
def RC (a : Int32) (T T' : Nat → Nat) : Prop := ((a = -2 ∨ a = -3 ∨ a = -4) ∧ T' = T) ∨ (¬ a < 0 ∧ T' 3 = 0)
def kR (a : Int32) (K : Int32 × Int32 × Int32) : Int32 × Int32 × Int32 := if a = -2 then kb K else if a = -3 then kn K else if a = -4 then kf K else K
theorem kR_2 (K : Int32 × Int32 × Int32) : kR (-2) K = kb K := rfl
theorem kR_3 (K : Int32 × Int32 × Int32) : kR (-3) K = kn K := by unfold kR; rw [if_neg (by decide), if_pos rfl]
theorem kR_4 (K : Int32 × Int32 × Int32) : kR (-4) K = kf K := by unfold kR; rw [if_neg (by decide), if_neg (by decide), if_pos rfl]
theorem kR_ok {a : Int32} (ha : ¬ a < 0) (K : Int32 × Int32 × Int32) : kR a K = K := by
  unfold kR
  rw [if_neg (fun z => ha (by rw [z]; decide)), if_neg (fun z => ha (by rw [z]; decide)), if_neg (fun z => ha (by rw [z]; decide))]
theorem XS.bn {h h1 : mj_H} {T T' : Nat → Nat} {I : Nat → Bool × (Nat → Nat)} {X : (Nat → Int32) × Nat} {F : Int64 × Int64} {K : Int32 × Int32 × Int32} (s : XS h T I X F K) (b : BN h1 1 T') (c : PS h1 7 T') (fr : ∀ k, (k < 1 ∨ 11 ≤ k) → h1[k]? = h[k]?) : XS h1 T' I X F K := by
  obtain ⟨s1, s2, s3, s4, s5, s6, s7, t, s8⟩ := s
  exact ⟨by rw [fr 0 (by decide)]; exact s1, b, c, s4.fr (fun j h1 h2 => fr j (by omega)), s5.fr (fun j h1 h2 => fr j (by omega)), s6.fr (fun j h1 h2 => fr j (by omega)), s7.fr (fun j h1 h2 => fr j (by omega)), t, by rw [fr 52 (by decide)]; exact s8⟩
theorem acc {h h1 : mj_H} {T T' : Nat → Nat} {I : Nat → Bool × (Nat → Nat)} {X : (Nat → Int32) × Nat} {F : Int64 × Int64} {K : Int32 × Int32 × Int32} {a : Int32} (s : XS h T I X F K) (b : BN h1 1 T') (fr : ∀ k, (k < 1 ∨ 7 ≤ k) → h1[k]? = h[k]?) (c : RC a T T') : mj_ob h1 0 8 = true ∧ XR h ((f_X8_accepted 0 a h1).bind fun p => some (p.1, p.2)) a T' I X F (kR a K) := by
  have ps : PS h1 7 T := s.2.2.1.fr (fun j h1 h2 => fr j (by omega))
  have x1 : XG h1 := s.x.fr (fr 0 (by decide))
  have ff : ∀ k, 53 ≤ k → h1[k]? = h[k]? := fun k hk => fr k (by omega)
  refine ⟨x1.ob, XR.bd ?_⟩
  rcases c with ⟨c, rfl⟩ | ⟨c, c3⟩
  · have s1 : XS h1 T' I X F K := s.bn b ps (fun k hk => fr k (by omega))
    have key : ¬ (0 : Int32) ≤ a → ∀ K', XR h1 (f_X8_refused 0 a h1) a T' I X F K' → XR h (f_X8_accepted 0 a h1) a T' I X F K' := fun ha K' z => by
      rw [f_X8_accepted, if_neg ha, if_pos x1.ob]
      obtain ⟨h', z1, z2, z3⟩ := z.bd
      exact ⟨h', z1, z2, fun k hk => (z3 k hk).trans (ff k hk)⟩
    rcases c with rfl | rfl | rfl
    · rw [kR_2]; exact key (by decide) _ (X8_badR s1)
    · rw [kR_3]; exact key (by decide) _ (X8_noR s1)
    · rw [kR_4]; exact key (by decide) _ (X8_fullR s1)
  · rw [kR_ok c]
    obtain ⟨h2, a1, a2, -, a3⟩ := X3_forget_s (p := 7) ps
    have ps2 : PS h2 7 T' := by
      unfold PS; rw [c3]; exact a2 (T' 0) T'
    have b2 : BN h2 1 T' := b.fr (fun j h1 h2 => a3 j (by omega))
    refine ⟨h2, ?_, s.bn b2 ps2 (fun k hk => (a3 k (by omega)).trans (fr k (by omega))), fun k hk => (a3 k (by omega)).trans (ff k hk)⟩
    rw [f_X8_accepted, if_pos (Int32.not_lt.mp c)]
    simp only [x1.past, bs, PSn.ob ps, if_true, a1]
theorem MS.nowT {h : mj_H} {T T' : Nat → Nat} {I : Nat → Bool × (Nat → Nat)} {X : (Nat → Int32) × Nat} {F : Int64 × Int64} {K : Int32 × Int32 × Int32} (s : MS h T I X F K) {f : Nat → Int32} (e : NT f T') : MS (h.set 54 (cI 356 f)) T' I X F K := by
  have z : ∀ j, j ≠ 54 → (h.set 54 (cI 356 f))[j]? = h[j]? := fun j hj => List.getElem?_set_ne (by omega)
  unfold MS SC at s ⊢
  rw [z 53 (by decide), z 55 (by decide), z 56 (by decide), z 57 (by decide), z 58 (by decide), z 59 (by decide), z 60 (by decide), z 61 (by decide), z 62 (by decide), z 63 (by decide), z 64 (by decide)]
  obtain ⟨s1, ⟨f0, s2, -⟩, s3⟩ := s
  exact ⟨s1, ⟨f, get_self s2, e⟩, s3⟩
theorem tel {h : mj_H} {T T' : Nat → Nat} {I : Nat → Bool × (Nat → Nat)} {X : (Nat → Int32) × Nat} {F : Int64 × Int64} {K : Int32 × Int32 × Int32} {a : Int32} (s : MS h T I X F K) {f : Nat → Int32} (e : NT f T') (c : RC a T T') : mj_ob (h.set 54 (cI 356 f)) 53 9 = true ∧ MR h ((f_X9_tell 53 a (h.set 54 (cI 356 f))).bind fun p => some (p.1, p.2)) a T' I X F (kR a K) := by
  have s1 := s.nowT e
  have ff : ∀ k, k < 53 → (h.set 54 (cI 356 f))[k]? = h[k]? := fun k hk => List.getElem?_set_ne (by omega)
  refine ⟨s1.g.ob, MR.bd ?_⟩
  rcases c with ⟨c, -⟩ | ⟨c, -⟩
  · have key : ∀ K', MR (h.set 54 (cI 356 f)) (f_X9_tell 53 a (h.set 54 (cI 356 f))) a T' I X F K' → MR h (f_X9_tell 53 a (h.set 54 (cI 356 f))) a T' I X F K' := fun K' z => by
      obtain ⟨h', z1, z2, z3⟩ := z
      exact ⟨h', z1, z2, fun k hk => (z3 k hk).trans (ff k hk)⟩
    rcases c with rfl | rfl | rfl
    · rw [kR_2]; exact key _ (X9_tell_b s1)
    · rw [kR_3]; exact key _ (X9_tell_n s1)
    · rw [kR_4]; exact key _ (X9_tell_f s1)
  · rw [kR_ok c]
    exact ⟨_, X9_tell_ok c, s1, ff⟩
theorem PU.t {T T' : Nat → Nat} {I : Nat → Bool × (Nat → Nat)} {X : (Nat → Int32) × Nat} (p : PU T I X) (w : WO T') : PU T' I X := ⟨w, p.2⟩
theorem RC_worn {T : Nat → Nat} (w : WF T) (m s : Int32) : RC (wornR T m s).1 T (wornR T m s).2 := by
  have w0 := w.1
  unfold wornR
  split
  · rename_i h
    obtain ⟨-, l1, -⟩ := ok_c h.1
    have := (w.2.2.2.2.1 (tN m) l1).1
    exact Or.inr ⟨nI_pos (by omega), by simp [wornT]⟩
  · exact Or.inl ⟨Or.inl rfl, rfl⟩
theorem RC_pair (T : Nat → Nat) (x y : Int32) : RC (pairR T x y).1 T (pairR T x y).2 := by
  unfold pairR
  split
  · split
    · exact Or.inl ⟨Or.inr (Or.inl rfl), rfl⟩
    · exact Or.inr ⟨(by decide : ¬ (1 : Int32) < 0), by simp [pairT]⟩
  · exact Or.inl ⟨Or.inl rfl, rfl⟩
theorem RC_word (T : Nat → Nat) (x : Int32) : RC (wordR T x).1 T (wordR T x).2 := by
  unfold wordR
  split
  · split
    · exact Or.inl ⟨Or.inr (Or.inl rfl), rfl⟩
    · exact Or.inr ⟨(by decide : ¬ (1 : Int32) < 0), by simp [wordT]⟩
  · exact Or.inl ⟨Or.inl rfl, rfl⟩
theorem RC_man {T : Nat → Nat} (w : WF T) (f : Nat → Int32) : RC (manR T f).1 T (manR T f).2 := by
  have w0 := w.1
  unfold manR
  split
  · split
    · exact Or.inr ⟨nI_pos (by omega), by simp [manT]⟩
    · exact Or.inl ⟨Or.inr (Or.inr rfl), rfl⟩
  · exact Or.inl ⟨Or.inl rfl, rfl⟩
theorem RC_muster {T : Nat → Nat} (w : WF T) (x : Int32) : RC (musterR T x).1 T (musterR T x).2 := by
  have w0 := w.1
  unfold musterR
  split
  · exact Or.inr ⟨nI_pos (by omega), by simp [musterT]⟩
  · exact Or.inl ⟨Or.inl rfl, rfl⟩
theorem op_worn {T : Nat → Nat} {I : Nat → Bool × (Nat → Nat)} {X : (Nat → Int32) × Nat} (p : PU T I X) (F : Int64 × Int64) (K : Int32 × Int32 × Int32) (m t : Int32) : OPB (f_X8_worn 0 m t) (f_X9_worn 53 m t) T I X F K := by
  have w := p.1.1
  refine ⟨(wornR T m t).1, (wornR T m t).2, I, X, F, kR (wornR T m t).1 K, p.t (p.1.rWorn m t), fun h s => ?_, fun h s => ?_⟩
  · obtain ⟨h1, a1, a2, -, a3⟩ := X0_dress_s s.b m t
    obtain ⟨o1, z⟩ := acc s a2 (fun k hk => a3 k (by omega)) (RC_worn w m t)
    simp only [f_X8_worn, s.x.band, bs, s.b.ob, if_true, a1, o1]
    exact z
  · obtain ⟨f, a1, a2⟩ := X9_doWorn_s s.n w m t
    obtain ⟨o1, z⟩ := tel s a2 (RC_worn w m t)
    simp only [f_X9_worn, s.g.ob, if_true, a1, bs, o1]
    exact z
theorem op_pair {T : Nat → Nat} {I : Nat → Bool × (Nat → Nat)} {X : (Nat → Int32) × Nat} (p : PU T I X) (F : Int64 × Int64) (K : Int32 × Int32 × Int32) (m t : Int32) : OPB (f_X8_pair 0 m t) (f_X9_pair 53 m t) T I X F K := by
  have w := p.1.1
  refine ⟨(pairR T m t).1, (pairR T m t).2, I, X, F, kR (pairR T m t).1 K, p.t (p.1.rPair m t), fun h s => ?_, fun h s => ?_⟩
  · obtain ⟨h1, a1, a2, -, a3⟩ := X0_bind_s s.b w m t
    obtain ⟨o1, z⟩ := acc s a2 (fun k hk => a3 k (by omega)) (RC_pair T m t)
    simp only [f_X8_pair, s.x.band, bs, s.b.ob, if_true, a1, o1]
    exact z
  · obtain ⟨f, a1, a2⟩ := X9_doPair_s s.n w m t
    obtain ⟨o1, z⟩ := tel s a2 (RC_pair T m t)
    simp only [f_X9_pair, s.g.ob, if_true, a1, bs, o1]
    exact z
theorem op_word {T : Nat → Nat} {I : Nat → Bool × (Nat → Nat)} {X : (Nat → Int32) × Nat} (p : PU T I X) (F : Int64 × Int64) (K : Int32 × Int32 × Int32) (m : Int32) : OPB (f_X8_word 0 m) (f_X9_word 53 m) T I X F K := by
  have w := p.1.1
  refine ⟨(wordR T m).1, (wordR T m).2, I, X, F, kR (wordR T m).1 K, p.t (p.1.rWord m), fun h s => ?_, fun h s => ?_⟩
  · obtain ⟨h1, a1, a2, -, a3⟩ := X0_inform_s s.b w m
    obtain ⟨o1, z⟩ := acc s a2 (fun k hk => a3 k (by omega)) (RC_word T m)
    simp only [f_X8_word, s.x.band, bs, s.b.ob, if_true, a1, o1]
    exact z
  · obtain ⟨f, a1, a2⟩ := X9_doWord_s s.n w m
    obtain ⟨o1, z⟩ := tel s a2 (RC_word T m)
    simp only [f_X9_word, s.g.ob, if_true, a1, bs, o1]
    exact z
theorem op_muster {T : Nat → Nat} {I : Nat → Bool × (Nat → Nat)} {X : (Nat → Int32) × Nat} (p : PU T I X) (F : Int64 × Int64) (K : Int32 × Int32 × Int32) (m : Int32) : OPB (f_X8_muster 0 m) (f_X9_muster 53 m) T I X F K := by
  have w := p.1.1
  have rc := RC_muster w m
  refine ⟨(musterR T m).1, (musterR T m).2, I, X, F, kR (musterR T m).1 K, p.t (p.1.rMuster m), fun h s => ?_, fun h s => ?_⟩
  · obtain ⟨h1, a1, a2, -, a3⟩ := X0_begin_s s.b m
    obtain ⟨o1, z⟩ := acc s a2 (fun k hk => a3 k (by omega)) rc
    simp only [f_X8_muster, s.x.band, bs, s.b.ob, if_true, a1, o1]
    exact z
  · have inn := (X9_inL m h).1
    by_cases q : mj_ok m 100 = true
    · obtain ⟨e1, l1, -⟩ := ok_c q
      obtain ⟨f, hf, e⟩ := s.2.1
      obtain ⟨f', a1, a2⟩ := X9_clean_s s.g hf (tN m)
      rw [← e1] at a1
      rw [q] at inn
      have r1 : musterR T m = (nI (T 0), musterT (tN m)) := by rw [musterR, if_pos q]
      rw [r1]
      show MR h _ (nI (T 0)) (musterT (tN m)) I X F (kR (nI (T 0)) K)
      have w0 := w.1
      rw [kR_ok (nI_pos (by omega))]
      refine ⟨_, ?_, s.nowT a2, fun k hk => List.getElem?_set_ne (by omega)⟩
      simp only [f_X9_muster, inn, bs, bi_t, one0, if_false, s.g.now, s.n.a0, s.g.ob, if_true, a1]
    · have r1 : musterR T m = (-2, T) := by rw [musterR, if_neg q]
      rw [r1]
      show MR h _ (-2) T I X F (kR (-2) K)
      rw [kR_2]
      rw [Bool.not_eq_true] at q
      rw [q] at inn
      simp only [f_X9_muster, inn, bs, bi_f, if_true, s.g.ob]
      exact (X9_bad_s s (-2)).bd
def tld (a b c d e f : Int32) : Nat → Int32 := fun k => if k = 0 then a else if k = 1 then b else if k = 2 then c else if k = 3 then d else if k = 4 then e else f
theorem aOk_congr {f g : Nat → Int32} : ∀ {n : Nat}, (∀ k, k < n → f k = g k) → aOk f n = aOk g n
  | 0, _ => rfl
  | n + 1, h => by rw [aOk, aOk, aOk_congr (fun k hk => h k (by omega)), h n (by omega)]
theorem manR_congr {T : Nat → Nat} {f g : Nat → Int32} (h : ∀ k, k < 6 → f k = g k) : manR T f = manR T g := by
  have h1 : ∀ k, k < 6 → gN f k = gN g k := fun k hk => by unfold gN; rw [h k hk]
  have h2 : manT T (gN f) = manT T (gN g) := by
    funext j
    unfold manT
    split
    · rfl
    · split
      · rfl
      · split
        · exact h1 _ (by omega)
        · rfl
  unfold manR
  rw [aOk_congr h, sm_congr (n := 6) h1, h2]
theorem lay6 {h : mj_H} {q : Nat} {t : Nat → Int32} (ht : h[q]? = some (cI 6 t)) (a b c d e f : Int32) : ∃ h1 h2 h3 h4 h5 h6 t', mj_uI h q (0 : Int32) a = some h1 ∧ mj_uI h1 q (1 : Int32) b = some h2 ∧ mj_uI h2 q (2 : Int32) c = some h3 ∧ mj_uI h3 q (3 : Int32) d = some h4 ∧ mj_uI h4 q (4 : Int32) e = some h5 ∧ mj_uI h5 q (5 : Int32) f = some h6 ∧ (∀ j, j ≠ q → h1[j]? = h[j]?) ∧ (∀ j, j ≠ q → h2[j]? = h[j]?) ∧ (∀ j, j ≠ q → h3[j]? = h[j]?) ∧ (∀ j, j ≠ q → h4[j]? = h[j]?) ∧ (∀ j, j ≠ q → h5[j]? = h[j]?) ∧ h6 = h.set q (cI 6 t') ∧ ∀ k, k < 6 → t' k = tld a b c d e f k := by
  have z : ∀ (g : Nat → Int32) j, j ≠ q → (h.set q (cI 6 g))[j]? = h[j]? := fun g j hj => List.getElem?_set_ne (by omega)
  have g1 := get_self (c := cI 6 (upd t 0 a)) ht
  have g2 := get_self (c := cI 6 (upd (upd t 0 a) 1 b)) ht
  have g3 := get_self (c := cI 6 (upd (upd (upd t 0 a) 1 b) 2 c)) ht
  have g4 := get_self (c := cI 6 (upd (upd (upd (upd t 0 a) 1 b) 2 c) 3 d)) ht
  have g5 := get_self (c := cI 6 (upd (upd (upd (upd (upd t 0 a) 1 b) 2 c) 3 d) 4 e)) ht
  have u1 := uI_r a ht (show 0 < 6 by decide) (by decide)
  have u2 := uI_r b g1 (show 1 < 6 by decide) (by decide)
  have u3 := uI_r c g2 (show 2 < 6 by decide) (by decide)
  have u4 := uI_r d g3 (show 3 < 6 by decide) (by decide)
  have u5 := uI_r e g4 (show 4 < 6 by decide) (by decide)
  have u6 := uI_r f g5 (show 5 < 6 by decide) (by decide)
  rw [List.set_set] at u2 u3 u4 u5 u6
  refine ⟨_, _, _, _, _, _, _, u1, u2, u3, u4, u5, u6, z _, z _, z _, z _, z _, rfl, fun k hk => ?_⟩
  have : k = 0 ∨ k = 1 ∨ k = 2 ∨ k = 3 ∨ k = 4 ∨ k = 5 := by omega
  rcases this with rfl | rfl | rfl | rfl | rfl | rfl <;> rfl
theorem XS.told {h : mj_H} {T : Nat → Nat} {I : Nat → Bool × (Nat → Nat)} {X : (Nat → Int32) × Nat} {F : Int64 × Int64} {K : Int32 × Int32 × Int32} (s : XS h T I X F K) (t : Nat → Int32) : XS (h.set 52 (cI 6 t)) T I X F K := by
  have e : ∀ j, j ≠ 52 → (h.set 52 (cI 6 t))[j]? = h[j]? := fun j hj => List.getElem?_set_ne (by omega)
  obtain ⟨s1, s2, s3, s4, s5, s6, s7, t0, s8⟩ := s
  exact ⟨by rw [e 0 (by decide)]; exact s1, s2.fr (fun j h1 h2 => e j (by omega)), s3.fr (fun j h1 h2 => e j (by omega)), s4.fr (fun j h1 h2 => e j (by omega)), s5.fr (fun j h1 h2 => e j (by omega)), s6.fr (fun j h1 h2 => e j (by omega)), s7.fr (fun j h1 h2 => e j (by omega)), t, get_self s8⟩
theorem MS.told {h : mj_H} {T : Nat → Nat} {I : Nat → Bool × (Nat → Nat)} {X : (Nat → Int32) × Nat} {F : Int64 × Int64} {K : Int32 × Int32 × Int32} (s : MS h T I X F K) (t : Nat → Int32) : MS (h.set 59 (cI 6 t)) T I X F K := by
  have z : ∀ j, j ≠ 59 → (h.set 59 (cI 6 t))[j]? = h[j]? := fun j hj => List.getElem?_set_ne (by omega)
  unfold MS SC at s ⊢
  rw [z 53 (by decide), z 54 (by decide), z 55 (by decide), z 56 (by decide), z 57 (by decide), z 58 (by decide), z 60 (by decide), z 61 (by decide), z 62 (by decide), z 63 (by decide), z 64 (by decide)]
  obtain ⟨s1, s2, s3, s4, s5, s6, s7, ⟨t0, s8⟩, s9⟩ := s
  exact ⟨s1, s2, s3, s4, s5, s6, s7, ⟨t, get_self s8⟩, s9⟩
theorem MG.tld {h : mj_H} (g : MG h) : mj_gR h 53 9 8 = some 59 := g.2.2.2.2.2.2.1
theorem op_man {T : Nat → Nat} {I : Nat → Bool × (Nat → Nat)} {X : (Nat → Int32) × Nat} (p : PU T I X) (F : Int64 × Int64) (K : Int32 × Int32 × Int32) (a b c d e f : Int32) : OPB (f_X8_man 0 a b c d e f) (f_X9_man 53 a b c d e f) T I X F K := by
  have w := p.1.1
  have rc := RC_man w (tld a b c d e f)
  refine ⟨(manR T (tld a b c d e f)).1, (manR T (tld a b c d e f)).2, I, X, F, kR (manR T (tld a b c d e f)).1 K, p.t (p.1.rMan _), fun h s => ?_, fun h s => ?_⟩
  · obtain ⟨t, ht⟩ := s.2.2.2.2.2.2.2
    obtain ⟨h1, h2, h3, h4, h5, h6, t', u1, u2, u3, u4, u5, u6, z1, z2, z3, z4, z5, rfl, et⟩ := lay6 ht a b c d e f
    have x1 : XG h1 := s.x.fr (z1 0 (by decide))
    have x2 : XG h2 := s.x.fr (z2 0 (by decide))
    have x3 : XG h3 := s.x.fr (z3 0 (by decide))
    have x4 : XG h4 := s.x.fr (z4 0 (by decide))
    have x5 : XG h5 := s.x.fr (z5 0 (by decide))
    have s6 := s.told t'
    have c6 := get_self (c := cI 6 t') ht
    obtain ⟨h7, a1, a2, -, a3⟩ := X0_enrol_s s6.b p.1.2 c6 (by omega)
    rw [manR_congr et] at a1 a2
    obtain ⟨o1, z⟩ := acc s6 a2 (fun k hk => a3 k (by omega)) rc
    simp only [f_X8_man, s.x.told, bs, u1, x1.told, u2, x2.told, u3, x3.told, u4, x4.told, u5, x5.told, u6, s6.x.band, s6.x.told, s6.b.ob, if_true, a1, o1]
    obtain ⟨h', y1, y2, y3⟩ := z
    exact ⟨h', y1, y2, fun k hk => (y3 k hk).trans (List.getElem?_set_ne (by omega))⟩
  · obtain ⟨t, ht⟩ := s.2.2.2.2.2.2.2.1
    obtain ⟨h1, h2, h3, h4, h5, h6, t', u1, u2, u3, u4, u5, u6, z1, z2, z3, z4, z5, rfl, et⟩ := lay6 ht a b c d e f
    have g1 : MG h1 := s.g.fr (z1 53 (by decide))
    have g2 : MG h2 := s.g.fr (z2 53 (by decide))
    have g3 : MG h3 := s.g.fr (z3 53 (by decide))
    have g4 : MG h4 := s.g.fr (z4 53 (by decide))
    have g5 : MG h5 := s.g.fr (z5 53 (by decide))
    have s6 := s.told t'
    have c6 := get_self (c := cI 6 t') ht
    obtain ⟨f0, hf0, e0⟩ := s6.2.1
    obtain ⟨f', a1, a2⟩ := X9_doMan_s s6.g hf0 e0 w c6
    rw [manR_congr et] at a1 a2
    obtain ⟨o1, z⟩ := tel s6 a2 rc
    simp only [f_X9_man, s.g.tld, bs, u1, g1.tld, u2, g2.tld, u3, g3.tld, u4, g4.tld, u5, g5.tld, u6, s6.g.ob, if_true, a1, o1]
    obtain ⟨h', y1, y2, y3⟩ := z
    exact ⟨h', y1, y2, fun k hk => (y3 k hk).trans (List.getElem?_set_ne (by omega))⟩
/-! the text -/
def typX (X : (Nat → Int32) × Nat) (c : Int32) : (Nat → Int32) × Nat := (upd X.1 X.2 c, X.2 + 1)
theorem XS.txt {h h' : mj_H} {T : Nat → Nat} {I : Nat → Bool × (Nat → Nat)} {X X' : (Nat → Int32) × Nat} {F : Int64 × Int64} {K : Int32 × Int32 × Int32} (s : XS h T I X F K) (e : ∀ j, j ≠ 34 → j ≠ 35 → h'[j]? = h[j]?) (r : RDR h' X') : XS h' T I X' F K := by
  obtain ⟨s1, s2, s3, s4, s5, s6, s7, t, s8⟩ := s
  exact ⟨by rw [e 0 (by decide) (by decide)]; exact s1, s2.fr (fun j h1 h2 => e j (by omega) (by omega)), s3.fr (fun j h1 h2 => e j (by omega) (by omega)), s4.fr (fun j h1 h2 => e j (by omega) (by omega)), s5.fr (fun j h1 h2 => e j (by omega) (by omega)), r, s7.fr (fun j h1 h2 => e j (by omega) (by omega)), t, by rw [e 52 (by decide) (by decide)]; exact s8⟩
theorem op_clear {T : Nat → Nat} {I : Nat → Bool × (Nat → Nat)} {X : (Nat → Int32) × Nat} (p : PU T I X) (F : Int64 × Int64) (K : Int32 × Int32 × Int32) : OPB (f_X8_clear 0) (f_X9_clear 53) T I X F K := by
  refine ⟨nI X.2, T, I, (X.1, 0), F, K, ⟨p.1, p.2.1, Nat.zero_le _, fun j hj => absurd hj (Nat.not_lt_zero j)⟩, fun h s => ?_, fun h s => ?_⟩
  · obtain ⟨-, d2, d3, -⟩ := s.rd
    obtain ⟨⟨pl, st, tk, vl, it, im, r1⟩, r2, ⟨b, r3, -⟩, ⟨D, r5⟩, g, r6⟩ := s.2.2.2.2.2.1
    have u := sV_r (k := 1) (.int (0 : Int32)) r2 (by simp)
    have z : ∀ j, j ≠ 34 → (h.set 34 (cO 7 [.ref 35, .int 0]))[j]? = h[j]? := fun j hj => List.getElem?_set_ne (by omega)
    refine ⟨h.set 34 (cO 7 [.ref 35, .int 0]), ?_, s.txt (fun j h1 h2 => z j h1) ⟨⟨pl, st, tk, vl, it, im, by rw [z 33 (by decide)]; exact r1⟩, get_self r2, ⟨b, by rw [z 35 (by decide)]; exact r3, fun j hj => absurd hj (Nat.not_lt_zero j)⟩, ⟨D, r5.fr (fun j h1 h2 => z j (by omega))⟩, g, by rw [z 42 (by decide)]; exact r6⟩, fun k hk => z k (by omega)⟩
    simp only [f_X8_clear, s.x.reader, bs, d2, ob_r r2, if_true, f_X7_empty, d3, u]
    rfl
  · obtain ⟨⟨a, b, t, v, l, im, o⟩, s2, s3, s4, s5, ⟨bt, s6, -⟩, s7⟩ := s
    have u := sV_r (k := 4) (.int (0 : Int32)) o (by simp [mfs])
    obtain ⟨H, hH⟩ : ∃ H, H = h.set 53 (cO 9 ((mfs X.2 F a b t v l im).set 4 (.int 0))) := ⟨_, rfl⟩
    rw [← hH] at u
    have z : ∀ j, j ≠ 53 → H[j]? = h[j]? := fun j hj => by rw [hH]; exact List.getElem?_set_ne (by omega)
    have z53 : H[53]? = some (cO 9 (mfs 0 F a b t v l im)) := by rw [hH]; exact get_self o
    refine ⟨H, ?_, ?_, fun k hk => z k (by omega)⟩
    · simp only [f_X9_clear, gI_r (k := 4) (x := nI X.2) o rfl, bs, u]
    · unfold MS SC at *
      rw [z 54 (by decide), z 55 (by decide), z 56 (by decide), z 57 (by decide), z 58 (by decide), z 59 (by decide), z 60 (by decide), z 61 (by decide), z 62 (by decide), z 63 (by decide), z 64 (by decide)]
      exact ⟨⟨a, b, t, v, l, im, z53⟩, s2, s3, s4, s5, ⟨bt, s6, fun j hj => absurd hj (Nat.not_lt_zero j)⟩, s7⟩
theorem op_type {T : Nat → Nat} {I : Nat → Bool × (Nat → Nat)} {X : (Nat → Int32) × Nat} (p : PU T I X) (F : Int64 × Int64) (K : Int32 × Int32 × Int32) (c : Int32) : OPB (f_X8_type 0 c) (f_X9_type 53 c) T I X F K := by
  have hX := p.2.2.1
  have rg := fun (A B : Option (Int32 × mj_H)) => rg2 (x := c) (n := 127) (by decide) A B
  have xa : ∀ h, f_X7_append 34 c h = if mj_ok c 128 = true then ((mj_gI h 34 7 1).bind fun x1 => (if x1 < 0 then some ((-4 : Int32), h) else (mj_gI h 34 7 1).bind fun x2 => (if x2 < (150 : Int32) then (mj_gR h 34 7 0).bind fun x3 => (mj_gI h 34 7 1).bind fun x4 => (mj_uI h x3 x4 c).bind fun h5 => (mj_gI h5 34 7 1).bind fun x6 => (mj_sV h5 34 7 1 (.int (x6 + (1 : Int32)))).bind fun h7 => (mj_gI h7 34 7 1).bind fun x8 => some (x8, h7) else some ((-4 : Int32), h)))) else some ((-2 : Int32), h) := fun h => rg _ _
  by_cases q : mj_ok c 128 = true
  · by_cases q2 : X.2 = 150
    · refine ⟨-4, T, I, X, F, kf K, p, fun h s => ?_, fun h s => ?_⟩
      · obtain ⟨-, d2, d3, -⟩ := s.rd
        have r2 := s.2.2.2.2.2.1.2.1
        have c1 : ¬ nI X.2 < (0 : Int32) := nI_pos (by omega)
        have c2 : ¬ nI X.2 < (150 : Int32) := nI_nlt (b := 150) (by omega) (by omega)
        have c3 : ¬ (0 : Int32) ≤ -4 := by decide
        have e := xa h
        rw [if_pos q] at e
        simp only [d3, bs, c1, if_false, c2] at e
        simp only [f_X8_type, s.x.reader, bs, d2, ob_r r2, if_true, e, c3, if_false, s.x.ob]
        exact (X8_fullR s).bd
      · have inn := (X9_inL c h).2.2.1
        rw [q] at inn
        have c1 : nI X.2 = (150 : Int32) := by rw [q2]; rfl
        simp only [f_X9_type, inn, bs, bi_t, one0, if_false, s.rd.1]
        rw [if_pos c1, if_pos s.g.ob]
        exact (X9_tell_f s).bd
    · have hX2 : X.2 < 150 := by omega
      refine ⟨nI (X.2 + 1), T, I, typX X c, F, K, ⟨p.1, p.2.1, hX2, fun j hj => ?_⟩, fun h s => ?_, fun h s => ?_⟩
      · show mj_ok (upd X.1 X.2 c j) 128 = true
        unfold upd
        by_cases z : j = X.2
        · rw [if_pos z]; exact q
        · rw [if_neg z]; exact p.2.2.2 j (by have : j < X.2 + 1 := hj; omega)
      · obtain ⟨-, d2, d3, -⟩ := s.rd
        obtain ⟨⟨pl, st, tk, vl, it, im, r1⟩, r2, ⟨b, r3, r4⟩, ⟨D, r5⟩, g, r6⟩ := s.2.2.2.2.2.1
        have c1 : ¬ nI X.2 < (0 : Int32) := nI_pos (by omega)
        have c2 : nI X.2 < (150 : Int32) := nI_lt (b := 150) hX2 (by decide)
        have u1 := uI_r c r3 hX2 (by decide)
        have g1 := get_set (c := cI 150 (upd b X.2 c)) r2 (show 35 ≠ 34 by decide)
        have u2 := sV_r (k := 1) (.int (nI (X.2 + 1))) g1 (by simp)
        obtain ⟨H, hH⟩ : ∃ H, H = (h.set 35 (cI 150 (upd b X.2 c))).set 34 (cO 7 ([Value.ref 35, .int (nI X.2)].set 1 (.int (nI (X.2 + 1))))) := ⟨_, rfl⟩
        rw [← hH] at u2
        have z : ∀ j, j ≠ 34 → j ≠ 35 → H[j]? = h[j]? := fun j h1 h2 => by rw [hH, List.getElem?_set_ne (by omega), List.getElem?_set_ne (by omega)]
        have z34 : H[34]? = some (cO 7 [.ref 35, .int (nI (X.2 + 1))]) := by rw [hH]; exact get_self g1
        have z35 : H[35]? = some (cI 150 (upd b X.2 c)) := by rw [hH]; exact get_set (get_self r3) (by decide)
        have e := xa h
        rw [if_pos q] at e
        simp only [d3, bs, c1, if_false, c2, if_true, gR_r (k := 0) (q := 35) r2 rfl, u1, gI_r (k := 1) (x := nI X.2) g1 rfl, nI_1, u2, gI_r (k := 1) (x := nI (X.2 + 1)) z34 rfl] at e
        have c3 : (0 : Int32) ≤ nI (X.2 + 1) := nI_pos' (by omega)
        refine ⟨H, ?_, s.txt z ⟨⟨pl, st, tk, vl, it, im, by rw [z 33 (by decide) (by decide)]; exact r1⟩, z34, ⟨upd b X.2 c, z35, fun j hj => ?_⟩, ⟨D, r5.fr (fun j h1 h2 => z j (by omega) (by omega))⟩, g, by rw [z 42 (by decide) (by decide)]; exact r6⟩, fun k hk => z k (by omega) (by omega)⟩
        · simp only [f_X8_type, s.x.reader, bs, d2, ob_r r2, if_true, e, c3]
        · show upd b X.2 c j = upd X.1 X.2 c j
          unfold upd
          by_cases y : j = X.2
          · rw [if_pos y, if_pos y]
          · rw [if_neg y, if_neg y]; exact r4 j (by have : j < X.2 + 1 := hj; omega)
      · have inn := (X9_inL c h).2.2.1
        rw [q] at inn
        have sg := s.g
        obtain ⟨⟨a, b, t, v, l, im, o⟩, s2, s3, s4, s5, ⟨bt, s6, s6'⟩, s7⟩ := s
        have gt : mj_gR h 53 9 3 = some 57 := gR_r o rfl
        have c1 : ¬ nI X.2 = (150 : Int32) := by rw [show (150 : Int32) = nI 150 from rfl, nI_eq (by omega) (by decide)]; exact q2
        have u1 := uI_r c s6 hX2 (by decide)
        have g1 := get_set (c := cI 150 (upd bt X.2 c)) o (show 57 ≠ 53 by decide)
        have u2 := sV_r (k := 4) (.int (nI (X.2 + 1))) g1 (by simp [mfs])
        obtain ⟨H, hH⟩ : ∃ H, H = (h.set 57 (cI 150 (upd bt X.2 c))).set 53 (cO 9 ((mfs X.2 F a b t v l im).set 4 (.int (nI (X.2 + 1))))) := ⟨_, rfl⟩
        rw [← hH] at u2
        have z : ∀ j, j ≠ 53 → j ≠ 57 → H[j]? = h[j]? := fun j h1 h2 => by rw [hH, List.getElem?_set_ne (by omega), List.getElem?_set_ne (by omega)]
        have z53 : H[53]? = some (cO 9 (mfs (X.2 + 1) F a b t v l im)) := by rw [hH]; exact get_self g1
        have z57 : H[57]? = some (cI 150 (upd bt X.2 c)) := by rw [hH]; exact get_set (get_self s6) (by decide)
        refine ⟨H, ?_, ?_, fun k hk => z k (by omega) (by omega)⟩
        · simp only [f_X9_type, inn, bs, bi_t, one0, if_false, gI_r (k := 4) (x := nI X.2) o rfl, c1, gt, u1, gI_r (k := 4) (x := nI X.2) g1 rfl, nI_1, u2, gI_r (k := 4) (x := nI (X.2 + 1)) z53 rfl]
        · unfold MS SC at *
          rw [z 54 (by decide) (by decide), z 55 (by decide) (by decide), z 56 (by decide) (by decide), z 58 (by decide) (by decide), z 59 (by decide) (by decide), z 60 (by decide) (by decide), z 61 (by decide) (by decide), z 62 (by decide) (by decide), z 63 (by decide) (by decide), z 64 (by decide) (by decide)]
          refine ⟨⟨a, b, t, v, l, im, z53⟩, s2, s3, s4, s5, ⟨_, z57, fun j hj => ?_⟩, s7⟩
          show upd bt X.2 c j = upd X.1 X.2 c j
          unfold upd
          by_cases y : j = X.2
          · rw [if_pos y, if_pos y]
          · rw [if_neg y, if_neg y]; exact s6' j (by have : j < X.2 + 1 := hj; omega)
  · rw [Bool.not_eq_true] at q
    refine ⟨-2, T, I, X, F, kb K, p, fun h s => ?_, fun h s => ?_⟩
    · obtain ⟨-, d2, d3, -⟩ := s.rd
      have r2 := s.2.2.2.2.2.1.2.1
      have c3 : ¬ (0 : Int32) ≤ -2 := by decide
      have e := xa h
      rw [if_neg (by rw [q]; decide)] at e
      simp only [f_X8_type, s.x.reader, bs, d2, ob_r r2, if_true, e, c3, if_false, s.x.ob]
      exact (X8_badR s).bd
    · have inn := (X9_inL c h).2.2.1
      rw [q] at inn
      simp only [f_X9_type, inn, bs, bi_f, if_true, s.g.ob]
      exact (X9_bad_s s (-2)).bd
