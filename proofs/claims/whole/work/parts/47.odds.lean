/-! PURE: odds (class) -/
def dpS (d : Nat → Nat) (t : Nat) : Nat → Nat := fun k => match k with
  | 0 => d 0 * (60 - t)
  | k + 1 => d (k + 1) * (60 - t) + d k * t
def dp0 : Nat → Nat := fun k => if k = 0 then 1 else 0
def dp (tr : Nat → Nat) (men : Nat) : Nat → (Nat → Nat)
  | 0 => dp0
  | n + 1 => if men.testBit n = true then dpS (dp tr men n) (tr n) else dp tr men n
def hsum (d : Nat → Nat) (j : Nat) : Nat → Nat
  | 0 => 0
  | n + 1 => hsum d j n + if j ≤ n then d n else 0
def holdN (tr : Nat → Nat) (men j c : Nat) : Nat := hsum (dp tr men c) j 7
theorem dp_le {tr : Nat → Nat} (ht : ∀ m, tr m ≤ 60) (men : Nat) : ∀ n k, dp tr men n k ≤ 60 ^ n
  | 0, k => by simp only [dp, dp0]; split <;> simp
  | n + 1, k => by
    have ih := dp_le ht men n
    have e : 60 ^ (n + 1) = 60 ^ n * 60 := Nat.pow_succ ..
    simp only [dp]
    split
    · have h1 := ht n
      cases k with
      | zero =>
        simp only [dpS]
        rw [e]
        exact Nat.mul_le_mul (ih 0) (by omega)
      | succ k =>
        simp only [dpS]
        have h2 := Nat.mul_le_mul (ih (k + 1)) (Nat.le_refl (60 - tr n))
        have h3 := Nat.mul_le_mul (ih k) (Nat.le_refl (tr n))
        have h4 : 60 ^ n * (60 - tr n) + 60 ^ n * tr n = 60 ^ n * 60 := by rw [← Nat.mul_add]; congr 1; omega
        omega
    · have := ih k
      omega
theorem hsum_le {d : Nat → Nat} {j B : Nat} (h : ∀ k, d k ≤ B) : ∀ n, hsum d j n ≤ n * B
  | 0 => by simp [hsum]
  | n + 1 => by
    have h1 := hsum_le (j := j) h n
    have h2 := h n
    have h3 : (n + 1) * B = n * B + B := Nat.succ_mul ..
    simp only [hsum]
    split <;> omega
theorem pow60 {c : Nat} (h : c ≤ 6) : 60 ^ c ≤ 46656000000 := Nat.le_trans (Nat.pow_le_pow_right (by decide) h) (by decide)
theorem holdN_le {tr : Nat → Nat} (ht : ∀ m, tr m ≤ 60) {men j c : Nat} (hc : c ≤ 6) : holdN tr men j c ≤ 326592000000 := by
  have h1 := hsum_le (j := j) (dp_le ht men c) 7
  have h2 := pow60 hc
  unfold holdN
  omega
theorem bit_out {men c n : Nat} (h : men < 2 ^ c) (hn : c ≤ n) : men.testBit n = false := Nat.testBit_lt_two_pow (Nat.lt_of_lt_of_le h (Nat.pow_le_pow_right (by decide) hn))
theorem dp_out {tr : Nat → Nat} {men c : Nat} (h : men < 2 ^ c) : ∀ i, dp tr men (c + i) = dp tr men c
  | 0 => rfl
  | i + 1 => by
    show (if men.testBit (c + i) = true then _ else _) = _
    rw [bit_out h (by omega), if_neg (by decide)]
    exact dp_out h i
theorem dp_congr {tr tr' : Nat → Nat} {men : Nat} : ∀ {n : Nat}, (∀ m, m < n → tr m = tr' m) → dp tr men n = dp tr' men n
  | 0, _ => rfl
  | n + 1, h => by
    simp only [dp]
    rw [dp_congr (fun m hm => h m (by omega)), h n (by omega)]
/-- the class's odds: what was seen, and the best men of the last choice -/
def OD (h : mj_H) (tr : Nat → Nat) (bm : Int32) : Prop := h[43]? = some (cO 2 [.ref 44, .ref 45, .int bm]) ∧ (∃ f, h[44]? = some (cI 6 f) ∧ ∀ m, m < 6 → f m = nI (tr m)) ∧ ∃ w, h[45]? = some (cJ 7 w)
theorem OD.fr {h h' : mj_H} {tr : Nat → Nat} {bm : Int32} (o : OD h tr bm) (e : ∀ k, 43 ≤ k → k < 46 → h'[k]? = h[k]?) : OD h' tr bm := by
  obtain ⟨o1, ⟨f, o2, o3⟩, w, o4⟩ := o
  exact ⟨by rw [e _ (by omega) (by omega)]; exact o1, ⟨f, by rw [e _ (by omega) (by omega)]; exact o2, o3⟩, w, by rw [e _ (by omega) (by omega)]; exact o4⟩
def trs (T : Nat → Nat) : Nat → Nat := fun m => if m < T 0 then trust T m else 0
def trb (T : Nat → Nat) (tested test : Nat) (shown : Bool) : Nat → Nat := fun m => if m < T 0 then share (beh T tested test shown m) 3 false else 0
theorem trs_le (T : Nat → Nat) (m : Nat) : trs T m ≤ 60 := by
  unfold trs; split
  · exact share_le (by decide)
  · omega
theorem trb_le (T : Nat → Nat) (a t : Nat) (s : Bool) (m : Nat) : trb T a t s m ≤ 60 := by
  unfold trb; split
  · exact share_le (by decide)
  · omega
theorem updn {f : Nat → Int32} {i : Nat} {x : Int32} {P : Nat → Int32} (h : ∀ m, m < i → f m = P m) (hx : x = P i) : ∀ m, m < i + 1 → upd f i x m = P m := by
  intro m hm
  by_cases q : m = i
  · subst q; rw [pk_us]; exact hx
  · rw [pk_un q]; exact h m (by omega)
theorem S5.oth {h h' : mj_H} {p k : Nat} (s : S5 h h' p) (hk : k ≠ p + 5) : h'[k]? = h[k]? := by
  obtain ⟨g, rfl⟩ := s
  exact List.getElem?_set_ne (by omega)
theorem BN.set {h : mj_H} {p k : Nat} {c : mj_C} {T : Nat → Nat} (b : BN h p T) (hk : k < p ∨ p + 6 ≤ k) : BN (h.set k c) p T := b.fr (fun j h1 h2 => List.getElem?_set_ne (by omega))
theorem X2_seeNow_s {h : mj_H} {T tr0 : Nat → Nat} {bm : Int32} (b : BN h 1 T) (w : WF T) (o : OD h tr0 bm) : ∃ h', f_X2_seeNow 43 1 h = some h' ∧ BN h' 1 T ∧ OD h' (trs T) bm ∧ ∀ k, k ≠ 6 → k ≠ 44 → h'[k]? = h[k]? := by
  have w0 := w.1
  unfold f_X2_seeNow f_X2_seeNow_2
  refine fix_inv (fun i s => ∃ h1 f, s = (43, 1, nI i, h1) ∧ BN h1 1 T ∧ h1[44]? = some (cI 6 f) ∧ (∀ m, m < i → f m = nI (trs T m)) ∧ ∀ k, k ≠ 6 → k ≠ 44 → h1[k]? = h[k]?) _ 6 (fun i hi s hs => ?_) (fun s hs => ?_) 1000 (by decide) _ ?_
  · left
    obtain ⟨h1, f, rfl, b1, hf, ef, fr⟩ := hs
    have o1 : h1[43]? = some (cO 2 [.ref 44, .ref 45, .int bm]) := by rw [fr 43 (by decide) (by decide)]; exact o.1
    by_cases q : i < T 0
    · obtain ⟨h2, e2, s2⟩ := X0_trustOf_s b1 w q
      have hlt : ¬ nI (T 0) ≤ nI i := nI_ge q (by omega)
      have hf2 : h2[44]? = some (cI 6 f) := by rw [s2.oth (by decide)]; exact hf
      refine ⟨_, ⟨h2.set 44 (cI 6 (upd f i (nI (trust T i)))), _, rfl, (b1.s5 s2).set (by omega), get_self hf2, updn ef (by simp [trs, q]), fun k k1 k2 => ?_⟩, fun K => ?_⟩
      · rw [List.getElem?_set_ne (by omega), s2.oth (by omega)]; exact fr k k1 k2
      · simp [b_X2_seeNow_2, f_X2_seeNow_34, le6 hi, mj_gR, mj_gI, mj_gV, o1, b1.2.1, hlt, b1.ob, e2, uI_r _ hf2 hi (by decide), nI_1]
    · have hle : nI (T 0) ≤ nI i := nI_le (by omega) (by omega)
      refine ⟨_, ⟨h1.set 44 (cI 6 (upd f i 0)), _, rfl, b1.set (by omega), get_self hf, updn ef (by simp [trs, q]; rfl), fun k k1 k2 => ?_⟩, fun K => ?_⟩
      · rw [List.getElem?_set_ne (by omega)]; exact fr k k1 k2
      · simp [b_X2_seeNow_2, f_X2_seeNow_34, le6 hi, mj_gR, mj_gI, mj_gV, o1, b1.2.1, hle, uI_r _ hf hi (by decide), nI_1]
  · obtain ⟨h1, f, rfl, b1, hf, ef, fr⟩ := hs
    refine ⟨h1, ⟨b1, ⟨by rw [fr 43 (by decide) (by decide)]; exact o.1, ⟨f, hf, ef⟩, by rw [fr 45 (by decide) (by decide)]; exact o.2.2⟩, fr⟩, fun K => ?_⟩
    simp [b_X2_seeNow_2, ge6]
  · obtain ⟨o1, ⟨f, o2, o3⟩, o4⟩ := o
    exact ⟨h, f, rfl, b, o2, fun m hm => by omega, fun _ _ _ => rfl⟩
theorem X2_seeBehind_s {h : mj_H} {T tr0 : Nat → Nat} {bm : Int32} (b : BN h 1 T) (w : WF T) (o : OD h tr0 bm) {tested test : Nat} (htd : tested < T 0) (ht : test < 3) (shown : Bool) : ∃ h', f_X2_seeBehind 43 1 (nI tested) (nI test) (bi shown) h = some h' ∧ BN h' 1 T ∧ OD h' (trb T tested test shown) bm ∧ ∀ k, k ≠ 6 → k ≠ 44 → h'[k]? = h[k]? := by
  have w0 := w.1
  unfold f_X2_seeBehind f_X2_seeBehind_3
  refine fix_inv (fun i s => ∃ h1 f, s = (43, 1, nI tested, nI test, bi shown, nI i, h1) ∧ BN h1 1 T ∧ h1[44]? = some (cI 6 f) ∧ (∀ m, m < i → f m = nI (trb T tested test shown m)) ∧ ∀ k, k ≠ 6 → k ≠ 44 → h1[k]? = h[k]?) _ 6 (fun i hi s hs => ?_) (fun s hs => ?_) 1000 (by decide) _ ?_
  · left
    obtain ⟨h1, f, rfl, b1, hf, ef, fr⟩ := hs
    have o1 : h1[43]? = some (cO 2 [.ref 44, .ref 45, .int bm]) := by rw [fr 43 (by decide) (by decide)]; exact o.1
    by_cases q : i < T 0
    · obtain ⟨h2, e2, s2⟩ := X0_trustBehind_s b1 w q htd ht shown
      have hlt : ¬ nI (T 0) ≤ nI i := nI_ge q (by omega)
      have hf2 : h2[44]? = some (cI 6 f) := by rw [s2.oth (by decide)]; exact hf
      refine ⟨_, ⟨h2.set 44 (cI 6 (upd f i (nI (share (beh T tested test shown i) 3 false)))), _, rfl, (b1.s5 s2).set (by omega), get_self hf2, updn ef (by simp [trb, q]), fun k k1 k2 => ?_⟩, fun K => ?_⟩
      · rw [List.getElem?_set_ne (by omega), s2.oth (by omega)]; exact fr k k1 k2
      · simp [b_X2_seeBehind_3, f_X2_seeBehind_28, f_X2_seeBehind_55, le6 hi, mj_gR, mj_gI, mj_gV, o1, b1.2.1, hlt, b1.ob, e2, uI_r _ hf2 hi (by decide), nI_1]
    · have hle : nI (T 0) ≤ nI i := nI_le (by omega) (by omega)
      refine ⟨_, ⟨h1.set 44 (cI 6 (upd f i 0)), _, rfl, b1.set (by omega), get_self hf, updn ef (by simp [trb, q]; rfl), fun k k1 k2 => ?_⟩, fun K => ?_⟩
      · rw [List.getElem?_set_ne (by omega)]; exact fr k k1 k2
      · simp [b_X2_seeBehind_3, f_X2_seeBehind_28, f_X2_seeBehind_55, le6 hi, mj_gR, mj_gI, mj_gV, o1, b1.2.1, hle, uI_r _ hf hi (by decide), nI_1]
  · obtain ⟨h1, f, rfl, b1, hf, ef, fr⟩ := hs
    refine ⟨h1, ⟨b1, ⟨by rw [fr 43 (by decide) (by decide)]; exact o.1, ⟨f, hf, ef⟩, by rw [fr 45 (by decide) (by decide)]; exact o.2.2⟩, fr⟩, fun K => ?_⟩
    simp [b_X2_seeBehind_3, ge6]
  · obtain ⟨o1, ⟨f, o2, o3⟩, o4⟩ := o
    exact ⟨h, f, rfl, b, o2, fun m hm => by omega, fun _ _ _ => rfl⟩
theorem X2_trustSeen_s {h : mj_H} {tr : Nat → Nat} {bm : Int32} (o : OD h tr bm) {m : Nat} (hm : m < 6) : f_X2_trustSeen 43 (nI m) h = some (nI (tr m), h) := by
  obtain ⟨o1, ⟨f, o2, o3⟩, w, o4⟩ := o
  have h1 : ¬ nI m < 0 := nI_pos (by omega)
  have h2 : ¬ nI 6 ≤ nI m := nI_ge (by omega) (by decide)
  simp [f_X2_trustSeen, h1, mj_gR, mj_gV, o1, aL_I o2, h2, aI_r o2 hm (by decide), o3 m hm]
