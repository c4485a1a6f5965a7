/-! PURE: bits, pairs, likeliest, wearers -/
def popc (n : Nat) : Nat := n % 2 + n / 2 % 2 + n / 4 % 2 + n / 8 % 2 + n / 16 % 2 + n / 32 % 2
theorem bc64 : ∀ n, n < 64 → ∀ r, f_J6_bitCount_0f7a4 (nI n) [] = some r → r.1 = nI (popc n) := by
  have h : ∀ n, n < 64 → (match f_J6_bitCount_0f7a4 (nI n) [] with | some r => r.1 == nI (popc n) | none => true) = true := by decide +kernel
  intro n hn r hr
  have := h n hn
  rw [hr] at this
  exact beq_iff_eq.mp this
theorem bitCount_s {n : Nat} (hn : n < 64) (h : mj_H) : f_J6_bitCount_0f7a4 (nI n) h = some (nI (popc n), h) := by
  have h1 := bc64 n hn _ rfl
  unfold f_J6_bitCount_0f7a4
  exact congrArg (fun z => some (z, h)) h1
theorem popc_le (n : Nat) : popc n ≤ 6 := by unfold popc; omega
theorem sm_popc {f : Nat → Nat} : ∀ n, sm (fun m => popc (f m)) n ≤ n * 6 := fun n => sm_le (fun k _ => popc_le _)
def pairsN (T : Nat → Nat) : Nat := sm (fun m => popc (T (10 + m))) (T 0) / 2
theorem X0_pairs_s {h : mj_H} {p : Nat} {T : Nat → Nat} (b : BN h p T) (w : WF T) : f_X0_pairs p h = some (nI (pairsN T), h) := by
  have w0 := w.1
  unfold f_X0_pairs f_X0_pairs_4
  refine fix_iter (st := fun i => (p, nI (sm (fun m => popc (T (10 + m))) i), nI i, h)) (T 0) _ (fun i hi K => ?_) (fun K => ?_) 1000 (by omega)
  · have hlt : ¬ nI (T 0) ≤ nI i := nI_ge hi (by omega)
    simp [b_X0_pairs_4, mj_gI, mj_gV, b.2.1, hlt, b.ob, X0_brothersOf_s b hi, bitCount_s (w.br hi), sm, nI_add, n1]
  · have hle : nI (T 0) ≤ nI (T 0) := nI_le (Nat.le_refl _) (by omega)
    have hb := sm_popc (f := fun m => T (10 + m)) (T 0)
    simp [b_X0_pairs_4, mj_gI, mj_gV, b.2.1, hle, show (2 : Int32) = nI 2 from rfl, pk_div (show sm (fun m => popc (T (10 + m))) (T 0) < 2 ^ 31 by omega) (show 0 < 2 by decide) (by decide), pairsN]
def lik (W : Nat → Nat) : Nat → Nat
  | 0 => 0
  | n + 1 => if W (lik W n) < W (n + 1) then n + 1 else lik W n
theorem lik_le (W : Nat → Nat) : ∀ n, lik W n ≤ n
  | 0 => Nat.le_refl 0
  | n + 1 => by
    have := lik_le W n
    simp only [lik]; split <;> omega
theorem X0_weight_s {h : mj_H} {p : Nat} {T : Nat → Nat} (b : BN h p T) {m k : Nat} (hm : m < T 0) (hk : k < 6) : f_X0_weightOf p (nI m) (nI k) h = some (lN (tw T m k), h) := by
  obtain ⟨b0, b1, ⟨w, b2, b3⟩, -⟩ := b
  rw [X5_weightOf_s b1 b2 (by omega) hk, b3 _ (by omega)]
  rfl
theorem X0_likeliest_s {h : mj_H} {p : Nat} {T : Nat → Nat} (b : BN h p T) (w : WF T) {m : Nat} (hm : m < T 0) : f_X0_likeliestOf p (nI m) h = some (nI (lik (tw T m) 5), h) := by
  unfold f_X0_likeliestOf f_X0_likeliestOf_4
  refine fix_iter (st := fun i => (p, nI m, nI (lik (tw T m) i), nI (i + 1), h)) 5 _ (fun i hi K => ?_) (fun K => ?_) 1000 (by decide)
  · have h1 := lik_le (tw T m) i
    have w1 := w.w hm (i + 1) (by omega)
    have w2 := w.w hm (lik (tw T m) i) (by omega)
    have c := lle (a := tw T m (i + 1)) (b := tw T m (lik (tw T m) i)) (by omega) (by omega)
    by_cases q : tw T m (lik (tw T m) i) < tw T m (i + 1)
    · have c' : ¬ lN (tw T m (i + 1)) ≤ lN (tw T m (lik (tw T m) i)) := fun z => by have := c.mp z; omega
      simp [b_X0_likeliestOf_4, f_X0_likeliestOf_28, le6 (show i + 1 < 6 by omega), b.ob, X0_weight_s b hm (show i + 1 < 6 by omega), X0_weight_s b hm (show lik (tw T m) i < 6 by omega), c', lik, q, n1, nI_add]
    · have c' : lN (tw T m (i + 1)) ≤ lN (tw T m (lik (tw T m) i)) := c.mpr (by omega)
      simp [b_X0_likeliestOf_4, f_X0_likeliestOf_28, le6 (show i + 1 < 6 by omega), b.ob, X0_weight_s b hm (show i + 1 < 6 by omega), X0_weight_s b hm (show lik (tw T m) i < 6 by omega), c', lik, q, n1, nI_add]
  · simp [b_X0_likeliestOf_4, ge6]
def wears (T : Nat → Nat) (set : Nat) (all : Bool) (m : Nat) : Bool := if all then decide (T (4 + m) &&& set = set) else !decide (T (4 + m) &&& set = 0)
def wear (T : Nat → Nat) (set : Nat) (all : Bool) : Nat → Nat
  | 0 => 0
  | n + 1 => if wears T set all n = true then wear T set all n ||| 2 ^ n else wear T set all n
theorem wear_lt (T : Nat → Nat) (set : Nat) (all : Bool) : ∀ n, wear T set all n < 2 ^ n
  | 0 => by simp [wear]
  | n + 1 => by
    have h := wear_lt T set all n
    have h2 : 2 ^ (n + 1) = 2 * 2 ^ n := by rw [Nat.pow_succ]; omega
    simp only [wear]
    split
    · exact or_lt (by omega) (by rw [h2]; have := Nat.pow_pos (n := n) (show 0 < 2 by decide); omega)
    · omega
theorem X0_wearers_s {h : mj_H} {p : Nat} {T : Nat → Nat} (b : BN h p T) (w : WF T) {set : Nat} (hs : set < 32) (all : Bool) : f_X0_wearers p (nI set) (bi all) h = some (nI (wear T set all (T 0)), h) := by
  have w0 := w.1
  unfold f_X0_wearers f_X0_wearers_5
  refine fix_iter (st := fun i => (p, nI set, bi all, nI (wear T set all i), nI i, h)) (T 0) _ (fun i hi K => ?_) (fun K => ?_) 1000 (by omega)
  · have hlt : ¬ nI (T 0) ≤ nI i := nI_ge hi (by omega)
    have h1 := (w.2.2.2.2.1 i hi).1
    have h2 : T (4 + i) &&& set ≤ set := Nat.and_le_right
    have c1 : (nI (T (4 + i) &&& set) = nI set) ↔ T (4 + i) &&& set = set := nI_eq (by omega) (by omega)
    have c2 : (nI (T (4 + i) &&& set) = 0) ↔ T (4 + i) &&& set = 0 := nI_eq (by omega) (by decide)
    have e1 : nI i + (1 : Int32) = nI (i + 1) := nI_1 i
    cases all
    · by_cases q : T (4 + i) &&& set = 0
      · simp [b_X0_wearers_5, f_X0_wearers_49, mj_gI, mj_gV, b.2.1, hlt, b.ob, X0_signsOf_s b hi, bi_f, andI, c2.mpr q, q, wear, wears, e1, show nI 0 = (0 : Int32) from rfl]
      · simp [b_X0_wearers_5, f_X0_wearers_49, f_X0_wearers_42, mj_gI, mj_gV, b.2.1, hlt, b.ob, X0_signsOf_s b hi, bi_f, andI, c2, q, wear, wears, shl1 (show i < 31 by omega), orI, e1]
    · by_cases q : T (4 + i) &&& set = set
      · simp [b_X0_wearers_5, f_X0_wearers_49, f_X0_wearers_42, mj_gI, mj_gV, b.2.1, hlt, b.ob, X0_signsOf_s b hi, bi_t, andI, c1, q, wear, wears, shl1 (show i < 31 by omega), orI, e1]
      · simp [b_X0_wearers_5, f_X0_wearers_49, mj_gI, mj_gV, b.2.1, hlt, b.ob, X0_signsOf_s b hi, bi_t, andI, c1, q, wear, wears, e1]
  · have hle : nI (T 0) ≤ nI (T 0) := nI_le (Nat.le_refl _) (by omega)
    simp [b_X0_wearers_5, mj_gI, mj_gV, b.2.1, hle]
