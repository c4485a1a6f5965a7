/-! PURE: the two objects at their start -/
def zI : Nat → Int32 := fun _ => 0
def zJ : Nat → Int64 := fun _ => 0
def c8n : mj_C := .inr (8, [.null, .null, .null, .null, .null, .null, .null, .null, .null, .long 0, .long 0, .int 0, .int 0, .int 0])
def c9n : mj_C := .inr (9, [.null, .null, .null, .null, .int 0, .long 0, .long 0, .null, .null, .int 0, .int 0, .int 0, .int 0, .long 0, .null, .int 0, .null, .null, .null, .null])
def band0 (p : Nat) : mj_H := [cO 0 [.ref (p + 1), .ref (p + 2), .ref (p + 3), .ref (p + 4), .int 0, .int 0, .int 40], cJ 36 zJ, cI 6 zI, cI 6 zI, cO 5 [.ref (p + 5)], cJ 6 zJ]
def past0 (p : Nat) : mj_H := [cO 3 [.ref (p + 1), .ref (p + 2), .ref (p + 3), .int 0, .int 0], cJ 288 zJ, cI 8 zI, cI 8 zI]
def H8 : mj_H := [cO 8 (xfs (0, 1) (0, 0, 0))] ++ band0 1 ++ past0 7 ++ ([cO 1 [.ref 12, .ref 18, .int 0]] ++ band0 12 ++ past0 18) ++ ([cO 1 [.ref 23, .ref 29, .int 0]] ++ band0 23 ++ past0 29) ++ ([cO 4 [.ref 34, .ref 36, .ref 42, .int 0, .int 0, .int 0, .int 0, .int 0, .int 0], cO 7 [.ref 35, .int 0], cI 150 zI] ++ band0 36 ++ [cI 6 zI]) ++ [cO 2 [.ref 44, .ref 45, .int 0], cI 6 zI, cJ 7 zJ, cO 5 [.ref 47], cJ 6 zJ, cO 6 [.ref 49, .ref 50, .int 0], cI 3 zI, cO 5 [.ref 51], cJ 6 zJ, cI 6 zI]
set_option maxRecDepth 20000 in
theorem init8 : f_X8_init 0 [c8n] = some H8 := rfl
def H9 : mj_H := H8 ++ [cO 9 (mfs 0 (0, 1) 0 0 0 0 0 0), cI 356 zI, cI 712 zI, cZ 2 zI, cI 150 zI, cI 3 zI, cI 6 zI, cI 210 zI, cI 356 zI, cJ 7 zJ, cI 52 zI, cI 3 zI]
/-- X9's start, with its cleaning left open -/
def g9 (C : Nat → Int32 → mj_H → Option mj_H) (v0 : Nat) (h : mj_H) : Option (mj_H) := (mj_mk h (.inl (0, 356, .inl (fun _ => (0 : Int32))))).bind fun p1 => (mj_sV p1.2 v0 9 0 (.ref p1.1)).bind fun h2 => (mj_mk h2 (.inl (0, 712, .inl (fun _ => (0 : Int32))))).bind fun p3 => (mj_sV p3.2 v0 9 1 (.ref p3.1)).bind fun h4 => (mj_mk h4 (.inl (2, 2, .inl (fun _ => (0 : Int32))))).bind fun p5 => (mj_sV p5.2 v0 9 2 (.ref p5.1)).bind fun h6 => (mj_mk h6 (.inl (0, 150, .inl (fun _ => (0 : Int32))))).bind fun p7 => (mj_sV p7.2 v0 9 3 (.ref p7.1)).bind fun h8 => (mj_sV h8 v0 9 6 (.long (1 : Int64))).bind fun h9 => (mj_mk h9 (.inl (0, 3, .inl (fun _ => (0 : Int32))))).bind fun p10 => (mj_sV p10.2 v0 9 7 (.ref p10.1)).bind fun h11 => (mj_mk h11 (.inl (0, 6, .inl (fun _ => (0 : Int32))))).bind fun p12 => (mj_sV p12.2 v0 9 8 (.ref p12.1)).bind fun h13 => (mj_mk h13 (.inl (0, 210, .inl (fun _ => (0 : Int32))))).bind fun p14 => (mj_sV p14.2 v0 9 14 (.ref p14.1)).bind fun h15 => (mj_mk h15 (.inl (0, 356, .inl (fun _ => (0 : Int32))))).bind fun p16 => (mj_sV p16.2 v0 9 16 (.ref p16.1)).bind fun h17 => (mj_mk h17 (.inl (1, 7, .inr (.inl (fun _ => (0 : Int64)))))).bind fun p18 => (mj_sV p18.2 v0 9 17 (.ref p18.1)).bind fun h19 => (mj_mk h19 (.inl (0, 52, .inl (fun _ => (0 : Int32))))).bind fun p20 => (mj_sV p20.2 v0 9 18 (.ref p20.1)).bind fun h21 => (mj_mk h21 (.inl (0, 3, .inl (fun _ => (0 : Int32))))).bind fun p22 => (mj_sV p22.2 v0 9 19 (.ref p22.1)).bind fun h23 => (if mj_ob h23 v0 9 = true then (C v0 (40 : Int32) h23).bind fun p24 => some p24 else none)
theorem g9_f : f_X9_init = g9 f_X9_clean := rfl
set_option maxRecDepth 20000 in
theorem g9_v (C : Nat → Int32 → mj_H → Option mj_H) : g9 C 53 (H8 ++ [c9n]) = (C 53 (40 : Int32) H9).bind fun p => some p := rfl
theorem init9 : f_X9_init 53 (H8 ++ [c9n]) = (f_X9_clean 53 (40 : Int32) H9).bind fun p => some p := by rw [g9_f]; exact g9_v _
def T0 : Nat → Nat := musterT 40
def I0 : Nat → Bool × (Nat → Nat) := fun _ => (false, T0)
def X0 : (Nat → Int32) × Nat := (zI, 0)
theorem T0_0 : T0 0 = 0 := rfl
theorem T0_3 : T0 3 = 0 := rfl
theorem BN0 {h : mj_H} {p : Nat} (a0 : h[p]? = some (cO 0 [.ref (p + 1), .ref (p + 2), .ref (p + 3), .ref (p + 4), .int 0, .int 0, .int 40])) (a1 : h[p + 1]? = some (cJ 36 zJ)) (a2 : h[p + 2]? = some (cI 6 zI)) (a3 : h[p + 3]? = some (cI 6 zI)) (a4 : h[p + 4]? = some (cO 5 [.ref (p + 5)])) (a5 : h[p + 5]? = some (cJ 6 zJ)) : BN h p T0 := by
  refine ⟨by rw [T0_0]; omega, a0, ⟨_, a1, fun i hi => ?_⟩, ⟨_, a2, fun m hm => ?_⟩, ⟨_, a3, fun m hm => ?_⟩, a4, _, a5⟩
  · rw [T0_0] at hi; omega
  · rw [T0_0] at hm; omega
  · rw [T0_0] at hm; omega
theorem PS0 {h : mj_H} {p : Nat} (a0 : h[p]? = some (cO 3 [.ref (p + 1), .ref (p + 2), .ref (p + 3), .int 0, .int 0])) (a1 : h[p + 1]? = some (cJ 288 zJ)) (a2 : h[p + 2]? = some (cI 8 zI)) (a3 : h[p + 3]? = some (cI 8 zI)) : PS h p T0 := by
  unfold PS
  rw [T0_3]
  exact ⟨0, by decide, by decide, a0, ⟨_, a1, fun u hu => by omega⟩, ⟨_, a2, fun u hu => by omega⟩, _, a3, fun u hu => by omega⟩
theorem XS0 : XS H9 T0 I0 X0 (0, 1) (0, 0, 0) := by
  refine ⟨rfl, BN0 rfl rfl rfl rfl rfl rfl, PS0 rfl rfl rfl rfl, ⟨rfl, BN0 rfl rfl rfl rfl rfl rfl, PS0 rfl rfl rfl rfl⟩, ⟨rfl, BN0 rfl rfl rfl rfl rfl rfl, PS0 rfl rfl rfl rfl⟩, ⟨⟨0, 0, 0, 0, 0, 0, rfl⟩, rfl, ⟨zI, rfl, fun j hj => absurd hj (Nat.not_lt_zero j)⟩, ⟨T0, BN0 rfl rfl rfl rfl rfl rfl⟩, zI, rfl⟩, ⟨⟨fun _ => 0, 0, rfl, ⟨zI, rfl, fun m hm => rfl⟩, zJ, rfl⟩, ⟨rfl, zJ, rfl⟩, 0, zI, rfl, rfl, rfl, zJ, rfl⟩, zI, rfl⟩
theorem PU0 : PU T0 I0 X0 := ⟨WO.muster (by decide), fun i _ => WO.muster (by decide), Nat.zero_le _, fun j hj => absurd hj (Nat.not_lt_zero j)⟩
theorem MS0 {f : Nat → Int32} (e : NT f T0) : MS (H9.set 54 (cI 356 f)) T0 I0 X0 (0, 1) (0, 0, 0) := by
  have z : ∀ j, j ≠ 54 → (H9.set 54 (cI 356 f))[j]? = H9[j]? := fun j hj => List.getElem?_set_ne (by omega)
  have h54 : H9[54]? = some (cI 356 zI) := rfl
  unfold MS SC
  rw [z 53 (by decide), z 55 (by decide), z 56 (by decide), z 57 (by decide), z 58 (by decide), z 59 (by decide), z 60 (by decide), z 61 (by decide), z 62 (by decide), z 63 (by decide), z 64 (by decide)]
  exact ⟨⟨0, 0, 0, 0, 0, 0, rfl⟩, ⟨f, get_self h54, e⟩, ⟨⟨zJ, rfl⟩, ⟨zI, rfl⟩, zI, rfl⟩, ⟨zI, rfl, fun i _ h => absurd h (by show ¬ false = true; decide)⟩, ⟨zI, rfl, fun i _ => rfl⟩, ⟨zI, rfl, fun j hj => absurd hj (Nat.not_lt_zero j)⟩, ⟨zI, rfl, rfl, rfl, rfl⟩, ⟨zI, rfl⟩, ⟨zI, rfl⟩, zI, rfl⟩
/-- both objects stand for one state -/
def LR (h : mj_H) : Prop := ∃ T I X F K, XS h T I X F K ∧ MS h T I X F K ∧ PU T I X
theorem law0 (L : Nat) (xs : Nat → Int32) : ∃ h, f_L_law L xs [] = f_L_law_18 L xs 0 53 (0 : Int32) h ∧ LR h := by
  have g53 : H9[53]? = some (cO 9 (mfs 0 (0, 1) 0 0 0 0 0 0)) := rfl
  obtain ⟨f', a1, a2⟩ := X9_clean_s (h := H9) (MG.of g53) (f := zI) rfl 40
  have a1' : f_X9_clean 53 (40 : Int32) H9 = some (H9.set 54 (cI 356 f')) := a1
  refine ⟨H9.set 54 (cI 356 f'), ?_, T0, I0, X0, (0, 1), (0, 0, 0), XS0.fr (fun j hj => List.getElem?_set_ne (by omega)), MS0 a2, PU0⟩
  have e1 : mj_mk [] c8n = some (0, [c8n]) := rfl
  have e2 : mj_mk H8 c9n = some (53, H8 ++ [c9n]) := rfl
  have e3 : f_X9_init 53 (H8 ++ [c9n]) = some (H9.set 54 (cI 356 f')) := by
    rw [init9, bs1 a1']
  show (mj_mk [] c8n).bind _ = _
  rw [bs1 e1]
  show (f_X8_init 0 [c8n]).bind _ = _
  rw [bs1 init8]
  show (mj_mk H8 c9n).bind _ = _
  rw [bs1 e2]
  show (f_X9_init 53 (H8 ++ [c9n])).bind _ = _
  rw [bs1 e3]
