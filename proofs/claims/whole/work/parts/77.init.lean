/-! PURE: the two objects at their start -/
def zI : Nat → Int32 := fun _ => 0
def zJ : Nat → Int64 := fun _ => 0
def c8n : mj_C := .inr (8, [.null, .null, .null, .null, .null, .null, .null, .null, .null, .long 0, .long 0, .int 0, .int 0, .int 0])
def c9n : mj_C := .inr (9, [.null, .null, .null, .null, .int 0, .long 0, .long 0, .null, .null, .int 0, .int 0, .int 0, .int 0, .long 0, .null, .int 0, .null, .null, .null, .null])
def band0 (p : Nat) : mj_H := [cO 0 [.ref (p + 1), .ref (p + 2), .ref (p + 3), .ref (p + 4), .int 0, .int 0, .int 40], cJ 36 zJ, cI 6 zI, cI 6 zI, cO 5 [.ref (p + 5)], cJ 6 zJ]
def past0 (p : Nat) : mj_H := [cO 3 [.ref (p + 1), .ref (p + 2), .ref (p + 3), .int 0, .int 0], cJ 288 zJ, cI 8 zI, cI 8 zI]
def H8 : mj_H := [cO 8 (xfs (0, 1) (0, 0, 0))] ++ band0 1 ++ past0 7 ++ ([cO 1 [.ref 12, .ref 18, .int 0]] ++ band0 12 ++ past0 18) ++ ([cO 1 [.ref 23, .ref 29, .int 0]] ++ band0 23 ++ past0 29) ++ ([cO 4 [.ref 34, .ref 36, .ref 42, .int 0, .int 0, .int 0, .int 0, .int 0, .int 0], cO 7 [.ref 35, .int 0], cI 150 zI] ++ band0 36 ++ [cI 6 zI]) ++ [cO 2 [.ref 44, .ref 45, .int 0], cI 6 zI, cJ 7 zJ, cO 5 [.ref 47], cJ 6 zJ, cO 6 [.ref 49, .ref 50, .int 0], cI 3 zI, cO 5 [.ref 51], cJ 6 zJ, cI 6 zI]
set_option maxRecDepth 20000 in
theorem init8 : f_X8_init 0 [c8n] = some H8 := rfl
