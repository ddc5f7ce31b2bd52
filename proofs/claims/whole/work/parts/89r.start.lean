/-! the start: the TEXT that is there from the first -/
def zT0 : List Nat := [115, 111, 117, 110, 100, 115, 32, 53, 32, 43, 32, 114, 111, 119, 32, 59, 32, 116, 117, 114, 110, 115, 32, 114, 111, 119, 32, 59, 32, 106, 111, 121, 115, 32, 98, 101, 115, 105, 100, 101, 32, 59, 32, 32, 32, 32, 32, 32]
def zB0 (k : Nat) : Nat := zT0.getD k 0
def zJs : zzJ := (fun _ _ => 0, fun a k => if a = 6 then nI (zB0 k) else if a = 5 ∧ k = 2 then 48 else 0)
set_option maxRecDepth 1000000 in
theorem zJs_read : (F_X2_read zJs).map (fun r => (r.1, (List.range 5).map (r.2.2 2), (List.range 3).map (r.2.2 3))) = some (-1, [5, 10000, 11043, 10000, 10004], [3, 4, 5]) := by decide +kernel
