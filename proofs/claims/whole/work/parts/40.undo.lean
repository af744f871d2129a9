/-! Acts.latest() and undo() -/
/-- the latest keep's number; none where nothing is kept -/
def f_X0_latest (q : zq) (u : zU) : Option (Option Nat) :=
  if u 38 2 = 0 then some none else (f_J9_floorMod_7cf53 (u 38 1 - (1 : Int32)) (12 : Int32) u).bind (fun r => if z_in r 12 = true then some (some r.toNatClampNeg) else none)
