/-! texts and copies, as functions -/
def zsraw (i k : Nat) : Int32 := (zsbyt.getD i []).getD k 0
def zschar (i : Nat) (j : Int32) : Int32 := zsraw i j.toNatClampNeg
def zcpok (sp dp n : Int32) (n0 n1 : Nat) : Bool := decide (0 ≤ sp) && (decide (0 ≤ dp) && (decide (0 ≤ n) && (decide (sp.toNatClampNeg + n.toNatClampNeg ≤ n0) && decide (dp.toNatClampNeg + n.toNatClampNeg ≤ n1))))
