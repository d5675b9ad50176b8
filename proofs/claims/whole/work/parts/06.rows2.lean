abbrev iush (x y : Int32) : Int32 := (x.toUInt32 >>> (y.toUInt32 &&& Int32.toUInt32 31)).toInt32
/-- the char at k of String constant i -/
def sChr (i k : Nat) : Int32 := (sByt.getD i []).getD k 0
