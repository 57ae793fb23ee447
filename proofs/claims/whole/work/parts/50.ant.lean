/-! ===== ant ===== -/
def wI (V : Nat) : Int64 := Int64.ofNat V
def aOx (d : Nat) : Nat := if d = 1 then 1 else if d = 3 then 7 else 0
def aOy (d : Nat) : Nat := if d = 2 then 1 else if d = 0 then 7 else 0
def aDx (d : Nat) : Int32 := if d = 1 then 1 else if d = 3 then -1 else 0
def aDy (d : Nat) : Int32 := if d = 2 then 1 else if d = 0 then -1 else 0
def aD (V i d : Nat) : Nat := (d + if V.testBit i then 3 else 1) % 4
def aC (V i c : Nat) : Nat := if V.testBit i then c - 1 else c + 1
def aOk (V x y d c : Nat) : Bool := decide (x < 8) && (decide (y < 8) && (decide (d < 4) && (decide (decide (jlcmp ((jlushr (wI V) (nI (8 * y + x))) &&& 1) 0 = 0) = !V.testBit (8 * y + x)) && (decide (wI V ^^^ jlshl 1 (nI (8 * y + x)) = wI (V ^^^ 2 ^ (8 * y + x))) && (decide (fJ13_bitCount_95d88 (wI V) = nI c) && (decide (c < 100) && (!V.testBit (8 * y + x) || decide (1 ≤ c))))))))
def aChk : Nat → Nat → Nat → Nat → Nat → Nat → Bool
  | 0, V, x, y, d, c => aOk V x y d c
  | k + 1, V, x, y, d, c => aOk V x y d c && aChk k (V ^^^ 2 ^ (8 * y + x)) ((x + aOx (aD V (8 * y + x) d)) % 8) ((y + aOy (aD V (8 * y + x) d)) % 8) (aD V (8 * y + x) d) (aC V (8 * y + x) c)
theorem aChk_all : aChk 300 0 3 3 0 0 = true := by decide +kernel
