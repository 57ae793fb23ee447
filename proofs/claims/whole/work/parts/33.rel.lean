/-! ===== the relation between the class (cells below 198, of Mc) and the reference (cells from 198 on, of Mm) ===== -/
/-- a Tavern at cell k against a row of the reference -/
def Tv (Mc : Mem) (k : Nat) (r : Nat → Int32) : Prop :=
  (Mc k 0 = r 1 ∧ Mc k 1 = r 3 ∧ Mc k 2 = r 4 ∧ Mc k 3 = r 0) ∧
  (∀ p, p < 12 → Mc (k + 1) p = r (5 + p) ∧ Mc (k + 2) p = r (17 + p) ∧ Mc (k + 3) p = r (29 + p)) ∧
  (∀ b, b < 14 → Mc (k + 7) b = r (41 + b) ∧ Mc (k + 8) b = r (55 + b) ∧ Mc (k + 9) b = r (69 + b)) ∧
  (∀ b, b < 14 → ∃ z, z ≤ 3 ∧ r (55 + b) = nI z)
/-- what a day never changes -/
def Fx (Mc : Mem) (k : Nat) (Mm : Mem) : Prop :=
  Mc k 4 = Mm 198 6 ∧ Mc k 5 = Mm 198 7 ∧ ∀ b, b < 14 → Mc (k + 4) b = Mm 202 b ∧ Mc (k + 5) b = Mm 203 b ∧ Mc (k + 6) b = Mm 204 b
def Bd (P B : Nat) (Mm : Mem) : Prop := P ≤ 12 ∧ B ≤ 14 ∧ Mm 198 6 = nI P ∧ Mm 198 7 = nI B ∧
  ∀ b, b < B → ∃ f s q, Mm 202 b = nI f ∧ Mm 203 b = nI s ∧ Mm 204 b = nI q ∧ f < P ∧ s < P ∧ f ≠ s ∧ 1 ≤ q ∧ q ≤ 9
/-- THE BOOK: the Lines at cell k -/
def Bk (Mc : Mem) (k : Nat) (Mm : Mem) (n : Nat) : Prop := n ≤ 150 ∧ Mc k 0 = nI n ∧ Mm 199 2 = nI n ∧
  ∀ i, i < n → Mc (k + 1) i = Mm 205 (4 * i) ∧ Mc (k + 2) i = Mm 205 (4 * i + 1) ∧ Mc (k + 3) i = Mm 205 (4 * i + 2) ∧ Mc (k + 4) i = Mm 205 (4 * i + 3)
/-! codes of THE LAW: the reference's (op, arg), and the class's one number -/
def opc (o : Nat) : Nat := [0, 0, 43, 45, 42, 47, 60, 61, 62, 110, 97, 111].getD o 0
def cdR (c o a : Int32) : Prop := (∃ x, x < 10000 ∧ o = 0 ∧ a = nI x ∧ c = nI x) ∨ (∃ x, x < 10 ∧ o = 1 ∧ a = nI x ∧ c = nI (10000 + x)) ∨ (∃ x, 2 ≤ x ∧ x ≤ 11 ∧ o = nI x ∧ c = nI (20000 + opc x))
/-- the kinds on the stack (true: 0 or 1) behind a code -/
def tst (o : Int32) (s : List Bool) : Option (List Bool) :=
  if o = 0 ∨ o = 1 then (if s.length < 30 then some (false :: s) else none)
  else if o = 9 then (match s with
    | true :: r => some (true :: r)
    | _ => none)
  else if o = 10 ∨ o = 11 then (match s with
    | true :: true :: r => some (true :: r)
    | _ => none)
  else if o = 6 ∨ o = 7 ∨ o = 8 then (match s with
    | false :: false :: r => some (true :: r)
    | _ => none)
  else if o = 2 ∨ o = 3 ∨ o = 4 ∨ o = 5 then (match s with
    | false :: false :: r => some (false :: r)
    | _ => none)
  else none
/-- from code i on, n codes: the stack's kinds; a part is by a number that isn't 0 -/
def tck (op arg : Nat → Int32) : Nat → Nat → List Bool → Option (List Bool)
  | _, 0, s => some s
  | i, n + 1, s => if op i = 5 ∧ ¬ (0 < i ∧ op (i - 1) = 0 ∧ arg (i - 1) ≠ 0) then none else (tst (op i) s).bind fun s' => tck op arg (i + 1) n s'
def LawR (Mc : Mem) (k : Nat) (Mm : Mem) : Prop := ∃ n m, n ≤ 16 ∧ m ≤ 400 ∧ Mc k 0 = nI n ∧ Mm 208 0 = nI n ∧ Mc k 1 = nI m ∧
  (∀ i, i < m → cdR (Mc (k + 5) i) (Mm 213 i) (Mm 214 i)) ∧
  ∀ l, l < n → ∃ w e b t, w ≤ 2 ∧ e ≤ b ∧ b ≤ t ∧ t ≤ m ∧ Mc (k + 1) l = nI w ∧ Mm 209 l = nI w ∧ Mc (k + 2) l = nI e ∧ Mm 210 l = nI e ∧ Mc (k + 3) l = nI b ∧ Mm 211 l = nI b ∧ Mc (k + 4) l = nI t ∧ Mm 212 l = nI t ∧
    tck (Mm 213) (Mm 214) e (b - e) [] = some [false] ∧ (b < t → tck (Mm 213) (Mm 214) b (t - b) [] = some [true])
/-- TWISTS -/
def TwR (Mc : Mem) (k : Nat) (Mm : Mem) (B : Nat) : Prop := ∃ n, n ≤ 16 ∧ Mc k 0 = nI n ∧ Mm 198 35 = nI n ∧
  ∀ i, i < n → ∃ b s, b < B ∧ s ≤ 1 ∧ Mc (k + 1) i = Mm 216 (3 * i) ∧ Mc (k + 3) i = nI b ∧ Mm 216 (3 * i + 1) = nI b ∧ Mc (k + 2) i = nI s ∧ Mm 216 (3 * i + 2) = nI s
/-- TAVERN -/
def EvR (Mc : Mem) (k : Nat) (Mm : Mem) (P B : Nat) : Prop := ∃ n, n ≤ 16 ∧ Mc k 0 = nI n ∧ Mm 198 37 = nI n ∧
  ∀ i, i < n → Mc (k + 1) i = Mm 217 (4 * i) ∧ ∃ x, Mc (k + 2) i = nI x ∧ Mm 217 (4 * i + 1) = nI x ∧
    ((x ≤ 1 ∧ Mc (k + 4) i = Mm 217 (4 * i + 2)) ∨ (x = 2 ∧ ∃ b, b < B ∧ Mc (k + 3) i = nI b ∧ Mm 217 (4 * i + 2) = nI b) ∨ (x = 3 ∧ ∃ p, p < P ∧ Mc (k + 3) i = nI p ∧ Mm 217 (4 * i + 2) = nI p ∧ Mc (k + 4) i = Mm 217 (4 * i + 3)))
/-- HEARS: who hears b by the first n lines, as a set -/
def hmask (wh mu_ : Nat → Int32) (b : Nat) : Nat → Int32
  | 0 => 0
  | n + 1 => if wh n = nI b then hmask wh mu_ b n ||| jshl 1 (mu_ n) else hmask wh mu_ b n
def HeR (Mc : Mem) (k : Nat) (Mm : Mem) (P B : Nat) : Prop := ∃ n, n ≤ 16 ∧ Mc k 0 = nI n ∧ Mm 198 39 = nI n ∧
  (∀ i, i < n → ∃ b p, b < B ∧ p < P ∧ Mc (k + 3) i = nI b ∧ Mc (k + 4) i = nI p) ∧ ∀ b, b < 14 → Mm 218 b = hmask (Mc (k + 3)) (Mc (k + 4)) b n
/-- a told row: the Row at cell k (least, greatest, unlike as made), against a number and a row of the reference -/
def RwR (Mc : Mem) (k : Nat) (many : Int32) (r : Nat → Int32) (cap lo hi un : Nat) : Prop := Mc k 2 = nI lo ∧ Mc k 3 = nI hi ∧ Mc k 4 = nI un ∧ ∃ n, n ≤ cap ∧ Mc k 0 = nI n ∧ many = nI n ∧ ∀ i, i < n → ∃ x, lo ≤ x ∧ x ≤ hi ∧ Mc (k + 1) i = nI x ∧ r i = nI x
def ToR (Mc : Mem) (k : Nat) (Mm : Mem) : Prop :=
  RwR Mc (k + 1) (Mm 198 43) (Mm 221) 14 0 9 0 ∧ RwR Mc (k + 3) (Mm 198 48) (Mm 225) 16 0 2 0 ∧ RwR Mc (k + 5) (Mm 231 0) (Mm 232) 5 1 9 1 ∧ RwR Mc (k + 7) (Mm 231 1) (fun i => Mm 232 (8 + i)) 8 0 200 1 ∧
  ∀ i, i < 9 → ∃ x, x ≤ 30 ∧ Mc (k + 9) i = nI x ∧ Mm 230 i = nI x
/-- all that is and was told: the Court at cell c -/
def CR (c : Nat) (Mc Mm : Mem) : Prop := ∃ P B n, Bd P B Mm ∧ Tv Mc (c + 1) (Mm 199) ∧ Fx Mc (c + 1) Mm ∧ Bk Mc (c + 11) Mm n ∧ LawR Mc (c + 16) Mm ∧ TwR Mc (c + 24) Mm B ∧ EvR Mc (c + 29) Mm P B ∧ HeR Mc (c + 34) Mm P B ∧ ToR Mc (c + 39) Mm
/-- what can be undone: the ring of the class against the rows of the reference, the oldest first -/
def PaR (Mc Mm : Mem) (N : Nat) : Prop := ∃ n x, n ≤ 6 ∧ x < 6 ∧ Mc 105 0 = nI n ∧ Mm 198 3 = nI n ∧ Mc 105 1 = nI x ∧ ∃ β : Nat → Nat, (∀ i, i < n → β i ≤ N ∧ ∀ j, i ≤ j → j < n → β i ≤ β j) ∧
  ∀ i, i < n → Tv Mc (108 + 10 * ((x + 6 - n + i) % 6)) (fun j => Mm 200 (83 * i + j)) ∧ Fx Mc (108 + 10 * ((x + 6 - n + i) % 6)) Mm ∧ Mc 107 ((x + 6 - n + i) % 6) = nI (β i) ∧ Mm 200 (83 * i + 2) = nI (β i)
def TaR (Mc Mm : Mem) : Prop := ∃ n, n ≤ 400 ∧ Mc 178 1 = nI n ∧ Mm 198 13 = nI n ∧ ∀ i, i < n → ∃ x, x < 256 ∧ Mm 206 i = nI x ∧ Mc 179 i = ji2b (nI x)
/-- THE IMAGE of the reference, as a memory of its own -/
def unimg (Mm : Mem) : Mem := fun a i =>
  if a = 199 then Mm 234 i
  else if a = 198 then (if i = 6 then Mm 234 83 else if i = 7 then Mm 234 84 else if i = 35 then Mm 234 85 else if i = 37 then Mm 234 86 else if i = 39 then Mm 234 87 else if i = 43 then Mm 234 88 else if i = 48 then Mm 234 89 else 0)
  else if a = 231 then Mm 234 (90 + i)
  else if a = 202 then Mm 234 (92 + 5 * i) else if a = 203 then Mm 234 (93 + 5 * i) else if a = 204 then Mm 234 (94 + 5 * i) else if a = 218 then Mm 234 (95 + 5 * i) else if a = 221 then Mm 234 (96 + 5 * i)
  else if a = 216 then Mm 234 (162 + i)
  else if a = 217 then Mm 234 (210 + i)
  else if a = 225 then Mm 234 (274 + 2 * i) else if a = 232 then Mm 234 (275 + 2 * i)
  else if a = 230 then Mm 234 (306 + i)
  else if a = 205 then Mm 234 (315 + i)
  else if a = 208 then Mm 234 915
  else if a = 209 then Mm 234 (916 + 4 * i) else if a = 210 then Mm 234 (917 + 4 * i) else if a = 211 then Mm 234 (918 + 4 * i) else if a = 212 then Mm 234 (919 + 4 * i)
  else if a = 213 then Mm 234 (980 + 2 * i) else if a = 214 then Mm 234 (981 + 2 * i)
  else 0
def wordsL : List Int32 := [32, 114, 111, 108, 108, 115, 32, 98, 108, 117, 114, 115, 32, 99, 111, 115, 116, 115, 32, 119, 104, 101, 110, 32, 111, 114, 32, 97, 110, 100, 32, 110, 111, 116, 32, 108, 105, 112, 115, 32, 112, 104, 114, 97, 115, 101, 32, 112, 104, 114, 97, 115, 101, 115, 32, 99, 108, 101, 97, 114, 32, 97, 108, 101, 32, 110, 111, 105, 115, 101, 32, 104, 101, 97, 114, 115, 32, 111, 119, 101, 115, 32, 104, 101, 108, 100, 32, 100, 97, 121, 32, 111, 110, 32, 98, 97, 114, 103, 97, 105, 110, 32, 102, 105, 114, 115, 116, 32, 115, 101, 99, 111, 110, 100, 32, 98, 121, 32]
/-- what the constructors made and nothing changes -/
def CsR (Mc Mm : Mem) : Prop := (∀ k ∈ [12, 64], Mc k 1 = 150) ∧ (∀ k ∈ [25, 30, 35, 77, 82, 87, 190], Mc k 1 = 16) ∧ (∀ k ∈ [41, 93], Mc k 2 = 0 ∧ Mc k 3 = 9 ∧ Mc k 4 = 0) ∧ (∀ k ∈ [43, 95], Mc k 2 = 0 ∧ Mc k 3 = 2 ∧ Mc k 4 = 0) ∧ (∀ k ∈ [45, 97], Mc k 2 = 1 ∧ Mc k 3 = 9 ∧ Mc k 4 = 1) ∧ (∀ k ∈ [47, 99], Mc k 2 = 0 ∧ Mc k 3 = 200 ∧ Mc k 4 = 1) ∧
  (∀ i, i < 289 → Mc 196 i = 0) ∧ (∀ i, i < 118 → Mm 207 i = wordsL.getD i 0) ∧ Mm 226 0 = 0 ∧ Mm 227 0 = 0 ∧ Mm 198 5 = 0
def AR (Mc Mm : Mem) : Prop := CR 1 Mc Mm ∧ (∃ N, Mm 199 2 = nI N ∧ N ≤ 150 ∧ PaR Mc Mm N) ∧ TaR Mc Mm ∧ (Mc 178 2 = Mm 198 33 ∧ Mc 178 3 = Mm 198 34) ∧ ((Mc 0 2 = 0 ∧ Mm 198 59 = 0) ∨ (Mc 0 2 = 1 ∧ Mm 198 59 = 1 ∧ CR 53 Mc (unimg Mm))) ∧ CsR Mc Mm
