/-! THE STATES: what an engine is, in numbers and lists; how the class's memory and the reference's state hold it -/
/-- a token: its start, its length, its term's bytes ([]: no term) -/
abbrev Tok : Type := Nat × Nat × List Nat
/-- a document: key, x, y, title, body -/
abbrev DocT : Type := Int64 × Int32 × Int32 × List Tok × List Tok
/-- a segment: its level, its documents by their numbers -/
abbrev SegT : Type := Nat × List Nat
/-- a view: is it open, its segments' documents, which of them all are dead -/
abbrev VwT : Type := Bool × List (List Nat) × List Bool
/-- a part of a query: kind (0 group, 1 words, 2 beginning, 3 range), field, negated, barred, startsAll, boost, end, terms with their numbers, slack, what, least, greatest, the beginning's bytes -/
abbrev PT : Type := Nat × Option Nat × Bool × Bool × Bool × Nat × Nat × List (List Nat × Nat) × Nat × Nat × Int64 × Int64 × List Nat
def pKind (x : PT) : Nat := x.1
def pField (x : PT) : Option Nat := x.2.1
def pNeg (x : PT) : Bool := x.2.2.1
def pBar (x : PT) : Bool := x.2.2.2.1
def pSt (x : PT) : Bool := x.2.2.2.2.1
def pBoost (x : PT) : Nat := x.2.2.2.2.2.1
def pEnd (x : PT) : Nat := x.2.2.2.2.2.2.1
def pTms (x : PT) : List (List Nat × Nat) := x.2.2.2.2.2.2.2.1
def pSlack (x : PT) : Nat := x.2.2.2.2.2.2.2.2.1
def pWhat (x : PT) : Nat := x.2.2.2.2.2.2.2.2.2.1
def pLo (x : PT) : Int64 := x.2.2.2.2.2.2.2.2.2.2.1
def pHi (x : PT) : Int64 := x.2.2.2.2.2.2.2.2.2.2.2.1
def pW (x : PT) : List Nat := x.2.2.2.2.2.2.2.2.2.2.2.2
/-- the answer: its view, its hits with their scores, its query's parts -/
abbrev AnT : Type := Int32 × List (Nat × Nat) × List PT
def dKey (d : DocT) : Int64 := d.1
def dX (d : DocT) : Int32 := d.2.1
def dY (d : DocT) : Int32 := d.2.2.1
def dTok (d : DocT) (f : Nat) : List Tok := if f = 0 then d.2.2.2.1 else d.2.2.2.2
/-- terms as numbers to the base 37 -/
def sgn (c : Nat) : Nat := if 48 ≤ c ∧ c ≤ 57 then c - 47 else if 97 ≤ c ∧ c ≤ 122 then c - 86 else if 65 ≤ c ∧ c ≤ 90 then c - 54 else 0
def enc (t : List Nat) : Nat := t.foldl (fun a c => a * 37 + sgn c) 0 * 37 ^ (12 - t.length)
/-- a term: small letters and digits, twelve at most -/
def isTerm (t : List Nat) : Prop := t.length ≤ 12 ∧ ∀ c ∈ t, (48 ≤ c ∧ c ≤ 57) ∨ (97 ≤ c ∧ c ≤ 122)
def stopL : List (List Nat) := [[97], [97, 110], [97, 110, 100], [105, 110], [105, 115], [105, 116], [111, 102], [111, 110], [111, 114], [116, 104, 101], [116, 111]]
/-! the class's fixed cells, behind the engine's object at e -/
def fixV : List (Nat × Nat) := [(9, 0), (105, 16), (104, 400), (103, 400)]
def fixP : List (Nat × Nat) := [(4, 0), (101, 8), (100, 8), (100, 2)]
def fixT (c : Nat) : Nat × Nat :=
  if c < 8 then [(11, 0), (7, 0), (101, 11), (102, 600), (104, 400), (105, 16), (104, 400), (106, 4)].getD c (99, 0)
  else if c < 24 then fixV.getD ((c - 8) % 4) (99, 0)
  else if c < 27 then [(0, 0), (5, 0), (107, 40)].getD (c - 24) (99, 0)
  else if c < 187 then fixP.getD ((c - 27) % 4) (99, 0)
  else if c < 191 then [(104, 400), (100, 400), (5, 0), (107, 40)].getD (c - 187) (99, 0)
  else if c < 351 then fixP.getD ((c - 191) % 4) (99, 0)
  else [(2, 0), (100, 12), (100, 12), (100, 13)].getD (c - 351) (99, 0)
/-- the references among the fixed cells, but for the two queries, which change places -/
def fixR (σ : Mem) (e : Nat) : Prop :=
  gR σ e 0 = some (e + 1) ∧ gR σ e 1 = some (e + 3) ∧ gR σ e 3 = some (e + 4) ∧ gR σ e 6 = some (e + 5) ∧ gR σ e 9 = some (e + 6) ∧ gR σ e 11 = some (e + 7) ∧ gR σ e 12 = some (e + 24) ∧ gR σ e 14 = some (e + 351) ∧
  gR σ (e + 1) 2 = some (e + 2) ∧ (∀ i, i < 4 → gR σ (e + 7) i = some (e + (8 + 4 * i)) ∧ gR σ (e + (8 + 4 * i)) 1 = some (e + (9 + 4 * i)) ∧ gR σ (e + (8 + 4 * i)) 3 = some (e + (10 + 4 * i)) ∧ gR σ (e + (8 + 4 * i)) 4 = some (e + (11 + 4 * i))) ∧
  gR σ (e + 24) 2 = some (e + 187) ∧ gR σ (e + 24) 3 = some (e + 188) ∧
  (∀ q, q = 25 ∨ q = 189 → gR σ (e + q) 0 = some (e + (q + 1)) ∧ ∀ j, j < 40 → gR σ (e + (q + 1)) j = some (e + (q + 2 + 4 * j)) ∧ gR σ (e + (q + 2 + 4 * j)) 7 = some (e + (q + 3 + 4 * j)) ∧ gR σ (e + (q + 2 + 4 * j)) 8 = some (e + (q + 4 + 4 * j)) ∧ gR σ (e + (q + 2 + 4 * j)) 14 = some (e + (q + 5 + 4 * j))) ∧
  gR σ (e + 351) 4 = some (e + 352) ∧ gR σ (e + 351) 6 = some (e + 353) ∧ gR σ (e + 351) 7 = some (e + 354)
/-- which query is the answer's: 25 or 189; the other is the spare one -/
def fixQ (σ : Mem) (e aq : Nat) : Prop := (aq = 25 ∨ aq = 189) ∧ gR σ (e + 24) 0 = some (e + aq) ∧ gR σ e 13 = some (e + (214 - aq))
def cFix (e : Nat) (σ : Mem) (stem stop : Bool) : Prop :=
  (∀ c, c < 355 → gT σ (e + c) = fixT c) ∧ fixR σ e ∧ gB σ (e + 1) 0 = stem ∧ gB σ (e + 1) 1 = stop ∧ (∀ i, i < 11 → gL σ (e + 2) i = Int64.ofNat (enc (stopL.getD i []))) ∧ e + 401 ≤ gN σ
/-- a byte as Java keeps it in a row of bytes -/
def jb (b : Nat) : Int32 := (nI b).toInt8.toInt32
def cTape (e : Nat) (σ : Mem) (tp : Nat → Nat) (n : Nat) : Prop := n ≤ 600 ∧ gI σ e 2 = nI n ∧ ∀ i, i < 600 → tp i < 256 ∧ gI σ (e + 3) i = jb (tp i)
def rTape (R : RS) (tp : Nat → Nat) (n : Nat) : Prop := n ≤ 600 ∧ R.1 0 3 = nI n ∧ ∀ i, i < 600 → tp i < 256 ∧ R.1 1 i = nI (tp i)
