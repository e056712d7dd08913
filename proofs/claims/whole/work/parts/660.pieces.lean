/-! QUERIES: the pieces of the tape; i is the place from which a piece is read -/
def pS (tp : Nat → Nat) (n i : Nat) : Nat := run (fun j => decide (tp j = 32)) (n - i) i
def pK (tp : Nat → Nat) (n i : Nat) : Nat := if pS tp n i < n then (if isL (tp (pS tp n i)) = true then 256 else tp (pS tp n i)) else 257
def pE (tp : Nat → Nat) (n i : Nat) : Nat := if pS tp n i < n then (if isL (tp (pS tp n i)) = true then wE tp (pS tp n i) n else pS tp n i + 1) else pS tp n i
theorem pS_b {tp : Nat → Nat} {n i : Nat} (h : i ≤ n) : i ≤ pS tp n i ∧ pS tp n i ≤ n := by
  have := run_ge (fun j => decide (tp j = 32)) (n - i) i
  unfold pS
  omega
theorem pE_b {tp : Nat → Nat} {n i : Nat} (h : i ≤ n) : pS tp n i ≤ pE tp n i ∧ pE tp n i ≤ n := by
  have h1 := pS_b (tp := tp) h
  unfold pE
  by_cases c : pS tp n i < n
  · rw [if_pos c]
    by_cases c2 : isL (tp (pS tp n i)) = true
    · rw [if_pos c2]
      have := wE_b (tp := tp) (p := pS tp n i) (b := n) h1.2
      omega
    · rw [if_neg c2]
      omega
  · rw [if_neg c]
    omega
theorem pE_gt {tp : Nat → Nat} {n i : Nat} (h : i ≤ n) (hk : pK tp n i ≠ 257) : pS tp n i < pE tp n i := by
  have h1 := pS_b (tp := tp) h
  unfold pK at hk
  unfold pE
  by_cases c : pS tp n i < n
  · rw [if_pos c]
    by_cases c2 : isL (tp (pS tp n i)) = true
    · rw [if_pos c2]
      exact wE_gt c c2
    · rw [if_neg c2]
      omega
  · rw [if_neg c] at hk
    exact absurd rfl hk
/-- a piece that is a word -/
theorem pW_w {tp : Nat → Nat} {n i : Nat} (ht : ∀ j, j < 600 → tp j < 256) (hn : n ≤ 600) (h : i ≤ n) (hk : pK tp n i = 256) : isWd tp (pS tp n i) (pE tp n i - pS tp n i) ∧ pS tp n i < pE tp n i ∧ pE tp n i ≤ n ∧ pE tp n i = wE tp (pS tp n i) n := by
  have h1 := pS_b (tp := tp) h
  have h2 := pE_b (tp := tp) h
  have h3 := pE_gt h (by rw [hk]; decide)
  have e : pE tp n i = wE tp (pS tp n i) n := by
    unfold pK at hk
    unfold pE
    by_cases c : pS tp n i < n
    · rw [if_pos c] at hk ⊢
      by_cases c2 : isL (tp (pS tp n i)) = true
      · rw [if_pos c2]
      · rw [if_neg c2] at hk
        have := ht (pS tp n i) (by omega)
        omega
    · rw [if_neg c] at hk
      omega
  refine ⟨?_, h3, h2.2, e⟩
  rw [e]
  exact wd_of ht hn h1.2
theorem pK_lt {tp : Nat → Nat} {n i : Nat} (ht : ∀ j, j < 600 → tp j < 256) (hn : n ≤ 600) (h : i ≤ n) : pK tp n i < 258 := by
  have h1 := pS_b (tp := tp) h
  unfold pK
  by_cases c : pS tp n i < n
  · rw [if_pos c]
    by_cases c2 : isL (tp (pS tp n i)) = true
    · rw [if_pos c2]
      omega
    · rw [if_neg c2]
      have := ht (pS tp n i) (by omega)
      omega
  · rw [if_neg c]
    omega
/-- a piece that is one byte -/
theorem pE_1 {tp : Nat → Nat} {n i : Nat} (h : i ≤ n) (hk : pK tp n i ≠ 257) (hk2 : pK tp n i ≠ 256) : pE tp n i = pS tp n i + 1 ∧ pS tp n i < n ∧ isL (tp (pS tp n i)) = false ∧ pK tp n i = tp (pS tp n i) := by
  unfold pK at hk hk2 ⊢
  unfold pE
  by_cases c : pS tp n i < n
  · rw [if_pos c] at hk hk2 ⊢
    rw [if_pos c]
    by_cases c2 : isL (tp (pS tp n i)) = true
    · rw [if_pos c2] at hk2
      exact absurd rfl hk2
    · rw [if_neg c2] at hk hk2 ⊢
      rw [if_neg c2]
      exact ⟨rfl, c, Bool.eq_false_iff.mpr c2, rfl⟩
  · rw [if_neg c] at hk
    exact absurd rfl hk
theorem isL_lt {b : Nat} (h : isL b = true) : b < 128 := by
  unfold isL at h
  rw [decide_eq_true_eq] at h
  unfold sgn at h
  repeat' split at h
  all_goals omega
theorem jb_all : ∀ b, b < 256 → (jb b &&& 255) = nI b ∧ (jb b = 32 ↔ b = 32) ∧ (b < 128 → jb b = nI b) := by decide +kernel
/-- is a row of the tape this name -/
def isNm (tp : Nat → Nat) (a b : Nat) (l : List Nat) : Bool := decide (b - a = l.length ∧ ∀ k, k < l.length → tp (a + k) = l.getD k 0)
def nV (tp : Nat → Nat) (a : Nat) : Nat → Nat
  | 0 => 0
  | k + 1 => nV tp a k * 10 + (tp (a + k) - 48)
/-- the number that a piece is -/
def qNum (tp : Nat → Nat) (n mx i : Nat) : Option Nat := if pK tp n i = 256 ∧ pE tp n i - pS tp n i ≤ mx ∧ ∀ j, j < pE tp n i - pS tp n i → 48 ≤ tp (pS tp n i + j) ∧ tp (pS tp n i + j) ≤ 57 then some (nV tp (pS tp n i) (pE tp n i - pS tp n i)) else none
theorem nV_lt {tp : Nat → Nat} {a : Nat} : ∀ k, (∀ j, j < k → 48 ≤ tp (a + j) ∧ tp (a + j) ≤ 57) → nV tp a k < 10 ^ k
  | 0, _ => by simp [nV]
  | k + 1, h => by
    have h1 := nV_lt k (fun j hj => h j (by omega))
    have h2 := h k (by omega)
    rw [nV, Nat.pow_succ]
    omega
theorem qNum_lt {tp : Nat → Nat} {n mx i v : Nat} (h : qNum tp n mx i = some v) : v < 10 ^ mx := by
  unfold qNum at h
  split at h
  · next c =>
    cases h
    have h1 := nV_lt _ c.2.2
    have h2 : (10 : Nat) ^ (pE tp n i - pS tp n i) ≤ 10 ^ mx := Nat.pow_le_pow_right (by decide) c.2.1
    omega
  · cases h
/-! ATOMS: (what the reference calls it: 1 a word, 2 a beginning, 3 a phrase, 4 a range; field, words with their numbers, slack, what, least, greatest) -/
abbrev AtX : Type := Nat × Option Nat × List (List Nat × Nat) × Nat × Nat × Int32 × Int32
def qInt (tp : Nat → Nat) (n i : Nat) : Nat ⊕ (Nat × Int32) :=
  let j := if pK tp n i = 45 then pE tp n i else i
  match qNum tp n 9 j with
  | none => .inl (pS tp n j)
  | some v => .inr (pE tp n j, if pK tp n i = 45 then -nI v else nI v)
def qRange (tp : Nat → Nat) (n i : Nat) : Nat ⊕ (Nat × AtX) :=
  let j := pE tp n i
  if isNm tp (pS tp n j) (pE tp n j) [120] = true ∨ isNm tp (pS tp n j) (pE tp n j) [121] = true then
    match qInt tp n (pE tp n j) with
    | .inl p => .inl p
    | .inr (j2, a) => match qInt tp n j2 with
      | .inl p => .inl p
      | .inr (j3, b) => if pK tp n j3 = 93 then .inr (pE tp n j3, 4, none, [], 0, (if isNm tp (pS tp n j) (pE tp n j) [120] = true then 0 else 1), a, b) else .inl (pS tp n j3)
  else .inl (pS tp n j)
def qWords (st sp : Bool) (tp : Nat → Nat) (n : Nat) : Nat → Nat → List (List Nat × Nat) → Nat × List (List Nat × Nat)
  | 0, i, ws => (i, ws)
  | k + 1, i, ws => if pK tp n i = 256 then qWords st sp tp n k (pE tp n i) (ws ++ [(mkT st sp tp (pS tp n i) (pE tp n i - pS tp n i), ws.length)]) else (i, ws)
def qPhrase (st sp : Bool) (tp : Nat → Nat) (n : Nat) (g : Option Nat) (i : Nat) : Nat ⊕ (Nat × AtX) :=
  let r := qWords st sp tp n 8 (pE tp n i) []
  if r.2 = [] ∨ pK tp n r.1 ≠ 34 then .inl (pS tp n r.1)
  else if pK tp n (pE tp n r.1) = 126 then
    match qNum tp n 1 (pE tp n (pE tp n r.1)) with
    | none => .inl (pS tp n (pE tp n (pE tp n r.1)))
    | some v => .inr (pE tp n (pE tp n (pE tp n r.1)), 3, g, r.2, v, 0, 0, 0)
  else .inr (pE tp n r.1, 3, g, r.2, 0, 0, 0, 0)
def qTerm (st sp : Bool) (tp : Nat → Nat) (n : Nat) (g : Option Nat) (i : Nat) : Nat × AtX :=
  if pK tp n (pE tp n i) = 42 then (pE tp n (pE tp n i), 2, g, [(small tp (pS tp n i) (pE tp n i - pS tp n i), 0)], 0, 0, 0, 0)
  else (pE tp n i, 1, g, [(mkT st sp tp (pS tp n i) (pE tp n i - pS tp n i), 0)], 0, 0, 0, 0)
/-- the field that a word names, if a : is behind it -/
def qFld (tp : Nat → Nat) (n i : Nat) : Option Nat :=
  if pK tp n (pE tp n i) = 58 then (if isNm tp (pS tp n i) (pE tp n i) [116, 105, 116, 108, 101] = true then some 0 else if isNm tp (pS tp n i) (pE tp n i) [98, 111, 100, 121] = true then some 1 else none) else none
def qAtom (st sp : Bool) (tp : Nat → Nat) (n i : Nat) : Nat ⊕ (Nat × AtX) :=
  if pK tp n i = 91 then qRange tp n i
  else if pK tp n i = 34 then qPhrase st sp tp n none i
  else if pK tp n i = 256 then
    match qFld tp n i with
    | none => .inr (qTerm st sp tp n none i)
    | some f => if pK tp n (pE tp n (pE tp n i)) = 34 then qPhrase st sp tp n (some f) (pE tp n (pE tp n i)) else if pK tp n (pE tp n (pE tp n i)) = 256 then .inr (qTerm st sp tp n (some f) (pE tp n (pE tp n i))) else .inl (pS tp n (pE tp n (pE tp n i)))
  else .inl (pS tp n i)
/-! THE PARSE: parts, operations, words, marks; parts of the ALL, ALLS of the ANY, their scores so far -/
abbrev Sem : Type := Nat → Option Nat
def qCap : Nat := 1000000000
def eitS (a b : Option Nat) : Option Nat := match a, b with
  | none, b => b
  | some a, none => some a
  | some a, some b => some (min (a + b) qCap)
def bthS (a b : Option Nat) : Option Nat := match a, b with
  | some a, some b => some (min (a + b) qCap)
  | _, _ => none
def negS (a : Option Nat) : Option Nat := match a with
  | none => some 0
  | some _ => none
def timS (k : Nat) (a : Option Nat) : Option Nat := a.map (fun v => min (v * k) qCap)
def mkPT (k : Nat) (g : Option Nat) (ng br sa : Bool) (bo en : Nat) (tms : List (List Nat × Nat)) (sl wh : Nat) (lo hi : Int64) (w : List Nat) : PT := (k, g, ng, br, sa, bo, en, tms, sl, wh, lo, hi, w)
def grP (ng br sa : Bool) (bo en : Nat) : PT := mkPT 0 none ng br sa bo en [] 0 0 0 0 []
def atW (y : AtX) : List (List Nat × Nat) := y.2.2.1
def atP (y : AtX) (ng br sa : Bool) (bo en : Nat) : PT :=
  if y.1 = 4 then mkPT 3 none ng br sa bo en [] 0 y.2.2.2.2.1 y.2.2.2.2.2.1.toInt64 y.2.2.2.2.2.2.toInt64 []
  else if y.1 = 2 then mkPT 2 y.2.1 ng br sa bo en [] 0 0 (lN (enc ((atW y).getD 0 ([], 0)).1)) (lN ((sg ((atW y).getD 0 ([], 0)).1 + 1) * 37 ^ (12 - ((atW y).getD 0 ([], 0)).1.length) - 1)) ((atW y).getD 0 ([], 0)).1
  else mkPT 1 y.2.1 ng br sa bo en ((atW y).filter (fun z => !z.1.isEmpty)) y.2.2.2.1 0 0 0 []
/-- an operation: what, field, two numbers -/
abbrev OpT : Type := Nat × Int32 × Int32 × Int32
def atO (y : AtX) (w : Nat) : OpT :=
  if y.1 = 4 then (4, nI y.2.2.2.2.1, y.2.2.2.2.2.1, y.2.2.2.2.2.2)
  else if y.1 = 3 then (3, fI y.2.1, nI w, nI (16 * y.2.2.2.1 + (atW y).length))
  else (y.1, fI y.2.1, nI w, 1)
/-- marks: kind, field, word -/
abbrev MrT : Type := Nat × Option Nat × Nat
def atM (y : AtX) (w : Nat) : List MrT := if y.1 = 4 then [] else ((List.range (atW y).length).filter (fun k => !((atW y).getD k ([], 0)).1.isEmpty)).map (fun k => ((if y.1 = 2 then 2 else 1), y.2.1, w + k))
abbrev QSt : Type := List PT × List OpT × List (List Nat × Nat) × List MrT
/-- where an ANY has come to: place; all so far; parts of the ALL at hand, ALLS that are done; scores of both -/
abbrev QLo : Type := Nat × Nat × Sem × Sem
/-- behind an atom or a parenthesis: - and ^ -/
def qBoost (tp : Nat → Nat) (n i : Nat) : Nat ⊕ (Nat × Nat) :=
  if pK tp n i = 94 then (match qNum tp n 1 (pE tp n i) with
    | some v => if v = 0 then .inl (pS tp n (pE tp n i)) else .inr (pE tp n (pE tp n i), v)
    | none => .inl (pS tp n (pE tp n i)))
  else .inr (i, 1)
def qBeg (k : Nat) : Bool := decide (k = 256 ∨ k = 34 ∨ k = 40 ∨ k = 91 ∨ k = 45)
def opsB (tp : Nat → Nat) (n i : Nat) (ng : Bool) (b : Nat) : List OpT := (if ng = true then [(5, 0, 0, 0)] else []) ++ (if pK tp n i = 94 then [(6, 0, nI b, 0)] else [])
def semB (ng : Bool) (b : Nat) (f : Sem) : Sem := fun d => timS b (if ng = true then negS (f d) else f d)
def setBE (x : PT) (b en : Nat) : PT := mkPT (pKind x) (pField x) (pNeg x) (pBar x) (pSt x) b en (pTms x) (pSlack x) (pWhat x) (pLo x) (pHi x) (pW x)
abbrev QRes : Type := Nat ⊕ (Nat × QSt × QLo)
def qHd (st sp : Bool) (tp : Nat → Nat) (n : Nat) (ev : AtX → Sem) (nest : Bool → Bool → Nat → QSt → QLo → QRes) (d : Nat) (br sa ng : Bool) (i : Nat) (X : QSt) : Nat ⊕ (Nat × QSt × Sem) :=
  if pK tp n i = 40 then
    (if 8 ≤ d then .inl (pS tp n i) else
      match nest (br || ng) true (pE tp n i) (X.1 ++ [grP ng (br || ng) sa 1 0], X.2) (0, 0, fun _ => none, fun _ => some 0) with
      | .inl p => .inl p
      | .inr (i2, Y, Q) => if pK tp n i2 = 41 then .inr (pE tp n i2, (Y.1, Y.2.1 ++ [(7, 0, nI Q.1, 0), (8, 0, nI (Q.2.1 + 1), 0)], Y.2.2), fun d => eitS (Q.2.2.1 d) (Q.2.2.2 d)) else .inl (pS tp n i2))
  else match qAtom st sp tp n i with
    | .inl p => .inl p
    | .inr (i2, y) => .inr (i2, (X.1 ++ [atP y ng (br || ng) sa 1 0], X.2.1 ++ [atO y X.2.2.1.length], X.2.2.1 ++ atW y, X.2.2.2 ++ (if (br || ng) = true then [] else atM y X.2.2.1.length)), ev y)
def qPt (st sp : Bool) (tp : Nat → Nat) (n : Nat) (ev : AtX → Sem) (nest : Bool → Bool → Nat → QSt → QLo → QRes) (d : Nat) (br sa : Bool) (i : Nat) (X : QSt) : Nat ⊕ (Nat × QSt × Sem) :=
  if 40 ≤ X.1.length then .inl (pS tp n i) else
  match qHd st sp tp n ev nest d br sa (decide (pK tp n i = 45)) (if pK tp n i = 45 then pE tp n i else i) X with
  | .inl p => .inl p
  | .inr (i2, Y, f) => match qBoost tp n i2 with
    | .inl p => .inl p
    | .inr (i3, b) => .inr (i3, (Y.1.set X.1.length (setBE (Y.1.getD X.1.length default) b Y.1.length), Y.2.1 ++ opsB tp n i2 (decide (pK tp n i = 45)) b, Y.2.2), semB (decide (pK tp n i = 45)) b f)
def qAny (st sp : Bool) (tp : Nat → Nat) (n : Nat) (ev : AtX → Sem) : Nat → Nat → Bool → Bool → Nat → QSt → QLo → QRes
  | 0, _, _, _, _, _, _ => .inl 0
  | k + 1, d, br, sa, i, X, L => match qPt st sp tp n ev (qAny st sp tp n ev k (d + 1)) d br sa i X with
    | .inl p => .inl p
    | .inr (i3, Z, f) =>
      if pK tp n i3 = 124 then qAny st sp tp n ev k d br true (pE tp n i3) (Z.1, Z.2.1 ++ [(7, 0, nI (L.1 + 1), 0)], Z.2.2) (0, L.2.1 + 1, (fun x => eitS (L.2.2.1 x) (bthS (L.2.2.2 x) (f x))), fun _ => some 0)
      else if qBeg (pK tp n i3) = true then qAny st sp tp n ev k d br false i3 Z (L.1 + 1, L.2.1, L.2.2.1, fun x => bthS (L.2.2.2 x) (f x))
      else .inr (i3, Z, L.1 + 1, L.2.1, L.2.2.1, fun x => bthS (L.2.2.2 x) (f x))
/-! parts are put behind; what was there stays -/
def qExt (P Q : List PT) : Prop := P.length ≤ Q.length ∧ ∀ j, j < P.length → Q.getD j default = P.getD j default
theorem qExt.rf {P : List PT} : qExt P P := ⟨Nat.le_refl _, fun _ _ => rfl⟩
theorem qExt.tr {P Q R : List PT} (h : qExt P Q) (g : qExt Q R) : qExt P R := ⟨Nat.le_trans h.1 g.1, fun j hj => by rw [g.2 j (by have := h.1; omega), h.2 j hj]⟩
theorem qExt.app {P : List PT} {x : PT} : qExt P (P ++ [x]) := ⟨by rw [List.length_append]; omega, fun j hj => by rw [getD_app, if_pos hj]⟩
theorem getD_setS {P : List PT} {k : Nat} {x : PT} (h : k < P.length) : (P.set k x).getD k default = x := by
  rw [List.getD_eq_getElem?_getD, List.getElem?_set_self h]
  rfl
theorem getD_setN {P : List PT} {k j : Nat} {x : PT} (h : j ≠ k) : (P.set k x).getD j default = P.getD j default := by
  rw [List.getD_eq_getElem?_getD, List.getElem?_set_ne (fun z => h z.symm), ← List.getD_eq_getElem?_getD]
theorem qExt.set {P Q : List PT} (h : qExt P Q) {k : Nat} {x : PT} (hk : P.length ≤ k) : qExt P (Q.set k x) := ⟨by rw [List.length_set]; exact h.1, fun j hj => by rw [getD_setN (by omega)]; exact h.2 j hj⟩
def hdOk (y : PT) (ng br sa : Bool) : Prop := pBoost y = 1 ∧ pNeg y = ng ∧ pBar y = br ∧ pSt y = sa
theorem atP_ok (y : AtX) (ng br sa : Bool) : hdOk (atP y ng br sa 1 0) ng br sa := by
  unfold atP
  split
  · exact ⟨rfl, rfl, rfl, rfl⟩
  · split <;> exact ⟨rfl, rfl, rfl, rfl⟩
theorem getD_last {P : List PT} {x : PT} : (P ++ [x]).getD P.length default = x := by
  rw [getD_app, if_neg (Nat.lt_irrefl _), if_pos rfl]
theorem len1 {P : List PT} {x : PT} : (P ++ [x]).length = P.length + 1 := by rw [List.length_append]; rfl
theorem qHd_ext {st sp : Bool} {tp : Nat → Nat} {n : Nat} {ev : AtX → Sem} {nest : Bool → Bool → Nat → QSt → QLo → QRes} {d : Nat} {br sa ng : Bool} {i : Nat} {X : QSt} (hn : ∀ br sa i X L i' Y Q, nest br sa i X L = .inr (i', Y, Q) → qExt X.1 Y.1) {i2 : Nat} {Y : QSt} {f : Sem} (h : qHd st sp tp n ev nest d br sa ng i X = .inr (i2, Y, f)) : qExt X.1 Y.1 ∧ X.1.length < Y.1.length ∧ hdOk (Y.1.getD X.1.length default) ng (br || ng) sa := by
  unfold qHd at h
  by_cases c : pK tp n i = 40
  · rw [if_pos c] at h
    by_cases c2 : 8 ≤ d
    · rw [if_pos c2] at h
      cases h
    · rw [if_neg c2] at h
      cases hr : nest (br || ng) true (pE tp n i) (X.1 ++ [grP ng (br || ng) sa 1 0], X.2) (0, 0, fun _ => none, fun _ => some 0) with
      | inl p =>
        rw [hr] at h
        cases h
      | inr r =>
        obtain ⟨j, Y', Q⟩ := r
        have hx := hn _ _ _ _ _ _ _ _ hr
        rw [hr] at h
        simp only at h hx
        by_cases c3 : pK tp n j = 41
        · rw [if_pos c3] at h
          cases h
          have hl := hx.1
          rw [len1] at hl
          refine ⟨qExt.app.tr hx, hl, ?_⟩
          show hdOk (Y'.1.getD X.1.length default) ng (br || ng) sa
          rw [hx.2 _ (by rw [len1]; omega), getD_last]
          exact ⟨rfl, rfl, rfl, rfl⟩
        · rw [if_neg c3] at h
          cases h
  · rw [if_neg c] at h
    cases hr : qAtom st sp tp n i with
    | inl p =>
      rw [hr] at h
      cases h
    | inr r =>
      obtain ⟨j, y⟩ := r
      rw [hr] at h
      cases h
      refine ⟨qExt.app, by rw [len1]; omega, ?_⟩
      rw [getD_last]
      exact atP_ok y ng (br || ng) sa
theorem qPt_ext {st sp : Bool} {tp : Nat → Nat} {n : Nat} {ev : AtX → Sem} {nest : Bool → Bool → Nat → QSt → QLo → QRes} {d : Nat} {br sa : Bool} {i : Nat} {X : QSt} (hn : ∀ br sa i X L i' Y Q, nest br sa i X L = .inr (i', Y, Q) → qExt X.1 Y.1) {i3 : Nat} {Z : QSt} {f : Sem} (h : qPt st sp tp n ev nest d br sa i X = .inr (i3, Z, f)) : qExt X.1 Z.1 ∧ X.1.length < Z.1.length := by
  unfold qPt at h
  by_cases c : 40 ≤ X.1.length
  · rw [if_pos c] at h
    cases h
  · rw [if_neg c] at h
    cases hr : qHd st sp tp n ev nest d br sa (decide (pK tp n i = 45)) (if pK tp n i = 45 then pE tp n i else i) X with
    | inl p =>
      rw [hr] at h
      cases h
    | inr r =>
      obtain ⟨i2, Y, f2⟩ := r
      rw [hr] at h
      simp only at h
      obtain ⟨x1, x2, -⟩ := qHd_ext hn hr
      cases hb : qBoost tp n i2 with
      | inl p =>
        rw [hb] at h
        cases h
      | inr r =>
        obtain ⟨j3, b⟩ := r
        rw [hb] at h
        cases h
        exact ⟨x1.set (Nat.le_refl _), by rw [List.length_set]; exact x2⟩
theorem qAny_ext {st sp : Bool} {tp : Nat → Nat} {n : Nat} {ev : AtX → Sem} : ∀ (k d : Nat) (br sa : Bool) (i : Nat) (X : QSt) (L : QLo) (i' : Nat) (Y : QSt) (Q : QLo), qAny st sp tp n ev k d br sa i X L = .inr (i', Y, Q) → qExt X.1 Y.1
  | 0, d, br, sa, i, X, L, i', Y, Q, h => by cases h
  | k + 1, d, br, sa, i, X, L, i', Y, Q, h => by
    unfold qAny at h
    cases hr : qPt st sp tp n ev (qAny st sp tp n ev k (d + 1)) d br sa i X with
    | inl p =>
      rw [hr] at h
      cases h
    | inr r =>
      obtain ⟨i3, Z, f⟩ := r
      rw [hr] at h
      simp only at h
      have hx := (qPt_ext (qAny_ext k (d + 1)) hr).1
      by_cases c : pK tp n i3 = 124
      · rw [if_pos c] at h
        have h2 := qAny_ext k d _ _ _ _ _ _ _ _ h
        exact hx.tr h2
      · rw [if_neg c] at h
        by_cases c2 : qBeg (pK tp n i3) = true
        · rw [if_pos c2] at h
          exact hx.tr (qAny_ext k d _ _ _ _ _ _ _ _ h)
        · rw [if_neg c2] at h
          cases h
          exact hx
