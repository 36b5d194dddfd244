/-! LEVEL 3, WHAT IS MEANT: the pit, the ground and what is asked of them, without a store -/
/-- a ground: (props, worth, rest had), tubs in store by kinds, what the cells are -/
abbrev aG : Type := (Int × Int × Int) × (Int → Int) × (Int → Int)
def gPr (g : aG) : Int := g.1.1
def gWo (g : aG) : Int := g.1.2.1
def gRe (g : aG) : Int := g.1.2.2
def gSt (g : aG) : Int → Int := g.2.1
def gCe (g : aG) : Int → Int := g.2.2
/-- a pit: (statements, columns, shaft, rows, kinds, houses, mixes), (holds, props, leans), (rest, gas, foes), (names of kinds, of houses, columns of houses, seam: -1 rock), formulas -/
abbrev aP : Type := (Int × Int × Int × Int × Int × Int × Int) × (Int × Int × Int) × ((Int → Int) × (Int → Int) × (Int → Int)) × ((Int → Int → Int) × (Int → Int → Int) × (Int → Int) × (Int → Int)) × (Option (List Int) × Option (List Int) × Option (List Int))
def pN (P : aP) : Int := P.1.1
def pC (P : aP) : Int := P.1.2.1
def pS (P : aP) : Int := P.1.2.2.1
def pR (P : aP) : Int := P.1.2.2.2.1
def pK (P : aP) : Int := P.1.2.2.2.2.1
def pH (P : aP) : Int := P.1.2.2.2.2.2.1
def pM (P : aP) : Int := P.1.2.2.2.2.2.2
def pHo (P : aP) : Int := P.2.1.1
def pPr (P : aP) : Int := P.2.1.2.1
def pLe (P : aP) : Int := P.2.1.2.2
def pRe (P : aP) : Int → Int := P.2.2.1.1
def pGa (P : aP) : Int → Int := P.2.2.1.2.1
def pFo (P : aP) : Int → Int := P.2.2.1.2.2
def pKn (P : aP) : Int → Int → Int := P.2.2.2.1.1
def pHn (P : aP) : Int → Int → Int := P.2.2.2.1.2.1
def pHc (P : aP) : Int → Int := P.2.2.2.1.2.2.1
def pSe (P : aP) : Int → Int := P.2.2.2.1.2.2.2
def pFm (P : aP) (w : Nat) : Option (List Int) := if w = 0 then P.2.2.2.2.1 else if w = 1 then P.2.2.2.2.2.1 else P.2.2.2.2.2.2
def pCe (P : aP) : Int := pC P * pR P
/-- a cell of the seam -/
abbrev inP (P : aP) (c : Int) : Prop := 0 ≤ c ∧ c < pCe P
/-- the four beside: above, left, right, below; -1 without -/
def nUp (P : aP) (c : Int) : Int := if pC P ≤ c then c - pC P else -1
def nLf (P : aP) (c : Int) : Int := if 0 < c % pC P then c - 1 else -1
def nRt (P : aP) (c : Int) : Int := if c % pC P < pC P - 1 then c + 1 else -1
def nDn (P : aP) (c : Int) : Int := if c + pC P < pCe P then c + pC P else -1
def opn (st : Int → Int) (c : Int) : Prop := 0 ≤ c ∧ (st c = 1 ∨ st c = 2)
theorem opn_dec (st : Int → Int) (c : Int) : opn st c ∨ ¬ opn st c := Classical.em _
noncomputable def b01 (p : Prop) : Int := @ite Int p (Classical.propDecidable p) 1 0
/-- codes: below 10000 numbers; 10001 .. what is done; 10014 all; from 20000 on facts -/
def toC (z : Int) : Int := if z = 10014 then 1 else z
def toM (z : Int) : Int := if z < 10000 then 1000 + z else if z = 10001 then 12 else if z = 10002 then 60 else if z = 10003 then 11 else if z = 10004 then 10 else if z = 10005 then 7 else if z = 10006 then 8 else if z = 10007 then 9 else if z = 10008 then 1 else if z = 10009 then 2 else if z = 10010 then 3 else if z = 10011 then 4 else if z = 10012 then 5 else if z = 10013 then 6 else if z = 10014 then 13 else if z = 20000 then 48 else if z = 20001 then 40 else if z = 20002 then 41 else if z = 20003 then 42 else if z = 20004 then 43 else if z = 20005 then 44 else if z = 20006 then 45 else if z = 20007 then 49 else if z = 20008 then 46 else 47
def clp (v : Int) : Int := if 1000000 < v then 1000000 else if v < -1000000 then -1000000 else v
def fdv (a b : Int) : Int := if b = 0 then 0 else if (a < 0 ∧ 0 ≤ b ∨ 0 ≤ a ∧ b < 0) ∧ a.tmod b ≠ 0 then a.tdiv b - 1 else a.tdiv b
/-- two values joined -/
def jn2 (op a b : Int) : Int :=
  if op = 10003 then (if a = 0 ∧ b = 0 then 0 else 1) else if op = 10004 then (if a = 0 ∨ b = 0 then 0 else 1) else
  if op = 10005 then (if a < b then 1 else 0) else if op = 10006 then (if b < a then 1 else 0) else if op = 10007 then (if a = b then 1 else 0) else
  if op = 10008 then clp (a + b) else if op = 10009 then clp (a - b) else if op = 10010 then clp (a * b) else
  if op = 10011 then fdv a b else if op = 10012 then (if a < b then a else b) else (if b < a then a else b)
/-- one step of a formula on a pile (its top ahead) -/
def ev1 (f tb : Int → Int) (op : Int) (s : List Int) : List Int :=
  if op < 10000 then op :: s else if op = 10014 then 1 :: s else if 20000 ≤ op then f (op - 20000) :: s else
  match s with
  | [] => []
  | x :: r => if op = 10001 then (1 - x) :: r else if op = 10002 then tb x :: r else
    match r with
    | [] => [x]
    | y :: q => jn2 op y x :: q
def evl (f tb : Int → Int) : List Int → List Int → List Int
  | [], s => s
  | op :: l, s => evl f tb l (ev1 f tb op s)
def evv (f tb : Int → Int) (l : List Int) : Int := (evl f tb l []).headD 0
/-- how high the pile is; none where a step wants more than there is, or passes 60 -/
def hts : List Int → Nat → Option Nat
  | [], h => some h
  | op :: l, h => if (op < 10000 ∧ 0 ≤ op) ∨ op = 10014 ∨ (20000 ≤ op ∧ op ≤ 20009) then (if h < 60 then hts l (h + 1) else none) else if op = 10001 ∨ op = 10002 then (if 1 ≤ h then hts l h else none) else if 10003 ≤ op ∧ op ≤ 10013 then (if 2 ≤ h then hts l (h - 1) else none) else none
/-- what a formula of a cell (0), of a house (1), of a question (2) may hold -/
def okO (u op : Int) : Prop := if u = 2 then True else if u = 0 then op ≠ 10002 ∧ (20000 ≤ op → 20001 ≤ op ∧ op ≤ 20006) else op ≠ 10002 ∧ (20000 ≤ op → op = 20002 ∨ op = 20008 ∨ op = 20009)
/-- tests: values of and, or, not are 0 or 1: said of the kinds of values on the pile (1 a test's, 0 a sum's) -/
def tys : List Int → List Nat → Option (List Nat)
  | [], s => some s
  | op :: l, s =>
    if op = 10014 then tys l (1 :: s) else if (op < 10000 ∧ 0 ≤ op) ∨ (20000 ≤ op ∧ op ≤ 20009) then tys l (0 :: s) else
    match s with
    | [] => none
    | x :: r => if op = 10001 then (if x = 1 then tys l (1 :: r) else none) else if op = 10002 then (if x = 0 then tys l (0 :: r) else none) else
      match r with
      | [] => none
      | y :: q => if op = 10003 ∨ op = 10004 then (if x = 1 ∧ y = 1 then tys l (1 :: q) else none) else if 10005 ≤ op ∧ op ≤ 10007 then (if x = 0 ∧ y = 0 then tys l (1 :: q) else none) else if 10008 ≤ op ∧ op ≤ 10013 then (if x = 0 ∧ y = 0 then tys l (0 :: q) else none) else none
def wfC (u : Int) (t : Nat) (l : List Int) : Prop := l.length ≤ 1599 ∧ hts l 0 = some 1 ∧ tys l [] = some [t] ∧ ∀ op ∈ l, okO u op
/-- runs of cut cells to the left, to the right -/
def lrn (st : Int → Int) : Nat → Int → Int
  | 0, _ => 0
  | n + 1, c => if st (c - 1) = 1 then 1 + lrn st n (c - 1) else 0
def rrn (st : Int → Int) : Nat → Int → Int
  | 0, _ => 0
  | n + 1, c => if st (c + 1) = 1 then 1 + rrn st n (c + 1) else 0
def spL (P : aP) (st : Int → Int) (c : Int) : Int := lrn st (c % pC P).toNat c
def spR (P : aP) (st : Int → Int) (c : Int) : Int := rrn st (pC P - 1 - c % pC P).toNat c
def spn (P : aP) (st : Int → Int) (c : Int) : Int := spL P st c + spR P st c + 1
noncomputable def ner (P : aP) (st : Int → Int) (c : Int) : Int := b01 (opn st (nUp P c)) + b01 (opn st (nLf P c)) + b01 (opn st (nRt P c)) + b01 (opn st (nDn P c))
def rsO (P : aP) (k : Int) : Int := if k = -1 then 0 else pRe P k
def gsO (P : aP) (k : Int) : Int := if k = -1 then 0 else pGa P k
/-- facts of a cell -/
noncomputable def fcC (P : aP) (st : Int → Int) (c : Int) : Int → Int := fun i => if i = 0 then c else if i = 1 then c / pC P else if i = 2 then c % pC P else if i = 3 then rsO P (pSe P c) else if i = 4 then gsO P (pSe P c) else if i = 5 then ner P st c else if i = 6 then spn P st c else if i = 7 then (if st c = 0 then 1 else 0) else if i = 8 then b01 (opn st c) else (if st c = 3 then 1 else 0)
/-- reached: in every set that holds the shaft's uppermost, if it is open, and goes on to what is open beside -/
def bsd (P : aP) (a b : Int) : Prop := 0 ≤ b ∧ (b = nUp P a ∨ b = nLf P a ∨ b = nRt P a ∨ b = nDn P a)
def rch (P : aP) (st : Int → Int) (c : Int) : Prop := 0 < pCe P ∧ ∀ Z : Int → Prop, (opn st (pS P) → Z (pS P)) → (∀ a b, inP P a → Z a → bsd P a b → opn st b → Z b) → Z c
def bsR (P : aP) (st : Int → Int) (c : Int) : Prop := ∃ b, bsd P c b ∧ rch P st b
def tb0 : Int → Int := fun _ => 0
def may (P : aP) (st : Int → Int) (c : Int) : Prop := match pFm P 0 with
  | none => True
  | some l => evv (fcC P st c) tb0 l = 1
/-- why a cell can't be cut -/
noncomputable def why (P : aP) (st : Int → Int) (c : Int) : Int := if st c ≠ 0 then 1 else @ite Int (c ≠ pS P ∧ ¬ bsR P st c) (Classical.propDecidable _) 2 (@ite Int (may P st c) (Classical.propDecidable _) 0 3)
def cl0 (v m : Int) : Int := if v < 0 then 0 else if m < v then m else v
/-- what a tub is worth -/
noncomputable def wth (P : aP) (st : Int → Int) (c : Int) : Int := if pSe P c = -1 then 0 else match pFm P 1 with
  | none => pRe P (pSe P c)
  | some l => cl0 (evv (fcC P st c) tb0 l) 999
/-- a cell is cut, its tub being worth w -/
def dig (P : aP) (g : aG) (c w : Int) : aG := ((gPr g, gWo g + w, gRe g), (fun k => if k = pSe P c then gSt g k + 1 else gSt g k), (fun i => if pHo P < spn P (gCe g) c then (if c - spL P (gCe g) c ≤ i ∧ i ≤ c + spR P (gCe g) c then 3 else gCe g i) else if i = c then 1 else gCe g i))
/-- .. with its own worth -/
noncomputable def cut1 (P : aP) (g : aG) (c : Int) : aG := dig P g c (wth P (gCe g) c)
/-- what holds of a pit -/
def nmO (f : Int → Int) : Prop := 1 ≤ f 0 ∧ ∀ j, 0 ≤ j → j < 6 → 0 ≤ f j ∧ f j ≤ 26 ∧ (f j = 0 → ∀ i, j ≤ i → i < 6 → f i = 0)
def fmO (u : Int) (t : Nat) (o : Option (List Int)) : Prop := match o with
  | none => True
  | some l => wfC u t l
def pOk (P : aP) : Prop := ((pN P = 0 ∧ pC P = 0 ∧ pR P = 0 ∧ pK P = 0 ∧ pH P = 0 ∧ pM P = 0) ∨ (1 ≤ pN P ∧ pN P ≤ 60 ∧ 3 ≤ pC P ∧ pC P ≤ 8 ∧ pS P < pC P)) ∧ 0 ≤ pS P ∧ pS P ≤ 7 ∧ 0 ≤ pR P ∧ pR P ≤ 6 ∧ 0 ≤ pK P ∧ pK P ≤ 5 ∧ 0 ≤ pH P ∧ pH P ≤ 6 ∧ 0 ≤ pM P ∧ pM P ≤ 10 ∧ 1 ≤ pHo P ∧ pHo P ≤ 8 ∧ 0 ≤ pPr P ∧ pPr P ≤ 20 ∧ 0 ≤ pLe P ∧ pLe P ≤ 999 ∧
  (∀ k, 0 ≤ k → k < pK P → 1 ≤ pRe P k ∧ pRe P k ≤ 99 ∧ 0 ≤ pGa P k ∧ pGa P k ≤ 99 ∧ 0 ≤ pFo P k ∧ pFo P k ≤ 31 ∧ nmO (pKn P k)) ∧
  (∀ h, 0 ≤ h → h < pH P → 0 ≤ pHc P h ∧ pHc P h < pC P ∧ nmO (pHn P h)) ∧
  (∀ c, 0 ≤ c → c < pCe P → -1 ≤ pSe P c ∧ pSe P c < pK P) ∧ fmO 0 1 (pFm P 0) ∧ fmO 0 0 (pFm P 1) ∧ fmO 1 0 (pFm P 2)
/-- how many cells aren't whole -/
def nwh (st : Int → Int) : Nat → Int
  | 0 => 0
  | n + 1 => nwh st n + (if st n = 0 then 0 else 1)
def sm5 (t : Int → Int) : Int := t 0 + t 1 + t 2 + t 3 + t 4
/-- what holds of a ground of a pit -/
def gOk (P : aP) (g : aG) : Prop := 0 ≤ gPr g ∧ gPr g ≤ 20 ∧ 0 ≤ gWo g ∧ gWo g ≤ 999999 + 999 * nwh (gCe g) 48 ∧ 0 ≤ gRe g ∧ gRe g + 99 * sm5 (gSt g) ≤ 999999 + 99 * (100 + nwh (gCe g) 48) ∧
  (∀ k, 0 ≤ k → k < 5 → 0 ≤ gSt g k ∧ gSt g k ≤ 20 + nwh (gCe g) 48 ∧ (pK P ≤ k → gSt g k = 0)) ∧ (∀ c, 0 ≤ c → c < 48 → 0 ≤ gCe g c ∧ gCe g c ≤ 3 ∧ (pCe P ≤ c → gCe g c = 0))
