/-! THE PURE MACHINE: numbers are Int (tag 0 an int, 1 a long, 2 nothing, 10 + k a reference to a cell of kind k); a cell is a number; -1 null, -2 the script, -3 the string constant.
A store is (G, X): G = (how many cells, how many slots, the kind, the length, the references of each cell), X the numbers of each cell. Instructions are functions that hand on to what follows. -/
abbrev jV : Type := Nat × Int
abbrev jG : Type := Nat × Nat × (Int → Nat) × (Int → Int) × (Int → Int → Int)
abbrev jX : Type := Int → Int → Int
abbrev jS : Type := jG × jX
abbrev jR : Type := Option (Int × jS)
abbrev jC : Type := Nat → List jV → jS → jR
abbrev jT : Type := Nat → List jV → List jV → jS → jR
abbrev jI : Type := Nat × Int × Int × List Int
abbrev jF : Type := Int → Int → List Int → jC → Nat → List jV → List jV → jS → jT → jR
def gN (G : jG) : Nat := G.1
def gM (G : jG) : Nat := G.2.1
def gK (G : jG) : Int → Nat := G.2.2.1
def gL (G : jG) : Int → Int := G.2.2.2.1
def gR (G : jG) : Int → Int → Int := G.2.2.2.2
def w32 (z : Int) : Int := (z + 2147483648) % 4294967296 - 2147483648
def w64 (z : Int) : Int := (z + 9223372036854775808) % 18446744073709551616 - 9223372036854775808
def jup (f : Int → Int → Int) (k j z : Int) : Int → Int → Int := fun a b => if a = k then (if b = j then z else f a b) else f a b
/-- n numbers of row s from sp on into row t from dp on -/
def jcpy (f : Int → Int → Int) (s sp t dp n : Int) : Int → Int → Int := fun a b => if a = t then (if dp ≤ b then (if b < dp + n then f s (sp + (b - dp)) else f a b) else f a b) else f a b
def iAnd (a b : Int) : Int := (Int32.ofInt a &&& Int32.ofInt b).toInt
def iOr (a b : Int) : Int := (Int32.ofInt a ||| Int32.ofInt b).toInt
def iXor (a b : Int) : Int := (Int32.ofInt a ^^^ Int32.ofInt b).toInt
def iShl (a b : Int) : Int := (Int32.ofInt a <<< (Int32.ofInt b &&& 31)).toInt
def iShr (a b : Int) : Int := (Int32.ofInt a >>> (Int32.ofInt b &&& 31)).toInt
def iUshr (a b : Int) : Int := ((Int32.ofInt a).toUInt32 >>> ((Int32.ofInt b).toUInt32 &&& Int32.toUInt32 31)).toInt32.toInt
def lAnd (a b : Int) : Int := (Int64.ofInt a &&& Int64.ofInt b).toInt
def lOr (a b : Int) : Int := (Int64.ofInt a ||| Int64.ofInt b).toInt
def lShl (a b : Int) : Int := (Int64.ofInt a <<< ((Int32.ofInt b).toInt64 &&& 63)).toInt
def lShr (a b : Int) : Int := (Int64.ofInt a >>> ((Int32.ofInt b).toInt64 &&& 63)).toInt
def lCmp (a b : Int) : Int := if a < b then -1 else if a = b then 0 else 1
def jadd (a b : Int) : Int := w32 (a + b)
def jsub (a b : Int) : Int := w32 (a - b)
def jmul (a b : Int) : Int := w32 (a * b)
def ladd (a b : Int) : Int := w64 (a + b)
def lsub (a b : Int) : Int := w64 (a - b)
def lmul (a b : Int) : Int := w64 (a * b)
/-- a new cell: its kind, its length (0 for an object), its slots; all numbers 0, all references null -/
def jnew (kd : Nat) (len : Int) (sl : Nat) (S : jS) : jS :=
  ((S.1.1 + 1, S.1.2.1 + sl, (fun a => if a = (S.1.1 : Int) then kd else S.1.2.2.1 a), (fun a => if a = (S.1.1 : Int) then len else S.1.2.2.2.1 a), (fun a b => if a = (S.1.1 : Int) then -1 else S.1.2.2.2.2 a b)), fun a b => if a = (S.1.1 : Int) then 0 else S.2 a b)
def jsetR (S : jS) (k j z : Int) : jS := ((S.1.1, S.1.2.1, S.1.2.2.1, S.1.2.2.2.1, jup S.1.2.2.2.2 k j z), S.2)
def oBad : jF := fun _ _ _ _ _ _ _ _ _ => none
def oPush (t n : Nat) : jF := fun a _ _ _ pc loc st S k => k (pc + n) loc ((t, a) :: st) S
def oLoad (t n : Nat) : jF := fun a _ _ _ pc loc st S k => match loc.getD a.toNat (2, -1) with
  | (t', z) => if t' = t then k (pc + n) loc ((t, z) :: st) S else none
def oALoad (n : Nat) : jF := fun a _ _ _ pc loc st S k => match loc.getD a.toNat (2, -1) with
  | (t', z) => if 10 ≤ t' then k (pc + n) loc ((t', z) :: st) S else none
def jfree (loc : List jV) (i : Nat) : Bool := decide (i < loc.length) && (match i with | 0 => true | j + 1 => decide ((loc.getD j (2, -1)).1 ≠ 1))
def oStore (n : Nat) : jF := fun a _ _ _ pc loc st S k => match st with
  | (0, z) :: r => if jfree loc a.toNat then k (pc + n) (loc.set a.toNat (0, z)) r S else none
  | _ => none
def oLStore (n : Nat) : jF := fun a _ _ _ pc loc st S k => match st with
  | (1, z) :: r => if jfree loc a.toNat && decide (a.toNat + 1 < loc.length) then k (pc + n) ((loc.set a.toNat (1, z)).set (a.toNat + 1) (2, -1)) r S else none
  | _ => none
def oAStore (n : Nat) : jF := fun a _ _ _ pc loc st S k => match st with
  | (t, z) :: r => if 10 ≤ t then (if jfree loc a.toNat then k (pc + n) (loc.set a.toNat (t, z)) r S else none) else none
  | _ => none
def oIinc : jF := fun a b _ _ pc loc st S k => match loc.getD a.toNat (2, -1) with
  | (0, z) => if jfree loc a.toNat then k (pc + 3) (loc.set a.toNat (0, jadd z b)) st S else none
  | _ => none
def oBin (f : Int → Int → Int) : jF := fun _ _ _ _ pc loc st S k => match st with
  | (0, y) :: (0, x) :: r => k (pc + 1) loc ((0, f x y) :: r) S
  | _ => none
def oDiv (f : Int → Int → Int) : jF := fun _ _ _ _ pc loc st S k => match st with
  | (0, y) :: (0, x) :: r => if y = 0 then none else k (pc + 1) loc ((0, f x y) :: r) S
  | _ => none
def jdiv (x y : Int) : Int := w32 (x.tdiv y)
def jrem (x y : Int) : Int := x.tmod y
def oBinL (f : Int → Int → Int) : jF := fun _ _ _ _ pc loc st S k => match st with
  | (1, y) :: (1, x) :: r => k (pc + 1) loc ((1, f x y) :: r) S
  | _ => none
def oDivL (f : Int → Int → Int) : jF := fun _ _ _ _ pc loc st S k => match st with
  | (1, y) :: (1, x) :: r => if y = 0 then none else k (pc + 1) loc ((1, f x y) :: r) S
  | _ => none
def ldiv (x y : Int) : Int := w64 (x.tdiv y)
def lrem (x y : Int) : Int := x.tmod y
def oShL (f : Int → Int → Int) : jF := fun _ _ _ _ pc loc st S k => match st with
  | (0, y) :: (1, x) :: r => k (pc + 1) loc ((1, f x y) :: r) S
  | _ => none
def oLcmp : jF := fun _ _ _ _ pc loc st S k => match st with
  | (1, y) :: (1, x) :: r => k (pc + 1) loc ((0, lCmp x y) :: r) S
  | _ => none
def oI2l : jF := fun _ _ _ _ pc loc st S k => match st with
  | (0, x) :: r => k (pc + 1) loc ((1, x) :: r) S
  | _ => none
def oL2i : jF := fun _ _ _ _ pc loc st S k => match st with
  | (1, x) :: r => k (pc + 1) loc ((0, w32 x) :: r) S
  | _ => none
def oIneg : jF := fun _ _ _ _ pc loc st S k => match st with
  | (0, x) :: r => k (pc + 1) loc ((0, w32 (-x)) :: r) S
  | _ => none
def oDup : jF := fun _ _ _ _ pc loc st S k => match st with
  | (t, x) :: r => if t = 1 then none else k (pc + 1) loc ((t, x) :: (t, x) :: r) S
  | _ => none
def oDup2 : jF := fun _ _ _ _ pc loc st S k => match st with
  | (t, x) :: (u, y) :: r => if t = 1 then k (pc + 1) loc ((t, x) :: (t, x) :: (u, y) :: r) S else if u = 1 then none else k (pc + 1) loc ((t, x) :: (u, y) :: (t, x) :: (u, y) :: r) S
  | (t, x) :: [] => if t = 1 then k (pc + 1) loc ((t, x) :: (t, x) :: []) S else none
  | _ => none
def oPop : jF := fun _ _ _ _ pc loc st S k => match st with
  | (t, _) :: r => if t = 1 then none else k (pc + 1) loc r S
  | _ => none
def oIfEq : jF := fun a _ _ _ pc loc st S k => match st with
  | (0, x) :: r => if x = 0 then k a.toNat loc r S else k (pc + 3) loc r S
  | _ => none
def oIfNe : jF := fun a _ _ _ pc loc st S k => match st with
  | (0, x) :: r => if x = 0 then k (pc + 3) loc r S else k a.toNat loc r S
  | _ => none
def oIfLt : jF := fun a _ _ _ pc loc st S k => match st with
  | (0, x) :: r => if x < 0 then k a.toNat loc r S else k (pc + 3) loc r S
  | _ => none
def oIfGe : jF := fun a _ _ _ pc loc st S k => match st with
  | (0, x) :: r => if x < 0 then k (pc + 3) loc r S else k a.toNat loc r S
  | _ => none
def oIfGt : jF := fun a _ _ _ pc loc st S k => match st with
  | (0, x) :: r => if 0 < x then k a.toNat loc r S else k (pc + 3) loc r S
  | _ => none
def oIfLe : jF := fun a _ _ _ pc loc st S k => match st with
  | (0, x) :: r => if 0 < x then k (pc + 3) loc r S else k a.toNat loc r S
  | _ => none
def oIcEq : jF := fun a _ _ _ pc loc st S k => match st with
  | (0, y) :: (0, x) :: r => if x = y then k a.toNat loc r S else k (pc + 3) loc r S
  | _ => none
def oIcNe : jF := fun a _ _ _ pc loc st S k => match st with
  | (0, y) :: (0, x) :: r => if x = y then k (pc + 3) loc r S else k a.toNat loc r S
  | _ => none
def oIcLt : jF := fun a _ _ _ pc loc st S k => match st with
  | (0, y) :: (0, x) :: r => if x < y then k a.toNat loc r S else k (pc + 3) loc r S
  | _ => none
def oIcGe : jF := fun a _ _ _ pc loc st S k => match st with
  | (0, y) :: (0, x) :: r => if x < y then k (pc + 3) loc r S else k a.toNat loc r S
  | _ => none
def oIcGt : jF := fun a _ _ _ pc loc st S k => match st with
  | (0, y) :: (0, x) :: r => if y < x then k a.toNat loc r S else k (pc + 3) loc r S
  | _ => none
def oIcLe : jF := fun a _ _ _ pc loc st S k => match st with
  | (0, y) :: (0, x) :: r => if y < x then k (pc + 3) loc r S else k a.toNat loc r S
  | _ => none
def oGoto : jF := fun a _ _ _ _ loc st S k => k a.toNat loc st S
def oIfNN : jF := fun a _ _ _ pc loc st S k => match st with
  | (t, z) :: r => if 10 ≤ t then (if z = -1 then k (pc + 3) loc r S else k a.toNat loc r S) else none
  | _ => none
def jsw (k : Nat → jR) (z d : Int) : Int → List Int → jR
  | _, [] => k d.toNat
  | lo, t :: l => if z = lo then k t.toNat else jsw k z d (lo + 1) l
def oTab : jF := fun a b l _ _ loc st S k => match st with
  | (0, z) :: r => jsw (fun t => k t loc r S) z a b l
  | _ => none
def jlk (k : Nat → jR) (z d : Int) : List Int → jR
  | x :: t :: l => if z = x then k t.toNat else jlk k z d l
  | _ => k d.toNat
def oLook : jF := fun a _ l _ _ loc st S k => match st with
  | (0, z) :: r => jlk (fun t => k t loc r S) z a l
  | _ => none
/-- getfield: a the slot, l = [the class, the tag] -/
def oGet : jF := fun a _ l _ pc loc st S k => match st with
  | (t, r) :: rest => if t = 10 + (l.getD 0 0).toNat then (if 0 ≤ r then k (pc + 3) loc (((l.getD 1 0).toNat, S.2 r a) :: rest) S else none) else none
  | _ => none
def oGetR : jF := fun a _ l _ pc loc st S k => match st with
  | (t, r) :: rest => if t = 10 + (l.getD 0 0).toNat then (if 0 ≤ r then k (pc + 3) loc (((l.getD 1 0).toNat, gR S.1 r a) :: rest) S else none) else none
  | _ => none
/-- putfield of a number: l = [the class, the tag]; of a boolean: 0 or 1 alone -/
def oPut : jF := fun a _ l _ pc loc st S k => match st with
  | (u, z) :: (t, r) :: rest => if u = (l.getD 1 0).toNat then (if t = 10 + (l.getD 0 0).toNat then (if 0 ≤ r then k (pc + 3) loc rest (S.1, jup S.2 r a z) else none) else none) else none
  | _ => none
def oPutZ : jF := fun a _ l _ pc loc st S k => match st with
  | (u, z) :: (t, r) :: rest => if u = 0 then (if t = 10 + (l.getD 0 0).toNat then (if 0 ≤ r then (if z = 0 then k (pc + 3) loc rest (S.1, jup S.2 r a 0) else if z = 1 then k (pc + 3) loc rest (S.1, jup S.2 r a 1) else none) else none) else none) else none
  | _ => none
def oPutR : jF := fun a _ l _ pc loc st S k => match st with
  | (u, z) :: (t, r) :: rest => if u = (l.getD 1 0).toNat then (if t = 10 + (l.getD 0 0).toNat then (if 0 ≤ r then k (pc + 3) loc rest (jsetR S r a z) else none) else none) else none
  | _ => none
/-- an array of numbers: the tag of the array, the tag of what is loaded -/
def oAld (ta tv : Nat) : jF := fun _ _ _ _ pc loc st S k => match st with
  | (0, i) :: (t, r) :: rest => if t = ta then (if 0 ≤ r then (if 0 ≤ i then (if i < gL S.1 r then k (pc + 1) loc ((tv, S.2 r i) :: rest) S else none) else none) else none) else none
  | _ => none
def oAst (ta tv : Nat) : jF := fun _ _ _ _ pc loc st S k => match st with
  | (u, z) :: (0, i) :: (t, r) :: rest => if u = tv then (if t = ta then (if 0 ≤ r then (if 0 ≤ i then (if i < gL S.1 r then k (pc + 1) loc rest (S.1, jup S.2 r i z) else none) else none) else none) else none) else none
  | _ => none
/-- castore: of 0 .. 65535 alone -/
def oCst : jF := fun _ _ _ _ pc loc st S k => match st with
  | (0, z) :: (0, i) :: (t, r) :: rest => if t = 23 then (if 0 ≤ r then (if 0 ≤ i then (if i < gL S.1 r then (if 0 ≤ z then (if z ≤ 65535 then k (pc + 1) loc rest (S.1, jup S.2 r i z) else none) else none) else none) else none) else none) else none
  | _ => none
/-- bastore into booleans: of 0, 1 alone -/
def oZst : jF := fun _ _ _ _ pc loc st S k => match st with
  | (0, z) :: (0, i) :: (t, r) :: rest => if t = 26 then (if 0 ≤ r then (if 0 ≤ i then (if i < gL S.1 r then (if z = 0 then k (pc + 1) loc rest (S.1, jup S.2 r i 0) else if z = 1 then k (pc + 1) loc rest (S.1, jup S.2 r i 1) else none) else none) else none) else none) else none
  | _ => none
/-- aaload: a the tag of the array, b the tag of what it holds -/
def oAald : jF := fun a b _ _ pc loc st S k => match st with
  | (0, i) :: (t, r) :: rest => if t = a.toNat then (if 0 ≤ r then (if 0 ≤ i then (if i < gL S.1 r then k (pc + 1) loc ((b.toNat, gR S.1 r i) :: rest) S else none) else none) else none) else none
  | _ => none
def oAast : jF := fun a b _ _ pc loc st S k => match st with
  | (u, z) :: (0, i) :: (t, r) :: rest => if u = b.toNat then (if t = a.toNat then (if 0 ≤ r then (if 0 ≤ z then (if 0 ≤ i then (if i < gL S.1 r then k (pc + 1) loc rest (jsetR S r i z) else none) else none) else none) else none) else none) else none
  | _ => none
def oLen : jF := fun _ _ _ _ pc loc st S k => match st with
  | (t, r) :: rest => if 23 ≤ t then (if t ≤ 29 then (if 0 ≤ r then k (pc + 1) loc ((0, gL S.1 r) :: rest) S else none) else none) else none
  | _ => none
/-- new: a the class, l = [how many slots] -/
def oNew : jF := fun a _ l _ pc loc st S k => k (pc + 3) loc ((10 + a.toNat, (S.1.1 : Int)) :: st) (jnew a.toNat 0 (l.getD 0 0).toNat S)
/-- newarray: a the kind -/
def oNewA (n : Nat) : jF := fun a _ _ _ pc loc st S k => match st with
  | (0, z) :: rest => if 0 ≤ z then (if z ≤ 200000 then k (pc + n) loc ((10 + a.toNat, (S.1.1 : Int)) :: rest) (jnew a.toNat z z.toNat S) else none) else none
  | _ => none
/-- new int[n][m], its rows made behind it -/
def jrows (m : Int) : Nat → jS → jS
  | 0, S => S
  | n + 1, S => jnew 14 m m.toNat (jrows m n S)
def jrowsR (r : Int) : Nat → jS → jS
  | 0, S => S
  | n + 1, S => jsetR (jrowsR r n S) r n (r + 1 + n)
def oMulti : jF := fun _ _ _ _ pc loc st S k => match st with
  | (0, m) :: (0, n) :: rest => if 0 ≤ n then (if n ≤ 100 then (if 0 ≤ m then (if m ≤ 100 then k (pc + 4) loc ((29, (S.1.1 : Int)) :: rest) (jrowsR (S.1.1 : Int) n.toNat (jrows m n.toNat (jnew 19 n n.toNat S))) else none) else none) else none) else none
  | _ => none
/-- the words of a stack -/
def jcat : List jV → Nat
  | [] => 0
  | (t, _) :: r => (if t = 1 then 2 else 1) + jcat r
/-- a call: a the method, l = [how many arguments, the tag of the answer, 99 for none] -/
def oCall : jF := fun a _ l ce pc loc st S k => if (l.getD 0 0).toNat ≤ st.length then (if jcat (st.drop (l.getD 0 0).toNat) ≤ 8 then (ce a.toNat (st.take (l.getD 0 0).toNat).reverse S).bind fun q => k (pc + 3) loc (if (l.getD 1 0) = 99 then st.drop (l.getD 0 0).toNat else ((l.getD 1 0).toNat, q.1) :: st.drop (l.getD 0 0).toNat) q.2 else none) else none
/-- a call of a method of an object; l's third: the tag of the object -/
def oCallV : jF := fun a b l ce pc loc st S k => match (st.take (l.getD 0 0).toNat).getLast? with
  | some (t, r) => if t = (l.getD 2 0).toNat then (if 0 ≤ r then oCall a b l ce pc loc st S k else none) else none
  | none => none
/-- Object's constructor -/
def oObj : jF := fun _ _ _ _ pc loc st S k => match st with
  | (t, r) :: rest => if 10 ≤ t then (if 0 ≤ r then (if jcat rest ≤ 8 then k (pc + 3) loc rest S else none) else none) else none
  | _ => none
/-- the ends: of a method of int, long, a reference (a its tag), boolean, none -/
def oRet (t : Nat) : jF := fun _ _ _ _ _ _ st S _ => match st with
  | (u, z) :: [] => if u = t then some (z, S) else none
  | _ => none
def oRetR : jF := fun a _ _ _ _ _ st S _ => match st with
  | (u, z) :: [] => if u = a.toNat then some (z, S) else none
  | _ => none
def oRetZ : jF := fun _ _ _ _ _ _ st S _ => match st with
  | (u, z) :: [] => if u = 0 then (if z = 0 then some (0, S) else if z = 1 then some (1, S) else none) else none
  | _ => none
def oRetV : jF := fun _ _ _ _ _ _ st S _ => match st with
  | [] => some (0, S)
  | _ => none
/-- System.arraycopy over int arrays -/
def oCopy : jF := fun _ _ _ _ pc loc st S k => match st with
  | (0, n) :: (0, dp) :: (u, t) :: (0, sp) :: (v, s) :: rest => if u = 24 then (if v = 24 then (if 0 ≤ t then (if 0 ≤ s then (if 0 ≤ n then (if 0 ≤ sp then (if 0 ≤ dp then (if sp + n ≤ gL S.1 s then (if dp + n ≤ gL S.1 t then (if jcat rest ≤ 8 then k (pc + 3) loc rest (S.1, jcpy S.2 s sp t dp n) else none) else none) else none) else none) else none) else none) else none) else none) else none) else none
  | _ => none
/-- the script: its ints, its length, asked of what calls are asked of -/
def oSld : jF := fun _ _ _ ce pc loc st S k => match st with
  | (0, i) :: (t, r) :: rest => if t = 30 then (if r = -2 then (ce 1000 [(0, i)] S).bind (fun q => k (pc + 1) loc ((0, q.1) :: rest) S) else none) else none
  | _ => none
def oSlen : jF := fun _ _ _ ce pc loc st S k => match st with
  | (t, r) :: rest => if t = 30 then (if r = -2 then (ce 1001 [] S).bind (fun q => k (pc + 1) loc ((0, q.1) :: rest) S) else none) else none
  | _ => none
/-- the string constant's signs -/
def jWords : List Int := [112, 105, 116, 32, 97, 116, 32, 107, 105, 110, 100, 32, 114, 101, 115, 116, 32, 103, 97, 115, 32, 114, 111, 119, 32, 104, 111, 117, 115, 101, 32, 109, 105, 120, 32, 109, 97, 121, 32, 119, 111, 114, 116, 104, 32, 116, 105, 108, 116, 32, 104, 111, 108, 100, 115, 32, 112, 114, 111, 112, 115, 32, 108, 101, 97, 110, 115, 32, 100, 101, 112, 116, 104, 32, 97, 99, 114, 111, 115, 115, 32, 110, 101, 97, 114, 32, 115, 112, 97, 110, 32, 111, 112, 101, 110, 32, 102, 97, 108, 108, 101, 110, 32, 119, 104, 111, 108, 101, 32, 110, 117, 109, 98, 101, 114, 32, 116, 117, 98, 115, 32, 111, 114, 32, 97, 110, 100, 32, 110, 111, 116, 32, 97, 108, 108, 32, 109, 105, 110, 32, 109, 97, 120, 32, 102, 105, 114, 115, 116, 32, 108, 97, 115, 116, 32, 111, 102, 116, 101, 110, 32, 116, 111, 116, 97, 108, 32, 109, 111, 115, 116, 32, 108, 101, 97, 115, 116, 32]
def oLdcS : jF := fun _ _ _ _ pc loc st S k => k (pc + 2) loc ((31, -3) :: st) S
def oSLen : jF := fun _ _ _ _ pc loc st S k => match st with
  | (t, r) :: rest => if t = 31 then (if r = -3 then (if jcat rest ≤ 8 then k (pc + 3) loc ((0, 178) :: rest) S else none) else none) else none
  | _ => none
def oSChr : jF := fun _ _ _ _ pc loc st S k => match st with
  | (0, i) :: (t, r) :: rest => if t = 31 then (if r = -3 then (if 0 ≤ i then (if i < 178 then (if jcat rest ≤ 8 then k (pc + 3) loc ((0, jWords.getD i.toNat 0) :: rest) S else none) else none) else none) else none) else none
  | _ => none
