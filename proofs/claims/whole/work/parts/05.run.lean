/-- the instructions by their numbers -/
def jops : List jF := [oBad, oPush 0 1, oPush 0 2, oPush 0 3, oPush 0 2, oPush 0 3, oPush 1 1, oPush 1 3,
  oLoad 0 1, oLoad 0 2, oLoad 1 1, oLoad 1 2, oALoad 1, oALoad 2, oStore 1, oStore 2, oLStore 1, oLStore 2, oAStore 1, oAStore 2, oIinc,
  oBin jadd, oBin jsub, oBin jmul, oDiv jdiv, oDiv jrem, oIneg, oBin iShl, oBin iShr, oBin iUshr, oBin iAnd, oBin iOr, oBin iXor,
  oBinL ladd, oBinL lsub, oBinL lmul, oDivL ldiv, oDivL lrem, oBinL lAnd, oBinL lOr, oShL lShl, oShL lShr, oLcmp, oI2l, oL2i, oDup, oDup2, oPop,
  oIfEq, oIfNe, oIfLt, oIfGe, oIfGt, oIfLe, oIcEq, oIcNe, oIcLt, oIcGe, oIcGt, oIcLe, oGoto, oIfNN, oTab, oLook,
  oGet, oGetR, oPut, oPutZ, oPutR, oPutR, oAld 24 0, oAld 25 1, oAld 26 0, oAld 23 0, oAald, oAst 24 0, oAst 25 1, oZst, oCst, oAast, oLen,
  oNew, oNewA 2, oNewA 3, oMulti, oCallV, oCallV, oCallV, oCallV, oCall, oObj, oRet 0, oRet 1, oRetR, oRetZ, oRetV, oPush 24 1, oCopy, oLdcS, oSLen, oSChr, oSld, oSlen]
def jstep (i : jI) : jC → Nat → List jV → List jV → jS → jT → jR := (jops.getD i.1 oBad) i.2.1 i.2.2.1 i.2.2.2
def jrun (ce : jC) (cd : List jI) : Nat → jT
  | 0 => fun _ _ _ _ => none
  | n + 1 => fun pc loc st S => jstep (cd.getD pc (0, 0, 0, [])) ce pc loc st S (jrun ce cd n)
def jent (args : List jV) (n : Nat) : List jV := (args.flatMap fun v => if v.1 = 1 then [v, (2, -1)] else [v]) ++ List.replicate (n - (args.flatMap fun v => if v.1 = 1 then [v, (2, -1)] else [v]).length) (2, -1)
def jcd (m : Nat) : List jI := (jprog.getD m (0, [])).2
def jml0 (m : Nat) : Nat := (jprog.getD m (0, [])).1
def jev (F : Nat) : Nat → jC
  | 0 => fun _ _ _ => none
  | d + 1 => fun m args S => jrun (jev F d) (jcd m) F 0 (jent args (jml0 m)) [] S
/-- what hands on more, answers more -/
def jle (a b : jR) : Prop := ∀ r, a = some r → b = some r
def jleT (k k' : jT) : Prop := ∀ pc loc st S, jle (k pc loc st S) (k' pc loc st S)
def jleC (c c' : jC) : Prop := ∀ m a S, jle (c m a S) (c' m a S)
def jMono (o : jF) : Prop := ∀ a b l ce ce' pc loc st S k k', jleC ce ce' → jleT k k' → jle (o a b l ce pc loc st S k) (o a b l ce' pc loc st S k')
