/-! the ends of methods -/
def hTrue : jH := fun _ _ _ _ _ _ => true
def hRetI : jH := fun _ cc pc _ _ _ => dc cc pc .ireturn 1
def hRetL : jH := fun _ cc pc _ _ _ => dc cc pc .lreturn 1
def hRetR : jH := fun _ cc pc a _ _ => dc cc pc .areturn 1 && decide (a = 24)
def hRetZ : jH := fun _ cc pc _ _ _ => dc cc pc .ireturn 1
def hRetV : jH := fun _ cc pc _ _ _ => dc cc pc .return_ 1
def hMulti : jH := fun own cc pc _ b _ => dc cc pc (.multianewarray b.toNat 2) 4 && decide (own = 8 ∧ b = 24)
def hLdcS : jH := fun own cc pc _ _ _ => dc cc pc (.ldc 67) 2 && decide (own = 7)
def hSLen : jH := fun own cc pc _ b _ => dc cc pc (.invokevirtual 69) 3 && decide (own = 7 ∧ b = 69)
def hSChr : jH := fun own cc pc _ b _ => dc cc pc (.invokevirtual 72) 3 && decide (own = 7 ∧ b = 72)
def jchks : List jH := [hTrue, hIconst, hBipush, hSipush, hLdc, hLdcW, hLconst, hLdc2, hIloadN, hIload, hLloadN, hLload, hAloadN, hAload, hIstoreN, hIstore, hLstoreN, hLstore, hAstoreN, hAstore, hIinc, hIadd, hIsub, hImul, hIdiv, hIrem, hIneg, hIshl, hIshr, hIushr, hIand, hIor, hIxor, hLadd, hLsub, hLmul, hLdiv, hLrem, hLand, hLor, hLshl, hLshr, hLcmp, hI2l, hL2i, hDup, hDup2, hPop, hIfEq, hIfNe, hIfLt, hIfGe, hIfGt, hIfLe, hIcEq, hIcNe, hIcLt, hIcGe, hIcGt, hIcLe, hGoto, hIfNN, hTab, hLook, hGet, hGetR, hPut, hPutZ, hPutR, hPutF, hIald, hLald, hZald, hCald, hAald, hIast, hLast, hZst, hCst, hAast, hLen, hNew, hNewA, hNewQ, hMulti, hCallV, hCallVN, hCallI, hCallIN, hCallS, hObj, hRetI, hRetL, hRetR, hRetZ, hRetV, hNull, hCopy, hLdcS, hSLen, hSChr, hSld, hSlen]
/-- the end that a method's answer asks for -/
def jRchk (ret : Option FieldType) (i : jI) : Bool := decide ((i.1 = 91 → ret = some .int) ∧ (i.1 = 92 → ret = some .long) ∧ (i.1 = 93 → ret = some (.array .int)) ∧ (i.1 = 94 → ret = some .boolean) ∧ (i.1 = 95 → ret = none))
/-- the context is that of a method begun at S0 -/
def jBeg (Γ : jCtx) (S0 : jS) : Prop := xk Γ = gN S0.1 ∧ xj Γ = gM S0.1 ∧ xκ Γ = gK S0.1 ∧ xA Γ = va_A (jwld (xy Γ) (xd Γ) S0) (xs Γ).heap.size
theorem jpost_at {Γ : jCtx} {own : Nat} {cc : ByteArray} (C : jCx Γ own cc) {S0 S' : jS} (h0 : jBeg Γ S0) {loc st : List jV} {ls : Array Slot} {H : Heap} {locs : List Loc} {ad : Int → Nat} {rt : Option Nat} {z : Int} (hat : jAt Γ loc st S' ls H locs ad) (hrt : ∀ g, rt = some g → jok S' (g, z)) (t : State) (ht : t.heap = H) (hW : (xs Γ).WarmedH t.vm) : jPost (xD Γ) (xy Γ) (xd Γ) (xs Γ).heap.size S0 rt z S' (xa Γ) (xs Γ) (.returned (rt.map (fun g => jtr ad (g, z)))) t := by
  obtain ⟨hl, hwf, hlo, hst, hn, hP, hD, hS⟩ := hat
  obtain ⟨e1, e2, e3, e4⟩ := h0
  refine ⟨ad, fun w hw => hn.1 w (by rw [e1]; exact hw), rfl, by rw [ht]; exact hP, va_K.moved hW.alike C.2.2.2.2.2.1, by rw [← e4]; exact hD, by rw [← e4]; exact hS.F ht, hwf, hrt, by rw [← e1]; exact hn.2.1, by rw [← e2]; exact hn.2.2.1, hn.2.2.2.1, fun w hw => ?_⟩
  rw [← e3]
  exact hn.2.2.2.2 w (by rw [e1]; exact hw)
/-- .. and what its end must be -/
def jEnd (Γ : jCtx) (S0 : jS) (rt : Option Nat) (rF : Int × jS) : Prop := xQ Γ = MQ (xb Γ) (jPost (xD Γ) (xy Γ) (xd Γ) (xs Γ).heap.size S0 rt rF.1 rF.2) (xa Γ) (xs Γ) (gN rF.2.1 - xk Γ) (gM rF.2.1 - xj Γ) (xA Γ)
def jRets (Γ : jCtx) (own : Nat) (cc : ByteArray) (ret : Option FieldType) (rF : Int × jS) : Prop := ∀ (n : Nat) (a b : Int) (t : List Int) (ce : jC) (pc : Nat) (loc st : List jV) (S : jS) (k : jT), 91 ≤ n → n ≤ 95 → jRchk ret (n, a, b, t) = true → (jchks.getD n hTrue) own cc pc a b t = true → (jops.getD n oBad) a b t ce pc loc st S k = some rF → jK Γ pc loc st S
def jrtF (ret : Option FieldType) : Option Nat := match ret with
  | none => none
  | some .long => some 1
  | some (.array _) => some 24
  | some _ => some 0
theorem jrets_met {Γ : jCtx} {own : Nat} {cc : ByteArray} (C : jCx Γ own cc) {S0 : jS} {ret : Option FieldType} {rt : Option Nat} {rF : Int × jS} (h0 : jBeg Γ S0) (hQ : jEnd Γ S0 rt rF) (hr : (xM Γ).sig.returnType = ret) (hrt : rt = jrtF ret) : jRets Γ own cc ret rF := by
  intro n a b t ce pc loc st S k h1 h2 hre hc ho
  have hre := of_decide_eq_true hre
  dsimp only at hre
  rcases (show n = 91 ∨ n = 92 ∨ n = 93 ∨ n = 94 ∨ n = 95 by omega) with e | e | e | e | e <;> subst e
  · have hret := hre.1 rfl
    subst hret
    change oRet 0 a b t ce pc loc st S k = some rF at ho
    change dc cc pc .ireturn 1 = true at hc
    unfold oRet at ho
    split at ho
    case h_2 => cases ho
    rename_i u z
    split at ho
    case isFalse => cases ho
    rename_i hu
    subst hu
    cases ho
    have hrt : rt = some 0 := hrt
    subst hrt
    intro ls H locs ad hat
    unfold jEnd at hQ
    unfold jW
    rw [hQ]
    exact W.iret C.1 C.2.1 hr (fun t ht hW => jpost_at C h0 hat (fun g hg => by cases hg; exact hat.2.2.2.1 _ List.mem_cons_self) t ht hW) hat.2.2.2.2.2.2.2.2.2 (dc_ok hc) C.2.2.2.2.2.2.2.1
  · have hret := hre.2.1 rfl
    subst hret
    change oRet 1 a b t ce pc loc st S k = some rF at ho
    change dc cc pc .lreturn 1 = true at hc
    unfold oRet at ho
    split at ho
    case h_2 => cases ho
    rename_i u z
    split at ho
    case isFalse => cases ho
    rename_i hu
    subst hu
    cases ho
    have hrt : rt = some 1 := hrt
    subst hrt
    intro ls H locs ad hat
    unfold jEnd at hQ
    unfold jW
    rw [hQ]
    exact W.lret C.1 C.2.1 hr (fun t ht hW => jpost_at C h0 hat (fun g hg => by cases hg; exact hat.2.2.2.1 _ List.mem_cons_self) t ht hW) hat.2.2.2.2.2.2.2.2.2 (dc_ok hc) C.2.2.2.2.2.2.2.1
  · have hret := hre.2.2.1 rfl
    subst hret
    change oRetR a b t ce pc loc st S k = some rF at ho
    change (dc cc pc .areturn 1 && decide (a = 24)) = true at hc
    simp only [Bool.and_eq_true, decide_eq_true_eq] at hc
    obtain ⟨hc, rfl⟩ := hc
    unfold oRetR at ho
    split at ho
    case h_2 => cases ho
    rename_i u z
    split at ho
    case isFalse => cases ho
    rename_i hu
    change u = 24 at hu
    subst hu
    cases ho
    have hrt : rt = some 24 := hrt
    subst hrt
    intro ls H locs ad hat
    unfold jEnd at hQ
    unfold jW
    rw [hQ]
    refine W.aret C.1 C.2.1 hr (Or.inr ⟨_, rfl⟩) ?_ (fun t ht hW => jpost_at C h0 hat (fun g hg => by cases hg; exact hat.2.2.2.1 _ List.mem_cons_self) t ht hW) hat.2.2.2.2.2.2.2.2.2 (dc_ok hc) C.2.2.2.2.2.2.2.1
    by_cases hz : z = -1
    · rw [hz, jtr_null (by omega)]
      exact Or.inl rfl
    · rw [jtr_at (by omega) hz]
      exact Or.inr ⟨_, rfl⟩
  · have hret := hre.2.2.2.1 rfl
    subst hret
    change oRetZ a b t ce pc loc st S k = some rF at ho
    change dc cc pc .ireturn 1 = true at hc
    unfold oRetZ at ho
    split at ho
    case h_2 => cases ho
    rename_i u z
    split at ho
    case isFalse => cases ho
    rename_i hu
    subst hu
    have hz : (z = 0 ∨ z = 1) ∧ rF = (z, S) := by
      by_cases e : z = 0
      · rw [if_pos e] at ho
        rw [e]
        exact ⟨Or.inl rfl, (Option.some.inj ho).symm⟩
      · rw [if_neg e] at ho
        by_cases e2 : z = 1
        · rw [if_pos e2] at ho
          rw [e2]
          exact ⟨Or.inr rfl, (Option.some.inj ho).symm⟩
        · rw [if_neg e2] at ho
          cases ho
    obtain ⟨hz, rfl⟩ := hz
    have hrt : rt = some 0 := hrt
    subst hrt
    intro ls H locs ad hat
    unfold jEnd at hQ
    unfold jW
    rw [hQ]
    refine W.zret (ty := .boolean) C.1 C.2.1 hr ?_ (fun t ht hW => jpost_at C h0 hat (fun g hg => by cases hg; exact hat.2.2.2.1 _ List.mem_cons_self) t ht hW) hat.2.2.2.2.2.2.2.2.2 (dc_ok hc) C.2.2.2.2.2.2.2.1
    rcases hz with q | q
    · rw [q]; exact nar_b0
    · rw [q]; exact nar_b1
  · have hret := hre.2.2.2.2 rfl
    subst hret
    change oRetV a b t ce pc loc st S k = some rF at ho
    change dc cc pc .return_ 1 = true at hc
    unfold oRetV at ho
    split at ho
    case h_2 => cases ho
    cases ho
    have hrt : rt = none := hrt
    subst hrt
    intro ls H locs ad hat
    unfold jEnd at hQ
    unfold jW
    rw [hQ]
    exact W.vret C.1 C.2.1 hr (fun t ht hW => jpost_at C h0 hat (fun g hg => by cases hg) t ht hW) hat.2.2.2.2.2.2.2.2.2 (dc_ok hc) C.2.2.2.2.2.2.2.1
/-- what a step rests on, beside the context -/
def jOth (Γ : jCtx) (own : Nat) (cc : ByteArray) (ce : jC) (rF : Int × jS) : Prop := ∀ n : Nat, (n = 84 ∨ n = 98 ∨ n = 99 ∨ n = 100 ∨ n = 101 ∨ n = 102) → jSimM Γ own cc ce rF (jchks.getD n hTrue) (jops.getD n oBad)
theorem jstep_sim {Γ : jCtx} {own : Nat} {cc : ByteArray} {ce : jC} {rF : Int × jS} {dd : Nat} {ret : Option FieldType} (C : jCx Γ own cc) (hce : ∀ (m : Nat) (args : List jV) (S : jS) (z : Int) (S' : jS), m < 343 → ce m args S = some (z, S') → jMet (xl Γ) dd m args S z S') (hgr : ∀ (m : Nat) (args : List jV) (S : jS) (z : Int) (S' : jS), m < 343 → ce m args S = some (z, S') → gN S.1 ≤ gN S'.1 ∧ gM S.1 ≤ gM S'.1) (hR : ∀ (m : Nat) (args : List jV) (S : jS) (r : Int × jS), m < 343 → ce m args S = some r → dd + 8 ≤ (xR Γ).frames ∧ 60 * (dd + 8) ≤ (xR Γ).locals) (hret : jRets Γ own cc ret rF) (hoth : jOth Γ own cc ce rF)
    (a b : Int) (t : List Int) (pc : Nat) (loc st : List jV) (S : jS) (k : jT) : ∀ n : Nat, (n = 69 → (xM Γ).name = "<init>") → jRchk ret (n, a, b, t) = true → (jchks.getD n hTrue) own cc pc a b t = true → (jops.getD n oBad) a b t ce pc loc st S k = some rF → (∀ pc loc st S, k pc loc st S = some rF → gN S.1 - xk Γ ≤ (xR Γ).cells ∧ gM S.1 - xj Γ ≤ (xR Γ).slots) → (∀ pc loc st S, k pc loc st S = some rF → jK Γ pc loc st S) → jK Γ pc loc st S
  | 0, _, _, _, ho, _, _ => by cases ho
  | 1, _, _, hc, ho, _, hk => sIconst (ce := ce) C a b t pc loc st S k hc ho hk
  | 2, _, _, hc, ho, _, hk => sBipush (ce := ce) C a b t pc loc st S k hc ho hk
  | 3, _, _, hc, ho, _, hk => sSipush (ce := ce) C a b t pc loc st S k hc ho hk
  | 4, _, _, hc, ho, _, hk => sLdc (ce := ce) C a b t pc loc st S k hc ho hk
  | 5, _, _, hc, ho, _, hk => sLdcW (ce := ce) C a b t pc loc st S k hc ho hk
  | 6, _, _, hc, ho, _, hk => sLconst (ce := ce) C a b t pc loc st S k hc ho hk
  | 7, _, _, hc, ho, _, hk => sLdc2 (ce := ce) C a b t pc loc st S k hc ho hk
  | 8, _, _, hc, ho, _, hk => sIloadN (ce := ce) C a b t pc loc st S k hc ho hk
  | 9, _, _, hc, ho, _, hk => sIload (ce := ce) C a b t pc loc st S k hc ho hk
  | 10, _, _, hc, ho, _, hk => sLloadN (ce := ce) C a b t pc loc st S k hc ho hk
  | 11, _, _, hc, ho, _, hk => sLload (ce := ce) C a b t pc loc st S k hc ho hk
  | 12, _, _, hc, ho, _, hk => sAloadN (ce := ce) C a b t pc loc st S k hc ho hk
  | 13, _, _, hc, ho, _, hk => sAload (ce := ce) C a b t pc loc st S k hc ho hk
  | 14, _, _, hc, ho, _, hk => sIstoreN (ce := ce) C a b t pc loc st S k hc ho hk
  | 15, _, _, hc, ho, _, hk => sIstore (ce := ce) C a b t pc loc st S k hc ho hk
  | 16, _, _, hc, ho, _, hk => sLstoreN (ce := ce) C a b t pc loc st S k hc ho hk
  | 17, _, _, hc, ho, _, hk => sLstore (ce := ce) C a b t pc loc st S k hc ho hk
  | 18, _, _, hc, ho, _, hk => sAstoreN (ce := ce) C a b t pc loc st S k hc ho hk
  | 19, _, _, hc, ho, _, hk => sAstore (ce := ce) C a b t pc loc st S k hc ho hk
  | 20, _, _, hc, ho, _, hk => sIinc (ce := ce) C a b t pc loc st S k hc ho hk
  | 21, _, _, hc, ho, _, hk => sIadd (ce := ce) C a b t pc loc st S k hc ho hk
  | 22, _, _, hc, ho, _, hk => sIsub (ce := ce) C a b t pc loc st S k hc ho hk
  | 23, _, _, hc, ho, _, hk => sImul (ce := ce) C a b t pc loc st S k hc ho hk
  | 24, _, _, hc, ho, _, hk => sIdiv (ce := ce) C a b t pc loc st S k hc ho hk
  | 25, _, _, hc, ho, _, hk => sIrem (ce := ce) C a b t pc loc st S k hc ho hk
  | 26, _, _, hc, ho, _, hk => sIneg (ce := ce) C a b t pc loc st S k hc ho hk
  | 27, _, _, hc, ho, _, hk => sIshl (ce := ce) C a b t pc loc st S k hc ho hk
  | 28, _, _, hc, ho, _, hk => sIshr (ce := ce) C a b t pc loc st S k hc ho hk
  | 29, _, _, hc, ho, _, hk => sIushr (ce := ce) C a b t pc loc st S k hc ho hk
  | 30, _, _, hc, ho, _, hk => sIand (ce := ce) C a b t pc loc st S k hc ho hk
  | 31, _, _, hc, ho, _, hk => sIor (ce := ce) C a b t pc loc st S k hc ho hk
  | 32, _, _, hc, ho, _, hk => sIxor (ce := ce) C a b t pc loc st S k hc ho hk
  | 33, _, _, hc, ho, _, hk => sLadd (ce := ce) C a b t pc loc st S k hc ho hk
  | 34, _, _, hc, ho, _, hk => sLsub (ce := ce) C a b t pc loc st S k hc ho hk
  | 35, _, _, hc, ho, _, hk => sLmul (ce := ce) C a b t pc loc st S k hc ho hk
  | 36, _, _, hc, ho, _, hk => sLdiv (ce := ce) C a b t pc loc st S k hc ho hk
  | 37, _, _, hc, ho, _, hk => sLrem (ce := ce) C a b t pc loc st S k hc ho hk
  | 38, _, _, hc, ho, _, hk => sLand (ce := ce) C a b t pc loc st S k hc ho hk
  | 39, _, _, hc, ho, _, hk => sLor (ce := ce) C a b t pc loc st S k hc ho hk
  | 40, _, _, hc, ho, _, hk => sLshl (ce := ce) C a b t pc loc st S k hc ho hk
  | 41, _, _, hc, ho, _, hk => sLshr (ce := ce) C a b t pc loc st S k hc ho hk
  | 42, _, _, hc, ho, _, hk => sLcmp (ce := ce) C a b t pc loc st S k hc ho hk
  | 43, _, _, hc, ho, _, hk => sI2l (ce := ce) C a b t pc loc st S k hc ho hk
  | 44, _, _, hc, ho, _, hk => sL2i (ce := ce) C a b t pc loc st S k hc ho hk
  | 45, _, _, hc, ho, _, hk => sDup (ce := ce) C a b t pc loc st S k hc ho hk
  | 46, _, _, hc, ho, _, hk => sDup2 (ce := ce) C a b t pc loc st S k hc ho hk
  | 47, _, _, hc, ho, _, hk => sPop (ce := ce) C a b t pc loc st S k hc ho hk
  | 48, _, _, hc, ho, _, hk => sIfEq (ce := ce) C a b t pc loc st S k hc ho hk
  | 49, _, _, hc, ho, _, hk => sIfNe (ce := ce) C a b t pc loc st S k hc ho hk
  | 50, _, _, hc, ho, _, hk => sIfLt (ce := ce) C a b t pc loc st S k hc ho hk
  | 51, _, _, hc, ho, _, hk => sIfGe (ce := ce) C a b t pc loc st S k hc ho hk
  | 52, _, _, hc, ho, _, hk => sIfGt (ce := ce) C a b t pc loc st S k hc ho hk
  | 53, _, _, hc, ho, _, hk => sIfLe (ce := ce) C a b t pc loc st S k hc ho hk
  | 54, _, _, hc, ho, _, hk => sIcEq (ce := ce) C a b t pc loc st S k hc ho hk
  | 55, _, _, hc, ho, _, hk => sIcNe (ce := ce) C a b t pc loc st S k hc ho hk
  | 56, _, _, hc, ho, _, hk => sIcLt (ce := ce) C a b t pc loc st S k hc ho hk
  | 57, _, _, hc, ho, _, hk => sIcGe (ce := ce) C a b t pc loc st S k hc ho hk
  | 58, _, _, hc, ho, _, hk => sIcGt (ce := ce) C a b t pc loc st S k hc ho hk
  | 59, _, _, hc, ho, _, hk => sIcLe (ce := ce) C a b t pc loc st S k hc ho hk
  | 60, _, _, hc, ho, _, hk => sGoto (ce := ce) C a b t pc loc st S k hc ho hk
  | 61, _, _, hc, ho, _, hk => sIfNN (ce := ce) C a b t pc loc st S k hc ho hk
  | 62, _, _, hc, ho, _, hk => sTab (ce := ce) C a b t pc loc st S k hc ho hk
  | 63, _, _, hc, ho, _, hk => sLook (ce := ce) C a b t pc loc st S k hc ho hk
  | 64, _, _, hc, ho, _, hk => sGet (ce := ce) C a b t pc loc st S k hc ho hk
  | 65, _, _, hc, ho, _, hk => sGetR (ce := ce) C a b t pc loc st S k hc ho hk
  | 66, _, _, hc, ho, _, hk => sPut (ce := ce) C a b t pc loc st S k hc ho hk
  | 67, _, _, hc, ho, _, hk => sPutZ (ce := ce) C a b t pc loc st S k hc ho hk
  | 68, _, _, hc, ho, _, hk => sPutR (ce := ce) C a b t pc loc st S k hc ho hk
  | 69, hI, _, hc, ho, _, hk => sPutF (ce := ce) C (hI rfl) a b t pc loc st S k hc ho hk
  | 70, _, _, hc, ho, _, hk => sIald (ce := ce) C a b t pc loc st S k hc ho hk
  | 71, _, _, hc, ho, _, hk => sLald (ce := ce) C a b t pc loc st S k hc ho hk
  | 72, _, _, hc, ho, _, hk => sZald (ce := ce) C a b t pc loc st S k hc ho hk
  | 73, _, _, hc, ho, _, hk => sCald (ce := ce) C a b t pc loc st S k hc ho hk
  | 74, _, _, hc, ho, _, hk => sAald (ce := ce) C a b t pc loc st S k hc ho hk
  | 75, _, _, hc, ho, _, hk => sIast (ce := ce) C a b t pc loc st S k hc ho hk
  | 76, _, _, hc, ho, _, hk => sLast (ce := ce) C a b t pc loc st S k hc ho hk
  | 77, _, _, hc, ho, _, hk => sZst (ce := ce) C a b t pc loc st S k hc ho hk
  | 78, _, _, hc, ho, _, hk => sCst (ce := ce) C a b t pc loc st S k hc ho hk
  | 79, _, _, hc, ho, _, hk => sAast (ce := ce) C a b t pc loc st S k hc ho hk
  | 80, _, _, hc, ho, _, hk => sLen (ce := ce) C a b t pc loc st S k hc ho hk
  | 81, _, _, hc, ho, hm, hk => sNew (ce := ce) C a b t pc loc st S k hc ho hm hk
  | 82, _, _, hc, ho, hm, hk => sNewA (ce := ce) C a b t pc loc st S k hc ho hm hk
  | 83, _, _, hc, ho, hm, hk => sNewQ (ce := ce) C a b t pc loc st S k hc ho hm hk
  | 84, _, _, hc, ho, hm, hk => hoth 84 (by omega) a b t pc loc st S k hc ho hm hk
  | 85, _, _, hc, ho, hm, hk => sCallV C hce hgr hR a b t pc loc st S k hc ho hm hk
  | 86, _, _, hc, ho, hm, hk => sCallVN C hce hgr hR a b t pc loc st S k hc ho hm hk
  | 87, _, _, hc, ho, hm, hk => sCallI C hce hgr hR a b t pc loc st S k hc ho hm hk
  | 88, _, _, hc, ho, hm, hk => sCallIN C hce hgr hR a b t pc loc st S k hc ho hm hk
  | 89, _, _, hc, ho, hm, hk => sCallS C hce hgr hR a b t pc loc st S k hc ho hm hk
  | 90, _, _, hc, ho, _, hk => sObj (ce := ce) C a b t pc loc st S k hc ho hk
  | 91, _, hr, hc, ho, _, _ => hret 91 a b t ce pc loc st S k (by omega) (by omega) hr hc ho
  | 92, _, hr, hc, ho, _, _ => hret 92 a b t ce pc loc st S k (by omega) (by omega) hr hc ho
  | 93, _, hr, hc, ho, _, _ => hret 93 a b t ce pc loc st S k (by omega) (by omega) hr hc ho
  | 94, _, hr, hc, ho, _, _ => hret 94 a b t ce pc loc st S k (by omega) (by omega) hr hc ho
  | 95, _, hr, hc, ho, _, _ => hret 95 a b t ce pc loc st S k (by omega) (by omega) hr hc ho
  | 96, _, _, hc, ho, _, hk => sNull (ce := ce) C a b t pc loc st S k hc ho hk
  | 97, _, _, hc, ho, _, hk => sCopy (ce := ce) C a b t pc loc st S k hc ho hk
  | 98, _, _, hc, ho, hm, hk => hoth 98 (by omega) a b t pc loc st S k hc ho hm hk
  | 99, _, _, hc, ho, hm, hk => hoth 99 (by omega) a b t pc loc st S k hc ho hm hk
  | 100, _, _, hc, ho, hm, hk => hoth 100 (by omega) a b t pc loc st S k hc ho hm hk
  | 101, _, _, hc, ho, hm, hk => hoth 101 (by omega) a b t pc loc st S k hc ho hm hk
  | 102, _, _, hc, ho, hm, hk => hoth 102 (by omega) a b t pc loc st S k hc ho hm hk
  | n + 103, _, _, _, ho, _, _ => by cases ho
