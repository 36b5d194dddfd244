def hIdiv : jH := fun _ cc pc _ _ _ => dc cc pc .idiv 1
theorem sIdiv {Γ : jCtx} {own : Nat} {cc : ByteArray} {ce : jC} {rF : Int × jS} (C : jCx Γ own cc) : jSim Γ own cc ce rF hIdiv (oDiv jdiv) := by
  intro a b t pc loc st S k hc ho hk
  unfold hIdiv at hc
  unfold oDiv at ho
  split at ho
  case h_2 => cases ho
  rename_i y x r
  split at ho
  case isTrue => cases ho
  rename_i hy
  intro ls H locs ad ⟨hl, hwf, hlo, hst, hn, hP, hD, hS⟩
  have hst := List.forall_mem_cons.mp hst
  have hsx := List.forall_mem_cons.mp hst.2
  have hjy : j32 y := hst.1.1 rfl
  have hjx : j32 x := hsx.1.1 rfl
  have K := hk _ _ _ _ ho ls H locs ad ⟨hl, hwf, hlo, List.forall_mem_cons.mpr ⟨jok_i (w32_ok _), hsx.2⟩, hn, hP, hD, hS⟩
  refine lv_idiv C.1 C.2.1 (dc_ok hc) (fun q => hy ((eq32 hjy z32).mp q)) ?_
  rw [← div32 hjx hjy]
  exact K
def hIrem : jH := fun _ cc pc _ _ _ => dc cc pc .irem 1
theorem sIrem {Γ : jCtx} {own : Nat} {cc : ByteArray} {ce : jC} {rF : Int × jS} (C : jCx Γ own cc) : jSim Γ own cc ce rF hIrem (oDiv jrem) := by
  intro a b t pc loc st S k hc ho hk
  unfold hIrem at hc
  unfold oDiv at ho
  split at ho
  case h_2 => cases ho
  rename_i y x r
  split at ho
  case isTrue => cases ho
  rename_i hy
  intro ls H locs ad ⟨hl, hwf, hlo, hst, hn, hP, hD, hS⟩
  have hst := List.forall_mem_cons.mp hst
  have hsx := List.forall_mem_cons.mp hst.2
  have hjy : j32 y := hst.1.1 rfl
  have hjx : j32 x := hsx.1.1 rfl
  have K := hk _ _ _ _ ho ls H locs ad ⟨hl, hwf, hlo, List.forall_mem_cons.mpr ⟨jok_i (jrem_ok hjx hjy), hsx.2⟩, hn, hP, hD, hS⟩
  refine lv_irem C.1 C.2.1 (dc_ok hc) (fun q => hy ((eq32 hjy z32).mp q)) ?_
  rw [← rem32 hjx hjy]
  exact K
def hLdiv : jH := fun _ cc pc _ _ _ => dc cc pc .ldiv 1
theorem sLdiv {Γ : jCtx} {own : Nat} {cc : ByteArray} {ce : jC} {rF : Int × jS} (C : jCx Γ own cc) : jSim Γ own cc ce rF hLdiv (oDivL ldiv) := by
  intro a b t pc loc st S k hc ho hk
  unfold hLdiv at hc
  unfold oDivL at ho
  split at ho
  case h_2 => cases ho
  rename_i y x r
  split at ho
  case isTrue => cases ho
  rename_i hy
  intro ls H locs ad ⟨hl, hwf, hlo, hst, hn, hP, hD, hS⟩
  have hst := List.forall_mem_cons.mp hst
  have hsx := List.forall_mem_cons.mp hst.2
  have hjy : j64 y := hst.1.2.1 rfl
  have hjx : j64 x := hsx.1.2.1 rfl
  have K := hk _ _ _ _ ho ls H locs ad ⟨hl, hwf, hlo, List.forall_mem_cons.mpr ⟨jok_l (w64_ok _), hsx.2⟩, hn, hP, hD, hS⟩
  refine lv_ldiv C.1 C.2.1 (dc_ok hc) (fun q => hy ((eq64 hjy z64).mp q)) ?_
  rw [← div64 hjx hjy]
  exact K
def hLrem : jH := fun _ cc pc _ _ _ => dc cc pc .lrem 1
theorem sLrem {Γ : jCtx} {own : Nat} {cc : ByteArray} {ce : jC} {rF : Int × jS} (C : jCx Γ own cc) : jSim Γ own cc ce rF hLrem (oDivL lrem) := by
  intro a b t pc loc st S k hc ho hk
  unfold hLrem at hc
  unfold oDivL at ho
  split at ho
  case h_2 => cases ho
  rename_i y x r
  split at ho
  case isTrue => cases ho
  rename_i hy
  intro ls H locs ad ⟨hl, hwf, hlo, hst, hn, hP, hD, hS⟩
  have hst := List.forall_mem_cons.mp hst
  have hsx := List.forall_mem_cons.mp hst.2
  have hjy : j64 y := hst.1.2.1 rfl
  have hjx : j64 x := hsx.1.2.1 rfl
  have K := hk _ _ _ _ ho ls H locs ad ⟨hl, hwf, hlo, List.forall_mem_cons.mpr ⟨jok_l (lrem_ok hjx hjy), hsx.2⟩, hn, hP, hD, hS⟩
  refine lv_lrem C.1 C.2.1 (dc_ok hc) (fun q => hy ((eq64 hjy z64).mp q)) ?_
  rw [← rem64 hjx hjy]
  exact K
def hLshl : jH := fun _ cc pc _ _ _ => dc cc pc .lshl 1
theorem sLshl {Γ : jCtx} {own : Nat} {cc : ByteArray} {ce : jC} {rF : Int × jS} (C : jCx Γ own cc) : jSim Γ own cc ce rF hLshl (oShL lShl) := by
  intro a b t pc loc st S k hc ho hk
  unfold hLshl at hc
  unfold oShL at ho
  split at ho
  case h_2 => cases ho
  rename_i y x r
  intro ls H locs ad ⟨hl, hwf, hlo, hst, hn, hP, hD, hS⟩
  have hst := List.forall_mem_cons.mp hst
  have hsx := List.forall_mem_cons.mp hst.2
  have K := hk _ _ _ _ ho ls H locs ad ⟨hl, hwf, hlo, List.forall_mem_cons.mpr ⟨jok_l (r64 _), hsx.2⟩, hn, hP, hD, hS⟩
  refine lv_lshl C.1 C.2.1 (dc_ok hc) rfl ?_
  rw [← shl64]
  exact K
def hLshr : jH := fun _ cc pc _ _ _ => dc cc pc .lshr 1
theorem sLshr {Γ : jCtx} {own : Nat} {cc : ByteArray} {ce : jC} {rF : Int × jS} (C : jCx Γ own cc) : jSim Γ own cc ce rF hLshr (oShL lShr) := by
  intro a b t pc loc st S k hc ho hk
  unfold hLshr at hc
  unfold oShL at ho
  split at ho
  case h_2 => cases ho
  rename_i y x r
  intro ls H locs ad ⟨hl, hwf, hlo, hst, hn, hP, hD, hS⟩
  have hst := List.forall_mem_cons.mp hst
  have hsx := List.forall_mem_cons.mp hst.2
  have K := hk _ _ _ _ ho ls H locs ad ⟨hl, hwf, hlo, List.forall_mem_cons.mpr ⟨jok_l (r64 _), hsx.2⟩, hn, hP, hD, hS⟩
  refine lv_lshr C.1 C.2.1 (dc_ok hc) rfl ?_
  rw [← shr64]
  exact K
def hLcmp : jH := fun _ cc pc _ _ _ => dc cc pc .lcmp 1
theorem sLcmp {Γ : jCtx} {own : Nat} {cc : ByteArray} {ce : jC} {rF : Int × jS} (C : jCx Γ own cc) : jSim Γ own cc ce rF hLcmp oLcmp := by
  intro a b t pc loc st S k hc ho hk
  unfold hLcmp at hc
  unfold oLcmp at ho
  split at ho
  case h_2 => cases ho
  rename_i y x r
  intro ls H locs ad ⟨hl, hwf, hlo, hst, hn, hP, hD, hS⟩
  have hst := List.forall_mem_cons.mp hst
  have hsx := List.forall_mem_cons.mp hst.2
  have K := hk _ _ _ _ ho ls H locs ad ⟨hl, hwf, hlo, List.forall_mem_cons.mpr ⟨jok_i (lCmp_ok x y), hsx.2⟩, hn, hP, hD, hS⟩
  refine W.lcmp C.1 C.2.1 (dc_ok hc) ?_
  rw [← cmp64 (hsx.1.2.1 rfl) (hst.1.2.1 rfl)]
  exact K
def hI2l : jH := fun _ cc pc _ _ _ => dc cc pc .i2l 1
theorem sI2l {Γ : jCtx} {own : Nat} {cc : ByteArray} {ce : jC} {rF : Int × jS} (C : jCx Γ own cc) : jSim Γ own cc ce rF hI2l oI2l := by
  intro a b t pc loc st S k hc ho hk
  unfold hI2l at hc
  unfold oI2l at ho
  split at ho
  case h_2 => cases ho
  rename_i x r
  intro ls H locs ad ⟨hl, hwf, hlo, hst, hn, hP, hD, hS⟩
  have hst := List.forall_mem_cons.mp hst
  have K := hk _ _ _ _ ho ls H locs ad ⟨hl, hwf, hlo, List.forall_mem_cons.mpr ⟨jok_l (j32_64 (hst.1.1 rfl)), hst.2⟩, hn, hP, hD, hS⟩
  exact lv_i2l C.1 C.2.1 (dc_ok hc) (i2l32 (hst.1.1 rfl)) K
def hL2i : jH := fun _ cc pc _ _ _ => dc cc pc .l2i 1
theorem sL2i {Γ : jCtx} {own : Nat} {cc : ByteArray} {ce : jC} {rF : Int × jS} (C : jCx Γ own cc) : jSim Γ own cc ce rF hL2i oL2i := by
  intro a b t pc loc st S k hc ho hk
  unfold hL2i at hc
  unfold oL2i at ho
  split at ho
  case h_2 => cases ho
  rename_i x r
  intro ls H locs ad ⟨hl, hwf, hlo, hst, hn, hP, hD, hS⟩
  have hst := List.forall_mem_cons.mp hst
  have K := hk _ _ _ _ ho ls H locs ad ⟨hl, hwf, hlo, List.forall_mem_cons.mpr ⟨jok_i (w32_ok _), hst.2⟩, hn, hP, hD, hS⟩
  exact lv_l2i C.1 C.2.1 (dc_ok hc) (l2i64 (hst.1.2.1 rfl)) K
def hIneg : jH := fun _ cc pc _ _ _ => dc cc pc .ineg 1
theorem sIneg {Γ : jCtx} {own : Nat} {cc : ByteArray} {ce : jC} {rF : Int × jS} (C : jCx Γ own cc) : jSim Γ own cc ce rF hIneg oIneg := by
  intro a b t pc loc st S k hc ho hk
  unfold hIneg at hc
  unfold oIneg at ho
  split at ho
  case h_2 => cases ho
  rename_i x r
  intro ls H locs ad ⟨hl, hwf, hlo, hst, hn, hP, hD, hS⟩
  have hst := List.forall_mem_cons.mp hst
  have K := hk _ _ _ _ ho ls H locs ad ⟨hl, hwf, hlo, List.forall_mem_cons.mpr ⟨jok_i (w32_ok _), hst.2⟩, hn, hP, hD, hS⟩
  refine lv_ineg C.1 C.2.1 (dc_ok hc) ?_
  rw [← neg32]
  exact K
def hDup : jH := fun _ cc pc _ _ _ => dc cc pc .dup 1
theorem sDup {Γ : jCtx} {own : Nat} {cc : ByteArray} {ce : jC} {rF : Int × jS} (C : jCx Γ own cc) : jSim Γ own cc ce rF hDup oDup := by
  intro a b t pc loc st S k hc ho hk
  unfold hDup at hc
  unfold oDup at ho
  split at ho
  case h_2 => cases ho
  rename_i u x r
  split at ho
  case isTrue => cases ho
  rename_i hu
  intro ls H locs ad ⟨hl, hwf, hlo, hst, hn, hP, hD, hS⟩
  have h1 := List.forall_mem_cons.mp hst
  have K := hk _ _ _ _ ho ls H locs ad ⟨hl, hwf, hlo, List.forall_mem_cons.mpr ⟨h1.1, hst⟩, hn, hP, hD, hS⟩
  exact lv_dup C.1 C.2.1 (dc_ok hc) (jtr_cat hu) K
theorem jtr_cat2 {ad : Int → Nat} {v : jV} (h : v.1 = 1) : (jtr ad v).category = 2 := by
  obtain ⟨t, z⟩ := v
  dsimp only at h
  subst h
  rfl
def hDup2 : jH := fun _ cc pc _ _ _ => dc cc pc .dup2 1
theorem sDup2 {Γ : jCtx} {own : Nat} {cc : ByteArray} {ce : jC} {rF : Int × jS} (C : jCx Γ own cc) : jSim Γ own cc ce rF hDup2 oDup2 := by
  intro a b t pc loc st S k hc ho hk
  unfold hDup2 at hc
  unfold oDup2 at ho
  split at ho
  case h_3 => cases ho
  case h_1 =>
    rename_i u x v y r
    split at ho
    case isTrue =>
      rename_i hu
      intro ls H locs ad ⟨hl, hwf, hlo, hst, hn, hP, hD, hS⟩
      have h1 := List.forall_mem_cons.mp hst
      have K := hk _ _ _ _ ho ls H locs ad ⟨hl, hwf, hlo, List.forall_mem_cons.mpr ⟨h1.1, hst⟩, hn, hP, hD, hS⟩
      exact lv_dup2_2 C.1 C.2.1 (dc_ok hc) (jtr_cat2 hu) K
    case isFalse =>
      rename_i hu
      split at ho
      case isTrue => cases ho
      rename_i hv
      intro ls H locs ad ⟨hl, hwf, hlo, hst, hn, hP, hD, hS⟩
      have h1 := List.forall_mem_cons.mp hst
      have h2 := List.forall_mem_cons.mp h1.2
      have K := hk _ _ _ _ ho ls H locs ad ⟨hl, hwf, hlo, List.forall_mem_cons.mpr ⟨h1.1, List.forall_mem_cons.mpr ⟨h2.1, hst⟩⟩, hn, hP, hD, hS⟩
      exact lv_dup2_11 C.1 C.2.1 (dc_ok hc) (jtr_cat hu) (jtr_cat hv) K
  case h_2 =>
    rename_i u x
    split at ho
    case isFalse => cases ho
    rename_i hu
    intro ls H locs ad ⟨hl, hwf, hlo, hst, hn, hP, hD, hS⟩
    have h1 := List.forall_mem_cons.mp hst
    have K := hk _ _ _ _ ho ls H locs ad ⟨hl, hwf, hlo, List.forall_mem_cons.mpr ⟨h1.1, hst⟩, hn, hP, hD, hS⟩
    exact lv_dup2_2 C.1 C.2.1 (dc_ok hc) (jtr_cat2 hu) K
def hPop : jH := fun _ cc pc _ _ _ => dc cc pc .pop 1
theorem sPop {Γ : jCtx} {own : Nat} {cc : ByteArray} {ce : jC} {rF : Int × jS} (C : jCx Γ own cc) : jSim Γ own cc ce rF hPop oPop := by
  intro a b t pc loc st S k hc ho hk
  unfold hPop at hc
  unfold oPop at ho
  split at ho
  case h_2 => cases ho
  rename_i u x r
  split at ho
  case isTrue => cases ho
  rename_i hu
  intro ls H locs ad ⟨hl, hwf, hlo, hst, hn, hP, hD, hS⟩
  have h1 := List.forall_mem_cons.mp hst
  have K := hk _ _ _ _ ho ls H locs ad ⟨hl, hwf, hlo, h1.2, hn, hP, hD, hS⟩
  exact lv_pop C.1 C.2.1 (dc_ok hc) (jtr_cat hu) K
theorem jtg {pc : Nat} {a : Int} (h : decide (0 ≤ a) = true) : (pc : Int) + (a - pc) = ((a.toNat : Nat) : Int) := by
  have := of_decide_eq_true h
  omega
def hIfEq : jH := fun _ cc pc a _ _ => dc cc pc (.ifCond .eq (a - pc)) 3 && decide (0 ≤ a)
theorem sIfEq {Γ : jCtx} {own : Nat} {cc : ByteArray} {ce : jC} {rF : Int × jS} (C : jCx Γ own cc) : jSim Γ own cc ce rF hIfEq oIfEq := by
  intro a b t pc loc st S k hc ho hk
  simp only [hIfEq, Bool.and_eq_true] at hc
  unfold oIfEq at ho
  split at ho
  case h_2 => cases ho
  rename_i x r
  intro ls H locs ad ⟨hl, hwf, hlo, hst, hn, hP, hD, hS⟩
  have hst := List.forall_mem_cons.mp hst
  have hx : j32 x := hst.1.1 rfl
  refine lv_if_eq C.1 C.2.1 (dc_ok hc.1) (jtg hc.2) (fun q => ?_) (fun q => ?_)
  · have w : x = 0 := (eq32 hx z32).mp q
    rw [if_pos (by omega)] at ho
    exact hk _ _ _ _ ho ls H locs ad ⟨hl, hwf, hlo, hst.2, hn, hP, hD, hS⟩
  · have w : ¬ x = 0 := fun v => q ((eq32 hx z32).mpr v)
    rw [if_neg (by omega)] at ho
    exact hk _ _ _ _ ho ls H locs ad ⟨hl, hwf, hlo, hst.2, hn, hP, hD, hS⟩
def hIfNe : jH := fun _ cc pc a _ _ => dc cc pc (.ifCond .ne (a - pc)) 3 && decide (0 ≤ a)
theorem sIfNe {Γ : jCtx} {own : Nat} {cc : ByteArray} {ce : jC} {rF : Int × jS} (C : jCx Γ own cc) : jSim Γ own cc ce rF hIfNe oIfNe := by
  intro a b t pc loc st S k hc ho hk
  simp only [hIfNe, Bool.and_eq_true] at hc
  unfold oIfNe at ho
  split at ho
  case h_2 => cases ho
  rename_i x r
  intro ls H locs ad ⟨hl, hwf, hlo, hst, hn, hP, hD, hS⟩
  have hst := List.forall_mem_cons.mp hst
  have hx : j32 x := hst.1.1 rfl
  refine lv_if_ne C.1 C.2.1 (dc_ok hc.1) (jtg hc.2) (fun q => ?_) (fun q => ?_)
  · have w : ¬ x = 0 := fun v => q ((eq32 hx z32).mpr v)
    rw [if_neg (by omega)] at ho
    exact hk _ _ _ _ ho ls H locs ad ⟨hl, hwf, hlo, hst.2, hn, hP, hD, hS⟩
  · have w : x = 0 := (eq32 hx z32).mp q
    rw [if_pos (by omega)] at ho
    exact hk _ _ _ _ ho ls H locs ad ⟨hl, hwf, hlo, hst.2, hn, hP, hD, hS⟩
def hIfLt : jH := fun _ cc pc a _ _ => dc cc pc (.ifCond .lt (a - pc)) 3 && decide (0 ≤ a)
theorem sIfLt {Γ : jCtx} {own : Nat} {cc : ByteArray} {ce : jC} {rF : Int × jS} (C : jCx Γ own cc) : jSim Γ own cc ce rF hIfLt oIfLt := by
  intro a b t pc loc st S k hc ho hk
  simp only [hIfLt, Bool.and_eq_true] at hc
  unfold oIfLt at ho
  split at ho
  case h_2 => cases ho
  rename_i x r
  intro ls H locs ad ⟨hl, hwf, hlo, hst, hn, hP, hD, hS⟩
  have hst := List.forall_mem_cons.mp hst
  have hx : j32 x := hst.1.1 rfl
  refine lv_if_lt C.1 C.2.1 (dc_ok hc.1) (jtg hc.2) (fun q => ?_) (fun q => ?_)
  · have w : x < 0 := (lt32 hx z32).mp q
    rw [if_pos (by omega)] at ho
    exact hk _ _ _ _ ho ls H locs ad ⟨hl, hwf, hlo, hst.2, hn, hP, hD, hS⟩
  · have w : ¬ x < 0 := fun v => q ((lt32 hx z32).mpr v)
    rw [if_neg (by omega)] at ho
    exact hk _ _ _ _ ho ls H locs ad ⟨hl, hwf, hlo, hst.2, hn, hP, hD, hS⟩
def hIfGe : jH := fun _ cc pc a _ _ => dc cc pc (.ifCond .ge (a - pc)) 3 && decide (0 ≤ a)
theorem sIfGe {Γ : jCtx} {own : Nat} {cc : ByteArray} {ce : jC} {rF : Int × jS} (C : jCx Γ own cc) : jSim Γ own cc ce rF hIfGe oIfGe := by
  intro a b t pc loc st S k hc ho hk
  simp only [hIfGe, Bool.and_eq_true] at hc
  unfold oIfGe at ho
  split at ho
  case h_2 => cases ho
  rename_i x r
  intro ls H locs ad ⟨hl, hwf, hlo, hst, hn, hP, hD, hS⟩
  have hst := List.forall_mem_cons.mp hst
  have hx : j32 x := hst.1.1 rfl
  refine lv_if_ge C.1 C.2.1 (dc_ok hc.1) (jtg hc.2) (fun q => ?_) (fun q => ?_)
  · have w : 0 ≤ x := (le32 z32 hx).mp q
    rw [if_neg (by omega)] at ho
    exact hk _ _ _ _ ho ls H locs ad ⟨hl, hwf, hlo, hst.2, hn, hP, hD, hS⟩
  · have w : ¬ 0 ≤ x := fun v => q ((le32 z32 hx).mpr v)
    rw [if_pos (by omega)] at ho
    exact hk _ _ _ _ ho ls H locs ad ⟨hl, hwf, hlo, hst.2, hn, hP, hD, hS⟩
def hIfGt : jH := fun _ cc pc a _ _ => dc cc pc (.ifCond .gt (a - pc)) 3 && decide (0 ≤ a)
theorem sIfGt {Γ : jCtx} {own : Nat} {cc : ByteArray} {ce : jC} {rF : Int × jS} (C : jCx Γ own cc) : jSim Γ own cc ce rF hIfGt oIfGt := by
  intro a b t pc loc st S k hc ho hk
  simp only [hIfGt, Bool.and_eq_true] at hc
  unfold oIfGt at ho
  split at ho
  case h_2 => cases ho
  rename_i x r
  intro ls H locs ad ⟨hl, hwf, hlo, hst, hn, hP, hD, hS⟩
  have hst := List.forall_mem_cons.mp hst
  have hx : j32 x := hst.1.1 rfl
  refine lv_if_gt C.1 C.2.1 (dc_ok hc.1) (jtg hc.2) (fun q => ?_) (fun q => ?_)
  · have w : 0 < x := (lt32 z32 hx).mp q
    rw [if_pos (by omega)] at ho
    exact hk _ _ _ _ ho ls H locs ad ⟨hl, hwf, hlo, hst.2, hn, hP, hD, hS⟩
  · have w : ¬ 0 < x := fun v => q ((lt32 z32 hx).mpr v)
    rw [if_neg (by omega)] at ho
    exact hk _ _ _ _ ho ls H locs ad ⟨hl, hwf, hlo, hst.2, hn, hP, hD, hS⟩
def hIfLe : jH := fun _ cc pc a _ _ => dc cc pc (.ifCond .le (a - pc)) 3 && decide (0 ≤ a)
theorem sIfLe {Γ : jCtx} {own : Nat} {cc : ByteArray} {ce : jC} {rF : Int × jS} (C : jCx Γ own cc) : jSim Γ own cc ce rF hIfLe oIfLe := by
  intro a b t pc loc st S k hc ho hk
  simp only [hIfLe, Bool.and_eq_true] at hc
  unfold oIfLe at ho
  split at ho
  case h_2 => cases ho
  rename_i x r
  intro ls H locs ad ⟨hl, hwf, hlo, hst, hn, hP, hD, hS⟩
  have hst := List.forall_mem_cons.mp hst
  have hx : j32 x := hst.1.1 rfl
  refine lv_if_le C.1 C.2.1 (dc_ok hc.1) (jtg hc.2) (fun q => ?_) (fun q => ?_)
  · have w : x ≤ 0 := (le32 hx z32).mp q
    rw [if_neg (by omega)] at ho
    exact hk _ _ _ _ ho ls H locs ad ⟨hl, hwf, hlo, hst.2, hn, hP, hD, hS⟩
  · have w : ¬ x ≤ 0 := fun v => q ((le32 hx z32).mpr v)
    rw [if_pos (by omega)] at ho
    exact hk _ _ _ _ ho ls H locs ad ⟨hl, hwf, hlo, hst.2, hn, hP, hD, hS⟩
def hIcEq : jH := fun _ cc pc a _ _ => dc cc pc (.if_icmp .eq (a - pc)) 3 && decide (0 ≤ a)
theorem sIcEq {Γ : jCtx} {own : Nat} {cc : ByteArray} {ce : jC} {rF : Int × jS} (C : jCx Γ own cc) : jSim Γ own cc ce rF hIcEq oIcEq := by
  intro a b t pc loc st S k hc ho hk
  simp only [hIcEq, Bool.and_eq_true] at hc
  unfold oIcEq at ho
  split at ho
  case h_2 => cases ho
  rename_i y x r
  intro ls H locs ad ⟨hl, hwf, hlo, hst, hn, hP, hD, hS⟩
  have hst := List.forall_mem_cons.mp hst
  have hsx := List.forall_mem_cons.mp hst.2
  have hy : j32 y := hst.1.1 rfl
  have hx : j32 x := hsx.1.1 rfl
  refine lv_icmp_eq C.1 C.2.1 (dc_ok hc.1) (jtg hc.2) (fun q => ?_) (fun q => ?_)
  · have w : x = y := (eq32 hx hy).mp q
    rw [if_pos (by omega)] at ho
    exact hk _ _ _ _ ho ls H locs ad ⟨hl, hwf, hlo, hsx.2, hn, hP, hD, hS⟩
  · have w : ¬ x = y := fun v => q ((eq32 hx hy).mpr v)
    rw [if_neg (by omega)] at ho
    exact hk _ _ _ _ ho ls H locs ad ⟨hl, hwf, hlo, hsx.2, hn, hP, hD, hS⟩
def hIcNe : jH := fun _ cc pc a _ _ => dc cc pc (.if_icmp .ne (a - pc)) 3 && decide (0 ≤ a)
theorem sIcNe {Γ : jCtx} {own : Nat} {cc : ByteArray} {ce : jC} {rF : Int × jS} (C : jCx Γ own cc) : jSim Γ own cc ce rF hIcNe oIcNe := by
  intro a b t pc loc st S k hc ho hk
  simp only [hIcNe, Bool.and_eq_true] at hc
  unfold oIcNe at ho
  split at ho
  case h_2 => cases ho
  rename_i y x r
  intro ls H locs ad ⟨hl, hwf, hlo, hst, hn, hP, hD, hS⟩
  have hst := List.forall_mem_cons.mp hst
  have hsx := List.forall_mem_cons.mp hst.2
  have hy : j32 y := hst.1.1 rfl
  have hx : j32 x := hsx.1.1 rfl
  refine lv_icmp_ne C.1 C.2.1 (dc_ok hc.1) (jtg hc.2) (fun q => ?_) (fun q => ?_)
  · have w : ¬ x = y := fun v => q ((eq32 hx hy).mpr v)
    rw [if_neg (by omega)] at ho
    exact hk _ _ _ _ ho ls H locs ad ⟨hl, hwf, hlo, hsx.2, hn, hP, hD, hS⟩
  · have w : x = y := (eq32 hx hy).mp q
    rw [if_pos (by omega)] at ho
    exact hk _ _ _ _ ho ls H locs ad ⟨hl, hwf, hlo, hsx.2, hn, hP, hD, hS⟩
def hIcLt : jH := fun _ cc pc a _ _ => dc cc pc (.if_icmp .lt (a - pc)) 3 && decide (0 ≤ a)
theorem sIcLt {Γ : jCtx} {own : Nat} {cc : ByteArray} {ce : jC} {rF : Int × jS} (C : jCx Γ own cc) : jSim Γ own cc ce rF hIcLt oIcLt := by
  intro a b t pc loc st S k hc ho hk
  simp only [hIcLt, Bool.and_eq_true] at hc
  unfold oIcLt at ho
  split at ho
  case h_2 => cases ho
  rename_i y x r
  intro ls H locs ad ⟨hl, hwf, hlo, hst, hn, hP, hD, hS⟩
  have hst := List.forall_mem_cons.mp hst
  have hsx := List.forall_mem_cons.mp hst.2
  have hy : j32 y := hst.1.1 rfl
  have hx : j32 x := hsx.1.1 rfl
  refine lv_icmp_lt C.1 C.2.1 (dc_ok hc.1) (jtg hc.2) (fun q => ?_) (fun q => ?_)
  · have w : x < y := (lt32 hx hy).mp q
    rw [if_pos (by omega)] at ho
    exact hk _ _ _ _ ho ls H locs ad ⟨hl, hwf, hlo, hsx.2, hn, hP, hD, hS⟩
  · have w : ¬ x < y := fun v => q ((lt32 hx hy).mpr v)
    rw [if_neg (by omega)] at ho
    exact hk _ _ _ _ ho ls H locs ad ⟨hl, hwf, hlo, hsx.2, hn, hP, hD, hS⟩
def hIcGe : jH := fun _ cc pc a _ _ => dc cc pc (.if_icmp .ge (a - pc)) 3 && decide (0 ≤ a)
theorem sIcGe {Γ : jCtx} {own : Nat} {cc : ByteArray} {ce : jC} {rF : Int × jS} (C : jCx Γ own cc) : jSim Γ own cc ce rF hIcGe oIcGe := by
  intro a b t pc loc st S k hc ho hk
  simp only [hIcGe, Bool.and_eq_true] at hc
  unfold oIcGe at ho
  split at ho
  case h_2 => cases ho
  rename_i y x r
  intro ls H locs ad ⟨hl, hwf, hlo, hst, hn, hP, hD, hS⟩
  have hst := List.forall_mem_cons.mp hst
  have hsx := List.forall_mem_cons.mp hst.2
  have hy : j32 y := hst.1.1 rfl
  have hx : j32 x := hsx.1.1 rfl
  refine lv_icmp_ge C.1 C.2.1 (dc_ok hc.1) (jtg hc.2) (fun q => ?_) (fun q => ?_)
  · have w : y ≤ x := (le32 hy hx).mp q
    rw [if_neg (by omega)] at ho
    exact hk _ _ _ _ ho ls H locs ad ⟨hl, hwf, hlo, hsx.2, hn, hP, hD, hS⟩
  · have w : ¬ y ≤ x := fun v => q ((le32 hy hx).mpr v)
    rw [if_pos (by omega)] at ho
    exact hk _ _ _ _ ho ls H locs ad ⟨hl, hwf, hlo, hsx.2, hn, hP, hD, hS⟩
def hIcGt : jH := fun _ cc pc a _ _ => dc cc pc (.if_icmp .gt (a - pc)) 3 && decide (0 ≤ a)
theorem sIcGt {Γ : jCtx} {own : Nat} {cc : ByteArray} {ce : jC} {rF : Int × jS} (C : jCx Γ own cc) : jSim Γ own cc ce rF hIcGt oIcGt := by
  intro a b t pc loc st S k hc ho hk
  simp only [hIcGt, Bool.and_eq_true] at hc
  unfold oIcGt at ho
  split at ho
  case h_2 => cases ho
  rename_i y x r
  intro ls H locs ad ⟨hl, hwf, hlo, hst, hn, hP, hD, hS⟩
  have hst := List.forall_mem_cons.mp hst
  have hsx := List.forall_mem_cons.mp hst.2
  have hy : j32 y := hst.1.1 rfl
  have hx : j32 x := hsx.1.1 rfl
  refine lv_icmp_gt C.1 C.2.1 (dc_ok hc.1) (jtg hc.2) (fun q => ?_) (fun q => ?_)
  · have w : y < x := (lt32 hy hx).mp q
    rw [if_pos (by omega)] at ho
    exact hk _ _ _ _ ho ls H locs ad ⟨hl, hwf, hlo, hsx.2, hn, hP, hD, hS⟩
  · have w : ¬ y < x := fun v => q ((lt32 hy hx).mpr v)
    rw [if_neg (by omega)] at ho
    exact hk _ _ _ _ ho ls H locs ad ⟨hl, hwf, hlo, hsx.2, hn, hP, hD, hS⟩
def hIcLe : jH := fun _ cc pc a _ _ => dc cc pc (.if_icmp .le (a - pc)) 3 && decide (0 ≤ a)
theorem sIcLe {Γ : jCtx} {own : Nat} {cc : ByteArray} {ce : jC} {rF : Int × jS} (C : jCx Γ own cc) : jSim Γ own cc ce rF hIcLe oIcLe := by
  intro a b t pc loc st S k hc ho hk
  simp only [hIcLe, Bool.and_eq_true] at hc
  unfold oIcLe at ho
  split at ho
  case h_2 => cases ho
  rename_i y x r
  intro ls H locs ad ⟨hl, hwf, hlo, hst, hn, hP, hD, hS⟩
  have hst := List.forall_mem_cons.mp hst
  have hsx := List.forall_mem_cons.mp hst.2
  have hy : j32 y := hst.1.1 rfl
  have hx : j32 x := hsx.1.1 rfl
  refine lv_icmp_le C.1 C.2.1 (dc_ok hc.1) (jtg hc.2) (fun q => ?_) (fun q => ?_)
  · have w : x ≤ y := (le32 hx hy).mp q
    rw [if_neg (by omega)] at ho
    exact hk _ _ _ _ ho ls H locs ad ⟨hl, hwf, hlo, hsx.2, hn, hP, hD, hS⟩
  · have w : ¬ x ≤ y := fun v => q ((le32 hx hy).mpr v)
    rw [if_pos (by omega)] at ho
    exact hk _ _ _ _ ho ls H locs ad ⟨hl, hwf, hlo, hsx.2, hn, hP, hD, hS⟩
def hGoto : jH := fun _ cc pc a _ _ => dc cc pc (.goto (a - pc)) 3 && decide (0 ≤ a)
theorem sGoto {Γ : jCtx} {own : Nat} {cc : ByteArray} {ce : jC} {rF : Int × jS} (C : jCx Γ own cc) : jSim Γ own cc ce rF hGoto oGoto := by
  intro a b t pc loc st S k hc ho hk
  simp only [hGoto, Bool.and_eq_true] at hc
  intro ls H locs ad hat
  exact lv_goto C.1 C.2.1 (dc_ok hc.1) (jtg hc.2) (hk _ _ _ _ ho ls H locs ad hat)
def hIfNN : jH := fun _ cc pc a _ _ => dc cc pc (.ifnonnull (a - pc)) 3 && decide (0 ≤ a)
theorem sIfNN {Γ : jCtx} {own : Nat} {cc : ByteArray} {ce : jC} {rF : Int × jS} (C : jCx Γ own cc) : jSim Γ own cc ce rF hIfNN oIfNN := by
  intro a b t pc loc st S k hc ho hk
  simp only [hIfNN, Bool.and_eq_true] at hc
  unfold oIfNN at ho
  split at ho
  case h_2 => cases ho
  rename_i u z r
  split at ho
  case isFalse => cases ho
  rename_i hu
  intro ls H locs ad ⟨hl, hwf, hlo, hst, hn, hP, hD, hS⟩
  have hst := List.forall_mem_cons.mp hst
  rw [List.map_cons]
  by_cases hz : z = -1
  · rw [if_pos hz] at ho
    subst hz
    rw [jtr_null hu]
    exact lv_ifnonnullN C.1 C.2.1 (dc_ok hc.1) (hk _ _ _ _ ho ls H locs ad ⟨hl, hwf, hlo, hst.2, hn, hP, hD, hS⟩)
  · rw [if_neg hz] at ho
    rw [jtr_at hu hz]
    exact lv_ifnonnull C.1 C.2.1 (dc_ok hc.1) (jtg hc.2) (hk _ _ _ _ ho ls H locs ad ⟨hl, hwf, hlo, hst.2, hn, hP, hD, hS⟩)
theorem jsw_spec {k : Nat → jR} {z d : Int} {rF : Int × jS} : ∀ (l : List Int) (lo : Int), jsw k z d lo l = some rF → (((z < lo ∨ lo + l.length ≤ z) ∧ k d.toNat = some rF) ∨ (lo ≤ z ∧ z < lo + l.length ∧ ∃ t, l[(z - lo).toNat]? = some t ∧ k t.toNat = some rF))
  | [], lo, h => Or.inl ⟨by simp; omega, h⟩
  | t :: l, lo, h => by
    unfold jsw at h
    by_cases e : z = lo
    · rw [if_pos e] at h
      refine Or.inr ⟨by omega, by simp; omega, t, ?_, h⟩
      rw [show (z - lo).toNat = 0 by omega]
      rfl
    · rw [if_neg e] at h
      rcases jsw_spec l (lo + 1) h with ⟨h1, h2⟩ | ⟨h1, h2, u, h3, h4⟩
      · refine Or.inl ⟨?_, h2⟩
        simp only [List.length_cons]
        omega
      · refine Or.inr ⟨by omega, by simp only [List.length_cons]; omega, u, ?_, h4⟩
        rw [show (z - lo).toNat = (z - (lo + 1)).toNat + 1 by omega]
        exact h3
def hTab : jH := fun _ cc pc a b t => (match decode cc pc with
  | .ok (.tableswitch d lo hi offs, _) => decide (lo = b) && (decide (hi = b + t.length - 1) && (decide (pc + d = a) && (decide (0 ≤ a) && (decide (offs.toList.map (fun x => (pc : Int) + x) = t) && t.all (fun x => decide (0 ≤ x))))))
  | _ => false)
theorem sTab {Γ : jCtx} {own : Nat} {cc : ByteArray} {ce : jC} {rF : Int × jS} (C : jCx Γ own cc) : jSim Γ own cc ce rF hTab oTab := by
  intro a b t pc loc st S k hc ho hk
  unfold hTab at hc
  split at hc
  case h_2 => cases hc
  rename_i d lo hi offs ln hdg
  simp only [Bool.and_eq_true, decide_eq_true_eq] at hc
  obtain ⟨rfl, h2, h3, h4, h5, h6⟩ := hc
  unfold oTab at ho
  split at ho
  case h_2 => cases ho
  rename_i z r
  intro ls H locs ad ⟨hl, hwf, hlo, hst, hn, hP, hD, hS⟩
  have hst := List.forall_mem_cons.mp hst
  have hz : j32 z := hst.1.1 rfl
  rcases jsw_spec _ _ ho with ⟨g1, g2⟩ | ⟨g1, g2, u, g3, g4⟩
  · refine lv_tableOut C.1 C.2.1 hdg (by rw [t32 hz]; omega) (tgt := a.toNat) (by omega) ?_
    exact hk _ _ _ _ g2 ls H locs ad ⟨hl, hwf, hlo, hst.2, hn, hP, hD, hS⟩
  · have hm : u ∈ t := List.mem_of_getElem? g3
    have hu := of_decide_eq_true (List.all_eq_true.mp h6 u hm)
    rw [← h5, List.getElem?_map, Option.map_eq_some_iff] at g3
    obtain ⟨off, g5, g6⟩ := g3
    refine lv_tableIn C.1 C.2.1 hdg (by rw [t32 hz]; omega) (by rw [t32 hz]; omega) (off := off) (by rw [t32 hz, ← Array.getElem?_toList]; exact g5) (tgt := u.toNat) (by omega) ?_
    exact hk _ _ _ _ g4 ls H locs ad ⟨hl, hwf, hlo, hst.2, hn, hP, hD, hS⟩
