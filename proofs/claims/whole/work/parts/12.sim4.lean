/-! arrays -/
theorem jln_ok {S : jS} {r : Int} {q : Nat} (hwf : jWF S) (hr : 0 ≤ r) (hrn : r < gN S.1) (hrk : gK S.1 r = q) (hq : 13 ≤ q) : (0 ≤ gL S.1 r ∧ gL S.1 r ≤ 200000) ∧ ∀ i : Int, 0 ≤ i → i < gL S.1 r → jnum (jel q) (S.2 r i) ∧ (10 ≤ jel q → jokr S (jel q - 10) (gR S.1 r i)) := by
  have hw := (hwf r.toNat (by omega)).2.2
  rw [Int.toNat_of_nonneg hr, hrk] at hw
  have hw := hw hq
  unfold jWFa at hw
  rw [Int.toNat_of_nonneg hr, hrk] at hw
  refine ⟨hw.1, fun i h0 h1 => ?_⟩
  have := hw.2 i.toNat (by omega)
  rw [Int.toNat_of_nonneg h0] at this
  exact this
theorem vp_nar_b0 : vp_nar .boolean (Int32.ofInt 0) = Int32.ofInt 0 := by decide
theorem vp_nar_b1 : vp_nar .boolean (Int32.ofInt 1) = Int32.ofInt 1 := by decide
theorem vp_nar_c {z : Int} (h0 : 0 ≤ z) (h1 : z ≤ 65535) : vp_nar .char (Int32.ofInt z) = Int32.ofInt z := by
  have e : Int32.ofInt z = nI z.toNat := by
    unfold nI
    rw [← Int32.ofInt_eq_ofNat]
    congr 1
    omega
  have h2 := (pk_charN (q := z.toNat) (by omega)).1
  unfold vp_nar
  rw [e, h2]
def hIald : jH := fun _ cc pc _ _ _ => dc cc pc .iaload 1
theorem sIald {Γ : jCtx} {own : Nat} {cc : ByteArray} {ce : jC} {rF : Int × jS} (C : jCx Γ own cc) : jSim Γ own cc ce rF hIald (oAld 24 0) := by
  intro a b t pc loc st S k hc ho hk
  unfold hIald at hc
  unfold oAld at ho
  split at ho
  case h_2 => cases ho
  rename_i i u r rest
  split at ho
  case isFalse => cases ho
  rename_i hu
  split at ho
  case isFalse => cases ho
  rename_i hr
  split at ho
  case isFalse => cases ho
  rename_i hi
  split at ho
  case isFalse => cases ho
  rename_i hi2
  intro ls H locs ad ⟨hl, hwf, hlo, hst, hn, hP, hD, hS⟩
  have hst := List.forall_mem_cons.mp hst
  have hsx := List.forall_mem_cons.mp hst.2
  obtain ⟨hrn, hrk⟩ := jok_at (q := 14) hsx.1 (by omega) (by omega) hr
  obtain ⟨hln, hel⟩ := jln_ok hwf hr hrn hrk (by omega)
  have hi32 : j32 i := hst.1.1 rfl
  have hw := (hel i hi hi2).1
  have K := hk _ _ _ _ ho ls H locs ad ⟨hl, hwf, hlo, List.forall_mem_cons.mpr ⟨jok_num (tc := 0) hw (by omega), hsx.2⟩, hn, hP, hD, hS⟩
  rw [List.map_cons, List.map_cons, jtr_at (t := u) (by omega) (by omega)]
  refine va_iald C.1 C.2.1 C.2.2.2.2.2.1 hP r.toNat 1 (jw_int hr hrn hrk (by omega) (by omega) (by omega)) rfl (in32 hi32 hi (by omega)) (dc_ok hc) ?_
  rw [cl32 hi32, Int.toNat_of_nonneg hi]
  exact K
def hZald : jH := fun _ cc pc _ _ _ => dc cc pc .baload 1
theorem sZald {Γ : jCtx} {own : Nat} {cc : ByteArray} {ce : jC} {rF : Int × jS} (C : jCx Γ own cc) : jSim Γ own cc ce rF hZald (oAld 26 0) := by
  intro a b t pc loc st S k hc ho hk
  unfold hZald at hc
  unfold oAld at ho
  split at ho
  case h_2 => cases ho
  rename_i i u r rest
  split at ho
  case isFalse => cases ho
  rename_i hu
  split at ho
  case isFalse => cases ho
  rename_i hr
  split at ho
  case isFalse => cases ho
  rename_i hi
  split at ho
  case isFalse => cases ho
  rename_i hi2
  intro ls H locs ad ⟨hl, hwf, hlo, hst, hn, hP, hD, hS⟩
  have hst := List.forall_mem_cons.mp hst
  have hsx := List.forall_mem_cons.mp hst.2
  obtain ⟨hrn, hrk⟩ := jok_at (q := 16) hsx.1 (by omega) (by omega) hr
  obtain ⟨hln, hel⟩ := jln_ok hwf hr hrn hrk (by omega)
  have hi32 : j32 i := hst.1.1 rfl
  have hw := (hel i hi hi2).1
  have K := hk _ _ _ _ ho ls H locs ad ⟨hl, hwf, hlo, List.forall_mem_cons.mpr ⟨jok_num (tc := 2) hw (by omega), hsx.2⟩, hn, hP, hD, hS⟩
  rw [List.map_cons, List.map_cons, jtr_at (t := u) (by omega) (by omega)]
  refine va_zald C.1 C.2.1 C.2.2.2.2.2.1 hP r.toNat 3 (jw_int hr hrn hrk (by omega) (by omega) (by omega)) rfl (in32 hi32 hi (by omega)) (dc_ok hc) ?_
  rw [cl32 hi32, Int.toNat_of_nonneg hi]
  exact K
def hCald : jH := fun _ cc pc _ _ _ => dc cc pc .caload 1
theorem sCald {Γ : jCtx} {own : Nat} {cc : ByteArray} {ce : jC} {rF : Int × jS} (C : jCx Γ own cc) : jSim Γ own cc ce rF hCald (oAld 23 0) := by
  intro a b t pc loc st S k hc ho hk
  unfold hCald at hc
  unfold oAld at ho
  split at ho
  case h_2 => cases ho
  rename_i i u r rest
  split at ho
  case isFalse => cases ho
  rename_i hu
  split at ho
  case isFalse => cases ho
  rename_i hr
  split at ho
  case isFalse => cases ho
  rename_i hi
  split at ho
  case isFalse => cases ho
  rename_i hi2
  intro ls H locs ad ⟨hl, hwf, hlo, hst, hn, hP, hD, hS⟩
  have hst := List.forall_mem_cons.mp hst
  have hsx := List.forall_mem_cons.mp hst.2
  obtain ⟨hrn, hrk⟩ := jok_at (q := 13) hsx.1 (by omega) (by omega) hr
  obtain ⟨hln, hel⟩ := jln_ok hwf hr hrn hrk (by omega)
  have hi32 : j32 i := hst.1.1 rfl
  have hw := (hel i hi hi2).1
  have K := hk _ _ _ _ ho ls H locs ad ⟨hl, hwf, hlo, List.forall_mem_cons.mpr ⟨jok_num (tc := 3) hw (by omega), hsx.2⟩, hn, hP, hD, hS⟩
  rw [List.map_cons, List.map_cons, jtr_at (t := u) (by omega) (by omega)]
  refine va_cald C.1 C.2.1 C.2.2.2.2.2.1 hP r.toNat 0 (jw_int hr hrn hrk (by omega) (by omega) (by omega)) rfl (in32 hi32 hi (by omega)) (dc_ok hc) ?_
  rw [cl32 hi32, Int.toNat_of_nonneg hi]
  exact K
def hLald : jH := fun _ cc pc _ _ _ => dc cc pc .laload 1
theorem sLald {Γ : jCtx} {own : Nat} {cc : ByteArray} {ce : jC} {rF : Int × jS} (C : jCx Γ own cc) : jSim Γ own cc ce rF hLald (oAld 25 1) := by
  intro a b t pc loc st S k hc ho hk
  unfold hLald at hc
  unfold oAld at ho
  split at ho
  case h_2 => cases ho
  rename_i i u r rest
  split at ho
  case isFalse => cases ho
  rename_i hu
  split at ho
  case isFalse => cases ho
  rename_i hr
  split at ho
  case isFalse => cases ho
  rename_i hi
  split at ho
  case isFalse => cases ho
  rename_i hi2
  intro ls H locs ad ⟨hl, hwf, hlo, hst, hn, hP, hD, hS⟩
  have hst := List.forall_mem_cons.mp hst
  have hsx := List.forall_mem_cons.mp hst.2
  obtain ⟨hrn, hrk⟩ := jok_at (q := 15) hsx.1 (by omega) (by omega) hr
  obtain ⟨hln, hel⟩ := jln_ok hwf hr hrn hrk (by omega)
  have hi32 : j32 i := hst.1.1 rfl
  have hw := (hel i hi hi2).1
  have K := hk _ _ _ _ ho ls H locs ad ⟨hl, hwf, hlo, List.forall_mem_cons.mpr ⟨jok_num (tc := 1) hw (by omega), hsx.2⟩, hn, hP, hD, hS⟩
  rw [List.map_cons, List.map_cons, jtr_at (t := u) (by omega) (by omega)]
  refine va_lald C.1 C.2.1 C.2.2.2.2.2.1 hP r.toNat 2 (jw_long hr hrn hrk) rfl (in32 hi32 hi (by omega)) (dc_ok hc) ?_
  rw [cl32 hi32, Int.toNat_of_nonneg hi]
  exact K
def hIast : jH := fun _ cc pc _ _ _ => dc cc pc .iastore 1
theorem sIast {Γ : jCtx} {own : Nat} {cc : ByteArray} {ce : jC} {rF : Int × jS} (C : jCx Γ own cc) : jSim Γ own cc ce rF hIast (oAst 24 0) := by
  intro a b t pc loc st S k hc ho hk
  unfold hIast at hc
  unfold oAst at ho
  split at ho
  case h_2 => cases ho
  rename_i v z i u r rest
  split at ho
  case isFalse => cases ho
  rename_i hv
  subst hv
  split at ho
  case isFalse => cases ho
  rename_i hu
  split at ho
  case isFalse => cases ho
  rename_i hr
  split at ho
  case isFalse => cases ho
  rename_i hi
  split at ho
  case isFalse => cases ho
  rename_i hi2
  intro ls H locs ad ⟨hl, hwf, hlo, hst, hn, hP, hD, hS⟩
  have hsv := List.forall_mem_cons.mp hst
  have hst := List.forall_mem_cons.mp hsv.2
  have hsx := List.forall_mem_cons.mp hst.2
  obtain ⟨hrn, hrk⟩ := jok_at (q := 14) hsx.1 (by omega) (by omega) hr
  obtain ⟨hln, hel⟩ := jln_ok hwf hr hrn hrk (by omega)
  have hi32 : j32 i := hst.1.1 rfl
  have hnum : jnum (jel 14) z := ⟨fun q => hsv.1.1 rfl, fun q => absurd q (by decide), fun q => absurd q (by decide), fun q => absurd q (by decide)⟩
  have hwf' : jWF (S.1, jup S.2 r i z) := jWF_up hwf hr (fun q => by rw [hrk] at q; omega) (fun q => by rw [hrk]; exact hnum)
  rw [List.map_cons, List.map_cons, List.map_cons, jtr_at (t := u) (by omega) (by omega)]
  refine va_iast C.1 C.2.1 C.2.2.2.2.2.1 hP hD hS r.toNat 1 (jw_int hr hrn hrk (by omega) (by omega) (by omega)) rfl (in32 hi32 hi (by omega)) (dc_ok hc) (fun H1 locs1 hP1 hD1 hS1 => ?_)
  rw [jw_setI hr hrn hrk (by omega) (by omega) (by omega) hi (cl32 hi32)] at hP1 hD1
  exact hk _ _ _ _ ho ls H1 locs1 ad ⟨hl, hwf', hlo, hsx.2, hn, hP1, hD1, hS1⟩
def hLast : jH := fun _ cc pc _ _ _ => dc cc pc .lastore 1
theorem sLast {Γ : jCtx} {own : Nat} {cc : ByteArray} {ce : jC} {rF : Int × jS} (C : jCx Γ own cc) : jSim Γ own cc ce rF hLast (oAst 25 1) := by
  intro a b t pc loc st S k hc ho hk
  unfold hLast at hc
  unfold oAst at ho
  split at ho
  case h_2 => cases ho
  rename_i v z i u r rest
  split at ho
  case isFalse => cases ho
  rename_i hv
  subst hv
  split at ho
  case isFalse => cases ho
  rename_i hu
  split at ho
  case isFalse => cases ho
  rename_i hr
  split at ho
  case isFalse => cases ho
  rename_i hi
  split at ho
  case isFalse => cases ho
  rename_i hi2
  intro ls H locs ad ⟨hl, hwf, hlo, hst, hn, hP, hD, hS⟩
  have hsv := List.forall_mem_cons.mp hst
  have hst := List.forall_mem_cons.mp hsv.2
  have hsx := List.forall_mem_cons.mp hst.2
  obtain ⟨hrn, hrk⟩ := jok_at (q := 15) hsx.1 (by omega) (by omega) hr
  obtain ⟨hln, hel⟩ := jln_ok hwf hr hrn hrk (by omega)
  have hi32 : j32 i := hst.1.1 rfl
  have hnum : jnum (jel 15) z := ⟨fun q => absurd q (by decide), fun q => hsv.1.2.1 rfl, fun q => absurd q (by decide), fun q => absurd q (by decide)⟩
  have hwf' : jWF (S.1, jup S.2 r i z) := jWF_up hwf hr (fun q => by rw [hrk] at q; omega) (fun q => by rw [hrk]; exact hnum)
  rw [List.map_cons, List.map_cons, List.map_cons, jtr_at (t := u) (by omega) (by omega)]
  refine va_last C.1 C.2.1 C.2.2.2.2.2.1 hP hD hS r.toNat 2 (jw_long hr hrn hrk) rfl (in32 hi32 hi (by omega)) (dc_ok hc) (fun H1 locs1 hP1 hD1 hS1 => ?_)
  rw [jw_setL hr hrn hrk hi (cl32 hi32)] at hP1 hD1
  exact hk _ _ _ _ ho ls H1 locs1 ad ⟨hl, hwf', hlo, hsx.2, hn, hP1, hD1, hS1⟩
def hCst : jH := fun _ cc pc _ _ _ => dc cc pc .castore 1
theorem sCst {Γ : jCtx} {own : Nat} {cc : ByteArray} {ce : jC} {rF : Int × jS} (C : jCx Γ own cc) : jSim Γ own cc ce rF hCst oCst := by
  intro a b t pc loc st S k hc ho hk
  unfold hCst at hc
  unfold oCst at ho
  split at ho
  case h_2 => cases ho
  rename_i z i u r rest
  split at ho
  case isFalse => cases ho
  rename_i hu
  split at ho
  case isFalse => cases ho
  rename_i hr
  split at ho
  case isFalse => cases ho
  rename_i hi
  split at ho
  case isFalse => cases ho
  rename_i hi2
  split at ho
  case isFalse => cases ho
  rename_i hz1
  split at ho
  case isFalse => cases ho
  rename_i hz2
  intro ls H locs ad ⟨hl, hwf, hlo, hst, hn, hP, hD, hS⟩
  have hsv := List.forall_mem_cons.mp hst
  have hst := List.forall_mem_cons.mp hsv.2
  have hsx := List.forall_mem_cons.mp hst.2
  obtain ⟨hrn, hrk⟩ := jok_at (q := 13) hsx.1 (by omega) (by omega) hr
  obtain ⟨hln, hel⟩ := jln_ok hwf hr hrn hrk (by omega)
  have hi32 : j32 i := hst.1.1 rfl
  have hnum : jnum (jel 13) z := ⟨fun q => absurd q (by decide), fun q => absurd q (by decide), fun q => absurd q (by decide), fun q => ⟨hz1, hz2⟩⟩
  have hwf' : jWF (S.1, jup S.2 r i z) := jWF_up hwf hr (fun q => by rw [hrk] at q; omega) (fun q => by rw [hrk]; exact hnum)
  rw [List.map_cons, List.map_cons, List.map_cons, jtr_at (t := u) (by omega) (by omega)]
  refine va_cast C.1 C.2.1 C.2.2.2.2.2.1 hP hD hS r.toNat 0 (jw_int hr hrn hrk (by omega) (by omega) (by omega)) rfl (in32 hi32 hi (by omega)) (dc_ok hc) (fun H1 locs1 hP1 hD1 hS1 => ?_)
  rw [vp_nar_c hz1 hz2, jw_setI hr hrn hrk (by omega) (by omega) (by omega) hi (cl32 hi32)] at hP1 hD1
  exact hk _ _ _ _ ho ls H1 locs1 ad ⟨hl, hwf', hlo, hsx.2, hn, hP1, hD1, hS1⟩
def hZst : jH := fun _ cc pc _ _ _ => dc cc pc .bastore 1
theorem sZst {Γ : jCtx} {own : Nat} {cc : ByteArray} {ce : jC} {rF : Int × jS} (C : jCx Γ own cc) : jSim Γ own cc ce rF hZst oZst := by
  intro a b t pc loc st S k hc ho hk
  unfold hZst at hc
  unfold oZst at ho
  split at ho
  case h_2 => cases ho
  rename_i z i u r rest
  split at ho
  case isFalse => cases ho
  rename_i hu
  split at ho
  case isFalse => cases ho
  rename_i hr
  split at ho
  case isFalse => cases ho
  rename_i hi
  split at ho
  case isFalse => cases ho
  rename_i hi2
  have hz : (z = 0 ∨ z = 1) ∧ k (pc + 1) loc rest (S.1, jup S.2 r i z) = some rF := by
    by_cases e : z = 0
    · rw [if_pos e] at ho
      rw [e]
      exact ⟨Or.inl rfl, ho⟩
    · rw [if_neg e] at ho
      by_cases e2 : z = 1
      · rw [if_pos e2] at ho
        rw [e2]
        exact ⟨Or.inr rfl, ho⟩
      · rw [if_neg e2] at ho
        cases ho
  obtain ⟨hz, ho⟩ := hz
  intro ls H locs ad ⟨hl, hwf, hlo, hst, hn, hP, hD, hS⟩
  have hsv := List.forall_mem_cons.mp hst
  have hst := List.forall_mem_cons.mp hsv.2
  have hsx := List.forall_mem_cons.mp hst.2
  obtain ⟨hrn, hrk⟩ := jok_at (q := 16) hsx.1 (by omega) (by omega) hr
  obtain ⟨hln, hel⟩ := jln_ok hwf hr hrn hrk (by omega)
  have hi32 : j32 i := hst.1.1 rfl
  have hnum : jnum (jel 16) z := ⟨fun q => absurd q (by decide), fun q => absurd q (by decide), fun q => hz, fun q => absurd q (by decide)⟩
  have hwf' : jWF (S.1, jup S.2 r i z) := jWF_up hwf hr (fun q => by rw [hrk] at q; omega) (fun q => by rw [hrk]; exact hnum)
  rw [List.map_cons, List.map_cons, List.map_cons, jtr_at (t := u) (by omega) (by omega)]
  refine va_zast C.1 C.2.1 C.2.2.2.2.2.1 hP hD hS r.toNat 3 (jw_int hr hrn hrk (by omega) (by omega) (by omega)) rfl (in32 hi32 hi (by omega)) (dc_ok hc) (fun H1 locs1 hP1 hD1 hS1 => ?_)
  have en : vp_nar .boolean (Int32.ofInt z) = Int32.ofInt z := by
    rcases hz with q | q
    · rw [q]; exact vp_nar_b0
    · rw [q]; exact vp_nar_b1
  rw [en, jw_setI hr hrn hrk (by omega) (by omega) (by omega) hi (cl32 hi32)] at hP1 hD1
  exact hk _ _ _ _ ho ls H1 locs1 ad ⟨hl, hwf', hlo, hsx.2, hn, hP1, hD1, hS1⟩
theorem jty_at {cy : Nat → ClassId} : ∀ q : Nat, 13 ≤ q → q ≤ 19 → ∃ (t0 : Nat) (ty : FieldType), (jtys cy)[t0]? = some (cy q, ty)
  | 13, _, _ => ⟨0, _, rfl⟩ | 14, _, _ => ⟨1, _, rfl⟩ | 15, _, _ => ⟨2, _, rfl⟩ | 16, _, _ => ⟨3, _, rfl⟩ | 17, _, _ => ⟨4, _, rfl⟩ | 18, _, _ => ⟨5, _, rfl⟩ | 19, _, _ => ⟨6, _, rfl⟩
  | 0, h, _ => absurd h (by omega) | 1, h, _ => absurd h (by omega) | 2, h, _ => absurd h (by omega) | 3, h, _ => absurd h (by omega) | 4, h, _ => absurd h (by omega) | 5, h, _ => absurd h (by omega) | 6, h, _ => absurd h (by omega) | 7, h, _ => absurd h (by omega) | 8, h, _ => absurd h (by omega) | 9, h, _ => absurd h (by omega) | 10, h, _ => absurd h (by omega) | 11, h, _ => absurd h (by omega) | 12, h, _ => absurd h (by omega)
  | n + 20, _, h => absurd h (by omega)
theorem ofNat_toNat {z : Int} (h : 0 ≤ z) : Int32.ofNat z.toNat = Int32.ofInt z := by
  rw [← Int32.ofInt_eq_ofNat, Int.toNat_of_nonneg h]
def hLen : jH := fun _ cc pc _ _ _ => dc cc pc .arraylength 1
theorem sLen {Γ : jCtx} {own : Nat} {cc : ByteArray} {ce : jC} {rF : Int × jS} (C : jCx Γ own cc) : jSim Γ own cc ce rF hLen oLen := by
  intro a b t pc loc st S k hc ho hk
  unfold hLen at hc
  unfold oLen at ho
  split at ho
  case h_2 => cases ho
  rename_i u r rest
  split at ho
  case isFalse => cases ho
  rename_i hu
  split at ho
  case isFalse => cases ho
  rename_i hu2
  split at ho
  case isFalse => cases ho
  rename_i hr
  intro ls H locs ad ⟨hl, hwf, hlo, hst, hn, hP, hD, hS⟩
  have hst := List.forall_mem_cons.mp hst
  obtain ⟨hrn, hrk⟩ := jok_at (q := u - 10) hst.1 (by omega) (by omega) hr
  obtain ⟨hln, hel⟩ := jln_ok hwf hr hrn hrk (by omega)
  obtain ⟨t0, ty, hty⟩ := jty_at (cy := xy Γ) (u - 10) (by omega) (by omega)
  have K := hk _ _ _ _ ho ls H locs ad ⟨hl, hwf, hlo, List.forall_mem_cons.mpr ⟨jok_i (by unfold j32; omega), hst.2⟩, hn, hP, hD, hS⟩
  rw [List.map_cons] at K ⊢
  rw [jtr_at (t := u) (by omega) (by omega)]
  rcases (show u - 10 = 15 ∨ (u - 10 ≤ 16 ∧ u - 10 ≠ 15) ∨ 17 ≤ u - 10 by omega) with q | q | q
  · rw [q] at hrk hty
    exact va_alen C.1 C.2.1 C.2.2.2.2.2.1 hP r.toNat t0 (jw_long hr hrn hrk) hty (ofNat_toNat hln.1) (dc_ok hc) K
  · exact va_alen C.1 C.2.1 C.2.2.2.2.2.1 hP r.toNat t0 (jw_int hr hrn hrk (by omega) q.1 q.2) hty (ofNat_toNat hln.1) (dc_ok hc) K
  · exact va_alen C.1 C.2.1 C.2.2.2.2.2.1 hP r.toNat t0 (jw_refs hr hrn hrk q) hty (ofNat_toNat hln.1) (dc_ok hc) K
