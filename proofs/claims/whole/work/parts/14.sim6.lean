/-! arrays that are made; references in arrays; the rest -/
/-- the classes of arrays are those that the tables name -/
theorem jcy {Γ : jCtx} {own : Nat} {cc : ByteArray} (C : jCx Γ own cc) {q t0 : Nat} {ty : FieldType} {cA : ClassId} (ht : (jtys (xy Γ))[t0]? = some (xy Γ q, ty)) (h : va_K (xD Γ) vwCl (jtys (xy Γ) ++ [(cA, ty)]) (xs Γ)) : cA = xy Γ q := by
  have h1 := (C.2.2.2.2.2.1.2 t0 _ ht).2
  have h2 := (h.2 (jtys (xy Γ)).length (cA, ty) (by rw [List.getElem?_append_right (Nat.le_refl _), Nat.sub_self]; rfl)).2
  dsimp only at h1 h2
  unfold va_RA at h1 h2
  cases ty with
  | object N =>
    obtain ⟨_, _, _, _, _, g1⟩ := h1
    obtain ⟨_, _, _, _, _, g2⟩ := h2
    exact Option.some.inj (g2.symm.trans g1)
  | _ => exact Option.some.inj (h2.symm.trans h1)
def jat (q : Nat) : ArrayType := if q = 13 then .char else if q = 15 then .long else if q = 16 then .boolean else .int
def hNewA : jH := fun _ cc pc a _ _ => dc cc pc (.newarray (jat a.toNat)) 2 && decide (13 ≤ a.toNat ∧ a.toNat ≤ 16)
theorem arrC {Γ : jCtx} {own : Nat} {cc : ByteArray} (C : jCx Γ own cc) : ∀ q : Nat, 13 ≤ q → q ≤ 16 → ∃ t0 : Nat, (jtys (xy Γ))[t0]? = some (xy Γ q, newarray.typeOf (jat q)) ∧ (Cond.arrayClass (newarray.typeOf (jat q))).before (xa Γ) (xs Γ) = true
  | 13, _, _ => ⟨0, rfl, C.2.2.2.2.1 _ (mi_ok 5 rfl rfl)⟩
  | 14, _, _ => ⟨1, rfl, C.2.2.2.2.1 _ (mi_ok 6 rfl rfl)⟩
  | 15, _, _ => ⟨2, rfl, C.2.2.2.2.1 _ (mi_ok 7 rfl rfl)⟩
  | 16, _, _ => ⟨3, rfl, C.2.2.2.2.1 _ (mi_ok 8 rfl rfl)⟩
  | 0, h, _ => absurd h (by omega) | 1, h, _ => absurd h (by omega) | 2, h, _ => absurd h (by omega) | 3, h, _ => absurd h (by omega) | 4, h, _ => absurd h (by omega) | 5, h, _ => absurd h (by omega) | 6, h, _ => absurd h (by omega) | 7, h, _ => absurd h (by omega) | 8, h, _ => absurd h (by omega) | 9, h, _ => absurd h (by omega) | 10, h, _ => absurd h (by omega) | 11, h, _ => absurd h (by omega) | 12, h, _ => absurd h (by omega)
  | n + 17, _, h => absurd h (by omega)
def ja0 (q : Nat) (n : Nat) : vp_A := if q = 15 then (n, .inr (.inl (fun _ => Int64.ofInt 0))) else (n, .inl (fun _ => Int32.ofInt 0))
theorem ja0_ok (q n : Nat) (h1 : 13 ≤ q) (h2 : q ≤ 16) (cA : ClassId) : vp_cell cA (ja0 q n) = arrV cA n (fun _ => defaultValue (newarray.typeOf (jat q))) := by
  rcases (show q = 13 ∨ q = 14 ∨ q = 15 ∨ q = 16 by omega) with e | e | e | e <;> subst e <;> rfl
theorem jbytes (q : Nat) : componentBytes (newarray.typeOf (jat q)) ≤ 8 := by
  unfold jat
  split
  · decide
  · split
    · decide
    · split <;> decide
theorem sNewA {Γ : jCtx} {own : Nat} {cc : ByteArray} {ce : jC} {rF : Int × jS} (C : jCx Γ own cc) : jSimM Γ own cc ce rF hNewA (oNewA 2) := by
  intro a b t pc loc st S k hc ho hm hk
  unfold hNewA at hc
  simp only [Bool.and_eq_true, decide_eq_true_eq] at hc
  obtain ⟨hdg, hq1, hq2⟩ := hc
  unfold oNewA at ho
  split at ho
  case h_2 => cases ho
  rename_i z rest
  split at ho
  case isFalse => cases ho
  rename_i hz
  split at ho
  case isFalse => cases ho
  rename_i hz2
  generalize a.toNat = q at *
  intro ls H locs ad hat
  have hat' := hat
  obtain ⟨hl, hwf, hlo, hst, hn, hP, hD, hS⟩ := hat'
  have hst := List.forall_mem_cons.mp hst
  have hroom := hm _ _ _ _ ho
  have hN : gN (jnew q z z.toNat S).1 = gN S.1 + 1 := rfl
  have hM : gM (jnew q z z.toNat S).1 = gM S.1 + z.toNat := rfl
  rw [hN, hM] at hroom
  have h1 := hn.2.1
  have h2 := hn.2.2.1
  have hz32 : j32 z := hst.1.1 rfl
  obtain ⟨t0, ht0, harr⟩ := arrC C q hq1 hq2
  have hby := jbytes q
  have hby2 : z.toNat * componentBytes (newarray.typeOf (jat q)) ≤ 536870912 := by
    have : z.toNat * componentBytes (newarray.typeOf (jat q)) ≤ 200000 * 8 := Nat.mul_le_mul (by omega) hby
    omega
  rw [List.map_cons]
  refine va_newa (a0 := ja0 q z.toNat) C.1 C.2.1 harr rfl C.2.2.2.2.2.1 hP hD hS C.2.2.2.2.2.2.1 (ja0_ok q z.toNat hq1 hq2) (ge32 hz32 hz) (cl32 hz32) hby2 (by omega) (by omega) (dc_ok hdg) (fun w cA H1 hK1 hP1 hD1 hS1 => ?_)
  have ec := jcy C ht0 hK1
  subst ec
  have he : jcell (xy Γ) (jadn ad (gN S.1) w) (jnew q z z.toNat S) (gN S.1) = .inl (xy Γ q, ja0 q z.toNat) := by
    unfold jcell ja0
    rw [jnew_kd, jnew_ln]
    simp only [jnew_x]
    rw [if_neg (by omega)]
    by_cases e : q = 15
    · rw [if_pos e, if_pos e, e]
    · rw [if_neg e, if_neg e, if_pos (by omega)]
  have K := hk _ _ _ _ ho ls H1 locs _ (jAt_new (st := rest) (e := .inl (xy Γ q, ja0 q z.toNat)) ⟨hl, hwf, hlo, hst.2, hn, hP, hD, hS⟩ (by omega) (fun _ => ⟨hz, hz2⟩) he hP1 hD1 hS1)
  rw [List.map_cons, jmap_ext hst.2, jtr_at (by omega) (by have : (0 : Int) ≤ (S.1.1 : Int) := Int.natCast_nonneg _; omega)] at K
  have e1 : jadn ad (gN S.1) w ((S.1.1 : Nat) : Int) = w := jadn_eq
  rw [e1] at K
  unfold jW at K
  rw [hN, hM, show gN S.1 + 1 - xk Γ = gN S.1 - xk Γ + 1 by omega, show gM S.1 + z.toNat - xj Γ = gM S.1 - xj Γ + z.toNat by omega] at K
  exact K
/-- arrays of references to Ground, Mine -/
def hNewQ : jH := fun own cc pc a b _ => dc cc pc (.anewarray b.toNat) 3 && decide ((a.toNat = 17 ∧ (own, b.toNat, 1) ∈ jcw) ∨ (a.toNat = 18 ∧ (own, b.toNat, 3) ∈ jcw))
theorem jnewQ {Γ : jCtx} {own : Nat} {cc : ByteArray} {rF : Int × jS} (C : jCx Γ own cc) (hO : va_AO RX1 (xs Γ) ∧ va_AO RX3 (xs Γ)) {q c t0 : Nat} (hq : (q = 17 ∧ c = 1 ∧ t0 = 4) ∨ (q = 18 ∧ c = 3 ∧ t0 = 5)) {b : Int} {pc : Nat} (hlk : (own, b.toNat, c) ∈ jcw) (hdg : dc cc pc (.anewarray b.toNat) 3 = true) {loc rest : List jV} {S : jS} {k : jT} {z : Int} (hz : 0 ≤ z) (hz2 : z ≤ 200000) (ho : k (pc + 3) loc ((10 + q, (S.1.1 : Int)) :: rest) (jnew q z z.toNat S) = some rF) (hm : ∀ pc loc st S, k pc loc st S = some rF → gN S.1 - xk Γ ≤ (xR Γ).cells ∧ gM S.1 - xj Γ ≤ (xR Γ).slots) (hk : ∀ pc loc st S, k pc loc st S = some rF → jK Γ pc loc st S) : jK Γ pc loc ((0, z) :: rest) S := by
  intro ls H locs ad hat
  have hat' := hat
  obtain ⟨hl, hwf, hlo, hst, hn, hP, hD, hS⟩ := hat'
  have hst := List.forall_mem_cons.mp hst
  have hroom := hm _ _ _ _ ho
  have hN : gN (jnew q z z.toNat S).1 = gN S.1 + 1 := rfl
  have hM : gM (jnew q z z.toNat S).1 = gM S.1 + z.toNat := rfl
  rw [hN, hM] at hroom
  have h1 := hn.2.1
  have h2 := hn.2.2.1
  have hz32 : j32 z := hst.1.1 rfl
  have hao : va_AO (jcn.getD c "") (xs Γ) := by
    rcases hq with ⟨-, e, -⟩ | ⟨-, e, -⟩ <;> subst e
    · exact hO.1
    · exact hO.2
  have ht0 : (jtys (xy Γ))[t0]? = some (xy Γ q, .object (jcn.getD c "")) := by
    rcases hq with ⟨e1, e2, e3⟩ | ⟨e1, e2, e3⟩ <;> subst e1 <;> subst e2 <;> subst e3 <;> rfl
  rw [List.map_cons]
  refine va_newq C.1 C.2.1 C.2.2.2.1 (C.2.2.2.2.1 _ (cl_ok hlk)) hao C.2.2.2.2.2.1 hP hD hS C.2.2.2.2.2.2.1 (ge32 hz32 hz) (cl32 hz32) (by omega) (by omega) (by omega) (dc_ok hdg) (fun w cA H1 hK1 hP1 hD1 hS1 => ?_)
  have ec := jcy C ht0 hK1
  subst ec
  have he : jcell (xy Γ) (jadn ad (gN S.1) w) (jnew q z z.toNat S) (gN S.1) = .inl (xy Γ q, z.toNat, .inr (.inr (.inr (.inr (fun _ => none))))) := by
    unfold jcell
    rw [jnew_kd, jnew_ln]
    simp only [jnew_r]
    rw [if_neg (by omega), if_neg (by omega), if_neg (by omega)]
    rfl
  have K := hk _ _ _ _ ho ls H1 locs _ (jAt_new (st := rest) (e := .inl (xy Γ q, z.toNat, .inr (.inr (.inr (.inr (fun _ => none)))))) ⟨hl, hwf, hlo, hst.2, hn, hP, hD, hS⟩ (by omega) (fun _ => ⟨hz, hz2⟩) he hP1 hD1 hS1)
  rw [List.map_cons, jmap_ext hst.2, jtr_at (by omega) (by have : (0 : Int) ≤ (S.1.1 : Int) := Int.natCast_nonneg _; omega)] at K
  have e1 : jadn ad (gN S.1) w ((S.1.1 : Nat) : Int) = w := jadn_eq
  rw [e1] at K
  unfold jW at K
  rw [hN, hM, show gN S.1 + 1 - xk Γ = gN S.1 - xk Γ + 1 by omega, show gM S.1 + z.toNat - xj Γ = gM S.1 - xj Γ + z.toNat by omega] at K
  exact K
theorem sNewQ {Γ : jCtx} {own : Nat} {cc : ByteArray} {ce : jC} {rF : Int × jS} (C : jCx Γ own cc) : jSimM Γ own cc ce rF hNewQ (oNewA 3) := by
  intro a b t pc loc st S k hc ho hm hk
  unfold hNewQ at hc
  simp only [Bool.and_eq_true, decide_eq_true_eq] at hc
  obtain ⟨hdg, hq⟩ := hc
  unfold oNewA at ho
  split at ho
  case h_2 => cases ho
  rename_i z rest
  split at ho
  case isFalse => cases ho
  rename_i hz
  split at ho
  case isFalse => cases ho
  rename_i hz2
  rcases hq with ⟨hq, hlk⟩ | ⟨hq, hlk⟩
  · rw [hq] at ho
    exact jnewQ C ⟨C.2.2.2.2.2.2.2.2.2.1.2.1, C.2.2.2.2.2.2.2.2.2.1.2.2.1⟩ (Or.inl ⟨rfl, rfl, rfl⟩) hlk hdg hz hz2 ho hm hk
  · rw [hq] at ho
    exact jnewQ C ⟨C.2.2.2.2.2.2.2.2.2.1.2.1, C.2.2.2.2.2.2.2.2.2.1.2.2.1⟩ (Or.inr ⟨rfl, rfl, rfl⟩) hlk hdg hz hz2 ho hm hk
/-- aaload -/
def hAald : jH := fun _ cc pc a b _ => dc cc pc .aaload 1 && decide ((a = 27 ∧ b = 11) ∨ (a = 28 ∧ b = 13) ∨ (a = 29 ∧ b = 24))
theorem sAald {Γ : jCtx} {own : Nat} {cc : ByteArray} {ce : jC} {rF : Int × jS} (C : jCx Γ own cc) : jSim Γ own cc ce rF hAald oAald := by
  intro a b t pc loc st S k hc ho hk
  unfold hAald at hc
  simp only [Bool.and_eq_true, decide_eq_true_eq] at hc
  obtain ⟨hdg, hab⟩ := hc
  unfold oAald at ho
  split at ho
  case h_2 => cases ho
  rename_i i u r rest
  split at ho
  case isFalse => cases ho
  rename_i hu
  split at ho
  case isFalse => cases ho
  rename_i hr
  split at ho
  case isFalse => cases ho
  rename_i hi
  split at ho
  case isFalse => cases ho
  rename_i hi2
  have hq : ∃ q : Nat, u = 10 + q ∧ 17 ≤ q ∧ q ≤ 19 ∧ jel q = b.toNat := by
    rcases hab with ⟨e1, e2⟩ | ⟨e1, e2⟩ | ⟨e1, e2⟩ <;> subst e1 <;> subst e2
    · exact ⟨17, hu, by omega, by omega, rfl⟩
    · exact ⟨18, hu, by omega, by omega, rfl⟩
    · exact ⟨19, hu, by omega, by omega, rfl⟩
  obtain ⟨q, hq1, hq2, hq3, hq4⟩ := hq
  have hb10 : 10 ≤ b.toNat ∧ b.toNat ≤ 29 := by omega
  intro ls H locs ad ⟨hl, hwf, hlo, hst, hn, hP, hD, hS⟩
  have hst := List.forall_mem_cons.mp hst
  have hsx := List.forall_mem_cons.mp hst.2
  obtain ⟨hrn, hrk⟩ := jok_at (q := q) hsx.1 hq1 (by omega) hr
  obtain ⟨hln, hel⟩ := jln_ok hwf hr hrn hrk (by omega)
  have hi32 : j32 i := hst.1.1 rfl
  have hw := (hel i hi hi2).2 (by rw [hq4]; exact hb10.1)
  rw [hq4] at hw
  have K := hk _ _ _ _ ho ls H locs ad ⟨hl, hwf, hlo, List.forall_mem_cons.mpr ⟨jok_rf hb10.1 hb10.2 hw, hsx.2⟩, hn, hP, hD, hS⟩
  rw [List.map_cons, jtr_ref hb10.1] at K
  rw [List.map_cons, List.map_cons, jtr_at (t := u) (by omega) (by omega)]
  have hin : vp_in (Int32.ofInt i) (gL S.1 r).toNat := in32 hi32 hi (by omega)
  have hcl : (Int32.ofInt i).toNatClampNeg = i.toNat := cl32 hi32
  have hlt : (Int32.ofInt i).toNatClampNeg < (gL S.1 r).toNat := Nat.not_le.mp fun q => hin (Or.inr q)
  have ha := jw_refs (cy := xy Γ) (ad := ad) hr hrn hrk hq2
  have hty : ∃ (t0 : Nat) (ty : FieldType), (jtys (xy Γ))[t0]? = some (xy Γ q, ty) ∧ refKind ty = true := by
    rcases (show q = 17 ∨ q = 18 ∨ q = 19 by omega) with e | e | e <;> subst e
    · exact ⟨4, _, rfl, rfl⟩
    · exact ⟨5, _, rfl, rfl⟩
    · exact ⟨6, _, rfl, rfl⟩
  obtain ⟨t0, ty, ht0, hrk2⟩ := hty
  refine W.aald (v := va_rf (jref ad (gR S.1 r ((Int32.ofInt i).toNatClampNeg : Nat)))) (ty := ty) C.1 C.2.1 (hP r.toNat _ ha) ((C.2.2.2.2.2.1.2 t0 _ ht0).1 (gL S.1 r).toNat (fun j => va_rf (jref ad (gR S.1 r j)))) hrk2 (fun q => by cases q) (by show ¬ (Int32.ofInt i < 0 ∨ (arrV _ _ _).slots.size ≤ _); rw [arrV_size]; exact hin) (by show (arrV _ _ _).slots[_]? = _; rw [arrV_read _ _ hlt]) rfl rfl (dc_ok hdg) ?_
  rw [hcl, Int.toNat_of_nonneg hi]
  exact K
