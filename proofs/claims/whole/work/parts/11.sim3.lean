/-! lookupswitch, fields, arrays -/
def hLook : jH := fun _ cc pc a _ t => (match decode cc pc with
  | .ok (.lookupswitch d ps, _) => decide (pc + d = a) && (decide (0 ≤ a) && (decide (ps.toList.flatMap (fun x => [x.1, (pc : Int) + x.2]) = t) && ((ps.toList.zip (ps.toList.drop 1)).all (fun (x, y) => x.1 < y.1) && ps.toList.all (fun x => decide (0 ≤ (pc : Int) + x.2)))))
  | _ => false)
theorem jlk_spec {k : Nat → jR} {z d a : Int} {pc : Nat} {rF : Int × jS} (hd : (pc : Int) + d = a) (ha : 0 ≤ a) : ∀ (l : List (Int × Int)), (l.all (fun x => decide (0 ≤ (pc : Int) + x.2)) = true) → jlk k z a (l.flatMap (fun x => [x.1, (pc : Int) + x.2])) = some rF → ∃ tgt : Nat, (pc : Int) + Op.lookupswitch.offset l d z = (tgt : Int) ∧ k tgt = some rF
  | [], _, h => ⟨a.toNat, by show (pc : Int) + d = _; omega, h⟩
  | (x, y) :: l, hp, h => by
    simp only [List.all_cons, Bool.and_eq_true, decide_eq_true_eq] at hp
    have h' : (if z = x then k ((pc : Int) + y).toNat else jlk k z a (l.flatMap (fun x => [x.1, (pc : Int) + x.2]))) = some rF := h
    rw [Op.lookupswitch.offset_cons]
    by_cases e : z = x
    · rw [if_pos e] at h'
      rw [if_pos e.symm]
      exact ⟨_, by omega, h'⟩
    · rw [if_neg e] at h'
      rw [if_neg (fun q => e q.symm)]
      exact jlk_spec hd ha l hp.2 h'
theorem sLook {Γ : jCtx} {own : Nat} {cc : ByteArray} {ce : jC} {rF : Int × jS} (C : jCx Γ own cc) : jSim Γ own cc ce rF hLook oLook := by
  intro a b t pc loc st S k hc ho hk
  unfold hLook at hc
  split at hc
  case h_2 => cases hc
  rename_i d ps ln hdg
  simp only [Bool.and_eq_true] at hc
  obtain ⟨h2, h3, h4, h5, h6⟩ := hc
  have h4 := of_decide_eq_true h4
  unfold oLook at ho
  split at ho
  case h_2 => cases ho
  rename_i z r
  intro ls H locs ad ⟨hl, hwf, hlo, hst, hn, hP, hD, hS⟩
  have hst := List.forall_mem_cons.mp hst
  have hz : j32 z := hst.1.1 rfl
  rw [← h4] at ho
  obtain ⟨tgt, g1, g2⟩ := jlk_spec (of_decide_eq_true h2) (of_decide_eq_true h3) _ h6 ho
  refine lv_lookup C.1 C.2.1 hdg h5 (off := Op.lookupswitch.offset ps.toList d z) (by rw [t32 hz]) (tgt := tgt) g1 ?_
  exact hk _ _ _ _ g2 ls H locs ad ⟨hl, hwf, hlo, hst.2, hn, hP, hD, hS⟩
/-- a reference of a kind that isn't null -/
theorem jok_at {S : jS} {t q : Nat} {z : Int} (h : jok S (t, z)) (ht : t = 10 + q) (hq : q ≤ 19) (hz : 0 ≤ z) : z < gN S.1 ∧ gK S.1 z = q := by
  subst ht
  have h1 := h.2.2.1 (show 10 ≤ 10 + q by omega) (show 10 + q ≤ 29 by omega)
  rcases h1 with h1 | h1
  · dsimp only at h1; omega
  · refine ⟨h1.2.1, ?_⟩
    have h2 := h1.2.2
    rw [h2]
    dsimp only
    omega
theorem jok_rf {S : jS} {t : Nat} {z : Int} (h1 : 10 ≤ t) (h2 : t ≤ 29) (h : jokr S (t - 10) z) : jok S (t, z) :=
  ⟨fun q => by dsimp only at q; omega, fun q => by dsimp only at q; omega, fun _ _ => h, fun q => by dsimp only at q; omega, fun _ => by dsimp only; rcases h with h | h <;> omega⟩
theorem jok_num {S : jS} {tc : Nat} {z : Int} (h : jnum tc z) (ht : tc ≤ 3) : jok S ((if tc = 1 then 1 else 0), z) := by
  by_cases e : tc = 1
  · rw [if_pos e]
    exact jok_l (h.2.1 e)
  · rw [if_neg e]
    refine jok_i ?_
    rcases (show tc = 0 ∨ tc = 2 ∨ tc = 3 by omega) with q | q | q
    · exact h.1 q
    · have := h.2.2.1 q
      unfold j32
      omega
    · have := h.2.2.2 q
      unfold j32
      omega
theorem jok_G {S S' : jS} {v : jV} (hN : gN S'.1 = gN S.1) (hK : gK S'.1 = gK S.1) (h : jok S v) : jok S' v := by
  unfold jok jokr at *
  rw [hN, hK]
  exact h
theorem jWF_up {S : jS} {r j z : Int} (h : jWF S) (hr : 0 ≤ r) (ho : gK S.1 r ≤ 12 → ∀ i : Nat, (i : Int) = j → i < jnf.getD (gK S.1 r) 0 → jnum (jty (gK S.1 r) i) z) (ha : 13 ≤ gK S.1 r → jnum (jel (gK S.1 r)) z) : jWF (S.1, jup S.2 r j z) := by
  intro k hk
  obtain ⟨h1, h2, h3⟩ := h k hk
  refine ⟨h1, fun q i hi => ?_, fun q => ⟨(h3 q).1, fun i hi => ?_⟩⟩
  · obtain ⟨g1, g2⟩ := h2 q i hi
    refine ⟨?_, g2⟩
    show jnum (jty (gK S.1 k) i) (jup S.2 r j z k i)
    by_cases e : (k : Int) = r
    · subst e
      by_cases e2 : (i : Int) = j
      · rw [e2, jup_eq]
        exact ho q i e2 hi
      · rw [jup_j e2]
        exact g1
    · rw [jup_k e]
      exact g1
  · obtain ⟨g1, g2⟩ := (h3 q).2 i hi
    refine ⟨?_, g2⟩
    show jnum (jel (gK S.1 k)) (jup S.2 r j z k i)
    by_cases e : (k : Int) = r
    · subst e
      by_cases e2 : (i : Int) = j
      · rw [e2, jup_eq]
        exact ha q
      · rw [jup_j e2]
        exact g1
    · rw [jup_k e]
      exact g1
theorem jWF_rf {S : jS} {r j z : Int} (h : jWF S) (hr : 0 ≤ r) (ho : gK S.1 r ≤ 12 → ∀ i : Nat, (i : Int) = j → i < jnf.getD (gK S.1 r) 0 → jokr S (jty (gK S.1 r) i - 10) z) (ha : 13 ≤ gK S.1 r → jokr S (jel (gK S.1 r) - 10) z) : jWF (jsetR S r j z) := by
  intro k hk
  obtain ⟨h1, h2, h3⟩ := h k hk
  refine ⟨h1, fun q i hi => ?_, fun q => ⟨(h3 q).1, fun i hi => ?_⟩⟩
  · obtain ⟨g1, g2⟩ := h2 q i hi
    refine ⟨g1, fun w => ?_⟩
    show jokr S (jty (gK S.1 k) i - 10) (jup (gR S.1) r j z k i)
    by_cases e : (k : Int) = r
    · subst e
      by_cases e2 : (i : Int) = j
      · rw [e2, jup_eq]
        exact ho q i e2 hi
      · rw [jup_j e2]
        exact g2 w
    · rw [jup_k e]
      exact g2 w
  · obtain ⟨g1, g2⟩ := (h3 q).2 i hi
    refine ⟨g1, fun w => ?_⟩
    show jokr S (jel (gK S.1 k) - 10) (jup (gR S.1) r j z k i)
    by_cases e : (k : Int) = r
    · subst e
      by_cases e2 : (i : Int) = j
      · rw [e2, jup_eq]
        exact ha q
      · rw [jup_j e2]
        exact g2 w
    · rw [jup_k e]
      exact g2 w
theorem jrf_lt {S : jS} {r j z : Int} {q : Nat} (h : ∀ i j : Int, gR S.1 i j < gN S.1) (hz : jokr S q z) : ∀ a b : Int, gR (jsetR S r j z).1 a b < gN (jsetR S r j z).1 := by
  intro a b
  show jup (gR S.1) r j z a b < gN S.1
  unfold jup
  split
  · split
    · rcases hz with q | q <;> omega
    · exact h a b
  · exact h a b
def hFld (own : Nat) (a b : Int) (t : List Int) : Option Nat := match jfl[b.toNat]? with
  | some (o, i, c, j) => if o = own ∧ c = (t.getD 0 0).toNat ∧ (j : Int) = a then some i else none
  | none => none
theorem hFld_ok {own : Nat} {a b : Int} {t : List Int} {i : Nat} (h : hFld own a b t = some i) : ∃ j : Nat, (j : Int) = a ∧ (t.getD 0 0).toNat ≤ 12 ∧ j < jnf.getD (t.getD 0 0).toNat 0 ∧ Cond.fieldLink (jcn.getD own "") i (jcn.getD (t.getD 0 0).toNat "") ((jFT (t.getD 0 0).toNat) j).2.1 ((jFT (t.getD 0 0).toNat) j).2.2.1 ∈ jtbl := by
  unfold hFld at h
  split at h
  case h_2 => cases h
  rename_i o i' c j hq
  split at h
  case isFalse => cases h
  rename_i e
  obtain ⟨e1, e2, e3⟩ := e
  cases h
  obtain ⟨g1, g2, g3⟩ := fl_ok hq
  unfold jfw at g1
  dsimp only at g1 g2 g3
  rw [e1, e2] at g1
  rw [e2] at g2 g3
  exact ⟨j, e3, g2, g3, g1⟩
theorem same_fld {s : State} {c j : Nat} (hc : c ≤ 12) (hj : j < jnf.getD c 0) (x : ClassId × Class × Nat × Field) (h : s.fieldFound? ((jFT c) j).1 ((jFT c) j).2.1 ((jFT c) j).2.2.1 = some x) : s.fieldFound? (jcn.getD c "") ((jFT c) j).2.1 ((jFT c) j).2.2.1 = some x := by
  rw [dl_ok' c (by omega) j hj] at h
  exact h
def hGet : jH := fun own cc pc a b t => match hFld own a b t with
  | some i => dc cc pc (.getfield i) 3 && (decide (jty (t.getD 0 0).toNat a.toNat ≤ 2) && decide ((t.getD 1 0).toNat = if jty (t.getD 0 0).toNat a.toNat = 1 then 1 else 0))
  | none => false
theorem sGet {Γ : jCtx} {own : Nat} {cc : ByteArray} {ce : jC} {rF : Int × jS} (C : jCx Γ own cc) : jSim Γ own cc ce rF hGet oGet := by
  intro a b t pc loc st S k hc ho hk
  unfold hGet at hc
  split at hc
  case h_2 => cases hc
  rename_i i hf
  simp only [Bool.and_eq_true, decide_eq_true_eq] at hc
  obtain ⟨hdg, ht2, htag⟩ := hc
  obtain ⟨j, rfl, hcl, hj, hlink⟩ := hFld_ok hf
  rw [Int.toNat_natCast] at ht2 htag
  unfold oGet at ho
  split at ho
  case h_2 => cases ho
  rename_i u r rest
  split at ho
  case isFalse => cases ho
  rename_i hu
  split at ho
  case isFalse => cases ho
  rename_i hr
  generalize (t.getD 0 0).toNat = cn at *
  intro ls H locs ad ⟨hl, hwf, hlo, hst, hn, hP, hD, hS⟩
  have hst := List.forall_mem_cons.mp hst
  obtain ⟨hrn, hrk⟩ := jok_at hst.1 hu (by omega) hr
  have hw := (hwf r.toNat (by omega)).2.1
  rw [Int.toNat_of_nonneg hr, hrk] at hw
  have hw := hw hcl j
  rw [Int.toNat_of_nonneg hr, hrk] at hw
  have hw := (hw hj).1
  have K := hk _ _ _ _ ho ls H locs ad ⟨hl, hwf, hlo, List.forall_mem_cons.mpr ⟨by rw [htag]; exact jok_num hw (by omega), hst.2⟩, hn, hP, hD, hS⟩
  rw [List.map_cons] at K ⊢
  rw [jtr_at (t := u) (by omega) (by omega)]
  refine va_get (D := xD Γ) (ci := cn) (C := jcn.getD cn "") (T := jFT cn) (N := jnf.getD cn 0) (own := jcn.getD own "") (ref := jcn.getD cn "") C.1 C.2.1 C.2.2.2.2.1 (lay_ok hcl) C.2.2.2.1 C.2.2.2.2.2.1 hP r.toNat (jw_obj hr hrn hrk hcl) (cls_ok cn hcl) j hj (C.2.2.2.2.1 _ hlink) (same_fld hcl hj) (jfs_get hj) (dc_ok hdg) ?_
  have e : jfv ad S r.toNat cn j = jtr ad ((t.getD 1 0).toNat, S.2 r j) := by
    unfold jfv jtr
    rw [htag, Int.toNat_of_nonneg hr]
    by_cases e1 : jty cn j = 1
    · rw [if_pos e1, if_pos e1]; rfl
    · rw [if_neg e1, if_neg e1, if_pos ht2]; rfl
  rw [e]
  exact K
def hGetR : jH := fun own cc pc a b t => match hFld own a b t with
  | some i => dc cc pc (.getfield i) 3 && decide ((t.getD 1 0).toNat = jty (t.getD 0 0).toNat a.toNat ∧ 10 ≤ jty (t.getD 0 0).toNat a.toNat)
  | none => false
theorem sGetR {Γ : jCtx} {own : Nat} {cc : ByteArray} {ce : jC} {rF : Int × jS} (C : jCx Γ own cc) : jSim Γ own cc ce rF hGetR oGetR := by
  intro a b t pc loc st S k hc ho hk
  unfold hGetR at hc
  split at hc
  case h_2 => cases hc
  rename_i i hf
  simp only [Bool.and_eq_true, decide_eq_true_eq] at hc
  obtain ⟨hdg, htag, ht2⟩ := hc
  obtain ⟨j, rfl, hcl, hj, hlink⟩ := hFld_ok hf
  rw [Int.toNat_natCast] at ht2 htag
  unfold oGetR at ho
  split at ho
  case h_2 => cases ho
  rename_i u r rest
  split at ho
  case isFalse => cases ho
  rename_i hu
  split at ho
  case isFalse => cases ho
  rename_i hr
  generalize (t.getD 0 0).toNat = cn at *
  intro ls H locs ad ⟨hl, hwf, hlo, hst, hn, hP, hD, hS⟩
  have hst := List.forall_mem_cons.mp hst
  obtain ⟨hrn, hrk⟩ := jok_at hst.1 hu (by omega) hr
  have hw := (hwf r.toNat (by omega)).2.1
  rw [Int.toNat_of_nonneg hr, hrk] at hw
  have hw := hw hcl j
  rw [Int.toNat_of_nonneg hr, hrk] at hw
  have hw := (hw hj).2 ht2
  have ht29 : jty cn j ≤ 29 := by
    rcases tc_ok' cn (by omega) j hj with q | q <;> omega
  have K := hk _ _ _ _ ho ls H locs ad ⟨hl, hwf, hlo, List.forall_mem_cons.mpr ⟨by rw [htag]; exact jok_rf ht2 ht29 hw, hst.2⟩, hn, hP, hD, hS⟩
  rw [List.map_cons] at K ⊢
  rw [jtr_at (t := u) (by omega) (by omega)]
  refine va_get (D := xD Γ) (ci := cn) (C := jcn.getD cn "") (T := jFT cn) (N := jnf.getD cn 0) (own := jcn.getD own "") (ref := jcn.getD cn "") C.1 C.2.1 C.2.2.2.2.1 (lay_ok hcl) C.2.2.2.1 C.2.2.2.2.2.1 hP r.toNat (jw_obj hr hrn hrk hcl) (cls_ok cn hcl) j hj (C.2.2.2.2.1 _ hlink) (same_fld hcl hj) (jfs_get hj) (dc_ok hdg) ?_
  have e : jfv ad S r.toNat cn j = jtr ad ((t.getD 1 0).toNat, gR S.1 r j) := by
    rw [htag, jtr_ref ht2]
    unfold jfv
    rw [Int.toNat_of_nonneg hr, if_neg (by omega), if_neg (by omega)]
  rw [e]
  exact K
theorem jfs_len {ad : Int → Nat} {S : jS} {k c : Nat} : (jfs ad S k c).length = jnf.getD c 0 := by
  unfold jfs
  rw [List.length_map, List.length_range]
theorem nar_b0 : narrow .boolean (.int (Int32.ofInt 0)) = .int (Int32.ofInt 0) := by decide
theorem nar_b1 : narrow .boolean (.int (Int32.ofInt 1)) = .int (Int32.ofInt 1) := by decide
theorem fit_b0 : fits .boolean (.int (Int32.ofInt 0)) = true := by decide
theorem fit_b1 : fits .boolean (.int (Int32.ofInt 1)) = true := by decide
def hPut : jH := fun own cc pc a b t => match hFld own a b t with
  | some i => dc cc pc (.putfield i) 3 && decide (jty (t.getD 0 0).toNat a.toNat ≤ 1 ∧ (t.getD 1 0).toNat = jty (t.getD 0 0).toNat a.toNat ∧ ((jFT (t.getD 0 0).toNat) a.toNat).2.2.2 = false)
  | none => false
theorem sPut {Γ : jCtx} {own : Nat} {cc : ByteArray} {ce : jC} {rF : Int × jS} (C : jCx Γ own cc) : jSim Γ own cc ce rF hPut oPut := by
  intro a b t pc loc st S k hc ho hk
  unfold hPut at hc
  split at hc
  case h_2 => cases hc
  rename_i i hf
  simp only [Bool.and_eq_true, decide_eq_true_eq] at hc
  obtain ⟨hdg, ht2, htag, hfin⟩ := hc
  obtain ⟨j, rfl, hcl, hj, hlink⟩ := hFld_ok hf
  rw [Int.toNat_natCast] at ht2 htag hfin
  unfold oPut at ho
  split at ho
  case h_2 => cases ho
  rename_i v z u r rest
  split at ho
  case isFalse => cases ho
  rename_i hv
  split at ho
  case isFalse => cases ho
  rename_i hu
  split at ho
  case isFalse => cases ho
  rename_i hr
  generalize (t.getD 0 0).toNat = cn at *
  intro ls H locs ad ⟨hl, hwf, hlo, hst, hn, hP, hD, hS⟩
  have hst := List.forall_mem_cons.mp hst
  have hsx := List.forall_mem_cons.mp hst.2
  obtain ⟨hrn, hrk⟩ := jok_at hsx.1 hu (by omega) hr
  have hvt : v = jty cn j := hv.trans htag
  have hnum : jnum (jty cn j) z := by
    refine ⟨fun q => hst.1.1 (hvt.trans q), fun q => hst.1.2.1 (hvt.trans q), fun q => by omega, fun q => by omega⟩
  have hwf' : jWF (S.1, jup S.2 r j z) := jWF_up hwf hr (fun _ i hi _ => by rw [hrk, show i = j by omega]; exact hnum) (fun q => by rw [hrk] at q; omega)
  have hty := ty_ok hcl j hj
  have e : jtr ad (v, z) = (if jty cn j = 1 then Value.long (Int64.ofInt z) else .int (Int32.ofInt z)) := by
    rcases (show jty cn j = 0 ∨ jty cn j = 1 by omega) with q | q
    · rw [hvt, q]; rfl
    · rw [hvt, q]; rfl
  rw [List.map_cons, List.map_cons]
  rw [jtr_at (t := u) (by omega) (by omega)]
  refine va_put (D := xD Γ) (ci := cn) (v := jtr ad (v, z)) (ty := jTyp (jty cn j)) (C := jcn.getD cn "") (T := jFT cn) (N := jnf.getD cn 0) (own := jcn.getD own "") (ref := jcn.getD cn "") C.1 C.2.1 C.2.2.2.2.1 (lay_ok hcl) (fun k => jTyp (jty cn k)) (ty_ok hcl) (nm_ok cn hcl) C.2.2.2.1 C.2.2.2.2.2.1 hP hD hS r.toNat (jw_obj hr hrn hrk hcl) (cls_ok cn hcl) j hj (C.2.2.2.2.1 _ hlink) (same_fld hcl hj) hfin hty ?_ ?_ (by rw [jfs_len]; exact hj) (dc_ok hdg) (fun H1 locs1 hP1 hD1 hS1 => ?_)
  · rw [e]
    rcases (show jty cn j = 0 ∨ jty cn j = 1 by omega) with q | q
    · rw [q]; rfl
    · rw [q]; rfl
  · rw [e]
    rcases (show jty cn j = 0 ∨ jty cn j = 1 by omega) with q | q
    · rw [q]; rfl
    · rw [q]; rfl
  · rw [jw_setX hr hrn hrk hcl hj e (by omega)] at hP1 hD1
    exact hk _ _ _ _ ho ls H1 locs1 ad ⟨hl, hwf', hlo, hsx.2, hn, hP1, hD1, hS1⟩
def hPutZ : jH := fun own cc pc a b t => match hFld own a b t with
  | some i => dc cc pc (.putfield i) 3 && decide (jty (t.getD 0 0).toNat a.toNat = 2 ∧ ((jFT (t.getD 0 0).toNat) a.toNat).2.2.2 = false)
  | none => false
theorem sPutZ {Γ : jCtx} {own : Nat} {cc : ByteArray} {ce : jC} {rF : Int × jS} (C : jCx Γ own cc) : jSim Γ own cc ce rF hPutZ oPutZ := by
  intro a b t pc loc st S k hc ho hk
  unfold hPutZ at hc
  split at hc
  case h_2 => cases hc
  rename_i i hf
  simp only [Bool.and_eq_true, decide_eq_true_eq] at hc
  obtain ⟨hdg, ht2, hfin⟩ := hc
  obtain ⟨j, rfl, hcl, hj, hlink⟩ := hFld_ok hf
  rw [Int.toNat_natCast] at ht2 hfin
  unfold oPutZ at ho
  split at ho
  case h_2 => cases ho
  rename_i v z u r rest
  split at ho
  case isFalse => cases ho
  rename_i hv
  subst hv
  split at ho
  case isFalse => cases ho
  rename_i hu
  split at ho
  case isFalse => cases ho
  rename_i hr
  have hz : (z = 0 ∨ z = 1) ∧ k (pc + 3) loc rest (S.1, jup S.2 r j z) = some rF := by
    by_cases e : z = 0
    · rw [if_pos e] at ho
      rw [e]
      exact ⟨Or.inl rfl, ho⟩
    · rw [if_neg e] at ho
      by_cases e2 : z = 1
      · rw [if_pos e2] at ho
        rw [e2]
        exact ⟨Or.inr rfl, ho⟩
      · rw [if_neg e2] at ho
        cases ho
  obtain ⟨hz, ho⟩ := hz
  generalize (t.getD 0 0).toNat = cn at *
  intro ls H locs ad ⟨hl, hwf, hlo, hst, hn, hP, hD, hS⟩
  have hst := List.forall_mem_cons.mp hst
  have hsx := List.forall_mem_cons.mp hst.2
  obtain ⟨hrn, hrk⟩ := jok_at hsx.1 hu (by omega) hr
  have hnum : jnum (jty cn j) z := ⟨fun q => by omega, fun q => by omega, fun q => hz, fun q => by omega⟩
  have hwf' : jWF (S.1, jup S.2 r j z) := jWF_up hwf hr (fun _ i hi _ => by rw [hrk, show i = j by omega]; exact hnum) (fun q => by rw [hrk] at q; omega)
  have hty := ty_ok hcl j hj
  rw [List.map_cons, List.map_cons]
  rw [jtr_at (t := u) (by omega) (by omega)]
  refine va_put (D := xD Γ) (ci := cn) (v := .int (Int32.ofInt z)) (ty := jTyp (jty cn j)) (C := jcn.getD cn "") (T := jFT cn) (N := jnf.getD cn 0) (own := jcn.getD own "") (ref := jcn.getD cn "") C.1 C.2.1 C.2.2.2.2.1 (lay_ok hcl) (fun k => jTyp (jty cn k)) (ty_ok hcl) (nm_ok cn hcl) C.2.2.2.1 C.2.2.2.2.2.1 hP hD hS r.toNat (jw_obj hr hrn hrk hcl) (cls_ok cn hcl) j hj (C.2.2.2.2.1 _ hlink) (same_fld hcl hj) hfin hty ?_ ?_ (by rw [jfs_len]; exact hj) (dc_ok hdg) (fun H1 locs1 hP1 hD1 hS1 => ?_)
  · rw [ht2]
    rcases hz with q | q
    · rw [q]; exact nar_b0
    · rw [q]; exact nar_b1
  · rw [ht2]
    rcases hz with q | q
    · rw [q]; exact fit_b0
    · rw [q]; exact fit_b1
  · rw [jw_setX hr hrn hrk hcl hj (x := z) (by rw [if_neg (by omega)]) (by omega)] at hP1 hD1
    exact hk _ _ _ _ ho ls H1 locs1 ad ⟨hl, hwf', hlo, hsx.2, hn, hP1, hD1, hS1⟩
def hPutR : jH := fun own cc pc a b t => match hFld own a b t with
  | some i => dc cc pc (.putfield i) 3 && decide (10 ≤ jty (t.getD 0 0).toNat a.toNat ∧ (t.getD 1 0).toNat = jty (t.getD 0 0).toNat a.toNat ∧ ((jFT (t.getD 0 0).toNat) a.toNat).2.2.2 = false)
  | none => false
theorem sPutR {Γ : jCtx} {own : Nat} {cc : ByteArray} {ce : jC} {rF : Int × jS} (C : jCx Γ own cc) : jSim Γ own cc ce rF hPutR oPutR := by
  intro a b t pc loc st S k hc ho hk
  unfold hPutR at hc
  split at hc
  case h_2 => cases hc
  rename_i i hf
  simp only [Bool.and_eq_true, decide_eq_true_eq] at hc
  obtain ⟨hdg, ht2, htag, hfin⟩ := hc
  obtain ⟨j, rfl, hcl, hj, hlink⟩ := hFld_ok hf
  rw [Int.toNat_natCast] at ht2 htag hfin
  unfold oPutR at ho
  split at ho
  case h_2 => cases ho
  rename_i v z u r rest
  split at ho
  case isFalse => cases ho
  rename_i hv
  split at ho
  case isFalse => cases ho
  rename_i hu
  split at ho
  case isFalse => cases ho
  rename_i hr
  generalize (t.getD 0 0).toNat = cn at *
  intro ls H locs ad ⟨hl, hwf, hlo, hst, hn, hP, hD, hS⟩
  have hst := List.forall_mem_cons.mp hst
  have hsx := List.forall_mem_cons.mp hst.2
  obtain ⟨hrn, hrk⟩ := jok_at hsx.1 hu (by omega) hr
  have ht29 : jty cn j ≤ 29 := by
    rcases tc_ok' cn (by omega) j hj with q | q <;> omega
  have hvt : v = jty cn j := hv.trans htag
  have hzr : jokr S (jty cn j - 10) z := by
    have q := hst.1.2.2.1 (by rw [hvt]; exact ht2) (by rw [hvt]; exact ht29)
    rw [hvt] at q
    exact q
  have hwf' : jWF (jsetR S r j z) := jWF_rf hwf hr (fun _ i hi _ => by rw [hrk, show i = j by omega]; exact hzr) (fun q => by rw [hrk] at q; omega)
  have hty := ty_ok hcl j hj
  have e : jtr ad (v, z) = va_rf (jref ad z) := jtr_ref (by omega)
  have hvv : va_rf (jref ad z) = .null ∨ ∃ x, va_rf (jref ad z) = .ref x := by
    unfold jref
    by_cases q : z = -1
    · rw [if_pos q]; exact Or.inl rfl
    · rw [if_neg q]; exact Or.inr ⟨_, rfl⟩
  have hob : (∃ C0, jTyp (jty cn j) = .object C0) ∨ ∃ C0, jTyp (jty cn j) = .array C0 := by
    generalize jty cn j = y at ht2 ht29
    have hy : y ∈ List.range 30 := List.mem_range.mpr (by omega)
    revert hy ht2
    unfold jTyp
    split <;> intro h1 h2 <;> first | omega | exact Or.inr ⟨_, rfl⟩ | exact Or.inl ⟨_, rfl⟩
  rw [List.map_cons, List.map_cons]
  rw [jtr_at (t := u) (by omega) (by omega), e]
  refine va_put (D := xD Γ) (ci := cn) (v := va_rf (jref ad z)) (ty := jTyp (jty cn j)) (C := jcn.getD cn "") (T := jFT cn) (N := jnf.getD cn 0) (own := jcn.getD own "") (ref := jcn.getD cn "") C.1 C.2.1 C.2.2.2.2.1 (lay_ok hcl) (fun k => jTyp (jty cn k)) (ty_ok hcl) (nm_ok cn hcl) C.2.2.2.1 C.2.2.2.2.2.1 hP hD hS r.toNat (jw_obj hr hrn hrk hcl) (cls_ok cn hcl) j hj (C.2.2.2.2.1 _ hlink) (same_fld hcl hj) hfin hty ?_ ?_ (by rw [jfs_len]; exact hj) (dc_ok hdg) (fun H1 locs1 hP1 hD1 hS1 => ?_)
  · rcases hob with ⟨C0, q⟩ | ⟨C0, q⟩ <;> rcases hvv with w | ⟨x, w⟩ <;> rw [q, w] <;> rfl
  · rcases hob with ⟨C0, q⟩ | ⟨C0, q⟩ <;> rcases hvv with w | ⟨x, w⟩ <;> rw [q, w] <;> rfl
  · rw [jw_setR hr hrn hrk hcl hj (by omega)] at hP1 hD1
    exact hk _ _ _ _ ho ls H1 locs1 ad ⟨hl, hwf', fun w h => jok_G rfl rfl (hlo w h), fun w h => jok_G rfl rfl (hsx.2 w h), ⟨hn.1, hn.2.1, hn.2.2.1, jrf_lt hn.2.2.2.1 hzr, hn.2.2.2.2⟩, hP1, hD1, hS1⟩
def hPutF : jH := fun own cc pc a b t => match hFld own a b t with
  | some i => dc cc pc (.putfield i) 3 && decide (10 ≤ jty (t.getD 0 0).toNat a.toNat ∧ (t.getD 1 0).toNat = jty (t.getD 0 0).toNat a.toNat ∧ ((jFT (t.getD 0 0).toNat) a.toNat).2.2.2 = true ∧ (t.getD 0 0).toNat = own)
  | none => false
theorem sPutF {Γ : jCtx} {own : Nat} {cc : ByteArray} {ce : jC} {rF : Int × jS} (C : jCx Γ own cc) (hI : (xM Γ).name = "<init>") : jSim Γ own cc ce rF hPutF oPutR := by
  intro a b t pc loc st S k hc ho hk
  unfold hPutF at hc
  split at hc
  case h_2 => cases hc
  rename_i i hf
  simp only [Bool.and_eq_true, decide_eq_true_eq] at hc
  obtain ⟨hdg, ht2, htag, hfin, hown2⟩ := hc
  obtain ⟨j, rfl, hcl, hj, hlink⟩ := hFld_ok hf
  rw [Int.toNat_natCast] at ht2 htag hfin
  unfold oPutR at ho
  split at ho
  case h_2 => cases ho
  rename_i v z u r rest
  split at ho
  case isFalse => cases ho
  rename_i hv
  split at ho
  case isFalse => cases ho
  rename_i hu
  split at ho
  case isFalse => cases ho
  rename_i hr
  generalize (t.getD 0 0).toNat = cn at *
  intro ls H locs ad ⟨hl, hwf, hlo, hst, hn, hP, hD, hS⟩
  have hst := List.forall_mem_cons.mp hst
  have hsx := List.forall_mem_cons.mp hst.2
  obtain ⟨hrn, hrk⟩ := jok_at hsx.1 hu (by omega) hr
  have ht29 : jty cn j ≤ 29 := by
    rcases tc_ok' cn (by omega) j hj with q | q <;> omega
  have hvt : v = jty cn j := hv.trans htag
  have hzr : jokr S (jty cn j - 10) z := by
    have q := hst.1.2.2.1 (by rw [hvt]; exact ht2) (by rw [hvt]; exact ht29)
    rw [hvt] at q
    exact q
  have hwf' : jWF (jsetR S r j z) := jWF_rf hwf hr (fun _ i hi _ => by rw [hrk, show i = j by omega]; exact hzr) (fun q => by rw [hrk] at q; omega)
  have hty := ty_ok hcl j hj
  have e : jtr ad (v, z) = va_rf (jref ad z) := jtr_ref (by omega)
  have hvv : va_rf (jref ad z) = .null ∨ ∃ x, va_rf (jref ad z) = .ref x := by
    unfold jref
    by_cases q : z = -1
    · rw [if_pos q]; exact Or.inl rfl
    · rw [if_neg q]; exact Or.inr ⟨_, rfl⟩
  have hob : (∃ C0, jTyp (jty cn j) = .object C0) ∨ ∃ C0, jTyp (jty cn j) = .array C0 := by
    generalize jty cn j = y at ht2 ht29
    have hy : y ∈ List.range 30 := List.mem_range.mpr (by omega)
    revert hy ht2
    unfold jTyp
    split <;> intro h1 h2 <;> first | omega | exact Or.inr ⟨_, rfl⟩ | exact Or.inl ⟨_, rfl⟩
  rw [List.map_cons, List.map_cons]
  rw [jtr_at (t := u) (by omega) (by omega), e]
  refine va_putF (D := xD Γ) (ci := cn) (v := va_rf (jref ad z)) (ty := jTyp (jty cn j)) (C := jcn.getD cn "") (T := jFT cn) (N := jnf.getD cn 0) (own := jcn.getD own "") (ref := jcn.getD cn "") C.1 C.2.1 C.2.2.2.2.1 (lay_ok hcl) (fun k => jTyp (jty cn k)) (ty_ok hcl) (nm_ok cn hcl) C.2.2.2.1 C.2.2.2.2.2.1 hP hD hS r.toNat (jw_obj hr hrn hrk hcl) (cls_ok cn hcl) j hj (C.2.2.2.2.1 _ hlink) (same_fld hcl hj) hfin hI (by rw [dl_ok' cn (by omega) j hj, hown2]) hty ?_ ?_ (by rw [jfs_len]; exact hj) (dc_ok hdg) (fun H1 locs1 hP1 hD1 hS1 => ?_)
  · rcases hob with ⟨C0, q⟩ | ⟨C0, q⟩ <;> rcases hvv with w | ⟨x, w⟩ <;> rw [q, w] <;> rfl
  · rcases hob with ⟨C0, q⟩ | ⟨C0, q⟩ <;> rcases hvv with w | ⟨x, w⟩ <;> rw [q, w] <;> rfl
  · rw [jw_setR hr hrn hrk hcl hj (by omega)] at hP1 hD1
    exact hk _ _ _ _ ho ls H1 locs1 ad ⟨hl, hwf', fun w h => jok_G rfl rfl (hlo w h), fun w h => jok_G rfl rfl (hsx.2 w h), ⟨hn.1, hn.2.1, hn.2.2.1, jrf_lt hn.2.2.2.1 hzr, hn.2.2.2.2⟩, hP1, hD1, hS1⟩
