/-! the rest of the plain instructions -/
theorem jcat_sum (ad : Int → Nat) : ∀ st : List jV, ((st.map (jtr ad)).map fun v => v.category).sum = jcat st
  | [] => rfl
  | (t, z) :: r => by
    rw [List.map_cons, List.map_cons, List.sum_cons, jcat_sum ad r]
    show _ = (if t = 1 then 2 else 1) + jcat r
    by_cases e : t = 1
    · rw [if_pos e, jtr_cat2 (show ((t, z) : jV).1 = 1 from e)]
    · rw [if_neg e, jtr_cat (show ((t, z) : jV).1 ≠ 1 from e)]
def hAast : jH := fun _ cc pc a b _ => dc cc pc .aastore 1 && decide ((a = 27 ∧ b = 11) ∨ (a = 28 ∧ b = 13))
theorem sAast {Γ : jCtx} {own : Nat} {cc : ByteArray} {ce : jC} {rF : Int × jS} (C : jCx Γ own cc) : jSim Γ own cc ce rF hAast oAast := by
  intro a b t pc loc st S k hc ho hk
  unfold hAast at hc
  simp only [Bool.and_eq_true, decide_eq_true_eq] at hc
  obtain ⟨hdg, hab⟩ := hc
  unfold oAast at ho
  split at ho
  case h_2 => cases ho
  rename_i v z i u r rest
  split at ho
  case isFalse => cases ho
  rename_i hv
  split at ho
  case isFalse => cases ho
  rename_i hu
  split at ho
  case isFalse => cases ho
  rename_i hr
  split at ho
  case isFalse => cases ho
  rename_i hz
  split at ho
  case isFalse => cases ho
  rename_i hi
  split at ho
  case isFalse => cases ho
  rename_i hi2
  have hq : ∃ q c t0 : Nat, u = 10 + q ∧ v = 10 + c ∧ 17 ≤ q ∧ q ≤ 18 ∧ c ≤ 12 ∧ jel q = 10 + c ∧ (jtys (xy Γ))[t0]? = some (xy Γ q, .object (jcn.getD c "")) := by
    rcases hab with ⟨e1, e2⟩ | ⟨e1, e2⟩ <;> subst e1 <;> subst e2
    · exact ⟨17, 1, 4, hu, hv, by omega, by omega, by omega, rfl, rfl⟩
    · exact ⟨18, 3, 5, hu, hv, by omega, by omega, by omega, rfl, rfl⟩
  obtain ⟨q, c, t0, hq1, hv1, hq2, hq3, hc12, hq4, ht0⟩ := hq
  intro ls H locs ad ⟨hl, hwf, hlo, hst, hn, hP, hD, hS⟩
  have hsv := List.forall_mem_cons.mp hst
  have hst := List.forall_mem_cons.mp hsv.2
  have hsx := List.forall_mem_cons.mp hst.2
  obtain ⟨hrn, hrk⟩ := jok_at (q := q) hsx.1 hq1 (by omega) hr
  obtain ⟨hzn, hzk⟩ := jok_at (q := c) hsv.1 hv1 (by omega) hz
  obtain ⟨hln, hel⟩ := jln_ok hwf hr hrn hrk (by omega)
  have hi32 : j32 i := hst.1.1 rfl
  have hzr : jokr S (jel q - 10) z := Or.inr ⟨hz, hzn, by rw [hzk, hq4]; omega⟩
  have hwf' : jWF (jsetR S r i z) := jWF_rf hwf hr (fun w => by rw [hrk] at w; omega) (fun w => by rw [hrk]; exact hzr)
  rw [List.map_cons, List.map_cons, List.map_cons, jtr_at (t := u) (by omega) (by omega), jtr_at (t := v) (by omega) (by omega)]
  refine va_astq C.1 C.2.1 C.2.2.2.2.2.1 hP hD hS r.toNat t0 z.toNat c (jw_refs hr hrn hrk hq2) (r := (jcn.getD c "", jFT c, jnf.getD c 0)) ht0 (jw_obj hz hzn hzk hc12) (cls_ok c hc12) (in32 hi32 hi (by omega)) (dc_ok hdg) (fun H1 locs1 hP1 hD1 hS1 => ?_)
  have e : some (ad z) = jref ad z := by
    unfold jref
    rw [if_neg (by omega)]
  rw [e, jw_setQ hr hrn hrk hq2 hi (cl32 hi32)] at hP1 hD1
  exact hk _ _ _ _ ho ls H1 locs1 ad ⟨hl, hwf', fun w h => jok_G rfl rfl (hlo w h), fun w h => jok_G rfl rfl (hsx.2 w h), ⟨hn.1, hn.2.1, hn.2.2.1, jrf_lt hn.2.2.2.1 hzr, hn.2.2.2.2⟩, hP1, hD1, hS1⟩
def hObj : jH := fun own cc pc _ b _ => dc cc pc (.invokespecial b.toNat) 3 && decide ((own, b.toNat) ∈ jol)
theorem sObj {Γ : jCtx} {own : Nat} {cc : ByteArray} {ce : jC} {rF : Int × jS} (C : jCx Γ own cc) : jSim Γ own cc ce rF hObj oObj := by
  intro a b t pc loc st S k hc ho hk
  unfold hObj at hc
  simp only [Bool.and_eq_true, decide_eq_true_eq] at hc
  unfold oObj at ho
  split at ho
  case h_2 => cases ho
  rename_i u r rest
  split at ho
  case isFalse => cases ho
  rename_i hu
  split at ho
  case isFalse => cases ho
  rename_i hr
  split at ho
  case isFalse => cases ho
  rename_i hj
  intro ls H locs ad ⟨hl, hwf, hlo, hst, hn, hP, hD, hS⟩
  have hst := List.forall_mem_cons.mp hst
  have K := hk _ _ _ _ ho ls H locs ad ⟨hl, hwf, hlo, hst.2, hn, hP, hD, hS⟩
  rw [List.map_cons, jtr_at (t := u) (by omega) (by omega)]
  have hrm := C.2.2.2.2.2.2.2.2.2.2
  refine W.objInit C.1 C.2.1 C.2.2.2.1 (C.2.2.2.2.1 _ (ol_ok hc.2)) (C.2.2.2.2.1 _ (mi_ok 0 rfl rfl)) (C.2.2.2.2.1 _ (mi_ok 1 rfl rfl)) rfl (by rw [C.2.2.1]; exact hl.1) rfl (dc_ok hc.1) (by omega) ?_ ?_
  · have h8 : 2 * (F0 (xm Γ) pc ls (.ref (ad r) :: rest.map (jtr ad))).monitorRoom + ((rest.map (jtr ad)).map fun v => v.category).sum ≤ 8 := lv_room (by rw [jcat_sum]; exact hj)
    omega
  · exact K
def hNull : jH := fun _ cc pc a _ _ => dc cc pc .aconst_null 1 && decide (a = -1)
theorem sNull {Γ : jCtx} {own : Nat} {cc : ByteArray} {ce : jC} {rF : Int × jS} (C : jCx Γ own cc) : jSim Γ own cc ce rF hNull (oPush 24 1) := by
  intro a b t pc loc st S k hc ho hk
  simp only [hNull, Bool.and_eq_true, decide_eq_true_eq] at hc
  obtain ⟨hdg, rfl⟩ := hc
  intro ls H locs ad ⟨hl, hwf, hlo, hst, hn, hP, hD, hS⟩
  refine lv_null C.1 C.2.1 (dc_ok hdg) ?_
  exact hk _ _ _ _ ho ls H locs ad ⟨hl, hwf, hlo, List.forall_mem_cons.mpr ⟨jok_rf (by omega) (by omega) (Or.inl rfl), hst⟩, hn, hP, hD, hS⟩
def hCopy : jH := fun own cc pc _ b _ => dc cc pc (.invokestatic b.toNat) 3 && decide ((own, b.toNat) ∈ jal)
theorem jw_cpy {cy : Nat → ClassId} {ad : Int → Nat} {S : jS} {s t sp dp n : Int} {a b c : Nat} (h0 : 0 ≤ t) (h : t < gN S.1) (hk : gK S.1 t = 14) (hs : 0 ≤ sp) (hd : 0 ≤ dp) (hn : 0 ≤ n) (ha : a = sp.toNat) (hb : b = dp.toNat) (hc : c = n.toNat) :
    (jwld cy ad S).set t.toNat (ad t, .inl (cy 14, (gL S.1 t).toNat, .inl (va_cpy (fun j => Int32.ofInt (S.2 s j)) (fun j => Int32.ofInt (S.2 t j)) a b c))) = jwld cy ad (S.1, jcpy S.2 s sp t dp n) := by
  refine jw_set (S' := (S.1, jcpy S.2 s sp t dp n)) h0 h rfl ?_ ?_
  · unfold jcell
    rw [Int.toNat_of_nonneg h0]
    dsimp only
    rw [hk, if_neg (by omega), if_neg (by omega), if_pos (by omega)]
    congr 4
    funext j
    unfold jcpy
    rw [if_pos rfl]
    by_cases e : b ≤ j ∧ j < b + c
    · rw [pk_cpy_in e.1 e.2, if_pos (by omega), if_pos (by omega)]
      rw [show ((a + (j - b) : Nat) : Int) = sp + ((j : Int) - dp) by omega]
    · rw [pk_cpy_out (by omega)]
      by_cases e1 : dp ≤ (j : Int)
      · rw [if_pos e1, if_neg (by omega)]
      · rw [if_neg e1]
  · intro k hk hne
    refine jcell_cong rfl rfl (fun j => ?_) (fun j => rfl)
    unfold jcpy
    dsimp only
    rw [if_neg hne]
theorem jWF_cpy {S : jS} {s t sp dp n : Int} (h : jWF S) (hs0 : 0 ≤ s) (hs1 : s < gN S.1) (hsk : gK S.1 s = 14) (ht0 : 0 ≤ t) (htk : gK S.1 t = 14) (h1 : 0 ≤ sp) (h2 : sp + n ≤ gL S.1 s) : jWF (S.1, jcpy S.2 s sp t dp n) := by
  intro k hk
  obtain ⟨g1, g2, g3⟩ := h k hk
  obtain ⟨-, hel⟩ := jln_ok h hs0 hs1 hsk (by omega)
  refine ⟨g1, fun q i hi => ?_, fun q => ⟨(g3 q).1, fun i hi => ?_⟩⟩
  · obtain ⟨f1, f2⟩ := g2 q i hi
    refine ⟨?_, f2⟩
    show jnum (jty (gK S.1 k) i) (jcpy S.2 s sp t dp n k i)
    unfold jcpy
    by_cases e : (k : Int) = t
    · rw [e, htk] at q
      omega
    · rw [if_neg e]
      exact f1
  · obtain ⟨f1, f2⟩ := (g3 q).2 i hi
    refine ⟨?_, f2⟩
    show jnum (jel (gK S.1 k)) (jcpy S.2 s sp t dp n k i)
    unfold jcpy
    by_cases e : (k : Int) = t
    · rw [if_pos e]
      split
      · split
        · rw [e, htk]
          exact (hel _ (by omega) (by omega)).1
        · exact f1
      · exact f1
    · rw [if_neg e]
      exact f1
theorem sCopy {Γ : jCtx} {own : Nat} {cc : ByteArray} {ce : jC} {rF : Int × jS} (C : jCx Γ own cc) : jSim Γ own cc ce rF hCopy oCopy := by
  intro a b t pc loc st S k hc ho hk
  unfold hCopy at hc
  simp only [Bool.and_eq_true, decide_eq_true_eq] at hc
  unfold oCopy at ho
  split at ho
  case h_2 => cases ho
  rename_i n dp u t sp v s rest
  split at ho
  case isFalse => cases ho
  rename_i hu
  split at ho
  case isFalse => cases ho
  rename_i hv
  split at ho
  case isFalse => cases ho
  rename_i ht
  split at ho
  case isFalse => cases ho
  rename_i hs
  split at ho
  case isFalse => cases ho
  rename_i hn0
  split at ho
  case isFalse => cases ho
  rename_i hsp
  split at ho
  case isFalse => cases ho
  rename_i hdp
  split at ho
  case isFalse => cases ho
  rename_i hb1
  split at ho
  case isFalse => cases ho
  rename_i hb2
  split at ho
  case isFalse => cases ho
  rename_i hj
  intro ls H locs ad ⟨hl, hwf, hlo, hst, hn, hP, hD, hS⟩
  have s1 := List.forall_mem_cons.mp hst
  have s2 := List.forall_mem_cons.mp s1.2
  have s3 := List.forall_mem_cons.mp s2.2
  have s4 := List.forall_mem_cons.mp s3.2
  have s5 := List.forall_mem_cons.mp s4.2
  obtain ⟨htn, htk⟩ := jok_at (q := 14) s3.1 (by omega) (by omega) ht
  obtain ⟨hsn, hsk⟩ := jok_at (q := 14) s5.1 (by omega) (by omega) hs
  obtain ⟨hlt, -⟩ := jln_ok hwf ht htn htk (by omega)
  obtain ⟨hls, -⟩ := jln_ok hwf hs hsn hsk (by omega)
  have jn : j32 n := s1.1.1 rfl
  have jd : j32 dp := s2.1.1 rfl
  have js : j32 sp := s4.1.1 rfl
  have hrm := C.2.2.2.2.2.2.2.2.2.2
  rw [List.map_cons, List.map_cons, List.map_cons, List.map_cons, List.map_cons, jtr_at (t := u) (by omega) (by omega), jtr_at (t := v) (by omega) (by omega)]
  refine va_copyi C.1 C.2.1 (by rw [C.2.2.1]; exact hl.1.symm) C.2.2.2.1 (C.2.2.2.2.1 _ (al_ok hc.2)) (C.2.2.2.2.1 _ (mi_ok 2 rfl rfl)) (C.2.2.2.2.1 _ (mi_ok 3 rfl rfl)) (C.2.2.2.2.1 _ (mi_ok 4 rfl rfl)) C.2.2.2.2.2.1 hP hD hS s.toNat t.toNat 1 1 (jw_int hs hsn hsk (by omega) (by omega) (by omega)) (jw_int ht htn htk (by omega) (by omega) (by omega)) rfl rfl rfl (ge32 js hsp) (ge32 jd hdp) (ge32 jn hn0) (by rw [cl32 js, cl32 jn]; omega) (by rw [cl32 jd, cl32 jn]; omega) (fun _ _ => rfl) (by omega) ?_ (dc_ok hc.1) (fun H1 locs1 hP1 hD1 hS1 => ?_)
  · rw [jcat_sum]
    have h9 : nativeFrameWords "java/lang/System" "arraycopy" 5 + 11 ≤ 50 := by decide +kernel
    omega
  · rw [jw_cpy ht htn htk hsp hdp hn0 (cl32 js) (cl32 jd) (cl32 jn)] at hP1 hD1
    exact hk _ _ _ _ ho ls H1 locs1 ad ⟨hl, jWF_cpy hwf hs hsn hsk ht htk hsp hb1, hlo, s5.2, hn, hP1, hD1, hS1⟩
/-- the script -/
def jScr (Γ : jCtx) (L : Nat) (x : Int → Int) : Prop := ∃ f : Nat → Int32, va_X (xd Γ (-2)) L f (xs Γ) (xs Γ).heap ∧ xd Γ (-2) < (xs Γ).heap.size ∧ ¬ xA Γ (xd Γ (-2)) ∧ L ≤ 3072 ∧ ∀ j : Nat, j < L → (j32 (x j) ∧ Int32.ofInt (x j) = f j)
/-- the calls of the law: the script beside the others -/
def jcs (L : Nat) (x : Int → Int) (ce : jC) : jC := fun m a S => if m = 1000 then (match a with | [(0, i)] => if 0 ≤ i then (if i < L then some (x i, S) else none) else none | _ => none) else if m = 1001 then some ((L : Int), S) else ce m a S
def hSld : jH := fun _ cc pc _ _ _ => dc cc pc .iaload 1
theorem sSld {Γ : jCtx} {own : Nat} {cc : ByteArray} {ce : jC} {rF : Int × jS} {L : Nat} {x : Int → Int} (C : jCx Γ own cc) (hX : jScr Γ L x) (had : -2 < (xk Γ : Int)) : jSim Γ own cc (jcs L x ce) rF hSld oSld := by
  intro a b t pc loc st S k hc ho hk
  unfold hSld at hc
  unfold oSld at ho
  split at ho
  case h_2 => cases ho
  rename_i i u r rest
  split at ho
  case isFalse => cases ho
  rename_i hu
  split at ho
  case isFalse => cases ho
  rename_i hr
  rw [Option.bind_eq_some_iff] at ho
  obtain ⟨q, hq, ho⟩ := ho
  unfold jcs at hq
  rw [if_pos rfl] at hq
  change (if 0 ≤ i then (if i < (L : Int) then some (x i, S) else none) else none) = some q at hq
  split at hq
  case isFalse => cases hq
  rename_i hi
  split at hq
  case isFalse => cases hq
  rename_i hi2
  cases hq
  dsimp only at ho
  obtain ⟨f, h1, h2, h3, h4, h5⟩ := hX
  intro ls H locs ad ⟨hl, hwf, hlo, hst, hn, hP, hD, hS⟩
  have hst := List.forall_mem_cons.mp hst
  have hsx := List.forall_mem_cons.mp hst.2
  have hi32 : j32 i := hst.1.1 rfl
  have g := h5 i.toNat (by omega)
  rw [Int.toNat_of_nonneg hi] at g
  have K := hk _ _ _ _ ho ls H locs ad ⟨hl, hwf, hlo, List.forall_mem_cons.mpr ⟨jok_i g.1, hsx.2⟩, hn, hP, hD, hS⟩
  rw [List.map_cons, List.map_cons, jtr_at (t := u) (by omega) (by omega), hr, hn.1 (-2) had]
  refine va_sld C.1 C.2.1 h1 h2 h3 hS (in32 hi32 hi (by omega)) (dc_ok hc) ?_
  rw [cl32 hi32, ← g.2]
  exact K
def hSlen : jH := fun _ cc pc _ _ _ => dc cc pc .arraylength 1
theorem sSlen {Γ : jCtx} {own : Nat} {cc : ByteArray} {ce : jC} {rF : Int × jS} {L : Nat} {x : Int → Int} (C : jCx Γ own cc) (hX : jScr Γ L x) (had : -2 < (xk Γ : Int)) : jSim Γ own cc (jcs L x ce) rF hSlen oSlen := by
  intro a b t pc loc st S k hc ho hk
  unfold hSlen at hc
  unfold oSlen at ho
  split at ho
  case h_2 => cases ho
  rename_i u r rest
  split at ho
  case isFalse => cases ho
  rename_i hu
  split at ho
  case isFalse => cases ho
  rename_i hr
  rw [Option.bind_eq_some_iff] at ho
  obtain ⟨q, hq, ho⟩ := ho
  unfold jcs at hq
  rw [if_neg (by decide), if_pos rfl] at hq
  cases hq
  dsimp only at ho
  obtain ⟨f, h1, h2, h3, h4, h5⟩ := hX
  intro ls H locs ad ⟨hl, hwf, hlo, hst, hn, hP, hD, hS⟩
  have hst := List.forall_mem_cons.mp hst
  have K := hk _ _ _ _ ho ls H locs ad ⟨hl, hwf, hlo, List.forall_mem_cons.mpr ⟨jok_i (by unfold j32; omega), hst.2⟩, hn, hP, hD, hS⟩
  rw [List.map_cons, jtr_at (t := u) (by omega) (by omega), hr, hn.1 (-2) had]
  refine va_slen C.1 C.2.1 h1 h2 h3 hS (dc_ok hc) ?_
  have e : jtr ad (0, (L : Int)) = .int (Int32.ofNat L) := by
    show Value.int (Int32.ofInt (L : Int)) = _
    rw [Int32.ofInt_eq_ofNat]
  rw [List.map_cons, e] at K
  exact K
