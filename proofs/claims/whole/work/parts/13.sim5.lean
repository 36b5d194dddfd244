/-! new cells -/
def jadn (ad : Int → Nat) (n q : Nat) : Int → Nat := fun z => if z = (n : Int) then q else ad z
theorem jadn_ne {ad : Int → Nat} {n q : Nat} {z : Int} (h : z ≠ n) : jadn ad n q z = ad z := if_neg h
theorem jadn_eq {ad : Int → Nat} {n q : Nat} : jadn ad n q n = q := if_pos rfl
theorem jref_ext {ad : Int → Nat} {n q : Nat} {z : Int} (h : z < n) : jref (jadn ad n q) z = jref ad z := by
  unfold jref
  rw [jadn_ne (by omega)]
theorem jtr_ext {S : jS} {ad : Int → Nat} {q : Nat} {v : jV} (h : jok S v) : jtr (jadn ad (gN S.1) q) v = jtr ad v := by
  obtain ⟨t, z⟩ := v
  unfold jtr
  dsimp only
  by_cases h0 : t = 0
  · rw [if_pos h0, if_pos h0]
  · by_cases h1 : t = 1
    · rw [if_neg h0, if_neg h0, if_pos h1, if_pos h1]
    · rw [if_neg h0, if_neg h0, if_neg h1, if_neg h1, jref_ext (h.2.2.2.2 (by dsimp only; omega))]
theorem jmap_ext {S : jS} {ad : Int → Nat} {q : Nat} {st : List jV} (h : ∀ v ∈ st, jok S v) : st.map (jtr (jadn ad (gN S.1) q)) = st.map (jtr ad) := List.map_congr_left (fun v hv => jtr_ext (h v hv))
theorem jL_ext {S : jS} {ls : Array Slot} {nL q : Nat} {ad : Int → Nat} {loc : List jV} (h : jL ls nL ad loc) (hlo : ∀ v ∈ loc, jok S v) : jL ls nL (jadn ad (gN S.1) q) loc :=
  ⟨h.1, h.2.1, h.2.2.1, fun i v hi hv => by rw [jtr_ext (hlo v (List.mem_of_getElem? hi))]; exact h.2.2.2 i v hi hv⟩
theorem jw_new {cy : Nat → ClassId} {ad : Int → Nat} {S : jS} {kd sl q : Nat} {len : Int} {e : va_E} (hb : ∀ i j : Int, gR S.1 i j < gN S.1) (he : jcell cy (jadn ad (gN S.1) q) (jnew kd len sl S) (gN S.1) = e) : jwld cy ad S ++ [(q, e)] = jwld cy (jadn ad (gN S.1) q) (jnew kd len sl S) := by
  unfold jwld
  have hN : gN (jnew kd len sl S).1 = gN S.1 + 1 := rfl
  rw [hN, List.range_succ, List.map_append, List.map_cons, List.map_nil, jadn_eq, he]
  congr 1
  apply List.map_congr_left
  intro k hk
  have hk := List.mem_range.mp hk
  have hne : (k : Int) ≠ ((gN S.1 : Nat) : Int) := by omega
  have hne' : ¬ (k : Int) = ((S.1.1 : Nat) : Int) := hne
  have e1 : gK (jnew kd len sl S).1 k = gK S.1 k := by
    unfold gK jnew
    dsimp only
    rw [if_neg hne']
  have e2 : gL (jnew kd len sl S).1 k = gL S.1 k := by
    unfold gL jnew
    dsimp only
    rw [if_neg hne']
  have e3 : ∀ j : Int, gR (jnew kd len sl S).1 k j = gR S.1 k j := fun j => by
    unfold gR jnew
    dsimp only
    rw [if_neg hne']
  have e4 : ∀ j : Int, (jnew kd len sl S).2 k j = S.2 k j := fun j => by
    unfold jnew
    dsimp only
    rw [if_neg hne']
  rw [jadn_ne hne]
  congr 1
  exact (jcell_cong e1 e2 (fun j => e4 j) (fun j => by rw [e3, jref_ext (hb _ _)])).symm
theorem jok_new {S : jS} {kd sl : Nat} {len : Int} {v : jV} (h : jok S v) : jok (jnew kd len sl S) v := by
  have hN : gN (jnew kd len sl S).1 = gN S.1 + 1 := rfl
  refine ⟨h.1, h.2.1, fun a b => ?_, h.2.2.2.1, fun a => by rw [hN]; have := h.2.2.2.2 a; omega⟩
  rcases h.2.2.1 a b with q | q
  · exact Or.inl q
  · refine Or.inr ⟨q.1, by rw [hN]; omega, ?_⟩
    rw [← q.2.2]
    unfold gK jnew
    dsimp only
    have : ¬ v.2 = ((S.1.1 : Nat) : Int) := by
      have := q.2.1
      unfold gN at this
      omega
    rw [if_neg this]
theorem jokr_new {S : jS} {kd sl c : Nat} {len z : Int} (h : jokr S c z) : jokr (jnew kd len sl S) c z := by
  have hN : gN (jnew kd len sl S).1 = gN S.1 + 1 := rfl
  rcases h with q | q
  · exact Or.inl q
  · refine Or.inr ⟨q.1, by rw [hN]; omega, ?_⟩
    rw [← q.2.2]
    unfold gK jnew
    dsimp only
    have : ¬ z = ((S.1.1 : Nat) : Int) := by
      have := q.2.1
      unfold gN at this
      omega
    rw [if_neg this]
theorem jnum_0 (tc : Nat) : jnum tc 0 := ⟨fun _ => z32, fun _ => z64, fun _ => Or.inl rfl, fun _ => by omega⟩
theorem jnew_kd {S : jS} {kd sl : Nat} {len : Int} : gK (jnew kd len sl S).1 ((gN S.1 : Nat) : Int) = kd := by
  unfold gK jnew gN
  dsimp only
  rw [if_pos rfl]
theorem jnew_ln {S : jS} {kd sl : Nat} {len : Int} : gL (jnew kd len sl S).1 ((gN S.1 : Nat) : Int) = len := by
  unfold gL jnew gN
  dsimp only
  rw [if_pos rfl]
theorem jnew_x {S : jS} {kd sl : Nat} {len j : Int} : (jnew kd len sl S).2 ((gN S.1 : Nat) : Int) j = 0 := by
  unfold jnew gN
  dsimp only
  rw [if_pos rfl]
theorem jnew_r {S : jS} {kd sl : Nat} {len j : Int} : gR (jnew kd len sl S).1 ((gN S.1 : Nat) : Int) j = -1 := by
  unfold gR jnew gN
  dsimp only
  rw [if_pos rfl]
theorem jWF_new {S : jS} {kd sl : Nat} {len : Int} (h : jWF S) (hk : kd ≤ 19) (hl : 13 ≤ kd → 0 ≤ len ∧ len ≤ 200000) : jWF (jnew kd len sl S) := by
  intro k hkn
  have hN : gN (jnew kd len sl S).1 = gN S.1 + 1 := rfl
  rw [hN] at hkn
  by_cases e : k = gN S.1
  · subst e
    unfold jWFo jWFa
    rw [jnew_kd, jnew_ln]
    refine ⟨hk, fun _ j _ => ?_, fun q => ⟨hl q, fun j _ => ?_⟩⟩
    · rw [jnew_x, jnew_r]
      exact ⟨jnum_0 _, fun _ => Or.inl rfl⟩
    · rw [jnew_x, jnew_r]
      exact ⟨jnum_0 _, fun _ => Or.inl rfl⟩
  · have hne' : ¬ (k : Int) = ((S.1.1 : Nat) : Int) := by
      unfold gN at e
      omega
    have e1 : gK (jnew kd len sl S).1 k = gK S.1 k := by
      unfold gK jnew
      dsimp only
      rw [if_neg hne']
    have e2 : gL (jnew kd len sl S).1 k = gL S.1 k := by
      unfold gL jnew
      dsimp only
      rw [if_neg hne']
    have e3 : ∀ j : Int, gR (jnew kd len sl S).1 k j = gR S.1 k j := fun j => by
      unfold gR jnew
      dsimp only
      rw [if_neg hne']
    have e4 : ∀ j : Int, (jnew kd len sl S).2 k j = S.2 k j := fun j => by
      unfold jnew
      dsimp only
      rw [if_neg hne']
    obtain ⟨h1, h2, h3⟩ := h k (by omega)
    unfold jWFo at h2 ⊢
    unfold jWFa at h3 ⊢
    rw [e1, e2]
    simp only [e3, e4]
    exact ⟨h1, fun q j hj => ⟨(h2 q j hj).1, fun w => jokr_new ((h2 q j hj).2 w)⟩, fun q => ⟨(h3 q).1, fun j hj => ⟨((h3 q).2 j hj).1, fun w => jokr_new (((h3 q).2 j hj).2 w)⟩⟩⟩
/-- behind a new cell -/
theorem jAt_new {Γ : jCtx} {loc st : List jV} {S : jS} {ls : Array Slot} {H H1 : Heap} {locs : List Loc} {ad : Int → Nat} {kd sl q : Nat} {len : Int} {e : va_E} (h : jAt Γ loc st S ls H locs ad) (hk : kd ≤ 19) (hl : 13 ≤ kd → 0 ≤ len ∧ len ≤ 200000) (he : jcell (xy Γ) (jadn ad (gN S.1) q) (jnew kd len sl S) (gN S.1) = e) (hP : va_P (xD Γ) vwCl (jwld (xy Γ) ad S ++ [(q, e)]) H1) (hD : va_D (xA Γ) (jwld (xy Γ) ad S ++ [(q, e)])) (hS : va_S (xA Γ) (xs Γ).heap H1 locs) : jAt Γ loc ((10 + kd, (S.1.1 : Int)) :: st) (jnew kd len sl S) ls H1 locs (jadn ad (gN S.1) q) := by
  obtain ⟨hl0, hwf, hlo, hst, hn, -, -, -⟩ := h
  have hN : gN (jnew kd len sl S).1 = gN S.1 + 1 := rfl
  have hM : gM (jnew kd len sl S).1 = gM S.1 + sl := rfl
  rw [jw_new hn.2.2.2.1 he] at hP hD
  refine ⟨jL_ext hl0 hlo, jWF_new hwf hk hl, fun v hv => jok_new (hlo v hv), List.forall_mem_cons.mpr ⟨jok_rf (by omega) (by omega) (Or.inr ⟨by omega, by rw [hN]; unfold gN; omega, by rw [show 10 + kd - 10 = kd by omega]; exact jnew_kd⟩), fun v hv => jok_new (hst v hv)⟩, ⟨fun z hz => ?_, by rw [hN]; omega, by rw [hM]; omega, fun i j => ?_, fun z hz => ?_⟩, hP, hD, hS⟩
  · rw [jadn_ne (by omega)]
    exact hn.1 z hz
  · rw [hN]
    show (if i = ((S.1.1 : Nat) : Int) then -1 else gR S.1 i j) < _
    split
    · omega
    · have := hn.2.2.2.1 i j
      omega
  · rw [← hn.2.2.2.2 z hz]
    unfold gK jnew
    dsimp only
    have : ¬ z = ((S.1.1 : Nat) : Int) := by
      have := hn.2.1
      unfold gN at this
      omega
    rw [if_neg this]
/-- with the room that is left -/
def jSimM (Γ : jCtx) (own : Nat) (cc : ByteArray) (ce : jC) (rF : Int × jS) (h : jH) (o : jF) : Prop := ∀ (a b : Int) (t : List Int) (pc : Nat) (loc st : List jV) (S : jS) (k : jT), h own cc pc a b t = true → o a b t ce pc loc st S k = some rF → (∀ pc loc st S, k pc loc st S = some rF → gN S.1 - xk Γ ≤ (xR Γ).cells ∧ gM S.1 - xj Γ ≤ (xR Γ).slots) → (∀ pc loc st S, k pc loc st S = some rF → jK Γ pc loc st S) → jK Γ pc loc st S
def hNew : jH := fun own cc pc a b t => dc cc pc (.new b.toNat) 3 && decide (a.toNat ≤ 12 ∧ (own, b.toNat, a.toNat) ∈ jcw ∧ (t.getD 0 0).toNat = jnf.getD a.toNat 0)
theorem jdef_ok {c j : Nat} (hc : c ≤ 12) (hj : j < jnf.getD c 0) : defaultValue (jTyp (jty c j)) = (if jty c j = 1 then Value.long (Int64.ofInt 0) else if jty c j ≤ 2 then .int (Int32.ofInt 0) else .null) := by
  rcases tc_ok' c (by omega) j hj with q | q
  · rcases (show jty c j = 0 ∨ jty c j = 1 ∨ jty c j = 2 by omega) with w | w | w <;> rw [w] <;> rfl
  · rw [if_neg (by omega), if_neg (by omega)]
    generalize jty c j = y at q
    unfold jTyp
    split <;> first | omega | rfl
theorem sNew {Γ : jCtx} {own : Nat} {cc : ByteArray} {ce : jC} {rF : Int × jS} (C : jCx Γ own cc) : jSimM Γ own cc ce rF hNew oNew := by
  intro a b t pc loc st S k hc ho hm hk
  unfold hNew at hc
  simp only [Bool.and_eq_true, decide_eq_true_eq] at hc
  obtain ⟨hdg, hcl, hlk, hsl⟩ := hc
  unfold oNew at ho
  rw [hsl] at ho
  generalize a.toNat = cn at *
  intro ls H locs ad hat
  have hat' := hat
  obtain ⟨hl, hwf, hlo, hst, hn, hP, hD, hS⟩ := hat'
  have hroom := hm _ _ _ _ ho
  have hN : gN (jnew cn 0 (jnf.getD cn 0) S).1 = gN S.1 + 1 := rfl
  have hM : gM (jnew cn 0 (jnf.getD cn 0) S).1 = gM S.1 + jnf.getD cn 0 := rfl
  rw [hN, hM] at hroom
  have h1 := hn.2.1
  have h2 := hn.2.2.1
  refine va_new (ci := cn) (fs := (List.range (jnf.getD cn 0)).map (fun j => if jty cn j = 1 then Value.long (Int64.ofInt 0) else if jty cn j ≤ 2 then .int (Int32.ofInt 0) else .null)) (C := jcn.getD cn "") (T := jFT cn) (N := jnf.getD cn 0) (own := jcn.getD own "") C.1 C.2.1 C.2.2.2.2.1 (lay_ok hcl) (fun k => jTyp (jty cn k)) (ty_ok hcl) C.2.2.2.1 (C.2.2.2.2.1 _ (cl_ok hlk)) (C.2.2.2.2.1 _ (inst_ok hcl)) (C.2.2.2.2.1 _ (ini_ok (by omega))) C.2.2.2.2.2.1 hP hD hS C.2.2.2.2.2.2.1 (cls_ok cn hcl) (fun j hj => ?_) (by omega) (by omega) (dc_ok hdg) (fun q H1 hP1 hD1 hS1 => ?_)
  · unfold vp_V
    rw [jdef_ok hcl hj, List.getD_eq_getElem?_getD, rng_get _ hj]
    rfl
  · have he : jcell (xy Γ) (jadn ad (gN S.1) q) (jnew cn 0 (jnf.getD cn 0) S) (gN S.1) = .inr (cn, (List.range (jnf.getD cn 0)).map (fun j => if jty cn j = 1 then Value.long (Int64.ofInt 0) else if jty cn j ≤ 2 then .int (Int32.ofInt 0) else .null)) := by
      unfold jcell
      rw [jnew_kd, if_pos hcl]
      congr 2
      unfold jfs
      congr 1
      funext j
      unfold jfv
      rw [jnew_x, jnew_r]
      rfl
    have K := hk _ _ _ _ ho ls H1 locs _ (jAt_new hat (by omega) (fun q => by omega) he hP1 hD1 hS1)
    rw [List.map_cons, jmap_ext hst, jtr_at (by omega) (by have : (0 : Int) ≤ (S.1.1 : Int) := Int.natCast_nonneg _; omega)] at K
    have e1 : jadn ad (gN S.1) q ((S.1.1 : Nat) : Int) = q := jadn_eq
    rw [e1] at K
    unfold jW at K
    rw [hN, hM, show gN S.1 + 1 - xk Γ = gN S.1 - xk Γ + 1 by omega, show gM S.1 + jnf.getD cn 0 - xj Γ = gM S.1 - xj Γ + jnf.getD cn 0 by omega] at K
    exact K
