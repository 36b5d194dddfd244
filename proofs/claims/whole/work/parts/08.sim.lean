/-! THE SIMULATION: what the pure machine does, the machine does. The context of a method's body is one tuple. -/
abbrev jCtx : Type := (Program × Launch × Env × Room × State × MethodId × Array Value × List Frame) × (Method × Code × (State → Prop) × Nat × va_G × (Nat → ClassId) × (Nat → Prop)) × ((Int → Nat) × Nat × Nat × Nat × (Int → Nat))
abbrev xp (Γ : jCtx) : Program := Γ.1.1
abbrev xl (Γ : jCtx) : Launch := Γ.1.2.1
abbrev xe (Γ : jCtx) : Env := Γ.1.2.2.1
abbrev xR (Γ : jCtx) : Room := Γ.1.2.2.2.1
abbrev xs (Γ : jCtx) : State := Γ.1.2.2.2.2.1
abbrev xm (Γ : jCtx) : MethodId := Γ.1.2.2.2.2.2.1
abbrev xa (Γ : jCtx) : Array Value := Γ.1.2.2.2.2.2.2.1
abbrev xb (Γ : jCtx) : List Frame := Γ.1.2.2.2.2.2.2.2
abbrev xM (Γ : jCtx) : Method := Γ.2.1.1
abbrev xc (Γ : jCtx) : Code := Γ.2.1.2.1
abbrev xQ (Γ : jCtx) : State → Prop := Γ.2.1.2.2.1
abbrev xn (Γ : jCtx) : Nat := Γ.2.1.2.2.2.1
abbrev xD (Γ : jCtx) : va_G := Γ.2.1.2.2.2.2.1
abbrev xy (Γ : jCtx) : Nat → ClassId := Γ.2.1.2.2.2.2.2.1
abbrev xA (Γ : jCtx) : Nat → Prop := Γ.2.1.2.2.2.2.2.2
abbrev xd (Γ : jCtx) : Int → Nat := Γ.2.2.1
abbrev xk (Γ : jCtx) : Nat := Γ.2.2.2.1
abbrev xj (Γ : jCtx) : Nat := Γ.2.2.2.2.1
abbrev xv (Γ : jCtx) : Nat := Γ.2.2.2.2.2.1
abbrev xκ (Γ : jCtx) : Int → Nat := Γ.2.2.2.2.2.2
/-- the string constant, its bytes, and what its reading asks of the JDK's statics -/
def jE (a v : Nat) (A : Nat → Prop) (U : State) (H : Heap) : Prop := vk_R "SundayPit$Reader" 67 "pit at kind rest gas row house mix may worth tilt holds props leans depth across near span open fallen whole number tubs or and not all min max first last often total most least " a U ∧ vk_S 1 [178] [jWords.map Int32.ofInt] (fun _ => a) (fun _ => v) A U H ∧ va_Z "java/lang/String" "COMPACT_STRINGS" "Z" (.int 1) A U H ∧ ∃ w : Value, (w = .null ∨ ∃ x : Nat, w = .ref x) ∧ va_Z "jdk/internal/util/Preconditions" "SIOOBE_FORMATTER" "Ljava/util/function/BiFunction;" w A U H
/-- the words that aren't kept by the tables alone -/
def jX0 (U : State) : Prop := (∀ q ∈ jnl, va_Nw (jnw q) U) ∧ va_AO RX1 U ∧ va_AO RX3 U ∧ va_AOA .int U
def jCx (Γ : jCtx) (own : Nat) (cc : ByteArray) : Prop :=
  (xp Γ).tables.exec = Jvm.exec ∧ (xc Γ).code = cc ∧ (xc Γ).maxLocals = xn Γ ∧ (xs Γ).vm.findClass (jcn.getD own "") = some (xm Γ).cls ∧ (∀ w ∈ jtbl, w.before (xa Γ) (xs Γ) = true) ∧ va_K (xD Γ) vwCl (jtys (xy Γ)) (xs Γ) ∧ (∀ q, (xs Γ).heap.size ≤ q → xA Γ q) ∧ (xM Γ).locks = false ∧ jE (xd Γ (-3)) (xv Γ) (xA Γ) (xs Γ) (xs Γ).heap ∧ jX0 (xs Γ) ∧ (7 ≤ (xR Γ).frames ∧ 420 ≤ (xR Γ).locals)
def jL (ls : Array Slot) (nL : Nat) (ad : Int → Nat) (loc : List jV) : Prop := ls.size = nL ∧ loc.length = nL ∧ lv_wf ls ∧ ∀ (i : Nat) (v : jV), loc[i]? = some v → v.1 ≠ 2 → ls[i]? = some (.val (jtr ad v))
/-- what stands at a state of the pure machine -/
def jAt (Γ : jCtx) (loc st : List jV) (S : jS) (ls : Array Slot) (H : Heap) (locs : List Loc) (ad : Int → Nat) : Prop :=
  jL ls (xn Γ) ad loc ∧ jWF S ∧ (∀ v ∈ loc, jok S v) ∧ (∀ v ∈ st, jok S v) ∧ ((∀ z : Int, z < xk Γ → ad z = xd Γ z) ∧ xk Γ ≤ gN S.1 ∧ xj Γ ≤ gM S.1 ∧ (∀ i j : Int, gR S.1 i j < gN S.1) ∧ ∀ z : Int, z < xk Γ → gK S.1 z = xκ Γ z) ∧ va_P (xD Γ) vwCl (jwld (xy Γ) ad S) H ∧ va_D (xA Γ) (jwld (xy Γ) ad S) ∧ va_S (xA Γ) (xs Γ).heap H locs
abbrev jW (Γ : jCtx) (S : jS) (H : Heap) (locs : List Loc) (g : JFrame) : Prop := W (xp Γ) (xl Γ) (xe Γ) (xR Γ) (xs Γ) (xm Γ) (xa Γ) (xb Γ) (xM Γ) (xc Γ) H locs (gN S.1 - xk Γ) (gM S.1 - xj Γ) (xQ Γ) g
def jK (Γ : jCtx) (pc : Nat) (loc st : List jV) (S : jS) : Prop := ∀ (ls : Array Slot) (H : Heap) (locs : List Loc) (ad : Int → Nat), jAt Γ loc st S ls H locs ad → jW Γ S H locs (F0 (xm Γ) pc ls (st.map (jtr ad)))
abbrev jH : Type := Nat → ByteArray → Nat → Int → Int → List Int → Bool
def dc (cc : ByteArray) (pc : Nat) (i : Instr) (n : Nat) : Bool := decide (decode cc pc = .ok (i, n))
theorem dc_ok {cc : ByteArray} {pc n : Nat} {i : Instr} (h : dc cc pc i n = true) : decode cc pc = .ok (i, n) := of_decide_eq_true h
def jSim (Γ : jCtx) (own : Nat) (cc : ByteArray) (ce : jC) (rF : Int × jS) (h : jH) (o : jF) : Prop := ∀ (a b : Int) (t : List Int) (pc : Nat) (loc st : List jV) (S : jS) (k : jT), h own cc pc a b t = true → o a b t ce pc loc st S k = some rF → (∀ pc loc st S, k pc loc st S = some rF → jK Γ pc loc st S) → jK Γ pc loc st S
theorem d32 {a : Int} (h : decide (-2147483648 ≤ a ∧ a ≤ 2147483647) = true) : j32 a := of_decide_eq_true (p := -2147483648 ≤ a ∧ a ≤ 2147483647) h
theorem d64 {a : Int} (h : decide (-9223372036854775808 ≤ a ∧ a ≤ 9223372036854775807) = true) : j64 a := of_decide_eq_true (p := -9223372036854775808 ≤ a ∧ a ≤ 9223372036854775807) h
theorem jok_i {S : jS} {z : Int} (h : j32 z) : jok S (0, z) := ⟨fun _ => h, fun q => absurd q (show ¬ 0 = 1 by decide), fun q => absurd q (show ¬ 10 ≤ 0 by decide), fun q => absurd q (show ¬ 30 ≤ 0 by decide), fun q => absurd q (show ¬ 2 ≤ 0 by decide)⟩
theorem jok_l {S : jS} {z : Int} (h : j64 z) : jok S (1, z) := ⟨fun q => absurd q (show ¬ 1 = 0 by decide), fun _ => h, fun q => absurd q (show ¬ 10 ≤ 1 by decide), fun q => absurd q (show ¬ 30 ≤ 1 by decide), fun q => absurd q (show ¬ 2 ≤ 1 by decide)⟩
theorem jok_u {S : jS} : jok S (2, -1) := ⟨fun q => absurd q (show ¬ 2 = 0 by decide), fun q => absurd q (show ¬ 2 = 1 by decide), fun q => absurd q (show ¬ 10 ≤ 2 by decide), fun q => absurd q (show ¬ 30 ≤ 2 by decide), fun _ => by dsimp only; omega⟩
theorem jtr_ref {ad : Int → Nat} {t : Nat} {z : Int} (h : 10 ≤ t) : jtr ad (t, z) = va_rf (jref ad z) := by
  unfold jtr
  rw [if_neg (by dsimp only; omega), if_neg (by dsimp only; omega)]
theorem jtr_at {ad : Int → Nat} {t : Nat} {z : Int} (h : 10 ≤ t) (hz : z ≠ -1) : jtr ad (t, z) = .ref (ad z) := by
  rw [jtr_ref h, jref, if_neg hz]
  rfl
theorem jtr_null {ad : Int → Nat} {t : Nat} (h : 10 ≤ t) : jtr ad (t, -1) = .null := by
  rw [jtr_ref h, jref, if_pos rfl]
  rfl
theorem jtr_cat {ad : Int → Nat} {v : jV} (h : v.1 ≠ 1) : (jtr ad v).category = 1 := by
  obtain ⟨t, z⟩ := v
  dsimp only at h
  unfold jtr
  dsimp only
  by_cases h0 : t = 0
  · rw [if_pos h0]; rfl
  · rw [if_neg h0, if_neg h]
    unfold jref
    by_cases hz : z = -1
    · rw [if_pos hz]; rfl
    · rw [if_neg hz]; rfl
/-- locals, as the kit lists them -/
def jlv (ad : Int → Nat) (loc : List jV) : List (Nat × Value) := (List.range loc.length).filterMap (fun i => match loc[i]? with | some v => if v.1 = 2 then none else some (i, jtr ad v) | none => none)
theorem jlv_mem {ad : Int → Nat} {loc : List jV} {q : Nat × Value} : q ∈ jlv ad loc ↔ ∃ v, loc[q.1]? = some v ∧ v.1 ≠ 2 ∧ q.2 = jtr ad v := by
  unfold jlv
  rw [List.mem_filterMap]
  constructor
  · rintro ⟨i, hi, h⟩
    cases hv : loc[i]? with
    | none => rw [hv] at h; cases h
    | some v =>
      rw [hv] at h
      dsimp only at h
      by_cases h2 : v.1 = 2
      · rw [if_pos h2] at h; cases h
      · rw [if_neg h2] at h
        cases h
        exact ⟨v, hv, h2, rfl⟩
  · rintro ⟨v, h1, h2, h3⟩
    have hl : q.1 < loc.length := (List.getElem?_eq_some_iff.mp h1).1
    refine ⟨q.1, List.mem_range.mpr hl, ?_⟩
    rw [h1]
    dsimp only
    rw [if_neg h2, ← h3]
theorem jL_has {ls : Array Slot} {nL : Nat} {ad : Int → Nat} {loc : List jV} (h : jL ls nL ad loc) : lv_has ls nL (jlv ad loc) := by
  refine ⟨h.1, h.2.2.1, fun q hq => ?_⟩
  obtain ⟨v, h1, h2, h3⟩ := jlv_mem.mp hq
  rw [h3]
  exact h.2.2.2 _ _ h1 h2
theorem getD_some {α : Type} {l : List α} {i : Nat} {d v : α} (h : l.getD i d = v) (hv : v ≠ d) : l[i]? = some v := by
  rw [List.getD_eq_getElem?_getD] at h
  cases hx : l[i]? with
  | none => rw [hx] at h; exact absurd h.symm hv
  | some w => rw [hx] at h; exact congrArg some h
theorem jL_get {ls : Array Slot} {nL : Nat} {ad : Int → Nat} {loc : List jV} {i t : Nat} {z : Int} (h : jL ls nL ad loc) (hg : loc.getD i (2, -1) = (t, z)) (ht : t ≠ 2) : ls[i]? = some (.val (jtr ad (t, z))) :=
  h.2.2.2 _ _ (getD_some hg (fun q => ht (congrArg Prod.fst q))) ht
theorem jloc_ok {S : jS} {loc : List jV} {i t : Nat} {z : Int} (h : ∀ v ∈ loc, jok S v) (hg : loc.getD i (2, -1) = (t, z)) (ht : t ≠ 2) : jok S (t, z) :=
  h _ (List.mem_of_getElem? (getD_some hg (fun q => ht (congrArg Prod.fst q))))
theorem jfree_lt {loc : List jV} {i : Nat} (h : jfree loc i = true) : i < loc.length := by
  unfold jfree at h
  simp only [Bool.and_eq_true, decide_eq_true_eq] at h
  exact h.1
theorem jfree_prev {loc : List jV} {i j : Nat} {v : jV} (h : jfree loc i = true) (hj : j + 1 = i) (hv : loc[j]? = some v) : v.1 ≠ 1 := by
  subst hj
  unfold jfree at h
  simp only [Bool.and_eq_true, decide_eq_true_eq] at h
  have h2 := h.2
  rw [List.getD_eq_getElem?_getD, hv] at h2
  exact h2
theorem jcat2 {ad : Int → Nat} {v : jV} (h : (jtr ad v).category = 2) : v.1 = 1 := by
  by_cases e : v.1 = 1
  · exact e
  · rw [jtr_cat e] at h
    omega
/-- a store of one slot -/
theorem jL_set {ls' : Array Slot} {nL : Nat} {ad : Int → Nat} {loc : List jV} {i : Nat} {w : jV} {v : Value} (hlen : loc.length = nL) (hf : jfree loc i = true) (hv : v = jtr ad w) (h : lv_has ls' nL ((i, v) :: (jlv ad loc).filter (fun q => !(q.1 == i) && !(q.1 + 1 == i && q.2.category == 2)))) : jL ls' nL ad (loc.set i w) := by
  refine ⟨h.1, by rw [List.length_set]; exact hlen, h.2.1, fun j u hj hu => ?_⟩
  by_cases e : j = i
  · subst e
    rw [List.getElem?_set_self (jfree_lt hf)] at hj
    cases hj
    rw [← hv]
    exact h.2.2 (j, v) List.mem_cons_self
  · rw [List.getElem?_set_ne (fun q => e q.symm)] at hj
    refine h.2.2 (j, jtr ad u) (List.mem_cons_of_mem _ (List.mem_filter.mpr ⟨jlv_mem.mpr ⟨u, hj, hu, rfl⟩, ?_⟩))
    simp only [Bool.and_eq_true, Bool.not_eq_true', beq_eq_false_iff_ne, ne_eq, Bool.and_eq_false_iff]
    refine ⟨e, ?_⟩
    by_cases e2 : j + 1 = i
    · right
      intro q
      exact jfree_prev hf e2 hj (jcat2 q)
    · left
      exact e2
/-- a store of two slots -/
theorem jL_set2 {ls' : Array Slot} {nL : Nat} {ad : Int → Nat} {loc : List jV} {i : Nat} {w : jV} {v : Value} (hlen : loc.length = nL) (hf : jfree loc i = true) (hi : i + 1 < loc.length) (hv : v = jtr ad w) (h : lv_has ls' nL ((i, v) :: (jlv ad loc).filter (fun q => !(q.1 == i) && (!(q.1 == i + 1) && !(q.1 + 1 == i && q.2.category == 2))))) : jL ls' nL ad ((loc.set i w).set (i + 1) (2, -1)) := by
  refine ⟨h.1, by rw [List.length_set, List.length_set]; exact hlen, h.2.1, fun j u hj hu => ?_⟩
  by_cases e1 : j = i + 1
  · subst e1
    rw [List.getElem?_set_self (by rw [List.length_set]; exact hi)] at hj
    cases hj
    exact absurd rfl hu
  · rw [List.getElem?_set_ne (fun q => e1 q.symm)] at hj
    by_cases e : j = i
    · subst e
      rw [List.getElem?_set_self (jfree_lt hf)] at hj
      cases hj
      rw [← hv]
      exact h.2.2 (j, v) List.mem_cons_self
    · rw [List.getElem?_set_ne (fun q => e q.symm)] at hj
      refine h.2.2 (j, jtr ad u) (List.mem_cons_of_mem _ (List.mem_filter.mpr ⟨jlv_mem.mpr ⟨u, hj, hu, rfl⟩, ?_⟩))
      simp only [Bool.and_eq_true, Bool.not_eq_true', beq_eq_false_iff_ne, ne_eq, Bool.and_eq_false_iff]
      refine ⟨e, e1, ?_⟩
      by_cases e2 : j + 1 = i
      · right
        intro q
        exact jfree_prev hf e2 hj (jcat2 q)
      · left
        exact e2
theorem jset_ok {S : jS} {loc : List jV} {i : Nat} {w : jV} (h : ∀ v ∈ loc, jok S v) (hw : jok S w) : ∀ v ∈ loc.set i w, jok S v := by
  intro v hv
  rcases List.mem_or_eq_of_mem_set hv with q | q
  · exact h v q
  · rw [q]; exact hw
theorem jlv_at {ad : Int → Nat} {loc : List jV} {i : Nat} {z : Int} (h : loc.getD i (2, -1) = (0, z)) : ∃ k : Nat, (jlv ad loc)[k]? = some (i, .int (Int32.ofInt z)) :=
  List.getElem?_of_mem (jlv_mem.mpr ⟨(0, z), getD_some h (fun q => absurd (congrArg Prod.fst q) (show ¬ 0 = 2 by decide)), show ¬ 0 = 2 by decide, rfl⟩)

def hIconst : jH := fun _ cc pc a _ _ => dc cc pc (.iconst a) 1 && decide (-2147483648 ≤ a ∧ a ≤ 2147483647)
theorem sIconst {Γ : jCtx} {own : Nat} {cc : ByteArray} {ce : jC} {rF : Int × jS} (C : jCx Γ own cc) : jSim Γ own cc ce rF hIconst (oPush 0 1) := by
  intro a b t pc loc st S k hc ho hk
  simp only [hIconst, Bool.and_eq_true] at hc
  intro ls H locs ad ⟨hl, hwf, hlo, hst, hn, hP, hD, hS⟩
  refine lv_iconst C.1 C.2.1 (dc_ok hc.1) rfl ?_
  exact hk _ _ _ _ ho ls H locs ad ⟨hl, hwf, hlo, List.forall_mem_cons.mpr ⟨jok_i (d32 hc.2), hst⟩, hn, hP, hD, hS⟩
def hBipush : jH := fun _ cc pc a _ _ => dc cc pc (.bipush a) 2 && (decide (-2147483648 ≤ a ∧ a ≤ 2147483647) && decide ((Int8.ofInt a).toInt32 = Int32.ofInt a))
theorem sBipush {Γ : jCtx} {own : Nat} {cc : ByteArray} {ce : jC} {rF : Int × jS} (C : jCx Γ own cc) : jSim Γ own cc ce rF hBipush (oPush 0 2) := by
  intro a b t pc loc st S k hc ho hk
  simp only [hBipush, Bool.and_eq_true] at hc
  intro ls H locs ad ⟨hl, hwf, hlo, hst, hn, hP, hD, hS⟩
  refine lv_bipush C.1 C.2.1 (dc_ok hc.1) (of_decide_eq_true hc.2.2) ?_
  exact hk _ _ _ _ ho ls H locs ad ⟨hl, hwf, hlo, List.forall_mem_cons.mpr ⟨jok_i (d32 hc.2.1), hst⟩, hn, hP, hD, hS⟩
def hSipush : jH := fun _ cc pc a _ _ => dc cc pc (.sipush a) 3 && (decide (-2147483648 ≤ a ∧ a ≤ 2147483647) && decide ((Int16.ofInt a).toInt32 = Int32.ofInt a))
theorem sSipush {Γ : jCtx} {own : Nat} {cc : ByteArray} {ce : jC} {rF : Int × jS} (C : jCx Γ own cc) : jSim Γ own cc ce rF hSipush (oPush 0 3) := by
  intro a b t pc loc st S k hc ho hk
  simp only [hSipush, Bool.and_eq_true] at hc
  intro ls H locs ad ⟨hl, hwf, hlo, hst, hn, hP, hD, hS⟩
  refine lv_sipush C.1 C.2.1 (dc_ok hc.1) (of_decide_eq_true hc.2.2) ?_
  exact hk _ _ _ _ ho ls H locs ad ⟨hl, hwf, hlo, List.forall_mem_cons.mpr ⟨jok_i (d32 hc.2.1), hst⟩, hn, hP, hD, hS⟩
def hLconst : jH := fun _ cc pc a _ _ => (decide (a = 0) && dc cc pc (.lconst 0) 1) || (decide (a = 1) && dc cc pc (.lconst 1) 1)
theorem sLconst {Γ : jCtx} {own : Nat} {cc : ByteArray} {ce : jC} {rF : Int × jS} (C : jCx Γ own cc) : jSim Γ own cc ce rF hLconst (oPush 1 1) := by
  intro a b t pc loc st S k hc ho hk
  simp only [hLconst, Bool.or_eq_true, Bool.and_eq_true, decide_eq_true_eq] at hc
  intro ls H locs ad ⟨hl, hwf, hlo, hst, hn, hP, hD, hS⟩
  rcases hc with ⟨rfl, hc⟩ | ⟨rfl, hc⟩
  · refine lv_lconst C.1 C.2.1 (dc_ok hc) rfl ?_
    exact hk _ _ _ _ ho ls H locs ad ⟨hl, hwf, hlo, List.forall_mem_cons.mpr ⟨jok_l z64, hst⟩, hn, hP, hD, hS⟩
  · refine lv_lconst C.1 C.2.1 (dc_ok hc) rfl ?_
    exact hk _ _ _ _ ho ls H locs ad ⟨hl, hwf, hlo, List.forall_mem_cons.mpr ⟨jok_l (by unfold j64; omega), hst⟩, hn, hP, hD, hS⟩
def hLdc : jH := fun own cc pc a b _ => dc cc pc (.ldc b.toNat) 2 && (decide (-2147483648 ≤ a ∧ a ≤ 2147483647) && decide ((own, b.toNat, a) ∈ jci))
theorem sLdc {Γ : jCtx} {own : Nat} {cc : ByteArray} {ce : jC} {rF : Int × jS} (C : jCx Γ own cc) : jSim Γ own cc ce rF hLdc (oPush 0 2) := by
  intro a b t pc loc st S k hc ho hk
  simp only [hLdc, Bool.and_eq_true] at hc
  intro ls H locs ad ⟨hl, hwf, hlo, hst, hn, hP, hD, hS⟩
  refine lv_ldc C.1 C.2.1 C.2.2.2.1 (C.2.2.2.2.1 _ (ci_ok (of_decide_eq_true hc.2.2))) (dc_ok hc.1) ?_
  exact hk _ _ _ _ ho ls H locs ad ⟨hl, hwf, hlo, List.forall_mem_cons.mpr ⟨jok_i (d32 hc.2.1), hst⟩, hn, hP, hD, hS⟩
def hLdcW : jH := fun own cc pc a b _ => dc cc pc (.ldc_w b.toNat) 3 && (decide (-2147483648 ≤ a ∧ a ≤ 2147483647) && decide ((own, b.toNat, a) ∈ jci))
theorem sLdcW {Γ : jCtx} {own : Nat} {cc : ByteArray} {ce : jC} {rF : Int × jS} (C : jCx Γ own cc) : jSim Γ own cc ce rF hLdcW (oPush 0 3) := by
  intro a b t pc loc st S k hc ho hk
  simp only [hLdcW, Bool.and_eq_true] at hc
  intro ls H locs ad ⟨hl, hwf, hlo, hst, hn, hP, hD, hS⟩
  refine lv_ldcw C.1 C.2.1 C.2.2.2.1 (C.2.2.2.2.1 _ (ci_ok (of_decide_eq_true hc.2.2))) (dc_ok hc.1) ?_
  exact hk _ _ _ _ ho ls H locs ad ⟨hl, hwf, hlo, List.forall_mem_cons.mpr ⟨jok_i (d32 hc.2.1), hst⟩, hn, hP, hD, hS⟩
def hLdc2 : jH := fun own cc pc a b _ => dc cc pc (.ldc2_w b.toNat) 3 && (decide (-9223372036854775808 ≤ a ∧ a ≤ 9223372036854775807) && decide ((own, b.toNat, a) ∈ jcj))
theorem sLdc2 {Γ : jCtx} {own : Nat} {cc : ByteArray} {ce : jC} {rF : Int × jS} (C : jCx Γ own cc) : jSim Γ own cc ce rF hLdc2 (oPush 1 3) := by
  intro a b t pc loc st S k hc ho hk
  simp only [hLdc2, Bool.and_eq_true] at hc
  intro ls H locs ad ⟨hl, hwf, hlo, hst, hn, hP, hD, hS⟩
  refine lv_ldc2 C.1 C.2.1 C.2.2.2.1 (C.2.2.2.2.1 _ (cj_ok (of_decide_eq_true hc.2.2))) (dc_ok hc.1) ?_
  exact hk _ _ _ _ ho ls H locs ad ⟨hl, hwf, hlo, List.forall_mem_cons.mpr ⟨jok_l (d64 hc.2.1), hst⟩, hn, hP, hD, hS⟩
def hIloadN : jH := fun _ cc pc a _ _ => if h : a.toNat < 4 then dc cc pc (.iload_n ⟨a.toNat, h⟩) 1 else false
theorem sIloadN {Γ : jCtx} {own : Nat} {cc : ByteArray} {ce : jC} {rF : Int × jS} (C : jCx Γ own cc) : jSim Γ own cc ce rF hIloadN (oLoad 0 1) := by
  intro a b t pc loc st S k hc ho hk
  unfold hIloadN at hc
  split at hc
  case isFalse => cases hc
  unfold oLoad at ho
  generalize hg : loc.getD a.toNat (2, -1) = q at ho
  obtain ⟨t', z⟩ := q
  dsimp only at ho
  split at ho
  case isFalse => cases ho
  rename_i e
  subst e
  intro ls H locs ad ⟨hl, hwf, hlo, hst, hn, hP, hD, hS⟩
  refine lv_iload_n C.1 C.2.1 (dc_ok hc) rfl (jL_get hl hg (by decide)) ?_
  exact hk _ _ _ _ ho ls H locs ad ⟨hl, hwf, hlo, List.forall_mem_cons.mpr ⟨jloc_ok hlo hg (by decide), hst⟩, hn, hP, hD, hS⟩
def hIload : jH := fun _ cc pc a _ _ => dc cc pc (.iload a.toNat) 2
theorem sIload {Γ : jCtx} {own : Nat} {cc : ByteArray} {ce : jC} {rF : Int × jS} (C : jCx Γ own cc) : jSim Γ own cc ce rF hIload (oLoad 0 2) := by
  intro a b t pc loc st S k hc ho hk
  unfold hIload at hc
  unfold oLoad at ho
  generalize hg : loc.getD a.toNat (2, -1) = q at ho
  obtain ⟨t', z⟩ := q
  dsimp only at ho
  split at ho
  case isFalse => cases ho
  rename_i e
  subst e
  intro ls H locs ad ⟨hl, hwf, hlo, hst, hn, hP, hD, hS⟩
  refine lv_iload C.1 C.2.1 (dc_ok hc) (jL_get hl hg (by decide)) ?_
  exact hk _ _ _ _ ho ls H locs ad ⟨hl, hwf, hlo, List.forall_mem_cons.mpr ⟨jloc_ok hlo hg (by decide), hst⟩, hn, hP, hD, hS⟩
def hLloadN : jH := fun _ cc pc a _ _ => if h : a.toNat < 4 then dc cc pc (.lload_n ⟨a.toNat, h⟩) 1 else false
theorem sLloadN {Γ : jCtx} {own : Nat} {cc : ByteArray} {ce : jC} {rF : Int × jS} (C : jCx Γ own cc) : jSim Γ own cc ce rF hLloadN (oLoad 1 1) := by
  intro a b t pc loc st S k hc ho hk
  unfold hLloadN at hc
  split at hc
  case isFalse => cases hc
  unfold oLoad at ho
  generalize hg : loc.getD a.toNat (2, -1) = q at ho
  obtain ⟨t', z⟩ := q
  dsimp only at ho
  split at ho
  case isFalse => cases ho
  rename_i e
  subst e
  intro ls H locs ad ⟨hl, hwf, hlo, hst, hn, hP, hD, hS⟩
  refine lv_lload_n C.1 C.2.1 (dc_ok hc) rfl (jL_get hl hg (by decide)) ?_
  exact hk _ _ _ _ ho ls H locs ad ⟨hl, hwf, hlo, List.forall_mem_cons.mpr ⟨jloc_ok hlo hg (by decide), hst⟩, hn, hP, hD, hS⟩
def hLload : jH := fun _ cc pc a _ _ => dc cc pc (.lload a.toNat) 2
theorem sLload {Γ : jCtx} {own : Nat} {cc : ByteArray} {ce : jC} {rF : Int × jS} (C : jCx Γ own cc) : jSim Γ own cc ce rF hLload (oLoad 1 2) := by
  intro a b t pc loc st S k hc ho hk
  unfold hLload at hc
  unfold oLoad at ho
  generalize hg : loc.getD a.toNat (2, -1) = q at ho
  obtain ⟨t', z⟩ := q
  dsimp only at ho
  split at ho
  case isFalse => cases ho
  rename_i e
  subst e
  intro ls H locs ad ⟨hl, hwf, hlo, hst, hn, hP, hD, hS⟩
  refine lv_lload C.1 C.2.1 (dc_ok hc) (jL_get hl hg (by decide)) ?_
  exact hk _ _ _ _ ho ls H locs ad ⟨hl, hwf, hlo, List.forall_mem_cons.mpr ⟨jloc_ok hlo hg (by decide), hst⟩, hn, hP, hD, hS⟩
def hAloadN : jH := fun _ cc pc a _ _ => if h : a.toNat < 4 then dc cc pc (.aload_n ⟨a.toNat, h⟩) 1 else false
theorem sAloadN {Γ : jCtx} {own : Nat} {cc : ByteArray} {ce : jC} {rF : Int × jS} (C : jCx Γ own cc) : jSim Γ own cc ce rF hAloadN (oALoad 1) := by
  intro a b t pc loc st S k hc ho hk
  unfold hAloadN at hc
  split at hc
  case isFalse => cases hc
  unfold oALoad at ho
  generalize hg : loc.getD a.toNat (2, -1) = q at ho
  obtain ⟨t', z⟩ := q
  dsimp only at ho
  split at ho
  case isFalse => cases ho
  rename_i e
  intro ls H locs ad ⟨hl, hwf, hlo, hst, hn, hP, hD, hS⟩
  have hgl := jL_get hl hg (by omega)
  have K := hk _ _ _ _ ho ls H locs ad ⟨hl, hwf, hlo, List.forall_mem_cons.mpr ⟨jloc_ok hlo hg (by omega), hst⟩, hn, hP, hD, hS⟩
  rw [List.map_cons] at K
  by_cases hz : z = -1
  · subst hz
    rw [jtr_null e] at hgl K
    exact lv_aload_nN C.1 C.2.1 (dc_ok hc) rfl hgl K
  · rw [jtr_at e hz] at hgl K
    exact lv_aload_n C.1 C.2.1 (dc_ok hc) rfl hgl K
def hAload : jH := fun _ cc pc a _ _ => dc cc pc (.aload a.toNat) 2
theorem sAload {Γ : jCtx} {own : Nat} {cc : ByteArray} {ce : jC} {rF : Int × jS} (C : jCx Γ own cc) : jSim Γ own cc ce rF hAload (oALoad 2) := by
  intro a b t pc loc st S k hc ho hk
  unfold hAload at hc
  unfold oALoad at ho
  generalize hg : loc.getD a.toNat (2, -1) = q at ho
  obtain ⟨t', z⟩ := q
  dsimp only at ho
  split at ho
  case isFalse => cases ho
  rename_i e
  intro ls H locs ad ⟨hl, hwf, hlo, hst, hn, hP, hD, hS⟩
  have hgl := jL_get hl hg (by omega)
  have K := hk _ _ _ _ ho ls H locs ad ⟨hl, hwf, hlo, List.forall_mem_cons.mpr ⟨jloc_ok hlo hg (by omega), hst⟩, hn, hP, hD, hS⟩
  rw [List.map_cons] at K
  by_cases hz : z = -1
  · subst hz
    rw [jtr_null e] at hgl K
    exact lv_aloadN C.1 C.2.1 (dc_ok hc) hgl K
  · rw [jtr_at e hz] at hgl K
    exact lv_aload C.1 C.2.1 (dc_ok hc) hgl K
def hIstoreN : jH := fun _ cc pc a _ _ => if h : a.toNat < 4 then dc cc pc (.istore_n ⟨a.toNat, h⟩) 1 else false
theorem sIstoreN {Γ : jCtx} {own : Nat} {cc : ByteArray} {ce : jC} {rF : Int × jS} (C : jCx Γ own cc) : jSim Γ own cc ce rF hIstoreN (oStore 1) := by
  intro a b t pc loc st S k hc ho hk
  unfold hIstoreN at hc
  split at hc
  case isFalse => cases hc
  unfold oStore at ho
  split at ho
  case h_2 => cases ho
  rename_i z r
  split at ho
  case isFalse => cases ho
  rename_i hf
  intro ls H locs ad ⟨hl, hwf, hlo, hst, hn, hP, hD, hS⟩
  have hst := List.forall_mem_cons.mp hst
  refine lv_istore_n C.1 C.2.1 (dc_ok hc) rfl (jL_has hl) (by rw [← hl.2.1]; exact jfree_lt hf) rfl (fun ls' h' => ?_)
  exact hk _ _ _ _ ho ls' H locs ad ⟨jL_set hl.2.1 hf rfl h', hwf, jset_ok hlo hst.1, hst.2, hn, hP, hD, hS⟩
def hIstore : jH := fun _ cc pc a _ _ => dc cc pc (.istore a.toNat) 2
theorem sIstore {Γ : jCtx} {own : Nat} {cc : ByteArray} {ce : jC} {rF : Int × jS} (C : jCx Γ own cc) : jSim Γ own cc ce rF hIstore (oStore 2) := by
  intro a b t pc loc st S k hc ho hk
  unfold hIstore at hc
  unfold oStore at ho
  split at ho
  case h_2 => cases ho
  rename_i z r
  split at ho
  case isFalse => cases ho
  rename_i hf
  intro ls H locs ad ⟨hl, hwf, hlo, hst, hn, hP, hD, hS⟩
  have hst := List.forall_mem_cons.mp hst
  refine lv_istore C.1 C.2.1 (dc_ok hc) (jL_has hl) (by rw [← hl.2.1]; exact jfree_lt hf) rfl (fun ls' h' => ?_)
  exact hk _ _ _ _ ho ls' H locs ad ⟨jL_set hl.2.1 hf rfl h', hwf, jset_ok hlo hst.1, hst.2, hn, hP, hD, hS⟩
def hLstoreN : jH := fun _ cc pc a _ _ => if h : a.toNat < 4 then dc cc pc (.lstore_n ⟨a.toNat, h⟩) 1 else false
theorem sLstoreN {Γ : jCtx} {own : Nat} {cc : ByteArray} {ce : jC} {rF : Int × jS} (C : jCx Γ own cc) : jSim Γ own cc ce rF hLstoreN (oLStore 1) := by
  intro a b t pc loc st S k hc ho hk
  unfold hLstoreN at hc
  split at hc
  case isFalse => cases hc
  unfold oLStore at ho
  split at ho
  case h_2 => cases ho
  rename_i z r
  split at ho
  case isFalse => cases ho
  rename_i hf
  simp only [Bool.and_eq_true, decide_eq_true_eq] at hf
  intro ls H locs ad ⟨hl, hwf, hlo, hst, hn, hP, hD, hS⟩
  have hst := List.forall_mem_cons.mp hst
  refine lv_lstore_n C.1 C.2.1 (dc_ok hc) rfl (jL_has hl) (by rw [← hl.2.1]; exact hf.2) rfl (fun ls' h' => ?_)
  exact hk _ _ _ _ ho ls' H locs ad ⟨jL_set2 hl.2.1 hf.1 hf.2 rfl h', hwf, jset_ok (jset_ok hlo hst.1) jok_u, hst.2, hn, hP, hD, hS⟩
def hLstore : jH := fun _ cc pc a _ _ => dc cc pc (.lstore a.toNat) 2
theorem sLstore {Γ : jCtx} {own : Nat} {cc : ByteArray} {ce : jC} {rF : Int × jS} (C : jCx Γ own cc) : jSim Γ own cc ce rF hLstore (oLStore 2) := by
  intro a b t pc loc st S k hc ho hk
  unfold hLstore at hc
  unfold oLStore at ho
  split at ho
  case h_2 => cases ho
  rename_i z r
  split at ho
  case isFalse => cases ho
  rename_i hf
  simp only [Bool.and_eq_true, decide_eq_true_eq] at hf
  intro ls H locs ad ⟨hl, hwf, hlo, hst, hn, hP, hD, hS⟩
  have hst := List.forall_mem_cons.mp hst
  refine lv_lstore C.1 C.2.1 (dc_ok hc) (jL_has hl) (by rw [← hl.2.1]; exact hf.2) rfl (fun ls' h' => ?_)
  exact hk _ _ _ _ ho ls' H locs ad ⟨jL_set2 hl.2.1 hf.1 hf.2 rfl h', hwf, jset_ok (jset_ok hlo hst.1) jok_u, hst.2, hn, hP, hD, hS⟩
def hAstoreN : jH := fun _ cc pc a _ _ => if h : a.toNat < 4 then dc cc pc (.astore_n ⟨a.toNat, h⟩) 1 else false
theorem sAstoreN {Γ : jCtx} {own : Nat} {cc : ByteArray} {ce : jC} {rF : Int × jS} (C : jCx Γ own cc) : jSim Γ own cc ce rF hAstoreN (oAStore 1) := by
  intro a b t pc loc st S k hc ho hk
  unfold hAstoreN at hc
  split at hc
  case isFalse => cases hc
  unfold oAStore at ho
  split at ho
  case h_2 => cases ho
  rename_i u z r
  split at ho
  case isFalse => cases ho
  rename_i hu
  split at ho
  case isFalse => cases ho
  rename_i hf
  intro ls H locs ad ⟨hl, hwf, hlo, hst, hn, hP, hD, hS⟩
  have hst := List.forall_mem_cons.mp hst
  rw [List.map_cons]
  by_cases hz : z = -1
  · subst hz
    rw [jtr_null hu]
    refine lv_astore_nN C.1 C.2.1 (dc_ok hc) rfl (jL_has hl) (by rw [← hl.2.1]; exact jfree_lt hf) rfl (fun ls' h' => ?_)
    exact hk _ _ _ _ ho ls' H locs ad ⟨jL_set hl.2.1 hf (jtr_null hu).symm h', hwf, jset_ok hlo hst.1, hst.2, hn, hP, hD, hS⟩
  · rw [jtr_at hu hz]
    refine lv_astore_n C.1 C.2.1 (dc_ok hc) rfl (jL_has hl) (by rw [← hl.2.1]; exact jfree_lt hf) rfl (fun ls' h' => ?_)
    exact hk _ _ _ _ ho ls' H locs ad ⟨jL_set hl.2.1 hf (jtr_at hu hz).symm h', hwf, jset_ok hlo hst.1, hst.2, hn, hP, hD, hS⟩
def hAstore : jH := fun _ cc pc a _ _ => dc cc pc (.astore a.toNat) 2
theorem sAstore {Γ : jCtx} {own : Nat} {cc : ByteArray} {ce : jC} {rF : Int × jS} (C : jCx Γ own cc) : jSim Γ own cc ce rF hAstore (oAStore 2) := by
  intro a b t pc loc st S k hc ho hk
  unfold hAstore at hc
  unfold oAStore at ho
  split at ho
  case h_2 => cases ho
  rename_i u z r
  split at ho
  case isFalse => cases ho
  rename_i hu
  split at ho
  case isFalse => cases ho
  rename_i hf
  intro ls H locs ad ⟨hl, hwf, hlo, hst, hn, hP, hD, hS⟩
  have hst := List.forall_mem_cons.mp hst
  rw [List.map_cons]
  by_cases hz : z = -1
  · subst hz
    rw [jtr_null hu]
    refine lv_astoreN C.1 C.2.1 (dc_ok hc) (jL_has hl) (by rw [← hl.2.1]; exact jfree_lt hf) rfl (fun ls' h' => ?_)
    exact hk _ _ _ _ ho ls' H locs ad ⟨jL_set hl.2.1 hf (jtr_null hu).symm h', hwf, jset_ok hlo hst.1, hst.2, hn, hP, hD, hS⟩
  · rw [jtr_at hu hz]
    refine lv_astore C.1 C.2.1 (dc_ok hc) (jL_has hl) (by rw [← hl.2.1]; exact jfree_lt hf) rfl (fun ls' h' => ?_)
    exact hk _ _ _ _ ho ls' H locs ad ⟨jL_set hl.2.1 hf (jtr_at hu hz).symm h', hwf, jset_ok hlo hst.1, hst.2, hn, hP, hD, hS⟩
def hIinc : jH := fun _ cc pc a b _ => dc cc pc (.iinc a.toNat b) 3
theorem sIinc {Γ : jCtx} {own : Nat} {cc : ByteArray} {ce : jC} {rF : Int × jS} (C : jCx Γ own cc) : jSim Γ own cc ce rF hIinc oIinc := by
  intro a b t pc loc st S k hc ho hk
  unfold hIinc at hc
  unfold oIinc at ho
  generalize hg : loc.getD a.toNat (2, -1) = q at ho
  split at ho
  case h_2 => cases ho
  rename_i z
  split at ho
  case isFalse => cases ho
  rename_i hf
  intro ls H locs ad ⟨hl, hwf, hlo, hst, hn, hP, hD, hS⟩
  obtain ⟨i0, hi0⟩ := jlv_at (ad := ad) hg
  refine lv_iinc C.1 C.2.1 (dc_ok hc) (jL_has hl) hi0 (add32 z b).symm (by rw [← hl.2.1]; exact jfree_lt hf) rfl (fun ls' h' => ?_)
  exact hk _ _ _ _ ho ls' H locs ad ⟨jL_set hl.2.1 hf rfl h', hwf, jset_ok hlo (jok_i (w32_ok _)), hst, hn, hP, hD, hS⟩
def hIadd : jH := fun _ cc pc _ _ _ => dc cc pc .iadd 1
theorem sIadd {Γ : jCtx} {own : Nat} {cc : ByteArray} {ce : jC} {rF : Int × jS} (C : jCx Γ own cc) : jSim Γ own cc ce rF hIadd (oBin jadd) := by
  intro a b t pc loc st S k hc ho hk
  unfold hIadd at hc
  unfold oBin at ho
  split at ho
  case h_2 => cases ho
  rename_i y x r
  intro ls H locs ad ⟨hl, hwf, hlo, hst, hn, hP, hD, hS⟩
  have hst := List.forall_mem_cons.mp hst
  have hsx := List.forall_mem_cons.mp hst.2
  have K := hk _ _ _ _ ho ls H locs ad ⟨hl, hwf, hlo, List.forall_mem_cons.mpr ⟨jok_i (w32_ok _), hsx.2⟩, hn, hP, hD, hS⟩
  refine lv_iadd C.1 C.2.1 (dc_ok hc) ?_
  rw [← add32]
  exact K
def hIsub : jH := fun _ cc pc _ _ _ => dc cc pc .isub 1
theorem sIsub {Γ : jCtx} {own : Nat} {cc : ByteArray} {ce : jC} {rF : Int × jS} (C : jCx Γ own cc) : jSim Γ own cc ce rF hIsub (oBin jsub) := by
  intro a b t pc loc st S k hc ho hk
  unfold hIsub at hc
  unfold oBin at ho
  split at ho
  case h_2 => cases ho
  rename_i y x r
  intro ls H locs ad ⟨hl, hwf, hlo, hst, hn, hP, hD, hS⟩
  have hst := List.forall_mem_cons.mp hst
  have hsx := List.forall_mem_cons.mp hst.2
  have K := hk _ _ _ _ ho ls H locs ad ⟨hl, hwf, hlo, List.forall_mem_cons.mpr ⟨jok_i (w32_ok _), hsx.2⟩, hn, hP, hD, hS⟩
  refine lv_isub C.1 C.2.1 (dc_ok hc) ?_
  rw [← sub32]
  exact K
def hImul : jH := fun _ cc pc _ _ _ => dc cc pc .imul 1
theorem sImul {Γ : jCtx} {own : Nat} {cc : ByteArray} {ce : jC} {rF : Int × jS} (C : jCx Γ own cc) : jSim Γ own cc ce rF hImul (oBin jmul) := by
  intro a b t pc loc st S k hc ho hk
  unfold hImul at hc
  unfold oBin at ho
  split at ho
  case h_2 => cases ho
  rename_i y x r
  intro ls H locs ad ⟨hl, hwf, hlo, hst, hn, hP, hD, hS⟩
  have hst := List.forall_mem_cons.mp hst
  have hsx := List.forall_mem_cons.mp hst.2
  have K := hk _ _ _ _ ho ls H locs ad ⟨hl, hwf, hlo, List.forall_mem_cons.mpr ⟨jok_i (w32_ok _), hsx.2⟩, hn, hP, hD, hS⟩
  refine lv_imul C.1 C.2.1 (dc_ok hc) ?_
  rw [← mul32]
  exact K
def hIand : jH := fun _ cc pc _ _ _ => dc cc pc .iand 1
theorem sIand {Γ : jCtx} {own : Nat} {cc : ByteArray} {ce : jC} {rF : Int × jS} (C : jCx Γ own cc) : jSim Γ own cc ce rF hIand (oBin iAnd) := by
  intro a b t pc loc st S k hc ho hk
  unfold hIand at hc
  unfold oBin at ho
  split at ho
  case h_2 => cases ho
  rename_i y x r
  intro ls H locs ad ⟨hl, hwf, hlo, hst, hn, hP, hD, hS⟩
  have hst := List.forall_mem_cons.mp hst
  have hsx := List.forall_mem_cons.mp hst.2
  have K := hk _ _ _ _ ho ls H locs ad ⟨hl, hwf, hlo, List.forall_mem_cons.mpr ⟨jok_i (r32 _), hsx.2⟩, hn, hP, hD, hS⟩
  refine lv_iand C.1 C.2.1 (dc_ok hc) ?_
  rw [← and32]
  exact K
def hIor : jH := fun _ cc pc _ _ _ => dc cc pc .ior 1
theorem sIor {Γ : jCtx} {own : Nat} {cc : ByteArray} {ce : jC} {rF : Int × jS} (C : jCx Γ own cc) : jSim Γ own cc ce rF hIor (oBin iOr) := by
  intro a b t pc loc st S k hc ho hk
  unfold hIor at hc
  unfold oBin at ho
  split at ho
  case h_2 => cases ho
  rename_i y x r
  intro ls H locs ad ⟨hl, hwf, hlo, hst, hn, hP, hD, hS⟩
  have hst := List.forall_mem_cons.mp hst
  have hsx := List.forall_mem_cons.mp hst.2
  have K := hk _ _ _ _ ho ls H locs ad ⟨hl, hwf, hlo, List.forall_mem_cons.mpr ⟨jok_i (r32 _), hsx.2⟩, hn, hP, hD, hS⟩
  refine lv_ior C.1 C.2.1 (dc_ok hc) ?_
  rw [← or32]
  exact K
def hIxor : jH := fun _ cc pc _ _ _ => dc cc pc .ixor 1
theorem sIxor {Γ : jCtx} {own : Nat} {cc : ByteArray} {ce : jC} {rF : Int × jS} (C : jCx Γ own cc) : jSim Γ own cc ce rF hIxor (oBin iXor) := by
  intro a b t pc loc st S k hc ho hk
  unfold hIxor at hc
  unfold oBin at ho
  split at ho
  case h_2 => cases ho
  rename_i y x r
  intro ls H locs ad ⟨hl, hwf, hlo, hst, hn, hP, hD, hS⟩
  have hst := List.forall_mem_cons.mp hst
  have hsx := List.forall_mem_cons.mp hst.2
  have K := hk _ _ _ _ ho ls H locs ad ⟨hl, hwf, hlo, List.forall_mem_cons.mpr ⟨jok_i (r32 _), hsx.2⟩, hn, hP, hD, hS⟩
  refine lv_ixor C.1 C.2.1 (dc_ok hc) ?_
  rw [← xor32]
  exact K
def hIshl : jH := fun _ cc pc _ _ _ => dc cc pc .ishl 1
theorem sIshl {Γ : jCtx} {own : Nat} {cc : ByteArray} {ce : jC} {rF : Int × jS} (C : jCx Γ own cc) : jSim Γ own cc ce rF hIshl (oBin iShl) := by
  intro a b t pc loc st S k hc ho hk
  unfold hIshl at hc
  unfold oBin at ho
  split at ho
  case h_2 => cases ho
  rename_i y x r
  intro ls H locs ad ⟨hl, hwf, hlo, hst, hn, hP, hD, hS⟩
  have hst := List.forall_mem_cons.mp hst
  have hsx := List.forall_mem_cons.mp hst.2
  have K := hk _ _ _ _ ho ls H locs ad ⟨hl, hwf, hlo, List.forall_mem_cons.mpr ⟨jok_i (r32 _), hsx.2⟩, hn, hP, hD, hS⟩
  refine lv_ishl C.1 C.2.1 (dc_ok hc) ?_
  rw [← shl32]
  exact K
def hIshr : jH := fun _ cc pc _ _ _ => dc cc pc .ishr 1
theorem sIshr {Γ : jCtx} {own : Nat} {cc : ByteArray} {ce : jC} {rF : Int × jS} (C : jCx Γ own cc) : jSim Γ own cc ce rF hIshr (oBin iShr) := by
  intro a b t pc loc st S k hc ho hk
  unfold hIshr at hc
  unfold oBin at ho
  split at ho
  case h_2 => cases ho
  rename_i y x r
  intro ls H locs ad ⟨hl, hwf, hlo, hst, hn, hP, hD, hS⟩
  have hst := List.forall_mem_cons.mp hst
  have hsx := List.forall_mem_cons.mp hst.2
  have K := hk _ _ _ _ ho ls H locs ad ⟨hl, hwf, hlo, List.forall_mem_cons.mpr ⟨jok_i (r32 _), hsx.2⟩, hn, hP, hD, hS⟩
  refine lv_ishr C.1 C.2.1 (dc_ok hc) ?_
  rw [← shr32]
  exact K
def hIushr : jH := fun _ cc pc _ _ _ => dc cc pc .iushr 1
theorem sIushr {Γ : jCtx} {own : Nat} {cc : ByteArray} {ce : jC} {rF : Int × jS} (C : jCx Γ own cc) : jSim Γ own cc ce rF hIushr (oBin iUshr) := by
  intro a b t pc loc st S k hc ho hk
  unfold hIushr at hc
  unfold oBin at ho
  split at ho
  case h_2 => cases ho
  rename_i y x r
  intro ls H locs ad ⟨hl, hwf, hlo, hst, hn, hP, hD, hS⟩
  have hst := List.forall_mem_cons.mp hst
  have hsx := List.forall_mem_cons.mp hst.2
  have K := hk _ _ _ _ ho ls H locs ad ⟨hl, hwf, hlo, List.forall_mem_cons.mpr ⟨jok_i (r32 _), hsx.2⟩, hn, hP, hD, hS⟩
  refine lv_iushr C.1 C.2.1 (dc_ok hc) rfl ?_
  rw [← ushr32]
  exact K
def hLadd : jH := fun _ cc pc _ _ _ => dc cc pc .ladd 1
theorem sLadd {Γ : jCtx} {own : Nat} {cc : ByteArray} {ce : jC} {rF : Int × jS} (C : jCx Γ own cc) : jSim Γ own cc ce rF hLadd (oBinL ladd) := by
  intro a b t pc loc st S k hc ho hk
  unfold hLadd at hc
  unfold oBinL at ho
  split at ho
  case h_2 => cases ho
  rename_i y x r
  intro ls H locs ad ⟨hl, hwf, hlo, hst, hn, hP, hD, hS⟩
  have hst := List.forall_mem_cons.mp hst
  have hsx := List.forall_mem_cons.mp hst.2
  have K := hk _ _ _ _ ho ls H locs ad ⟨hl, hwf, hlo, List.forall_mem_cons.mpr ⟨jok_l (w64_ok _), hsx.2⟩, hn, hP, hD, hS⟩
  refine lv_ladd C.1 C.2.1 (dc_ok hc) ?_
  rw [← add64]
  exact K
def hLsub : jH := fun _ cc pc _ _ _ => dc cc pc .lsub 1
theorem sLsub {Γ : jCtx} {own : Nat} {cc : ByteArray} {ce : jC} {rF : Int × jS} (C : jCx Γ own cc) : jSim Γ own cc ce rF hLsub (oBinL lsub) := by
  intro a b t pc loc st S k hc ho hk
  unfold hLsub at hc
  unfold oBinL at ho
  split at ho
  case h_2 => cases ho
  rename_i y x r
  intro ls H locs ad ⟨hl, hwf, hlo, hst, hn, hP, hD, hS⟩
  have hst := List.forall_mem_cons.mp hst
  have hsx := List.forall_mem_cons.mp hst.2
  have K := hk _ _ _ _ ho ls H locs ad ⟨hl, hwf, hlo, List.forall_mem_cons.mpr ⟨jok_l (w64_ok _), hsx.2⟩, hn, hP, hD, hS⟩
  refine lv_lsub C.1 C.2.1 (dc_ok hc) ?_
  rw [← sub64]
  exact K
def hLmul : jH := fun _ cc pc _ _ _ => dc cc pc .lmul 1
theorem sLmul {Γ : jCtx} {own : Nat} {cc : ByteArray} {ce : jC} {rF : Int × jS} (C : jCx Γ own cc) : jSim Γ own cc ce rF hLmul (oBinL lmul) := by
  intro a b t pc loc st S k hc ho hk
  unfold hLmul at hc
  unfold oBinL at ho
  split at ho
  case h_2 => cases ho
  rename_i y x r
  intro ls H locs ad ⟨hl, hwf, hlo, hst, hn, hP, hD, hS⟩
  have hst := List.forall_mem_cons.mp hst
  have hsx := List.forall_mem_cons.mp hst.2
  have K := hk _ _ _ _ ho ls H locs ad ⟨hl, hwf, hlo, List.forall_mem_cons.mpr ⟨jok_l (w64_ok _), hsx.2⟩, hn, hP, hD, hS⟩
  refine lv_lmul C.1 C.2.1 (dc_ok hc) ?_
  rw [← mul64]
  exact K
def hLand : jH := fun _ cc pc _ _ _ => dc cc pc .land 1
theorem sLand {Γ : jCtx} {own : Nat} {cc : ByteArray} {ce : jC} {rF : Int × jS} (C : jCx Γ own cc) : jSim Γ own cc ce rF hLand (oBinL lAnd) := by
  intro a b t pc loc st S k hc ho hk
  unfold hLand at hc
  unfold oBinL at ho
  split at ho
  case h_2 => cases ho
  rename_i y x r
  intro ls H locs ad ⟨hl, hwf, hlo, hst, hn, hP, hD, hS⟩
  have hst := List.forall_mem_cons.mp hst
  have hsx := List.forall_mem_cons.mp hst.2
  have K := hk _ _ _ _ ho ls H locs ad ⟨hl, hwf, hlo, List.forall_mem_cons.mpr ⟨jok_l (r64 _), hsx.2⟩, hn, hP, hD, hS⟩
  refine lv_land C.1 C.2.1 (dc_ok hc) ?_
  rw [← and64]
  exact K
def hLor : jH := fun _ cc pc _ _ _ => dc cc pc .lor 1
theorem sLor {Γ : jCtx} {own : Nat} {cc : ByteArray} {ce : jC} {rF : Int × jS} (C : jCx Γ own cc) : jSim Γ own cc ce rF hLor (oBinL lOr) := by
  intro a b t pc loc st S k hc ho hk
  unfold hLor at hc
  unfold oBinL at ho
  split at ho
  case h_2 => cases ho
  rename_i y x r
  intro ls H locs ad ⟨hl, hwf, hlo, hst, hn, hP, hD, hS⟩
  have hst := List.forall_mem_cons.mp hst
  have hsx := List.forall_mem_cons.mp hst.2
  have K := hk _ _ _ _ ho ls H locs ad ⟨hl, hwf, hlo, List.forall_mem_cons.mpr ⟨jok_l (r64 _), hsx.2⟩, hn, hP, hD, hS⟩
  refine lv_lor C.1 C.2.1 (dc_ok hc) ?_
  rw [← or64]
  exact K
