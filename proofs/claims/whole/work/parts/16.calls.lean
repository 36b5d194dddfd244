/-! CALLS: contracts of the pure machine's methods -/
def jrm (d mc ms : Nat) : Room := { frames := d + 7, cells := mc, slots := ms, locals := 60 * (d + 7) }
def jws (m : Nat) : List Cond := jcodew (jme m) :: jtbl
def jrt (m : Nat) : Option Nat := match (jme m).2.2.2.1 with
  | none => none
  | some .long => some 1
  | some (.array _) => some 24
  | some _ => some 0
/-- what a method's world is at its start -/
def jPre (D : va_G) (cy : Nat → ClassId) (ad : Int → Nat) (v0 sz : Nat) (S : jS) (U : State) : Prop := U.heap.size = sz ∧ va_P D vwCl (jwld cy ad S) U.heap ∧ va_K D vwCl (jtys cy) U ∧ va_D (fun _ => True) (jwld cy ad S) ∧ jE (ad (-3)) v0 (va_A (jwld cy ad S) sz) U U.heap ∧ jX0 U
/-- .. and at its end -/
def jPost (D : va_G) (cy : Nat → ClassId) (ad : Int → Nat) (sz : Nat) (S : jS) (rt : Option Nat) (z : Int) (S' : jS) : Array Value → State → Outcome → State → Prop := fun _ st o t => ∃ ad' : Int → Nat, (∀ w : Int, w < gN S.1 → ad' w = ad w) ∧ o = .returned (rt.map (fun g => jtr ad' (g, z))) ∧ va_P D vwCl (jwld cy ad' S') t.heap ∧ va_K D vwCl (jtys cy) t ∧ va_D (va_A (jwld cy ad S) sz) (jwld cy ad' S') ∧ va_F (va_A (jwld cy ad S) sz) st t ∧ jWF S' ∧ (∀ g, rt = some g → jok S' (g, z)) ∧ gN S.1 ≤ gN S'.1 ∧ gM S.1 ≤ gM S'.1 ∧ (∀ i j : Int, gR S'.1 i j < gN S'.1) ∧ ∀ w : Int, w < gN S.1 → gK S'.1 w = gK S.1 w
def jMet (l : Launch) (d m : Nat) (args : List jV) (S : jS) (z : Int) (S' : jS) : Prop := ∀ (D : va_G) (cy : Nat → ClassId) (ad : Int → Nat) (v0 sz : Nat), jWF S → (∀ v ∈ args, jok S v) → (∀ i j : Int, gR S.1 i j < gN S.1) → Met l (jy m) (jws m) (jrm d (gN S'.1 - gN S.1) (gM S'.1 - gM S.1)) (va_Pc (args.map (jtr ad)) (jPre D cy ad v0 sz S)) (jPost D cy ad sz S (jrt m) z S') (gN S'.1 - gN S.1) (gM S'.1 - gM S.1) (va_A (jwld cy ad S) sz)
/-- an answer comes on the stack -/
def jpush (rt : Option Nat) (z : Int) (rest : List jV) : List jV := match rt with
  | none => rest
  | some g => (g, z) :: rest
theorem jtr_agree {S : jS} {ad ad' : Int → Nat} {v : jV} (h : jok S v) (ha : ∀ w : Int, w < gN S.1 → ad' w = ad w) : jtr ad' v = jtr ad v := by
  obtain ⟨t, z⟩ := v
  unfold jtr
  dsimp only
  by_cases h0 : t = 0
  · rw [if_pos h0, if_pos h0]
  · by_cases h1 : t = 1
    · rw [if_neg h0, if_neg h0, if_pos h1, if_pos h1]
    · rw [if_neg h0, if_neg h0, if_neg h1, if_neg h1]
      unfold jref
      rw [ha z (h.2.2.2.2 (by dsimp only; omega))]
theorem jok_grow {S S' : jS} {v : jV} (h : jok S v) (hN : gN S.1 ≤ gN S'.1) (hK : ∀ w : Int, w < gN S.1 → gK S'.1 w = gK S.1 w) : jok S' v := by
  refine ⟨h.1, h.2.1, fun a b => ?_, h.2.2.2.1, fun a => by have := h.2.2.2.2 a; omega⟩
  rcases h.2.2.1 a b with q | q
  · exact Or.inl q
  · exact Or.inr ⟨q.1, by omega, by rw [hK _ q.2.1]; exact q.2.2⟩
/-- behind a call -/
theorem jback {Γ : jCtx} {own : Nat} {cc : ByteArray} (C : jCx Γ own cc) {S S' : jS} {loc st0 rest : List jV} {ls : Array Slot} {H : Heap} {locs : List Loc} {ad : Int → Nat} {pc : Nat} {rt : Option Nat} {z : Int} {a : Array Value} {sk : List Value}
    (hr : va_Run (xp Γ) (xl Γ) (xe Γ) (xR Γ) (xs Γ) (xm Γ) (xa Γ) (xb Γ) (xM Γ) (xc Γ) H locs (gN S.1 - xk Γ) (gM S.1 - xj Γ) (gN S'.1 - gN S.1) (gM S'.1 - gM S.1) (F0 (xm Γ) pc ls sk) (rest.map (jtr ad)) (jPost (xD Γ) (xy Γ) ad H.size S rt z S' a) (va_A (jwld (xy Γ) ad S) H.size))
    (hat : jAt Γ loc st0 S ls H locs ad) (hrest : ∀ v ∈ rest, jok S v) (hk : jK Γ (pc + 3) loc (jpush rt z rest) S') : jW Γ S H locs (F0 (xm Γ) pc ls sk) := by
  obtain ⟨hl, hwf, hlo, hst, hn, hP, hD, hS⟩ := hat
  intro T hT X
  obtain ⟨v, st₀, t, T', L, h0, X', hL, e1, e2, ⟨ad', p1, p2, p3, p4, p5, ⟨p6, p7⟩, p8, p9, p10, p11, p12, p13⟩, st⟩ := hr T hT X
  have hv : v = rt.map (fun g => jtr ad' (g, z)) := Outcome.returned.inj p2
  rw [h0] at p6 p7
  have hfree : ∀ q, va_A (jwld (xy Γ) ad S) H.size q → xA Γ q := by
    intro q hq
    rcases hq with ⟨k, en, hq⟩ | hq
    · exact hD.2 k (q, en) hq
    · exact C.2.2.2.2.2.2.1 q (Nat.le_trans hS.1 hq)
  have h1 := hn.2.1
  have h2 := hn.2.2.1
  have hst' : ∀ w ∈ jpush rt z rest, jok S' w := by
    cases rt with
    | none => exact fun w hw => jok_grow (hrest w hw) p10 p13
    | some g => exact List.forall_mem_cons.mpr ⟨p9 g rfl, fun w hw => jok_grow (hrest w hw) p10 p13⟩
  have hAt : jAt Γ loc (jpush rt z rest) S' ls T'.heap (locs ++ L) ad' := by
    refine ⟨⟨hl.1, hl.2.1, hl.2.2.1, fun i w hi hw => ?_⟩, p8, fun w hw => jok_grow (hlo w hw) p10 p13, hst', ⟨fun w hw => ?_, by omega, by omega, p12, fun w hw => ?_⟩, by rw [e1]; exact p3, p5.weaken (fun _ _ _ h => hfree _ h), ?_⟩
    · rw [jtr_agree (hlo w (List.mem_of_getElem? hi)) p1]
      exact hl.2.2.2 i w hi hw
    · rw [p1 w (by omega)]
      exact hn.1 w hw
    · rw [p13 w (by omega)]
      exact hn.2.2.2.2 w hw
    · refine ⟨Nat.le_trans hS.1 (by rw [e1]; exact p6), fun q g1 g2 => ?_, fun q hq => ?_⟩
      · rw [e1, p7 q (Nat.lt_of_lt_of_le g1 hS.1) (fun w => g2 (hfree q w))]
        exact hS.2.1 q g1 g2
      · rcases List.mem_append.mp hq with w | w
        · exact hS.2.2 q w
        · exact hfree _ (hL q w)
  have K := hk ls T'.heap (locs ++ L) ad' hAt
  have hstack : v.toList ++ rest.map (jtr ad) = (jpush rt z rest).map (jtr ad') := by
    have hr' : rest.map (jtr ad) = rest.map (jtr ad') := List.map_congr_left (fun w hw => (jtr_agree (hrest w hw) p1).symm)
    rw [hv, hr']
    cases rt with
    | none => rfl
    | some g => rfl
  unfold jW at K
  rw [show gN S'.1 - xk Γ = gN S.1 - xk Γ + (gN S'.1 - gN S.1) by omega, show gM S'.1 - xj Γ = gM S.1 - xj Γ + (gM S'.1 - gM S.1) by omega, ← hstack] at K
  obtain ⟨t2, a1, b1⟩ := K T' rfl X'
  exact ⟨t2, st t2 a1, b1⟩
theorem va_AOA.moved {ty : FieldType} {u U : State} (hvm : u.vm.Alike U.vm) (h : va_AOA ty u) : va_AOA ty U := by
  have e := Cond.arrayOver_setVmC (args := #[]) hvm (.array ty)
  unfold va_AOA at *
  rw [← e] at h
  exact h
theorem jX0.warm {s U : State} (hW : s.WarmedH U.vm) (h : jX0 s) : jX0 U := ⟨fun q hq => va_Nw.warmM hW (h.1 q hq), h.2.1.moved hW.alike, h.2.2.1.moved hW.alike, h.2.2.2.moved hW.alike⟩
theorem jX0.same {u U : State} (hv : u.vm = U.vm) (h : jX0 u) : jX0 U := ⟨fun q hq => va_Nw.same rfl hv (h.1 q hq), h.2.1.moved (by rw [hv]; exact Vm.Alike.refl _), h.2.2.1.moved (by rw [hv]; exact Vm.Alike.refl _), h.2.2.2.moved (by rw [hv]; exact Vm.Alike.refl _)⟩
theorem jE.warm {a v : Nat} {A B : Nat → Prop} {s U : State} {H H1 : Heap} (hW : s.WarmedH U.vm) (h : jE a v A s H) (hq : ∀ a : Nat, a < H.size → ¬ A a → H1[a]? = H[a]?) (hAB : ∀ q, B q → A q) : jE a v B U H1 :=
  ⟨vk_R.warm hW h.1, ((h.2.1.moved hW.alike).kept hq).narrow hAB, ((h.2.2.1.moved hW.alike).kept hq).narrow hAB, by
    obtain ⟨w, h1, h2⟩ := h.2.2.2
    exact ⟨w, h1, ((h2.moved hW.alike).kept hq).narrow hAB⟩⟩
theorem jE.same {a v : Nat} {A : Nat → Prop} {u U : State} {H : Heap} (hv : u.vm = U.vm) (h : jE a v A u H) : jE a v A U H :=
  ⟨vk_R.same hv.symm h.1, h.2.1.moved (by rw [hv]; exact Vm.Alike.refl _), h.2.2.1.moved (by rw [hv]; exact Vm.Alike.refl _), by
    obtain ⟨w, h1, h2⟩ := h.2.2.2
    exact ⟨w, h1, h2.moved (by rw [hv]; exact Vm.Alike.refl _)⟩⟩
theorem jblind (D : va_G) (cy : Nat → ClassId) (ad : Int → Nat) (v0 sz : Nat) (S : jS) (av : List Value) : FrameBlind (va_Pc av (jPre D cy ad v0 sz S)) := by
  intro a U g mk h
  obtain ⟨h1, h2, h3, h4, h5, h6, h7⟩ := h
  exact ⟨h1, h2, h3, va_K.moved (u := U) (U := U.calling g mk a) (Vm.Alike.refl U.vm) h4, h5, jE.same (u := U) rfl h6, jX0.same (u := U) rfl h7⟩
theorem jPre_of {Γ : jCtx} {own : Nat} {cc : ByteArray} (C : jCx Γ own cc) {S : jS} {loc st : List jV} {ls : Array Slot} {H : Heap} {locs : List Loc} {ad : Int → Nat} (hat : jAt Γ loc st S ls H locs ad) (U : State) (hU : U.heap = H) (hW : (xs Γ).WarmedH U.vm) : jPre (xD Γ) (xy Γ) ad (xv Γ) H.size S U := by
  obtain ⟨hl, hwf, hlo, hst, hn, hP, hD, hS⟩ := hat
  have hfree : ∀ q, va_A (jwld (xy Γ) ad S) H.size q → xA Γ q := by
    intro q hq
    rcases hq with ⟨k, en, hq⟩ | hq
    · exact hD.2 k (q, en) hq
    · exact C.2.2.2.2.2.2.1 q (Nat.le_trans hS.1 hq)
  refine ⟨by rw [hU], by rw [hU]; exact hP, va_K.moved hW.alike C.2.2.2.2.2.1, hD.weaken (fun _ _ _ _ => trivial), ?_, jX0.warm hW C.2.2.2.2.2.2.2.2.2.1⟩
  rw [hU, hn.1 (-3) (by omega)]
  exact jE.warm hW C.2.2.2.2.2.2.2.2.1 (fun a h1 h2 => hS.2.1 a h1 h2) hfree
theorem jgood {m : Nat} (h : m < 343) (hl : m ≠ 342) : GoodIn jtbl (jws m) := by
  intro w hw
  have hm : w ∈ jtbl := by
    rcases List.mem_cons.mp hw with e | e
    · rw [e]
      exact cw_ok h hl
    · exact e
  exact ⟨hm, good_of_word (List.mem_filter.mp hm).2⟩
/-- facts of a method that can be called, by program -/
def jcallee (m n : Nat) : Bool := decide (m < 343 ∧ m ≠ 342 ∧ (jme m).2.2.2.2 < 17 ∧ (jme m).2.2.1 ≤ 30 ∧ (jy m).cls = jcn.getD (jme m).2.2.2.2 "" ∧ (jy m).cls ≠ "java/lang/invoke/MethodHandle" ∧ (jy m).cls ≠ "java/lang/invoke/VarHandle" ∧ (parseMethodDescriptor (jy m).desc).map (fun d => d.parameters.length) = some n)
def jrtI (m : Nat) : Int := match jrt m with
  | none => 99
  | some g => g
/-- virtual calls: the link's number b in jml -/
def hCallV : jH := fun own cc pc a b t => match jml[b.toNat]? with
  | some (o, i, m) => dc cc pc (.invokevirtual i) 3 && (decide (o = own ∧ m = a.toNat ∧ m ∈ jinst ∧ (m ∈ jvt ∨ m ∈ jvp) ∧ 1 ≤ (t.getD 0 0).toNat ∧ t.getD 1 0 = jrtI m ∧ (t.getD 2 0).toNat = 10 + (jme m).2.2.2.2 ∧ (jme m).2.2.2.2 ≤ 12) && jcallee m ((t.getD 0 0).toNat - 1))
  | none => false
theorem jstk {m : Nat} {t : List Int} {rest : List jV} {z : Int} (h : t.getD 1 0 = jrtI m) : (if t.getD 1 0 = 99 then rest else ((t.getD 1 0).toNat, z) :: rest) = jpush (jrt m) z rest := by
  rw [h]
  unfold jrtI
  have hj : jrt m = none ∨ jrt m = some 0 ∨ jrt m = some 1 ∨ jrt m = some 24 := by
    unfold jrt
    split
    · exact Or.inl rfl
    · exact Or.inr (Or.inr (Or.inl rfl))
    · exact Or.inr (Or.inr (Or.inr rfl))
    · exact Or.inr (Or.inl rfl)
  rcases hj with q | q | q | q <;> rw [q] <;> rfl
theorem jtake {st : List jV} {n : Nat} (h : n ≤ st.length) : st = (st.take n).reverse.reverse ++ st.drop n := by
  rw [List.reverse_reverse, List.take_append_drop]
/-- the receiver and the other arguments -/
theorem jrecv {st : List jV} {n : Nat} {v : jV} (h : (st.take n).getLast? = some v) : ∃ as : List jV, (st.take n).reverse = v :: as := by
  cases hr : (st.take n).reverse with
  | nil =>
    rw [List.reverse_eq_nil_iff] at hr
    rw [hr] at h
    cases h
  | cons w as =>
    refine ⟨as, ?_⟩
    have e : st.take n = as.reverse ++ [w] := by
      rw [← List.reverse_reverse (st.take n), hr, List.reverse_cons]
    rw [e, List.getLast?_append] at h
    simp at h
    rw [h]
