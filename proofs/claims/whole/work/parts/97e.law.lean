/-! THE LAW: what the pure machine says of it holds of the law -/
theorem arr_of {s : State} {cA : ClassId} {kA : Class} {comp : ClassId} {ty : FieldType} (h1 : s.vm.classes[cA]? = some kA) (h2 : kA.kind = .array comp ty) : ArrOfT s cA ty := fun n z => ⟨(fun k q => by cases q), kA, h1, comp, h2⟩
theorem arr_prim {s : State} {args : Array Value} {ty : FieldType} (ht : ∀ C, ty ≠ .object C) (h : (Cond.arrayClass ty).before args s = true) : ∃ cA : ClassId, ArrOfT s cA ty ∧ va_RA s cA ty := by
  obtain ⟨cA, kA, comp, h1, h2, h3⟩ := Cond.arrayClass_spec h
  refine ⟨cA, arr_of h2 h3, ?_⟩
  unfold va_RA
  cases ty with
  | object C => exact absurd rfl (ht C)
  | _ => exact h1
theorem arr_obj {s : State} {args : Array Value} {C : String} (h : (Cond.arrayOver (.object C)).before args s = true) : ∃ cA : ClassId, ArrOfT s cA (.object C) ∧ va_RA s cA (.object C) := by
  obtain ⟨comp, c, k, h1, h2, h3, h4, h5⟩ := Cond.arrayOver_spec h
  exact ⟨c, arr_of h3 h4, k, comp, h3, h4, h1, h5⟩
theorem arr_arr {s : State} {args : Array Value} {ty : FieldType} (h : (Cond.arrayOver (.array ty)).before args s = true) : ∃ cA : ClassId, ArrOfT s cA (.array ty) ∧ va_RA s cA (.array ty) := by
  have h : (Cond.arrayOver (.array ty)).holds args s none s [] = true := h
  simp only [Cond.holds, Cond.value, beq_iff_eq] at h
  cases hc : s.vm.findClass (FieldType.array ty).toString with
  | none => simp [hc] at h
  | some comp =>
    simp only [hc, Option.bind_some, Option.bind_eq_some_iff, Option.map_eq_some_iff] at h
    obtain ⟨c, hi, k, hk, hb⟩ := h
    cases hkind : k.kind with
    | array component t =>
      rw [hkind] at hb
      simp at hb
      refine ⟨c, arr_of (comp := component) hk (by rw [hkind, hb.1]), ?_⟩
      exact hb.2
    | _ => rw [hkind] at hb; simp at hb
/-- the classes, as the tables have them -/
theorem law_K {s : State} {args : Array Value} (hts : ∀ w ∈ lw_tbl, w.before args s = true) : ∃ (D : va_G) (cy : Nat → ClassId), va_K D vwCl (jtys cy) s := by
  have hj : ∀ w ∈ jtbl, w.before args s = true := fun w hw => hts w (List.mem_filter.mp hw).1
  have h0 : ∀ c : Nat, ∃ q : ClassId × (Nat → Nat), c ≤ 12 → u_Kn s (jcn.getD c "") (jFT c) (jnf.getD c 0) q.1 q.2 := by
    intro c
    by_cases hc : c ≤ 12
    · obtain ⟨cC, iS, h⟩ := u_known (C := jcn.getD c "") (T := jFT c) (N := jnf.getD c 0) hj (lay_ok hc) (hj _ (inst_ok hc))
      exact ⟨(cC, iS), fun _ => h⟩
    · exact ⟨(0, fun _ => 0), fun h => absurd h hc⟩
  obtain ⟨dd, hd⟩ := Classical.axiomOfChoice h0
  obtain ⟨c13, a13, b13⟩ := arr_prim (ty := .char) (fun C q => by cases q) (hj _ (mi_ok 5 rfl rfl))
  obtain ⟨c14, a14, b14⟩ := arr_prim (ty := .int) (fun C q => by cases q) (hj _ (mi_ok 6 rfl rfl))
  obtain ⟨c15, a15, b15⟩ := arr_prim (ty := .long) (fun C q => by cases q) (hj _ (mi_ok 7 rfl rfl))
  obtain ⟨c16, a16, b16⟩ := arr_prim (ty := .boolean) (fun C q => by cases q) (hj _ (mi_ok 8 rfl rfl))
  obtain ⟨c17, a17, b17⟩ := arr_obj (C := RX1) (hts _ (ov_ok _ (List.mem_of_getElem? (i := 0) rfl)))
  obtain ⟨c18, a18, b18⟩ := arr_obj (C := RX3) (hts _ (ov_ok _ (List.mem_of_getElem? (i := 1) rfl)))
  obtain ⟨c19, a19, b19⟩ := arr_arr (ty := .int) (hts _ (ov_ok _ (List.mem_of_getElem? (i := 2) rfl)))
  refine ⟨(fun c => (dd c).1, fun c => (dd c).2), fun k => if k = 13 then c13 else if k = 14 then c14 else if k = 15 then c15 else if k = 16 then c16 else if k = 17 then c17 else if k = 18 then c18 else c19, fun c q hq => ?_, fun k q hk => ?_⟩
  · by_cases hc : c ≤ 12
    · rw [cls_ok c hc] at hq
      cases hq
      exact hd c hc
    · rw [List.getElem?_eq_none (by show 13 ≤ c; omega)] at hq
      cases hq
  · match k, hk with
    | 0, hk => cases hk; exact ⟨a13, b13⟩
    | 1, hk => cases hk; exact ⟨a14, b14⟩
    | 2, hk => cases hk; exact ⟨a15, b15⟩
    | 3, hk => cases hk; exact ⟨a16, b16⟩
    | 4, hk => cases hk; exact ⟨a17, b17⟩
    | 5, hk => cases hk; exact ⟨a18, b18⟩
    | 6, hk => cases hk; exact ⟨a19, b19⟩
    | k + 7, hk => cases hk
def sTm : Term := Term.string "SundayPit$Reader" 67
def sEl (j : Nat) : Cond := Cond.eq (.elem (.field sTm "java/lang/String" "value" "[B") (.int (Int32.ofNat j))) (.int ((jWords.map Int32.ofInt).getD j 0))
def zlC : List Cond := flatC (Jvm.Cond.and given_1 narrow_1)
set_option maxRecDepth 100000 in
theorem law_el1 : ((zlC.drop 39).take 60) = (List.range 60).map sEl := by decide +kernel
set_option maxRecDepth 100000 in
theorem law_el2 : ((zlC.drop 99).take 60) = (List.range 60).map (fun j => sEl (60 + j)) := by decide +kernel
set_option maxRecDepth 100000 in
theorem law_el3 : ((zlC.drop 159).take 58) = (List.range 58).map (fun j => sEl (120 + j)) := by decide +kernel
theorem law_el (j : Nat) (h : j < 178) : sEl j ∈ zlC := by
  by_cases h1 : j < 60
  · have q : sEl j ∈ (zlC.drop 39).take 60 := by rw [law_el1]; exact List.mem_map.mpr ⟨j, List.mem_range.mpr h1, rfl⟩
    exact List.mem_of_mem_drop (List.mem_of_mem_take q)
  · by_cases h2 : j < 120
    · have q : sEl j ∈ (zlC.drop 99).take 60 := by rw [law_el2]; exact List.mem_map.mpr ⟨j - 60, List.mem_range.mpr (by omega), by rw [show 60 + (j - 60) = j by omega]⟩
      exact List.mem_of_mem_drop (List.mem_of_mem_take q)
    · have q : sEl j ∈ (zlC.drop 159).take 58 := by rw [law_el3]; exact List.mem_map.mpr ⟨j - 120, List.mem_range.mpr (by omega), by rw [show 120 + (j - 120) = j by omega]⟩
      exact List.mem_of_mem_drop (List.mem_of_mem_take q)
set_option maxRecDepth 100000 in
theorem lf_35 : Cond.exactly sTm "java/lang/String" ∈ zlC := List.mem_of_getElem? (i := 35) (by decide +kernel)
set_option maxRecDepth 100000 in
theorem lf_36 : Cond.eq (.field sTm "java/lang/String" "coder" "B") (.int 0) ∈ zlC := List.mem_of_getElem? (i := 36) (by decide +kernel)
set_option maxRecDepth 100000 in
theorem lf_37 : Cond.arrayOf (.field sTm "java/lang/String" "value" "[B") .byte ∈ zlC := List.mem_of_getElem? (i := 37) (by decide +kernel)
set_option maxRecDepth 100000 in
theorem lf_38 : Cond.eq (.length (.field sTm "java/lang/String" "value" "[B")) (.int (Int32.ofNat 178)) ∈ zlC := List.mem_of_getElem? (i := 38) (by decide +kernel)
set_option maxRecDepth 100000 in
theorem lf_4 : Cond.eq (.static "java/lang/String" "COMPACT_STRINGS" "Z") (.int 1) ∈ zlC := List.mem_of_getElem? (i := 4) (by decide +kernel)
set_option maxRecDepth 100000 in
theorem lf_5 : Cond.isRef (.static "jdk/internal/util/Preconditions" "SIOOBE_FORMATTER" "Ljava/util/function/BiFunction;") ∈ zlC := List.mem_of_getElem? (i := 5) (by decide +kernel)
set_option maxRecDepth 100000 in
theorem lt_548 : Cond.stringRef "SundayPit$Reader" 67 "pit at kind rest gas row house mix may worth tilt holds props leans depth across near span open fallen whole number tubs or and not all min max first last often total most least " ∈ tables_1 := List.mem_of_getElem? (i := 548) (by decide +kernel)
set_option maxRecDepth 100000 in
theorem lt_558 : Cond.laysStatic "java/lang/String" "COMPACT_STRINGS" "Z" ∈ tables_1 := List.mem_of_getElem? (i := 558) (by decide +kernel)
set_option maxRecDepth 100000 in
theorem lt_574 : Cond.laysStatic "jdk/internal/util/Preconditions" "SIOOBE_FORMATTER" "Ljava/util/function/BiFunction;" ∈ tables_1 := List.mem_of_getElem? (i := 574) (by decide +kernel)
set_option maxRecDepth 100000 in
theorem lt_16 : Cond.initialized "java/lang/String" ∈ tables_1 := List.mem_of_getElem? (i := 16) (by decide +kernel)
set_option maxRecDepth 100000 in
theorem lt_18 : Cond.initialized "jdk/internal/util/Preconditions" ∈ tables_1 := List.mem_of_getElem? (i := 18) (by decide +kernel)
/-- the string constant at the law's start -/
theorem law_E {s : State} {args : Array Value} {A : Nat → Prop} (hts : ∀ w ∈ lw_tbl, w.before args s = true) (hgv : (Jvm.Cond.and given_1 narrow_1).before args s = true) (hA : ∀ a : Nat, a < s.heap.size → ¬ A a) : ∃ a v : Nat, jE a v A s s.heap := by
  have hs : ∀ c ∈ zlC, c.before args s = true := flat_of_before _ hgv
  have ht : ∀ c ∈ tables_1, c.before args s = true := fun c hc => hts c (List.mem_append_right _ hc)
  obtain ⟨adK, adV, h1, h2⟩ := vk_Sof (N := 1) (tm := fun _ => sTm) (len := [178]) (byt := [jWords.map Int32.ofInt]) (A := A) (args := args) (s := s) (fun i hi => by rw [show i = 0 by omega]; decide) (fun i hi => hs _ lf_35) (fun i hi => hs _ lf_36) (fun i hi => hs _ lf_37) (fun i hi => by rw [show i = 0 by omega]; exact hs _ lf_38) (fun i hi j hj => by rw [show i = 0 by omega] at hj ⊢; exact hs _ (law_el j hj)) (fun i j hi hj hne => absurd (show i = j by omega) hne) hA
  have k0 := h1.1 0 (by decide)
  have r0 := vk_R.of (ht _ lt_548) (h2 0 (by decide))
  have z0 := va_Zof (A := A) (ht _ lt_558) (ht _ lt_16) (va_eqt (hs _ lf_4)) hA
  have y0 := va_Zqof (A := A) (ht _ lt_574) (ht _ lt_18) (hs _ lf_5) hA
  have s0 : vk_S 1 [178] [jWords.map Int32.ofInt] (fun _ => adK 0) (fun _ => adV 0) A s s.heap := ⟨fun i hi => by rw [show i = 0 by omega]; exact k0, fun i j hi hj _ => by omega⟩
  refine ⟨adK 0, adV 0, r0, s0, z0, ?_⟩
  rcases y0 with h | ⟨t, h⟩
  · exact ⟨_, Or.inl rfl, h⟩
  · exact ⟨_, Or.inr ⟨t, rfl⟩, h⟩
theorem law_X0 {s : State} {args : Array Value} (hts : ∀ w ∈ lw_tbl, w.before args s = true) : jX0 s :=
  ⟨fun q hq => va_Nw.of rfl (hts _ (nl_ok hq)), va_AO.of (hts _ (ov_ok _ (List.mem_of_getElem? (i := 0) rfl))), va_AO.of (hts _ (ov_ok _ (List.mem_of_getElem? (i := 1) rfl))), (hts (.arrayOver (.array .int)) (ov_ok _ (List.mem_of_getElem? (i := 2) rfl)))⟩
/-- the law's run -/
def jlaw (F d L : Nat) (x : Int → Int) : jR := jrun (jcs L x (jeva F d)) (jcd 342) F 0 [(30, -2), (2, -1), (2, -1), (2, -1)] [] jS0
theorem jcs_gro {L : Nat} {x : Int → Int} {ce : jC} (h : jGroC ce) : jGroC (jcs L x ce) := by
  intro m a S z S' hh
  unfold jcs at hh
  split at hh
  · split at hh
    · split at hh
      · split at hh
        · cases hh; exact grow.rfl'
        · cases hh
      · cases hh
    · cases hh
  · split at hh
    · cases hh; exact grow.rfl'
    · exact h m a S z S' hh
theorem jcs_in {L : Nat} {x : Int → Int} {ce : jC} {m : Nat} {a : List jV} {S : jS} {r : Int × jS} (hm : m < 343) (h : jcs L x ce m a S = some r) : ce m a S = some r := by
  unfold jcs at h
  rw [if_neg (by omega), if_neg (by omega)] at h
  exact h
set_option maxRecDepth 20000 in
theorem law_rets {Γ : jCtx} {S' : jS} {b : Nat} (C : jCx Γ 13 code) (hQ : xQ Γ = lw_Z (xb Γ) #[Value.ref b] (xs Γ)) (ha : xa Γ = #[Value.ref b]) (hR : xR Γ = room_1) (hA : ∀ q, xA Γ q → (xs Γ).heap.size ≤ q) (hr : (xM Γ).sig.returnType = ret) (hN : gN S'.1 - xk Γ ≤ 600000 ∧ gM S'.1 - xj Γ ≤ 7302250) : jRets Γ 13 code (some .boolean) (1, S') := by
  intro n a b' t ce pc loc st S k h1 h2 hre hc ho
  have hre := of_decide_eq_true hre
  dsimp only at hre
  rcases (show n = 91 ∨ n = 92 ∨ n = 93 ∨ n = 94 ∨ n = 95 by omega) with e | e | e | e | e <;> subst e
  · exact absurd (hre.1 rfl) (by decide)
  · exact absurd (hre.2.1 rfl) (by decide)
  · exact absurd (hre.2.2.1 rfl) (by decide)
  · change oRetZ a b' t ce pc loc st S k = some (1, S') at ho
    change dc code pc .ireturn 1 = true at hc
    unfold oRetZ at ho
    split at ho
    case h_2 => cases ho
    rename_i u z
    split at ho
    case isFalse => cases ho
    rename_i hu
    subst hu
    have hz : z = 1 ∧ S = S' := by
      by_cases e : z = 0
      · rw [if_pos e] at ho
        have := congrArg Prod.fst (Option.some.inj ho)
        dsimp only at this
        omega
      · rw [if_neg e] at ho
        by_cases e2 : z = 1
        · rw [if_pos e2] at ho
          exact ⟨e2, congrArg Prod.snd (Option.some.inj ho)⟩
        · rw [if_neg e2] at ho
          cases ho
    obtain ⟨rfl, rfl⟩ := hz
    intro ls H locs ad hat
    refine va_forget (fun q hq => hA _ (hat.2.2.2.2.2.2.2.2.2 q hq)) ?_
    refine W.widen hN.1 hN.2 ?_
    rw [hQ, ha, hR]
    exact lw_ret C.1 C.2.1 hr C.2.2.2.2.2.2.2.1 (dc_ok hc)
  · exact absurd (hre.2.2.2.2 rfl) (by decide)
set_option maxRecDepth 20000 in
theorem law_oth {Γ : jCtx} {L : Nat} {x : Int → Int} {ce : jC} {rF : Int × jS} (C : jCx Γ 13 code) (hX : jScr Γ L x) : jOth Γ 13 code (jcs L x ce) rF := by
  intro n hn
  rcases hn with e | e | e | e | e | e <;> subst e
  · exact sMulti C
  · exact fun a b t pc loc st S k hc ho hm hk => sLdcS (ce := jcs L x ce) C a b t pc loc st S k hc ho hk
  · exact sSLen C
  · exact sSChr C
  · exact fun a b t pc loc st S k hc ho hm hk => sSld C hX (by omega) a b t pc loc st S k hc ho hk
  · exact fun a b t pc loc st S k hc ho hm hk => sSlen C hX (by omega) a b t pc loc st S k hc ho hk
set_option maxRecDepth 20000 in
theorem law_met (l : Launch) {p : Program} {e : Env} {s : State} {m : MethodId} {below : List Frame} {meth : Method} {c : Code} {b L : Nat} {xs0 : Nat → Int32} (hL : L ≤ 3072) (C0 : lw_At p s m meth c b L xs0) {F d : Nat} {x : Int → Int} (hx : ∀ j : Nat, j < L → x j = (xs0 j).toInt) {S' : jS} (hd : d ≤ 1000) (hrun : jlaw F (d + 1) L x = some (1, S')) (hN : gN S'.1 ≤ 600000 ∧ gM S'.1 ≤ 7302250) : W p l e room_1 s m #[Value.ref b] below meth c s.heap [] 0 0 (lw_Z below #[Value.ref b] s) (entryFrame m ([Value.ref b] : List Value).toArray 4) := by
  obtain ⟨hex, hb, hr, hml, hown, hts, hX, hbl, hlocks, hgv⟩ := id C0
  have hnA : ∀ a : Nat, a < s.heap.size → ¬ (fun q : Nat => s.heap.size ≤ q) a := fun a h => Nat.not_le.mpr h
  obtain ⟨D, cy, hK⟩ := law_K hts
  obtain ⟨sa, sv, hE⟩ := law_E (A := fun q : Nat => s.heap.size ≤ q) hts hgv hnA
  let ad : Int → Nat := fun z => if z = -2 then b else sa
  let Γ : jCtx := ((p, l, e, room_1, s, m, #[Value.ref b], below), (meth, c, lw_Z below #[Value.ref b] s, 4, D, cy, fun q : Nat => s.heap.size ≤ q), (ad, 0, 0, sv, fun _ => 0))
  have C : jCx Γ 13 code := ⟨hex, hb, hml, hown, fun w hw => hts w (List.mem_filter.mp hw).1, hK, fun q h => h, hlocks, hE, law_X0 hts, by show 7 ≤ 2048; omega, by show 420 ≤ 84000; omega⟩
  have hscr : jScr Γ L x := ⟨xs0, hX, hbl, hnA b hbl, hL, fun j hj => by rw [hx j hj]; exact ⟨r32 _, Int32.ofInt_toInt _⟩⟩
  have hK0 : jK Γ 0 [(30, -2), (2, -1), (2, -1), (2, -1)] [] jS0 := by
    refine jrun_sim (dd := d) (ini := false) C (fun m2 a2 S2 z2 S2' hm h2 => jmet l F d m2 a2 S2 z2 S2' (jcs_in hm h2)) (jcs_gro (jeva_gro F (d + 1))) (fun m2 a2 S2 r2 hm h2 => ?_) (law_rets (b := b) C rfl rfl rfl (fun q h => h) hr ⟨by show gN S'.1 - 0 ≤ _; omega, by show gM S'.1 - 0 ≤ _; omega⟩) (law_oth C hscr) ⟨by show gN S'.1 - 0 ≤ 600000; omega, by show gM S'.1 - 0 ≤ 7302250; omega⟩ (fun q => by cases q) cm_342 F 0 _ _ jS0 hrun
    show d + 8 ≤ 2048 ∧ 60 * (d + 8) ≤ 84000
    constructor <;> omega
  have hl := lv_entry ([.ref b] : List Value) (n := 4) (Nat.le_of_ble_eq_true rfl)
  rw [lg_entry_eq]
  generalize (lg_sl ([.ref b] : List Value) ++ List.replicate (4 - (lg_sl ([.ref b] : List Value)).length) Slot.unset).toArray = ls at hl ⊢
  have hl : lv_has ls 4 [(0, .ref b)] := hl
  have hjl : jL ls 4 ad [(30, -2), (2, -1), (2, -1), (2, -1)] := by
    refine ⟨hl.1, rfl, hl.2.1, fun i v hi hv => ?_⟩
    match i, hi with
    | 0, hi => cases hi; exact hl.2.2 (0, .ref b) List.mem_cons_self
    | 1, hi => cases hi; exact absurd rfl hv
    | 2, hi => cases hi; exact absurd rfl hv
    | 3, hi => cases hi; exact absurd rfl hv
    | i + 4, hi => cases hi
  have hok : ∀ v ∈ ([(30, -2), (2, -1), (2, -1), (2, -1)] : List jV), jok jS0 v := by
    intro v hv
    rcases List.mem_cons.mp hv with q | q
    · rw [q]; exact jok_s (by omega) (by omega) (by omega)
    · have : v = (2, -1) := by simpa using q
      rw [this]; exact jok_u
  have K := hK0 ls s.heap [] ad ⟨hjl, fun k hk => absurd hk (Nat.not_lt_zero k), hok, fun v hv => absurd hv List.not_mem_nil, ⟨fun _ _ => rfl, Nat.le_refl _, Nat.le_refl _, fun _ _ => by show (-1 : Int) < 0; omega, fun _ _ => rfl⟩, fun k q h => absurd h (by show ¬ ([] : va_W)[k]? = some q; simp), ⟨fun i j p q h => absurd h (by show ¬ ([] : va_W)[i]? = some p; simp), fun k q h => absurd h (by show ¬ ([] : va_W)[k]? = some q; simp)⟩, va_S.rf⟩
  exact K
