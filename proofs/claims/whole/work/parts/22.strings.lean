/-! the string constant's reading: the JDK's own methods -/
def sWords : List Cond := [.code yJ3_checkIndex_8e157 cJ3_checkIndex_8e157 3 (some .int), .code yJ0_checkIndex_df160 cJ0_checkIndex_df160 2 none, .fieldLink RJ0 1053 "jdk/internal/util/Preconditions" "SIOOBE_FORMATTER" "Ljava/util/function/BiFunction;", .methodLink RJ0 1059 yJ3_checkIndex_8e157, .static yJ3_checkIndex_8e157, .initialized RJ3,
  .code yJ1_charAt_3b067 cJ1_charAt_3b067 2 (some .char), .methodLink RJ1 9 yJ0_checkIndex_df160, .static yJ0_checkIndex_df160, .initialized RJ0,
  .code yJ0_isLatin1_aae02 cJ0_isLatin1_aae02 1 (some .boolean), .fieldLink RJ0 38 RJ0 "COMPACT_STRINGS" "Z", .fieldLink RJ0 15 RJ0 "coder" "B",
  .code yJ0_coder_7d493 cJ0_coder_7d493 1 (some .byte), .code yJ0_length_8abf5 cJ0_length_8abf5 1 (some .int), .fieldLink RJ0 9 RJ0 "value" "[B", .methodLink RJ0 335 yJ0_coder_7d493, .instanceMethod yJ0_coder_7d493, .selects RJ0 yJ0_coder_7d493 yJ0_coder_7d493,
  .code yJ0_charAt_5068e cJ0_charAt_5068e 2 (some .char), .methodLink RJ0 492 yJ0_isLatin1_aae02, .instanceMethod yJ0_isLatin1_aae02, .selects RJ0 yJ0_isLatin1_aae02 yJ0_isLatin1_aae02, .methodLink RJ0 495 yJ1_charAt_3b067, .static yJ1_charAt_3b067, .initialized RJ1,
  .methodLink RX7 69 yJ0_length_8abf5, .instanceMethod yJ0_length_8abf5, .selects RJ0 yJ0_length_8abf5 yJ0_length_8abf5, .methodLink RX7 72 yJ0_charAt_5068e, .instanceMethod yJ0_charAt_5068e, .selects RJ0 yJ0_charAt_5068e yJ0_charAt_5068e]
set_option maxRecDepth 100000 in
theorem e_sw : sWords = [577, 572, 573, 575, 576, 18, 569, 570, 571, 16, 566, 557, 2272, 556, 552, 2271, 553, 554, 555, 562, 563, 564, 565, 567, 568, 17, 549, 550, 551, 559, 560, 561].filterMap (fun i => tables_1[i]?) := by rfl
theorem q_sw : ∀ w ∈ sWords, w ∈ tables_1 := pick_mem e_sw
theorem sw_good : ∀ w ∈ sWords, goodWord w = true := by decide +kernel
theorem sw_ok {w : Cond} (k : Nat) (h : sWords[k]? = some w) : w ∈ jtbl := mem_jtbl (tab_in _ (q_sw _ (List.mem_of_getElem? h))) (sw_good _ (List.mem_of_getElem? h))
def sWs (w : Cond) : List Cond := w :: jtbl
theorem sgood {w : Cond} (h : w ∈ jtbl) : GoodIn jtbl (sWs w) := by
  intro v hv
  have hm : v ∈ jtbl := by
    rcases List.mem_cons.mp hv with e | e
    · rw [e]; exact h
    · exact e
  exact ⟨hm, good_of_word (List.mem_filter.mp hm).2⟩
def sRm (d : Nat) : Room := { frames := d, cells := 0, slots := 0, locals := 60 * d }
def sPc (av : List Value) (a v : Nat) (A : Nat → Prop) : Array Value → State → Prop := va_Pc av (fun U => jE a v A U U.heap)
def sQc (r : Option Value) : Array Value → State → Outcome → State → Prop := fun _ st o t => o = .returned r ∧ t.heap = st.heap
theorem sblind (av : List Value) (a v : Nat) (A : Nat → Prop) : FrameBlind (sPc av a v A) := by
  intro b U g mk h
  exact ⟨h.1, jE.same (u := U) rfl h.2⟩
/-- behind such a call nothing has changed -/
theorem sback {p : Program} {l : Launch} {e : Env} {R : Room} {s : State} {m : MethodId} {args : Array Value} {below : List Frame} {meth : Method} {c : Code} {H : Heap} {locs : List Loc} {cells slots : Nat} {Q : State → Prop} {pc : Nat} {ls : Array Slot} {st0 rest : List Value} {r : Option Value} {a : Array Value}
    (hr : va_Run p l e R s m args below meth c H locs cells slots 0 0 (F0 m pc ls st0) rest (sQc r a) (fun _ => False)) (kk : W p l e R s m args below meth c H locs cells slots Q (F0 m (pc + 3) ls (r.toList ++ rest))) : W p l e R s m args below meth c H locs cells slots Q (F0 m pc ls st0) := by
  intro T hT X
  obtain ⟨v, st₀, t, T', L, h0, X', hL, e1, e2, ⟨hv, ht⟩, st⟩ := hr T hT X
  have hv : v = r := Outcome.returned.inj hv
  have hLn : L = [] := by
    cases L with
    | nil => rfl
    | cons x L => exact absurd (hL x List.mem_cons_self) id
  subst hv
  subst hLn
  rw [List.append_nil] at X'
  obtain ⟨t2, a1, b1⟩ := kk T' (by rw [e1, ht, h0]) X'
  exact ⟨t2, st t2 a1, b1⟩

section STR
variable {l : Launch} {a v : Nat} {A : Nat → Prop}
set_option maxRecDepth 20000 in
/-- Preconditions.checkIndex: the index, where it is one -/
theorem c_check3 {i n : Int32} {w : Value} (hw : w = .null ∨ ∃ x : Nat, w = .ref x) (h0 : ¬ i < 0) (h1 : i < n) : Met l yJ3_checkIndex_8e157 (sWs (.code yJ3_checkIndex_8e157 cJ3_checkIndex_8e157 3 (some .int))) (sRm 1) (sPc [.int i, .int n, w] a v A) (sQc (some (.int i))) 0 0 (fun _ => False) := by
  refine Met.ofW (cc := cJ3_checkIndex_8e157) (maxL := 3) (ret := (some .int)) (by decide) rfl ?_
  intro p e s m args below meth c s₁ B hml hv
  obtain ⟨rfl, hE⟩ := hv
  have hx := B.exec
  have hb := B.bytes
  have hr := B.returns
  have hlocks := B.notSynchronized
  have hts : ∀ w0 ∈ jtbl, w0.before ([.int i, .int n, w] : List Value).toArray s = true := fun w0 hw => atoms_spec (ws := sWs (.code yJ3_checkIndex_8e157 cJ3_checkIndex_8e157 3 (some .int))) B.pre w0 (List.mem_cons_of_mem _ hw)
  have hown : s.vm.findClass (yJ3_checkIndex_8e157).cls = some m.cls := findClass_of_methodNamed B.named
  have hS : va_S A s.heap s.heap [] := va_S.rf
  obtain ⟨hO, hOc, hOv, hT⟩ := hE.2.1.1 0 (by decide)
  have hl : ∃ ls : Array Slot, entryFrame m ([.int i, .int n, w] : List Value).toArray 3 = F0 m 0 ls [] ∧ lv_has ls 3 [(0, .int i), (1, .int n), (2, w)] := by
    rcases hw with rfl | ⟨x, rfl⟩
    · exact ⟨_, lg_entry_eq m _ 3, lv_entry ([.int i, .int n, .null] : List Value) (n := 3) (Nat.le_of_ble_eq_true rfl)⟩
    · exact ⟨_, lg_entry_eq m _ 3, lv_entry ([.int i, .int n, .ref x] : List Value) (n := 3) (Nat.le_of_ble_eq_true rfl)⟩
  obtain ⟨ls, he, hl⟩ := hl
  rw [he]
  refine lv_iload_n hx hb (show decode cJ3_checkIndex_8e157 0 = .ok (.iload_n 0, 1) by decide +kernel) rfl (lv_at hl 0 rfl) ?_
  refine lv_if_lt (tgt := 9) hx hb (show decode cJ3_checkIndex_8e157 1 = .ok (.ifCond .lt 8, 3) by decide +kernel) (by decide) (fun q => absurd q h0) (fun _ => ?_)
  refine lv_iload_n hx hb (show decode cJ3_checkIndex_8e157 4 = .ok (.iload_n 0, 1) by decide +kernel) rfl (lv_at hl 0 rfl) ?_
  refine lv_iload_n hx hb (show decode cJ3_checkIndex_8e157 5 = .ok (.iload_n 1, 1) by decide +kernel) rfl (lv_at hl 1 rfl) ?_
  refine lv_icmp_lt (tgt := 16) hx hb (show decode cJ3_checkIndex_8e157 6 = .ok (.if_icmp .lt 10, 3) by decide +kernel) (by decide) (fun _ => ?_) (fun q => absurd h1 q)
  refine lv_iload_n hx hb (show decode cJ3_checkIndex_8e157 16 = .ok (.iload_n 0, 1) by decide +kernel) rfl (lv_at hl 0 rfl) ?_
  exact W.iret hx hb hr (fun t ht hW => ⟨rfl, ht⟩) (fun q hq => absurd hq List.not_mem_nil) (show decode cJ3_checkIndex_8e157 17 = .ok (.ireturn, 1) by decide +kernel)

set_option maxRecDepth 20000 in
/-- String.checkIndex -/
theorem c_check0 {i n : Int32} (h0 : ¬ i < 0) (h1 : i < n) : Met l yJ0_checkIndex_df160 (sWs (.code yJ0_checkIndex_df160 cJ0_checkIndex_df160 2 none)) (sRm 2) (sPc [.int i, .int n] a v A) (sQc none) 0 0 (fun _ => False) := by
  refine Met.ofW (cc := cJ0_checkIndex_df160) (maxL := 2) (ret := none) (by decide) rfl ?_
  intro p e s m args below meth c s₁ B hml hv
  obtain ⟨rfl, hE⟩ := hv
  have hx := B.exec
  have hb := B.bytes
  have hr := B.returns
  have hlocks := B.notSynchronized
  have hts : ∀ w0 ∈ jtbl, w0.before ([.int i, .int n] : List Value).toArray s = true := fun w0 hw => atoms_spec (ws := sWs (.code yJ0_checkIndex_df160 cJ0_checkIndex_df160 2 none)) B.pre w0 (List.mem_cons_of_mem _ hw)
  have hown : s.vm.findClass (yJ0_checkIndex_df160).cls = some m.cls := findClass_of_methodNamed B.named
  have hS : va_S A s.heap s.heap [] := va_S.rf
  obtain ⟨hO, hOc, hOv, hT⟩ := hE.2.1.1 0 (by decide)
  have hl := lv_entry ([.int i, .int n] : List Value) (n := 2) (Nat.le_of_ble_eq_true rfl)
  rw [lg_entry_eq]
  generalize (lg_sl ([.int i, .int n] : List Value) ++ List.replicate (2 - (lg_sl ([.int i, .int n] : List Value)).length) Slot.unset).toArray = ls at hl ⊢
  have hl : lv_has ls 2 [(0, .int i), (1, .int n)] := hl
  obtain ⟨w, hw, hZ⟩ := hE.2.2.2
  refine lv_iload_n hx hb (show decode cJ0_checkIndex_df160 0 = .ok (.iload_n 0, 1) by decide +kernel) rfl (lv_at hl 0 rfl) ?_
  refine lv_iload_n hx hb (show decode cJ0_checkIndex_df160 1 = .ok (.iload_n 1, 1) by decide +kernel) rfl (lv_at hl 1 rfl) ?_
  refine va_gets hx hb hZ hS hown (hts _ (sw_ok 2 rfl)) (fun _ h => h) (show decode cJ0_checkIndex_df160 2 = .ok (.getstatic 1053, 3) by decide +kernel) ?_
  refine sback (va_runS (As := [.int i, .int n, w]) (rest := []) (nL := 2) ⟨hx, hb, hml, hown, hts⟩ (c_check3 (a := a) (v := v) (A := A) hw h0 h1) ⟨callB_of 3 hts (sgood (sw_ok 0 rfl)) rfl rfl rfl (hts _ (sw_ok 5 rfl)) (hts _ (sw_ok 3 rfl)) ⟨by decide, by decide, by decide +kernel⟩ ⟨Nat.le_of_ble_eq_true rfl, Nat.le_of_ble_eq_true rfl⟩, (hts _ (sw_ok 4 rfl))⟩ ⟨sblind _ _ _ _, (fun U hU hW => ⟨rfl, jE.warm hW hE (fun _ _ _ => by rw [hU]) (fun _ h => h)⟩)⟩ rfl rfl hl.1 rfl (lv_room (Nat.le_of_ble_eq_true rfl)) (show decode cJ0_checkIndex_df160 5 = .ok (.invokestatic 1059, 3) by decide +kernel) ⟨Nat.le_of_ble_eq_true rfl, Nat.le_of_ble_eq_true rfl⟩) ?_
  refine lv_pop hx hb (show decode cJ0_checkIndex_df160 8 = .ok (.pop, 1) by decide +kernel) rfl ?_
  exact W.vret hx hb hr (fun t ht hW => ⟨rfl, ht⟩) (fun q hq => absurd hq List.not_mem_nil) (show decode cJ0_checkIndex_df160 9 = .ok (.return_, 1) by decide +kernel)

theorem jch_ok : ∀ j, j < 178 → ((((jWords.map Int32.ofInt).getD j 0) &&& (Int16.ofInt 255).toInt32).toUInt32 % 65536).toInt32 = Int32.ofInt (jWords.getD j 0) ∧ narrow .char (.int (Int32.ofInt (jWords.getD j 0))) = .int (Int32.ofInt (jWords.getD j 0)) := by decide +kernel
set_option maxRecDepth 20000 in
/-- StringLatin1.charAt -/
theorem c_latin {i : Int} (h0 : 0 ≤ i) (h1 : i < 178) : Met l yJ1_charAt_3b067 (sWs (.code yJ1_charAt_3b067 cJ1_charAt_3b067 2 (some .char))) (sRm 3) (sPc [.ref v, .int (Int32.ofInt i)] a v A) (sQc (some (.int (Int32.ofInt (jWords.getD i.toNat 0))))) 0 0 (fun _ => False) := by
  refine Met.ofW (cc := cJ1_charAt_3b067) (maxL := 2) (ret := (some .char)) (by decide) rfl ?_
  intro p e s m args below meth c s₁ B hml hv
  obtain ⟨rfl, hE⟩ := hv
  have hx := B.exec
  have hb := B.bytes
  have hr := B.returns
  have hlocks := B.notSynchronized
  have hts : ∀ w0 ∈ jtbl, w0.before ([.ref v, .int (Int32.ofInt i)] : List Value).toArray s = true := fun w0 hw => atoms_spec (ws := sWs (.code yJ1_charAt_3b067 cJ1_charAt_3b067 2 (some .char))) B.pre w0 (List.mem_cons_of_mem _ hw)
  have hown : s.vm.findClass (yJ1_charAt_3b067).cls = some m.cls := findClass_of_methodNamed B.named
  have hS : va_S A s.heap s.heap [] := va_S.rf
  obtain ⟨hO, hOc, hOv, hT⟩ := hE.2.1.1 0 (by decide)
  have hl := lv_entry ([.ref v, .int (Int32.ofInt i)] : List Value) (n := 2) (Nat.le_of_ble_eq_true rfl)
  rw [lg_entry_eq]
  generalize (lg_sl ([.ref v, .int (Int32.ofInt i)] : List Value) ++ List.replicate (2 - (lg_sl ([.ref v, .int (Int32.ofInt i)] : List Value)).length) Slot.unset).toArray = ls at hl ⊢
  have hl : lv_has ls 2 [(0, .ref v), (1, .int (Int32.ofInt i))] := hl
  have hi : j32 i := by unfold j32; omega
  have hin : vp_in (Int32.ofInt i) 178 := in32 hi h0 h1
  have h178 : Int32.ofInt i < 178 := (lt32 (b := 178) hi (by unfold j32; omega)).mpr h1
  have hch := jch_ok i.toNat (by omega)
  refine lv_iload_n hx hb (show decode cJ1_charAt_3b067 0 = .ok (.iload_n 1, 1) by decide +kernel) rfl (lv_at hl 1 rfl) ?_
  refine lv_aload_n hx hb (show decode cJ1_charAt_3b067 1 = .ok (.aload_n 0, 1) by decide +kernel) rfl (lv_at hl 0 rfl) ?_
  refine va_tlen hx hb hT hS (v := 178) rfl (show decode cJ1_charAt_3b067 2 = .ok (.arraylength, 1) by decide +kernel) ?_
  refine sback (va_runS (As := [.int (Int32.ofInt i), .int 178]) (rest := []) (nL := 2) ⟨hx, hb, hml, hown, hts⟩ (c_check0 (a := a) (v := v) (A := A) (ge32 hi h0) h178) ⟨callB_of 2 hts (sgood (sw_ok 1 rfl)) rfl rfl rfl (hts _ (sw_ok 9 rfl)) (hts _ (sw_ok 7 rfl)) ⟨by decide, by decide, by decide +kernel⟩ ⟨Nat.le_of_ble_eq_true rfl, Nat.le_of_ble_eq_true rfl⟩, (hts _ (sw_ok 8 rfl))⟩ ⟨sblind _ _ _ _, (fun U hU hW => ⟨rfl, jE.warm hW hE (fun _ _ _ => by rw [hU]) (fun _ h => h)⟩)⟩ rfl rfl hl.1 rfl (lv_room (Nat.le_of_ble_eq_true rfl)) (show decode cJ1_charAt_3b067 3 = .ok (.invokestatic 9, 3) by decide +kernel) ⟨Nat.le_of_ble_eq_true rfl, Nat.le_of_ble_eq_true rfl⟩) ?_
  refine lv_aload_n hx hb (show decode cJ1_charAt_3b067 6 = .ok (.aload_n 0, 1) by decide +kernel) rfl (lv_at hl 0 rfl) ?_
  refine lv_iload_n hx hb (show decode cJ1_charAt_3b067 7 = .ok (.iload_n 1, 1) by decide +kernel) rfl (lv_at hl 1 rfl) ?_
  refine va_tb hx hb hT hS hin (v := .int ((jWords.map Int32.ofInt).getD i.toNat 0)) (by rw [cl32 hi]; rfl) (show decode cJ1_charAt_3b067 8 = .ok (.baload, 1) by decide +kernel) ?_
  refine lv_sipush hx hb (show decode cJ1_charAt_3b067 9 = .ok (.sipush 255, 3) by decide +kernel) rfl ?_
  refine lv_iand hx hb (show decode cJ1_charAt_3b067 12 = .ok (.iand, 1) by decide +kernel) ?_
  refine lv_i2c hx hb (show decode cJ1_charAt_3b067 13 = .ok (.i2c, 1) by decide +kernel) hch.1 ?_
  exact W.zret (ty := .char) hx hb hr hch.2 (fun t ht hW => ⟨rfl, ht⟩) (fun q hq => absurd hq List.not_mem_nil) (show decode cJ1_charAt_3b067 14 = .ok (.ireturn, 1) by decide +kernel)

set_option maxRecDepth 20000 in
/-- String.isLatin1 -/
theorem c_isLat  : Met l yJ0_isLatin1_aae02 (sWs (.code yJ0_isLatin1_aae02 cJ0_isLatin1_aae02 1 (some .boolean))) (sRm 1) (sPc [.ref a] a v A) (sQc (some (.int 1))) 0 0 (fun _ => False) := by
  refine Met.ofW (cc := cJ0_isLatin1_aae02) (maxL := 1) (ret := (some .boolean)) (by decide) rfl ?_
  intro p e s m args below meth c s₁ B hml hv
  obtain ⟨rfl, hE⟩ := hv
  have hx := B.exec
  have hb := B.bytes
  have hr := B.returns
  have hlocks := B.notSynchronized
  have hts : ∀ w0 ∈ jtbl, w0.before ([.ref a] : List Value).toArray s = true := fun w0 hw => atoms_spec (ws := sWs (.code yJ0_isLatin1_aae02 cJ0_isLatin1_aae02 1 (some .boolean))) B.pre w0 (List.mem_cons_of_mem _ hw)
  have hown : s.vm.findClass (yJ0_isLatin1_aae02).cls = some m.cls := findClass_of_methodNamed B.named
  have hS : va_S A s.heap s.heap [] := va_S.rf
  obtain ⟨hO, hOc, hOv, hT⟩ := hE.2.1.1 0 (by decide)
  have hl := lv_entry ([.ref a] : List Value) (n := 1) (Nat.le_of_ble_eq_true rfl)
  rw [lg_entry_eq]
  generalize (lg_sl ([.ref a] : List Value) ++ List.replicate (1 - (lg_sl ([.ref a] : List Value)).length) Slot.unset).toArray = ls at hl ⊢
  have hl : lv_has ls 1 [(0, .ref a)] := hl
  refine va_gets hx hb hE.2.2.1 hS hown (hts _ (sw_ok 11 rfl)) (fun _ h => h) (show decode cJ0_isLatin1_aae02 0 = .ok (.getstatic 38, 3) by decide +kernel) ?_
  refine lv_if_eq (tgt := 17) hx hb (show decode cJ0_isLatin1_aae02 3 = .ok (.ifCond .eq 14, 3) by decide +kernel) (by decide) (fun q => absurd q (by decide)) (fun _ => ?_)
  refine lv_aload_n hx hb (show decode cJ0_isLatin1_aae02 6 = .ok (.aload_n 0, 1) by decide +kernel) rfl (lv_at hl 0 rfl) ?_
  refine vk_getf hx hb hOc hS hown (hts _ (sw_ok 12 rfl)) (fun _ h => h) (show decode cJ0_isLatin1_aae02 7 = .ok (.getfield 15, 3) by decide +kernel) ?_
  refine lv_if_ne (tgt := 17) hx hb (show decode cJ0_isLatin1_aae02 10 = .ok (.ifCond .ne 7, 3) by decide +kernel) (by decide) (fun q => absurd rfl q) (fun _ => ?_)
  refine lv_iconst (v := 1) hx hb (show decode cJ0_isLatin1_aae02 13 = .ok (.iconst 1, 1) by decide +kernel) (by decide) ?_
  refine lv_goto (tgt := 18) hx hb (show decode cJ0_isLatin1_aae02 14 = .ok (.goto 4, 3) by decide +kernel) (by decide) ?_
  exact W.zret (ty := .boolean) hx hb hr (by decide) (fun t ht hW => ⟨rfl, ht⟩) (fun q hq => absurd hq List.not_mem_nil) (show decode cJ0_isLatin1_aae02 18 = .ok (.ireturn, 1) by decide +kernel)

set_option maxRecDepth 20000 in
/-- String.coder -/
theorem c_coder  : Met l yJ0_coder_7d493 (sWs (.code yJ0_coder_7d493 cJ0_coder_7d493 1 (some .byte))) (sRm 1) (sPc [.ref a] a v A) (sQc (some (.int 0))) 0 0 (fun _ => False) := by
  refine Met.ofW (cc := cJ0_coder_7d493) (maxL := 1) (ret := (some .byte)) (by decide) rfl ?_
  intro p e s m args below meth c s₁ B hml hv
  obtain ⟨rfl, hE⟩ := hv
  have hx := B.exec
  have hb := B.bytes
  have hr := B.returns
  have hlocks := B.notSynchronized
  have hts : ∀ w0 ∈ jtbl, w0.before ([.ref a] : List Value).toArray s = true := fun w0 hw => atoms_spec (ws := sWs (.code yJ0_coder_7d493 cJ0_coder_7d493 1 (some .byte))) B.pre w0 (List.mem_cons_of_mem _ hw)
  have hown : s.vm.findClass (yJ0_coder_7d493).cls = some m.cls := findClass_of_methodNamed B.named
  have hS : va_S A s.heap s.heap [] := va_S.rf
  obtain ⟨hO, hOc, hOv, hT⟩ := hE.2.1.1 0 (by decide)
  have hl := lv_entry ([.ref a] : List Value) (n := 1) (Nat.le_of_ble_eq_true rfl)
  rw [lg_entry_eq]
  generalize (lg_sl ([.ref a] : List Value) ++ List.replicate (1 - (lg_sl ([.ref a] : List Value)).length) Slot.unset).toArray = ls at hl ⊢
  have hl : lv_has ls 1 [(0, .ref a)] := hl
  refine va_gets hx hb hE.2.2.1 hS hown (hts _ (sw_ok 11 rfl)) (fun _ h => h) (show decode cJ0_coder_7d493 0 = .ok (.getstatic 38, 3) by decide +kernel) ?_
  refine lv_if_eq (tgt := 13) hx hb (show decode cJ0_coder_7d493 3 = .ok (.ifCond .eq 10, 3) by decide +kernel) (by decide) (fun q => absurd q (by decide)) (fun _ => ?_)
  refine lv_aload_n hx hb (show decode cJ0_coder_7d493 6 = .ok (.aload_n 0, 1) by decide +kernel) rfl (lv_at hl 0 rfl) ?_
  refine vk_getf hx hb hOc hS hown (hts _ (sw_ok 12 rfl)) (fun _ h => h) (show decode cJ0_coder_7d493 7 = .ok (.getfield 15, 3) by decide +kernel) ?_
  refine lv_goto (tgt := 14) hx hb (show decode cJ0_coder_7d493 10 = .ok (.goto 4, 3) by decide +kernel) (by decide) ?_
  exact W.zret (ty := .byte) hx hb hr (by decide) (fun t ht hW => ⟨rfl, ht⟩) (fun q hq => absurd hq List.not_mem_nil) (show decode cJ0_coder_7d493 14 = .ok (.ireturn, 1) by decide +kernel)

set_option maxRecDepth 20000 in
/-- String.length -/
theorem c_slen  : Met l yJ0_length_8abf5 (sWs (.code yJ0_length_8abf5 cJ0_length_8abf5 1 (some .int))) (sRm 2) (sPc [.ref a] a v A) (sQc (some (.int (Int32.ofInt 178)))) 0 0 (fun _ => False) := by
  refine Met.ofW (cc := cJ0_length_8abf5) (maxL := 1) (ret := (some .int)) (by decide) rfl ?_
  intro p e s m args below meth c s₁ B hml hv
  obtain ⟨rfl, hE⟩ := hv
  have hx := B.exec
  have hb := B.bytes
  have hr := B.returns
  have hlocks := B.notSynchronized
  have hts : ∀ w0 ∈ jtbl, w0.before ([.ref a] : List Value).toArray s = true := fun w0 hw => atoms_spec (ws := sWs (.code yJ0_length_8abf5 cJ0_length_8abf5 1 (some .int))) B.pre w0 (List.mem_cons_of_mem _ hw)
  have hown : s.vm.findClass (yJ0_length_8abf5).cls = some m.cls := findClass_of_methodNamed B.named
  have hS : va_S A s.heap s.heap [] := va_S.rf
  obtain ⟨hO, hOc, hOv, hT⟩ := hE.2.1.1 0 (by decide)
  have hl := lv_entry ([.ref a] : List Value) (n := 1) (Nat.le_of_ble_eq_true rfl)
  rw [lg_entry_eq]
  generalize (lg_sl ([.ref a] : List Value) ++ List.replicate (1 - (lg_sl ([.ref a] : List Value)).length) Slot.unset).toArray = ls at hl ⊢
  have hl : lv_has ls 1 [(0, .ref a)] := hl
  have hrc : ∃ cell : Cell, s.heap[a]? = some cell ∧ cell.vm.isStatics = false ∧ s.vm.findClass RJ0 = some cell.cls := by
    obtain ⟨cell, q1, q2, q3, -⟩ := hO
    exact ⟨cell, q1, q2, q3⟩
  refine lv_aload_n hx hb (show decode cJ0_length_8abf5 0 = .ok (.aload_n 0, 1) by decide +kernel) rfl (lv_at hl 0 rfl) ?_
  refine vk_getf hx hb hOv hS hown (hts _ (sw_ok 15 rfl)) (fun _ h => h) (show decode cJ0_length_8abf5 1 = .ok (.getfield 9, 3) by decide +kernel) ?_
  refine va_tlen hx hb hT hS (v := 178) rfl (show decode cJ0_length_8abf5 4 = .ok (.arraylength, 1) by decide +kernel) ?_
  refine lv_aload_n hx hb (show decode cJ0_length_8abf5 5 = .ok (.aload_n 0, 1) by decide +kernel) rfl (lv_at hl 0 rfl) ?_
  refine sback (va_runV (C := RJ0) (b := a) (As := []) (rest := [.int 178]) (nL := 1) ⟨hx, hb, hml, hown, hts⟩ (c_coder (a := a) (v := v) (A := A)) ⟨callB_of 0 hts (sgood (sw_ok 13 rfl)) rfl rfl rfl (hts _ (sw_ok 9 rfl)) (hts _ (sw_ok 16 rfl)) ⟨by decide, by decide, by decide +kernel⟩ ⟨Nat.le_of_ble_eq_true rfl, Nat.le_of_ble_eq_true rfl⟩, (hts _ (sw_ok 17 rfl)), (hts _ (sw_ok 18 rfl))⟩ ⟨sblind _ _ _ _, hrc, (fun U hU hW => ⟨rfl, jE.warm hW hE (fun _ _ _ => by rw [hU]) (fun _ h => h)⟩)⟩ rfl rfl hl.1 rfl (lv_room (Nat.le_of_ble_eq_true rfl)) (show decode cJ0_length_8abf5 6 = .ok (.invokevirtual 335, 3) by decide +kernel) ⟨Nat.le_of_ble_eq_true rfl, Nat.le_of_ble_eq_true rfl⟩) ?_
  refine lv_ishr hx hb (show decode cJ0_length_8abf5 9 = .ok (.ishr, 1) by decide +kernel) ?_
  exact W.iret hx hb hr (fun t ht hW => ⟨by decide +kernel, ht⟩) (fun q hq => absurd hq List.not_mem_nil) (show decode cJ0_length_8abf5 10 = .ok (.ireturn, 1) by decide +kernel)

set_option maxRecDepth 20000 in
/-- String.charAt -/
theorem c_schr {i : Int} (h0 : 0 ≤ i) (h1 : i < 178) : Met l yJ0_charAt_5068e (sWs (.code yJ0_charAt_5068e cJ0_charAt_5068e 2 (some .char))) (sRm 4) (sPc [.ref a, .int (Int32.ofInt i)] a v A) (sQc (some (.int (Int32.ofInt (jWords.getD i.toNat 0))))) 0 0 (fun _ => False) := by
  refine Met.ofW (cc := cJ0_charAt_5068e) (maxL := 2) (ret := (some .char)) (by decide) rfl ?_
  intro p e s m args below meth c s₁ B hml hv
  obtain ⟨rfl, hE⟩ := hv
  have hx := B.exec
  have hb := B.bytes
  have hr := B.returns
  have hlocks := B.notSynchronized
  have hts : ∀ w0 ∈ jtbl, w0.before ([.ref a, .int (Int32.ofInt i)] : List Value).toArray s = true := fun w0 hw => atoms_spec (ws := sWs (.code yJ0_charAt_5068e cJ0_charAt_5068e 2 (some .char))) B.pre w0 (List.mem_cons_of_mem _ hw)
  have hown : s.vm.findClass (yJ0_charAt_5068e).cls = some m.cls := findClass_of_methodNamed B.named
  have hS : va_S A s.heap s.heap [] := va_S.rf
  obtain ⟨hO, hOc, hOv, hT⟩ := hE.2.1.1 0 (by decide)
  have hl := lv_entry ([.ref a, .int (Int32.ofInt i)] : List Value) (n := 2) (Nat.le_of_ble_eq_true rfl)
  rw [lg_entry_eq]
  generalize (lg_sl ([.ref a, .int (Int32.ofInt i)] : List Value) ++ List.replicate (2 - (lg_sl ([.ref a, .int (Int32.ofInt i)] : List Value)).length) Slot.unset).toArray = ls at hl ⊢
  have hl : lv_has ls 2 [(0, .ref a), (1, .int (Int32.ofInt i))] := hl
  have hrc : ∃ cell : Cell, s.heap[a]? = some cell ∧ cell.vm.isStatics = false ∧ s.vm.findClass RJ0 = some cell.cls := by
    obtain ⟨cell, q1, q2, q3, -⟩ := hO
    exact ⟨cell, q1, q2, q3⟩
  have hch := jch_ok i.toNat (by omega)
  refine lv_aload_n hx hb (show decode cJ0_charAt_5068e 0 = .ok (.aload_n 0, 1) by decide +kernel) rfl (lv_at hl 0 rfl) ?_
  refine sback (va_runV (C := RJ0) (b := a) (As := []) (rest := []) (nL := 2) ⟨hx, hb, hml, hown, hts⟩ (c_isLat (a := a) (v := v) (A := A)) ⟨callB_of 0 hts (sgood (sw_ok 10 rfl)) rfl rfl rfl (hts _ (sw_ok 9 rfl)) (hts _ (sw_ok 20 rfl)) ⟨by decide, by decide, by decide +kernel⟩ ⟨Nat.le_of_ble_eq_true rfl, Nat.le_of_ble_eq_true rfl⟩, (hts _ (sw_ok 21 rfl)), (hts _ (sw_ok 22 rfl))⟩ ⟨sblind _ _ _ _, hrc, (fun U hU hW => ⟨rfl, jE.warm hW hE (fun _ _ _ => by rw [hU]) (fun _ h => h)⟩)⟩ rfl rfl hl.1 rfl (lv_room (Nat.le_of_ble_eq_true rfl)) (show decode cJ0_charAt_5068e 1 = .ok (.invokevirtual 492, 3) by decide +kernel) ⟨Nat.le_of_ble_eq_true rfl, Nat.le_of_ble_eq_true rfl⟩) ?_
  refine lv_if_eq (tgt := 16) hx hb (show decode cJ0_charAt_5068e 4 = .ok (.ifCond .eq 12, 3) by decide +kernel) (by decide) (fun q => absurd q (by decide)) (fun _ => ?_)
  refine lv_aload_n hx hb (show decode cJ0_charAt_5068e 7 = .ok (.aload_n 0, 1) by decide +kernel) rfl (lv_at hl 0 rfl) ?_
  refine vk_getf hx hb hOv hS hown (hts _ (sw_ok 15 rfl)) (fun _ h => h) (show decode cJ0_charAt_5068e 8 = .ok (.getfield 9, 3) by decide +kernel) ?_
  refine lv_iload_n hx hb (show decode cJ0_charAt_5068e 11 = .ok (.iload_n 1, 1) by decide +kernel) rfl (lv_at hl 1 rfl) ?_
  refine sback (va_runS (As := [.ref v, .int (Int32.ofInt i)]) (rest := []) (nL := 2) ⟨hx, hb, hml, hown, hts⟩ (c_latin (a := a) (v := v) (A := A) h0 h1) ⟨callB_of 2 hts (sgood (sw_ok 6 rfl)) rfl rfl rfl (hts _ (sw_ok 25 rfl)) (hts _ (sw_ok 23 rfl)) ⟨by decide, by decide, by decide +kernel⟩ ⟨Nat.le_of_ble_eq_true rfl, Nat.le_of_ble_eq_true rfl⟩, (hts _ (sw_ok 24 rfl))⟩ ⟨sblind _ _ _ _, (fun U hU hW => ⟨rfl, jE.warm hW hE (fun _ _ _ => by rw [hU]) (fun _ h => h)⟩)⟩ rfl rfl hl.1 rfl (lv_room (Nat.le_of_ble_eq_true rfl)) (show decode cJ0_charAt_5068e 12 = .ok (.invokestatic 495, 3) by decide +kernel) ⟨Nat.le_of_ble_eq_true rfl, Nat.le_of_ble_eq_true rfl⟩) ?_
  exact W.zret (ty := .char) hx hb hr hch.2 (fun t ht hW => ⟨rfl, ht⟩) (fun q hq => absurd hq List.not_mem_nil) (show decode cJ0_charAt_5068e 15 = .ok (.ireturn, 1) by decide +kernel)

end STR
theorem jch32 : ∀ j : Nat, j < 178 → j32 (jWords.getD j 0) := by
  intro j hj
  have h : ∀ j, j < 178 → (0 ≤ jWords.getD j 0 ∧ jWords.getD j 0 ≤ 200) := by decide +kernel
  have := h j hj
  unfold j32
  omega
theorem jok_s {S : jS} {t : Nat} {z : Int} (h : 30 ≤ t) (hz : z ≠ -1) (hz2 : z < 0) : jok S (t, z) := ⟨fun q => by dsimp only at q; omega, fun q => by dsimp only at q; omega, fun _ q => by dsimp only at q; omega, fun _ => ⟨hz, hz2⟩, fun _ => by dsimp only; omega⟩
theorem sLdcS {Γ : jCtx} {own : Nat} {cc : ByteArray} {ce : jC} {rF : Int × jS} (C : jCx Γ own cc) : jSim Γ own cc ce rF hLdcS oLdcS := by
  intro a b t pc loc st S k hc ho hk
  unfold hLdcS at hc
  simp only [Bool.and_eq_true, decide_eq_true_eq] at hc
  obtain ⟨hdg, rfl⟩ := hc
  intro ls H locs ad ⟨hl, hwf, hlo, hst, hn, hP, hD, hS⟩
  have K := hk _ _ _ _ ho ls H locs ad ⟨hl, hwf, hlo, List.forall_mem_cons.mpr ⟨jok_s (by omega) (by omega) (by omega), hst⟩, hn, hP, hD, hS⟩
  rw [List.map_cons, jtr_at (by omega) (by omega), hn.1 (-3) (by omega)] at K
  exact va_ldcS C.1 C.2.1 C.2.2.2.1 C.2.2.2.2.2.2.2.2.1.1 (dc_ok hdg) K

theorem sSLen {Γ : jCtx} {own : Nat} {cc : ByteArray} {ce : jC} {rF : Int × jS} (C : jCx Γ own cc) : jSimM Γ own cc ce rF hSLen oSLen := by
  intro a b t pc loc st S k hc ho hm hk
  unfold hSLen at hc
  simp only [Bool.and_eq_true, decide_eq_true_eq] at hc
  obtain ⟨hdg, rfl, rfl⟩ := hc
  unfold oSLen at ho
  split at ho
  case h_2 => cases ho
  rename_i u r rest
  split at ho
  case isFalse => cases ho
  rename_i hu
  split at ho
  case isFalse => cases ho
  rename_i hr
  subst hr
  split at ho
  case isFalse => cases ho
  rename_i hj
  intro ls H locs ad ⟨hl, hwf, hlo, hst, hn, hP, hD, hS⟩
  have hst := List.forall_mem_cons.mp hst
  have hts : ∀ w ∈ jtbl, w.before (xa Γ) (xs Γ) = true := C.2.2.2.2.1
  obtain ⟨hO, -, -, -⟩ := C.2.2.2.2.2.2.2.2.1.2.1.1 0 (by decide)
  have hrc : ∃ cell : Cell, H[xd Γ (-3)]? = some cell ∧ cell.vm.isStatics = false ∧ (xs Γ).vm.findClass RJ0 = some cell.cls := by
    obtain ⟨cell, q1, q2, q3, q4⟩ := hO
    exact ⟨cell, by rw [hS.2.1 _ (Array.getElem?_eq_some_iff.mp q1).1 q4]; exact q1, q2, q3⟩
  have hrm := C.2.2.2.2.2.2.2.2.2.2
  have K := hk _ _ _ _ ho ls H locs ad ⟨hl, hwf, hlo, List.forall_mem_cons.mpr ⟨jok_i (by unfold j32; omega), hst.2⟩, hn, hP, hD, hS⟩
  rw [List.map_cons, jtr_at (t := u) (by omega) (by omega), hn.1 (-3) (by omega)]
  refine sback (va_runV (C := RJ0) (b := xd Γ (-3)) (As := []) (rest := rest.map (jtr ad)) ⟨C.1, C.2.1, C.2.2.1, C.2.2.2.1, hts⟩ (c_slen (a := xd Γ (-3)) (v := xv Γ) (A := xA Γ)) ⟨callB_of 0 hts (sgood (sw_ok 14 rfl)) rfl rfl rfl (hts _ (sw_ok 9 rfl)) (hts _ (sw_ok 26 rfl)) ⟨by decide, by decide, by decide +kernel⟩ ⟨by show _ + 1 ≤ _; unfold sRm; dsimp only; omega, by unfold sRm; dsimp only; omega⟩, (hts _ (sw_ok 27 rfl)), (hts _ (sw_ok 28 rfl))⟩ ⟨sblind _ _ _ _, hrc, (fun U hU hW => ⟨rfl, jE.warm hW C.2.2.2.2.2.2.2.2.1 (fun q h1 h2 => by rw [hU]; exact hS.2.1 q h1 h2) (fun _ h => h)⟩)⟩ rfl rfl (by rw [hl.1]) rfl (lv_room (by rw [jcat_sum]; exact hj)) (dc_ok hdg) ⟨(hm _ _ _ _ ho).1, (hm _ _ _ _ ho).2⟩) ?_
  exact K
theorem sSChr {Γ : jCtx} {own : Nat} {cc : ByteArray} {ce : jC} {rF : Int × jS} (C : jCx Γ own cc) : jSimM Γ own cc ce rF hSChr oSChr := by
  intro a b t pc loc st S k hc ho hm hk
  unfold hSChr at hc
  simp only [Bool.and_eq_true, decide_eq_true_eq] at hc
  obtain ⟨hdg, rfl, rfl⟩ := hc
  unfold oSChr at ho
  split at ho
  case h_2 => cases ho
  rename_i i u r rest
  split at ho
  case isFalse => cases ho
  rename_i hu
  split at ho
  case isFalse => cases ho
  rename_i hr
  subst hr
  split at ho
  case isFalse => cases ho
  rename_i hi0
  split at ho
  case isFalse => cases ho
  rename_i hi1
  split at ho
  case isFalse => cases ho
  rename_i hj
  intro ls H locs ad ⟨hl, hwf, hlo, hst, hn, hP, hD, hS⟩
  have hst := List.forall_mem_cons.mp hst
  have hsx := List.forall_mem_cons.mp hst.2
  have hts : ∀ w ∈ jtbl, w.before (xa Γ) (xs Γ) = true := C.2.2.2.2.1
  obtain ⟨hO, -, -, -⟩ := C.2.2.2.2.2.2.2.2.1.2.1.1 0 (by decide)
  have hrc : ∃ cell : Cell, H[xd Γ (-3)]? = some cell ∧ cell.vm.isStatics = false ∧ (xs Γ).vm.findClass RJ0 = some cell.cls := by
    obtain ⟨cell, q1, q2, q3, q4⟩ := hO
    exact ⟨cell, by rw [hS.2.1 _ (Array.getElem?_eq_some_iff.mp q1).1 q4]; exact q1, q2, q3⟩
  have hrm := C.2.2.2.2.2.2.2.2.2.2
  have K := hk _ _ _ _ ho ls H locs ad ⟨hl, hwf, hlo, List.forall_mem_cons.mpr ⟨jok_i (jch32 _ (by omega)), hsx.2⟩, hn, hP, hD, hS⟩
  rw [List.map_cons, List.map_cons, jtr_at (t := u) (by omega) (by omega), hn.1 (-3) (by omega)]
  refine sback (va_runV (C := RJ0) (b := xd Γ (-3)) (As := [.int (Int32.ofInt i)]) (rest := rest.map (jtr ad)) ⟨C.1, C.2.1, C.2.2.1, C.2.2.2.1, hts⟩ (c_schr (a := xd Γ (-3)) (v := xv Γ) (A := xA Γ) hi0 hi1) ⟨callB_of 1 hts (sgood (sw_ok 19 rfl)) rfl rfl rfl (hts _ (sw_ok 9 rfl)) (hts _ (sw_ok 29 rfl)) ⟨by decide, by decide, by decide +kernel⟩ ⟨by show _ + 1 ≤ _; unfold sRm; dsimp only; omega, by unfold sRm; dsimp only; omega⟩, (hts _ (sw_ok 30 rfl)), (hts _ (sw_ok 31 rfl))⟩ ⟨sblind _ _ _ _, hrc, (fun U hU hW => ⟨rfl, jE.warm hW C.2.2.2.2.2.2.2.2.1 (fun q h1 h2 => by rw [hU]; exact hS.2.1 q h1 h2) (fun _ h => h)⟩)⟩ rfl rfl (by rw [hl.1]) rfl (lv_room (by rw [jcat_sum]; exact hj)) (dc_ok hdg) ⟨(hm _ _ _ _ ho).1, (hm _ _ _ _ ho).2⟩) ?_
  exact K
