/-! kind, cell -/
def okd (P : aP) (st : Int → Int) (k b : Int) : Int → Int := fun c => if pSe P c = k ∧ (b = 0 ∨ st c = 0) then 1 else 0
theorem s_kind_n (d : Nat) {G : jG} {X : jX} {P : aP} {γ : aG} {m g r : Int} (k b : Int) (hG : GG G) (hP : cPlan X P) (hO : pOk P) (hm : isMi G m g r) (hγ : cGr X g γ) : ∀ (n : Nat) (i v : Int), i + n = pCe P → 0 ≤ i → 0 ≤ v → v ≤ i → jN (d + 2) 34 5 [(13, m), (0, k), (0, b), (0, v), (0, i)] [] (G, X) = some (v + cnF (okd P (gCe γ) k b) n i, (G, X)) := by
  obtain ⟨hg, ⟨m0, m1, m2, m3, m4, m5⟩, ⟨l0, l1, l2, l3⟩, h25, hor⟩ := id hm
  have g4 : 25 ≤ g := hg.2.2.2.2
  have hcc := pCe_le hO
  have ha := cPlan_at hP
  intro n
  induction n with
  | zero =>
    intro i v h0 h1 h2 h3
    rw [h_X3_countOfKind_5, if_pos (by omega), m0, if_pos (by omega), ha.2.1, if_neg (by omega)]
    show _ = some (v + 0, _)
    rw [Int.add_zero]
  | succ n ih =>
    intro i v h0 h1 h2 h3
    rw [h_X3_countOfKind_5, if_pos (by omega), m0, if_pos (by omega), ha.2.1, if_pos (by omega), if_pos (by omega), if_pos (by omega), s_kindOf d i hG hP hO, if_pos (show 0 ≤ i ∧ i < pCe P by omega)]
    simp only [Option.bind_some]
    rw [jadd_id (a := v) (by omega) (by omega), jadd_id (a := i) (by omega) (by omega), ih (i + 1) (v + 1) (by omega) (by omega) (by omega) (by omega), ih (i + 1) v (by omega) (by omega) (by omega) (by omega)]
    show _ = some (v + (okd P (gCe γ) k b i + cnF _ n (i + 1)), _)
    unfold okd
    by_cases q : pSe P i = k
    · rw [if_pos q]
      by_cases q2 : b = 0
      · rw [if_pos q2, if_pos ⟨q, Or.inl q2⟩, Int.add_assoc]
      · rw [if_neg q2, if_pos (by omega), m1, if_pos (by omega), s_is (d + 1) g i 0 hg hγ]
        simp only [Option.bind_some]
        rw [ih (i + 1) (v + 1) (by omega) (by omega) (by omega) (by omega), ih (i + 1) v (by omega) (by omega) (by omega) (by omega)]
        by_cases q3 : gCe γ i = 0
        · rw [if_pos (show 0 ≤ i ∧ i < 48 ∧ gCe γ i = 0 from ⟨h1, by omega, q3⟩), if_neg (by omega), if_pos ⟨q, Or.inr q3⟩, Int.add_assoc]
          rfl
        · rw [if_neg (show ¬ (0 ≤ i ∧ i < 48 ∧ gCe γ i = 0) from fun w => q3 w.2.2), if_pos rfl, if_neg (show ¬ (pSe P i = k ∧ (b = 0 ∨ gCe γ i = 0)) from fun w => by rcases w.2 with h | h; exact q2 h; exact q3 h), Int.zero_add]
          rfl
    · rw [if_neg q, if_neg (show ¬ (pSe P i = k ∧ (b = 0 ∨ gCe γ i = 0)) from fun w => q w.1), Int.zero_add]
theorem t_kind_n (d : Nat) {G : jG} {X : jX} {P : aP} {γ : aG} (k b : Int) (hG : GG G) (hP : mPlan X P) (hO : pOk P) (hγ : mGr X 190 0 γ) : ∀ (n : Nat) (i v : Int), i + n = pCe P → 0 ≤ i → 0 ≤ v → v ≤ i → jN (d + 3) 252 5 [(22, 149), (0, k), (0, b), (0, v), (0, i)] [] (G, X) = some (v + cnF (okd P (gCe γ) k b) n i, (G, X)) := by
  have hcc := pCe_le hO
  intro n
  induction n with
  | zero =>
    intro i v h0 h1 h2 h3
    rw [h_X12_cellsOf_5, t_cellMany (d + 1) hG hP hO]
    simp only [Option.bind_some, Int.reduceLE, reduceIte]
    rw [if_neg (by omega)]
    show _ = some (v + 0, _)
    rw [Int.add_zero]
  | succ n ih =>
    intro i v h0 h1 h2 h3
    rw [h_X12_cellsOf_5, t_cellMany (d + 1) hG hP hO]
    simp only [Option.bind_some, Int.reduceLE, reduceIte]
    rw [if_pos (by omega), t_kindAt d i hG hP hO ⟨h1, by omega⟩]
    simp only [Option.bind_some]
    rw [jadd_id (a := v) (by omega) (by omega), jadd_id (a := i) (by omega) (by omega), t_whatIs (d + 2) i hG hγ h1 (by omega)]
    simp only [Option.bind_some]
    rw [ih (i + 1) (v + 1) (by omega) (by omega) (by omega) (by omega), ih (i + 1) v (by omega) (by omega) (by omega) (by omega)]
    show _ = some (v + ((if pSe P i = k ∧ (b = 0 ∨ gCe γ i = 0) then 1 else 0) + cnF _ n (i + 1)), _)
    by_cases q : pSe P i = k
    · rw [if_pos q]
      by_cases q2 : b = 0
      · rw [if_pos q2, if_pos ⟨q, Or.inl q2⟩, Int.add_assoc]
      · rw [if_neg q2]
        by_cases q3 : gCe γ i = 0
        · rw [if_pos q3, if_pos ⟨q, Or.inr q3⟩, Int.add_assoc]
        · rw [if_neg q3, if_neg (show ¬ (pSe P i = k ∧ (b = 0 ∨ gCe γ i = 0)) from fun w => by rcases w.2 with h | h; exact q2 h; exact q3 h), Int.zero_add]
    · rw [if_neg q, if_neg (show ¬ (pSe P i = k ∧ (b = 0 ∨ gCe γ i = 0)) from fun w => q w.1), Int.zero_add]
def kindS (k w : Int) (A : aA) : Int := if 0 ≤ k ∧ k < pK (aPl A) then (if w = 0 then pRe (aPl A) k else if w = 1 then pGa (aPl A) k else if w = 2 then gSt (aGr A) k else if w = 3 then pFo (aPl A) k else if w = 4 then cnF (okd (aPl A) (gCe (aGr A)) k 0) (pCe (aPl A)).toNat 0 else if w = 5 then cnF (okd (aPl A) (gCe (aGr A)) k 1) (pCe (aPl A)).toNat 0 else -1) else -1
theorem call_kind (k w : Int) : okB 158 253 [(0, k), (0, w)] := by
  refine ⟨kindS k w, fun A => A, fun d G X A hG hR hV => ⟨G, X, ?_, hG, hR, fun _ _ => rfl⟩, fun d G X A hG hR hV => ⟨X, ?_, hR, fun _ _ => rfl⟩, fun A hV => hV⟩
  · obtain ⟨r1, r2, r3, r4, r5, r6, r7, r8, r9, r10, r11⟩ := id hR
    have hO := hV.2.1
    have hp := cPlan_at r3
    have hn := pOk_n hO
    have hcc := pCe_le hO
    have ec : ∀ b, jD (d + 59) 34 [(13, 37), (0, k), (0, b)] (G, X) = some (cnF (okd (aPl A) (gCe (aGr A)) k b) (pCe (aPl A)).toNat 0, (G, X)) := fun b => by
      rw [e_X3_countOfKind, s_kind_n (d + 56) k b hG r3 hO (mi_0 hG) r4 (pCe (aPl A)).toNat 0 0 (by omega) (by omega) (by omega) (by omega), Int.zero_add]
    rw [e_X11_kind, gr_0_2 hG, gr_0_4 hG, gr_0_5 hG, gr_1_10 hG, gr_1_11 hG, gr_1_12 hG, gr_25_1 hG, gl_4 hG, gl_5 hG, gl_6 hG, gl_27 hG, hp.2.2.2.2.2.1, ec 0, ec 1]
    simp only [Option.bind_some, Int.reduceLE, reduceIte]
    unfold kindS
    by_cases hi : 0 ≤ k ∧ k < pK (aPl A)
    · have e := r3.2.2.2.1 k hi.1 hi.2
      rw [if_neg (by omega), if_pos hi.2, if_pos hi, e.1, e.2.1, e.2.2.1, show X 27 k = gSt (aGr A) k from r4.2.2 k hi.1 (by omega)]
      have q0 : (0 : Int) ≤ k := hi.1
      have q5 : k < 5 := by omega
      simp only [if_pos q0, if_pos q5]
      repeat' split
      all_goals rfl
    · rw [if_neg hi]
      by_cases q : k < 0
      · rw [if_pos q]
      · rw [if_neg q, if_neg (by omega)]
  · obtain ⟨r1, r2, r3, r4, r5, r6, r7, r8, r9, r10, r11⟩ := id hR
    have hO := hV.2.1
    have hn := pOk_n hO
    have hcc := pCe_le hO
    have ec : ∀ b, jD (d + 59) 252 [(22, 149), (0, k), (0, b)] (G, X) = some (cnF (okd (aPl A) (gCe (aGr A)) k b) (pCe (aPl A)).toNat 0, (G, X)) := fun b => by
      rw [e_X12_cellsOf, t_kind_n (d + 55) k b hG r3 hO r4 (pCe (aPl A)).toNat 0 0 (by omega) (by omega) (by omega) (by omega), Int.zero_add]
    rw [e_X12_kind, t_isKind (d + 57) k hG r3 hO]
    simp only [Option.bind_some, Int.reduceLE, reduceIte]
    unfold kindS
    by_cases hi : 0 ≤ k ∧ k < pK (aPl A)
    · have e := r3.2.2.2.2.1 k hi.1 hi.2
      have er : rsO (aPl A) k = pRe (aPl A) k := by unfold rsO; rw [if_neg (by omega)]
      have eg : gsO (aPl A) k = pGa (aPl A) k := by unfold gsO; rw [if_neg (by omega)]
      rw [if_pos hi, if_neg (show ¬ (1 : Int) = 0 by omega), if_pos hi, t_restOf (d + 58) k hG r3 hO (by omega) hi.2, t_gasOf (d + 58) k hG r3 hO (by omega) hi.2, t_tubsOf (d + 58) k hG r4 hi.1 (by omega), ec 0, ec 1, gr_149_42 hG, gl_183 hG, jmul_id (by omega) (by omega), jadd_id (by omega) (by omega), e.2.2.1, er, eg]
      have q0 : (0 : Int) ≤ 17 + 3 * k := by omega
      have q5 : 17 + 3 * k < 30 := by omega
      simp only [Option.bind_some, Int.reduceLE, reduceIte, if_pos q0, if_pos q5]
      repeat' split
      all_goals rfl
    · rw [if_neg hi, if_pos rfl, if_neg hi]
noncomputable def cellS (c w : Int) (A : aA) : Int := if 0 ≤ c ∧ c < pCe (aPl A) then (if w = 0 then pSe (aPl A) c else if w = 1 then gCe (aGr A) c else if w = 2 then ner (aPl A) (gCe (aGr A)) c else if w = 3 then spn (aPl A) (gCe (aGr A)) c else if w = 4 then b01 (rch (aPl A) (gCe (aGr A)) c) else if w = 5 then why (aPl A) (gCe (aGr A)) c else if w = 6 then wth (aPl A) (gCe (aGr A)) c else -1) else -1
theorem call_cell (c w : Int) : okB 159 254 [(0, c), (0, w)] := by
  refine ⟨cellS c w, fun A => A, fun d G X A hG hR hV => ?_, fun d G X A hG hR hV => ?_, fun A hV => hV⟩
  · obtain ⟨r1, r2, r3, r4, r5, r6, r7, r8, r9, r10, r11⟩ := id hR
    have hO := hV.2.1
    have hgO := hV.2.2.1
    have hm := mi_0 hG
    have hcc := pCe_le hO
    have fin : ∀ (v : Int) (X1 : jX), (∀ k, mSc 37 38 k → X1 k = X k) → v = cellS c w A → ∃ G' X', (some (v, (G, X1)) : jR) = some (cellS c w A, (G', X')) ∧ GG G' ∧ RC A X' ∧ ∀ a, 149 ≤ a → X' a = X a := fun v X1 hf hv => ⟨G, X1, by rw [hv], hG, RC_same (fun a ha => hf a (by unfold sR at ha; unfold mSc; omega)) hR, fun a ha => hf a (by unfold mSc; omega)⟩
    rw [e_X11_cell, gr_0_2 hG, s_isCell (d + 58) c r3]
    simp only [Option.bind_some, Int.reduceLE, reduceIte]
    by_cases hi : 0 ≤ c ∧ c < pCe (aPl A)
    · have hiP : inP (aPl A) c := hi
      have ce : cellS c w A = (if w = 0 then pSe (aPl A) c else if w = 1 then gCe (aGr A) c else if w = 2 then ner (aPl A) (gCe (aGr A)) c else if w = 3 then spn (aPl A) (gCe (aGr A)) c else if w = 4 then b01 (rch (aPl A) (gCe (aGr A)) c) else if w = 5 then why (aPl A) (gCe (aGr A)) c else if w = 6 then wth (aPl A) (gCe (aGr A)) c else -1) := if_pos hi
      rw [if_pos hi, if_neg (show ¬ (1 : Int) = 0 by omega), gr_0_2 hG, gr_0_4 hG, gr_0_5 hG, gr_25_0 hG, gl_26 hG, s_kindOf (d + 57) c hG r3 hO, if_pos hi, s_near (d + 56) c hG r3 hO hiP hm r4, s_span (d + 56) c r3 hO hiP hm r4, show X 26 c = gCe (aGr A) c from r4.2.1 c hi.1 (by omega)]
      simp only [Option.bind_some, Int.reduceLE, reduceIte]
      rw [if_pos hi.1, if_pos (show c < 48 by omega)]
      by_cases q0 : w = 0
      · rw [if_pos q0]; exact fin _ X (fun _ _ => rfl) (by rw [ce, if_pos q0])
      rw [if_neg q0] at ce ⊢
      by_cases q1 : w = 1
      · rw [if_pos q1]; exact fin _ X (fun _ _ => rfl) (by rw [ce, if_pos q1])
      rw [if_neg q1] at ce ⊢
      by_cases q2 : w = 2
      · rw [if_pos q2]; exact fin _ X (fun _ _ => rfl) (by rw [ce, if_pos q2])
      rw [if_neg q2] at ce ⊢
      by_cases q3 : w = 3
      · rw [if_pos q3]; exact fin _ X (fun _ _ => rfl) (by rw [ce, if_pos q3])
      rw [if_neg q3] at ce ⊢
      obtain ⟨X1, e1, rc1, f1⟩ := s_look (d + 55) hG r3 hO hm r4
      have p1 := cPlan_fr (X' := X1) (fun a h1 h2 => f1 a (by omega) (by omega) (by omega)) r3
      have g1 := cGr_fr (g := 25) (f1 _ (by omega) (by omega) (by omega)) (f1 _ (by omega) (by omega) (by omega)) (f1 _ (by omega) (by omega) (by omega)) r4
      by_cases q4 : w = 4
      · rw [if_pos q4, e1]
        simp only [Option.bind_some]
        rw [gr_0_5 hG, s_isReached (d + 58) c hm rc1 (by omega)]
        simp only [Option.bind_some, Int.reduceLE, reduceIte]
        have : (0 ≤ c ∧ rch (aPl A) (gCe (aGr A)) c) ↔ rch (aPl A) (gCe (aGr A)) c := ⟨fun h => h.2, fun h => ⟨hi.1, h⟩⟩
        rw [propext this]
        have hf : ∀ k, mSc 37 38 k → X1 k = X k := fun k hk => f1 k hk.1 hk.2.1 hk.2.2.1
        rcases b01_or (rch (aPl A) (gCe (aGr A)) c) with ⟨e, -⟩ | ⟨e, -⟩
        · rw [if_pos e]; exact fin _ X1 hf (by rw [ce, if_pos q4, e])
        · rw [if_neg (by omega)]; exact fin _ X1 hf (by rw [ce, if_pos q4, e])
      rw [if_neg q4] at ce ⊢
      by_cases q5 : w = 5
      · obtain ⟨X2, e2, f2⟩ := s_why (d + 54) c hG p1 hO hgO hm g1 rc1
        rw [if_pos hi] at e2
        rw [if_pos q5, e1]
        simp only [Option.bind_some]
        rw [gr_0_5 hG, e2]
        simp only [Option.bind_some, Int.reduceLE, reduceIte]
        exact fin _ X2 (fun k hk => by rw [f2 k hk.2.2.2.1 hk.2.2.2.2, f1 k hk.1 hk.2.1 hk.2.2.1]) (by rw [ce, if_pos q5])
      rw [if_neg q5] at ce ⊢
      by_cases q6 : w = 6
      · obtain ⟨X2, e2, f2⟩ := s_price (d + 54) c hG r3 hO hgO hiP hm r4
        rw [if_pos q6, e2]
        simp only [Option.bind_some]
        exact fin _ X2 (fun k hk => f2 k hk.2.2.2.1 hk.2.2.2.2) (by rw [ce, if_pos q6])
      rw [if_neg q6] at ce ⊢
      exact fin _ X (fun _ _ => rfl) ce.symm
    · rw [if_neg hi, if_pos rfl]
      exact fin _ X (fun _ _ => rfl) (by unfold cellS; rw [if_neg hi])
  · obtain ⟨r1, r2, r3, r4, r5, r6, r7, r8, r9, r10, r11⟩ := id hR
    have hO := hV.2.1
    have hgO := hV.2.2.1
    have hcc := pCe_le hO
    have fin : ∀ (v : Int) (X1 : jX), mfR X X1 → v = cellS c w A → ∃ X', (some (v, (G, X1)) : jR) = some (cellS c w A, (G, X')) ∧ RM A X' ∧ ∀ a, a < 149 → X' a = X a := fun v X1 hf hv => ⟨X1, by rw [hv], RM_same (fun a ha => hf.1 a (by unfold sM at ha; omega) (by unfold sM at ha; omega) (by unfold sM at ha; omega)) (fun j hj => hf.2 j (by unfold sN at hj; omega) (by unfold sN at hj; omega)) hR, fun a ha => hf.1 a (by omega) (by omega) (by omega)⟩
    rw [e_X12_cell, t_isCell (d + 56) c hG r3 hO]
    simp only [Option.bind_some, Int.reduceLE, reduceIte]
    by_cases hi : 0 ≤ c ∧ c < pCe (aPl A)
    · have hiP : inP (aPl A) c := hi
      have ce : cellS c w A = (if w = 0 then pSe (aPl A) c else if w = 1 then gCe (aGr A) c else if w = 2 then ner (aPl A) (gCe (aGr A)) c else if w = 3 then spn (aPl A) (gCe (aGr A)) c else if w = 4 then b01 (rch (aPl A) (gCe (aGr A)) c) else if w = 5 then why (aPl A) (gCe (aGr A)) c else if w = 6 then wth (aPl A) (gCe (aGr A)) c else -1) := if_pos hi
      obtain ⟨X1, e1, rc1, f1⟩ := t_laysReached (d + 55) hG r3 hO r4
      have m1 := mfR_L f1
      have p1 := mfR_P m1 r3
      have g1 : mGr X1 190 0 (aGr A) := mfR_G m1 (by omega) (by omega) (by omega) r4
      rw [if_pos hi, if_neg (show ¬ (1 : Int) = 0 by omega), e1]
      simp only [Option.bind_some]
      rw [t_kindAt (d + 56) c hG p1 hO hiP, t_whatIs (d + 58) c hG g1 hi.1 (by omega), t_nearOf (d + 56) c hG p1 hO hiP g1, t_spanOf (d + 56) c hG p1 hO hiP g1, gr_149_63 hG, gl_192 hG]
      simp only [Option.bind_some, Int.reduceLE, reduceIte]
      rw [if_pos hi.1, if_pos (show c < 48 by omega)]
      by_cases q0 : w = 0
      · rw [if_pos q0]; exact fin _ X1 m1 (by rw [ce, if_pos q0])
      rw [if_neg q0] at ce ⊢
      by_cases q1 : w = 1
      · rw [if_pos q1]; exact fin _ X1 m1 (by rw [ce, if_pos q1])
      rw [if_neg q1] at ce ⊢
      by_cases q2 : w = 2
      · rw [if_pos q2]; exact fin _ X1 m1 (by rw [ce, if_pos q2])
      rw [if_neg q2] at ce ⊢
      by_cases q3 : w = 3
      · rw [if_pos q3]; exact fin _ X1 m1 (by rw [ce, if_pos q3])
      rw [if_neg q3] at ce ⊢
      by_cases q4 : w = 4
      · rw [if_pos q4]
        rcases rc1 c hi.1 (by omega) with ⟨e, h⟩ | ⟨e, h⟩
        · rw [if_pos e]; exact fin _ X1 m1 (by rw [ce, if_pos q4, b01_f h])
        · rw [if_neg (by omega)]; exact fin _ X1 m1 (by rw [ce, if_pos q4, b01_t h])
      rw [if_neg q4] at ce ⊢
      by_cases q5 : w = 5
      · obtain ⟨X2, e2, f2⟩ := t_whyNot (d + 53) c hG p1 hO hiP g1 rc1
        rw [if_pos q5, e2]
        simp only [Option.bind_some]
        exact fin _ X2 (mfR_t m1 (mfR_E f2)) (by rw [ce, if_pos q5])
      rw [if_neg q5] at ce ⊢
      by_cases q6 : w = 6
      · obtain ⟨X2, e2, f2⟩ := t_worthOf (d + 54) c hG p1 hO hiP g1
        rw [if_pos q6, e2]
        simp only [Option.bind_some]
        exact fin _ X2 (mfR_t m1 (mfR_E f2)) (by rw [ce, if_pos q6])
      rw [if_neg q6] at ce ⊢
      exact fin _ X1 m1 ce.symm
    · rw [if_neg hi, if_pos rfl]
      exact fin _ X (mfR_r X) (by unfold cellS; rw [if_neg hi])
