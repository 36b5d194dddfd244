def judO (A : aA) : Prop := aTn A ≤ 48 ∧ ∀ i, 0 ≤ i → i < aTn A → inP (aPl A) (aTp A i)
theorem s_isOr_n (d : Nat) {G : jG} {X : jX} {P : aP} {f : Int → Int} {n : Int} (hG : GG G) (hP : cPlan X P) (hT : cTa X n f) (hn : n ≤ 1600) : ∀ (m : Nat) (i : Int), i + m = n → 0 ≤ i → jN (d + 1) 124 13 [(18, 104), (20, 33), (0, i)] [] (G, X) = some (b01 (∀ j, i ≤ j → j < n → inP P (f j)), (G, X)) := by
  intro m
  induction m with
  | zero =>
    intro i h0 h1
    rw [h_X8_isOrder_13, s_length d 33 (by omega), hT.1]
    simp only [Option.bind_some, Int.reduceLE, reduceIte]
    rw [if_neg (by omega), b01_t (fun j j0 j1 => by omega)]
  | succ m ih =>
    intro i h0 h1
    rw [h_X8_isOrder_13, s_length d 33 (by omega), hT.1]
    simp only [Option.bind_some, Int.reduceLE, reduceIte]
    rw [if_pos (by omega), s_at d 33 34 n i (gr_33_0 hG) hT.1 (by omega) (by omega) (by rw [gl_34 hG]; exact hn), if_pos (by omega), hT.2 i h1 (by omega)]
    simp only [Option.bind_some]
    rw [gr_104_0 hG, s_isCell d _ hP]
    simp only [Option.bind_some, Int.reduceLE, reduceIte]
    rw [jadd_id (by omega) (by omega), ih (i + 1) (by omega) (by omega)]
    by_cases q : 0 ≤ f i ∧ f i < pCe P
    · rw [if_pos q, if_neg (show ¬ (1 : Int) = 0 by omega)]
      congr 3
      apply propext
      constructor
      · intro a j j0 j1
        by_cases w : j = i
        · rw [w]; exact q
        · exact a j (by omega) j1
      · intro a j j0 j1; exact a j (by omega) j1
    · rw [if_neg q, if_pos rfl, b01_f (fun w => q (w i (by omega) (by omega)))]
theorem s_judge_n (d : Nat) {G : jG} {P : aP} {f : Int → Int} {N : Int} {γ0 : aG} (hG : GG G) (hO : pOk P) (hN : N ≤ 48) (hf : ∀ j, 0 ≤ j → j < N → inP P (f j)) : ∀ (m : Nat) (X : jX) (γ : aG) (i w : Int) (u : jV), u.1 = 2 ∨ u.1 = 0 → cPlan X P → cTa X N f → gOk P γ → cGr X 114 γ → cGr X 25 γ0 → i + m = N → 0 ≤ i → 0 ≤ w → w ≤ 999 * i → ∃ X', jN (d + 6) 123 46 [(18, 104), (20, 33), (24, 148), (13, 113), (0, i), (0, 0), (0, w), (0, i), u] [] (G, X) = some ((judS P f m i γ).2.1, (G, X')) ∧ X' 148 0 = (judS P f m i γ).2.2.1 ∧ X' 148 1 = w + (judS P f m i γ).2.2.2 ∧ X' 148 2 = t3 (judS P f m i γ).1 - t3 γ0 ∧ (∀ a, a ≠ 148 → ¬ (113 ≤ a ∧ a ≤ 120) → X' a = X a) := by
  have hcc := pCe_le hO
  have hm := mi_1 hG
  have hg0 : isGr G 25 := ⟨gr_25_0 hG, gr_25_1 hG, gl_26 hG, gl_27 hG, by omega⟩
  have t3l : ∀ g, 0 ≤ t3 g ∧ t3 g ≤ 48 := fun g => cnt_le (fun c _ _ => by split <;> simp)
  -- the end
  have fin : ∀ (X : jX) (γ : aG) (k y w i : Int) (u : jV), u.1 = 2 ∨ u.1 = 0 → cGr X 114 γ → cGr X 25 γ0 → ∃ X', jN (d + 6) 123 121 [(18, 104), (20, 33), (24, 148), (13, 113), (0, k), (0, y), (0, w), (0, i), u] [] (G, X) = some (k, (G, X')) ∧ X' 148 0 = y ∧ X' 148 1 = w ∧ X' 148 2 = t3 γ - t3 γ0 ∧ (∀ a, a ≠ 148 → X' a = X a) := by
    intro X γ k y w i u hu hγ hγ0
    have fr : ∀ a, a ≠ 148 → jup (jup X 148 0 y) 148 1 w a = X a := fun a ha => by rw [jup_rw _ _ _ _ _ ha, jup_rw _ _ _ _ _ ha]
    have a1 := t3l γ
    have a2 := t3l γ0
    rw [h_X8_judgeOrder_121 _ _ _ _ _ _ _ _ _ _ hu, gl_148 hG, gr_113_1 hG, s_tally (d + 5) 114 3 hm.1 (cGr_fr (fr _ (by omega)) (fr _ (by omega)) (fr _ (by omega)) hγ)]
    simp only [Option.bind_some, Int.reduceLE, Int.reduceLT, reduceIte]
    rw [gr_104_1 hG, s_tally (d + 5) 25 3 hg0 (cGr_fr (fr _ (by omega)) (fr _ (by omega)) (fr _ (by omega)) hγ0)]
    simp only [Option.bind_some, Int.reduceLE, reduceIte]
    rw [gl_148 hG]
    change ∃ X', (if 2 < (3 : Int) then some (k, (G, jup (jup (jup X 148 0 y) 148 1 w) 148 2 (jsub (t3 γ) (t3 γ0)))) else none) = _ ∧ _
    rw [if_pos (by omega), jsub_id (by omega) (by omega)]
    exact ⟨_, rfl, by rw [jup_row _ _ _ _ _ (by omega), jup_row _ _ _ _ _ (by omega), jup_same], by rw [jup_row _ _ _ _ _ (by omega), jup_same], jup_same _ _ _ _, fun a ha => by rw [jup_rw _ _ _ _ _ ha, fr a ha]⟩
  intro m
  induction m with
  | zero =>
    intro X γ i w u hu hP hT hgO hγ hγ0 h0 h1 h2 h3
    rw [h_X8_judgeOrder_46 _ _ _ _ _ _ _ _ _ _ hu, s_length (d + 5) 33 (by omega), hT.1]
    simp only [Option.bind_some, Int.reduceLE, reduceIte]
    rw [if_neg (by omega)]
    obtain ⟨X', e, a1, a2, a3, a4⟩ := fin X γ i 0 w i u hu hγ hγ0
    exact ⟨X', e, a1, by rw [a2]; show w = w + 0; omega, a3, fun a h1 _ => a4 a h1⟩
  | succ m ih =>
    intro X γ i w u hu hP hT hgO hγ hγ0 h0 h1 h2 h3
    have hi := hf i h1 (by omega)
    have hwl := wth_le (γ := γ) hO hi
    have at_ : ∀ X1 : jX, cTa X1 N f → jD (d + 6) 144 [(20, 33), (0, i)] (G, X1) = some (f i, (G, X1)) := fun X1 h => by
      rw [s_at (d + 5) 33 34 N i (gr_33_0 hG) h.1 (by omega) (by omega) (by rw [gl_34 hG]; omega), if_pos (by omega), h.2 i h1 (by omega)]
    obtain ⟨X1, e1, rc1, f1⟩ := s_look (d + 2) hG hP hO hm hγ
    have p1 := cPlan_fr (X' := X1) (fun a h1 h2 => f1 a (by omega) (by omega) (by omega)) hP
    have g1 := cGr_fr (g := 114) (f1 _ (by omega) (by omega) (by omega)) (f1 _ (by omega) (by omega) (by omega)) (f1 _ (by omega) (by omega) (by omega)) hγ
    have T1 := cTa_fr (X' := X1) (f1 _ (by omega) (by omega) (by omega)) (f1 _ (by omega) (by omega) (by omega)) hT
    obtain ⟨X2, e2, f2⟩ := s_why (d + 1) (f i) hG p1 hO hgO hm g1 rc1
    have p2 := cPlan_fr (X' := X2) (fun a h1 h2 => f2 a (by omega) (by omega)) p1
    have g2 := cGr_fr (g := 114) (f2 _ (by omega) (by omega)) (f2 _ (by omega) (by omega)) (f2 _ (by omega) (by omega)) g1
    have T2 := cTa_fr (X' := X2) (f2 _ (by omega) (by omega)) (f2 _ (by omega) (by omega)) T1
    have F2 : ∀ a, ¬ (113 ≤ a ∧ a ≤ 120) → X2 a = X a := fun a ha => by rw [f2 a (by omega) (by omega), f1 a (by omega) (by omega) (by omega)]
    rw [if_pos hi] at e2
    rw [h_X8_judgeOrder_46 _ _ _ _ _ _ _ _ _ _ hu, s_length (d + 5) 33 (by omega), hT.1]
    simp only [Option.bind_some, Int.reduceLE, reduceIte]
    rw [if_pos (by omega), e1]
    simp only [Option.bind_some]
    rw [at_ X1 T1]
    simp only [Option.bind_some]
    rw [e2]
    simp only [Option.bind_some]
    unfold judS
    by_cases hw : why P (gCe γ) (f i) = 0
    · rw [if_pos hw, if_pos hw, at_ X2 T2]
      simp only [Option.bind_some]
      obtain ⟨X3, e3, f3⟩ := s_price (d + 1) (f i) hG p2 hO hgO hi hm g2
      have p3 := cPlan_fr (X' := X3) (fun a h1 h2 => f3 a (by omega) (by omega)) p2
      have g3 := cGr_fr (g := 114) (f3 _ (by omega) (by omega)) (f3 _ (by omega) (by omega)) (f3 _ (by omega) (by omega)) g2
      have T3 := cTa_fr (X' := X3) (f3 _ (by omega) (by omega)) (f3 _ (by omega) (by omega)) T2
      rw [e3]
      simp only [Option.bind_some]
      rw [at_ X3 T3]
      simp only [Option.bind_some]
      obtain ⟨X4, e4, g4, f4⟩ := s_dig (d + 3) (f i) _ hG p3 hO hgO hi hm g3 hwl.1 hwl.2
      have F4 : ∀ a, ¬ (113 ≤ a ∧ a ≤ 120) → X4 a = X a := fun a ha => by rw [f4 a (by omega) (by omega) (by omega), f3 a (by omega) (by omega), F2 a ha]
      rw [e4]
      simp only [Option.bind_some]
      rw [jadd_id (a := i) (by omega) (by omega), jadd_id (a := w) (by omega) (by omega), hw, h_X8_judgeOrder_115 _ _ _ _ _ _ _ _ _ _ (Or.inl rfl), jadd_id (by omega) (by omega)]
      obtain ⟨X', e', a1, a2, a3, a4⟩ := ih X4 (cut1 P γ (f i)) (i + 1) (w + wth P (gCe γ) (f i)) (0, wth P (gCe γ) (f i)) (Or.inr rfl) (cPlan_fr (fun a h1 h2 => F4 a (by omega)) hP) (cTa_fr (F4 _ (by omega)) (F4 _ (by omega)) hT) (gOk_dig hO hgO hi (why_0 hw) hwl.1 hwl.2).1 g4 (cGr_fr (F4 _ (by omega)) (F4 _ (by omega)) (F4 _ (by omega)) hγ0) (by omega) (by omega) (by omega) (by omega)
      exact ⟨X', e', a1, by rw [a2, Int.add_assoc], a3, fun a h1 h2 => by rw [a4 a h1 h2, F4 a h2]⟩
    · rw [if_neg hw, if_neg hw, h_X8_judgeOrder_115 _ _ _ _ _ _ _ _ _ _ (hu.symm), jadd_id (by omega) (by omega), h_X8_judgeOrder_46 _ _ _ _ _ _ _ _ _ _ hu, s_length (d + 5) 33 (by omega), T2.1]
      simp only [Option.bind_some, Int.reduceLE, reduceIte]
      have g0 := cGr_fr (g := 25) (F2 _ (by omega)) (F2 _ (by omega)) (F2 _ (by omega)) hγ0
      obtain ⟨X', e, a1, a2, a3, a4⟩ := fin X2 γ i (why P (gCe γ) (f i)) w (i + 1) u hu g2 g0
      refine ⟨X', ?_, a1, by rw [a2]; show w = w + 0; omega, a3, fun a h1 h2 => by rw [a4 a h1, F2 a h2]⟩
      by_cases q : i + 1 < N
      · rw [if_pos q, if_neg hw]; exact e
      · rw [if_neg q]; exact e
theorem t_isOr_n (d : Nat) {G : jG} {X : jX} {P : aP} {f : Int → Int} {n : Int} (hG : GG G) (hP : mPlan X P) (hO : pOk P) (hT : ∀ i, 0 ≤ i → i < n → X 150 i = f i) (hn : n ≤ 1600) : ∀ (m : Nat) (i : Int), i + m = n → 0 ≤ i → jN (d + 3) 259 24 [(22, 149), (0, n), (0, 1), (0, i)] [] (G, X) = jN (d + 3) 259 24 [(22, 149), (0, n), (0, b01 (∀ j, i ≤ j → j < n → inP P (f j))), (0, n)] [] (G, X) := by
  have stop : ∀ i, i < n → jN (d + 3) 259 24 [(22, 149), (0, n), (0, 0), (0, i)] [] (G, X) = jN (d + 3) 259 24 [(22, 149), (0, n), (0, 0), (0, n)] [] (G, X) := by
    intro i hi
    rw [h_X12_judge_24, h_X12_judge_24]
    simp only [if_pos hi, if_neg (show ¬ n < n by omega), reduceIte]
  intro m
  induction m with
  | zero =>
    intro i h0 h1
    rw [b01_t (fun j j0 j1 => by omega), show i = n by omega]
  | succ m ih =>
    intro i h0 h1
    rw [h_X12_judge_24, if_pos (by omega), if_neg (show ¬ (1 : Int) = 0 by omega), gr_149_0 hG, gl_150 hG, hT i h1 (by omega), t_isCell d _ hG hP hO]
    simp only [Option.bind_some, Int.reduceLE, reduceIte]
    rw [if_pos h1, if_pos (by omega), jadd_id (by omega) (by omega)]
    by_cases q : 0 ≤ f i ∧ f i < pCe P
    · rw [if_pos q, ih (i + 1) (by omega) (by omega)]
      have : (∀ j, i + 1 ≤ j → j < n → inP P (f j)) ↔ (∀ j, i ≤ j → j < n → inP P (f j)) := by
        constructor
        · intro a j j0 j1
          by_cases w : j = i
          · rw [w]; exact q
          · exact a j (by omega) j1
        · intro a j j0 j1; exact a j (by omega) j1
      rw [propext this]
    · rw [if_neg q, b01_f (fun w => q (w i (by omega) (by omega)))]
      by_cases q2 : i + 1 < n
      · exact stop (i + 1) q2
      · rw [show i + 1 = n by omega]
theorem t_judge_n (d : Nat) {G : jG} {P : aP} {f : Int → Int} {N : Int} {γ0 : aG} (hG : GG G) (hO : pOk P) (hN : N ≤ 48) (hf : ∀ j, 0 ≤ j → j < N → inP P (f j)) : ∀ (m : Nat) (X : jX) (γ : aG) (i w : Int), mPlan X P → (∀ i, 0 ≤ i → i < N → X 150 i = f i) → gOk P γ → mGr X 190 0 γ → mGr X 191 0 γ0 → X 149 66 = 0 → X 149 67 = w → X 149 64 = t3 γ - t3 γ0 → t3 γ0 ≤ t3 γ → i + m = N → 0 ≤ i → 0 ≤ w → w ≤ 999 * i → ∃ X', jN (d + 7) 259 93 [(22, 149), (0, N), (0, 1), (0, i)] [] (G, X) = some ((judS P f m i γ).2.1, (G, X')) ∧ mGr X' 190 0 γ0 ∧ X' 149 66 = (judS P f m i γ).2.2.1 ∧ X' 149 67 = w + (judS P f m i γ).2.2.2 ∧ X' 149 68 = t3 (judS P f m i γ).1 - t3 γ0 ∧ (∀ a, a ≠ 149 → a ≠ 190 → a ≠ 192 → a ≠ 229 → X' a = X a) ∧ (∀ j, ¬ (55 ≤ j ∧ j ≤ 62) → j ≠ 115 → j ≠ 64 → j ≠ 66 → j ≠ 67 → j ≠ 68 → X' 149 j = X 149 j) := by
  have hcc := pCe_le hO
  have t3l : ∀ g, 0 ≤ t3 g ∧ t3 g ≤ 48 := fun g => cnt_le (fun c _ _ => by split <;> simp)
  have fin : ∀ (X : jX) (γ : aG) (k : Int), mGr X 191 0 γ0 → X 149 64 = t3 γ - t3 γ0 → ∃ X', ((jD (d + 7) 258 [(22, 149), (0, 0)] (G, jup X 149 68 (X 149 64))).bind fun q5 => some (k, (q5.2.1, q5.2.2)) : jR) = some (k, (G, X')) ∧ mGr X' 190 0 γ0 ∧ X' 149 68 = t3 γ - t3 γ0 ∧ (∀ a, a ≠ 149 → a ≠ 190 → X' a = X a) ∧ (∀ j, j ≠ 68 → X' 149 j = X 149 j) := by
    intro X γ k h191 h64
    obtain ⟨X1, e1, g1, f1⟩ := t_takesBack (d + 6) (X := jup X 149 68 (X 149 64)) hG 0 (by omega) (by omega) (mGr_fr (jup_rw _ _ _ _ _ (by omega)) h191)
    rw [e1]
    exact ⟨X1, rfl, g1, by rw [f1 149 (by omega), jup_same, h64], fun a a0 a1 => by rw [f1 a a1, jup_rw _ _ _ _ _ a0], fun j hj => by rw [f1 149 (by omega), jup_row _ _ _ _ _ hj]⟩
  intro m
  induction m with
  | zero =>
    intro X γ i w hP hT hgO hγ h191 h66 h67 h64 ht3 h0 h1 h2 h3
    obtain ⟨X', e, a1, a2, a3, a4⟩ := fin X γ i h191 h64
    refine ⟨X', ?_, a1, by rw [a4 66 (by omega), h66]; rfl, by rw [a4 67 (by omega), h67]; show w = w + 0; omega, a2, fun a b0 b1 _ _ => a3 a b0 b1, fun j _ _ _ _ _ b => a4 j b⟩
    rw [h_X12_judge_93, if_neg (by omega)]
    exact e
  | succ m ih =>
    intro X γ i w hP hT hgO hγ h191 h66 h67 h64 ht3 h0 h1 h2 h3
    have hi := hf i h1 (by omega)
    have hwl := wth_le (γ := γ) hO hi
    obtain ⟨X1, e1, rc1, f1⟩ := t_laysReached (d + 3) hG hP hO hγ
    have m1 := mfR_L f1
    obtain ⟨X2, e2, f2⟩ := t_whyNot (d + 1) (f i) hG (mfR_P m1 hP) hO hi (mfR_G m1 (by omega) (by omega) (by omega) hγ) rc1
    have m2 : mfR X X2 := mfR_t m1 (mfR_E f2)
    have y : ∀ z, ∀ a, a ≠ 149 → a ≠ 192 → a ≠ 229 → jup X2 149 66 z a = X a := fun z a a0 a1 a2 => by rw [jup_rw _ _ _ _ _ a0, m2.1 a a0 a1 a2]
    have yj : ∀ z j, ¬ (55 ≤ j ∧ j ≤ 62) → j ≠ 115 → j ≠ 66 → jup X2 149 66 z 149 j = X 149 j := fun z j j0 j1 j2 => by rw [jup_row _ _ _ _ _ j2, m2.2 j j0 j1]
    rw [h_X12_judge_93, if_pos (by omega), h66, e1]
    simp only [Option.bind_some, Int.reduceLE, reduceIte]
    rw [gr_149_0 hG, gl_150 hG, f1 150 (by omega), hT i h1 (by omega), e2]
    simp only [Option.bind_some, Int.reduceLE, reduceIte]
    rw [if_pos h1, if_pos (by omega), jup_same]
    unfold judS
    by_cases hw : why P (gCe γ) (f i) = 0
    · rw [if_pos hw, if_pos hw, gr_149_0 hG, gl_150 hG, hw, y 0 150 (by omega) (by omega) (by omega), hT i h1 (by omega), yj 0 67 (by omega) (by omega) (by omega), h67]
      simp only [Int.reduceLE, reduceIte]
      rw [if_pos h1, if_pos (by omega)]
      have P3 : mPlan (jup X2 149 66 0) P := mPlan_fr (fun a h1 h2 => y 0 a (by omega) (by omega) (by omega)) (yj 0 51 (by omega) (by omega) (by omega)) hP
      have g3 : mGr (jup X2 149 66 0) 190 0 γ := mGr_fr (y 0 190 (by omega) (by omega) (by omega)) hγ
      obtain ⟨X4, e4, g4, f4, x64⟩ := t_isCut (d + 1) (f i) hG P3 hO hgO hi g3 hwl.1 hwl.2
      have ht := t3_cut (w := wth P (gCe γ) (f i)) hO hi (why_0 hw)
      have hsp := spn_le (gCe γ) hO hi
      have a1 := t3l γ
      have a2 := t3l γ0
      rw [e4]
      simp only [Option.bind_some]
      rw [jadd_id (a := w) (by omega) (by omega), jadd_id (by omega) (by omega)]
      have z : ∀ a, a ≠ 149 → a ≠ 190 → a ≠ 192 → a ≠ 229 → jup X4 149 67 (w + wth P (gCe γ) (f i)) a = X a := fun a b0 b1 b2 b3 => by rw [jup_rw _ _ _ _ _ b0, f4.1 a b0 b1 b2 b3, y 0 a b0 b2 b3]
      have zj : ∀ j, ¬ (55 ≤ j ∧ j ≤ 62) → j ≠ 115 → j ≠ 64 → j ≠ 66 → j ≠ 67 → jup X4 149 67 (w + wth P (gCe γ) (f i)) 149 j = X 149 j := fun j b0 b1 b2 b3 b4 => by rw [jup_row _ _ _ _ _ b4, f4.2 j b0 b1 b2, yj 0 j b0 b1 b3]
      have n64 : jup X4 149 67 (w + wth P (gCe γ) (f i)) 149 64 = t3 (cut1 P γ (f i)) - t3 γ0 := by
        rw [jup_row _ _ _ _ _ (by omega), x64, yj 0 64 (by omega) (by omega) (by omega), h64]
        unfold cut1
        rw [ht]
        by_cases q : pHo P < spn P (gCe γ) (f i)
        · rw [if_pos q, if_pos q, jadd_id (by omega) (by omega)]; omega
        · rw [if_neg q, if_neg q]; omega
      obtain ⟨X', e', b1, b2, b3, b4, b5, b6⟩ := ih (jup X4 149 67 (w + wth P (gCe γ) (f i))) (cut1 P γ (f i)) (i + 1) (w + wth P (gCe γ) (f i)) (mPlan_fr (fun a h1 h2 => z a (by omega) (by omega) (by omega) (by omega)) (zj 51 (by omega) (by omega) (by omega) (by omega) (by omega)) hP) (fun j j0 j1 => by rw [z 150 (by omega) (by omega) (by omega) (by omega)]; exact hT j j0 j1) (gOk_dig hO hgO hi (why_0 hw) hwl.1 hwl.2).1 (mGr_fr (jup_rw _ _ _ _ _ (by omega)) g4) (mGr_fr (z 191 (by omega) (by omega) (by omega) (by omega)) h191) (by rw [jup_row _ _ _ _ _ (by omega), f4.2 66 (by omega) (by omega) (by omega), jup_same]) (jup_same _ _ _ _) n64 (by unfold cut1; rw [ht]; split <;> omega) (by omega) (by omega) (by omega) (by omega)
      refine ⟨X', e', b1, b2, by rw [b3, Int.add_assoc], b4, fun a c0 c1 c2 c3 => by rw [b5 a c0 c1 c2 c3, z a c0 c1 c2 c3], fun j c0 c1 c2 c3 c4 c5 => by rw [b6 j c0 c1 c2 c3 c4 c5, zj j c0 c1 c2 c3 c4]⟩
    · rw [if_neg hw, if_neg hw, h_X12_judge_93, if_pos (by omega), jup_same, if_neg hw]
      simp only [Int.reduceLE, reduceIte]
      obtain ⟨X', e, b1, b2, b3, b4⟩ := fin (jup X2 149 66 (why P (gCe γ) (f i))) γ i (mGr_fr (y _ 191 (by omega) (by omega) (by omega)) h191) (by rw [yj _ 64 (by omega) (by omega) (by omega)]; exact h64)
      refine ⟨X', e, b1, by rw [b4 66 (by omega), jup_same], by rw [b4 67 (by omega), yj _ 67 (by omega) (by omega) (by omega), h67]; show w = w + 0; omega, b2, fun a c0 c1 c2 c3 => by rw [b3 a c0 c1, y _ a c0 c2 c3], fun j c0 c1 c2 c3 c4 c5 => by rw [b4 j c5, yj _ j c0 c1 c3]⟩
theorem call_judge : okB 161 259 [] := by
  refine ⟨fun A => @ite Int (judO A) (Classical.propDecidable _) (judS (aPl A) (aTp A) (aTn A).toNat 0 (aGr A)).2.1 (-1), fun A => @ite aA (judO A) (Classical.propDecidable _) (setT (setJ A (some ((judS (aPl A) (aTp A) (aTn A).toNat 0 (aGr A)).2.2.1, (judS (aPl A) (aTp A) (aTn A).toNat 0 (aGr A)).2.2.2, t3 (judS (aPl A) (aTp A) (aTn A).toNat 0 (aGr A)).1 - t3 (aGr A)))) 0 (aTp A)) (setT (refu A 1) 0 (aTp A)), fun d G X A hG hR hV => ?_, fun d G X A hG hR hV => ?_, fun A hV => ?_⟩
  · dsimp only
    obtain ⟨r1, r2, r3, r4, r5, r6, r7, r8, r9, r10, r11⟩ := id hR
    have hO := hV.2.1
    have hv := hV.1
    have hg0 : isGr G 25 := ⟨gr_25_0 hG, gr_25_1 hG, gl_26 hG, gl_27 hG, by omega⟩
    have hio : jD (d + 58) 124 [(18, 104), (20, 33)] (G, X) = some (b01 (judO A), (G, X)) := by
      rw [e_X8_isOrder, s_length (d + 56) 33 (by omega), r1.1]
      simp only [Option.bind_some, Int.reduceLE, reduceIte]
      by_cases q : 48 < aTn A
      · rw [if_pos q, b01_f (fun w => by have := w.1; omega)]
      · rw [if_neg q, s_isOr_n (d + 56) hG r3 r1 hv.2.1 (aTn A).toNat 0 (by omega) (by omega)]
        congr 3
        exact propext ⟨fun w => ⟨by omega, w⟩, fun w => w.2⟩
    rw [e_X11_judge, gr_0_7 hG, gr_0_0 hG, gr_0_14 hG, e_X8_judgeOrder, hio]
    simp only [Option.bind_some, Int.reduceLE, reduceIte]
    by_cases hq : judO A
    · rw [b01_t hq, if_neg (show ¬ (1 : Int) = 0 by omega), gl_148 hG, gr_104_2 hG, gr_105_0 hG, gl_105 hG, gr_113_1 hG, gr_104_1 hG, if_pos hq, if_pos hq]
      simp only [Int.reduceLE, Int.reduceLT, reduceIte]
      obtain ⟨X1, e1, c1, f1⟩ := s_copyFrom (d + 57) (X := X) 114 25 (mi_1 hG).1 hg0 (by omega)
      have f1' : ∀ k, ¬ (113 ≤ k ∧ k ≤ 120) → X1 k = X k := fun k hk => f1 k (by omega) (by omega) (by omega)
      obtain ⟨X2, e2, a1, a2, a3, a4⟩ := s_judge_n (d + 52) (P := aPl A) (f := aTp A) (N := aTn A) (γ0 := aGr A) hG hO hq.1 hq.2 (aTn A).toNat X1 (aGr A) 0 0 (2, -1) (Or.inl rfl) (cPlan_fr (fun a h1 h2 => f1' a (by omega)) r3) (cTa_fr (f1' _ (by omega)) (f1' _ (by omega)) r1) hV.2.2.1 (c1 _ r4) (cGr_fr (f1' _ (by omega)) (f1' _ (by omega)) (f1' _ (by omega)) r4) (by omega) (by omega) (by omega) (by omega)
      have y : ∀ a, a ≠ 148 → ¬ (113 ≤ a ∧ a ≤ 120) → X2 a = X a := fun a h1 h2 => by rw [a4 a h1 h2, f1' a h2]
      have hj := judS_ok (f := aTp A) hO (aTn A).toNat 0 (aGr A) hV.2.2.1 (fun j j0 j1 => hq.2 j j0 (by omega))
      rw [e1]
      simp only [Option.bind_some]
      rw [e2]
      simp only [Option.bind_some]
      rw [gr_0_0 hG, s_shorten (d + 58) 33 0 (by omega) (by omega) (by rw [y 33 (by omega) (by omega), r1.1]; exact hv.1)]
      simp only [Option.bind_some, Int.reduceLE, reduceIte]
      rw [if_neg (by omega)]
      have z : ∀ a, a ≠ 0 → a ≠ 33 → a ≠ 148 → ¬ (113 ≤ a ∧ a ≤ 120) → jup (jup X2 33 1 0) 0 15 1 a = X a := fun a b0 b1 b2 b3 => by rw [jup_rw _ _ _ _ _ b0, jup_rw _ _ _ _ _ b1, y a b2 b3]
      have z0 : ∀ j, j ≠ 15 → jup (jup X2 33 1 0) 0 15 1 0 j = X 0 j := fun j hj => by rw [jup_row _ _ _ _ _ hj, jup_rw _ _ _ _ _ (by omega), y 0 (by omega) (by omega)]
      have z8 : ∀ j, jup (jup X2 33 1 0) 0 15 1 148 j = X2 148 j := fun j => by rw [jup_rw _ _ _ _ _ (by omega), jup_rw _ _ _ _ _ (by omega)]
      refine ⟨G, _, rfl, hG, ⟨⟨?_, fun i i0 i1 => ?_⟩, ⟨(z0 16 (by omega)).trans r2.1, (z0 17 (by omega)).trans r2.2⟩, cPlan_fr (fun a h1 h2 => z a (by omega) (by omega) (by omega) (by omega)) r3, cGr_fr (z _ (by omega) (by omega) (by omega) (by omega)) (z _ (by omega) (by omega) (by omega) (by omega)) (z _ (by omega) (by omega) (by omega) (by omega)) r4, cHi_fr (fun a h1 h2 => z a (by omega) (by omega) (by omega) (by omega)) r5, ⟨jup_same _ _ _ _, (z8 0).trans a1, ?_, (z8 2).trans a3⟩, cBo_fr (z _ (by omega) (by omega) (by omega) (by omega)) (z _ (by omega) (by omega) (by omega) (by omega)) r7, (z0 18 (by omega)).trans r8, cPi_fr (z _ (by omega) (by omega) (by omega) (by omega)) (z _ (by omega) (by omega) (by omega) (by omega)) r9, cRf_fr (z _ (by omega) (by omega) (by omega) (by omega)) r10, cCa_fr (z _ (by omega) (by omega) (by omega) (by omega)) (z _ (by omega) (by omega) (by omega) (by omega)) (z _ (by omega) (by omega) (by omega) (by omega)) r11⟩, fun a ha => z a (by omega) (by omega) (by omega) (by omega)⟩
      · rw [jup_rw _ _ _ _ _ (by omega)]; exact jup_same _ _ _ _
      · have : i < 0 := i1
        omega
      · rw [z8 1, a2, Int.zero_add]
    · rw [b01_f hq, if_pos rfl, h_X8_judgeOrder_14, if_neg hq, if_neg hq]
      simp only [Option.bind_some]
      rw [gr_0_0 hG, s_shorten (d + 58) 33 0 (by omega) (by omega) (by rw [r1.1]; exact hv.1)]
      simp only [Option.bind_some, Int.reduceLE, reduceIte]
      rw [s_refuse (d + 58) 1 hG (by omega) (by omega)]
      exact ⟨G, _, rfl, hG, RC_refu (A := setT A 0 (aTp A)) 1 (by omega) (by omega) (RC_shrt 0 hv.1 hR), fun a ha => by show jup (jup X 33 1 0) 147 1 _ a = _; rw [jup_rw _ _ _ _ _ (by omega), jup_rw _ _ _ _ _ (by omega)]⟩
  · dsimp only
    obtain ⟨r1, r2, r3, r4, r5, r6, r7, r8, r9, r10, r11⟩ := id hR
    have hO := hV.2.1
    have hv := hV.1
    have hR1 := RM_shrt 0 hv.1 hR
    have y0 : ∀ a, a ≠ 149 → jup X 149 1 0 a = X a := fun a ha => jup_rw _ _ _ _ _ ha
    have hP1 : mPlan (jup X 149 1 0) (aPl A) := mPlan_fr (fun a h1 h2 => y0 a (by omega)) (jup_row _ _ _ _ _ (by omega)) r3
    have hT1 : ∀ i, 0 ≤ i → i < aTn A → jup X 149 1 0 150 i = aTp A i := fun i i0 i1 => by rw [y0 150 (by omega)]; exact r1.2 i i0 i1
    have bad : ¬ judO A → ∀ i, jN (d + 59) 259 24 [(22, 149), (0, aTn A), (0, 0), (0, i)] [] (G, jup X 149 1 0) = some (-1, (G, jup (jup X 149 1 0) 151 1 (jadd (jup X 149 1 0 151 1) 1))) := by
      intro _ i
      rw [h_X12_judge_24, gr_149_9 hG, gl_151 hG]
      simp only [Int.reduceLE, Int.reduceLT, reduceIte]
      by_cases q : i < aTn A
      · rw [if_pos q]
      · rw [if_neg q]
    have badE : ¬ judO A → ∃ X', some ((-1 : Int), (G, jup (jup X 149 1 0) 151 1 (jadd (jup X 149 1 0 151 1) 1))) = some ((-1 : Int), (G, X')) ∧ RM (setT (refu A 1) 0 (aTp A)) X' ∧ ∀ a, a < 149 → X' a = X a := fun _ => ⟨_, rfl, RM_refu (A := setT A 0 (aTp A)) 1 (by omega) (by omega) hR1, fun a ha => by show jup (jup X 149 1 0) 151 1 _ a = _; rw [jup_rw _ _ _ _ _ (by omega), y0 a (by omega)]⟩
    rw [e_X12_judge, r1.1]
    simp only [Int.reduceLE, reduceIte]
    by_cases q48 : 48 < aTn A
    · have hq : ¬ judO A := fun w => by have := w.1; omega
      rw [if_pos q48, bad hq, if_neg hq, if_neg hq]
      exact badE hq
    · rw [if_neg q48, t_isOr_n (d + 56) hG hP1 hO hT1 hv.2.1 (aTn A).toNat 0 (by omega) (by omega)]
      by_cases hq : judO A
      · rw [b01_t hq.2, if_pos hq, if_pos hq, h_X12_judge_24, if_neg (show ¬ aTn A < aTn A by omega), if_neg (show ¬ (1 : Int) = 0 by omega)]
        simp only [Int.reduceLE, reduceIte]
        obtain ⟨X1, e1, g1, f1, _⟩ := t_putsAside (d + 58) (X := jup X 149 1 0) hG 0 (by omega) (by omega) (mGr_fr (y0 190 (by omega)) r4)
        rw [e1]
        simp only [Option.bind_some]
        have z : ∀ a, a ≠ 149 → a ≠ 191 → jup (jup (jup (jup X1 149 65 1) 149 66 0) 149 67 0) 149 64 0 a = X a := fun a b0 b1 => by rw [jup_rw _ _ _ _ _ b0, jup_rw _ _ _ _ _ b0, jup_rw _ _ _ _ _ b0, jup_rw _ _ _ _ _ b0, f1 a b1, y0 a b0]
        have zj : ∀ j, j ≠ 1 → j ≠ 65 → j ≠ 66 → j ≠ 67 → j ≠ 64 → jup (jup (jup (jup X1 149 65 1) 149 66 0) 149 67 0) 149 64 0 149 j = X 149 j := fun j b0 b1 b2 b3 b4 => by rw [jup_row _ _ _ _ _ b4, jup_row _ _ _ _ _ b3, jup_row _ _ _ _ _ b2, jup_row _ _ _ _ _ b1, f1 149 (by omega), jup_row _ _ _ _ _ b0]
        obtain ⟨X2, e2, a1, a2, a3, a4, a5, a6⟩ := t_judge_n (d + 52) (P := aPl A) (f := aTp A) (N := aTn A) (γ0 := aGr A) hG hO hq.1 hq.2 (aTn A).toNat (jup (jup (jup (jup X1 149 65 1) 149 66 0) 149 67 0) 149 64 0) (aGr A) 0 0 (mPlan_fr (fun a h1 h2 => z a (by omega) (by omega)) (zj 51 (by omega) (by omega) (by omega) (by omega) (by omega)) r3) (fun i i0 i1 => by rw [z 150 (by omega) (by omega)]; exact r1.2 i i0 i1) hV.2.2.1 (mGr_fr (z 190 (by omega) (by omega)) r4) (mGr_fr (X := X1) (by rw [jup_rw _ _ _ _ _ (by omega), jup_rw _ _ _ _ _ (by omega), jup_rw _ _ _ _ _ (by omega), jup_rw _ _ _ _ _ (by omega)]) g1) (by rw [jup_row _ _ _ _ _ (by omega), jup_row _ _ _ _ _ (by omega), jup_same]) (by rw [jup_row _ _ _ _ _ (by omega), jup_same]) (by rw [jup_same]; omega) (Int.le_refl _) (by omega) (by omega) (by omega) (by omega)
        have w : ∀ a, sM a → a ≠ 190 → X2 a = X a := fun a h1 h2 => by unfold sM at h1; rw [a5 a (by omega) h2 (by omega) (by omega), z a (by omega) (by omega)]
        have wj : ∀ j, sN j → j ≠ 1 → ¬ (65 ≤ j ∧ j ≤ 68) → X2 149 j = X 149 j := fun j h1 h2 h3 => by unfold sN at h1; rw [a6 j (by omega) (by omega) (by omega) (by omega) (by omega) (by omega), zj j (by omega) (by omega) (by omega) (by omega) (by omega)]
        unfold sM at w
        unfold sN at wj
        rw [e2]
        refine ⟨X2, rfl, ⟨⟨?_, fun i i0 i1 => ?_⟩, ⟨(wj 7 (by omega) (by omega) (by omega)).trans r2.1, (wj 8 (by omega) (by omega) (by omega)).trans r2.2⟩, mPlan_fr (fun a h1 h2 => w a (by omega) (by omega)) (wj 51 (by omega) (by omega) (by omega)) r3, a1, mHi_fr (wj _ (by omega) (by omega) (by omega)) (wj _ (by omega) (by omega) (by omega)) (w _ (by omega) (by omega)) r5, ⟨?_, a2, by rw [a3, Int.zero_add], a4⟩, mBo_fr (wj _ (by omega) (by omega) (by omega)) (w _ (by omega) (by omega)) r7, (wj 80 (by omega) (by omega) (by omega)).trans r8, mPi_fr (wj _ (by omega) (by omega) (by omega)) (w _ (by omega) (by omega)) r9, mRf_fr (w _ (by omega) (by omega)) r10, mWd_fr (fun a h1 => w a (by omega) (by omega)) r11⟩, fun a ha => ?_⟩
        · rw [a6 1 (by omega) (by omega) (by omega) (by omega) (by omega) (by omega), jup_row _ _ _ _ _ (by omega), jup_row _ _ _ _ _ (by omega), jup_row _ _ _ _ _ (by omega), jup_row _ _ _ _ _ (by omega), f1 149 (by omega)]; exact jup_same _ _ _ _
        · have : i < 0 := i1
          omega
        · rw [a6 65 (by omega) (by omega) (by omega) (by omega) (by omega) (by omega), jup_row _ _ _ _ _ (by omega), jup_row _ _ _ _ _ (by omega), jup_row _ _ _ _ _ (by omega), jup_same]
        · rw [a5 a (by omega) (by omega) (by omega) (by omega), z a (by omega) (by omega)]
      · rw [b01_f (fun w => hq ⟨by omega, w⟩), bad hq, if_neg hq, if_neg hq]
        exact badE hq
  · dsimp only
    by_cases hq : judO A
    · rw [if_pos hq]
      exact AV_shrt (A := setJ A _) 0 (Int.le_refl 0) hV.1.1 hV
    · rw [if_neg hq]
      exact AV_shrt (A := refu A 1) 0 (Int.le_refl 0) hV.1.1 hV
