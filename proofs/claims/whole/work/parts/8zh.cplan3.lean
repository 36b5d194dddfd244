/-! rules, rows, mixes -/
theorem dFo_up {X X' : jX} {z z' : Int} {w : Nat} {o : Option (List Int)} (h15 : X' 15 w = X 15 w) (hz : z ≤ z') (h24 : ∀ j, j < z → X' 24 j = X 24 j) (h : dFo X z w o) : dFo X' z' w o := by
  unfold dFo at *
  cases o with
  | none => rw [h15]; exact h
  | some l =>
    obtain ⟨a1, a2, a3, a4⟩ := h
    exact ⟨by rw [h15]; exact a1, by rw [h15]; omega, fun i hi => by rw [h15, h24 _ (by omega)]; exact a3 i hi, by rw [h15, h24 _ (by omega)]; exact a4⟩
theorem s_rulS (d : Nat) {G : jG} {X : jX} {T : aT} {P : aP} {κ : aK} {u z : Int} (h : cT G X T P κ u z) (w : Nat) (w3 : w < 3) (hw : so T κ ≠ 4) (hw0 : so T κ ≠ 0) (m : Nat) (hm : m = if w = 0 then 107 else 112) (L : jR) (hL : L = ((jD (d + 39) 77 [(15, 145), (0, (w : Int))] (G, X)).bind fun q13 => if q13.1 = 0 then some (0, (q13.2.1, q13.2.2)) else (if 0 ≤ gR q13.2.1 145 0 then ((jD (d + 39) m [(17, gR q13.2.1 145 0)] (q13.2.1, q13.2.2)).bind fun q14 => if q14.1 = 0 then some (0, (q14.2.1, q14.2.2)) else (if 0 ≤ gR q14.2.1 145 0 then ((jD (d + 39) 104 [(17, gR q14.2.1 145 0)] (q14.2.1, q14.2.2)).bind fun q15 => if q15.1 = 0 then some (0, (q15.2.1, q15.2.2)) else some (1, (q15.2.1, q15.2.2))) else none)) else none))) : endC G X T L (rulS T P (w : Int) κ) := by
  obtain ⟨hR, hT, hS, hD, hz, hO⟩ := id h
  have hT1 := hT.2.1
  have hin := hS.2.2.1
  have hn := nx_in hin
  have hn2 := hn.2.1 hw0
  have hz0 : 0 ≤ z := hS.2.2.2.2.2.2.2
  have hFo : dFo X z w (pFm P w) := by
    have : w = 0 ∨ w = 1 ∨ w = 2 := by omega
    rcases this with rfl | rfl | rfl
    · exact hD.2.2.1.1
    · exact hD.2.2.1.2.1
    · exact hD.2.2.1.2.2
  have hsz : X 28 3 = z := by rw [hS.2.2.2.2.2.1]; show z + ((0 : Nat) : Int) = z; omega
  unfold rulS
  rw [Int.toNat_natCast]
  cases hp : pFm P w with
  | some l =>
    rw [hp] at hFo
    have h15 : 0 ≤ X 15 w := hFo.1
    rw [if_pos (show (some l).isSome = true from rfl), hL, e_X5_beginRule, gr_145_1 hR.1, gr_145_0 hR.1, gr_13_9 hR.1, gl_15 hR.1, if_neg (show ¬ X 15 w = -1 by omega)]
    simp only [if_pos (show (0 : Int) ≤ w by omega), if_pos (show (w : Int) < 3 by omega), Int.reduceLE, reduceIte]
    rw [s_failHere (d + 37) hS.2.1]
    simp only [Option.bind_some, reduceIte]
    exact endC_f rfl (cfS_D (cfD_r z X))
  | none =>
    rw [hp] at hFo
    have h15 : X 15 w = -1 := hFo
    rw [if_neg (show ¬ (none : Option (List Int)).isSome = true by simp)]
    obtain ⟨v, hv⟩ : ∃ v : Int, v = if w = 2 then 1 else 0 := ⟨_, rfl⟩
    have hv3 : v = 0 ∨ v = 1 ∨ v = 2 := by rw [hv]; split <;> omega
    generalize hX1 : jup (jup (jup X 15 w z) 28 4 v) 28 5 0 = X1
    have x1 : ∀ k, k ≠ 15 → k ≠ 28 → X1 k = X k := fun k a b => by rw [← hX1, jup_rw _ _ _ _ _ b, jup_rw _ _ _ _ _ b, jup_rw _ _ _ _ _ a]
    have x15 : X1 15 w = z := by rw [← hX1, jup_rw _ _ _ _ _ (by omega), jup_rw _ _ _ _ _ (by omega), jup_same]
    have x15' : ∀ j, j ≠ (w : Int) → X1 15 j = X 15 j := fun j hj => by rw [← hX1, jup_rw _ _ _ _ _ (by omega), jup_rw _ _ _ _ _ (by omega), jup_row _ _ _ _ _ hj]
    have x28 : ∀ j, j ≠ 4 → j ≠ 5 → X1 28 j = X 28 j := fun j a b => by rw [← hX1, jup_row _ _ _ _ _ b, jup_row _ _ _ _ _ a, jup_rw _ _ _ _ _ (by omega)]
    have S1 : cS X1 T v κ 6 z [] := by
      obtain ⟨a1, a2, a3, a4, a5, a6, a7, a8⟩ := hS
      exact ⟨cTp_fr (x1 33 (by omega) (by omega)) (x1 34 (by omega) (by omega)) a1, ⟨by rw [x28 6 (by omega) (by omega)]; exact a2.1, by rw [x28 7 (by omega) (by omega)]; exact a2.2.1, by rw [x28 8 (by omega) (by omega)]; exact a2.2.2⟩, a3, ⟨by rw [← hX1, jup_row _ _ _ _ _ (by omega), jup_same], by rw [x28 9 (by omega) (by omega)]; exact a4.2.1, by rw [x28 10 (by omega) (by omega)]; exact a4.2.2⟩, ⟨by rw [← hX1, jup_same]; rfl, by omega⟩, by rw [x28 3 (by omega) (by omega)]; exact a6, fun i hi => absurd hi (Nat.not_lt_zero i), a8⟩
    obtain ⟨X2, e2, S2, f2⟩ := cS_step (d + 36) hR hT S1 hw
    have eb : jD (d + 39) 77 [(15, 145), (0, (w : Int))] (G, X) = some (1, (G, X2)) := by
      rw [e_X5_beginRule, gr_145_1 hR.1, gr_145_0 hR.1, gr_13_9 hR.1, gl_15 hR.1, if_pos h15, e_X7_codeSize, hsz]
      simp only [if_pos (show (0 : Int) ≤ w by omega), if_pos (show (w : Int) < 3 by omega), Int.reduceLE, reduceIte, Option.bind_some]
      rw [gr_145_0 hR.1, gl_15 hR.1]
      simp only [if_pos (show (w : Int) < 3 by omega), Int.reduceLE, reduceIte]
      by_cases y : (w : Int) = 2
      · have hv' : v = 1 := by rw [hv, if_pos (by omega)]
        rw [hv'] at hX1
        rw [if_pos y, e_X7_beginFormula]
        simp only [Int.reduceLE, reduceIte, Option.bind_some]
        rw [hX1, gr_145_0 hR.1]
        simp only [Int.reduceLE, reduceIte]
        rw [e2]
        rfl
      · have hv' : v = 0 := by rw [hv, if_neg (by omega)]
        rw [hv'] at hX1
        rw [if_neg y, e_X7_beginFormula]
        simp only [Int.reduceLE, reduceIte, Option.bind_some]
        rw [hX1, gr_145_0 hR.1]
        simp only [Int.reduceLE, reduceIte]
        rw [e2]
        rfl
    have F2 : cfS X X2 := fun k a b c => by rw [f2.1 k b (by omega), x1 k (by omega) b]
    -- the formula
    have fin : ∀ (R : rs) (H t : Nat), cRs G X2 T v 6 z [] (jD (d + 39) m [(17, 28)] (G, X2)) R → gdR T v H t (nx T κ) R → endC G X T L (match R with
        | .inl e => (.inl e : rp)
        | .inr q => .inr (q.1, setFm P (w : Int) q.2)) := fun R H t hc hg => by
      rw [hL, eb]
      simp only [Option.bind_some]
      rw [if_neg (by omega), gr_145_0 hR.1]
      simp only [Int.reduceLE, reduceIte]
      cases R with
      | inl e =>
        obtain ⟨Y, y1, y2, y3, y4, y5⟩ := hc
        rw [y1]
        simp only [Option.bind_some, reduceIte]
        exact ⟨Y, rfl, y2, y3, cfS_t F2 (cfS_D (cfD_F y5))⟩
      | inr q =>
        obtain ⟨Y, y1, y2, y3⟩ := hc
        have g2 : (nx T κ).1 + q.2.length ≤ q.1.1 := hg.2.1
        have g3' : q.1.1 ≤ T.1 := hg.1.2
        rw [List.nil_append] at y2
        have ysz : Y 28 3 = z + q.2.length := y2.2.2.2.2.2.1
        obtain ⟨Z, z1, z2, z3, z4, z5⟩ := s_emit (d + 37) (X := Y) hR 10000 (z + q.2.length) ysz (by omega)
        have z2 := z2 (by omega)
        have zf := z5 z (by omega)
        have e104 : jD (d + 39) 104 [(17, 28)] (G, Y) = some (1, (G, Z)) := by
          rw [e_X7_endFormula]
          simp only [Int.reduceLE, reduceIte]
          rw [z1]
          rfl
        rw [y1]
        simp only [Option.bind_some]
        rw [if_neg (by omega), gr_145_0 hR.1]
        simp only [Int.reduceLE, reduceIte]
        rw [e104]
        simp only [Option.bind_some]
        rw [if_neg (by omega)]
        obtain ⟨b1, b2, b3, b4, b5, b6, b7, b8⟩ := id y2
        have z24 : ∀ j, Z 24 j = if j = z + q.2.length then 10000 else Y 24 j := fun j => by
          rw [z2, jup_rw _ _ _ _ _ (by omega)]
          by_cases y : j = z + q.2.length
          · rw [if_pos y, y, jup_same]
          · rw [if_neg y, jup_row _ _ _ _ _ y]
        have zX : ∀ k, k ≠ 15 → k ≠ 24 → k ≠ 28 → Z k = X k := fun k a b c => by rw [zf.1 k c b, y3.1 k c b, f2.1 k c b, x1 k a c]
        have z15 : Z 15 = X1 15 := by rw [zf.1 15 (by omega) (by omega), y3.1 15 (by omega) (by omega), f2.1 15 (by omega) (by omega)]
        have z24X : ∀ j, j < z → Z 24 j = X 24 j := fun j hj => by rw [zf.2 j hj, y3.2 j hj, f2.2 j hj, x1 24 (by omega) (by omega)]
        refine ⟨Z, v, z + q.2.length + 1, rfl, ⟨cTp_fr (zf.1 33 (by omega) (by omega)) (zf.1 34 (by omega) (by omega)) b1, ⟨by rw [z3 6 (by omega)]; exact b2.1, by rw [z3 7 (by omega)]; exact b2.2.1, by rw [z3 8 (by omega)]; exact b2.2.2⟩, b3, ⟨by rw [z3 4 (by omega)]; exact b4.1, by rw [z3 9 (by omega)]; exact b4.2.1, by rw [z3 10 (by omega)]; exact b4.2.2⟩, by rw [z3 5 (by omega)]; exact b5, by rw [z2, jup_same]; show _ = z + q.2.length + 1 + ((0 : Nat) : Int); omega, fun i hi => absurd hi (Nat.not_lt_zero i), by omega⟩, ?_, by dsimp only; omega, cfS_t F2 (fun k a b c => by rw [zf.1 k b (by omega), y3.1 k b (by omega)])⟩
        have new : dFo Z (z + q.2.length + 1) w (some q.2) := by
          refine ⟨by rw [z15, x15]; omega, by rw [z15, x15]; omega, fun i hi => ?_, ?_⟩
          · rw [z15, x15, z24, if_neg (by omega)]; exact b7 i hi
          · rw [z15, x15, z24, if_pos rfl]
        have old : ∀ (v : Nat), v ≠ w → ∀ o, dFo X z v o → dFo Z (z + q.2.length + 1) v o := fun v hv o ho => dFo_up (by rw [z15, x15' v (by omega)]) (by omega) z24X ho
        obtain ⟨a1, a2, a3, a4, a5, a6, a7⟩ := hD
        refine ⟨by rw [zX 13 (by omega) (by omega) (by omega)]; exact a1, by rw [zX 14 (by omega) (by omega) (by omega)]; exact a2, ?_, by rw [zX 16 (by omega) (by omega) (by omega), zX 17 (by omega) (by omega) (by omega), zX 19 (by omega) (by omega) (by omega)]; exact a4, by rw [zX 18 (by omega) (by omega) (by omega)]; exact a5, by rw [zX 20 (by omega) (by omega) (by omega), zX 21 (by omega) (by omega) (by omega)]; exact a6, by rw [zX 22 (by omega) (by omega) (by omega)]; exact a7⟩
        have hw' : w = 0 ∨ w = 1 ∨ w = 2 := by omega
        rcases hw' with rfl | rfl | rfl
        · exact ⟨new, old 1 (by omega) _ a3.2.1, old 2 (by omega) _ a3.2.2⟩
        · exact ⟨old 0 (by omega) _ a3.1, new, old 2 (by omega) _ a3.2.2⟩
        · exact ⟨old 0 (by omega) _ a3.1, old 1 (by omega) _ a3.2.1, new⟩
    by_cases y : w = 0
    · have hv' : v = 0 := by rw [hv, if_neg (by omega)]
      rw [if_pos (show (w : Int) = 0 by omega)]
      rw [if_pos y] at hm
      have hI := s_test (z := z) hR hT hv3 6 (d + 5) X2 (nx T κ) [] S2 (by show z + ((0 : Nat) : Int) ≤ _; omega)
      rw [hv'] at fin hI
      refine fin _ (3 * 6 + 4 + 2) 1 ?_ (tst_gd hT1 (fac_gd hT1 (by omega) 6) _ hn.1)
      rw [hm]
      exact hI
    · rw [if_neg (show ¬ (w : Int) = 0 by omega)]
      rw [if_neg y] at hm
      have hI := s_sum (z := z) hR hT hv3 6 (d + 8) X2 (nx T κ) [] S2 (by show z + ((0 : Nat) : Int) ≤ _; omega)
      have hvi : (if (w : Int) = 2 then (1 : Int) else 0) = v := by
        rw [hv]
        by_cases q : w = 2
        · rw [if_pos q, if_pos (by omega)]
        · rw [if_neg q, if_neg (by omega)]
      rw [hvi]
      refine fin _ (3 * 6 + 1 + 2) 0 ?_ (sms_gd hT1 (prt_gd hT1 hv3 6) _ hn.1)
      rw [hm]
      exact hI
theorem s_rowS (d : Nat) {G : jG} {X : jX} {T : aT} {P : aP} {κ : aK} {u z : Int} (h : cT G X T P κ u z) (hN : 1 ≤ pN P) (hw : so T κ ≠ 4) : endC G X T (jD (d + 4) 72 [(15, 145)] (G, X)) (rowS T P κ) := by
  obtain ⟨hR, hT, hS, hD, hz, hO⟩ := id h
  have hk := pOk_n hO
  have hT1 := hT.2.1
  unfold rowS
  rw [e_X5_readRow, gr_145_1 hR.1, gr_145_0 hR.1, hD.1.2.2.2.1]
  simp only [Int.reduceLE, reduceIte]
  by_cases q6 : pR P < 6
  · rw [if_pos q6, if_neg (show ¬ 6 ≤ pR P by omega)]
    obtain ⟨X1, e1, S1, f1⟩ := cS_step (d + 1) hR hT hS hw
    have D1 := cDr_fr (cfD_F f1) hD
    have hin := nx_in hS.2.2.1
    have hi1 := hin.1.1
    have hi2 := hin.1.2
    have hte := tE_le hin.1.2
    have F1 : cfS X X1 := cfS_D (cfD_F f1)
    have elt : jD (d + 3) 99 [(17, 28)] (G, X1) = some (if so T (nx T κ) = 1 then tE T (nx T κ).1 - (nx T κ).1 else 0, (G, X1)) := by
      rw [e_X7_lettersHere, S1.2.1.1, S1.2.1.2.1, S1.2.1.2.2, jsub_id (by omega) (by omega)]
      simp only [Int.reduceLE, reduceIte]
      by_cases y : so T (nx T κ) = 1
      · rw [if_pos y, if_pos y]
      · rw [if_neg y, if_neg y]
    have prod : pR P * pC P + pC P ≤ 48 ∧ 0 ≤ pR P * pC P := by
      have h1 : (pR P + 1) * pC P ≤ 6 * 8 := Int.mul_le_mul (by omega) (by omega) (by omega) (by omega)
      rw [Int.add_mul, Int.one_mul] at h1
      exact ⟨h1, Int.mul_nonneg (by omega) (by omega)⟩
    rw [e1]
    simp only [Option.bind_some]
    rw [gr_145_0 hR.1]
    simp only [Int.reduceLE, reduceIte]
    rw [elt]
    simp only [Option.bind_some]
    rw [gr_145_1 hR.1, D1.1.2.1, D1.1.2.2.2.1, jmul_id (by omega) (by omega), gr_145_0 hR.1]
    simp only [Int.reduceLE, reduceIte]
    by_cases q1 : so T (nx T κ) = 1 ∧ tE T (nx T κ).1 - (nx T κ).1 = pC P
    · rw [if_pos q1.1, if_pos q1.2]
      have hsr : srt T (nx T κ).1 = 1 := by rcases so_b T (nx T κ) with y | y <;> omega
      have htr : tE T (nx T κ).1 = rn bL T (nx T κ).1 := by unfold tE; rw [if_pos hsr]
      -- the letters
      have loop : ∀ (m : Nat) (Y : jX) (k : Int) (u3 : jV), u3.1 = 2 ∨ u3.1 = 0 → k + m = pC P → 0 ≤ k → (∀ a, a ≠ 22 → Y a = X1 a) → (∀ i, Y 22 i = if pR P * pC P ≤ i ∧ i < pR P * pC P + k then ltr T P (nx T κ).1 (i - pR P * pC P) + 1 else X1 22 i) → ((∀ j, k ≤ j → j < pC P → ltr T P (nx T κ).1 j ≠ -2) → ∃ Z, jN (d + 3) 72 72 [(15, 145), (0, pR P * pC P), (0, k), u3] [] (G, Y) = ((jD (d + 3) 90 [(17, 28)] (G, jup Z 13 4 (pR P + 1))).bind fun q5 => some (1, (q5.2.1, q5.2.2))) ∧ (∀ a, a ≠ 22 → Z a = X1 a) ∧ ∀ i, Z 22 i = if pR P * pC P ≤ i ∧ i < pR P * pC P + pC P then ltr T P (nx T κ).1 (i - pR P * pC P) + 1 else X1 22 i) ∧ (¬ (∀ j, k ≤ j → j < pC P → ltr T P (nx T κ).1 j ≠ -2) → ∃ Z, jN (d + 3) 72 72 [(15, 145), (0, pR P * pC P), (0, k), u3] [] (G, Y) = some (0, (G, jup (jup Z 28 9 1) 28 10 (nx T κ).1)) ∧ ∀ a, a ≠ 22 → Z a = X1 a) := by
        intro m
        induction m with
        | zero =>
          intro Y k u3 hu3 hk0 k0 hY h22
          refine ⟨fun _ => ⟨Y, ?_, hY, fun i => by rw [h22 i, show k = pC P by omega]⟩, fun y => absurd (fun j h1 h2 => by omega) y⟩
          have c2 : Y 13 2 = pC P := by rw [hY 13 (by omega)]; exact D1.1.2.1
          have c4 : Y 13 4 = pR P := by rw [hY 13 (by omega)]; exact D1.1.2.2.2.1
          rw [h_X5_readRow_72 _ _ _ _ u3 hu3, gr_145_1 hR.1, gr_145_0 hR.1, c2, c4, if_neg (show ¬ k < pC P by omega), jadd_id (a := pR P) (by omega) (by omega)]
          simp only [Int.reduceLE, reduceIte]
        | succ m ih =>
          intro Y k u3 hu3 hk0 k0 hY h22
          have c2 : Y 13 2 = pC P := by rw [hY 13 (by omega)]; exact D1.1.2.1
          have c5 : Y 13 5 = pK P := by rw [hY 13 (by omega)]; exact D1.1.2.2.2.2.1
          have SY : cS Y T u (nx T κ) 6 z [] := cS_fr (hY 28 (by omega)) (hY 24 (by omega)) (hY 33 (by omega)) (hY 34 (by omega)) S1
          have hlet := (bL_iff _).1 (rn_in bL T (i := (nx T κ).1) (j := (nx T κ).1 + k) (by omega) (by rw [← htr]; omega)).2
          have el : jD (d + 3) 100 [(17, 28), (0, k)] (G, Y) = some (T.2 ((nx T κ).1 + k), (G, Y)) := by
            rw [e_X7_letterHere, hR.2.1, SY.2.1.2.1, jadd_id (by omega) (by omega)]
            simp only [Int.reduceLE, reduceIte]
            rw [s_tat (d + 1) hR.1 hT SY.1, tat_in (by omega) (by omega)]
            rfl
          have et : jD (d + 3) 73 [(15, 145), (0, T.2 ((nx T κ).1 + k))] (G, Y) = some (if ltr T P (nx T κ).1 k = -2 then -1 else ltr T P (nx T κ).1 k + 1, (G, Y)) := by
            rw [e_X5_toldBy, gr_145_1 hR.1, c5, jsub_id (by omega) (by omega), jadd_id (by omega) (by omega)]
            unfold ltr
            by_cases y1 : T.2 ((nx T κ).1 + k) = 120
            · rw [if_pos y1, if_pos y1, if_neg (by omega)]; rfl
            · rw [if_neg y1, if_neg y1, if_neg (by omega)]
              simp only [Int.reduceLE, reduceIte]
              by_cases y2 : T.2 ((nx T κ).1 + k) - 97 < pK P
              · rw [if_pos y2, if_pos y2, if_neg (by omega)]
              · rw [if_neg y2, if_neg y2, if_pos rfl]
          have st : jN (d + 3) 72 72 [(15, 145), (0, pR P * pC P), (0, k), u3] [] (G, Y) = if ltr T P (nx T κ).1 k = -2 then some (0, (G, jup (jup Y 28 9 1) 28 10 (nx T κ).1)) else jN (d + 3) 72 72 [(15, 145), (0, pR P * pC P), (0, k + 1), (0, ltr T P (nx T κ).1 k + 1)] [] (G, jup Y 22 (pR P * pC P + k) (ltr T P (nx T κ).1 k + 1)) := by
            rw [h_X5_readRow_72 _ _ _ _ u3 hu3, gr_145_1 hR.1, gr_145_0 hR.1, c2, jadd_id (a := pR P * pC P) (by omega) (by omega), jadd_id (a := k) (by omega) (by omega), if_pos (show k < pC P by omega), if_pos (show pR P * pC P + k < 48 by omega)]
            simp only [Int.reduceLE, reduceIte]
            rw [el]
            simp only [Option.bind_some]
            rw [et]
            simp only [Option.bind_some]
            rw [gr_145_0 hR.1, gr_145_1 hR.1, gr_13_16 hR.1, gl_22 hR.1]
            simp only [Int.reduceLE, reduceIte]
            by_cases y : ltr T P (nx T κ).1 k = -2
            · rw [if_pos y, if_pos y, if_pos rfl, s_failHere (d + 2) SY.2.1]; rfl
            · have hlb : -1 ≤ ltr T P (nx T κ).1 k := by unfold ltr at y ⊢; split at y <;> split <;> omega
              rw [if_neg y, if_neg y, if_neg (by omega), if_pos (by omega), if_pos (by omega)]
          rw [st]
          by_cases y : ltr T P (nx T κ).1 k = -2
          · rw [if_pos y]
            exact ⟨fun q => absurd y (q k (by omega) (by omega)), fun _ => ⟨Y, rfl, hY⟩⟩
          · rw [if_neg y]
            have I := ih (jup Y 22 (pR P * pC P + k) (ltr T P (nx T κ).1 k + 1)) (k + 1) (0, ltr T P (nx T κ).1 k + 1) (Or.inr rfl) (by omega) (by omega) (fun a ha => by rw [jup_rw _ _ _ _ _ ha, hY a ha]) (fun i => by
              by_cases w : i = pR P * pC P + k
              · rw [w, jup_same, if_pos (by omega), show pR P * pC P + k - pR P * pC P = k by omega]
              · rw [jup_row _ _ _ _ _ w, h22 i]
                by_cases v : pR P * pC P ≤ i ∧ i < pR P * pC P + k
                · rw [if_pos v, if_pos (by omega)]
                · rw [if_neg v, if_neg (by omega)])
            constructor
            · intro q; exact I.1 (fun j h1 h2 => q j (by omega) h2)
            · intro q
              refine I.2 (fun y2 => q (fun j h1 h2 => ?_))
              by_cases w : j = k
              · rw [w]; exact y
              · exact y2 j (by omega) h2
      have Lp := loop (pC P).toNat X1 0 (2, -1) (Or.inl rfl) (by omega) (by omega) (fun _ _ => rfl) (fun i => by rw [if_neg (by omega)])
      have hall : (∀ j : Nat, j < 8 → (j : Int) < pC P → ltr T P (nx T κ).1 j ≠ -2) ↔ (∀ j, 0 ≤ j → j < pC P → ltr T P (nx T κ).1 j ≠ -2) := by
        constructor
        · intro y j j0 j1
          have := y j.toNat (by omega) (by omega)
          rw [show ((j.toNat : Nat) : Int) = j by omega] at this
          exact this
        · intro y j _ j1
          exact y j (by omega) j1
      by_cases q2 : ∀ j : Nat, j < 8 → (j : Int) < pC P → ltr T P (nx T κ).1 j ≠ -2
      · rw [if_pos ⟨q1.1, q1.2, q2⟩]
        obtain ⟨Z, eZ, fZ, c22⟩ := Lp.1 (hall.1 q2)
        have SZ : cS (jup Z 13 4 (pR P + 1)) T u (nx T κ) 6 z [] := cS_fr (by rw [jup_rw _ _ _ _ _ (by omega)]; exact fZ 28 (by omega)) (by rw [jup_rw _ _ _ _ _ (by omega)]; exact fZ 24 (by omega)) (by rw [jup_rw _ _ _ _ _ (by omega)]; exact fZ 33 (by omega)) (by rw [jup_rw _ _ _ _ _ (by omega)]; exact fZ 34 (by omega)) S1
        obtain ⟨X2, e2, S2, f2⟩ := cS_step (d + 1) hR hT SZ (by omega)
        have hn2 := nx_in hin.1
        rw [eZ, e2]
        have x2 : ∀ k, k ≠ 13 → k ≠ 22 → k ≠ 24 → k ≠ 28 → X2 k = X1 k := fun k a b c e => by rw [f2.1 k e c, jup_rw _ _ _ _ _ a, fZ k b]
        have x13 : ∀ j, j ≠ 4 → X2 13 j = X1 13 j := fun j hj => by rw [f2.1 13 (by omega) (by omega), jup_row _ _ _ _ _ hj, fZ 13 (by omega)]
        have x24 : ∀ j, j < z → X2 24 j = X1 24 j := fun j hj => by rw [f2.2 j hj, jup_rw _ _ _ _ _ (by omega), fZ 24 (by omega)]
        refine ⟨X2, u, z, rfl, S2, ?_, by dsimp only; omega, cfS_t F1 (fun k a b c => x2 k (by omega) (by omega) (by omega) b)⟩
        obtain ⟨b1, b2, b3, b4, b5, b6, b7⟩ := D1
        refine ⟨⟨by rw [x13 0 (by omega)]; exact b1.1, by rw [x13 2 (by omega)]; exact b1.2.1, by rw [x13 3 (by omega)]; exact b1.2.2.1, by rw [f2.1 13 (by omega) (by omega), jup_same]; rfl, by rw [x13 5 (by omega)]; exact b1.2.2.2.2.1, by rw [x13 6 (by omega)]; exact b1.2.2.2.2.2.1, by rw [x13 7 (by omega)]; exact b1.2.2.2.2.2.2⟩, by rw [x2 14 (by omega) (by omega) (by omega) (by omega)]; exact b2, ⟨dFo_fr (x2 15 (by omega) (by omega) (by omega) (by omega)) x24 b3.1, dFo_fr (x2 15 (by omega) (by omega) (by omega) (by omega)) x24 b3.2.1, dFo_fr (x2 15 (by omega) (by omega) (by omega) (by omega)) x24 b3.2.2⟩, by rw [x2 16 (by omega) (by omega) (by omega) (by omega), x2 17 (by omega) (by omega) (by omega) (by omega), x2 19 (by omega) (by omega) (by omega) (by omega)]; exact b4, by rw [x2 18 (by omega) (by omega) (by omega) (by omega)]; exact b5, by rw [x2 20 (by omega) (by omega) (by omega) (by omega), x2 21 (by omega) (by omega) (by omega) (by omega)]; exact b6, fun c c0 c1 => ?_⟩
        have hpc : pCe (addR P (ltr T P (nx T κ).1)) = pC P * (pR P + 1) := rfl
        have hpe : pCe P = pC P * pR P := rfl
        rw [hpc, Int.mul_add, Int.mul_one, Int.mul_comm (pC P) (pR P)] at c1
        rw [f2.1 22 (by omega) (by omega), jup_rw _ _ _ _ _ (by omega), c22 c]
        show _ = (if pR P * pC P ≤ c ∧ c < pR P * pC P + pC P then ltr T P (nx T κ).1 (c - pR P * pC P) else pSe P c) + 1
        by_cases y : pR P * pC P ≤ c ∧ c < pR P * pC P + pC P
        · rw [if_pos y, if_pos y]
        · rw [if_neg y, if_neg y]
          exact b7 c c0 (by rw [hpe, Int.mul_comm]; omega)
      · rw [if_neg (fun y => q2 y.2.2)]
        obtain ⟨Z, eZ, fZ⟩ := Lp.2 (fun y => q2 (hall.2 y))
        rw [eZ]
        exact endC_f rfl (cfS_t F1 (fun k a b c => fZ k (by omega)))
    · rw [if_neg (show ¬ (so T (nx T κ) = 1 ∧ tE T (nx T κ).1 - (nx T κ).1 = pC P ∧ (∀ j : Nat, j < 8 → (j : Int) < pC P → ltr T P (nx T κ).1 j ≠ -2)) from fun y => q1 ⟨y.1, y.2.1⟩)]
      have : (if so T (nx T κ) = 1 then tE T (nx T κ).1 - (nx T κ).1 else 0) ≠ pC P := by
        by_cases y : so T (nx T κ) = 1
        · rw [if_pos y]; exact fun q => q1 ⟨y, q⟩
        · rw [if_neg y]; omega
      rw [if_neg this, s_failHere (d + 2) S1.2.1]
      exact endC_f rfl F1
  · rw [if_neg q6, if_pos (show 6 ≤ pR P by omega), s_failHere (d + 2) hS.2.1]
    exact endC_f rfl (cfS_D (cfD_r z X))
