theorem s_kinS (d : Nat) {G : jG} {X : jX} {T : aT} {P : aP} {κ : aK} {u z : Int} (h : cT G X T P κ u z) (hw : so T κ ≠ 4) : endC G X T (jD (d + 5) 70 [(15, 145)] (G, X)) (kinS T P κ) := by
  obtain ⟨hR, hT, hS, hD, hz, hO⟩ := id h
  have hk := pOk_n hO
  have d1 := hD.1
  unfold kinS
  rw [e_X5_readKind, gr_145_1 hR.1, gr_145_0 hR.1, d1.2.2.2.2.1, d1.2.2.2.1]
  simp only [Int.reduceLE, reduceIte]
  have f5 : endC G X T ((jD (d + 4) 87 [(17, 28), (0, 5)] (G, X)).bind fun q1 => if q1.1 = 0 then some (0, (q1.2.1, q1.2.2)) else (if q1.1 = 1 then some (1, (q1.2.1, q1.2.2)) else none)) (.inl (5, κ.1)) := by
    rw [s_failHere (d + 3) hS.2.1]
    exact endC_f rfl (cfS_D (cfD_r z X))
  by_cases q5 : pK P < 5
  · rw [if_pos q5]
    by_cases q6 : 0 < pR P
    · rw [if_pos q6, if_pos (Or.inr q6)]; exact f5
    · rw [if_neg q6, if_neg (show ¬ (5 ≤ pK P ∨ 0 < pR P) by omega)]
      obtain ⟨X1, e1, S1, f1⟩ := cS_step (d + 2) hR hT hS hw
      have hn := nx_in hS.2.2.1
      have D1 := cDr_fr (cfD_F f1) hD
      have en := s_give d ⟨hR, hT, S1, D1, by omega, hO⟩ 19 (pK P) 30 (by omega) (by omega) (by omega)
      rw [e1]
      simp only [Option.bind_some]
      rw [gr_145_1 hR.1, gr_13_13 hR.1, D1.1.2.2.2.2.1]
      simp only [Int.reduceLE, reduceIte]
      unfold giv
      cases e : nmN T (nx T κ) with
      | inl ee =>
        rw [e] at en
        obtain ⟨X2, e2, b1, b2, f2⟩ := en
        rw [e2]
        simp only [Option.bind_some, reduceIte]
        exact ⟨X2, rfl, b1, b2, cfS_t (cfS_D (cfD_F f1)) f2⟩
      | inr g =>
        rw [e] at en
        obtain ⟨en1, en2⟩ := en
        dsimp only
        by_cases qd : fnd (pKn P) (pK P) g ≠ -1 ∨ fnd (pHn P) (pH P) g ≠ -1
        · obtain ⟨X2, e2, b1, b2, f2⟩ := en1 qd
          rw [if_pos qd, e2]
          simp only [Option.bind_some, reduceIte]
          exact ⟨X2, rfl, b1, b2, cfS_t (cfS_D (cfD_F f1)) f2⟩
        · obtain ⟨X2, e2, S2, c2, f2, z2⟩ := en2 qd
          have F2 : cfS X X2 := cfS_t (cfS_D (cfD_F f1)) (fun k a b c => f2 k b (by omega) c (by omega))
          rw [if_neg qd, e2]
          simp only [Option.bind_some]
          rw [if_neg (by omega), gr_145_0 hR.1]
          simp only [Int.reduceLE, reduceIte]
          have hn2 := nx_in hn.1
          unfold tW
          obtain ⟨w1, w2⟩ := s_takeWord (d + 1) hR hT S2 3 (by omega)
          by_cases q3 : wd T (nx T (nx T κ)) = 3
          · obtain ⟨X3, e3, S3, f3⟩ := w1 q3
            rw [if_pos q3, e3]
            simp only [Option.bind_some]
            rw [if_neg (by omega), gr_145_0 hR.1]
            simp only [Int.reduceLE, reduceIte]
            have hn3 := nx_in hn2.1
            have n4 := s_takeNumber (d + 1) hR hT S3 1 99
            unfold tN
            cases e4 : nmR T 1 99 (nx T (nx T (nx T κ))) with
            | inl ee =>
              rw [e4] at n4
              obtain ⟨X4, e5, b1, b2, f4⟩ := n4
              rw [e5]
              simp only [Option.bind_some, reduceIte]
              exact ⟨X4, rfl, b1, b2, cfS_t F2 (cfS_D (cfD_F (cfF_t f3 f4)))⟩
            | inr r =>
              rw [e4] at n4
              obtain ⟨X4, e5, r0, r1, r2, S4, f4⟩ := n4
              rw [e5]
              simp only [Option.bind_some]
              rw [if_neg (by omega), gr_145_0 hR.1]
              simp only [Int.reduceLE, reduceIte]
              have hn4 := nx_in hn3.1
              have F4 := cfF_t f3 f4
              obtain ⟨w3, w4⟩ := s_takeWord (d + 1) hR hT S4 4 (by omega)
              by_cases q4 : wd T (nx T (nx T (nx T (nx T κ)))) = 4
              · obtain ⟨X5, e6, S5, f5⟩ := w3 q4
                rw [if_pos q4, e6]
                simp only [Option.bind_some]
                rw [if_neg (by omega), gr_145_0 hR.1]
                simp only [Int.reduceLE, reduceIte]
                have hn5 := nx_in hn4.1
                have F5 := cfF_t F4 f5
                have n6 := s_takeNumber (d + 1) hR hT S5 0 99
                cases e7 : nmR T 0 99 (nx T (nx T (nx T (nx T (nx T κ))))) with
                | inl ee =>
                  rw [e7] at n6
                  obtain ⟨X6, e8, b1, b2, f6⟩ := n6
                  rw [e8]
                  simp only [Option.bind_some, reduceIte]
                  exact ⟨X6, rfl, b1, b2, cfS_t F2 (cfS_D (cfD_F (cfF_t F5 f6)))⟩
                | inr a =>
                  rw [e7] at n6
                  obtain ⟨X6, e8, a0, a1, a2, S6, f6⟩ := n6
                  have F6 := cfF_t F5 f6
                  have hn6 := nx_in hn5.1
                  have x6 : ∀ k, k ≠ 28 → k ≠ 24 → X6 k = X2 k := fun k a b => F6.1 k a b
                  have k5 : X6 13 5 = pK P := by rw [x6 13 (by omega) (by omega), f2 13 (by omega) (by omega) (by omega) (by omega)]; exact D1.1.2.2.2.2.1
                  rw [e8]
                  simp only [Option.bind_some]
                  rw [if_neg (by omega), gr_145_1 hR.1, gr_13_10 hR.1, gr_13_11 hR.1, gl_16 hR.1, gl_17 hR.1, k5, jup_rw X6 16 _ _ 13 (by omega), k5, jup_rw (jup X6 16 (pK P) r) 17 _ _ 13 (by omega), jup_rw X6 16 _ _ 13 (by omega), k5, jadd_id (by omega) (by omega)]
                  simp only [if_pos (show 0 ≤ pK P by omega), if_pos q5, Int.reduceLE, reduceIte]
                  generalize hY : jup (jup (jup X6 16 (pK P) r) 17 (pK P) a) 13 5 (pK P + 1) = Y
                  have yk : ∀ k, k ≠ 13 → k ≠ 16 → k ≠ 17 → Y k = X6 k := fun k h1 h2 h3 => by rw [← hY, jup_rw _ _ _ _ _ h1, jup_rw _ _ _ _ _ h3, jup_rw _ _ _ _ _ h2]
                  have y13 : ∀ j, j ≠ 5 → Y 13 j = X1 13 j := fun j hj => by rw [← hY, jup_row _ _ _ _ _ hj, jup_rw _ _ _ _ _ (by omega), jup_rw _ _ _ _ _ (by omega), x6 13 (by omega) (by omega), f2 13 (by omega) (by omega) (by omega) (by omega)]
                  have ye : ∀ k, k ≠ 13 → k ≠ 16 → k ≠ 17 → k ≠ 19 → k ≠ 24 → k ≠ 28 → k ≠ 32 → Y k = X1 k := fun k h1 h2 h3 h4 h5 h6 h7 => by rw [yk k h1 h2 h3, x6 k h6 h5, f2 k h6 h5 h7 h4]
                  have y24 : ∀ j, j < z → Y 24 j = X1 24 j := fun j hj => by rw [yk 24 (by omega) (by omega) (by omega), F6.2 j hj, z2 j hj]
                  have y16 : ∀ k, Y 16 k = if k = pK P then r else X1 16 k := fun k => by
                    rw [← hY, jup_rw _ _ _ _ _ (by omega), jup_rw _ _ _ _ _ (by omega)]
                    by_cases y : k = pK P
                    · rw [if_pos y, y, jup_same]
                    · rw [if_neg y, jup_row _ _ _ _ _ y, x6 16 (by omega) (by omega), f2 16 (by omega) (by omega) (by omega) (by omega)]
                  have y17 : ∀ k, Y 17 k = if k = pK P then a else X1 17 k := fun k => by
                    rw [← hY, jup_rw _ _ _ _ _ (by omega)]
                    by_cases y : k = pK P
                    · rw [if_pos y, y, jup_same]
                    · rw [if_neg y, jup_row _ _ _ _ _ y, jup_rw _ _ _ _ _ (by omega), x6 17 (by omega) (by omega), f2 17 (by omega) (by omega) (by omega) (by omega)]
                  have y19 : ∀ i, Y 19 i = if pK P * 6 ≤ i ∧ i < pK P * 6 + 6 then g (i - pK P * 6) else X1 19 i := fun i => by rw [yk 19 (by omega) (by omega) (by omega), x6 19 (by omega) (by omega), c2 i]
                  refine ⟨Y, u, z, rfl, cS_fr (yk 28 (by omega) (by omega) (by omega)) (yk 24 (by omega) (by omega) (by omega)) (yk 33 (by omega) (by omega) (by omega)) (yk 34 (by omega) (by omega) (by omega)) S6, ?_, by dsimp only; omega, cfS_t F2 (fun k h1 h2 h3 => by rw [yk k (by omega) (by omega) (by omega), x6 k h2 (by omega)])⟩
                  obtain ⟨b1, b2, b3, b4, b5, b6, b7⟩ := D1
                  refine ⟨⟨by rw [y13 0 (by omega)]; exact b1.1, by rw [y13 2 (by omega)]; exact b1.2.1, by rw [y13 3 (by omega)]; exact b1.2.2.1, by rw [y13 4 (by omega)]; exact b1.2.2.2.1, by rw [← hY, jup_same]; rfl, by rw [y13 6 (by omega)]; exact b1.2.2.2.2.2.1, by rw [y13 7 (by omega)]; exact b1.2.2.2.2.2.2⟩, by rw [ye 14 (by omega) (by omega) (by omega) (by omega) (by omega) (by omega) (by omega)]; exact b2, ⟨dFo_fr (ye 15 (by omega) (by omega) (by omega) (by omega) (by omega) (by omega) (by omega)) y24 b3.1, dFo_fr (ye 15 (by omega) (by omega) (by omega) (by omega) (by omega) (by omega) (by omega)) y24 b3.2.1, dFo_fr (ye 15 (by omega) (by omega) (by omega) (by omega) (by omega) (by omega) (by omega)) y24 b3.2.2⟩, fun k k0 k1 => ?_, by rw [ye 18 (by omega) (by omega) (by omega) (by omega) (by omega) (by omega) (by omega)]; exact b5, by rw [ye 20 (by omega) (by omega) (by omega) (by omega) (by omega) (by omega) (by omega), ye 21 (by omega) (by omega) (by omega) (by omega) (by omega) (by omega) (by omega)]; exact b6, by rw [ye 22 (by omega) (by omega) (by omega) (by omega) (by omega) (by omega) (by omega)]; exact b7⟩
                  have k1' : k < pK P + 1 := k1
                  show Y 16 k = upF (pRe P) (pK P) r k ∧ Y 17 k = upF (pGa P) (pK P) a k ∧ ∀ j, 0 ≤ j → j < 6 → Y 19 (k * 6 + j) = upF (pKn P) (pK P) g k j
                  unfold upF
                  by_cases y : k = pK P
                  · simp only [if_pos y]
                    rw [y16, y17, if_pos y, if_pos y]
                    refine ⟨rfl, rfl, fun j j0 j1 => ?_⟩
                    rw [y19, if_pos (by omega), show k * 6 + j - pK P * 6 = j by omega]
                  · simp only [if_neg y]
                    rw [y16, y17, if_neg y, if_neg y]
                    obtain ⟨c1, c2, c3⟩ := b4 k k0 (by omega)
                    refine ⟨c1, c2, fun j j0 j1 => ?_⟩
                    rw [y19, if_neg (by omega)]
                    exact c3 j j0 j1
              · rw [if_neg q4, w4 q4]
                simp only [Option.bind_some, reduceIte]
                exact endC_f rfl (cfS_t F2 (cfS_D (cfD_F F4)))
          · rw [if_neg q3, w2 q3]
            simp only [Option.bind_some, reduceIte]
            exact endC_f rfl F2
  · rw [if_neg q5, if_pos (Or.inl (show 5 ≤ pK P by omega))]; exact f5
theorem s_houS (d : Nat) {G : jG} {X : jX} {T : aT} {P : aP} {κ : aK} {u z : Int} (h : cT G X T P κ u z) (hw : so T κ ≠ 4) : endC G X T (jD (d + 5) 74 [(15, 145)] (G, X)) (houS T P κ) := by
  obtain ⟨hR, hT, hS, hD, hz, hO⟩ := id h
  have hk := pOk_n hO
  have d1 := hD.1
  have hj : jsub (pC P) 1 = pC P - 1 := jsub_id (by omega) (by omega)
  unfold houS
  rw [e_X5_readHouse, gr_145_1 hR.1, gr_145_0 hR.1, d1.2.2.2.2.2.1]
  simp only [Int.reduceLE, reduceIte]
  have f5 : endC G X T ((jD (d + 4) 87 [(17, 28), (0, 5)] (G, X)).bind fun q1 => if q1.1 = 0 then some (0, (q1.2.1, q1.2.2)) else (if q1.1 = 1 then some (1, (q1.2.1, q1.2.2)) else none)) (.inl (5, κ.1)) := by
    rw [s_failHere (d + 3) hS.2.1]
    exact endC_f rfl (cfS_D (cfD_r z X))
  by_cases q5 : pH P < 6
  · rw [if_pos q5, if_neg (show ¬ 6 ≤ pH P by omega)]
    obtain ⟨X1, e1, S1, f1⟩ := cS_step (d + 2) hR hT hS hw
    have hn := nx_in hS.2.2.1
    have D1 := cDr_fr (cfD_F f1) hD
    have en := s_give d ⟨hR, hT, S1, D1, by omega, hO⟩ 20 (pH P) 36 (by omega) (by omega) (by omega)
    rw [e1]
    simp only [Option.bind_some]
    rw [gr_145_1 hR.1, gr_13_14 hR.1, D1.1.2.2.2.2.2.1]
    simp only [Int.reduceLE, reduceIte]
    unfold giv
    cases e : nmN T (nx T κ) with
    | inl ee =>
      rw [e] at en
      obtain ⟨X2, e2, b1, b2, f2⟩ := en
      rw [e2]
      simp only [Option.bind_some, reduceIte]
      exact ⟨X2, rfl, b1, b2, cfS_t (cfS_D (cfD_F f1)) f2⟩
    | inr g =>
      rw [e] at en
      obtain ⟨en1, en2⟩ := en
      dsimp only
      by_cases qd : fnd (pKn P) (pK P) g ≠ -1 ∨ fnd (pHn P) (pH P) g ≠ -1
      · obtain ⟨X2, e2, b1, b2, f2⟩ := en1 qd
        rw [if_pos qd, e2]
        simp only [Option.bind_some, reduceIte]
        exact ⟨X2, rfl, b1, b2, cfS_t (cfS_D (cfD_F f1)) f2⟩
      · obtain ⟨X2, e2, S2, c2, f2, z2⟩ := en2 qd
        have F2 : cfS X X2 := cfS_t (cfS_D (cfD_F f1)) (fun k a b c => f2 k b (by omega) c (by omega))
        rw [if_neg qd, e2]
        simp only [Option.bind_some]
        rw [if_neg (by omega), gr_145_0 hR.1]
        simp only [Int.reduceLE, reduceIte]
        have hn2 := nx_in hn.1
        unfold tW
        obtain ⟨w1, w2⟩ := s_takeWord (d + 1) hR hT S2 1 (by omega)
        by_cases q3 : wd T (nx T (nx T κ)) = 1
        · obtain ⟨X3, e3, S3, f3⟩ := w1 q3
          have c3 : X3 13 2 = pC P := by rw [f3.1 13 (by omega) (by omega), f2 13 (by omega) (by omega) (by omega) (by omega)]; exact D1.1.2.1
          rw [if_pos q3, e3]
          simp only [Option.bind_some]
          rw [if_neg (by omega), gr_145_0 hR.1, gr_145_1 hR.1, c3, hj]
          simp only [Int.reduceLE, reduceIte]
          have hn3 := nx_in hn2.1
          have n6 := s_takeNumber (d + 1) hR hT S3 0 (pC P - 1)
          unfold tN
          cases e7 : nmR T 0 (pC P - 1) (nx T (nx T (nx T κ))) with
          | inl ee =>
            rw [e7] at n6
            obtain ⟨X6, e8, b1, b2, f6⟩ := n6
            rw [e8]
            simp only [Option.bind_some, reduceIte]
            exact ⟨X6, rfl, b1, b2, cfS_t F2 (cfS_D (cfD_F (cfF_t f3 f6)))⟩
          | inr a =>
            rw [e7] at n6
            obtain ⟨X6, e8, a0, a1, a2, S6, f6⟩ := n6
            have F6 := cfF_t f3 f6
            have hn6 := nx_in hn3.1
            have x6 : ∀ k, k ≠ 28 → k ≠ 24 → X6 k = X2 k := fun k a b => F6.1 k a b
            have k5 : X6 13 6 = pH P := by rw [x6 13 (by omega) (by omega), f2 13 (by omega) (by omega) (by omega) (by omega)]; exact D1.1.2.2.2.2.2.1
            rw [e8]
            simp only [Option.bind_some]
            rw [if_neg (by omega), gr_145_1 hR.1, gr_13_15 hR.1, gl_21 hR.1, k5, jup_rw X6 21 _ _ 13 (by omega), k5, jadd_id (by omega) (by omega)]
            simp only [if_pos (show 0 ≤ pH P by omega), if_pos q5, Int.reduceLE, reduceIte]
            generalize hY : jup (jup X6 21 (pH P) a) 13 6 (pH P + 1) = Y
            have yk : ∀ k, k ≠ 13 → k ≠ 21 → Y k = X6 k := fun k h1 h2 => by rw [← hY, jup_rw _ _ _ _ _ h1, jup_rw _ _ _ _ _ h2]
            have y13 : ∀ j, j ≠ 6 → Y 13 j = X1 13 j := fun j hj => by rw [← hY, jup_row _ _ _ _ _ hj, jup_rw _ _ _ _ _ (by omega), x6 13 (by omega) (by omega), f2 13 (by omega) (by omega) (by omega) (by omega)]
            have ye : ∀ k, k ≠ 13 → k ≠ 21 → k ≠ 20 → k ≠ 24 → k ≠ 28 → k ≠ 32 → Y k = X1 k := fun k h1 h2 h4 h5 h6 h7 => by rw [yk k h1 h2, x6 k h6 h5, f2 k h6 h5 h7 h4]
            have y24 : ∀ j, j < z → Y 24 j = X1 24 j := fun j hj => by rw [yk 24 (by omega) (by omega), F6.2 j hj, z2 j hj]
            have y21 : ∀ k, Y 21 k = if k = pH P then a else X1 21 k := fun k => by
              rw [← hY, jup_rw _ _ _ _ _ (by omega)]
              by_cases y : k = pH P
              · rw [if_pos y, y, jup_same]
              · rw [if_neg y, jup_row _ _ _ _ _ y, x6 21 (by omega) (by omega), f2 21 (by omega) (by omega) (by omega) (by omega)]
            have y20 : ∀ i, Y 20 i = if pH P * 6 ≤ i ∧ i < pH P * 6 + 6 then g (i - pH P * 6) else X1 20 i := fun i => by rw [yk 20 (by omega) (by omega), x6 20 (by omega) (by omega), c2 i]
            refine ⟨Y, u, z, rfl, cS_fr (yk 28 (by omega) (by omega)) (yk 24 (by omega) (by omega)) (yk 33 (by omega) (by omega)) (yk 34 (by omega) (by omega)) S6, ?_, by dsimp only; omega, cfS_t F2 (fun k h1 h2 h3 => by rw [yk k (by omega) (by omega), x6 k h2 (by omega)])⟩
            obtain ⟨b1, b2, b3, b4, b5, b6, b7⟩ := D1
            refine ⟨⟨by rw [y13 0 (by omega)]; exact b1.1, by rw [y13 2 (by omega)]; exact b1.2.1, by rw [y13 3 (by omega)]; exact b1.2.2.1, by rw [y13 4 (by omega)]; exact b1.2.2.2.1, by rw [y13 5 (by omega)]; exact b1.2.2.2.2.1, by rw [← hY, jup_same]; rfl, by rw [y13 7 (by omega)]; exact b1.2.2.2.2.2.2⟩, by rw [ye 14 (by omega) (by omega) (by omega) (by omega) (by omega) (by omega)]; exact b2, ⟨dFo_fr (ye 15 (by omega) (by omega) (by omega) (by omega) (by omega) (by omega)) y24 b3.1, dFo_fr (ye 15 (by omega) (by omega) (by omega) (by omega) (by omega) (by omega)) y24 b3.2.1, dFo_fr (ye 15 (by omega) (by omega) (by omega) (by omega) (by omega) (by omega)) y24 b3.2.2⟩, by rw [ye 16 (by omega) (by omega) (by omega) (by omega) (by omega) (by omega), ye 17 (by omega) (by omega) (by omega) (by omega) (by omega) (by omega), ye 19 (by omega) (by omega) (by omega) (by omega) (by omega) (by omega)]; exact b4, by rw [ye 18 (by omega) (by omega) (by omega) (by omega) (by omega) (by omega)]; exact b5, fun k k0 k1 => ?_, by rw [ye 22 (by omega) (by omega) (by omega) (by omega) (by omega) (by omega)]; exact b7⟩
            have k1' : k < pH P + 1 := k1
            show Y 21 k = upF (pHc P) (pH P) a k ∧ ∀ j, 0 ≤ j → j < 6 → Y 20 (k * 6 + j) = upF (pHn P) (pH P) g k j
            unfold upF
            by_cases y : k = pH P
            · simp only [if_pos y]
              rw [y21, if_pos y]
              refine ⟨rfl, fun j j0 j1 => ?_⟩
              rw [y20, if_pos (by omega), show k * 6 + j - pH P * 6 = j by omega]
            · simp only [if_neg y]
              rw [y21, if_neg y]
              obtain ⟨c1, c2⟩ := b6 k k0 (by omega)
              refine ⟨c1, fun j j0 j1 => ?_⟩
              rw [y20, if_neg (by omega)]
              exact c2 j j0 j1
        · rw [if_neg q3, w2 q3]
          simp only [Option.bind_some, reduceIte]
          exact endC_f rfl F2
  · rw [if_neg q5, if_pos (show 6 ≤ pH P by omega)]; exact f5
