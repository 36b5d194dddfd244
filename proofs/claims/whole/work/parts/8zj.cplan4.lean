theorem s_kindHere (d : Nat) {G : jG} {X : jX} {T : aT} {P : aP} {κ : aK} {u z : Int} (h : cT G X T P κ u z) : match nmN T κ with
  | .inl e => ∃ X', jD (d + 4) 76 [(15, 145)] (G, X) = some (-1, (G, X')) ∧ X' 28 9 = e.1 ∧ X' 28 10 = e.2 ∧ cfS X X'
  | .inr g => if fnd (pKn P) (pK P) g = -1 then (∃ X', jD (d + 4) 76 [(15, 145)] (G, X) = some (-1, (G, X')) ∧ X' 28 9 = 3 ∧ X' 28 10 = κ.1 ∧ cfS X X') else ∃ X', jD (d + 4) 76 [(15, 145)] (G, X) = some (fnd (pKn P) (pK P) g, (G, X')) ∧ cT G X' T P κ u z ∧ cfD z X X' ∧ so T κ = 1 := by
  obtain ⟨hR, hT, hS, hD, hz, hO⟩ := h
  have hk := pOk_n hO
  have en := s_nameHere d hR hT hS
  rw [e_X5_kindHere, gr_145_0 hR.1]
  simp only [Int.reduceLE, reduceIte]
  cases e : nmN T κ with
  | inl ee =>
    rw [e] at en
    obtain ⟨X1, e1, b1, b2, f1⟩ := en
    rw [e1]
    simp only [Option.bind_some, reduceIte]
    exact ⟨X1, rfl, b1, b2, cfS_D f1⟩
  | inr g =>
    rw [e] at en
    obtain ⟨X1, e1, g1, S1, f1, hso⟩ := en
    have D1 := cDr_fr f1 hD
    have ek := s_findName (d + 1) (X := X1) (G := G) 19 (pK P) 30 (pKn P) g (by omega) (gl_19 hR.1) hR.1 (by omega) (by omega) (by omega) (fun i i0 i1 => (D1.2.2.2.1 i i0 i1).2.2) g1
    rw [e1]
    simp only [Option.bind_some]
    rw [if_neg (show ¬ (32 : Int) = -1 by omega), gr_145_1 hR.1, gr_13_13 hR.1, D1.1.2.2.2.2.1]
    simp only [Int.reduceLE, reduceIte]
    rw [ek]
    simp only [Option.bind_some]
    by_cases q : fnd (pKn P) (pK P) g = -1
    · rw [if_pos q, if_pos q, gr_145_0 hR.1]
      simp only [Int.reduceLE, reduceIte]
      rw [s_failHere (d + 2) S1.2.1]
      refine ⟨jup (jup X1 28 9 3) 28 10 κ.1, by rw [q]; rfl, by rw [jup_row _ _ _ _ _ (by omega), jup_same], by rw [jup_same], cfS_t (cfS_D f1) (fun k _ b _ => by rw [jup_rw _ _ _ _ _ b, jup_rw _ _ _ _ _ b])⟩
    · rw [if_neg q, if_neg q]
      exact ⟨X1, rfl, ⟨hR, hT, S1, D1, hz, hO⟩, f1, hso⟩
theorem s_mixS (d : Nat) {G : jG} {X : jX} {T : aT} {P : aP} {κ : aK} {u z : Int} (h : cT G X T P κ u z) (hd : dOk P) (hw : so T κ ≠ 4) : endC G X T (jD (d + 5) 75 [(15, 145)] (G, X)) (mixS T P κ) := by
  obtain ⟨hR, hT, hS, hD, hz, hO⟩ := id h
  have hk := pOk_n hO
  have hF := hd.2
  unfold mixS
  rw [e_X5_readMix, gr_145_1 hR.1, gr_145_0 hR.1, hD.1.2.2.2.2.2.2]
  simp only [Int.reduceLE, reduceIte]
  by_cases q : pM P < 10
  · rw [if_pos q, if_neg (show ¬ 10 ≤ pM P by omega)]
    obtain ⟨X1, e1, S1, f1⟩ := cS_step (d + 2) hR hT hS hw
    have hn := nx_in hS.2.2.1
    have hn2 := nx_in hn.1
    have hn3 := nx_in hn2.1
    have F1 := cfD_F f1
    have ek := s_kindHere d (G := G) ⟨hR, hT, S1, cDr_fr F1 hD, by omega, hO⟩
    rw [e1]
    simp only [Option.bind_some]
    unfold knd
    cases e : nmN T (nx T κ) with
    | inl ee =>
      rw [e] at ek
      obtain ⟨X2, e2, b1, b2, f2⟩ := ek
      rw [e2]
      simp only [Option.bind_some, reduceIte]
      exact ⟨X2, rfl, b1, b2, cfS_t (cfS_D F1) f2⟩
    | inr g =>
      rw [e] at ek
      dsimp only at ek ⊢
      have hb1 := fnd_b (pKn P) (pK P) g (by omega)
      by_cases q1 : fnd (pKn P) (pK P) g = -1
      · rw [if_pos q1] at ek ⊢
        obtain ⟨X2, e2, b1, b2, f2⟩ := ek
        rw [e2]
        simp only [Option.bind_some, reduceIte]
        exact ⟨X2, rfl, b1, b2, cfS_t (cfS_D F1) f2⟩
      · rw [if_neg q1] at ek ⊢
        obtain ⟨X2, e2, T2, f2, hso2⟩ := ek
        rw [e2]
        simp only [Option.bind_some]
        rw [if_neg q1, gr_145_0 hR.1]
        simp only [Int.reduceLE, reduceIte]
        obtain ⟨X3, e3, S3, f3⟩ := cS_step (d + 2) hR hT T2.2.2.1 (by omega)
        have F3 := cfD_t F1 (cfD_t f2 (cfD_F f3))
        have ek2 := s_kindHere d (G := G) ⟨hR, hT, S3, cDr_fr F3 hD, by omega, hO⟩
        rw [e3]
        simp only [Option.bind_some]
        cases e4 : nmN T (nx T (nx T κ)) with
        | inl ee =>
          rw [e4] at ek2
          obtain ⟨X4, e5, b1, b2, f4⟩ := ek2
          rw [e5]
          simp only [Option.bind_some, reduceIte]
          exact ⟨X4, rfl, b1, b2, cfS_t (cfS_D F3) f4⟩
        | inr g2 =>
          rw [e4] at ek2
          dsimp only at ek2 ⊢
          have hb2 := fnd_b (pKn P) (pK P) g2 (by omega)
          by_cases q2 : fnd (pKn P) (pK P) g2 = -1
          · rw [if_pos q2] at ek2 ⊢
            obtain ⟨X4, e5, b1, b2, f4⟩ := ek2
            rw [e5]
            simp only [Option.bind_some, reduceIte]
            exact ⟨X4, rfl, b1, b2, cfS_t (cfS_D F3) f4⟩
          · rw [if_neg q2] at ek2 ⊢
            obtain ⟨X4, e5, T4, f4, hso4⟩ := ek2
            have F4 := cfD_t F3 f4
            rw [e5]
            simp only [Option.bind_some]
            rw [if_neg q2]
            generalize fnd (pKn P) (pK P) g = a at *
            generalize fnd (pKn P) (pK P) g2 = b at *
            obtain ⟨a1, a2, a3, a4, a5, a6, a7⟩ := T4.2.2.2.1
            have fa : X4 18 a = pFo P a := a5 a (by omega) (by omega)
            have fb : X4 18 b = pFo P b := a5 b (by omega) (by omega)
            have ia := ior_b (x := pFo P a) (b := b) (hF a (by omega) (by omega)).1 (by omega)
            have ib := ior_b (x := pFo P b) (b := a) (hF b (by omega) (by omega)).1 (by omega)
            have fail3 : endC G X T ((jD (d + 4) 87 [(17, 28), (0, 3)] (G, X4)).bind fun q5 => if q5.1 = 0 then some (0, (q5.2.1, q5.2.2)) else (if q5.1 = 1 then some (1, (q5.2.1, q5.2.2)) else none)) (.inl (3, (nx T (nx T κ)).1)) := by
              rw [s_failHere (d + 3) T4.2.2.1.2.1]
              exact endC_f rfl (cfS_D F4)
            by_cases q3 : a = b
            · rw [if_pos q3, if_pos (Or.inl q3), gr_145_0 hR.1]
              simp only [Int.reduceLE, reduceIte]
              exact fail3
            · rw [if_neg q3, gr_145_1 hR.1, gr_13_12 hR.1, gl_18 hR.1, gr_145_0 hR.1, fa, ia.2.2]
              simp only [if_pos (show 0 ≤ a by omega), if_pos (show a < 5 by omega), if_pos (show 0 ≤ b by omega), if_pos (show b < 5 by omega), Int.reduceLE, reduceIte]
              by_cases q4 : pFo P a / 2 ^ b.toNat % 2 = 0
              · rw [if_pos q4, if_neg (show ¬ (a = b ∨ pFo P a / 2 ^ b.toNat % 2 = 1) from fun y => by rcases y with y | y; exact q3 y; omega), ia.1, jup_row X4 18 a _ b (fun y => q3 y.symm), fb, ib.1, jup_rw (jup X4 18 a (orb (pFo P a) b)) 18 _ _ 13 (by omega), jup_rw X4 18 _ _ 13 (by omega), a1.2.2.2.2.2.2, jadd_id (by omega) (by omega)]
                generalize hY : jup (jup (jup X4 18 a (orb (pFo P a) b)) 18 b (orb (pFo P b) a)) 13 7 (pM P + 1) = Y
                have yk : ∀ k, k ≠ 13 → k ≠ 18 → Y k = X4 k := fun k h1 h2 => by rw [← hY, jup_rw _ _ _ _ _ h1, jup_rw _ _ _ _ _ h2, jup_rw _ _ _ _ _ h2]
                have y13 : ∀ j, j ≠ 7 → Y 13 j = X4 13 j := fun j hj => by rw [← hY, jup_row _ _ _ _ _ hj, jup_rw _ _ _ _ _ (by omega), jup_rw _ _ _ _ _ (by omega)]
                have y18 : ∀ k, Y 18 k = if k = a then orb (pFo P a) b else if k = b then orb (pFo P b) a else X4 18 k := fun k => by
                  rw [← hY, jup_rw _ _ _ _ _ (by omega)]
                  by_cases y1 : k = a
                  · rw [if_pos y1, y1, jup_row _ _ _ _ _ q3, jup_same]
                  · rw [if_neg y1]
                    by_cases y2 : k = b
                    · rw [if_pos y2, y2, jup_same]
                    · rw [if_neg y2, jup_row _ _ _ _ _ y2, jup_row _ _ _ _ _ y1]
                have SY := cS_fr (X' := Y) (yk 28 (by omega) (by omega)) (yk 24 (by omega) (by omega)) (yk 33 (by omega) (by omega)) (yk 34 (by omega) (by omega)) T4.2.2.1
                obtain ⟨X5, e6, S5, f5⟩ := cS_step (d + 2) hR hT SY (by omega)
                rw [e6]
                refine ⟨X5, u, z, rfl, S5, cDr_fr (cfD_F f5) ?_, by dsimp only; omega, cfS_t (cfS_D F4) (fun k h1 h2 h3 => by rw [f5.1 k h2 (by omega), yk k (by omega) (by omega)])⟩
                refine ⟨⟨by rw [y13 0 (by omega)]; exact a1.1, by rw [y13 2 (by omega)]; exact a1.2.1, by rw [y13 3 (by omega)]; exact a1.2.2.1, by rw [y13 4 (by omega)]; exact a1.2.2.2.1, by rw [y13 5 (by omega)]; exact a1.2.2.2.2.1, by rw [y13 6 (by omega)]; exact a1.2.2.2.2.2.1, by rw [← hY, jup_same]; rfl⟩, by rw [yk 14 (by omega) (by omega)]; exact a2, ⟨dFo_fr (yk 15 (by omega) (by omega)) (fun j _ => by rw [yk 24 (by omega) (by omega)]) a3.1, dFo_fr (yk 15 (by omega) (by omega)) (fun j _ => by rw [yk 24 (by omega) (by omega)]) a3.2.1, dFo_fr (yk 15 (by omega) (by omega)) (fun j _ => by rw [yk 24 (by omega) (by omega)]) a3.2.2⟩, by rw [yk 16 (by omega) (by omega), yk 17 (by omega) (by omega), yk 19 (by omega) (by omega)]; exact a4, fun k k0 k1 => ?_, by rw [yk 20 (by omega) (by omega), yk 21 (by omega) (by omega)]; exact a6, by rw [yk 22 (by omega) (by omega)]; exact a7⟩
                rw [y18]
                show _ = if k = a then orb (pFo P k) b else if k = b then orb (pFo P k) a else pFo P k
                by_cases y1 : k = a
                · rw [if_pos y1, if_pos y1, y1]
                · rw [if_neg y1, if_neg y1]
                  by_cases y2 : k = b
                  · rw [if_pos y2, if_pos y2, y2]
                  · rw [if_neg y2, if_neg y2]; exact a5 k k0 k1
              · rw [if_neg q4, if_pos (Or.inr (show pFo P a / 2 ^ b.toNat % 2 = 1 by omega))]
                exact fail3
  · rw [if_neg q, if_pos (show 10 ≤ pM P by omega), s_failHere (d + 3) hS.2.1]
    exact endC_f rfl (cfS_D (cfD_r z X))
theorem endC_thru {G : jG} {X : jX} {T : aT} {L : jR} {R : rp} (h : endC G X T L R) : endC G X T (L.bind fun q2 => if q2.1 = 0 then some (0, (q2.2.1, q2.2.2)) else (if q2.1 = 1 then some (1, (q2.2.1, q2.2.2)) else none)) R := by
  cases R with
  | inl e => obtain ⟨Y, q, a⟩ := h; exact ⟨Y, by rw [q]; rfl, a⟩
  | inr e => obtain ⟨Y, v, z, q, a⟩ := h; exact ⟨Y, v, z, by rw [q]; rfl, a⟩
theorem s_bodS (d : Nat) {G : jG} {X : jX} {T : aT} {P : aP} {κ : aK} {u z : Int} (h : cT G X T P κ u z) (hd : dOk P) : endC G X T (jD (d + 40) 68 [(15, 145)] (G, X)) (bodS T P κ) := by
  obtain ⟨hR, hT, hS, hD, hz, hO⟩ := id h
  have hb := wd_b T κ
  have hk := pOk_n hO
  unfold bodS
  rw [e_X5_readStatement, gr_145_0 hR.1]
  simp only [Int.reduceLE, reduceIte]
  rw [s_wordHere (d + 37) hR hT hS.1 hS.2.1 hS.2.2.1]
  simp only [Option.bind_some]
  rw [gr_145_1 hR.1, hD.1.1, gr_145_0 hR.1]
  simp only [Int.reduceLE, reduceIte]
  by_cases n0 : pN P = 0
  · rw [if_pos n0, if_pos n0]; exact endC_thru (s_pitS (d + 35) h n0)
  · rw [if_neg n0, if_neg n0]
    have hso : ∀ w, wd T κ = w → 0 ≤ w → so T κ ≠ 4 ∧ so T κ ≠ 0 := fun w h1 h2 => by have := wd_so (T := T) (κ := κ) (by omega); omega
    have f1 : endC G X T ((jD (d + 39) 87 [(17, 28), (0, 1)] (G, X)).bind fun q20 => if q20.1 = 0 then some (0, (q20.2.1, q20.2.2)) else (if q20.1 = 1 then some (1, (q20.2.1, q20.2.2)) else none)) (.inl (1, κ.1)) := by
      rw [s_failHere (d + 38) hS.2.1]
      exact endC_f rfl (cfS_D (cfD_r z X))
    by_cases w2 : wd T κ = 2
    · rw [if_pos w2, if_pos w2]; exact endC_thru (s_kinS (d + 34) h (hso 2 w2 (by omega)).1)
    · rw [if_neg w2, if_neg w2]
      by_cases w3 : wd T κ = 3
      · rw [if_pos w3, if_neg (by omega), if_neg (by omega), if_neg (by omega), if_neg (by omega), if_neg (by omega), if_neg (by omega), if_neg (by omega), if_neg (by omega), if_neg (by omega)]; exact f1
      · rw [if_neg w3]
        by_cases w4 : wd T κ = 4
        · rw [if_pos w4, if_neg (by omega), if_neg (by omega), if_neg (by omega), if_neg (by omega), if_neg (by omega), if_neg (by omega), if_neg (by omega), if_neg (by omega), if_neg (by omega)]; exact f1
        · rw [if_neg w4]
          by_cases w5 : wd T κ = 5
          · rw [if_pos w5, if_pos w5]; exact endC_thru (s_rowS (d + 35) h (by omega) (hso 5 w5 (by omega)).1)
          · rw [if_neg w5, if_neg w5]
            by_cases w6 : wd T κ = 6
            · rw [if_pos w6, if_pos w6]; exact endC_thru (s_houS (d + 34) h (hso 6 w6 (by omega)).1)
            · rw [if_neg w6, if_neg w6]
              by_cases w7 : wd T κ = 7
              · rw [if_pos w7, if_pos w7]; exact endC_thru (s_mixS (d + 34) h hd (hso 7 w7 (by omega)).1)
              · rw [if_neg w7, if_neg w7]
                by_cases w8 : wd T κ = 8
                · rw [if_pos w8, if_pos w8]; exact s_rulS d h 0 (by omega) (hso 8 w8 (by omega)).1 (hso 8 w8 (by omega)).2 107 rfl _ rfl
                · rw [if_neg w8, if_neg w8]
                  by_cases w9 : wd T κ = 9
                  · rw [if_pos w9, if_pos w9]; exact s_rulS d h 1 (by omega) (hso 9 w9 (by omega)).1 (hso 9 w9 (by omega)).2 112 rfl _ rfl
                  · rw [if_neg w9, if_neg w9]
                    by_cases w10 : wd T κ = 10
                    · rw [if_pos w10, if_pos w10]; exact s_rulS d h 2 (by omega) (hso 10 w10 (by omega)).1 (hso 10 w10 (by omega)).2 112 rfl _ rfl
                    · rw [if_neg w10, if_neg w10]
                      by_cases w11 : wd T κ = 11
                      · rw [if_pos w11, if_pos w11]; exact endC_thru (s_setting (d + 35) h 0 1 8 (by omega) (by omega) (hso 11 w11 (by omega)).1)
                      · rw [if_neg w11, if_neg w11]
                        by_cases w12 : wd T κ = 12
                        · rw [if_pos w12, if_pos w12]; exact endC_thru (s_setting (d + 35) h 1 0 20 (by omega) (by omega) (hso 12 w12 (by omega)).1)
                        · rw [if_neg w12, if_neg w12]
                          by_cases w13 : wd T κ = 13
                          · rw [if_pos w13, if_pos w13]; exact endC_thru (s_setting (d + 35) h 2 0 999 (by omega) (by omega) (hso 13 w13 (by omega)).1)
                          · rw [if_neg w13, if_neg w13]; exact f1
theorem s_plan_n (d : Nat) {G : jG} {T : aT} (hR : RG G) (hT : okT T) : ∀ (m : Nat) (X : jX) (P : aP) (κ : aK) (u z i : Int), cT G X T P κ u z → dOk P → i = pN P → i + m = 61 → match rdN T m P κ with
  | .inl e => ∃ X', jN (d + 40) 67 24 [(15, 145), (20, 33), (0, i)] [] (G, X) = some (0, (G, X')) ∧ X' 28 9 = e.1 ∧ X' 28 10 = e.2 ∧ cfS X X'
  | .inr q => ∃ X' z', jN (d + 40) 67 24 [(15, 145), (20, 33), (0, i)] [] (G, X) = some (1, (G, X')) ∧ cDr X' q.2 z' ∧ z' ≤ 1600 ∧ X' 28 9 = 0 ∧ X' 28 10 = -1 ∧ dOk q.2 ∧ 1 ≤ pN q.2 ∧ cfS X X' := by
  have hT1 := hT.2.1
  intro m
  induction m with
  | zero =>
    intro X P κ u z i h hd hi hm
    have := (pOk_n hd.1).1
    omega
  | succ m ih =>
    intro X P κ u z i h hd hi hm
    obtain ⟨_, _, hS, hD, hz, hO⟩ := id h
    have hn := (pOk_n hO).1
    have hin := hS.2.2.1
    have ee := s_isEnd (d + 39) (G := G) hS.2.1
    unfold rdN
    by_cases q0 : so T κ = 0
    · rw [if_pos q0] at ee ⊢
      have e80 : jN (d + 40) 67 24 [(15, 145), (20, 33), (0, i)] [] (G, X) = jN (d + 40) 67 80 [(15, 145), (20, 33), (0, i)] [] (G, X) := by
        rw [h_X5_readPlan_24]
        by_cases y : i < 60
        · rw [if_pos y, gr_145_0 hR.1]
          simp only [Int.reduceLE, reduceIte]
          rw [ee]
          simp only [Option.bind_some]
          rw [if_neg (by omega)]
        · rw [if_neg y]
      rw [e80, h_X5_readPlan_80, gr_145_0 hR.1]
      simp only [Int.reduceLE, reduceIte]
      rw [ee]
      simp only [Option.bind_some]
      rw [if_neg (show ¬ (1 : Int) = 0 by omega), gr_145_1 hR.1, hD.1.1, gr_145_0 hR.1]
      simp only [Int.reduceLE, reduceIte]
      by_cases q1 : pN P = 0
      · rw [if_pos q1, if_neg (by omega), s_failHere (d + 39) hS.2.1]
        simp only [Option.bind_some, reduceIte]
        rw [h_X5_readPlan_125, if_pos rfl]
        exact ⟨_, rfl, by rw [jup_row _ _ _ _ _ (by omega), jup_same], by rw [jup_same], fun k _ b _ => by rw [jup_rw _ _ _ _ _ b, jup_rw _ _ _ _ _ b]⟩
      · rw [if_neg q1, if_pos (by omega), h_X5_readPlan_120, h_X5_readPlan_125, if_neg (by omega), if_pos rfl]
        have h2 := hin.2
        exact ⟨X, z, rfl, hD, by omega, hS.2.2.2.1.2.1, hS.2.2.2.1.2.2, hd, show 1 ≤ pN P by omega, fun _ _ _ _ => rfl⟩
    · rw [if_neg q0] at ee ⊢
      by_cases q60 : pN P = 60
      · rw [if_pos q60, h_X5_readPlan_24, if_neg (by omega), h_X5_readPlan_80, gr_145_0 hR.1]
        simp only [Int.reduceLE, reduceIte]
        rw [ee]
        simp only [Option.bind_some, reduceIte]
        rw [gr_145_0 hR.1]
        simp only [Int.reduceLE, reduceIte]
        rw [s_failHere (d + 39) hS.2.1]
        simp only [Option.bind_some, reduceIte]
        exact ⟨_, rfl, by rw [jup_row _ _ _ _ _ (by omega), jup_same], by rw [jup_same], fun k _ b _ => by rw [jup_rw _ _ _ _ _ b, jup_rw _ _ _ _ _ b]⟩
      · rw [if_neg q60]
        have hB := s_bodS d h hd
        have hg := bodS_gd hT hin hd (by omega)
        rw [h_X5_readPlan_24, if_pos (by omega), gr_145_0 hR.1]
        simp only [Int.reduceLE, reduceIte]
        rw [ee]
        simp only [Option.bind_some, reduceIte]
        unfold rd1
        cases e : bodS T P κ with
        | inl er =>
          rw [e] at hB
          obtain ⟨X1, e1, b1, b2, f1⟩ := hB
          rw [e1]
          simp only [Option.bind_some, reduceIte]
          rw [h_X5_readPlan_59]
          exact ⟨X1, rfl, b1, b2, f1⟩
        | inr p =>
          rw [e] at hB hg
          obtain ⟨X1, u1, z1, e1, S1, D1, l1, f1⟩ := hB
          obtain ⟨g1, g2, g3, g4⟩ := hg
          rw [e1]
          simp only [Option.bind_some]
          rw [if_neg (show ¬ (1 : Int) = 0 by omega), gr_145_0 hR.1]
          simp only [Int.reduceLE, reduceIte]
          obtain ⟨t1, t2⟩ := s_takeMark (d + 37) (c := 59) hR hT S1 (by omega)
          show match bnp (if mk T p.1 59 = true then .inr (nx T p.1, incN p.2) else .inl (1, p.1.1)) (fun κ' P' => rdN T m P' κ') with
            | .inl e => _
            | .inr q => _
          by_cases q59 : mk T p.1 59 = true
          · obtain ⟨X2, e2, S2, f2⟩ := t1 q59
            have D2 := cDr_fr (cfD_F f2) D1
            have hnx := nx_in g1
            rw [if_pos q59, e2]
            simp only [Option.bind_some]
            rw [if_neg (show ¬ (1 : Int) = 0 by omega), gr_145_1 hR.1, D2.1.1, jadd_id (a := i) (by omega) (by omega), jadd_id (a := pN p.2) (by omega) (by omega)]
            simp only [Int.reduceLE, reduceIte]
            have ek : ∀ k, k ≠ 13 → jup X2 13 0 (pN p.2 + 1) k = X2 k := fun k hk => jup_rw _ _ _ _ _ hk
            have e13 : ∀ j, j ≠ 0 → jup X2 13 0 (pN p.2 + 1) 13 j = X2 13 j := fun j hj => jup_row _ _ _ _ _ hj
            have S3 := cS_fr (X' := jup X2 13 0 (pN p.2 + 1)) (ek 28 (by omega)) (ek 24 (by omega)) (ek 33 (by omega)) (ek 34 (by omega)) S2
            obtain ⟨a1, a2, a3, a4, a5, a6, a7⟩ := D2
            have D3 : cDr (jup X2 13 0 (pN p.2 + 1)) (incN p.2) z1 := ⟨⟨by rw [jup_same]; rfl, by rw [e13 2 (by omega)]; exact a1.2.1, by rw [e13 3 (by omega)]; exact a1.2.2.1, by rw [e13 4 (by omega)]; exact a1.2.2.2.1, by rw [e13 5 (by omega)]; exact a1.2.2.2.2.1, by rw [e13 6 (by omega)]; exact a1.2.2.2.2.2.1, by rw [e13 7 (by omega)]; exact a1.2.2.2.2.2.2⟩, by rw [ek 14 (by omega)]; exact a2, ⟨dFo_fr (ek 15 (by omega)) (fun j _ => by rw [ek 24 (by omega)]) a3.1, dFo_fr (ek 15 (by omega)) (fun j _ => by rw [ek 24 (by omega)]) a3.2.1, dFo_fr (ek 15 (by omega)) (fun j _ => by rw [ek 24 (by omega)]) a3.2.2⟩, by rw [ek 16 (by omega), ek 17 (by omega), ek 19 (by omega)]; exact a4, by rw [ek 18 (by omega)]; exact a5, by rw [ek 20 (by omega), ek 21 (by omega)]; exact a6, by rw [ek 22 (by omega)]; exact a7⟩
            have F3 : cfS X (jup X2 13 0 (pN p.2 + 1)) := cfS_t f1 (cfS_t (cfS_D (cfD_F f2)) (cfS_w (by omega)))
            have I := ih (jup X2 13 0 (pN p.2 + 1)) (incN p.2) (nx T p.1) u1 z1 (i + 1) ⟨hR, hT, S3, D3, by omega, g3.1⟩ g3 (by show i + 1 = pN p.2 + 1; omega) (by omega)
            show match rdN T m (incN p.2) (nx T p.1) with
              | .inl e => _
              | .inr q => _
            revert I
            cases rdN T m (incN p.2) (nx T p.1) with
            | inl er => rintro ⟨X', a1, a2, a3, a4⟩; exact ⟨X', a1, a2, a3, cfS_t F3 a4⟩
            | inr q => rintro ⟨X', z', a1, a2, a3, a4, a5, a6, a7, a8⟩; exact ⟨X', z', a1, a2, a3, a4, a5, a6, a7, cfS_t F3 a8⟩
          · rw [if_neg q59, t2 q59]
            simp only [Option.bind_some, reduceIte]
            rw [h_X5_readPlan_59]
            exact ⟨_, rfl, by rw [jup_row _ _ _ _ _ (by omega), jup_same], by rw [jup_same], cfS_t f1 (fun k _ b _ => by rw [jup_rw _ _ _ _ _ b, jup_rw _ _ _ _ _ b])⟩
