/-! PIT: the reference's statements: mix -/
def knN (T : aT) (P : aP) (κ : aK) : (Int × Int) ⊕ Int := match nmN T κ with
  | .inl e => .inl e
  | .inr g => if fnd (pKn P) (pK P) g = -1 then .inl (3, κ.1) else .inr (fnd (pKn P) (pK P) g)
theorem knd_knN (T : aT) (P : aP) (κ : aK) (k : Int → rp) : knd T P κ k = match knN T P κ with
  | .inl e => .inl e
  | .inr a => k a := by
  unfold knd knN
  cases nmN T κ with
  | inl e => rfl
  | inr g =>
    dsimp only
    by_cases q : fnd (pKn P) (pK P) g = -1
    · rw [if_pos q, if_pos q]
    · rw [if_neg q, if_neg q]
theorem f_kindHere (d : Nat) {G : jG} {Y : jX} {P : aP} (hG : GG G) (hO : pOk P) (h5 : Y 149 5 ≠ 0) (h2 : Y 181 2 = pK P) (hf : ∀ k, 0 ≤ k → k < pK P → Y 182 k = nam (pKn P k) 6) : jD (d + 2) 210 [(22, 149)] (G, Y) = some (0, (G, Y)) := by
  have hn := pOk_n hO
  obtain ⟨r, b1, b2⟩ := t_kindOf d hG (pK P) 0 (pKn P) h2 (by omega) (by omega) (fun k k0 k1 => ⟨hf k k0 k1, (pOk_k hO k k0 k1).2.2.2.2.2.2⟩)
  rw [e_X12_kindHere, f_name d h5]
  simp only [Option.bind_some, Int.reduceLE, reduceIte]
  rw [b1]
  simp only [Option.bind_some]
  rw [if_neg h5, if_neg h5]
theorem t_kindHere (d : Nat) {G : jG} {X : jX} {T : aT} {P : aP} {κ : aK} {z : Int} (hG : GG G) (hT : okT T) (h : mPs X T P κ z) (hO : pOk P) : match knN T P κ with
  | .inl e => ∃ w Y, jD (d + 5) 210 [(22, 149)] (G, X) = some (w, (G, Y)) ∧ Y 149 5 = e.1 ∧ Y 149 6 = e.2 ∧ e.1 ≠ 0 ∧ mf9 X Y
  | .inr a => ∃ Y, jD (d + 5) 210 [(22, 149)] (G, X) = some (a, (G, Y)) ∧ mPs Y T P (nx T κ) z ∧ mf9 X Y ∧ Y 149 39 = κ.1 ∧ 0 ≤ a ∧ a < pK P := by
  have hk := pOk_n hO
  have hkk := pOk_k hO
  obtain ⟨hB, hK, ⟨h5, h6⟩, hD, hz⟩ := id h
  have hin := mK_in hK
  have hnm := t_name d hG hT hB hK h5
  have kf : ∀ Y : jX, (∀ k, k ≠ 149 → Y k = X k) → ∀ k, 0 ≤ k → k < pK P → Y 182 k = nam (pKn P k) 6 ∧ nmO (pKn P k) := fun Y hY k k0 k1 => ⟨by rw [hY 182 (by omega)]; exact (hD.2.2.2.1 k k0 k1).2.2.2, (hkk k k0 k1).2.2.2.2.2.2⟩
  have h2 : ∀ Y : jX, (∀ k, k ≠ 149 → Y k = X k) → Y 181 2 = pK P := fun Y hY => by rw [hY 181 (by omega)]; exact hD.1.2.2.1
  rw [e_X12_kindHere]
  simp only [Int.reduceLE, reduceIte]
  unfold knN
  cases e : nmN T κ with
  | inl ee =>
    rw [e] at hnm
    obtain ⟨w, Y, a1, a2, a3, a4, a5⟩ := hnm
    obtain ⟨r, b1, b2⟩ := t_kindOf (d + 3) hG (pK P) w (pKn P) (h2 Y a5.1) (by omega) (by omega) (kf Y a5.1)
    have n5 : ¬ Y 149 5 = 0 := by rw [a2]; exact a4
    rw [a1]
    simp only [Option.bind_some]
    rw [b1]
    simp only [Option.bind_some]
    rw [if_neg n5, if_neg n5]
    exact ⟨0, Y, rfl, a2, a3, a4, a5⟩
  | inr g =>
    rw [e] at hnm
    obtain ⟨Y, a1, a2, a3, a4, a5, a6⟩ := hnm
    have hg := (nmN_ok hT hin e).1
    obtain ⟨r, b1, b2⟩ := t_kindOf (d + 3) hG (pK P) (nam g 6) (pKn P) (h2 Y a6.1) (by omega) (by omega) (kf Y a6.1)
    have b3 := b2 g hg rfl
    have hb := fnd_b (pKn P) (pK P) g (by omega)
    rw [a1]
    simp only [Option.bind_some]
    rw [b1]
    simp only [Option.bind_some]
    rw [if_pos a4]
    by_cases q : fnd (pKn P) (pK P) g = -1
    · have n5 : ¬ ft Y 3 κ.1 149 5 = 0 := by rw [(ft_5 Y 3 κ.1).1]; omega
      rw [if_pos (show r = -1 by rw [b3]; exact q), a3, t_fail (d + 3) a4, if_pos q]
      simp only [Option.bind_some]
      rw [show jup (jup Y 149 5 3) 149 6 κ.1 = ft Y 3 κ.1 from rfl, if_neg n5]
      exact ⟨0, ft Y 3 κ.1, rfl, (ft_5 Y 3 κ.1).1, (ft_5 Y 3 κ.1).2, show (3 : Int) ≠ 0 by omega, mf9_t a6 (ft_9 Y 3 κ.1)⟩
    · rw [if_neg (show ¬ r = -1 by rw [b3]; exact q), if_pos a4, if_neg q, b3]
      exact ⟨Y, rfl, mPs_9 a6 a2 a4 (by rw [a5]; exact h6) (nx_in hin).2.2 h, a6, a3, by omega, by omega⟩
theorem t_mixS (d : Nat) {G : jG} {X : jX} {T : aT} {P : aP} {κ : aK} {z : Int} (hG : GG G) (hT : okT T) (h : mPs X T P (nx T κ) z) (hd : dOk P) : enM G X T (jD (d + 8) 211 [(22, 149), (0, κ.1)] (G, X)) (mixS T P κ) := by
  have hO := hd.1
  have hF := hd.2
  have hn := pOk_n hO
  obtain ⟨hB, hk, ⟨h5, h6⟩, hD, hz⟩ := id h
  rw [e_X12_mixTold, t_full (d + 5) hG h5 4 10 κ.1 (by omega) (by omega), hD.1.2.2.2.2.1]
  unfold mixS
  by_cases q2 : pM P = 10
  · rw [if_pos q2, if_pos (show 10 ≤ pM P by omega)]
    simp only [Option.bind_some, Int.reduceLE, reduceIte]
    rw [if_neg (show ¬ (1 : Int) = 0 by omega)]
    exact enM_ft (Y := X) rfl (by omega) (mfP_r X)
  · rw [if_neg q2, if_neg (show ¬ 10 ≤ pM P by omega), knd_knN]
    simp only [Option.bind_some, Int.reduceLE, reduceIte]
    have s1 := t_kindHere (d + 2) hG hT h hO
    have off61 : ∀ (Y : jX) (v2 v3 : Int), Y 149 5 ≠ 0 → jN (d + 7) 211 61 [(22, 149), (0, κ.1), (0, v2), (0, v3)] [] (G, Y) = some (0, (G, Y)) := fun Y v2 v3 hY => by
      rw [h_X12_mixTold_61, if_pos (by omega), if_neg hY]
    cases e1 : knN T P (nx T κ) with
    | inl ee =>
      rw [e1] at s1
      obtain ⟨w, Y, a1, a2, a3, a4, a5⟩ := s1
      have n5 : Y 149 5 ≠ 0 := by rw [a2]; exact a4
      rw [a1]
      simp only [Option.bind_some]
      rw [f_kindHere (d + 5) hG hO n5 (by rw [a5.1 181 (by omega)]; exact hD.1.2.2.1) (fun k k0 k1 => by rw [a5.1 182 (by omega)]; exact (hD.2.2.2.1 k k0 k1).2.2.2)]
      simp only [Option.bind_some]
      rw [if_neg n5, off61 Y _ _ n5]
      exact ⟨0, Y, rfl, a2, a3, a4, mfP_9 a5⟩
    | inr a =>
      rw [e1] at s1
      obtain ⟨Y, a1, m1, f1, -, a0, aK⟩ := s1
      have s2 := t_kindHere (d + 2) hG hT m1 hO
      rw [a1]
      simp only [Option.bind_some]
      rw [knd_knN]
      cases e2 : knN T P (nx T (nx T κ)) with
      | inl ee =>
        rw [e2] at s2
        obtain ⟨w, Z, b1, b2, b3, b4, b5⟩ := s2
        have n5 : Z 149 5 ≠ 0 := by rw [b2]; exact b4
        rw [b1]
        simp only [Option.bind_some]
        rw [if_neg n5, off61 Z _ _ n5]
        exact ⟨0, Z, rfl, b2, b3, b4, mfP_9 (mf9_t f1 b5)⟩
      | inr b =>
        rw [e2] at s2
        obtain ⟨W, b1, m2, f2, h39, b0, bK⟩ := s2
        have f12 := mf9_t f1 f2
        obtain ⟨nB, nk, ⟨n5, n6⟩, nD, nz⟩ := id m2
        obtain ⟨c1, c2, c3, c4, c5, c6, c7⟩ := nD
        have wa := (c4 a a0 aK).2.2.1
        have wb := (c4 b b0 bK).2.2.1
        have ia := ior_b (x := pFo P a) (b := b) (hF a (by omega) (by omega)).1 (by omega)
        have ib := ior_b (x := pFo P b) (b := a) (hF b (by omega) (by omega)).1 (by omega)
        have fail3 : enM G X T (jN (d + 7) 211 52 [(22, 149), (0, κ.1), (0, a), (0, b)] [] (G, W)) (.inl (3, (nx T (nx T κ)).1)) := by
          rw [h_X12_mixTold_52, h39, t_fail (d + 6) n5]
          simp only [Option.bind_some, Int.reduceLE, reduceIte]
          rw [show jup (jup W 149 5 3) 149 6 (nx T (nx T κ)).1 = ft W 3 (nx T (nx T κ)).1 from rfl, off61 _ _ _ (by rw [(ft_5 W 3 _).1]; omega)]
          exact enM_ft rfl (by omega) (mfP_9 f12)
        rw [b1]
        simp only [Option.bind_some]
        rw [if_pos n5]
        by_cases q3 : a = b
        · rw [if_pos q3, if_pos (Or.inl q3)]
          exact fail3
        · rw [if_neg q3, gr_149_42 hG, gl_183 hG, jmul_id (by omega) (by omega), jadd_id (by omega) (by omega), wa, ia.2.2]
          simp only [Int.reduceLE, reduceIte]
          rw [if_pos (show 0 ≤ 3 * a + 2 by omega), if_pos (show 3 * a + 2 < 30 by omega)]
          by_cases q4 : pFo P a / 2 ^ b.toNat % 2 = 1
          · rw [if_pos q4, if_pos (Or.inr q4)]
            exact fail3
          · rw [if_neg q4, if_neg (show ¬ (a = b ∨ pFo P a / 2 ^ b.toNat % 2 = 1) from fun y => by rcases y with y | y; exact q3 y; exact q4 y)]
            generalize hZ : jup (jup (jup W 183 (3 * a + 2) (orb (pFo P a) b)) 183 (3 * b + 2) (orb (pFo P b) a)) 181 4 (pM P + 1) = Z
            have e : jN (d + 7) 211 61 [(22, 149), (0, κ.1), (0, a), (0, b)] [] (G, W) = some (0, (G, Z)) := by
              rw [h_X12_mixTold_61, n5, gr_149_42 hG, gl_183 hG, jmul_id (by omega) (by omega), jadd_id (by omega) (by omega), wa, ia.1]
              simp only [Int.reduceLE, reduceIte]
              rw [if_pos (show 0 ≤ 3 * a + 2 by omega), if_pos (show 3 * a + 2 < 30 by omega), if_pos (show 0 ≤ 3 * a + 2 by omega), if_pos (show 3 * a + 2 < 30 by omega), h_X12_mixTold_85, gr_149_42 hG, gl_183 hG, jmul_id (by omega) (by omega), jadd_id (by omega) (by omega), jup_row _ _ _ _ _ (show 3 * b + 2 ≠ 3 * a + 2 by omega), wb, ib.1]
              simp only [Int.reduceLE, reduceIte]
              rw [if_pos (show 0 ≤ 3 * b + 2 by omega), if_pos (show 3 * b + 2 < 30 by omega), if_pos (show 0 ≤ 3 * b + 2 by omega), if_pos (show 3 * b + 2 < 30 by omega), h_X12_mixTold_101, gr_149_40 hG, gl_181 hG, jup_rw _ 183 _ _ 181 (by omega), jup_rw _ 183 _ _ 181 (by omega), c1.2.2.2.2.1, jadd_id (by omega) (by omega), hZ]
              simp only [Int.reduceLE, Int.reduceLT, reduceIte]
              rw [h_X12_mixTold_111]
            have zk : ∀ k, k ≠ 181 → k ≠ 183 → Z k = W k := fun k a b => by rw [← hZ, jup_rw _ _ _ _ _ a, jup_rw _ _ _ _ _ b, jup_rw _ _ _ _ _ b]
            have z181 : ∀ j, Z 181 j = if j = 4 then pM P + 1 else W 181 j := fun j => by
              rw [← hZ]
              by_cases q : j = 4
              · rw [if_pos q, q, jup_same]
              · rw [if_neg q, jup_row _ _ _ _ _ q, jup_rw _ _ _ _ _ (by omega), jup_rw _ _ _ _ _ (by omega)]
            have z183 : ∀ j, Z 183 j = if j = 3 * a + 2 then orb (pFo P a) b else if j = 3 * b + 2 then orb (pFo P b) a else W 183 j := fun j => by
              rw [← hZ, jup_rw _ _ _ _ _ (by omega)]
              by_cases q : j = 3 * a + 2
              · rw [if_pos q, q, jup_row _ _ _ _ _ (by omega), jup_same]
              · rw [if_neg q]
                by_cases q' : j = 3 * b + 2
                · rw [if_pos q', q', jup_same]
                · rw [if_neg q', jup_row _ _ _ _ _ q', jup_row _ _ _ _ _ q]
            have hfP : mfP W Z := by
              rw [← hZ]
              exact mfP_t (mfP_w (by omega) (show 3 * a + 2 < 15 by omega)) (mfP_t (mfP_w (by omega) (show 3 * b + 2 < 15 by omega)) (mfP_w (by omega) (show (4 : Int) < 6 by omega)))
            have fo : ∀ w o, mDF W z w o → mDF Z z w o := fun w o ho => by unfold mDF at *; rw [zk 187 (by omega) (by omega), zk 188 (by omega) (by omega), zk 189 (by omega) (by omega)]; exact ho
            rw [e]
            refine ⟨0, Z, z, rfl, ⟨mB_P hfP nB, mK_e (by rw [zk 149 (by omega) (by omega)]) (by rw [zk 149 (by omega) (by omega)]) nk, ⟨by rw [zk 149 (by omega) (by omega)]; exact n5, by rw [zk 149 (by omega) (by omega)]; exact n6⟩, ?_, nz⟩, mfP_t (mfP_9 f12) hfP⟩
            refine ⟨⟨by rw [z181, if_neg (by omega)]; exact c1.1, by rw [z181, if_neg (by omega)]; exact c1.2.1, by rw [z181, if_neg (by omega)]; exact c1.2.2.1, by rw [z181, if_neg (by omega)]; exact c1.2.2.2.1, by rw [z181, if_pos rfl]; rfl, by rw [z181, if_neg (by omega)]; exact c1.2.2.2.2.2⟩, by rw [zk 186 (by omega) (by omega)]; exact c2, ⟨fo _ _ c3.1, fo _ _ c3.2.1, fo _ _ c3.2.2⟩, fun k k0 k1 => ?_, by rw [zk 182 (by omega) (by omega), zk 185 (by omega) (by omega)]; exact c5, by rw [zk 184 (by omega) (by omega)]; exact c6, by rw [zk 149 (by omega) (by omega)]; exact c7⟩
            obtain ⟨d1, d2, d3, d4⟩ := c4 k k0 k1
            refine ⟨by rw [z183, if_neg (by omega), if_neg (by omega)]; exact d1, by rw [z183, if_neg (by omega), if_neg (by omega)]; exact d2, ?_, by rw [zk 182 (by omega) (by omega)]; exact d4⟩
            show Z 183 (3 * k + 2) = if k = a then orb (pFo P k) b else if k = b then orb (pFo P k) a else pFo P k
            rw [z183]
            by_cases y1 : k = a
            · rw [if_pos (by omega), if_pos y1, y1]
            · rw [if_neg (by omega), if_neg y1]
              by_cases y2 : k = b
              · rw [if_pos (by omega), if_pos y2, y2]
              · rw [if_neg (by omega), if_neg y2]; exact d3
