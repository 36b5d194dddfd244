/-! PIT: the reference's statements: rules -/
theorem t_copy_n (d : Nat) {G : jG} (hG : GG G) (w b z : Int) (w0 : 0 ≤ w) (w3 : w < 3) (z0 : 0 ≤ z) (n : Nat) (hz : z + n ≤ 1600) : ∀ (m i : Nat) (X : jX), i + m = n → X 149 109 = n → X 149 49 = z + i → ∃ Y, jN d 212 100 [(22, 149), (0, w), (0, b), (0, (i : Int))] [] (G, X) = some (0, (G, Y)) ∧ (∀ k, k ≠ 149 → k ≠ 188 → k ≠ 189 → Y k = X k) ∧ (∀ j, j ≠ 49 → Y 149 j = X 149 j) ∧ Y 149 49 = z + n ∧ (∀ j, Y 188 j = if j = w then z + n else X 188 j) ∧ (∀ j : Nat, i ≤ j → j < n → Y 189 (z + j) = X 227 j) ∧ ∀ j, (j < z + i ∨ z + n ≤ j) → Y 189 j = X 189 j := by
  intro m
  induction m with
  | zero =>
    intro i X hi h109 h49
    refine ⟨jup X 188 w (z + n), ?_, fun k _ a _ => jup_rw _ _ _ _ _ a, fun j _ => by rw [jup_rw _ _ _ _ _ (by omega)], by rw [jup_rw _ _ _ _ _ (by omega), h49]; omega, fun j => ?_, fun j a b => by omega, fun j _ => by rw [jup_rw _ _ _ _ _ (by omega)]⟩
    · rw [h_X12_codesTold_100, h109, if_pos (by omega), if_neg (by omega), gr_149_47 hG, gl_188 hG, h49]
      simp only [Int.reduceLE, reduceIte]
      rw [if_pos w0, if_pos (by omega), show z + (i : Int) = z + n by omega]
    · by_cases q : j = w
      · rw [if_pos q, q, jup_same]
      · rw [if_neg q, jup_row _ _ _ _ _ q]
  | succ m ih =>
    intro i X hi h109 h49
    obtain ⟨Y, a1, a2, a3, a4, a5, a6, a7⟩ := ih (i + 1) (jup (jup X 189 (z + i) (X 227 i)) 149 49 (z + i + 1)) (by omega) (by rw [jup_row _ _ _ _ _ (by omega), jup_rw _ _ _ _ _ (by omega)]; exact h109) (by rw [jup_same]; omega)
    have e : ∀ k, k ≠ 149 → k ≠ 189 → jup (jup X 189 (z + i) (X 227 i)) 149 49 (z + i + 1) k = X k := fun k a b => by rw [jup_rw _ _ _ _ _ a, jup_rw _ _ _ _ _ b]
    have e189 : ∀ j, j ≠ z + i → jup (jup X 189 (z + i) (X 227 i)) 149 49 (z + i + 1) 189 j = X 189 j := fun j hj => by rw [jup_rw _ _ _ _ _ (by omega), jup_row _ _ _ _ _ hj]
    refine ⟨Y, ?_, fun k a b c => by rw [a2 k a b c, e k a c], fun j hj => by rw [a3 j hj, jup_row _ _ _ _ _ hj, jup_rw _ _ _ _ _ (by omega)], a4, fun j => by rw [a5 j, e 188 (by omega) (by omega)], fun j hj hn => ?_, fun j hj => by rw [a7 j (by omega), e189 j (by omega)]⟩
    · rw [h_X12_codesTold_100, h109, if_pos (by omega), if_pos (by omega), gr_149_108 hG, gr_149_48 hG, gl_227 hG, gl_189 hG, h49]
      simp only [Int.reduceLE, reduceIte]
      rw [if_pos (show 0 ≤ (i : Int) by omega), if_pos (show (i : Int) < 1700 by omega), if_pos (show 0 ≤ z + (i : Int) by omega), if_pos (show z + (i : Int) < 3200 by omega), jup_rw _ 189 _ _ 149 (by omega), h49, jadd_id (by omega) (by omega), jadd_id (by omega) (by omega), show ((i : Int) + 1) = ((i + 1 : Nat) : Int) by omega]
      exact a1
    · by_cases q : j = i
      · subst q
        rw [a7 _ (by omega), jup_rw _ _ _ _ _ (by omega), jup_same]
      · rw [a6 j (by omega) hn, e 227 (by omega) (by omega)]
theorem mDF_up {X X' : jX} {z z' : Int} {w : Nat} {o : Option (List Int)} (h7 : X' 187 w = X 187 w) (h8 : X' 188 w = X 188 w) (hz : z ≤ z') (h9 : ∀ j, j < z → X' 189 j = X 189 j) (h : mDF X z w o) : mDF X' z' w o := by
  unfold mDF at *
  cases o with
  | none => rw [h7]; exact h
  | some l =>
    obtain ⟨a1, a2, a3, a4⟩ := h
    exact ⟨by rw [h7]; exact a1, by rw [h7, h8]; exact a2, by rw [h8]; omega, fun i hi => by rw [h7, h9 _ (by omega)]; exact a4 i hi⟩
theorem t_rulS (d : Nat) {G : jG} {X : jX} {T : aT} {P : aP} {κ : aK} {z : Int} (hG : GG G) (hT : okT T) (h : mPs X T P (nx T κ) z) (w : Nat) (w3 : w < 3) : enM G X T (jD (d + 11) 212 [(22, 149), (0, (w : Int)), (0, κ.1)] (G, X)) (rulS T P w κ) := by
  obtain ⟨hB, hk, ⟨h5, h6⟩, hD, hz⟩ := id h
  have hT1 := hT.2.1
  have hin := mK_in hk
  have hz0 : 0 ≤ z := hD.2.2.2.2.2.2.2
  have hFo : mDF X z w (pFm P w) := by
    have : w = 0 ∨ w = 1 ∨ w = 2 := by omega
    rcases this with rfl | rfl | rfl
    · exact hD.2.2.1.1
    · exact hD.2.2.1.2.1
    · exact hD.2.2.1.2.2
  unfold rulS
  rw [Int.toNat_natCast, e_X12_codesTold, h5, gr_149_46 hG, gl_187 hG]
  simp only [Int.reduceLE, reduceIte]
  rw [if_pos (show 0 ≤ (w : Int) by omega), if_pos (show (w : Int) < 6 by omega)]
  cases hp : pFm P w with
  | some l =>
    rw [hp] at hFo
    have h15 : 0 ≤ X 187 w := hFo.1
    rw [if_pos (show (some l).isSome = true from rfl), if_neg (show ¬ X 187 w = -1 by omega), t_fail (d + 9) h5]
    simp only [Option.bind_some]
    rw [show jup (jup X 149 5 5) 149 6 κ.1 = ft X 5 κ.1 from rfl, h_X12_codesTold_23, if_pos (by omega), if_neg (by rw [(ft_5 X 5 κ.1).1]; omega)]
    exact enM_ft rfl (by omega) (mfP_r X)
  | none =>
    rw [hp] at hFo
    have h15 : X 187 w = -1 := hFo
    rw [if_neg (show ¬ (none : Option (List Int)).isSome = true by simp), if_pos h15, h_X12_codesTold_23, h5]
    simp only [Int.reduceLE, reduceIte]
    obtain ⟨v, hv⟩ : ∃ v : Int, v = if w = 2 then 1 else 0 := ⟨_, rfl⟩
    have hv3 : v = 0 ∨ v = 1 ∨ v = 2 := by rw [hv]; split <;> omega
    generalize hX1 : jup (jup (jup (jup (jup X 149 52 v) 149 109 0) 149 111 0) 149 112 0) 149 113 0 = X1
    have F1 : mfP X X1 := by
      rw [← hX1]
      exact mfP_t (mfP_v (by unfold sP; omega)) (mfP_t (mfP_v (by unfold sP; omega)) (mfP_t (mfP_v (by unfold sP; omega)) (mfP_t (mfP_v (by unfold sP; omega)) (mfP_v (by unfold sP; omega)))))
    have x1 : ∀ k, k ≠ 149 → X1 k = X k := fun k hk => by rw [← hX1]; simp only [jup_rw _ _ _ _ _ hk]
    have xj : ∀ j, j ≠ 52 → j ≠ 109 → j ≠ 111 → j ≠ 112 → j ≠ 113 → X1 149 j = X 149 j := fun j a b c d e => by rw [← hX1, jup_row _ _ _ _ _ e, jup_row _ _ _ _ _ d, jup_row _ _ _ _ _ c, jup_row _ _ _ _ _ b, jup_row _ _ _ _ _ a]
    have S1 : mS X1 T v (nx T κ) 6 [] 0 [] := by
      refine ⟨mB_P F1 hB, mK_e (xj 2 (by omega) (by omega) (by omega) (by omega) (by omega)) (xj 4 (by omega) (by omega) (by omega) (by omega) (by omega)) hk, ⟨by rw [xj 5 (by omega) (by omega) (by omega) (by omega) (by omega)]; exact h5, ?_, by rw [xj 6 (by omega) (by omega) (by omega) (by omega) (by omega)]; exact h6⟩, ⟨?_, fun i hi => absurd hi (by simp)⟩, ⟨?_, trivial⟩, ⟨?_, by omega⟩, ?_⟩
      · rw [← hX1, jup_row _ _ _ _ _ (by omega), jup_row _ _ _ _ _ (by omega), jup_row _ _ _ _ _ (by omega), jup_row _ _ _ _ _ (by omega), jup_same]
      · rw [← hX1, jup_row _ _ _ _ _ (by omega), jup_row _ _ _ _ _ (by omega), jup_row _ _ _ _ _ (by omega), jup_same]; rfl
      · rw [← hX1, jup_row _ _ _ _ _ (by omega), jup_row _ _ _ _ _ (by omega), jup_same]; rfl
      · rw [← hX1, jup_row _ _ _ _ _ (by omega), jup_same]; rfl
      · rw [← hX1, jup_same]
    -- the end, for either sort
    have fin : ∀ (L : jR) (H t : Nat) (R : rs), (match R with
        | .inl e => ∃ Y, L = some (0, (G, Y)) ∧ Y 149 5 = e.1 ∧ Y 149 6 = e.2 ∧ mfQ X1 Y
        | .inr q => ∃ Y, L = some (0, (G, Y)) ∧ mS Y T v q.1 6 [] 0 ([] ++ q.2) ∧ mfQ X1 Y) → gdR T v H t (nx T κ) R → enM G X T (L.bind fun q => jN (d + 10) 212 80 [(22, 149), (0, (w : Int)), (0, κ.1), (2, (-1))] [] (q.2.1, q.2.2)) (match R with
        | .inl e => .inl e
        | .inr q => .inr (q.1, setFm P w q.2)) := fun L H t R hI hg => by
      cases R with
      | inl e =>
        obtain ⟨Y, y1, y2, y3, y4⟩ := hI
        have he : e.1 ≠ 0 := hg
        rw [y1]
        simp only [Option.bind_some]
        rw [h_X12_codesTold_80, if_pos (by omega), if_neg (by rw [y2]; exact he)]
        exact ⟨0, Y, rfl, y2, y3, he, mfP_t F1 (mfP_Q y4)⟩
      | inr q =>
        obtain ⟨Y, y1, y2, y3⟩ := hI
        obtain ⟨g1, g2, -⟩ := hg
        have g2' : (nx T κ).1 + q.2.length ≤ q.1.1 := g2
        have g1' := g1.2
        rw [List.nil_append] at y2
        obtain ⟨yB, yk, ⟨y5, -, y6⟩, ⟨y109, ycd⟩, -⟩ := y2
        have y49 : Y 149 49 = z := by rw [y3.2 49 (by omega) (by omega) (by omega) (by omega), xj 49 (by omega) (by omega) (by omega) (by omega) (by omega)]; exact hD.2.2.2.2.2.2.1
        have yx : ∀ k, k ≠ 149 → k ≠ 227 → k ≠ 228 → Y k = X k := fun k a b c => by rw [y3.1 k a b c, x1 k a]
        obtain ⟨Z, z1, z2, z3, z4, z5, z6, z7⟩ := t_copy_n (d + 10) hG w κ.1 z (by omega) (by omega) hz0 q.2.length (by omega) q.2.length 0 (jup Y 187 w z) (by omega) (by rw [jup_rw _ _ _ _ _ (by omega)]; exact y109) (by rw [jup_rw _ _ _ _ _ (by omega), y49]; omega)
        rw [y1]
        simp only [Option.bind_some]
        rw [h_X12_codesTold_80, y5, gr_149_46 hG, gl_187 hG, y49]
        simp only [Int.reduceLE, reduceIte]
        rw [if_pos (show 0 ≤ (w : Int) by omega), if_pos (show (w : Int) < 6 by omega)]
        have z1' : jN (d + 10) 212 100 [(22, 149), (0, (w : Int)), (0, κ.1), (0, 0)] [] (G, jup Y 187 w z) = some (0, (G, Z)) := z1
        rw [z1']
        have zk : ∀ k, k ≠ 149 → k ≠ 187 → k ≠ 188 → k ≠ 189 → Z k = Y k := fun k a b c e => by rw [z2 k a c e, jup_rw _ _ _ _ _ b]
        have z149 : ∀ j, j ≠ 49 → Z 149 j = Y 149 j := fun j hj => by rw [z3 j hj, jup_rw _ _ _ _ _ (by omega)]
        have z187 : ∀ j, Z 187 j = if j = (w : Int) then z else Y 187 j := fun j => by
          rw [z2 187 (by omega) (by omega) (by omega)]
          by_cases y : j = (w : Int)
          · rw [if_pos y, y, jup_same]
          · rw [if_neg y, jup_row _ _ _ _ _ y]
        have z188 : ∀ j, j ≠ (w : Int) → Z 188 j = Y 188 j := fun j hj => by rw [z5 j, if_neg hj, jup_rw _ _ _ _ _ (by omega)]
        have z189 : ∀ j, j < z ∨ z + q.2.length ≤ j → Z 189 j = Y 189 j := fun j hj => by rw [z7 j (by omega), jup_rw _ _ _ _ _ (by omega)]
        have FZ : mfP Y Z := ⟨fun k a b _ _ => zk k b (by omega) (by omega) (by omega), fun k j a b c => by
          by_cases e7 : k = 187
          · have e : hiL k = 3 := by rw [e7]; rfl
            rw [e7, z187, if_neg (by omega)]
          · by_cases e8 : k = 188
            · have e : hiL k = 3 := by rw [e8]; rfl
              rw [e8, z188 j (by omega)]
            · by_cases e9 : k = 189
              · have e : hiL k = 1600 := by rw [e9]; rfl
                rw [e9, z189 j (by omega)]
              · rw [zk k (by omega) e7 e8 e9], fun j hj => by unfold sP at hj; exact z149 j (by omega)⟩
        have FX := mfP_t F1 (mfP_t (mfP_Q y3) FZ)
        refine ⟨0, Z, z + q.2.length, rfl, ⟨mB_P FX hB, mK_e (z149 2 (by omega)) (z149 4 (by omega)) yk, ⟨by rw [z149 5 (by omega)]; exact y5, by rw [z149 6 (by omega)]; exact y6⟩, ?_, by show z + _ ≤ q.1.1; omega⟩, FX⟩
        obtain ⟨a1, a2, a3, a4, a5, a6, a7⟩ := hD
        have kx : ∀ k, k ≠ 149 → k ≠ 187 → k ≠ 188 → k ≠ 189 → k ≠ 227 → k ≠ 228 → Z k = X k := fun k a b c e f g => by rw [zk k a b c e, yx k a f g]
        have fo : ∀ w' : Nat, w' < 3 → mDF X z w' (pFm P w') → mDF Z (z + q.2.length) w' (if (w : Int) = (w' : Int) then some q.2 else pFm P w') := fun w' hw' ho => by
          by_cases y : w' = w
          · subst y
            rw [if_pos rfl]
            refine ⟨by rw [z187, if_pos rfl]; exact hz0, by rw [z187, if_pos rfl, z5, if_pos rfl], by rw [z5, if_pos rfl]; omega, fun i hi => ?_⟩
            rw [z187, if_pos rfl, z6 i (by omega) hi, jup_rw _ _ _ _ _ (by omega)]
            exact ycd i hi
          · rw [if_neg (by omega)]
            exact mDF_up (by rw [z187, if_neg (by omega), yx 187 (by omega) (by omega) (by omega)]) (by rw [z188 _ (by omega), yx 188 (by omega) (by omega) (by omega)]) (by omega) (fun j hj => by rw [z189 j (Or.inl hj), yx 189 (by omega) (by omega) (by omega)]) ho
        exact ⟨by rw [kx 181 (by omega) (by omega) (by omega) (by omega) (by omega) (by omega)]; exact a1, by rw [kx 186 (by omega) (by omega) (by omega) (by omega) (by omega) (by omega)]; exact a2, ⟨fo 0 (by omega) a3.1, fo 1 (by omega) a3.2.1, fo 2 (by omega) a3.2.2⟩, by rw [kx 182 (by omega) (by omega) (by omega) (by omega) (by omega) (by omega), kx 183 (by omega) (by omega) (by omega) (by omega) (by omega) (by omega)]; exact a4, by rw [kx 182 (by omega) (by omega) (by omega) (by omega) (by omega) (by omega), kx 185 (by omega) (by omega) (by omega) (by omega) (by omega) (by omega)]; exact a5, by rw [kx 184 (by omega) (by omega) (by omega) (by omega) (by omega) (by omega)]; exact a6, z4, by omega⟩
    by_cases y0 : w = 0
    · have hI := t_qTest (d + 1) hG hT hv3 S1 (by show ((0 : Nat) : Int) ≤ _; have := hin.1; omega)
      have hv0 : v = 0 := by rw [hv, if_neg (by omega)]
      rw [if_neg (show ¬ (w : Int) = 2 by omega), h_X12_codesTold_42, if_pos (show (w : Int) = 0 by omega)]
      simp only [Int.reduceLE, reduceIte]
      rw [hv0] at hX1
      rw [hX1, if_pos (show (w : Int) = 0 by omega)]
      rw [hv0] at hI
      have hg := tst_gd (u := 0) hT1 (fac_gd hT1 (by omega) 6) (nx T κ) hin
      have := fin _ (3 * 6 + 4 + 2) 1 (tst T (fac T 0 6) (nx T κ)) (by rw [hv0]; exact hI) (by rw [hv0]; exact hg)
      exact this
    · have hI := t_qSums (d + 3) hG hT hv3 S1 (by show (0 : Int) ≠ 3 ∧ (0 : Int) ≠ 4 ∧ (0 : Int) ≠ 1 ∧ (0 : Int) ≠ 2; omega) (by show 0 + 3 * 6 + 3 ≤ 1000; omega) (by show ((0 : Nat) : Int) ≤ _; have := hin.1; omega)
      have hg := sms_gd (u := v) hT1 (prt_gd hT1 hv3 6) (nx T κ) hin
      have ev : (if (w : Int) = 2 then (1 : Int) else 0) = v := by rw [hv]; by_cases y2 : w = 2; rw [if_pos (by omega), if_pos y2]; rw [if_neg (by omega), if_neg y2]
      have run : (if (w : Int) = 2 then (jN (d + 10) 212 42 [(22, 149), (0, (w : Int)), (0, κ.1), (2, (-1))] [(0, 1), (22, 149)] (G, X)) else (jN (d + 10) 212 42 [(22, 149), (0, (w : Int)), (0, κ.1), (2, (-1))] [(0, 0), (22, 149)] (G, X))) = (jD (d + 10) 308 [(22, 149)] (G, X1)).bind fun q => jN (d + 10) 212 80 [(22, 149), (0, (w : Int)), (0, κ.1), (2, (-1))] [] (q.2.1, q.2.2) := by
        have g : ∀ s : Int, s = v → jN (d + 10) 212 42 [(22, 149), (0, (w : Int)), (0, κ.1), (2, (-1))] [(0, s), (22, 149)] (G, X) = (jD (d + 10) 308 [(22, 149)] (G, X1)).bind fun q => jN (d + 10) 212 80 [(22, 149), (0, (w : Int)), (0, κ.1), (2, (-1))] [] (q.2.1, q.2.2) := fun s hs => by
          rw [h_X12_codesTold_42, if_neg (show ¬ (w : Int) = 0 by omega), hs, hX1]
          simp only [Int.reduceLE, reduceIte]
        by_cases y2 : (w : Int) = 2
        · rw [if_pos y2]; exact g 1 (by rw [← ev, if_pos y2])
        · rw [if_neg y2]; exact g 0 (by rw [← ev, if_neg y2])
      rw [run, if_neg (show ¬ (w : Int) = 0 by omega), ev]
      refine fin _ (3 * 6 + 1 + 2) 0 (sms T (prt T v 6) (nx T κ)) ?_ hg
      revert hI
      cases sms T (prt T v 6) (nx T κ) with
      | inl e => rintro ⟨Y, a1, a2, a3, a4⟩; exact ⟨Y, a1, a2, a3, a4.1⟩
      | inr q => intro hI; exact hI
