/-! PIT: the reference's statements: rows -/
def rowP (X Y : jX) (T : aT) (P : aP) (b g g' : Int) (n : Nat) : Prop := (∀ k, k ≠ 149 → k ≠ 184 → Y k = X k) ∧ (∀ j, j ≠ 2 → Y 149 j = X 149 j) ∧ Y 149 2 = rn bL T b ∧ (∀ j, ¬ (8 * pR P + n ≤ j ∧ j < 8 * pR P + 8) → Y 184 j = X 184 j) ∧ (g' = 0 ∨ g' = 1) ∧ (g' = 1 ↔ g = 1 ∧ ∀ j : Nat, n ≤ j → b + j < rn bL T b → (j : Int) < pC P ∧ ltr T P b j ≠ -2) ∧ (g' = 1 → ∀ j : Nat, n ≤ j → b + j < rn bL T b → Y 184 (8 * pR P + j) = ltr T P b j)
theorem t_rowN (d : Nat) {G : jG} {T : aT} {P : aP} (hG : GG G) (hT : okT T) (hO : pOk P) (a b : Int) (b0 : 0 ≤ b) (hR5 : pR P < 6) : ∀ (m n : Nat) (X : jX) (g : Int) (u : jV), (T.1 - (b + n)).toNat = m → u.1 = 2 ∨ u.1 = 0 → mB X T → X 149 2 = b + n → b + n ≤ T.1 → rn bL T (b + n) = rn bL T b → (g = 0 ∨ g = 1) → X 181 0 = pC P → X 181 1 = pR P → X 181 2 = pK P → ∃ (Y : jX) (g' : Int) (u' : jV), (u'.1 = 2 ∨ u'.1 = 0) ∧ jN (d + 1) 208 52 [(22, 149), (0, a), (0, b), (0, (n : Int)), (0, g), u] [] (G, X) = jN (d + 1) 208 196 [(22, 149), (0, a), (0, b), (0, rn bL T b - b), (0, g'), u'] [] (G, Y) ∧ rowP X Y T P b g g' n := by
  have hn := pOk_n hO
  have hcc := pCe_le hO
  have hT2 := hT.2.1
  intro m
  induction m with
  | zero =>
    intro n X g u hm hu hB h2 hle hrn hg c0 c1 c2
    have hE : rn bL T b = b + n := by rw [← hrn]; exact rn_neg (fun y => by have := y.1; omega)
    refine ⟨X, g, u, hu, ?_, fun _ _ _ => rfl, fun _ _ => rfl, by rw [h2, hE], fun _ _ => rfl, hg, ⟨fun y => ⟨y, fun j a b => by omega⟩, fun y => y.1⟩, fun _ j a b => by omega⟩
    rw [h_X12_rowTold_52 _ _ _ _ _ _ _ hu, h2, hB.1.1, hE, if_pos (by omega), if_pos (by omega), if_neg (by omega), show b + (n : Int) - b = n by omega]
  | succ m ih =>
    intro n X g u hm hu hB h2 hle hrn hg c0 c1 c2
    have q : b + (n : Int) < T.1 := by omega
    have e150 : X 150 (b + n) = tat T (b + n) := by rw [hB.1.2 _ (by omega) q, tat_in (by omega) q]
    have e150' : X 150 (b + n) = T.2 (b + n) := hB.1.2 _ (by omega) q
    by_cases q1 : srt T (b + n) = 1
    · have hlt := (srt_1.1 q1).2
      have hr := rn_pos (p := bL) (T := T) ⟨q, hlt⟩
      have hge := rn_ge bL T (b + n + 1)
      have hc := (bL_iff _).1 hlt
      have step : ∀ (X1 : jX) (g1 v5 : Int), (g1 = 0 ∨ g1 = 1) → (∀ k, k ≠ 184 → X1 k = X k) → (∀ j, j ≠ 8 * pR P + n → X1 184 j = X 184 j) → (g1 = 0 → X1 184 = X 184) → (g1 = 1 ↔ g = 1 ∧ (n : Int) < pC P ∧ ltr T P b n ≠ -2) → (g1 = 1 → X1 184 (8 * pR P + n) = ltr T P b n) → ∃ (Y : jX) (g' : Int) (u' : jV), (u'.1 = 2 ∨ u'.1 = 0) ∧ jN (d + 1) 208 180 [(22, 149), (0, a), (0, b), (0, (n : Int)), (0, g1), (0, v5)] [] (G, X1) = jN (d + 1) 208 196 [(22, 149), (0, a), (0, b), (0, rn bL T b - b), (0, g'), u'] [] (G, Y) ∧ rowP X Y T P b g g' n := fun X1 g1 v5 hg1 k1 k2 k3 k4 k5 => by
        have b2 : X1 149 2 = b + n := by rw [k1 149 (by omega)]; exact h2
        have B1 : mB (jup X1 149 2 (b + n + 1)) T := by
          obtain ⟨⟨a1, a2⟩, a3⟩ := hB
          exact ⟨⟨by rw [jup_row _ _ _ _ _ (by omega), k1 149 (by omega)]; exact a1, fun i i0 i1 => by rw [jup_rw _ _ _ _ _ (by omega), k1 150 (by omega)]; exact a2 i i0 i1⟩, mWd_fr (fun x hx => by rw [jup_rw _ _ _ _ _ (by omega), k1 x (by omega)]) a3⟩
        have e181 : jup X1 149 2 (b + n + 1) 181 = X 181 := by rw [jup_rw _ _ _ _ _ (by omega), k1 181 (by omega)]
        obtain ⟨Y, g', u', y1, y2, y3, y4, y5, y6, y7, y8, y9⟩ := ih (n + 1) (jup X1 149 2 (b + n + 1)) g1 (0, v5) (by omega) (Or.inr rfl) B1 (by rw [jup_same]; omega) (by omega) (by rw [← hrn, hr]; congr 1; omega) hg1 (by rw [e181]; exact c0) (by rw [e181]; exact c1) (by rw [e181]; exact c2)
        refine ⟨Y, g', u', y1, ?_, fun k x y => by rw [y3 k x y, jup_rw _ _ _ _ _ x, k1 k y], fun j hj => by rw [y4 j hj, jup_row _ _ _ _ _ hj, k1 149 (by omega)], y5, fun j hj => ?_, y7, ?_, ?_⟩
        · rw [h_X12_rowTold_180, b2, if_pos (by omega), if_pos (by omega), jadd_id (by omega) (by omega), jadd_id (by omega) (by omega), show ((n : Int) + 1) = ((n + 1 : Nat) : Int) by omega]
          exact y2
        · rw [y6 j (by omega), jup_rw _ _ _ _ _ (by omega)]
          by_cases y : j = 8 * pR P + n
          · by_cases z : g1 = 0
            · rw [k3 z]
            · have : (n : Int) < pC P := (k4.1 (by omega)).2.1
              omega
          · exact k2 j y
        · rw [y8]
          constructor
          · intro hh
            have k4' := k4.1 hh.1
            refine ⟨k4'.1, fun j hj hj2 => ?_⟩
            by_cases y : j = n
            · subst y; exact k4'.2
            · exact hh.2 j (by omega) hj2
          · intro hh
            exact ⟨k4.2 ⟨hh.1, hh.2 n (by omega) (by omega)⟩, fun j hj hj2 => hh.2 j (by omega) hj2⟩
        · intro hh j hj hj2
          have h8 := y8.1 hh
          by_cases y : j = n
          · subst y
            rw [y6 _ (by omega), jup_rw _ _ _ _ _ (by omega)]
            exact k5 h8.1
          · exact y9 hh j (by omega) hj2
      have j97 : jsub (T.2 (b + n)) 97 = T.2 (b + n) - 97 := jsub_id (by omega) (by omega)
      have bad : ∀ v5, ¬ (g = 1 ∧ (n : Int) < pC P ∧ ltr T P b n ≠ -2) → ∃ (Y : jX) (g' : Int) (u' : jV), (u'.1 = 2 ∨ u'.1 = 0) ∧ jN (d + 1) 208 136 [(22, 149), (0, a), (0, b), (0, (n : Int)), (0, g), (0, v5)] [] (G, X) = jN (d + 1) 208 196 [(22, 149), (0, a), (0, b), (0, rn bL T b - b), (0, g'), u'] [] (G, Y) ∧ rowP X Y T P b g g' n := fun v5 hb => by
        rw [h_X12_rowTold_136, h_X12_rowTold_137, if_pos (show (0 : Int) = 0 from rfl)]
        exact step X 0 v5 (Or.inl rfl) (fun _ _ => rfl) (fun _ _ => rfl) (fun _ => rfl) ⟨fun y => absurd y (by omega), fun y => absurd y hb⟩ (fun y => absurd y (by omega))
      have good : g = 1 → (n : Int) < pC P → (T.2 (b + n) - 97 < pK P ∨ T.2 (b + n) = 120) → ∃ (Y : jX) (g' : Int) (u' : jV), (u'.1 = 2 ∨ u'.1 = 0) ∧ jN (d + 1) 208 132 [(22, 149), (0, a), (0, b), (0, (n : Int)), (0, g), (0, T.2 (b + n) - 97)] [] (G, X) = jN (d + 1) 208 196 [(22, 149), (0, a), (0, b), (0, rn bL T b - b), (0, g'), u'] [] (G, Y) ∧ rowP X Y T P b g g' n := fun g1 n1 hl => by
        have el : ltr T P b n = if T.2 (b + n) = 120 then -1 else T.2 (b + n) - 97 := by
          unfold ltr
          by_cases y : T.2 (b + n) = 120
          · rw [if_pos y, if_pos y]
          · rw [if_neg y, if_neg y, if_pos (by omega)]
        have ne : ltr T P b n ≠ -2 := by rw [el]; split <;> omega
        have fin := step (jup X 184 (8 * pR P + n) (ltr T P b n)) 1 (T.2 (b + n) - 97) (Or.inr rfl) (fun k hk => jup_rw _ _ _ _ _ hk) (fun j hj => jup_row _ _ _ _ _ hj) (fun y => absurd y (by omega)) ⟨fun _ => ⟨g1, n1, ne⟩, fun _ => rfl⟩ (fun _ => by rw [jup_same])
        rw [h_X12_rowTold_132, h_X12_rowTold_137, if_neg (show ¬ (1 : Int) = 0 by omega), gr_149_40 hG, gr_149_0 hG, gr_149_43 hG, gl_181 hG, gl_150 hG, h2, c1, jmul_id (by omega) (by omega), jadd_id (by omega) (by omega), e150']
        simp only [Int.reduceLE, Int.reduceLT, reduceIte]
        rw [if_pos (show 0 ≤ b + (n : Int) by omega), if_pos (show b + (n : Int) < 1600 by omega)]
        have w179 : ∀ s0, s0 = ltr T P b n → jN (d + 1) 208 179 [(22, 149), (0, a), (0, b), (0, (n : Int)), (0, 1), (0, T.2 (b + n) - 97)] [(0, s0), (0, 8 * pR P + n), (24, 184)] (G, X) = jN (d + 1) 208 180 [(22, 149), (0, a), (0, b), (0, (n : Int)), (0, 1), (0, T.2 (b + n) - 97)] [] (G, jup X 184 (8 * pR P + n) (ltr T P b n)) := fun s0 hs => by
          rw [h_X12_rowTold_179, gl_184 hG, if_pos (by omega), if_pos (by omega), if_pos (by omega), hs]
        by_cases y : T.2 (b + n) = 120
        · rw [if_pos y, w179 (-1) (by rw [el, if_pos y])]; exact fin
        · rw [if_neg y, w179 _ (by rw [el, if_neg y])]; exact fin
      rw [h_X12_rowTold_52 _ _ _ _ _ _ _ hu, h2, hB.1.1, gr_149_0 hG, gl_150 hG]
      simp only [Int.reduceLE, reduceIte]
      rw [if_pos q, if_pos (show 0 ≤ b + (n : Int) by omega), if_pos (show b + (n : Int) < 1600 by omega), e150, t_isLetter d (by omega)]
      simp only [Option.bind_some]
      rw [if_pos q1, if_neg (show ¬ (1 : Int) = 0 by omega), gr_149_0 hG, gl_150 hG, gr_149_40 hG, gl_181 hG, h2, e150', j97, c0, c2]
      simp only [Int.reduceLE, Int.reduceLT, reduceIte]
      rw [if_pos (show 0 ≤ b + (n : Int) by omega), if_pos (show b + (n : Int) < 1600 by omega)]
      by_cases y1 : g = 0
      · rw [if_pos y1]; exact bad _ (fun y => by omega)
      · rw [if_neg y1]
        by_cases y2 : (n : Int) < pC P
        · rw [if_pos y2]
          by_cases y3 : T.2 (b + n) - 97 < pK P
          · rw [if_pos y3]; exact good (hg.resolve_left y1) y2 (Or.inl y3)
          · rw [if_neg y3]
            have i0 : 0 ≤ b + (n : Int) := by omega
            have i1 : b + (n : Int) < 1600 := by omega
            rw [if_pos i0, if_pos i1]
            by_cases y4 : T.2 (b + n) = 120
            · rw [if_pos y4]; exact good (hg.resolve_left y1) y2 (Or.inr y4)
            · rw [if_neg y4]
              exact bad _ (fun y => y.2.2 (by unfold ltr; rw [if_neg y4, if_neg y3]))
        · rw [if_neg y2]; exact bad _ (fun y => y2 y.2.1)
    · have hE : rn bL T b = b + n := by rw [← hrn]; exact rn_neg (fun y => q1 (srt_1.2 y))
      refine ⟨X, g, u, hu, ?_, fun _ _ _ => rfl, fun _ _ => rfl, by rw [h2, hE], fun _ _ => rfl, hg, ⟨fun y => ⟨y, fun j a b => by omega⟩, fun y => y.1⟩, fun _ j a b => by omega⟩
      rw [h_X12_rowTold_52 _ _ _ _ _ _ _ hu, h2, hB.1.1, gr_149_0 hG, gl_150 hG]
      simp only [Int.reduceLE, reduceIte]
      rw [if_pos q, if_pos (show 0 ≤ b + (n : Int) by omega), if_pos (show b + (n : Int) < 1600 by omega), e150, t_isLetter d (by omega)]
      simp only [Option.bind_some]
      rw [if_neg q1, if_pos (show (0 : Int) = 0 from rfl), hE, show b + (n : Int) - b = n by omega]
