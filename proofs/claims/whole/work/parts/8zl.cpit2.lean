/-! PIT: the class takes the draft over -/
theorem s_copyRow (d : Nat) {G : jG} {X : jX} (a b n : Int) (ha : 0 ≤ a) (hb : 0 ≤ b) (hn : 0 ≤ n) (la : gL G a = n) (lb : gL G b = n) : jD (d + 2) 53 [(24, a), (24, b)] (G, X) = some (0, (G, jcpy X a 0 b 0 n)) := by
  rw [e_X4_copyRow, if_pos ha, if_pos hb, la, lb, s_min, if_neg (by omega)]
  simp only [Option.bind_some]
  rw [if_pos hb, if_pos ha, if_pos hn, la, lb, if_pos (by omega), if_pos (by omega)]
theorem s_lay_n (d : Nat) {G : jG} {P : aP} (hG : GG G) (hO : pOk P) : ∀ (m : Nat) (X : jX) (i : Int) (w : jV), (w.1 = 2 ∨ w.1 = 0) → i + m = pCe P → 0 ≤ i → X 1 1 = pCe P → X 1 2 = pC P → ∃ X', jN (d + 1) 55 28 [(14, 1), (0, i), w] [] (G, X) = some (0, (G, X')) ∧ (∀ k, k ≠ 11 → X' k = X k) ∧ (∀ j, j < 4 * i → X' 11 j = X 11 j) ∧ ∀ c, i ≤ c → c < pCe P → X' 11 (4 * c) = nUp P c ∧ X' 11 (4 * c + 1) = nLf P c ∧ X' 11 (4 * c + 2) = nRt P c ∧ X' 11 (4 * c + 3) = nDn P c := by
  have hcc := pCe_le hO
  intro m
  induction m with
  | zero =>
    intro X i w hw hi i0 h1 h2
    refine ⟨X, ?_, fun _ _ => rfl, fun _ _ => rfl, fun c c0 c1 => by omega⟩
    rw [h_X4_layOut_28 _ _ _ _ hw, h1, if_pos (by omega), if_neg (by omega)]
  | succ m ih =>
    intro X i w hw hi i0 h1 h2
    have hC : 0 < pC P := by
      by_cases q : pC P = 0
      · rw [q, Int.zero_mul] at hcc; omega
      · omega
    have m0 := Int.emod_nonneg i (b := pC P) (by omega)
    have m1 := Int.emod_lt_of_pos i hC
    have j4 : jmul 4 i = 4 * i := jmul_id (by omega) (by omega)
    have eC : jD (d + 1) 57 [(14, 1), (0, i)] (G, X) = some (i % pC P, (G, X)) := by
      rw [e_X4_columnOf, h2, if_pos (by omega), if_pos hC, if_pos (by omega), if_neg (by omega), jrem_id i0]
    generalize hX1 : jup X 11 (4 * i) (nUp P i) = X1
    generalize hX2 : jup X1 11 (4 * i + 1) (nLf P i) = X2
    generalize hX3 : jup X2 11 (4 * i + 2) (nRt P i) = X3
    generalize hX4 : jup X3 11 (4 * i + 3) (nDn P i) = X4
    have f1 : ∀ k, k ≠ 11 → X1 k = X k := fun k hk => by rw [← hX1, jup_rw _ _ _ _ _ hk]
    have f2 : ∀ k, k ≠ 11 → X2 k = X k := fun k hk => by rw [← hX2, jup_rw _ _ _ _ _ hk, f1 k hk]
    have f3 : ∀ k, k ≠ 11 → X3 k = X k := fun k hk => by rw [← hX3, jup_rw _ _ _ _ _ hk, f2 k hk]
    have f4 : ∀ k, k ≠ 11 → X4 k = X k := fun k hk => by rw [← hX4, jup_rw _ _ _ _ _ hk, f3 k hk]
    have r4 : ∀ j, j < 4 * i → X4 11 j = X 11 j := fun j hj => by rw [← hX4, jup_row _ _ _ _ _ (by omega), ← hX3, jup_row _ _ _ _ _ (by omega), ← hX2, jup_row _ _ _ _ _ (by omega), ← hX1, jup_row _ _ _ _ _ (by omega)]
    have v0 : X4 11 (4 * i) = nUp P i := by rw [← hX4, jup_row _ _ _ _ _ (by omega), ← hX3, jup_row _ _ _ _ _ (by omega), ← hX2, jup_row _ _ _ _ _ (by omega), ← hX1, jup_same]
    have v1 : X4 11 (4 * i + 1) = nLf P i := by rw [← hX4, jup_row _ _ _ _ _ (by omega), ← hX3, jup_row _ _ _ _ _ (by omega), ← hX2, jup_same]
    have v2 : X4 11 (4 * i + 2) = nRt P i := by rw [← hX4, jup_row _ _ _ _ _ (by omega), ← hX3, jup_same]
    have v3 : X4 11 (4 * i + 3) = nDn P i := by rw [← hX4, jup_same]
    obtain ⟨X', e', g1, g2, g3⟩ := ih X4 (i + 1) (0, i % pC P) (Or.inr rfl) (by omega) (by omega) (by rw [f4 1 (by omega)]; exact h1) (by rw [f4 1 (by omega)]; exact h2)
    have b0 : jN (d + 1) 55 28 [(14, 1), (0, i), w] [] (G, X) = jN (d + 1) 55 67 [(14, 1), (0, i), (0, i % pC P)] [(0, nUp P i), (0, 4 * i), (24, 11)] (G, X) := by
      rw [h_X4_layOut_28 _ _ _ _ hw, h1, if_pos (by omega), if_pos (by omega), if_pos (by omega), eC]
      simp only [Option.bind_some]
      rw [h2, gr_1_17 hG, j4]
      simp only [Int.reduceLE, reduceIte]
      unfold nUp
      by_cases q : i < pC P
      · rw [if_pos q, if_neg (by omega)]
      · rw [if_neg q, if_pos (by omega), jsub_id (by omega) (by omega)]
    have b1 : jN (d + 1) 55 67 [(14, 1), (0, i), (0, i % pC P)] [(0, nUp P i), (0, 4 * i), (24, 11)] (G, X) = jN (d + 1) 55 88 [(14, 1), (0, i), (0, i % pC P)] [(0, nLf P i), (0, 4 * i + 1), (24, 11)] (G, X1) := by
      rw [h_X4_layOut_67, gl_11 hG, gr_1_17 hG, j4, jadd_id (by omega) (by omega), hX1, if_pos (show (0 : Int) ≤ 11 by omega), if_pos (show 0 ≤ 4 * i by omega), if_pos (show 4 * i < 192 by omega), if_pos (show (0 : Int) ≤ 1 by omega)]
      unfold nLf
      by_cases q : 0 < i % pC P
      · rw [if_pos q, if_pos q, jsub_id (by omega) (by omega)]
      · rw [if_neg q, if_neg q]
    have b2 : jN (d + 1) 55 88 [(14, 1), (0, i), (0, i % pC P)] [(0, nLf P i), (0, 4 * i + 1), (24, 11)] (G, X1) = jN (d + 1) 55 115 [(14, 1), (0, i), (0, i % pC P)] [(0, nRt P i), (0, 4 * i + 2), (24, 11)] (G, X2) := by
      rw [h_X4_layOut_88, gl_11 hG, gr_1_17 hG, j4, jadd_id (a := 4 * i) (b := 2) (by omega) (by omega), hX2, f2 1 (by omega), h2, jsub_id (by omega) (by omega), if_pos (show (0 : Int) ≤ 11 by omega), if_pos (show 0 ≤ 4 * i + 1 by omega), if_pos (show 4 * i + 1 < 192 by omega), if_pos (show (0 : Int) ≤ 1 by omega), if_pos (show (0 : Int) ≤ 1 by omega)]
      unfold nRt
      by_cases q : i % pC P < pC P - 1
      · rw [if_pos q, if_pos q, jadd_id (by omega) (by omega)]
      · rw [if_neg q, if_neg q]
    have b3 : jN (d + 1) 55 115 [(14, 1), (0, i), (0, i % pC P)] [(0, nRt P i), (0, 4 * i + 2), (24, 11)] (G, X2) = jN (d + 1) 55 148 [(14, 1), (0, i), (0, i % pC P)] [(0, nDn P i), (0, 4 * i + 3), (24, 11)] (G, X3) := by
      rw [h_X4_layOut_115, gl_11 hG, gr_1_17 hG, j4, jadd_id (a := 4 * i) (b := 3) (by omega) (by omega), hX3, f3 1 (by omega), h2, h1, jadd_id (a := i) (b := pC P) (by omega) (by omega), if_pos (show (0 : Int) ≤ 11 by omega), if_pos (show 0 ≤ 4 * i + 2 by omega), if_pos (show 4 * i + 2 < 192 by omega), if_pos (show (0 : Int) ≤ 1 by omega), if_pos (show (0 : Int) ≤ 1 by omega), if_pos (show (0 : Int) ≤ 1 by omega)]
      unfold nDn
      by_cases q : i + pC P < pCe P
      · rw [if_pos q, if_pos q, if_pos (show (0 : Int) ≤ 1 by omega)]
      · rw [if_neg q, if_neg q]
    have b4 : jN (d + 1) 55 148 [(14, 1), (0, i), (0, i % pC P)] [(0, nDn P i), (0, 4 * i + 3), (24, 11)] (G, X3) = jN (d + 1) 55 28 [(14, 1), (0, i + 1), (0, i % pC P)] [] (G, X4) := by
      rw [h_X4_layOut_148, gl_11 hG, hX4, jadd_id (by omega) (by omega), if_pos (show (0 : Int) ≤ 11 by omega), if_pos (show 0 ≤ 4 * i + 3 by omega), if_pos (show 4 * i + 3 < 192 by omega)]
    refine ⟨X', by rw [b0, b1, b2, b3, b4, e'], fun k hk => by rw [g1 k hk, f4 k hk], fun j hj => by rw [g2 j (by omega), r4 j hj], fun c c0 c1 => ?_⟩
    by_cases q : c = i
    · rw [q, g2 _ (by omega), g2 _ (by omega), g2 _ (by omega), g2 _ (by omega)]
      exact ⟨v0, v1, v2, v3⟩
    · exact g3 c (by omega) c1
theorem s_layOut (d : Nat) {G : jG} {P : aP} {X : jX} (hG : GG G) (hO : pOk P) (h2 : X 1 2 = pC P) (h4 : X 1 4 = pR P) : ∃ X', jD (d + 2) 55 [(14, 1)] (G, X) = some (0, (G, X')) ∧ (∀ k, k ≠ 1 → k ≠ 11 → X' k = X k) ∧ (∀ j, j ≠ 1 → X' 1 j = X 1 j) ∧ X' 1 1 = pCe P ∧ ∀ c, 0 ≤ c → c < pCe P → X' 11 (4 * c) = nUp P c ∧ X' 11 (4 * c + 1) = nLf P c ∧ X' 11 (4 * c + 2) = nRt P c ∧ X' 11 (4 * c + 3) = nDn P c := by
  have hcc := pCe_le hO
  generalize hY : fil (jup X 1 1 (pCe P)) 11 192 (-1) = Y
  have y1 : Y 1 = jup X 1 1 (pCe P) 1 := by rw [← hY, fil_ne _ _ _ _ _ (by omega)]
  obtain ⟨X', e, g1, g2, g3⟩ := s_lay_n d hG hO (pCe P).toNat Y 0 (2, -1) (Or.inl rfl) (by omega) (by omega) (by rw [y1, jup_same]) (by rw [y1, jup_row _ _ _ _ _ (by omega)]; exact h2)
  refine ⟨X', ?_, fun k a b => by rw [g1 k b, ← hY, fil_ne _ _ _ _ _ b, jup_rw _ _ _ _ _ a], fun j hj => by rw [g1 1 (by omega), y1, jup_row _ _ _ _ _ hj], by rw [g1 1 (by omega), y1, jup_same], g3⟩
  rw [e_X4_layOut, h2, h4, show jmul (pC P) (pR P) = pCe P from jmul_id (by rw [← hcc.2.2.1]; omega) (by rw [← hcc.2.2.1]; omega), s_min]
  simp only [Option.bind_some, Int.reduceLE, reduceIte]
  rw [show (if pCe P < 48 then pCe P else 48) = pCe P by split <;> omega, gr_1_17 hG, s_fill d 11 (-1) 192 (by omega) (gl_11 hG) (by omega) (by omega), hY]
  simp only [Option.bind_some]
  exact e
