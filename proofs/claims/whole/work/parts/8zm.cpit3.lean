/-! PIT: the class's own call -/
theorem cpy_at {X : jX} {s t n j : Int} (h0 : 0 ≤ j) (h1 : j < n) : jcpy X s 0 t 0 n t j = X s j := by
  rw [jcpy_at, if_pos (by omega), show 0 + (j - 0) = j by omega]
theorem s_takeOver (d : Nat) {G : jG} {P : aP} {X : jX} {z : Int} (hG : GG G) (hO : pOk P) (hD : cDr X P z) (hz : z ≤ 1600) : ∃ X', jD (d + 4) 52 [(14, 1), (14, 13)] (G, X) = some (0, (G, X')) ∧ cPlan X' P ∧ ∀ k, ¬ (1 ≤ k ∧ k ≤ 12) → X' k = X k := by
  have hcc := pCe_le hO
  have hn := pOk_n hO
  obtain ⟨a1, a2, a3, a4, a5, a6, a7⟩ := hD
  generalize hY : jup (jup (jup (jup (jup (jup (jup X 1 0 (pN P)) 1 2 (pC P)) 1 3 (pS P)) 1 4 (pR P)) 1 5 (pK P)) 1 6 (pH P)) 1 7 (pM P) = Y
  have y : ∀ k, k ≠ 1 → Y k = X k := fun k hk => by rw [← hY]; simp only [jup_rw _ _ _ _ _ hk]
  have y1 : Y 1 0 = pN P ∧ Y 1 2 = pC P ∧ Y 1 3 = pS P ∧ Y 1 4 = pR P ∧ Y 1 5 = pK P ∧ Y 1 6 = pH P ∧ Y 1 7 = pM P := by
    subst hY
    refine ⟨?_, ?_, ?_, ?_, ?_, ?_, ?_⟩ <;> simp [jup]
  have E0 : jD (d + 4) 52 [(14, 1), (14, 13)] (G, X) = jN (d + 3) 52 56 [(14, 1), (14, 13)] [] (G, Y) := by
    rw [e_X4_copyFrom, h_X4_copyFrom_8, h_X4_copyFrom_16, h_X4_copyFrom_24, h_X4_copyFrom_32, h_X4_copyFrom_40, h_X4_copyFrom_48]
    simp only [Int.reduceLE, reduceIte]
    simp only [jup_rw _ 1 _ _ 13 (by omega)]
    rw [a1.1, a1.2.1, a1.2.2.1, a1.2.2.2.1, a1.2.2.2.2.1, a1.2.2.2.2.2.1, a1.2.2.2.2.2.2, hY]
  generalize e2 : jcpy Y 14 0 2 0 3 = Y2
  generalize e3 : jcpy Y2 15 0 3 0 3 = Y3
  generalize e4 : jcpy Y3 16 0 4 0 5 = Y4
  generalize e5 : jcpy Y4 17 0 5 0 5 = Y5
  generalize e6 : jcpy Y5 18 0 6 0 5 = Y6
  generalize e7 : jcpy Y6 19 0 7 0 30 = Y7
  generalize e8 : jcpy Y7 20 0 8 0 36 = Y8
  generalize e9 : jcpy Y8 21 0 9 0 6 = Y9
  generalize e10 : jcpy Y9 22 0 10 0 48 = Y10
  generalize e12 : jcpy Y10 24 0 12 0 1600 = Y12
  have f2 : ∀ k, k ≠ 2 → Y2 k = Y k := fun k hk => by rw [← e2, jcpy_ne _ _ _ _ _ _ _ hk]
  have f3 : ∀ k, k ≠ 3 → Y3 k = Y2 k := fun k hk => by rw [← e3, jcpy_ne _ _ _ _ _ _ _ hk]
  have f4 : ∀ k, k ≠ 4 → Y4 k = Y3 k := fun k hk => by rw [← e4, jcpy_ne _ _ _ _ _ _ _ hk]
  have f5 : ∀ k, k ≠ 5 → Y5 k = Y4 k := fun k hk => by rw [← e5, jcpy_ne _ _ _ _ _ _ _ hk]
  have f6 : ∀ k, k ≠ 6 → Y6 k = Y5 k := fun k hk => by rw [← e6, jcpy_ne _ _ _ _ _ _ _ hk]
  have f7 : ∀ k, k ≠ 7 → Y7 k = Y6 k := fun k hk => by rw [← e7, jcpy_ne _ _ _ _ _ _ _ hk]
  have f8 : ∀ k, k ≠ 8 → Y8 k = Y7 k := fun k hk => by rw [← e8, jcpy_ne _ _ _ _ _ _ _ hk]
  have f9 : ∀ k, k ≠ 9 → Y9 k = Y8 k := fun k hk => by rw [← e9, jcpy_ne _ _ _ _ _ _ _ hk]
  have f10 : ∀ k, k ≠ 10 → Y10 k = Y9 k := fun k hk => by rw [← e10, jcpy_ne _ _ _ _ _ _ _ hk]
  have f12 : ∀ k, k ≠ 12 → Y12 k = Y10 k := fun k hk => by rw [← e12, jcpy_ne _ _ _ _ _ _ _ hk]
  have w12 : ∀ j, 0 ≤ j → j < 1600 → Y12 12 j = X 24 j := fun j j0 j1 => by rw [← e12, cpy_at j0 j1, f10 24 (by omega), f9 24 (by omega), f8 24 (by omega), f7 24 (by omega), f6 24 (by omega), f5 24 (by omega), f4 24 (by omega), f3 24 (by omega), f2 24 (by omega), y 24 (by omega)]
  have w10 : ∀ j, 0 ≤ j → j < 48 → Y12 10 j = X 22 j := fun j j0 j1 => by rw [f12 10 (by omega), ← e10, cpy_at j0 j1, f9 22 (by omega), f8 22 (by omega), f7 22 (by omega), f6 22 (by omega), f5 22 (by omega), f4 22 (by omega), f3 22 (by omega), f2 22 (by omega), y 22 (by omega)]
  have w9 : ∀ j, 0 ≤ j → j < 6 → Y12 9 j = X 21 j := fun j j0 j1 => by rw [f12 9 (by omega), f10 9 (by omega), ← e9, cpy_at j0 j1, f8 21 (by omega), f7 21 (by omega), f6 21 (by omega), f5 21 (by omega), f4 21 (by omega), f3 21 (by omega), f2 21 (by omega), y 21 (by omega)]
  have w8 : ∀ j, 0 ≤ j → j < 36 → Y12 8 j = X 20 j := fun j j0 j1 => by rw [f12 8 (by omega), f10 8 (by omega), f9 8 (by omega), ← e8, cpy_at j0 j1, f7 20 (by omega), f6 20 (by omega), f5 20 (by omega), f4 20 (by omega), f3 20 (by omega), f2 20 (by omega), y 20 (by omega)]
  have w7 : ∀ j, 0 ≤ j → j < 30 → Y12 7 j = X 19 j := fun j j0 j1 => by rw [f12 7 (by omega), f10 7 (by omega), f9 7 (by omega), f8 7 (by omega), ← e7, cpy_at j0 j1, f6 19 (by omega), f5 19 (by omega), f4 19 (by omega), f3 19 (by omega), f2 19 (by omega), y 19 (by omega)]
  have w6 : ∀ j, 0 ≤ j → j < 5 → Y12 6 j = X 18 j := fun j j0 j1 => by rw [f12 6 (by omega), f10 6 (by omega), f9 6 (by omega), f8 6 (by omega), f7 6 (by omega), ← e6, cpy_at j0 j1, f5 18 (by omega), f4 18 (by omega), f3 18 (by omega), f2 18 (by omega), y 18 (by omega)]
  have w5 : ∀ j, 0 ≤ j → j < 5 → Y12 5 j = X 17 j := fun j j0 j1 => by rw [f12 5 (by omega), f10 5 (by omega), f9 5 (by omega), f8 5 (by omega), f7 5 (by omega), f6 5 (by omega), ← e5, cpy_at j0 j1, f4 17 (by omega), f3 17 (by omega), f2 17 (by omega), y 17 (by omega)]
  have w4 : ∀ j, 0 ≤ j → j < 5 → Y12 4 j = X 16 j := fun j j0 j1 => by rw [f12 4 (by omega), f10 4 (by omega), f9 4 (by omega), f8 4 (by omega), f7 4 (by omega), f6 4 (by omega), f5 4 (by omega), ← e4, cpy_at j0 j1, f3 16 (by omega), f2 16 (by omega), y 16 (by omega)]
  have w3 : ∀ j, 0 ≤ j → j < 3 → Y12 3 j = X 15 j := fun j j0 j1 => by rw [f12 3 (by omega), f10 3 (by omega), f9 3 (by omega), f8 3 (by omega), f7 3 (by omega), f6 3 (by omega), f5 3 (by omega), f4 3 (by omega), ← e3, cpy_at j0 j1, f2 15 (by omega), y 15 (by omega)]
  have w2 : ∀ j, 0 ≤ j → j < 3 → Y12 2 j = X 14 j := fun j j0 j1 => by rw [f12 2 (by omega), f10 2 (by omega), f9 2 (by omega), f8 2 (by omega), f7 2 (by omega), f6 2 (by omega), f5 2 (by omega), f4 2 (by omega), f3 2 (by omega), ← e2, cpy_at j0 j1, y 14 (by omega)]
  have wk : ∀ k, ¬ (2 ≤ k ∧ k ≤ 12) → Y12 k = Y k := fun k hk => by rw [f12 k (by omega), f10 k (by omega), f9 k (by omega), f8 k (by omega), f7 k (by omega), f6 k (by omega), f5 k (by omega), f4 k (by omega), f3 k (by omega), f2 k (by omega)]
  clear f2 f3 f4 f5 f6 f7 f8 f9 f10 f12
  obtain ⟨X', e', g1, g2, g3, g4⟩ := s_layOut (d + 1) (X := Y12) hG hO (by rw [wk 1 (by omega)]; exact y1.2.1) (by rw [wk 1 (by omega)]; exact y1.2.2.2.1)
  have E1 : jN (d + 3) 52 56 [(14, 1), (14, 13)] [] (G, Y) = some (0, (G, X')) := by
    rw [h_X4_copyFrom_56]
    simp only [Int.reduceLE, reduceIte]
    rw [gr_13_8 hG, gr_1_8 hG, s_copyRow (d + 1) 14 2 3 (by omega) (by omega) (by omega) (gl_14 hG) (gl_2 hG), e2]
    simp only [Option.bind_some]
    rw [gr_13_9 hG, gr_1_9 hG, s_copyRow (d + 1) 15 3 3 (by omega) (by omega) (by omega) (gl_15 hG) (gl_3 hG), e3]
    simp only [Option.bind_some]
    rw [gr_13_10 hG, gr_1_10 hG, s_copyRow (d + 1) 16 4 5 (by omega) (by omega) (by omega) (gl_16 hG) (gl_4 hG), e4]
    simp only [Option.bind_some]
    rw [gr_13_11 hG, gr_1_11 hG, s_copyRow (d + 1) 17 5 5 (by omega) (by omega) (by omega) (gl_17 hG) (gl_5 hG), e5]
    simp only [Option.bind_some]
    rw [gr_13_12 hG, gr_1_12 hG, s_copyRow (d + 1) 18 6 5 (by omega) (by omega) (by omega) (gl_18 hG) (gl_6 hG), e6]
    simp only [Option.bind_some]
    rw [gr_13_13 hG, gr_1_13 hG, s_copyRow (d + 1) 19 7 30 (by omega) (by omega) (by omega) (gl_19 hG) (gl_7 hG), e7]
    simp only [Option.bind_some]
    rw [gr_13_14 hG, gr_1_14 hG, s_copyRow (d + 1) 20 8 36 (by omega) (by omega) (by omega) (gl_20 hG) (gl_8 hG), e8]
    simp only [Option.bind_some]
    rw [gr_13_15 hG, gr_1_15 hG, s_copyRow (d + 1) 21 9 6 (by omega) (by omega) (by omega) (gl_21 hG) (gl_9 hG), e9]
    simp only [Option.bind_some]
    rw [gr_13_16 hG, gr_1_16 hG, s_copyRow (d + 1) 22 10 48 (by omega) (by omega) (by omega) (gl_22 hG) (gl_10 hG), e10]
    simp only [Option.bind_some]
    rw [gr_13_18 hG, gr_1_18 hG, s_copyRow (d + 1) 24 12 1600 (by omega) (by omega) (by omega) (gl_24 hG) (gl_12 hG), e12]
    simp only [Option.bind_some]
    rw [e']
    rfl
  have fo : ∀ (w : Nat), w < 3 → ∀ o, dFo X z w o → cFo X' w o := fun w hw o h => by
    have q3 : X' 3 w = X 15 w := by rw [g1 3 (by omega) (by omega)]; exact w3 w (by omega) (by omega)
    cases o with
    | none => show X' 3 w = -1; rw [q3]; exact h
    | some l =>
      obtain ⟨b1, b2, b3, b4⟩ := h
      have q12 : ∀ j, 0 ≤ j → j < 1600 → X' 12 j = X 24 j := fun j j0 j1 => by rw [g1 12 (by omega) (by omega)]; exact w12 j j0 j1
      exact ⟨by rw [q3]; exact b1, by rw [q3]; omega, fun i hi => by rw [q3, q12 _ (by omega) (by omega)]; exact b3 i hi, by rw [q3, q12 _ (by omega) (by omega)]; exact b4⟩
  have x1 : ∀ j, j ≠ 1 → X' 1 j = Y 1 j := fun j hj => by rw [g2 j hj, wk 1 (by omega)]
  refine ⟨X', by rw [E0, E1], ⟨⟨by rw [x1 0 (by omega)]; exact y1.1, g3, by rw [x1 2 (by omega)]; exact y1.2.1, by rw [x1 3 (by omega)]; exact y1.2.2.1, by rw [x1 4 (by omega)]; exact y1.2.2.2.1, by rw [x1 5 (by omega)]; exact y1.2.2.2.2.1, by rw [x1 6 (by omega)]; exact y1.2.2.2.2.2.1, by rw [x1 7 (by omega)]; exact y1.2.2.2.2.2.2⟩, ?_, ⟨fo 0 (by omega) _ a3.1, fo 1 (by omega) _ a3.2.1, fo 2 (by omega) _ a3.2.2⟩, fun k k0 k1 => ?_, fun h h0 h1 => ?_, fun c c0 c1 => ?_⟩, fun k hk => by rw [g1 k (by omega) (by omega), wk k (by omega), y k (by omega)]⟩
  · rw [g1 2 (by omega) (by omega), w2 0 (by omega) (by omega), w2 1 (by omega) (by omega), w2 2 (by omega) (by omega)]; exact a2
  · obtain ⟨b1, b2, b3⟩ := a4 k k0 k1
    refine ⟨by rw [g1 4 (by omega) (by omega), w4 k (by omega) (by omega)]; exact b1, by rw [g1 5 (by omega) (by omega), w5 k (by omega) (by omega)]; exact b2, by rw [g1 6 (by omega) (by omega), w6 k (by omega) (by omega)]; exact a5 k (by omega) (by omega), fun j j0 j1 => by rw [g1 7 (by omega) (by omega), w7 _ (by omega) (by omega)]; exact b3 j j0 j1⟩
  · obtain ⟨b1, b2⟩ := a6 h h0 h1
    exact ⟨by rw [g1 9 (by omega) (by omega), w9 h (by omega) (by omega)]; exact b1, fun j j0 j1 => by rw [g1 8 (by omega) (by omega), w8 _ (by omega) (by omega)]; exact b2 j j0 j1⟩
  · exact ⟨by rw [g1 10 (by omega) (by omega), w10 c (by omega) (by omega)]; exact a7 c c0 c1, g4 c c0 c1⟩
/-- the ground of a new pit -/
def gNew (P : aP) : aG := ((pPr P, 0, 0), (fun _ => 0), fun _ => 0)
def ptA (A : aA) : Int := match rdP (aTn A, aTp A) with
  | .inl _ => -1
  | .inr q => pN q.2
def nPit (A : aA) (P : aP) : aA := setF (setT (setB (setJ (setH (setG (setP A P) (gNew P)) []) none) 0 (aBr A)) 0 (aTp A)) 0 (-1)
def ptN (A : aA) : aA := match rdP (aTn A, aTp A) with
  | .inl e => refu (setF (setT A 0 (aTp A)) e.1 e.2) 1
  | .inr q => nPit A q.2
theorem s_start (d : Nat) {G : jG} {X : jX} {P : aP} (hG : GG G) (hP : cPlan X P) : ∃ X', jD (d + 2) 11 [(11, 25), (14, 1)] (G, X) = some (0, (G, X')) ∧ cGr X' 25 (gNew P) ∧ ∀ k, k ≠ 25 → k ≠ 26 → k ≠ 27 → X' k = X k := by
  generalize hY : fil (fil X 26 48 0) 27 5 0 = Y
  have y : ∀ k, k ≠ 26 → k ≠ 27 → Y k = X k := fun k a b => by rw [← hY, fil_ne _ _ _ _ _ b, fil_ne _ _ _ _ _ a]
  have e : jD (d + 2) 11 [(11, 25), (14, 1)] (G, X) = some (0, (G, jup (jup (jup Y 25 2 (pPr P)) 25 3 0) 25 4 0)) := by
    rw [e_X1_start, gr_25_0 hG, s_fill d 26 0 48 (by omega) (gl_26 hG) (by omega) (by omega)]
    simp only [Option.bind_some, Int.reduceLE, reduceIte]
    rw [gr_25_1 hG, s_fill d 27 0 5 (by omega) (gl_27 hG) (by omega) (by omega), hY]
    simp only [Option.bind_some]
    rw [gr_1_8 hG, gl_2 hG, y 2 (by omega) (by omega), hP.2.1.2.1]
    simp only [Int.reduceLE, Int.reduceLT, reduceIte]
  refine ⟨_, e, ⟨⟨?_, ?_, ?_⟩, fun c c0 c1 => ?_, fun k k0 k1 => ?_⟩, fun k a b c => by rw [jup_rw _ _ _ _ _ a, jup_rw _ _ _ _ _ a, jup_rw _ _ _ _ _ a, y k b c]⟩
  · rw [jup_row _ _ _ _ _ (by omega), jup_row _ _ _ _ _ (by omega), jup_same]; rfl
  · rw [jup_row _ _ _ _ _ (by omega), jup_same]; rfl
  · rw [jup_same]; rfl
  · rw [jup_rw _ _ _ _ _ (by omega), jup_rw _ _ _ _ _ (by omega), jup_rw _ _ _ _ _ (by omega), ← hY, fil_ne _ _ _ _ _ (by omega)]
    show fil X 26 48 0 26 c = 0
    rw [fil_at, if_pos ⟨c0, c1⟩]
  · rw [jup_rw _ _ _ _ _ (by omega), jup_rw _ _ _ _ _ (by omega), jup_rw _ _ _ _ _ (by omega), ← hY]
    show fil (fil X 26 48 0) 27 5 0 27 k = 0
    rw [fil_at, if_pos ⟨k0, k1⟩]
