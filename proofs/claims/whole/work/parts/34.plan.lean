/-! THE CLASS'S PLAN, asked -/
theorem s_isCell (d : Nat) {G : jG} {X : jX} {P : aP} (c : Int) (hP : cPlan X P) : jD (d + 1) 56 [(14, 1), (0, c)] (G, X) = some (if 0 ≤ c ∧ c < pCe P then 1 else 0, (G, X)) := by
  rw [e_X4_isCell]
  have := cPlan_at hP
  grind
theorem s_columnOf (d : Nat) {G : jG} {X : jX} {P : aP} (c : Int) (hP : cPlan X P) (h0 : 0 ≤ c) (hC : 0 < pC P) : jD (d + 1) 57 [(14, 1), (0, c)] (G, X) = some (c % pC P, (G, X)) := by
  have h := cPlan_at hP
  rw [e_X4_columnOf, jrem_id h0]
  grind
theorem s_rowOf (d : Nat) {G : jG} {X : jX} {P : aP} (c : Int) (hP : cPlan X P) (h0 : 0 ≤ c) (h1 : c ≤ 2147483647) (hC : 0 < pC P) : jD (d + 1) 58 [(14, 1), (0, c)] (G, X) = some (c / pC P, (G, X)) := by
  have h := cPlan_at hP
  rw [e_X4_rowOf, jdiv_id h0 (by omega) h1]
  grind
theorem s_kindOf (d : Nat) {G : jG} {X : jX} {P : aP} (c : Int) (hG : GG G) (hP : cPlan X P) (hO : pOk P) : jD (d + 2) 60 [(14, 1), (0, c)] (G, X) = some (if 0 ≤ c ∧ c < pCe P then pSe P c else -1, (G, X)) := by
  have h := cPlan_at hP
  have hc := pCe_le hO
  rw [e_X4_kindOf, s_isCell d c hP]
  simp only [Option.bind_some, gr_1_16 hG, gl_10 hG]
  by_cases hi : 0 ≤ c ∧ c < pCe P
  · have h1 := (hP.2.2.2.2.2 c hi.1 hi.2).1
    have h2 := pOk_c hO c hi.1 hi.2
    have h3 := pOk_n hO
    rw [h1, jsub_id (by omega) (by omega)]
    grind
  · grind
theorem s_restOf (d : Nat) {G : jG} {X : jX} {P : aP} (c : Int) (hG : GG G) (hP : cPlan X P) (hO : pOk P) (hi : inP P c) : jD (d + 3) 61 [(14, 1), (0, c)] (G, X) = some (rsO P (pSe P c), (G, X)) := by
  have h := cPlan_at hP
  have h2 := pOk_c hO c hi.1 hi.2
  have h3 := pOk_n hO
  rw [e_X4_restOf, s_kindOf d c hG hP hO, if_pos hi]
  simp only [Option.bind_some, gr_1_10 hG, gl_4 hG]
  have h4 := hP.2.2.2.1 (pSe P c)
  unfold rsO
  grind
theorem s_gasOf (d : Nat) {G : jG} {X : jX} {P : aP} (c : Int) (hG : GG G) (hP : cPlan X P) (hO : pOk P) (hi : inP P c) : jD (d + 3) 62 [(14, 1), (0, c)] (G, X) = some (gsO P (pSe P c), (G, X)) := by
  have h := cPlan_at hP
  have h2 := pOk_c hO c hi.1 hi.2
  have h3 := pOk_n hO
  rw [e_X4_gasOf, s_kindOf d c hG hP hO, if_pos hi]
  simp only [Option.bind_some, gr_1_11 hG, gl_5 hG]
  have h4 := hP.2.2.2.1 (pSe P c)
  unfold gsO
  grind
/-- the one beside, on a way -/
def nW (P : aP) (c w : Int) : Int := if w = 0 then nUp P c else if w = 1 then nLf P c else if w = 2 then nRt P c else nDn P c
theorem s_beside (d : Nat) {G : jG} {X : jX} {P : aP} (c w : Int) (hG : GG G) (hP : cPlan X P) (hO : pOk P) (hi : inP P c) (h0 : 0 ≤ w) (h1 : w < 4) : jD (d + 2) 63 [(14, 1), (0, c), (0, w)] (G, X) = some (nW P c w, (G, X)) := by
  have hc := pCe_le hO
  obtain ⟨hi0, hi1⟩ := hi
  rw [e_X4_beside, s_isCell d c hP]
  simp only [Option.bind_some, gr_1_17 hG, gl_11 hG]
  rw [jmul_id (by omega) (by omega), jadd_id (by omega) (by omega)]
  obtain ⟨-, e0, e1, e2, e3⟩ := hP.2.2.2.2.2 c hi0 hi1
  unfold nW
  rcases (show w = 0 ∨ w = 1 ∨ w = 2 ∨ w = 3 by omega) with rfl | rfl | rfl | rfl
  · rw [Int.add_zero]; grind
  · grind
  · grind
  · grind
theorem s_toldAt (d : Nat) {G : jG} {X : jX} {P : aP} (c r : Int) (hG : GG G) (hP : cPlan X P) (hO : pOk P) (hc1 : -100 ≤ c) (hc2 : c ≤ 1000) (hr1 : -100 ≤ r) (hr2 : r ≤ 1000) : jD (d + 2) 59 [(14, 1), (0, c), (0, r)] (G, X) = some (if 0 ≤ c ∧ c < pC P ∧ 0 ≤ r ∧ r < pR P then pSe P (r * pC P + c) + 1 else 0, (G, X)) := by
  have h := cPlan_at hP
  have hc := pCe_le hO
  rw [e_X4_toldAt]
  by_cases hi : 0 ≤ c ∧ c < pC P ∧ 0 ≤ r ∧ r < pR P
  · have hm : 0 ≤ r * pC P := Int.mul_nonneg hi.2.2.1 hc.2.2.2.1
    have hm2 : r * pC P + pC P ≤ pCe P := by
      have : (r + 1) * pC P ≤ pR P * pC P := Int.mul_le_mul_of_nonneg_right (by omega) hc.2.2.2.1
      rw [Int.add_mul, Int.one_mul, Int.mul_comm (pR P)] at this
      exact this
    have e1 : jmul r (X 1 2) = r * pC P := by rw [h.2.2.1]; exact jmul_id (by omega) (by omega)
    have e2 : jadd (jmul r (X 1 2)) c = r * pC P + c := by rw [e1]; exact jadd_id (by omega) (by omega)
    rw [e2, s_isCell d _ hP]
    have h1 := (hP.2.2.2.2.2 (r * pC P + c) (by omega) (by omega)).1
    simp only [Option.bind_some, gr_1_16 hG, gl_10 hG]
    grind
  · rw [if_neg hi]
    grind
