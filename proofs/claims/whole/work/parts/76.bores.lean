/-! BORES -/
def ok3 (P : aP) (f : Int → Int) (j : Int) : Prop := f (3 * j) < pC P ∧ f (3 * j + 1) < pR P ∧ f (3 * j + 2) ≤ pK P
def boO (A : aA) : Prop := 0 < aTn A ∧ aTn A % 3 = 0 ∧ aTn A ≤ 60 ∧ ∀ j, 0 ≤ j → 3 * j < aTn A → ok3 (aPl A) (aTp A) j
theorem s_bo_28 (d : Nat) {G : jG} {X : jX} {P : aP} {f : Int → Int} {n N : Int} (hG : GG G) (hP : cPlan X P) (hT : cTa X n f) (hN : n = 3 * N) (hn : n ≤ 60) : ∀ (m : Nat) (i : Int), i + m = N → 0 ≤ i → ((∀ j, i ≤ j → 3 * j < n → ok3 P f j) → jN (d + 1) 2 28 [(10, 137), (20, 33), (0, n), (0, 3 * i)] [] (G, X) = jN (d + 1) 2 92 [(10, 137), (20, 33), (0, n), (0, 0)] [] (G, X)) ∧ (¬ (∀ j, i ≤ j → 3 * j < n → ok3 P f j) → jN (d + 1) 2 28 [(10, 137), (20, 33), (0, n), (0, 3 * i)] [] (G, X) = some (-1, (G, X))) := by
  have at_ : ∀ k, 0 ≤ k → k < n → jD (d + 1) 144 [(20, 33), (0, k)] (G, X) = some (f k, (G, X)) := fun k k0 k1 => by
    rw [s_at d 33 34 n k (gr_33_0 hG) hT.1 (by omega) (by omega) (by rw [gl_34 hG]; omega), if_pos ⟨k0, k1⟩, hT.2 k k0 k1]
  intro m
  induction m with
  | zero =>
    intro i h0 h1
    refine ⟨fun _ => by rw [h_X0_readRows_28, if_neg (by omega)], fun q => absurd (fun j j0 j1 => by omega) q⟩
  | succ m ih =>
    intro i h0 h1
    have step : jN (d + 1) 2 28 [(10, 137), (20, 33), (0, n), (0, 3 * i)] [] (G, X) = if f (3 * i) < pC P then (if f (3 * i + 1) < pR P then (if pK P < f (3 * i + 2) then some (-1, (G, X)) else jN (d + 1) 2 28 [(10, 137), (20, 33), (0, n), (0, 3 * (i + 1))] [] (G, X)) else some (-1, (G, X))) else some (-1, (G, X)) := by
      rw [h_X0_readRows_28, if_pos (by omega), at_ (3 * i) (by omega) (by omega)]
      simp only [Option.bind_some, Int.reduceLE, reduceIte]
      rw [gr_137_0 hG, (cPlan_at hP).2.2.1, jadd_id (by omega) (by omega), at_ (3 * i + 1) (by omega) (by omega)]
      simp only [Option.bind_some, Int.reduceLE, reduceIte]
      rw [gr_137_0 hG, (cPlan_at hP).2.2.2.2.1, jadd_id (by omega) (by omega), at_ (3 * i + 2) (by omega) (by omega)]
      simp only [Option.bind_some, Int.reduceLE, reduceIte]
      rw [gr_137_0 hG, (cPlan_at hP).2.2.2.2.2.1, jadd_id (by omega) (by omega), show 3 * i + 3 = 3 * (i + 1) by omega]
      simp only [Int.reduceLE, reduceIte]
    rw [step]
    by_cases q : ok3 P f i
    · rw [if_pos q.1, if_pos q.2.1, if_neg (by have := q.2.2; omega)]
      have := ih (i + 1) (by omega) (by omega)
      refine ⟨fun a => this.1 (fun j j0 j1 => a j (by omega) j1), fun a => this.2 (fun b => a (fun j j0 j1 => ?_))⟩
      by_cases w : j = i
      · rw [w]; exact q
      · exact b j (by omega) j1
    · refine ⟨fun a => absurd (a i (by omega) (by omega)) q, fun _ => ?_⟩
      by_cases q1 : f (3 * i) < pC P
      · by_cases q2 : f (3 * i + 1) < pR P
        · rw [if_pos q1, if_pos q2, if_pos]
          refine Classical.byContradiction fun w => q ⟨q1, q2, by omega⟩
        · rw [if_pos q1, if_neg q2]
      · rw [if_neg q1]
theorem s_bo_92 (d : Nat) {G : jG} {f : Int → Int} {n N : Int} (hG : GG G) (hN : n = 3 * N) (h0 : 0 ≤ n) (hn : n ≤ 60) : ∀ (m : Nat) (X : jX) (k : Int), cTa X n f → k + m = n → 0 ≤ k → ∃ X', jN (d + 1) 2 92 [(10, 137), (20, 33), (0, n), (0, k)] [] (G, X) = some (N, (G, X')) ∧ X' 137 3 = N ∧ (∀ i, i < k → X' 138 i = X 138 i) ∧ (∀ i, k ≤ i → i < n → X' 138 i = f i) ∧ (∀ a, a ≠ 137 → a ≠ 138 → X' a = X a) := by
  intro m
  induction m with
  | zero =>
    intro X k hT h1 h2
    refine ⟨_, ?_, jup_same X 137 3 N, fun i hi => by rw [jup_rw _ _ _ _ _ (by omega)], fun i i0 i1 => by omega, fun a a0 a1 => jup_rw _ _ _ _ _ a0⟩
    rw [h_X0_readRows_92, if_neg (by omega), jdiv_id (by omega) (by omega) (by omega), show n / 3 = N by omega, jup_same]
    simp only [Int.reduceLE, reduceIte]
  | succ m ih =>
    intro X k hT h1 h2
    obtain ⟨X', e, a1, a2, a3, a4⟩ := ih (jup X 138 k (f k)) (k + 1) (cTa_fr (jup_rw _ _ _ _ _ (by omega)) (jup_rw _ _ _ _ _ (by omega)) hT) (by omega) (by omega)
    refine ⟨X', ?_, a1, fun i hi => by rw [a2 i (by omega), jup_row _ _ _ _ _ (by omega)], fun i i0 i1 => ?_, fun a b0 b1 => by rw [a4 a b0 b1, jup_rw _ _ _ _ _ b1]⟩
    · rw [h_X0_readRows_92, if_pos (by omega), s_at d 33 34 n k (gr_33_0 hG) hT.1 (by omega) (by omega) (by rw [gl_34 hG]; omega), if_pos (show 0 ≤ k ∧ k < n by omega), hT.2 k h2 (by omega)]
      simp only [Option.bind_some, Int.reduceLE, reduceIte]
      rw [gr_137_1 hG, gl_138 hG, jadd_id (by omega) (by omega)]
      simp only [Int.reduceLE, reduceIte]
      rw [if_pos h2, if_pos (by omega)]
      exact e
    · by_cases q : i = k
      · rw [q, a2 k (by omega), jup_same]
      · exact a3 i (by omega) i1
theorem t_bo_36 (d : Nat) {G : jG} {X : jX} {P : aP} {f : Int → Int} {n N : Int} (hG : GG G) (hP : mPlan X P) (hT : ∀ i, 0 ≤ i → i < n → X 150 i = f i) (hN : n = 3 * N) (hn : n ≤ 60) : ∀ (m : Nat) (i : Int), i + m = N → 0 ≤ i → jN (d + 1) 284 36 [(22, 149), (0, n), (0, 1), (0, 3 * i)] [] (G, X) = jN (d + 1) 284 36 [(22, 149), (0, n), (0, b01 (∀ j, i ≤ j → 3 * j < n → ok3 P f j)), (0, n)] [] (G, X) := by
  have stop : ∀ i, jN (d + 1) 284 36 [(22, 149), (0, n), (0, 0), (0, i)] [] (G, X) = jN (d + 1) 284 36 [(22, 149), (0, n), (0, 0), (0, n)] [] (G, X) := by
    intro i
    rw [h_X12_bores_36, h_X12_bores_36]
    by_cases hi : i < n
    · simp only [if_pos hi, if_neg (show ¬ n < n by omega), reduceIte]
    · simp only [if_neg hi, if_neg (show ¬ n < n by omega), reduceIte]
  intro m
  induction m with
  | zero =>
    intro i h0 h1
    rw [b01_t (fun j j0 j1 => by omega), show 3 * i = n by omega]
  | succ m ih =>
    intro i h0 h1
    have step : jN (d + 1) 284 36 [(22, 149), (0, n), (0, 1), (0, 3 * i)] [] (G, X) = if f (3 * i) < pC P then (if f (3 * i + 1) < pR P then (if pK P < f (3 * i + 2) then jN (d + 1) 284 36 [(22, 149), (0, n), (0, 0), (0, 3 * (i + 1))] [] (G, X) else jN (d + 1) 284 36 [(22, 149), (0, n), (0, 1), (0, 3 * (i + 1))] [] (G, X)) else jN (d + 1) 284 36 [(22, 149), (0, n), (0, 0), (0, 3 * (i + 1))] [] (G, X)) else jN (d + 1) 284 36 [(22, 149), (0, n), (0, 0), (0, 3 * (i + 1))] [] (G, X) := by
      rw [h_X12_bores_36, if_pos (by omega), if_neg (show ¬ (1 : Int) = 0 by omega), gr_149_0 hG, gl_150 hG, t_columns d hG hP, hT (3 * i) (by omega) (by omega)]
      simp only [Option.bind_some, Int.reduceLE, reduceIte]
      rw [gr_149_0 hG, gl_150 hG, t_rowsMany d hG hP]
      simp only [Option.bind_some, Int.reduceLE, reduceIte]
      rw [jadd_id (a := 3 * i) (b := 1) (by omega) (by omega), hT (3 * i + 1) (by omega) (by omega), gr_149_0 hG, gl_150 hG, t_kindMany d hG hP]
      simp only [Option.bind_some, Int.reduceLE, reduceIte]
      rw [jadd_id (a := 3 * i) (b := 2) (by omega) (by omega), hT (3 * i + 2) (by omega) (by omega), jadd_id (a := 3 * i) (b := 3) (by omega) (by omega), show 3 * i + 3 = 3 * (i + 1) by omega]
      rw [if_pos (show 0 ≤ 3 * i by omega), if_pos (show 3 * i < 1600 by omega), if_pos (show 0 ≤ 3 * i + 1 by omega), if_pos (show 3 * i + 1 < 1600 by omega), if_pos (show 0 ≤ 3 * i + 2 by omega), if_pos (show 3 * i + 2 < 1600 by omega)]
    rw [step]
    by_cases q : ok3 P f i
    · rw [if_pos q.1, if_pos q.2.1, if_neg (by have := q.2.2; omega), ih (i + 1) (by omega) (by omega)]
      have : (∀ j, i + 1 ≤ j → 3 * j < n → ok3 P f j) ↔ (∀ j, i ≤ j → 3 * j < n → ok3 P f j) := by
        constructor
        · intro a j j0 j1
          by_cases w : j = i
          · rw [w]; exact q
          · exact a j (by omega) j1
        · intro a j j0 j1; exact a j (by omega) j1
      rw [propext this]
    · rw [b01_f (fun a => q (a i (by omega) (by omega)))]
      by_cases q1 : f (3 * i) < pC P
      · by_cases q2 : f (3 * i + 1) < pR P
        · rw [if_pos q1, if_pos q2, if_pos (Classical.byContradiction fun w => q ⟨q1, q2, by omega⟩), stop]
        · rw [if_pos q1, if_neg q2, stop]
      · rw [if_neg q1, stop]
theorem t_bo_118 (d : Nat) {G : jG} {f : Int → Int} {n N : Int} (hG : GG G) (hN : n = 3 * N) (h0 : 0 ≤ n) (hn : n ≤ 60) : ∀ (m : Nat) (X : jX) (k : Int), (∀ i, 0 ≤ i → i < n → X 150 i = f i) → k + m = n → 0 ≤ k → ∃ X', jN (d + 1) 284 118 [(22, 149), (0, n), (0, 1), (0, k)] [] (G, X) = some (N, (G, X')) ∧ X' 149 81 = N ∧ (∀ i, i < k → X' 202 i = X 202 i) ∧ (∀ i, k ≤ i → i < n → X' 202 i = f i) ∧ (∀ a, a ≠ 149 → a ≠ 202 → X' a = X a) ∧ (∀ j, j ≠ 81 → X' 149 j = X 149 j) := by
  intro m
  induction m with
  | zero =>
    intro X k hT h1 h2
    refine ⟨_, ?_, jup_same X 149 81 N, fun i hi => by rw [jup_rw _ _ _ _ _ (by omega)], fun i i0 i1 => by omega, fun a a0 a1 => jup_rw _ _ _ _ _ a0, fun j hj => jup_row _ _ _ _ _ hj⟩
    rw [h_X12_bores_118, if_neg (by omega), jdiv_id (by omega) (by omega) (by omega), show n / 3 = N by omega, jup_same]
    simp only [Int.reduceLE, reduceIte]
  | succ m ih =>
    intro X k hT h1 h2
    obtain ⟨X', e, a1, a2, a3, a4, a5⟩ := ih (jup X 202 k (f k)) (k + 1) (fun i i0 i1 => by rw [jup_rw _ _ _ _ _ (by omega)]; exact hT i i0 i1) (by omega) (by omega)
    refine ⟨X', ?_, a1, fun i hi => by rw [a2 i (by omega), jup_row _ _ _ _ _ (by omega)], fun i i0 i1 => ?_, fun a b0 b1 => by rw [a4 a b0 b1, jup_rw _ _ _ _ _ b1], fun j hj => by rw [a5 j hj, jup_rw _ _ _ _ _ (by omega)]⟩
    · rw [h_X12_bores_118, if_pos (by omega), gr_149_0 hG, gl_150 hG, gr_149_82 hG, gl_202 hG, hT k h2 (by omega), jadd_id (by omega) (by omega)]
      simp only [Int.reduceLE, reduceIte]
      rw [if_pos h2, if_pos (by omega), if_pos h2, if_pos (by omega)]
      exact e
    · by_cases q : i = k
      · rw [q, a2 k (by omega), jup_same]
      · exact a3 i (by omega) i1
theorem call_bores : okB 172 284 [] := by
  refine ⟨fun A => @ite Int (boO A) (Classical.propDecidable _) (aTn A / 3) (-1), fun A => @ite aA (boO A) (Classical.propDecidable _) (setT (setB A (aTn A / 3) (aTp A)) 0 (aTp A)) (setT (refu A 1) 0 (aTp A)), fun d G X A hG hR hV => ?_, fun d G X A hG hR hV => ?_, fun A hV => ?_⟩
  · dsimp only
    obtain ⟨r1, r2, r3, r4, r5, r6, r7, r8, r9, r10, r11⟩ := id hR
    have hv := hV.1
    have bad : ¬ boO A → jD (d + 59) 2 [(10, 137), (20, 33)] (G, X) = some (-1, (G, X)) := by
      intro hq
      rw [e_X0_readRows, s_length (d + 57) 33 (by omega), r1.1]
      simp only [Option.bind_some, Int.reduceLE, reduceIte]
      rw [gr_137_1 hG, gl_138 hG, jrem_id hv.1]
      simp only [Int.reduceLE, reduceIte]
      by_cases h0 : aTn A = 0
      · rw [if_pos h0]
      · by_cases h1 : 60 < aTn A
        · rw [if_neg h0, if_pos h1]
        · by_cases h2 : aTn A % 3 = 0
          · rw [if_neg h0, if_neg h1, if_pos h2]
            exact (s_bo_28 (d + 57) hG r3 r1 (N := aTn A / 3) (by omega) (by omega) (aTn A / 3).toNat 0 (by omega) (by omega)).2 (fun w => hq ⟨by omega, h2, by omega, w⟩)
          · rw [if_neg h0, if_neg h1, if_neg h2]
    rw [e_X11_bores, gr_0_8 hG, gr_0_0 hG]
    by_cases hq : boO A
    · have h0 := hq.1
      have h1 := hq.2.1
      have h2 := hq.2.2.1
      rw [e_X0_readRows, s_length (d + 57) 33 (by omega), r1.1]
      simp only [Option.bind_some, Int.reduceLE, reduceIte]
      rw [gr_137_1 hG, gl_138 hG, jrem_id hv.1]
      simp only [Int.reduceLE, reduceIte]
      obtain ⟨X1, e1, a1, a2, a3, a4⟩ := s_bo_92 (d + 57) hG (N := aTn A / 3) (by omega) hv.1 h2 (aTn A).toNat X 0 r1 (by omega) (by omega)
      have e0 := (s_bo_28 (d + 57) hG r3 r1 (N := aTn A / 3) (by omega) (by omega) (aTn A / 3).toNat 0 (by omega) (by omega)).1 hq.2.2.2
      rw [show (3 : Int) * 0 = 0 by omega, e1] at e0
      rw [if_neg (by omega), if_neg (by omega), if_pos h1, e0]
      simp only [Option.bind_some]
      rw [gr_0_0 hG, s_shorten (d + 58) 33 0 (by omega) (by omega) (by rw [a4 33 (by omega) (by omega), r1.1]; exact hv.1)]
      simp only [Option.bind_some, Int.reduceLE, reduceIte]
      rw [if_neg (by omega), if_pos hq, if_pos hq]
      have z : ∀ a, a ≠ 33 → a ≠ 137 → a ≠ 138 → jup X1 33 1 0 a = X a := fun a b0 b1 b2 => by rw [jup_rw _ _ _ _ _ b0, a4 a b1 b2]
      have z0 := z 0 (by omega) (by omega) (by omega)
      refine ⟨G, _, rfl, hG, ⟨⟨jup_same _ _ _ _, fun i i0 i1 => ?_⟩, by rw [z0]; exact r2, cPlan_fr (fun a h1 h2 => z a (by omega) (by omega) (by omega)) r3, cGr_fr (z _ (by omega) (by omega) (by omega)) (z _ (by omega) (by omega) (by omega)) (z _ (by omega) (by omega) (by omega)) r4, cHi_fr (fun a h1 h2 => z a (by omega) (by omega) (by omega)) r5, cJu_fr (by rw [z0]) (z _ (by omega) (by omega) (by omega)) r6, ⟨?_, fun i i0 i1 => ?_⟩, by rw [z0]; exact r8, cPi_fr (z _ (by omega) (by omega) (by omega)) (z _ (by omega) (by omega) (by omega)) r9, cRf_fr (z _ (by omega) (by omega) (by omega)) r10, cCa_fr (z _ (by omega) (by omega) (by omega)) (z _ (by omega) (by omega) (by omega)) (z _ (by omega) (by omega) (by omega)) r11⟩, fun a ha => z a (by omega) (by omega) (by omega)⟩
      · have : i < 0 := i1
        omega
      · rw [jup_rw _ _ _ _ _ (by omega)]; exact a1
      · have i1' : i < 3 * (aTn A / 3) := i1
        rw [jup_rw _ _ _ _ _ (by omega)]; exact a3 i i0 (by omega)
    · rw [bad hq, if_neg hq, if_neg hq]
      simp only [Option.bind_some, Int.reduceLE, reduceIte]
      rw [gr_0_0 hG, s_shorten (d + 58) 33 0 (by omega) (by omega) (by rw [r1.1]; exact hv.1)]
      simp only [Option.bind_some, Int.reduceLE, reduceIte]
      rw [s_refuse (d + 58) 1 hG (by omega) (by omega)]
      exact ⟨G, _, rfl, hG, RC_refu (A := setT A 0 (aTp A)) 1 (by omega) (by omega) (RC_shrt 0 hv.1 hR), fun a ha => by show jup (jup X 33 1 0) 147 1 _ a = _; rw [jup_rw _ _ _ _ _ (by omega), jup_rw _ _ _ _ _ (by omega)]⟩
  · dsimp only
    obtain ⟨r1, r2, r3, r4, r5, r6, r7, r8, r9, r10, r11⟩ := id hR
    have hv := hV.1
    have hR1 := RM_shrt 0 hv.1 hR
    have y0 : ∀ a, a ≠ 149 → jup X 149 1 0 a = X a := fun a ha => jup_rw _ _ _ _ _ ha
    have hP1 : mPlan (jup X 149 1 0) (aPl A) := mPlan_fr (fun a h1 h2 => y0 a (by omega)) (jup_row _ _ _ _ _ (by omega)) r3
    have hT1 : ∀ i, 0 ≤ i → i < aTn A → jup X 149 1 0 150 i = aTp A i := fun i i0 i1 => by rw [y0 150 (by omega)]; exact r1.2 i i0 i1
    have bad : ∀ i, jN (d + 59) 284 36 [(22, 149), (0, aTn A), (0, 0), (0, i)] [] (G, jup X 149 1 0) = some (-1, (G, jup (jup X 149 1 0) 151 1 (jadd (jup X 149 1 0 151 1) 1))) := by
      intro i
      rw [h_X12_bores_36, gr_149_9 hG, gl_151 hG]
      simp only [Int.reduceLE, Int.reduceLT, reduceIte]
      by_cases q : i < aTn A
      · rw [if_pos q]
      · rw [if_neg q]
    have badE : ∃ X', some ((-1 : Int), (G, jup (jup X 149 1 0) 151 1 (jadd (jup X 149 1 0 151 1) 1))) = some ((-1 : Int), (G, X')) ∧ RM (setT (refu A 1) 0 (aTp A)) X' ∧ ∀ a, a < 149 → X' a = X a := ⟨_, rfl, RM_refu (A := setT A 0 (aTp A)) 1 (by omega) (by omega) hR1, fun a ha => by show jup (jup X 149 1 0) 151 1 _ a = _; rw [jup_rw _ _ _ _ _ (by omega), y0 a (by omega)]⟩
    rw [e_X12_bores, r1.1, jrem_id hv.1, jdiv_id hv.1 (by omega) (by omega)]
    simp only [Int.reduceLE, reduceIte]
    by_cases g0 : 0 < aTn A ∧ aTn A % 3 = 0 ∧ ¬ 20 < aTn A / 3
    · rw [if_pos g0.1, if_pos g0.2.1, if_neg g0.2.2]
      have e0 := t_bo_36 (d + 58) hG hP1 hT1 (N := aTn A / 3) (by omega) (by omega) (aTn A / 3).toNat 0 (by omega) (by omega)
      rw [show (3 : Int) * 0 = 0 by omega] at e0
      rw [e0]
      by_cases hq : boO A
      · rw [b01_t hq.2.2.2, if_pos hq, if_pos hq, h_X12_bores_36, if_neg (show ¬ aTn A < aTn A by omega), if_neg (show ¬ (1 : Int) = 0 by omega)]
        obtain ⟨X1, e1, a1, a2, a3, a4, a5⟩ := t_bo_118 (d + 58) hG (N := aTn A / 3) (by omega) hv.1 hq.2.2.1 (aTn A).toNat (jup X 149 1 0) 0 hT1 (by omega) (by omega)
        rw [e1]
        have w : ∀ a, sM a → a ≠ 202 → X1 a = X a := fun a h1 h2 => by unfold sM at h1; rw [a4 a (by omega) h2, y0 a (by omega)]
        have wj : ∀ j, sN j → j ≠ 1 → j ≠ 81 → X1 149 j = X 149 j := fun j h1 h2 h3 => by rw [a5 j h3, jup_row _ _ _ _ _ h2]
        unfold sM at w
        unfold sN at wj
        refine ⟨X1, rfl, ⟨⟨by rw [a5 1 (by omega)]; exact jup_same _ _ _ _, fun i i0 i1 => ?_⟩, ⟨(wj 7 (by omega) (by omega) (by omega)).trans r2.1, (wj 8 (by omega) (by omega) (by omega)).trans r2.2⟩, mPlan_fr (fun a h1 h2 => w a (by omega) (by omega)) (wj 51 (by omega) (by omega) (by omega)) r3, mGr_fr (w _ (by omega) (by omega)) r4, mHi_fr (wj _ (by omega) (by omega) (by omega)) (wj _ (by omega) (by omega) (by omega)) (w _ (by omega) (by omega)) r5, mJu_fr (fun j h1 h2 => wj j (by omega) (by omega) (by omega)) r6, ⟨a1, fun i i0 i1 => ?_⟩, (wj 80 (by omega) (by omega) (by omega)).trans r8, mPi_fr (wj _ (by omega) (by omega) (by omega)) (w _ (by omega) (by omega)) r9, mRf_fr (w _ (by omega) (by omega)) r10, mWd_fr (fun a h1 => w a (by omega) (by omega)) r11⟩, fun a ha => ?_⟩
        · have : i < 0 := i1
          omega
        · have i1' : i < 3 * (aTn A / 3) := i1
          exact a3 i i0 (by omega)
        · rw [a4 a (by omega) (by omega), y0 a (by omega)]
      · rw [b01_f (fun w => hq ⟨g0.1, g0.2.1, by omega, w⟩), bad, if_neg hq, if_neg hq]
        exact badE
    · have hq : ¬ boO A := fun w => g0 ⟨w.1, w.2.1, by have := w.2.2.1; omega⟩
      rw [bad, if_neg hq, if_neg hq]
      by_cases g1 : 0 < aTn A
      · by_cases g2 : aTn A % 3 = 0
        · rw [if_pos g1, if_pos g2, if_pos (Classical.byContradiction fun w => g0 ⟨g1, g2, w⟩)]; exact badE
        · rw [if_pos g1, if_neg g2]; exact badE
      · rw [if_neg g1]; exact badE
  · dsimp only
    by_cases hq : boO A
    · rw [if_pos hq]
      have h2 := hq.2.2.1
      exact ⟨⟨Int.le_refl 0, by show (0 : Int) ≤ 1600; omega, fun i i0 i1 => by have : i < 0 := i1; omega⟩, hV.2.1, hV.2.2.1, hV.2.2.2.1, ⟨by have := hq.1; show 0 ≤ aTn A / 3; omega, by show aTn A / 3 ≤ 20; omega, fun i i0 i1 => by have i1' : i < 3 * (aTn A / 3) := i1; exact hV.1.2.2 i i0 (by omega)⟩, hV.2.2.2.2.2⟩
    · rw [if_neg hq]
      exact AV_shrt (A := refu A 1) 0 (Int.le_refl 0) hV.1.1 hV
