theorem call_burn (c : Int) : okB 168 278 [(0, c)] := by
  refine ⟨fun A => if 0 ≤ c ∧ c < pK (aPl A) ∧ 0 < gSt (aGr A) c then 1 else 0, fun A => if 0 ≤ c ∧ c < pK (aPl A) ∧ 0 < gSt (aGr A) c then setG (setH A (ph (aGr A) (aHi A))) (brn (aPl A) (aGr A) c) else refu A 2, fun d G X A hG hR hV => ?_, fun d G X A hG hR hV => ?_, fun A hV => ?_⟩
  · dsimp only
    obtain ⟨r1, r2, r3, r4, r5, r6, r7, r8, r9, r10, r11⟩ := id hR
    have hO := hV.2.1
    have hgO := hV.2.2.1
    have hn := pOk_n hO
    have hq48 := nwh_le (gCe (aGr A)) 48
    have refs := fun X1 : jX => s_refuse (d + 58) (X := X1) 2 hG (by omega) (by omega)
    rw [e_X11_burn, refs, gr_0_2 hG, gr_0_4 hG, gr_25_1 hG, gl_27 hG, (cPlan_at r3).2.2.2.2.2.1]
    simp only [Option.bind_some, Int.reduceLE, reduceIte]
    by_cases h0 : c < 0
    · have hq : ¬ (0 ≤ c ∧ c < pK (aPl A) ∧ 0 < gSt (aGr A) c) := fun q => by omega
      rw [if_pos h0, if_neg hq, if_neg hq]
      exact ⟨G, _, rfl, hG, RC_refu 2 (by omega) (by omega) hR, fun a ha => jup_rw _ _ _ _ _ (by omega)⟩
    by_cases h1 : c < pK (aPl A)
    · have ek := pOk_k hO c (by omega) h1
      have es := hgO.2.2.2.2.2.2.1 c (by omega) (by omega)
      rw [if_neg h0, if_pos h1, if_pos (by omega), if_pos (by omega), show X 27 c = gSt (aGr A) c from r4.2.2 c (by omega) (by omega)]
      by_cases h2 : 0 < gSt (aGr A) c
      · have hq : 0 ≤ c ∧ c < pK (aPl A) ∧ 0 < gSt (aGr A) c := ⟨by omega, h1, h2⟩
        rw [if_pos h2, if_pos hq, if_pos hq]
        obtain ⟨X3, e3, h3, n9, n10, f3⟩ := s_beginAct (d + 56) hG r4 r5 hV.2.2.2.1.1
        have g3 := cGr_fr (g := 25) (f3 _ (by omega)) (f3 _ (by omega)) (f3 _ (by omega)) r4
        have p3 := cPlan_fr (X' := X3) (fun a h1 h2 => f3 a (by omega)) r3
        have x27 : X3 27 c = gSt (aGr A) c := g3.2.2 c (by omega) (by omega)
        have x25 : X3 25 4 = gRe (aGr A) := g3.1.2.2
        have x4 : X3 4 c = pRe (aPl A) c := (p3.2.2.2.1 c (by omega) h1).1
        have hre := hgO.2.2.2.2.2.1
        have hre0 := hgO.2.2.2.2.1
        have hsm : 0 ≤ sm5 (gSt (aGr A)) := by
          have o7 := hgO.2.2.2.2.2.2.1
          have a0 := o7 0 (by omega) (by omega); have a1 := o7 1 (by omega) (by omega); have a2 := o7 2 (by omega) (by omega); have a3 := o7 3 (by omega) (by omega); have a4 := o7 4 (by omega) (by omega)
          unfold sm5; omega
        rw [e3]
        simp only [Option.bind_some]
        rw [gr_0_4 hG, gr_25_1 hG, gl_27 hG, gr_0_2 hG, gr_1_10 hG, gl_4 hG, x27, jsub_id (by omega) (by omega), jup_rw _ _ _ _ 25 (by omega), jup_rw _ _ _ _ 4 (by omega), x25, x4, jadd_id (by omega) (by omega)]
        simp only [Int.reduceLE, reduceIte]
        rw [if_pos (by omega), if_pos (by omega), if_pos (by omega), if_pos (by omega), if_pos (by omega), if_pos (by omega)]
        refine ⟨G, _, rfl, hG, RC_act (fun a ha => ?_) ⟨⟨?_, ?_, jup_same _ _ _ _⟩, fun i i0 i1 => ?_, fun k k0 k1 => ?_⟩ (cHi_fr (fun a h1 h2 => ?_) h3) ⟨?_, ?_⟩ hR, fun a ha => ?_⟩
        · rw [jup_rw _ _ _ _ _ (by omega), jup_rw _ _ _ _ _ (by omega), f3 a (by omega)]
        · rw [jup_row _ _ _ _ _ (by omega), jup_rw _ _ _ _ _ (by omega)]; exact g3.1.1
        · rw [jup_row _ _ _ _ _ (by omega), jup_rw _ _ _ _ _ (by omega)]; exact g3.1.2.1
        · rw [jup_rw _ _ _ _ _ (by omega), jup_rw _ _ _ _ _ (by omega)]; exact g3.2.1 i i0 i1
        · show _ = if k = c then gSt (aGr A) k - 1 else gSt (aGr A) k
          rw [jup_rw _ _ _ _ _ (by omega)]
          by_cases q : k = c
          · rw [if_pos q, q]; exact jup_same _ _ _ _
          · rw [if_neg q]; exact (jup_row _ _ _ _ _ q).trans (g3.2.2 k k0 k1)
        · rw [jup_rw _ _ _ _ _ (by omega), jup_rw _ _ _ _ _ (by omega)]
        · rw [jup_rw _ _ _ _ _ (by omega), jup_rw _ _ _ _ _ (by omega)]; exact n9
        · rw [jup_rw _ _ _ _ _ (by omega), jup_rw _ _ _ _ _ (by omega)]; exact n10
        · rw [jup_rw _ _ _ _ _ (by omega), jup_rw _ _ _ _ _ (by omega), f3 a (by omega)]
      · have hq : ¬ (0 ≤ c ∧ c < pK (aPl A) ∧ 0 < gSt (aGr A) c) := fun q => h2 q.2.2
        rw [if_neg h2, if_neg hq, if_neg hq]
        exact ⟨G, _, rfl, hG, RC_refu 2 (by omega) (by omega) hR, fun a ha => jup_rw _ _ _ _ _ (by omega)⟩
    · have hq : ¬ (0 ≤ c ∧ c < pK (aPl A) ∧ 0 < gSt (aGr A) c) := fun q => h1 q.2.1
      rw [if_neg h0, if_neg h1, if_neg hq, if_neg hq]
      exact ⟨G, _, rfl, hG, RC_refu 2 (by omega) (by omega) hR, fun a ha => jup_rw _ _ _ _ _ (by omega)⟩
  · dsimp only
    obtain ⟨r1, r2, r3, r4, r5, r6, r7, r8, r9, r10, r11⟩ := id hR
    have hO := hV.2.1
    have hgO := hV.2.2.1
    have hn := pOk_n hO
    have hq48 := nwh_le (gCe (aGr A)) 48
    rw [e_X12_burn, t_isKind (d + 57) c hG r3 hO]
    simp only [Option.bind_some, Int.reduceLE, reduceIte]
    rw [gr_149_9 hG, gl_151 hG]
    simp only [Int.reduceLE, Int.reduceLT, reduceIte]
    by_cases hi : 0 ≤ c ∧ c < pK (aPl A)
    · have ek := pOk_k hO c hi.1 hi.2
      have es := hgO.2.2.2.2.2.2.1 c (by omega) (by omega)
      rw [if_pos hi, if_neg (show ¬ (1 : Int) = 0 by omega), t_tubsOf (d + 58) c hG r4 hi.1 (by omega)]
      simp only [Option.bind_some]
      rw [gr_149_9 hG, gl_151 hG]
      simp only [Int.reduceLE, Int.reduceLT, reduceIte]
      by_cases h2 : gSt (aGr A) c = 0
      · have hq : ¬ (0 ≤ c ∧ c < pK (aPl A) ∧ 0 < gSt (aGr A) c) := fun q => by omega
        rw [if_pos h2, if_neg hq, if_neg hq]
        exact ⟨_, rfl, RM_refu 2 (by omega) (by omega) hR, fun a ha => jup_rw _ _ _ _ _ (by omega)⟩
      · have hq : 0 ≤ c ∧ c < pK (aPl A) ∧ 0 < gSt (aGr A) c := ⟨hi.1, hi.2, by omega⟩
        rw [if_neg h2, if_pos hq, if_pos hq]
        obtain ⟨X3, e3, h3, f3, k3⟩ := t_keeps (d + 58) hG r4 r5 hV.2.2.2.1.1
        have g3 := mGr_fr (f3 190 (by omega) (by omega)) r4
        have x3 : X3 190 (3 + c) = gSt (aGr A) c := by rw [show 3 + c = 0 + 3 + c by omega]; exact g3.2.2 c hi.1 (by omega)
        have x2 : X3 190 2 = gRe (aGr A) := g3.1.2.2
        have hre := hgO.2.2.2.2.2.1
        have hre0 := hgO.2.2.2.2.1
        have hsm : 0 ≤ sm5 (gSt (aGr A)) := by
          have o7 := hgO.2.2.2.2.2.2.1
          have a0 := o7 0 (by omega) (by omega); have a1 := o7 1 (by omega) (by omega); have a2 := o7 2 (by omega) (by omega); have a3 := o7 3 (by omega) (by omega); have a4 := o7 4 (by omega) (by omega)
          unfold sm5; omega
        have p4 : mPlan (jup X3 190 (3 + c) (gSt (aGr A) c - 1)) (aPl A) := mPlan_fr (fun a h1 h2 => by rw [jup_rw _ _ _ _ _ (by omega), f3 a (by omega) (by omega)]) (by rw [jup_rw _ _ _ _ _ (by omega), k3 _ (by omega) (by omega)]) r3
        rw [e3]
        simp only [Option.bind_some]
        rw [gr_149_53 hG, gl_190 hG, jadd_id (a := 3) (by omega) (by omega), x3, jsub_id (by omega) (by omega), t_restOf (d + 58) c hG p4 hO (by omega) hi.2]
        simp only [Option.bind_some, Int.reduceLE, Int.reduceLT, reduceIte]
        rw [gl_190 hG, jup_row _ _ _ _ _ (show (2 : Int) ≠ 3 + c by omega), x2, show rsO (aPl A) c = pRe (aPl A) c by unfold rsO; rw [if_neg (by omega)], jadd_id (by omega) (by omega)]
        simp only [Int.reduceLE, Int.reduceLT, reduceIte]
        rw [if_pos (by omega), if_pos (by omega), if_pos (by omega), if_pos (by omega)]
        refine ⟨_, rfl, RM_act (fun a h1 h2 h3 => ?_) (fun j h1 h2 h3 => ?_) ⟨⟨?_, ?_, jup_same _ _ _ _⟩, fun i i0 i1 => ?_, fun k k0 k1 => ?_⟩ (mHi_fr ?_ ?_ ?_ h3) hR, fun a ha => ?_⟩
        · unfold sM at h1; rw [jup_rw _ _ _ _ _ h2, jup_rw _ _ _ _ _ h2, f3 a (by omega) h3]
        · rw [jup_rw _ _ _ _ _ (by omega), jup_rw _ _ _ _ _ (by omega), k3 j h2 h3]
        · rw [jup_row _ _ _ _ _ (by omega), jup_row _ _ _ _ _ (by omega)]; exact g3.1.1
        · rw [jup_row _ _ _ _ _ (by omega), jup_row _ _ _ _ _ (by omega)]; exact g3.1.2.1
        · rw [jup_row _ _ _ _ _ (by omega), jup_row _ _ _ _ _ (by omega)]; exact g3.2.1 i i0 i1
        · show _ = if k = c then gSt (aGr A) k - 1 else gSt (aGr A) k
          rw [jup_row _ _ _ _ _ (by omega)]
          by_cases q : k = c
          · rw [if_pos q, q, show (0 : Int) + 3 + c = 3 + c by omega, jup_same]
          · rw [if_neg q, jup_row _ _ _ _ _ (by omega)]; exact g3.2.2 k k0 k1
        · rw [jup_rw _ _ _ _ _ (by omega), jup_rw _ _ _ _ _ (by omega)]
        · rw [jup_rw _ _ _ _ _ (by omega), jup_rw _ _ _ _ _ (by omega)]
        · rw [jup_rw _ _ _ _ _ (by omega), jup_rw _ _ _ _ _ (by omega)]
        · rw [jup_rw _ _ _ _ _ (by omega), jup_rw _ _ _ _ _ (by omega), f3 a (by omega) (by omega)]
    · have hq : ¬ (0 ≤ c ∧ c < pK (aPl A) ∧ 0 < gSt (aGr A) c) := fun q => hi ⟨q.1, q.2.1⟩
      rw [if_neg hi, if_pos rfl, if_neg hq, if_neg hq]
      exact ⟨_, rfl, RM_refu 2 (by omega) (by omega) hR, fun a ha => jup_rw _ _ _ _ _ (by omega)⟩
  · dsimp only
    by_cases hq : 0 ≤ c ∧ c < pK (aPl A) ∧ 0 < gSt (aGr A) c
    · rw [if_pos hq]; exact AV_act hV (gOk_brn hV.2.1 hV.2.2.1 hq.1 hq.2.1 hq.2.2)
    · rw [if_neg hq]; exact hV
/-! undo -/
theorem t_undo_n (d : Nat) {G : jG} (hG : GG G) (N : Int) (hN0 : 0 ≤ N) (hN : N < 20) : ∀ (n : Nat) (X : jX) (k : Int), 0 ≤ k → k + n = 56 → X 149 79 = N → ∃ X', jN d 274 21 [(22, 149), (0, k)] [] (G, X) = jN d 274 21 [(22, 149), (0, 56)] [] (G, X') ∧ (∀ a, a ≠ 190 → X' a = X a) ∧ ∀ j, X' 190 j = if k ≤ j ∧ j < 56 then X 201 (56 * N + j) else X 190 j := by
  intro n
  induction n with
  | zero =>
    intro X k h0 h1 h2
    exact ⟨X, by rw [show k = 56 by omega], fun _ _ => rfl, fun j => by rw [if_neg (by omega)]⟩
  | succ n ih =>
    intro X k h0 h1 h2
    obtain ⟨X', e, a1, a2⟩ := ih (jup X 190 k (X 201 (56 * N + k))) (k + 1) (by omega) (by omega) (by rw [jup_rw _ _ _ _ _ (by omega)]; exact h2)
    refine ⟨X', ?_, fun a ha => by rw [a1 a ha, jup_rw _ _ _ _ _ ha], fun j => ?_⟩
    · rw [h_X12_undo_21, gr_149_53 hG, gl_190 hG, gr_149_77 hG, gl_201 hG, h2, jmul_id (by omega) (by omega), jadd_id (a := 56 * N) (by omega) (by omega), jadd_id (a := k) (by omega) (by omega), if_pos (by omega)]
      simp only [Int.reduceLE, reduceIte]
      rw [if_pos (by omega), if_pos (by omega), if_pos h0, if_pos (by omega)]
      exact e
    · rw [a2 j, jup_rw X 190 k (X 201 (56 * N + k)) 201 (by omega)]
      by_cases q : j = k
      · rw [if_neg (by omega), if_pos (by omega), q, jup_same]
      · rw [jup_row _ _ _ _ _ q]
        by_cases q2 : k + 1 ≤ j ∧ j < 56
        · rw [if_pos q2, if_pos (by omega)]
        · rw [if_neg q2, if_neg (by omega)]
theorem call_undo : okB 170 274 [] := by
  refine ⟨fun A => match aHi A with | [] => 0 | _ :: _ => 1, fun A => match aHi A with | [] => refu A 4 | g :: h => setG (setH A h) g, fun d G X A hG hR hV => ?_, fun d G X A hG hR hV => ?_, fun A hV => ?_⟩
  · dsimp only
    obtain ⟨r1, r2, r3, r4, r5, r6, r7, r8, r9, r10, r11⟩ := id hR
    obtain ⟨a1, a2, a3, a4⟩ := id r5
    have hl := hV.2.2.2.1.1
    rw [e_X11_undo, gr_0_6 hG, gr_0_4 hG, e_X2_giveBack]
    cases hh : aHi A with
    | nil =>
      rw [hh] at a1
      have a1 : X 42 2 = 0 := a1
      rw [a1]
      simp only [Option.bind_some, Int.reduceLE, reduceIte]
      rw [s_refuse (d + 58) 4 hG (by omega) (by omega)]
      exact ⟨G, _, rfl, hG, RC_refu 4 (by omega) (by omega) hR, fun a ha => jup_rw _ _ _ _ _ (by omega)⟩
    | cons g h =>
      rw [hh] at a1 a4 hl
      simp only [List.length_cons] at a1 hl
      have hg0 := a4 0 (by simp)
      rw [gr_42_0 hG, gl_43 hG, jsub_id (by omega) (by omega), jup_row _ _ _ _ _ (show (1 : Int) ≠ 2 by omega), jup_same, jadd_id (by omega) (by omega), jrem_id (by omega)]
      have q0 := Int.emod_nonneg (X 42 1 + (X 42 2 - 1)) (b := 20) (by omega)
      have q1 := Int.emod_lt_of_pos (X 42 1 + (X 42 2 - 1)) (b := 20) (by omega)
      obtain ⟨X1, e1, c1, f1⟩ := s_copyFrom (d + 57) (X := jup X 42 2 (X 42 2 - 1)) 25 _ ⟨gr_25_0 hG, gr_25_1 hG, gl_26 hG, gl_27 hG, by omega⟩ (kept_g hG q0 q1) (by omega)
      rw [kept_r hG q0 q1]
      simp only [Int.reduceLE, reduceIte]
      rw [if_neg (show ¬ X 42 2 = 0 by omega), if_pos q0, if_pos q1, e1]
      simp only [Option.bind_some, Int.reduceLE, Int.reduceEq, reduceIte]
      rw [gr_0_7 hG, e_X8_forget]
      have f2 : ∀ a, a ≠ 104 → ¬ (25 ≤ a ∧ a ≤ 27) → jup (jup X1 104 9 (-1)) 104 10 (-1) a = jup X 42 2 (X 42 2 - 1) a := fun a h1 h2 => by rw [jup_rw _ _ _ _ _ h1, jup_rw _ _ _ _ _ h1, f1 a (by omega) (by omega) (by omega)]
      have hγ : cGr X1 25 g := by
        refine c1 g ?_
        have := hg0
        simp only [List.length_cons] at this
        rw [show X 42 1 + (((h.length + 1 : Nat) : Int) - 1 - ((0 : Nat) : Int)) = X 42 1 + (X 42 2 - 1) by omega] at this
        exact cGr_fr (jup_rw _ _ _ _ _ (by omega)) (jup_rw _ _ _ _ _ (by omega)) (jup_rw _ _ _ _ _ (by omega)) this
      refine ⟨G, jup (jup X1 104 9 (-1)) 104 10 (-1), rfl, hG, RC_act (fun a ha => by rw [f2 a (by omega) (by omega), jup_rw _ _ _ _ _ (by omega)]) (cGr_fr (by rw [jup_rw _ _ _ _ _ (by omega), jup_rw _ _ _ _ _ (by omega)]) (by rw [jup_rw _ _ _ _ _ (by omega), jup_rw _ _ _ _ _ (by omega)]) (by rw [jup_rw _ _ _ _ _ (by omega), jup_rw _ _ _ _ _ (by omega)]) hγ) ?_ ⟨by rw [jup_row _ _ _ _ _ (by omega), jup_same], jup_same _ _ _ _⟩ hR, fun a ha => by rw [f2 a (by omega) (by omega), jup_rw _ _ _ _ _ (by omega)]⟩
      have e42 := f2 42 (by omega) (by omega)
      refine ⟨by rw [e42, jup_same]; omega, by rw [e42, jup_row _ _ _ _ _ (by omega)]; exact a2, by rw [e42, jup_row _ _ _ _ _ (by omega)]; exact a3, fun j hj => ?_⟩
      rw [e42, jup_row _ _ _ _ _ (show (1 : Int) ≠ 2 by omega)]
      have hgj := a4 (j + 1) (by simp; omega)
      simp only [List.length_cons, List.getD_cons_succ] at hgj
      rw [show X 42 1 + (((h.length + 1 : Nat) : Int) - 1 - ((j + 1 : Nat) : Int)) = X 42 1 + ((h.length : Int) - 1 - (j : Int)) by omega] at hgj
      have w0 := Int.emod_nonneg (X 42 1 + ((h.length : Int) - 1 - (j : Int))) (b := 20) (by omega)
      have w1 := Int.emod_lt_of_pos (X 42 1 + ((h.length : Int) - 1 - (j : Int))) (b := 20) (by omega)
      exact cGr_fr (by rw [f2 _ (by omega) (by omega), jup_rw _ _ _ _ _ (by omega)]) (by rw [f2 _ (by omega) (by omega), jup_rw _ _ _ _ _ (by omega)]) (by rw [f2 _ (by omega) (by omega), jup_rw _ _ _ _ _ (by omega)]) hgj
  · dsimp only
    obtain ⟨r1, r2, r3, r4, r5, r6, r7, r8, r9, r10, r11⟩ := id hR
    obtain ⟨a1, a2, a3, a4⟩ := id r5
    have hl := hV.2.2.2.1.1
    rw [e_X12_undo, gr_149_9 hG, gl_151 hG]
    simp only [Int.reduceLE, Int.reduceLT, reduceIte]
    cases hh : aHi A with
    | nil =>
      rw [hh] at a1
      have a1 : X 149 78 = 0 := a1
      rw [if_pos a1]
      exact ⟨_, rfl, RM_refu 4 (by omega) (by omega) hR, fun a ha => jup_rw _ _ _ _ _ (by omega)⟩
    | cons g h =>
      rw [hh] at a1 a4 hl
      simp only [List.length_cons] at a1 hl
      have hg0 := a4 0 (by simp)
      obtain ⟨X1, e1, f1, c1⟩ := t_undo_n (d + 59) hG (X 149 79) a2 a3 56 X 0 (by omega) (by omega) rfl
      have x149 : X1 149 = X 149 := f1 149 (by omega)
      rw [if_neg (by omega), e1, h_X12_undo_21, if_neg (by omega), x149, jup_row _ _ _ _ _ (show (78 : Int) ≠ 79 by omega), x149, jadd_id (by omega) (by omega), jsub_id (a := X 149 79 + 20) (by omega) (by omega), jrem_id (by omega), jsub_id (by omega) (by omega)]
      simp only [Int.reduceLE, reduceIte]
      have e190 : ∀ j, 0 ≤ j → j < 56 → X1 190 j = X 201 (56 * X 149 79 + j) := fun j j0 j1 => by rw [c1 j, if_pos ⟨j0, j1⟩]
      rw [show ((X 149 79 - ((0 : Nat) : Int)) % 20) = X 149 79 by omega] at hg0
      have hγ : mGr X1 190 0 g := by
        refine ⟨⟨?_, ?_, ?_⟩, fun i i0 i1 => ?_, fun k k0 k1 => ?_⟩
        · rw [e190 0 (by omega) (by omega), Int.add_zero]; exact hg0.1.1
        · rw [e190 (0 + 1) (by omega) (by omega)]; exact hg0.1.2.1
        · rw [e190 (0 + 2) (by omega) (by omega)]; exact hg0.1.2.2
        · rw [e190 _ (by omega) (by omega), show 56 * X 149 79 + (0 + 8 + i) = 56 * X 149 79 + 8 + i by omega]; exact hg0.2.1 i i0 i1
        · rw [e190 _ (by omega) (by omega), show 56 * X 149 79 + (0 + 3 + k) = 56 * X 149 79 + 3 + k by omega]; exact hg0.2.2 k k0 k1
      refine ⟨_, rfl, RM_act (fun a h1 h2 h3 => ?_) (fun j h1 h2 h3 => ?_) (mGr_fr ?_ hγ) ⟨?_, ?_, ?_, fun j hj => ?_⟩ hR, fun a ha => ?_⟩
      · unfold sM at h1; rw [jup_rw _ _ _ _ _ (by omega), jup_rw _ _ _ _ _ (by omega), f1 a h2]
      · rw [jup_row _ _ _ _ _ h2, jup_row _ _ _ _ _ h3, x149]
      · rw [jup_rw _ _ _ _ _ (by omega), jup_rw _ _ _ _ _ (by omega)]
      · rw [jup_same]; omega
      · rw [jup_row _ _ _ _ _ (by omega), jup_same]; omega
      · rw [jup_row _ _ _ _ _ (by omega), jup_same]; omega
      · rw [jup_row _ _ _ _ _ (show (79 : Int) ≠ 78 by omega), jup_same]
        have hgj := a4 (j + 1) (by simp; omega)
        simp only [List.getD_cons_succ] at hgj
        rw [show ((X 149 79 + 20 - 1) % 20 - (j : Int)) % 20 = (X 149 79 - ((j + 1 : Nat) : Int)) % 20 by omega]
        exact mGr_fr (by rw [jup_rw _ _ _ _ _ (by omega), jup_rw _ _ _ _ _ (by omega), f1 201 (by omega)]) hgj
      · rw [jup_rw _ _ _ _ _ (by omega), jup_rw _ _ _ _ _ (by omega), f1 a (by omega)]
  · dsimp only
    have hv := hV.2.2.2.1
    cases hh : aHi A with
    | nil => exact hV
    | cons g h =>
      rw [hh] at hv
      have hl := hv.1
      simp only [List.length_cons] at hl
      exact ⟨hV.1, hV.2.1, hv.2 g List.mem_cons_self, ⟨by show h.length ≤ 20; omega, fun q hq => hv.2 q (List.mem_cons_of_mem _ hq)⟩, hV.2.2.2.2⟩
