/-! ACTS: cut, prop, burn, undo -/
theorem call_cut (c : Int) : okB 166 276 [(0, c)] := by
  refine ⟨fun A => @ite Int (inP (aPl A) c ∧ why (aPl A) (gCe (aGr A)) c = 0) (Classical.propDecidable _) (wth (aPl A) (gCe (aGr A)) c) (-1), fun A => @ite aA (inP (aPl A) c ∧ why (aPl A) (gCe (aGr A)) c = 0) (Classical.propDecidable _) (setG (setH A (ph (aGr A) (aHi A))) (cut1 (aPl A) (aGr A) c)) (refu A 2), fun d G X A hG hR hV => ?_, fun d G X A hG hR hV => ?_, fun A hV => ?_⟩
  · dsimp only
    obtain ⟨r1, r2, r3, r4, r5, r6, r7, r8, r9, r10, r11⟩ := id hR
    have hO := hV.2.1
    have hgO := hV.2.2.1
    have hm := mi_0 hG
    have hcc := pCe_le hO
    obtain ⟨X1, e1, rc1, f1⟩ := s_look (d + 55) hG r3 hO hm r4
    have p1 := cPlan_fr (X' := X1) (fun a h1 h2 => f1 a (by omega) (by omega) (by omega)) r3
    have g1 := cGr_fr (g := 25) (f1 _ (by omega) (by omega) (by omega)) (f1 _ (by omega) (by omega) (by omega)) (f1 _ (by omega) (by omega) (by omega)) r4
    obtain ⟨X2, e2, f2⟩ := s_why (d + 54) c hG p1 hO hgO hm g1 rc1
    have f12 : ∀ k, ¬ (37 ≤ k ∧ k ≤ 41) → X2 k = X k := fun k hk => by rw [f2 k (by omega) (by omega), f1 k (by omega) (by omega) (by omega)]
    rw [e_X11_cut, gr_0_5 hG, e1]
    simp only [Option.bind_some, Int.reduceLE, reduceIte]
    rw [gr_0_5 hG, e2]
    simp only [Option.bind_some, Int.reduceLE, reduceIte]
    have hR2 := RC_same (X' := X2) (fun a ha => f12 a (by unfold sR at ha; omega)) hR
    by_cases hq : inP (aPl A) c ∧ why (aPl A) (gCe (aGr A)) c = 0
    · rw [if_pos hq, if_pos hq, if_pos (show 0 ≤ c ∧ c < pCe (aPl A) from hq.1), if_pos hq.2]
      obtain ⟨q1, q2, q3, q4, q5, -⟩ := id hR2
      obtain ⟨X3, e3, h3, n9, n10, f3⟩ := s_beginAct (d + 56) hG q4 q5 hV.2.2.2.1.1
      have p3 := cPlan_fr (X' := X3) (fun a h1 h2 => f3 a (by omega)) q3
      have g3 := cGr_fr (g := 25) (f3 _ (by omega)) (f3 _ (by omega)) (f3 _ (by omega)) q4
      obtain ⟨X4, e4, f4⟩ := s_price (d + 54) c hG p3 hO hgO hq.1 hm g3
      have p4 := cPlan_fr (X' := X4) (fun a h1 h2 => f4 a (by omega) (by omega)) p3
      have g4 := cGr_fr (g := 25) (f4 _ (by omega) (by omega)) (f4 _ (by omega) (by omega)) (f4 _ (by omega) (by omega)) g3
      have hw := wth_le (γ := aGr A) hO hq.1
      obtain ⟨X5, e5, g5, f5⟩ := s_dig (d + 56) c _ hG p4 hO hgO hq.1 hm g4 hw.1 hw.2
      rw [e3]
      simp only [Option.bind_some]
      rw [gr_0_5 hG, e4]
      simp only [Option.bind_some, Int.reduceLE, reduceIte]
      rw [gr_0_5 hG, e5]
      simp only [Option.bind_some, Int.reduceLE, reduceIte]
      have f35 : ∀ k, ¬ (25 ≤ k ∧ k ≤ 27) ∧ ¬ (37 ≤ k ∧ k ≤ 41) → X5 k = X3 k := fun k hk => by rw [f5 k (by omega) (by omega) (by omega), f4 k (by omega) (by omega)]
      refine ⟨G, X5, rfl, hG, RC_act (fun a ha => by rw [f35 a (by omega), f3 a (by omega)]) g5 (cHi_fr (fun a h1 h2 => f35 a (by omega)) h3) ⟨by rw [f35 104 (by omega)]; exact n9, by rw [f35 104 (by omega)]; exact n10⟩ hR2, fun a ha => by rw [f35 a (by omega), f3 a (by omega), f12 a (by omega)]⟩
    · rw [if_neg hq, if_neg hq]
      have hne : ¬ (if 0 ≤ c ∧ c < pCe (aPl A) then why (aPl A) (gCe (aGr A)) c else 1) = 0 := by
        split
        · rename_i q; exact fun h => hq ⟨q, h⟩
        · omega
      rw [if_neg hne, s_refuse (d + 58) 2 hG (by omega) (by omega)]
      exact ⟨G, _, rfl, hG, RC_refu 2 (by omega) (by omega) hR2, fun a ha => by show jup X2 147 2 _ a = _; rw [jup_rw _ _ _ _ _ (by omega), f12 a (by omega)]⟩
  · dsimp only
    obtain ⟨r1, r2, r3, r4, r5, r6, r7, r8, r9, r10, r11⟩ := id hR
    have hO := hV.2.1
    have hgO := hV.2.2.1
    have hcc := pCe_le hO
    have refs : ∀ X1 : jX, jD (d + 59) 275 [(22, 149)] (G, X1) = some (-1, (G, jup X1 151 2 (jadd (X1 151 2) 1))) := fun X1 => by
      rw [e_X12_refuses, gr_149_9 hG, gl_151 hG]; rfl
    rw [e_X12_cut, t_isCell (d + 56) c hG r3 hO]
    simp only [Option.bind_some, Int.reduceLE, reduceIte]
    by_cases hi : 0 ≤ c ∧ c < pCe (aPl A)
    · obtain ⟨X1, e1, rc1, f1⟩ := t_laysReached (d + 55) hG r3 hO r4
      have m1 := mfR_L f1
      obtain ⟨X2, e2, f2⟩ := t_whyNot (d + 53) c hG (mfR_P m1 r3) hO hi (mfR_G m1 (by omega) (by omega) (by omega) r4) rc1
      have m2 : mfR X X2 := mfR_t m1 (mfR_E f2)
      have hR2 := RM_same (X' := X2) (fun a ha => m2.1 a (by unfold sM at ha; omega) (by unfold sM at ha; omega) (by unfold sM at ha; omega)) (fun j hj => m2.2 j (by unfold sN at hj; omega) (by unfold sN at hj; omega)) hR
      rw [if_pos hi, if_neg (show ¬ (1 : Int) = 0 by omega), e1]
      simp only [Option.bind_some]
      rw [e2]
      simp only [Option.bind_some]
      by_cases hw0 : why (aPl A) (gCe (aGr A)) c = 0
      · have hq : inP (aPl A) c ∧ why (aPl A) (gCe (aGr A)) c = 0 := ⟨hi, hw0⟩
        rw [if_pos hq, if_pos hq, if_pos hw0]
        obtain ⟨q1, q2, q3, q4, q5, -⟩ := id hR2
        obtain ⟨X3, e3, h3, f3, k3⟩ := t_keeps (d + 58) hG q4 q5 hV.2.2.2.1.1
        have hw := wth_le (γ := aGr A) hO hi
        obtain ⟨X4, e4, g4, f4, -⟩ := t_isCut (d + 53) c hG (mPlan_fr (fun a h1 h2 => f3 a (by omega) (by omega)) (k3 _ (by omega) (by omega)) q3) hO hgO hi (mGr_fr (f3 _ (by omega) (by omega)) q4) hw.1 hw.2
        rw [e3]
        simp only [Option.bind_some]
        rw [e4]
        simp only [Option.bind_some]
        refine ⟨X4, rfl, RM_act (fun a h1 h2 h3 => by unfold sM at h1; rw [f4.1 a (by omega) h2 (by omega) (by omega), f3 a (by omega) h3]) (fun j h1 h2 h3 => by unfold sN at h1; rw [f4.2 j (by omega) (by omega) (by omega), k3 j h2 h3]) g4 (mHi_fr (f4.2 _ (by omega) (by omega) (by omega)) (f4.2 _ (by omega) (by omega) (by omega)) (f4.1 _ (by omega) (by omega) (by omega) (by omega)) h3) hR2, fun a ha => by rw [f4.1 a (by omega) (by omega) (by omega) (by omega), f3 a (by omega) (by omega), m2.1 a (by omega) (by omega) (by omega)]⟩
      · have hq : ¬ (inP (aPl A) c ∧ why (aPl A) (gCe (aGr A)) c = 0) := fun q => hw0 q.2
        rw [if_neg hq, if_neg hq, if_neg hw0, refs]
        exact ⟨_, rfl, RM_refu 2 (by omega) (by omega) hR2, fun a ha => by show jup X2 151 2 _ a = _; rw [jup_rw _ _ _ _ _ (by omega), m2.1 a (by omega) (by omega) (by omega)]⟩
    · have hq : ¬ (inP (aPl A) c ∧ why (aPl A) (gCe (aGr A)) c = 0) := fun q => hi q.1
      rw [if_neg hq, if_neg hq, if_neg hi, if_pos rfl, refs]
      exact ⟨_, rfl, RM_refu 2 (by omega) (by omega) hR, fun a ha => jup_rw _ _ _ _ _ (by omega)⟩
  · dsimp only
    by_cases hq : inP (aPl A) c ∧ why (aPl A) (gCe (aGr A)) c = 0
    · rw [if_pos hq]
      have hw := wth_le (γ := aGr A) hV.2.1 hq.1
      refine AV_act hV (gOk_dig hV.2.1 hV.2.2.1 hq.1 ?_ hw.1 hw.2).1
      have h := hq.2
      unfold why at h
      by_cases q : gCe (aGr A) c = 0
      · exact q
      · rw [if_pos q] at h; omega
    · rw [if_neg hq]; exact hV
theorem call_prop (c : Int) : okB 167 277 [(0, c)] := by
  refine ⟨fun A => if inP (aPl A) c ∧ gCe (aGr A) c = 1 ∧ 0 < gPr (aGr A) then 1 else 0, fun A => if inP (aPl A) c ∧ gCe (aGr A) c = 1 ∧ 0 < gPr (aGr A) then setG (setH A (ph (aGr A) (aHi A))) (prp (aGr A) c) else refu A 2, fun d G X A hG hR hV => ?_, fun d G X A hG hR hV => ?_, fun A hV => ?_⟩
  · dsimp only
    obtain ⟨r1, r2, r3, r4, r5, r6, r7, r8, r9, r10, r11⟩ := id hR
    have hO := hV.2.1
    have hcc := pCe_le hO
    have hgO := hV.2.2.1
    have refs := fun X1 : jX => s_refuse (d + 58) (X := X1) 2 hG (by omega) (by omega)
    rw [e_X11_prop, gr_0_2 hG, s_isCell (d + 58) c r3]
    simp only [Option.bind_some, Int.reduceLE, reduceIte]
    by_cases hi : 0 ≤ c ∧ c < pCe (aPl A)
    · rw [if_pos hi, if_neg (show ¬ (1 : Int) = 0 by omega), gr_0_4 hG, gr_25_0 hG, gl_26 hG, refs]
      simp only [Option.bind_some, Int.reduceLE, reduceIte]
      rw [if_pos hi.1, if_pos (by omega), show X 26 c = gCe (aGr A) c from r4.2.1 c hi.1 (by omega), show X 25 2 = gPr (aGr A) from r4.1.1]
      by_cases h1 : gCe (aGr A) c = 1
      · by_cases h2 : 0 < gPr (aGr A)
        · have hq : inP (aPl A) c ∧ gCe (aGr A) c = 1 ∧ 0 < gPr (aGr A) := ⟨hi, h1, h2⟩
          rw [if_pos h1, if_pos h2, if_pos hq, if_pos hq]
          obtain ⟨X3, e3, h3, n9, n10, f3⟩ := s_beginAct (d + 56) hG r4 r5 hV.2.2.2.1.1
          have g3 := cGr_fr (g := 25) (f3 _ (by omega)) (f3 _ (by omega)) (f3 _ (by omega)) r4
          have hp1 := hgO.2.1
          rw [e3]
          simp only [Option.bind_some]
          rw [gr_0_4 hG, gr_25_0 hG, gl_26 hG, jup_rw _ _ _ _ 25 (by omega), g3.1.1, jsub_id (by omega) (by omega)]
          simp only [Int.reduceLE, reduceIte]
          rw [if_pos hi.1, if_pos (by omega)]
          refine ⟨G, _, rfl, hG, RC_act (fun a ha => ?_) ⟨⟨jup_same _ _ _ _, ?_, ?_⟩, fun i i0 i1 => ?_, fun k k0 k1 => ?_⟩ (cHi_fr (fun a h1 h2 => ?_) h3) ⟨?_, ?_⟩ hR, fun a ha => ?_⟩
          · rw [jup_rw _ _ _ _ _ (by omega), jup_rw _ _ _ _ _ (by omega), f3 a (by omega)]
          · rw [jup_row _ _ _ _ _ (by omega), jup_rw _ _ _ _ _ (by omega)]; exact g3.1.2.1
          · rw [jup_row _ _ _ _ _ (by omega), jup_rw _ _ _ _ _ (by omega)]; exact g3.1.2.2
          · show _ = if i = c then 2 else gCe (aGr A) i
            rw [jup_rw _ _ _ _ _ (by omega)]
            by_cases q : i = c
            · rw [if_pos q, q]; exact jup_same _ _ _ _
            · rw [if_neg q]; exact (jup_row _ _ _ _ _ q).trans (g3.2.1 i i0 i1)
          · rw [jup_rw _ _ _ _ _ (by omega), jup_rw _ _ _ _ _ (by omega)]; exact g3.2.2 k k0 k1
          · rw [jup_rw _ _ _ _ _ (by omega), jup_rw _ _ _ _ _ (by omega)]
          · rw [jup_rw _ _ _ _ _ (by omega), jup_rw _ _ _ _ _ (by omega)]; exact n9
          · rw [jup_rw _ _ _ _ _ (by omega), jup_rw _ _ _ _ _ (by omega)]; exact n10
          · rw [jup_rw _ _ _ _ _ (by omega), jup_rw _ _ _ _ _ (by omega), f3 a (by omega)]
        · have hq : ¬ (inP (aPl A) c ∧ gCe (aGr A) c = 1 ∧ 0 < gPr (aGr A)) := fun q => h2 q.2.2
          rw [if_pos h1, if_neg h2, if_neg hq, if_neg hq]
          exact ⟨G, _, rfl, hG, RC_refu 2 (by omega) (by omega) hR, fun a ha => jup_rw _ _ _ _ _ (by omega)⟩
      · have hq : ¬ (inP (aPl A) c ∧ gCe (aGr A) c = 1 ∧ 0 < gPr (aGr A)) := fun q => h1 q.2.1
        rw [if_neg h1, if_neg hq, if_neg hq]
        exact ⟨G, _, rfl, hG, RC_refu 2 (by omega) (by omega) hR, fun a ha => jup_rw _ _ _ _ _ (by omega)⟩
    · have hq : ¬ (inP (aPl A) c ∧ gCe (aGr A) c = 1 ∧ 0 < gPr (aGr A)) := fun q => hi q.1
      rw [if_neg hi, if_pos rfl, if_neg hq, if_neg hq, refs]
      exact ⟨G, _, rfl, hG, RC_refu 2 (by omega) (by omega) hR, fun a ha => jup_rw _ _ _ _ _ (by omega)⟩
  · dsimp only
    obtain ⟨r1, r2, r3, r4, r5, r6, r7, r8, r9, r10, r11⟩ := id hR
    have hO := hV.2.1
    have hcc := pCe_le hO
    have hgO := hV.2.2.1
    rw [e_X12_prop, t_isCell (d + 56) c hG r3 hO]
    simp only [Option.bind_some, Int.reduceLE, reduceIte]
    rw [gr_149_9 hG, gl_151 hG]
    simp only [Int.reduceLE, Int.reduceLT, reduceIte]
    by_cases hi : 0 ≤ c ∧ c < pCe (aPl A)
    · rw [if_pos hi, if_neg (show ¬ (1 : Int) = 0 by omega), t_whatIs (d + 58) c hG r4 hi.1 (by omega)]
      simp only [Option.bind_some]
      rw [gr_149_53 hG, gl_190 hG, gr_149_9 hG, gl_151 hG, r4.1.1]
      simp only [Int.reduceLE, Int.reduceLT, reduceIte]
      by_cases h1 : gCe (aGr A) c = 1
      · by_cases h2 : gPr (aGr A) = 0
        · have hq : ¬ (inP (aPl A) c ∧ gCe (aGr A) c = 1 ∧ 0 < gPr (aGr A)) := fun q => by have := q.2.2; omega
          rw [if_pos h1, if_pos h2, if_neg hq, if_neg hq]
          exact ⟨_, rfl, RM_refu 2 (by omega) (by omega) hR, fun a ha => jup_rw _ _ _ _ _ (by omega)⟩
        · have hp0 := hgO.1
          have hq : inP (aPl A) c ∧ gCe (aGr A) c = 1 ∧ 0 < gPr (aGr A) := ⟨hi, h1, by omega⟩
          rw [if_pos h1, if_neg h2, if_pos hq, if_pos hq]
          obtain ⟨X3, e3, h3, f3, k3⟩ := t_keeps (d + 58) hG r4 r5 hV.2.2.2.1.1
          have g3 := mGr_fr (f3 190 (by omega) (by omega)) r4
          have g31 : X3 190 0 = gPr (aGr A) := g3.1.1
          have hp1 := hgO.2.1
          rw [e3]
          simp only [Option.bind_some]
          rw [gr_149_53 hG, gl_190 hG, jadd_id (by omega) (by omega), jup_row _ _ _ _ _ (show (0 : Int) ≠ 8 + c by omega), g31, jsub_id (by omega) (by omega)]
          simp only [Int.reduceLE, Int.reduceLT, reduceIte]
          rw [if_pos (by omega), if_pos (by omega)]
          refine ⟨_, rfl, RM_act (fun a h1 h2 h3 => ?_) (fun j h1 h2 h3 => ?_) ⟨⟨jup_same _ _ _ _, ?_, ?_⟩, fun i i0 i1 => ?_, fun k k0 k1 => ?_⟩ (mHi_fr ?_ ?_ ?_ h3) hR, fun a ha => ?_⟩
          · unfold sM at h1; rw [jup_rw _ _ _ _ _ h2, jup_rw _ _ _ _ _ h2, f3 a (by omega) h3]
          · rw [jup_rw _ _ _ _ _ (by omega), jup_rw _ _ _ _ _ (by omega), k3 j h2 h3]
          · rw [jup_row _ _ _ _ _ (by omega), jup_row _ _ _ _ _ (by omega)]; exact g3.1.2.1
          · rw [jup_row _ _ _ _ _ (by omega), jup_row _ _ _ _ _ (by omega)]; exact g3.1.2.2
          · show _ = if i = c then 2 else gCe (aGr A) i
            rw [jup_row _ _ _ _ _ (by omega)]
            by_cases q : i = c
            · rw [if_pos q, q, show (0 : Int) + 8 + c = 8 + c by omega, jup_same]
            · rw [if_neg q, jup_row _ _ _ _ _ (by omega)]; exact g3.2.1 i i0 i1
          · rw [jup_row _ _ _ _ _ (by omega), jup_row _ _ _ _ _ (by omega)]; exact g3.2.2 k k0 k1
          · rw [jup_rw _ _ _ _ _ (by omega), jup_rw _ _ _ _ _ (by omega)]
          · rw [jup_rw _ _ _ _ _ (by omega), jup_rw _ _ _ _ _ (by omega)]
          · rw [jup_rw _ _ _ _ _ (by omega), jup_rw _ _ _ _ _ (by omega)]
          · rw [jup_rw _ _ _ _ _ (by omega), jup_rw _ _ _ _ _ (by omega), f3 a (by omega) (by omega)]
      · have hq : ¬ (inP (aPl A) c ∧ gCe (aGr A) c = 1 ∧ 0 < gPr (aGr A)) := fun q => h1 q.2.1
        rw [if_neg h1, if_neg hq, if_neg hq]
        exact ⟨_, rfl, RM_refu 2 (by omega) (by omega) hR, fun a ha => jup_rw _ _ _ _ _ (by omega)⟩
    · have hq : ¬ (inP (aPl A) c ∧ gCe (aGr A) c = 1 ∧ 0 < gPr (aGr A)) := fun q => hi q.1
      rw [if_neg hi, if_pos rfl, if_neg hq, if_neg hq]
      exact ⟨_, rfl, RM_refu 2 (by omega) (by omega) hR, fun a ha => jup_rw _ _ _ _ _ (by omega)⟩
  · dsimp only
    by_cases hq : inP (aPl A) c ∧ gCe (aGr A) c = 1 ∧ 0 < gPr (aGr A)
    · rw [if_pos hq]; exact AV_act hV (gOk_prp hV.2.1 hV.2.2.1 hq.1 hq.2.1 hq.2.2)
    · rw [if_neg hq]; exact hV
