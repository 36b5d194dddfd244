noncomputable def nxF (A : aA) : Int → Int := ftf (aPl A) (aBn A) (aBr A)
noncomputable def nxL (A : aA) : Int → Int := fun c => alk (nxF A) (shc (aPl A) c)
noncomputable def nxA (A : aA) : Int × Int := if (bsN (nxF A) 15 : Int) = 0 ∨ pCe (aPl A) = 0 then (-1, -1) else nxS (nxL A) (pCe (aPl A) - 1).toNat 1 (0, nxL A 0)
theorem nxA_ok {A : aA} (hV : AV A) : ((bsN (nxF A) 15 : Int) = 0 ∨ pCe (aPl A) = 0) ∧ nxA A = (-1, -1) ∨ ((bsN (nxF A) 15 : Int) ≠ 0 ∧ 0 < pCe (aPl A)) ∧ nxA A = nxS (nxL A) (pCe (aPl A) - 1).toNat 1 (0, nxL A 0) ∧ (nxA A).2 = nxL A (nxA A).1 ∧ 0 ≤ (nxA A).1 ∧ (nxA A).1 < pCe (aPl A) := by
  have hcc := pCe_le hV.2.1
  by_cases q : (bsN (nxF A) 15 : Int) = 0 ∨ pCe (aPl A) = 0
  · refine Or.inl ⟨q, ?_⟩
    unfold nxA
    rw [if_pos q]
  · have e : nxA A = nxS (nxL A) (pCe (aPl A) - 1).toNat 1 (0, nxL A 0) := by unfold nxA; rw [if_neg q]
    have h := nxS_ok (al := nxL A) (fun c => (alk_le _ _).1) (pCe (aPl A) - 1).toNat 1 (0, nxL A 0) (by omega) (Int.le_refl 0) rfl
    have h3 := h.2.2 (by show (0 : Int) < 1; omega)
    refine Or.inr ⟨⟨fun w => q (Or.inl w), by have := fun w => q (Or.inr w); omega⟩, e, ?_⟩
    rw [e]
    exact ⟨h.1, h.2.1, by omega⟩
theorem s_next (d : Nat) {G : jG} {X : jX} {A : aA} (hG : GG G) (hR : RC A X) (hV : AV A) : ∃ X', jD (d + 6) 7 [(10, 137)] (G, X) = some ((nxA A).1, (G, X')) ∧ ∀ a, a ≠ 139 → X' a = X a := by
  obtain ⟨r1, r2, r3, r4, r5, r6, r7, r8, r9, r10, r11⟩ := id hR
  have hO := hV.2.1
  have hb := hV.2.2.2.2.1
  have hcc := pCe_le hO
  have h01 : ∀ c : Int, 0 ≤ c → nxF A c = 0 ∨ nxF A c = 1 := ftf_01 (aPl A) (aBn A) (aBr A)
  have fb : jD (d + 5) 5 [(10, 137)] (G, X) = some ((bsN (nxF A) 15 : Int), (G, X)) := s_fitBits d hG r3 hO r7 hb.1 hb.2.1 hb.2.2
  rw [e_X0_nextCell, fb]
  simp only [Option.bind_some, Int.reduceLE, reduceIte]
  rcases nxA_ok hV with ⟨h, e⟩ | ⟨⟨h1, h2⟩, e, _⟩
  · refine ⟨X, ?_, fun _ _ => rfl⟩
    rw [e, h_X0_nextCell_13 _ _ _ _ _ _ _ (Or.inl rfl), gr_137_0 hG, (cPlan_at r3).2.1]
    simp only [Int.reduceLE, reduceIte]
    by_cases q : 0 < pCe (aPl A)
    · rw [if_pos q, if_pos (by omega)]
    · rw [if_neg q]
  · obtain ⟨X', e', f'⟩ := s_nx_n (d + 1) (f := nxF A) hG hO h01 h1 (pCe (aPl A)).toNat X 0 (-1, 16) (2, -1) (Or.inl rfl) r3 (by omega) (by omega)
    refine ⟨X', ?_, f'⟩
    rw [e]
    refine e'.trans ?_
    obtain ⟨k, hk⟩ : ∃ k, (pCe (aPl A)).toNat = k + 1 := ⟨(pCe (aPl A)).toNat - 1, by omega⟩
    have ha := alk_le (nxF A) (shc (aPl A) 0)
    rw [hk, show (pCe (aPl A) - 1).toNat = k by omega]
    have e3 : nxS (fun c => alk (nxF A) (shc (aPl A) c)) (k + 1) 0 (-1, 16) = nxS (nxL A) k 1 (0, nxL A 0) := by
      show nxS (nxL A) k (0 + 1) (if alk (nxF A) (shc (aPl A) 0) < 16 then (0, nxL A 0) else (-1, 16)) = _
      rw [if_pos (by omega)]
      rfl
    rw [e3]
theorem call_next (a : Int) : okB 174 290 [(0, a)] := by
  refine ⟨fun A => if a = 0 then (nxA A).1 else if a = 1 then (nxA A).2 else -1, fun A => A, fun d G X A hG hR hV => ?_, fun d G X A hG hR hV => ?_, fun A hV => hV⟩
  · dsimp only
    have hO := hV.2.1
    have hb := hV.2.2.2.2.1
    have h01 : ∀ c : Int, 0 ≤ c → nxF A c = 0 ∨ nxF A c = 1 := ftf_01 (aPl A) (aBn A) (aBr A)
    obtain ⟨X1, e1, f1⟩ := s_next (d + 53) hG hR hV
    have hR1 : RC A X1 := RC_same (fun k hk => by unfold sR at hk; exact f1 k (by omega)) hR
    obtain ⟨r1, r2, r3, r4, r5, r6, r7, r8, r9, r10, r11⟩ := id hR1
    rw [e_X11_next, gr_0_8 hG]
    by_cases a0 : a = 0
    · rw [if_pos a0, if_pos a0, e1]
      simp only [Option.bind_some, Int.reduceLE, reduceIte]
      exact ⟨G, X1, rfl, hG, hR1, fun k hk => f1 k (by omega)⟩
    · rw [if_neg a0, if_neg a0]
      by_cases a1 : a = 1
      · rw [if_pos a1, if_pos a1, e1]
        simp only [Option.bind_some, Int.reduceLE, reduceIte]
        rw [e_X0_mostAlike]
        rcases nxA_ok hV with ⟨h, e⟩ | ⟨_, e, h1, h2, h3⟩
        · rw [e, if_pos rfl]
          exact ⟨G, X1, rfl, hG, hR1, fun k hk => f1 k (by omega)⟩
        · have fb : jD (d + 58) 5 [(10, 137)] (G, X1) = some ((bsN (nxF A) 15 : Int), (G, X1)) := s_fitBits (d + 53) hG r3 hO r7 hb.1 hb.2.1 hb.2.2
          rw [if_neg (by omega), fb]
          simp only [Option.bind_some, Int.reduceLE, reduceIte]
          obtain ⟨X2, e2, f2⟩ := s_alike (d + 54) (f := nxF A) hG r3 hO ⟨h2, h3⟩ h01
          rw [e2, h1]
          refine ⟨G, X2, rfl, hG, RC_same (fun k hk => by unfold sR at hk; exact f2 k (by omega)) hR1, fun k hk => by rw [f2 k (by omega), f1 k (by omega)]⟩
      · rw [if_neg a1, if_neg a1]
        exact ⟨G, X, rfl, hG, hR, fun _ _ => rfl⟩
  · dsimp only
    obtain ⟨r1, r2, r3, r4, r5, r6, r7, r8, r9, r10, r11⟩ := id hR
    have hO := hV.2.1
    have hb := hV.2.2.2.2.1
    have hcc := pCe_le hO
    have h01 : ∀ c : Int, 0 ≤ c → nxF A c = 0 ∨ nxF A c = 1 := ftf_01 (aPl A) (aBn A) (aBr A)
    have fb : jD (d + 59) 287 [(22, 149)] (G, X) = some ((bsN (nxF A) 15 : Int), (G, X)) := t_fitting (d + 54) hG r3 hO r7 hb.1 hb.2.1 hb.2.2
    refine ⟨X, ?_, hR, fun _ _ => rfl⟩
    rw [e_X12_next, t_isIn (d + 58)]
    simp only [Option.bind_some]
    by_cases q : 0 ≤ a ∧ a ≤ 1
    · rw [if_pos q, if_neg (show ¬ (1 : Int) = 0 by omega), fb]
      simp only [Option.bind_some, Int.reduceLE, reduceIte]
      rw [h_X12_next_25 _ _ _ _ _ _ _ _ (Or.inl rfl), t_cellMany (d + 57) hG r3 hO]
      simp only [Option.bind_some, Int.reduceLE, reduceIte]
      rcases nxA_ok hV with ⟨h, e⟩ | ⟨⟨h1, h2⟩, e, _⟩
      · rw [e]
        have z : (if a = 0 then some ((-1 : Int), (G, X)) else some (-1, (G, X)) : jR) = some (if a = 0 then (-1 : Int) else if a = 1 then -1 else -1, (G, X)) := by
          by_cases a0 : a = 0
          · rw [if_pos a0, if_pos a0]
          · rw [if_neg a0, if_neg a0, if_pos (show a = 1 by omega)]
        by_cases q : 0 < pCe (aPl A)
        · rw [if_pos q, if_pos (by omega)]; exact z
        · rw [if_neg q]; exact z
      · rw [if_pos h2, if_neg h1, t_alike (d + 55) (f := nxF A) (c := 0) hG r3 hO ⟨Int.le_refl 0, h2⟩ h01]
        simp only [Option.bind_some]
        have t := t_nx_n (d + 55) (f := nxF A) a hG r3 hO h01 h1 (pCe (aPl A) - 1).toNat 1 (0, nxL A 0) (0, nxL A 0) (Or.inr rfl) (by omega) (by omega) (alk_le _ _).1
        rw [jadd_id (by omega) (by omega), show (0 : Int) + 1 = 1 by omega]
        refine t.trans ?_
        rw [e]
        by_cases a0 : a = 0
        · rw [if_pos a0, if_pos a0]; rfl
        · rw [if_neg a0, if_neg a0, if_pos (show a = 1 by omega)]; rfl
    · rw [if_neg q, if_pos rfl, if_neg (by omega), if_neg (by omega)]
