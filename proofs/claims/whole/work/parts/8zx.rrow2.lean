theorem t_rowS (d : Nat) {G : jG} {X : jX} {T : aT} {P : aP} {κ : aK} {z : Int} (hG : GG G) (hT : okT T) (h : mPs X T P (nx T κ) z) (hO : pOk P) (h1 : 1 ≤ pN P) : enM G X T (jD (d + 8) 208 [(22, 149), (0, κ.1)] (G, X)) (rowS T P κ) := by
  have hn := pOk_n hO
  have hcc := pCe_le hO
  obtain ⟨hB, hk, ⟨h5, h6⟩, hD, hz⟩ := id h
  have hin := mK_in hk
  have hT2 := hT.2.1
  rw [e_X12_rowTold, t_full (d + 5) hG h5 1 6 κ.1 (by omega) (by omega), hD.1.2.1]
  unfold rowS
  by_cases q2 : pR P = 6
  · rw [if_pos q2, if_pos (show 6 ≤ pR P by omega)]
    simp only [Option.bind_some, Int.reduceLE, reduceIte]
    rw [if_neg (show ¬ (1 : Int) = 0 by omega)]
    exact enM_ft (Y := X) rfl (by omega) (mfP_r X)
  · rw [if_neg q2, if_neg (show ¬ 6 ≤ pR P by omega)]
    simp only [Option.bind_some, Int.reduceLE, reduceIte]
    rw [t_look (d + 6) hG hT hB hk]
    simp only [Option.bind_some]
    have m1 := mPs_lk h
    have e2 := lk_at X (nx T κ)
    have f1 := mf9_0 (lk_0 X (nx T κ))
    have hk4 : lk X (nx T κ) 149 4 = X 149 4 := lk_j X (nx T κ) 4 (by omega)
    have hkt := fun h => tk_K (X := X) hk h
    generalize hY0 : lk X (nx T κ) = W at *
    obtain ⟨nB, nk, ⟨n5, n6⟩, nD, nz⟩ := id m1
    generalize hκ : nx T κ = κ1 at *
    have e3 : W 149 3 = T.1 := nB.1.1
    have sel : (if tat T κ1.1 = -1 then jN (d + 7) 208 31 [(22, 149), (0, κ.1), (2, (-1)), (2, (-1)), (2, (-1)), (2, (-1))] [(0, W 149 3)] (G, W) else jN (d + 7) 208 31 [(22, 149), (0, κ.1), (2, (-1)), (2, (-1)), (2, (-1)), (2, (-1))] [(0, W 149 2)] (G, W)) = jN (d + 7) 208 52 [(22, 149), (0, κ.1), (0, κ1.1), (0, ((0 : Nat) : Int)), (0, if κ1.2 = true then 0 else 1), (2, (-1))] [] (G, W) := by
      have g : ∀ s, s = κ1.1 → jN (d + 7) 208 31 [(22, 149), (0, κ.1), (2, (-1)), (2, (-1)), (2, (-1)), (2, (-1))] [(0, s)] (G, W) = jN (d + 7) 208 52 [(22, 149), (0, κ.1), (0, κ1.1), (0, ((0 : Nat) : Int)), (0, if κ1.2 = true then 0 else 1), (2, (-1))] [] (G, W) := fun s hs => by
        rw [h_X12_rowTold_31, e2, if_pos (by omega), if_pos (by omega), hs, hk4]
        by_cases y : κ1.2 = true
        · rw [if_pos (hk.2.1.2 y).symm, if_pos y, h_X12_rowTold_50]; rfl
        · rw [if_neg (fun w => y (hk.2.1.1 w.symm)), if_neg y, h_X12_rowTold_50]; rfl
      by_cases y : tat T κ1.1 = -1
      · rw [if_pos y]
        refine g _ ?_
        rw [e3]
        by_cases w : κ1.1 < T.1
        · rw [tat_in hin.1 w] at y
          have := hT.2.2 κ1.1 hin.1 w
          omega
        · have := hin.2; omega
      · rw [if_neg y]; exact g _ e2
    rw [sel]
    have hgg : (if κ1.2 = true then (0 : Int) else 1) = 0 ∨ (if κ1.2 = true then (0 : Int) else 1) = 1 := by split <;> omega
    obtain ⟨Y, g', u', hu', eY, y1, y2, y3, y4, y5, y6, y7⟩ := t_rowN (d + 6) hG hT hO κ.1 κ1.1 hin.1 (by omega) (T.1 - (κ1.1 + ((0 : Nat) : Int))).toNat 0 W (if κ1.2 = true then 0 else 1) (2, -1) rfl (Or.inl rfl) nB (by rw [e2]; omega) (by have := hin.2; omega) (by congr 1; omega) hgg nD.1.1 nD.1.2.1 nD.1.2.2.1
    rw [eY]
    have yB : mB Y T := by
      obtain ⟨⟨a1, a2⟩, a3⟩ := nB
      exact ⟨⟨by rw [y2 3 (by omega)]; exact a1, fun i i0 i1 => by rw [y1 150 (by omega) (by omega)]; exact a2 i i0 i1⟩, mWd_fr (fun x hx => y1 x (by omega) (by omega)) a3⟩
    have FY : mfP W Y := ⟨fun k a b _ _ => y1 k b (by omega), fun k j a b c => by
      by_cases e : k = 184
      · have e' : hiL k = 48 := by rw [e]; rfl
        rw [e, y4 j (by omega)]
      · rw [y1 k (by omega) e], fun j hj => by unfold sP at hj; exact y2 j hj.1⟩
    have F0 : mfP X Y := mfP_t (mfP_9 f1) FY
    have y5' : Y 149 5 = 0 := by rw [y2 5 (by omega)]; exact n5
    have c0 : Y 181 0 = pC P := by rw [y1 181 (by omega) (by omega)]; exact nD.1.1
    have fail : ∀ v4 : Int, enM G X T (jN (d + 7) 208 211 [(22, 149), (0, κ.1), (0, κ1.1), (0, rn bL T κ1.1 - κ1.1), (0, v4), u'] [] (G, Y)) (.inl (1, κ1.1)) := fun v4 => by
      rw [h_X12_rowTold_211 _ _ _ _ _ _ _ hu', t_fail (d + 6) (by rw [jup_row _ _ _ _ _ (by omega)]; exact y5')]
      simp only [Option.bind_some, Int.reduceLE, reduceIte]
      exact enM_ft (Y := jup Y 149 2 κ1.1) rfl (by omega) (mfP_t F0 (mfP_9 (mf9_u (Or.inl rfl))))
    have hs := so_b T κ1
    have htE : srt T κ1.1 = 1 → tE T κ1.1 = rn bL T κ1.1 := fun h => by unfold tE; rw [if_pos h]
    have hE0 : srt T κ1.1 ≠ 1 → rn bL T κ1.1 = κ1.1 := fun h => rn_neg (fun y => h (srt_1.2 y))
    have hge := rn_ge bL T κ1.1
    have hpC : 3 ≤ pC P := by omega
    rw [h_X12_rowTold_196 _ _ _ _ _ _ _ hu']
    by_cases g0 : g' = 0
    · rw [if_pos g0, if_neg ?_]
      · exact fail g'
      · rintro ⟨s1, s2, s3⟩
        have hsr : srt T κ1.1 = 1 := by rcases hs with y | y <;> omega
        have hk2 : ¬ κ1.2 = true := by
          rcases hs with y | y
          · omega
          · intro z; have := y.2 z; omega
        rw [htE hsr] at s2
        have : g' = 1 := y6.2 ⟨if_neg hk2, fun j _ hj => ⟨by omega, s3 j (by omega) (by omega)⟩⟩
        omega
    · have g1 : g' = 1 := y5.resolve_left g0
      obtain ⟨a1, a2⟩ := y6.1 g1
      have hk2 : ¬ κ1.2 = true := fun y => by rw [if_pos y] at a1; omega
      rw [if_neg g0, gr_149_40 hG, gl_181 hG, c0]
      simp only [Int.reduceLE, Int.reduceLT, reduceIte]
      by_cases q3 : rn bL T κ1.1 - κ1.1 = pC P
      · have hsr : srt T κ1.1 = 1 := by
          by_cases y : srt T κ1.1 = 1
          · exact y
          · have := hE0 y; omega
        have hso : so T κ1 = 1 := by
          rcases hs with y | y
          · exact absurd y.2.1 hk2
          · rw [y.1]; exact hsr
        rw [if_pos q3, if_pos (show so T κ1 = 1 ∧ tE T κ1.1 - κ1.1 = pC P ∧ (∀ j : Nat, j < 8 → (j : Int) < pC P → ltr T P κ1.1 j ≠ -2) from ⟨hso, by rw [htE hsr]; exact q3, fun j _ hj => (a2 j (by omega) (by omega)).2⟩), y3, jup_rw _ 149 _ _ 181 (by omega), y1 181 (by omega) (by omega), nD.1.2.1, jadd_id (by omega) (by omega)]
        generalize hZ : jup (jup Y 149 4 (rn bL T κ1.1)) 181 1 (pR P + 1) = Z
        have zk : ∀ k, k ≠ 149 → k ≠ 181 → Z k = Y k := fun k a b => by rw [← hZ, jup_rw _ _ _ _ _ b, jup_rw _ _ _ _ _ a]
        have z149 : ∀ j, j ≠ 4 → Z 149 j = Y 149 j := fun j hj => by rw [← hZ, jup_rw _ _ _ _ _ (by omega), jup_row _ _ _ _ _ hj]
        have z1494 : Z 149 4 = rn bL T κ1.1 := by rw [← hZ, jup_rw _ _ _ _ _ (by omega), jup_same]
        have z181 : ∀ j, Z 181 j = if j = 1 then pR P + 1 else Y 181 j := fun j => by
          rw [← hZ]
          by_cases q : j = 1
          · rw [if_pos q, q, jup_same]
          · rw [if_neg q, jup_row _ _ _ _ _ q, jup_rw _ _ _ _ _ (by omega)]
        have FZ : mfP Y Z := by
          rw [← hZ]
          exact mfP_t (mfP_9 (mf9_u (by omega))) (mfP_w (by omega) (show (1 : Int) < 6 by omega))
        have y181 : Y 181 = W 181 := y1 181 (by omega) (by omega)
        obtain ⟨b1, b2, b3, b4, b5, b6, b7⟩ := nD
        have kw : ∀ k, k ≠ 149 → k ≠ 181 → k ≠ 184 → Z k = W k := fun k a b c => by rw [zk k a b, y1 k a c]
        refine ⟨0, Z, z, rfl, ⟨mB_P FZ yB, mK_e ?_ ?_ (hkt (by omega)), ⟨by rw [z149 5 (by omega)]; exact y5', by rw [z149 6 (by omega), y2 6 (by omega)]; exact n6⟩, ?_, ?_⟩, mfP_t F0 FZ⟩
        · unfold tk; rw [if_neg (by omega), jup_row _ _ _ _ _ (by omega), jup_same, htE hsr, z149 2 (by omega)]; exact y3
        · unfold tk; rw [if_neg (by omega), jup_same, htE hsr]; exact z1494
        · have fo : ∀ w o, mDF W z w o → mDF Z z w o := fun w o ho => by unfold mDF at *; rw [kw 187 (by omega) (by omega) (by omega), kw 188 (by omega) (by omega) (by omega), kw 189 (by omega) (by omega) (by omega)]; exact ho
          refine ⟨⟨by rw [z181, if_neg (by omega)]; exact c0, by rw [z181, if_pos rfl]; rfl, by rw [z181, if_neg (by omega), y181]; exact b1.2.2.1, by rw [z181, if_neg (by omega), y181]; exact b1.2.2.2.1, by rw [z181, if_neg (by omega), y181]; exact b1.2.2.2.2.1, by rw [z181, if_neg (by omega), y181]; exact b1.2.2.2.2.2⟩, by rw [kw 186 (by omega) (by omega) (by omega)]; exact b2, ⟨fo _ _ b3.1, fo _ _ b3.2.1, fo _ _ b3.2.2⟩, by rw [kw 182 (by omega) (by omega) (by omega), kw 183 (by omega) (by omega) (by omega)]; exact b4, by rw [kw 182 (by omega) (by omega) (by omega), kw 185 (by omega) (by omega) (by omega)]; exact b5, fun r c r0 r1 cc0 cc1 => ?_, by rw [z149 49 (by omega), y2 49 (by omega)]; exact b7⟩
          have r1' : r < pR P + 1 := r1
          have cc1' : c < pC P := cc1
          show Z 184 (8 * r + c) = if pR P * pC P ≤ r * pC P + c ∧ r * pC P + c < pR P * pC P + pC P then ltr T P κ1.1 (r * pC P + c - pR P * pC P) else pSe P (r * pC P + c)
          rw [zk 184 (by omega) (by omega)]
          by_cases q : r = pR P
          · rw [q, if_pos (by omega), show pR P * pC P + c - pR P * pC P = c by omega]
            have := y7 g1 c.toNat (by omega) (by omega)
            rw [show ((c.toNat : Nat) : Int) = c by omega] at this
            exact this
          · have : r * pC P + pC P ≤ pR P * pC P := by
              have h' : (r + 1) * pC P ≤ pR P * pC P := Int.mul_le_mul_of_nonneg_right (by omega) (by omega)
              rw [Int.add_mul, Int.one_mul] at h'
              exact h'
            rw [if_neg (by omega), y4 _ (by omega)]
            exact b6 r c r0 (by omega) cc0 cc1'
        · have := (nx_in hin).2.2
          show z ≤ (nx T κ1).1
          omega
      · rw [if_neg q3, if_neg (show ¬ (so T κ1 = 1 ∧ tE T κ1.1 - κ1.1 = pC P ∧ (∀ j : Nat, j < 8 → (j : Int) < pC P → ltr T P κ1.1 j ≠ -2)) from fun y => q3 (by rw [← htE (by rcases hs with w | w <;> omega)]; exact y.2.1))]
        exact fail g'
