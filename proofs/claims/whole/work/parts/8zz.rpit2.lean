/-! PIT: the reference's loop over its statements -/
theorem tat_so {T : aT} {κ : aK} (hT : okT T) (hin : inT T κ) : tat T κ.1 = -1 ↔ so T κ = 0 := by
  have h1 : tat T κ.1 = -1 ↔ T.1 ≤ κ.1 := by
    by_cases w : κ.1 < T.1
    · rw [tat_in hin.1 w]
      have := hT.2.2 κ.1 hin.1 w
      omega
    · unfold tat
      rw [if_neg (by omega)]
      omega
  rw [h1, ← srt_0]
  rcases so_b T κ with y | y
  · constructor
    · intro h; omega
    · intro h; omega
  · rw [y.1]
theorem t_pit_n (d : Nat) {G : jG} {T : aT} (hG : GG G) (hT : okT T) (v1 : Int) : ∀ (m : Nat) (X : jX) (P : aP) (κ : aK) (z : Int), mPs X T P κ z → dOk P → 1 ≤ pN P → X 149 50 = pN P → pN P + m = 61 → match rdN T m P κ with
  | .inl e => ∃ Y, jN (d + 12) 214 110 [(22, 149), (0, v1)] [] (G, X) = jN (d + 12) 214 110 [(22, 149), (0, v1)] [] (G, Y) ∧ Y 149 5 = e.1 ∧ Y 149 6 = e.2 ∧ e.1 ≠ 0 ∧ mfZ X Y
  | .inr q => ∃ Y z', jN (d + 12) 214 110 [(22, 149), (0, v1)] [] (G, X) = jN (d + 12) 214 110 [(22, 149), (0, v1)] [] (G, Y) ∧ mPs Y T q.2 q.1 z' ∧ so T q.1 = 0 ∧ Y 149 50 = pN q.2 ∧ mfZ X Y := by
  intro m
  induction m with
  | zero =>
    intro X P κ z h hd h1 h50 hm
    have := (pOk_n hd.1).1
    omega
  | succ m ih =>
    intro X P κ z h hd h1 h50 hm
    obtain ⟨hB, hk, ⟨h5, h6⟩, hD, hz⟩ := id h
    have hin := mK_in hk
    have hn := (pOk_n hd.1).1
    unfold rdN
    by_cases q0 : so T κ = 0
    · rw [if_pos q0, if_neg (show ¬ pN P = 0 by omega)]
      exact ⟨X, z, rfl, h, q0, h50, mfZ_P (mfP_r X)⟩
    · rw [if_neg q0]
      have hl := lk_lk X κ
      have h2 := lk_at X κ
      have m1 := mPs_lk h
      have l50 : lk X κ 149 50 = pN P := by rw [lk_j X κ 50 (by omega)]; exact h50
      have f0 := mfZ_P (mfP_9 (mf9_0 (lk_0 X κ)))
      have run : jN (d + 12) 214 110 [(22, 149), (0, v1)] [] (G, X) = (jD (d + 12) 213 [(22, 149)] (G, lk X κ)).bind fun q => jN (d + 12) 214 110 [(22, 149), (0, v1)] [] (q.2.1, q.2.2) := by
        rw [h_X12_pit_110, if_pos (show (0 : Int) ≤ 149 by omega), if_pos h5, if_pos (show (0 : Int) ≤ 149 by omega), t_look (d + 11) hG hT hB hk]
        simp only [Option.bind_some]
        rw [if_neg (show ¬ tat T κ.1 = -1 from fun y => q0 ((tat_so hT hin).1 y)), if_pos (show (0 : Int) ≤ 149 by omega)]
      rw [run]
      generalize lk X κ = W at *
      by_cases q60 : pN P = 60
      · have n5 := m1.2.2.1.1
        rw [if_pos q60, e_X12_statementTold, l50, if_pos (show (0 : Int) ≤ 149 by omega), if_pos (show (0 : Int) ≤ 149 by omega), if_pos q60, if_pos (show (0 : Int) ≤ 149 by omega), h2, t_fail (d + 10) n5]
        exact ⟨ft W 5 κ.1, rfl, (ft_5 W 5 κ.1).1, (ft_5 W 5 κ.1).2, show (5 : Int) ≠ 0 by omega, mfZ_t f0 (mfZ_P (mfP_9 (ft_9 W 5 κ.1)))⟩
      · rw [if_neg q60]
        have hS := t_statement d hG hT m1 hd h1 hl l50 (by omega)
        have hg := bodS_gd hT hin hd (by omega)
        unfold rd1
        unfold sgn at hS
        cases e : bodS T P κ with
        | inl er =>
          rw [e] at hS hg
          obtain ⟨w, Y, a1, a2, a3, a4, a5⟩ := hS
          rw [a1]
          exact ⟨Y, rfl, a2, a3, a4, mfZ_t f0 a5⟩
        | inr p =>
          rw [e] at hS hg
          obtain ⟨g1, g2, g3, g4⟩ := hg
          have hS' : enS G W T (jD (d + 12) 213 [(22, 149)] (G, W)) (if mk T p.1 59 = true then .inr (nx T p.1, p.2) else .inl (1, p.1.1)) := hS
          show match bnp (if mk T p.1 59 = true then .inr (nx T p.1, incN p.2) else .inl (1, p.1.1)) (fun κ' P' => rdN T m P' κ') with
            | .inl e => _
            | .inr q => _
          by_cases q59 : mk T p.1 59 = true
          · rw [if_pos q59] at hS' ⊢
            obtain ⟨w, Y, z', a1, a2, a3, a4⟩ := hS'
            rw [a1]
            have I := ih Y (incN p.2) (nx T p.1) z' a2 g3 (by show 1 ≤ pN p.2 + 1; omega) (by rw [a3, l50]; show _ = pN p.2 + 1; omega) (by show pN p.2 + 1 + m = 61; omega)
            show match rdN T m (incN p.2) (nx T p.1) with
              | .inl e => _
              | .inr q => _
            have F := mfZ_t f0 a4
            revert I
            cases rdN T m (incN p.2) (nx T p.1) with
            | inl er => rintro ⟨X', b1, b2, b3, b4, b5⟩; exact ⟨X', b1, b2, b3, b4, mfZ_t F b5⟩
            | inr q => rintro ⟨X', z'', b1, b2, b3, b4, b5⟩; exact ⟨X', z'', b1, b2, b3, b4, mfZ_t F b5⟩
          · rw [if_neg q59] at hS' ⊢
            obtain ⟨w, Y, a1, a2, a3, a4, a5⟩ := hS'
            rw [a1]
            exact ⟨Y, rfl, a2, a3, a4, mfZ_t f0 a5⟩
