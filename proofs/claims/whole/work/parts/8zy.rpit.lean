/-! PIT: the reference's statement, and the loop over them -/
def mfZ (X X' : jX) : Prop := (∀ k, ¬ (181 ≤ k ∧ k ≤ 189) → k ≠ 149 → k ≠ 227 → k ≠ 228 → X' k = X k) ∧ (∀ k j, 181 ≤ k → k ≤ 189 → hiL k ≤ j → X' k j = X k j) ∧ ∀ j, sP j → j ≠ 50 → X' 149 j = X 149 j
theorem mfZ_P {X Y : jX} (h : mfP X Y) : mfZ X Y := ⟨h.1, h.2.1, fun j a _ => h.2.2 j a⟩
theorem mfZ_t {X Y Z : jX} (h1 : mfZ X Y) (h2 : mfZ Y Z) : mfZ X Z := ⟨fun k a b c e => by rw [h2.1 k a b c e, h1.1 k a b c e], fun k j a b c => by rw [h2.2.1 k j a b c, h1.2.1 k j a b c], fun j a b => by rw [h2.2.2 j a b, h1.2.2 j a b]⟩
theorem mfZ_50 (X : jX) (v : Int) : mfZ X (jup X 149 50 v) := ⟨fun i _ a _ _ => jup_rw _ _ _ _ _ a, fun i l a _ _ => by rw [jup_rw _ _ _ _ _ (by omega)], fun i _ b => jup_row _ _ _ _ _ b⟩
def enS (G : jG) (X : jX) (T : aT) (L : jR) (R : rp) : Prop := match R with
  | .inl e => ∃ w Y, L = some (w, (G, Y)) ∧ Y 149 5 = e.1 ∧ Y 149 6 = e.2 ∧ e.1 ≠ 0 ∧ mfZ X Y
  | .inr q => ∃ w Y z, L = some (w, (G, Y)) ∧ mPs Y T q.2 q.1 z ∧ Y 149 50 = X 149 50 + 1 ∧ mfZ X Y
theorem mPs_50 {X : jX} {T : aT} {P : aP} {κ : aK} {z v : Int} (h : mPs X T P κ z) : mPs (jup X 149 50 v) T P κ z := by
  have e : ∀ j, j ≠ 50 → jup X 149 50 v 149 j = X 149 j := fun j hj => jup_row _ _ _ _ _ hj
  have e' : ∀ k, k ≠ 149 → jup X 149 50 v k = X k := fun k hk => jup_rw _ _ _ _ _ hk
  obtain ⟨⟨⟨a1, a2⟩, a3⟩, b, c, f, g⟩ := h
  exact ⟨⟨⟨by rw [e 3 (by omega)]; exact a1, by rw [e' 150 (by omega)]; exact a2⟩, mWd_fr (fun x hx => e' x (by omega)) a3⟩, mK_e (e 2 (by omega)) (e 4 (by omega)) b, by rw [e 5 (by omega), e 6 (by omega)]; exact c, mDr_fr (fun k x y => e' k (by omega)) (e 49 (by omega)) f, g⟩
theorem c_end (d : Nat) {G : jG} {X : jX} {T : aT} {L : jR} {R : rp} (hG : GG G) (hT : okT T) (a : Int) (h50 : 0 ≤ X 149 50 ∧ X 149 50 ≤ 60) (h : enM G X T L R) : enS G X T (L.bind fun q => jN (d + 3) 213 233 [(22, 149), (0, a)] [] (q.2.1, q.2.2)) (sgn T R) := by
  have off : ∀ (Y : jX) (e : Int × Int), Y 149 5 = e.1 → Y 149 6 = e.2 → e.1 ≠ 0 → mfZ X Y → enS G X T (jN (d + 3) 213 233 [(22, 149), (0, a)] [] (G, Y)) (.inl e) := fun Y e h1 h2 h3 h4 => by
    rw [h_X12_statementTold_233, f_sign (d + 2) (by rw [h1]; exact h3)]
    simp only [Option.bind_some, Int.reduceLE, reduceIte]
    exact ⟨0, _, rfl, by rw [jup_row _ _ _ _ _ (by omega)]; exact h1, by rw [jup_row _ _ _ _ _ (by omega)]; exact h2, h3, mfZ_t h4 (mfZ_50 _ _)⟩
  cases R with
  | inl e =>
    obtain ⟨w, Y, a1, a2, a3, a4, a5⟩ := h
    rw [a1]
    exact off Y e a2 a3 a4 (mfZ_P a5)
  | inr q =>
    obtain ⟨w, Y, z, a1, a2, a3⟩ := h
    have y50 : Y 149 50 = X 149 50 := a3.2.2 50 (by unfold sP; omega)
    have hin := mK_in a2.2.1
    rw [a1]
    simp only [Option.bind_some]
    rw [h_X12_statementTold_233, t_asksSign d hG hT a2.1 a2.2.1 a2.2.2.1.1 (by omega) (by omega)]
    show enS G X T _ (if mk T q.1 59 = true then .inr (nx T q.1, q.2) else .inl (1, q.1.1))
    by_cases y : mk T q.1 59 = true
    · have h0 : srt T q.1.1 ≠ 0 := by
        have := ((mk_so (T := T) (κ := q.1) (c := 59) (by omega)).1 y).1
        rcases so_b T q.1 with y | y <;> omega
      have m := mPs_tk h0 a2
      have t50 : tk Y T q.1 149 50 = X 149 50 := by rw [tk_5 Y T q.1 50 (by omega) (by omega)]; exact y50
      have ft := mfP_9 (mf9_0 (tk_0 Y T q.1))
      rw [if_pos y, if_pos y]
      simp only [Option.bind_some, Int.reduceLE, reduceIte]
      rw [t50, jadd_id (by omega) (by omega)]
      exact ⟨0, jup (tk Y T q.1) 149 50 (X 149 50 + 1), z, rfl, mPs_50 m, by rw [jup_same], mfZ_t (mfZ_P (mfP_t a3 ft)) (mfZ_50 _ _)⟩
    · rw [if_neg y, if_neg y]
      simp only [Option.bind_some, Int.reduceLE, reduceIte]
      exact ⟨0, jup (fl Y q.1 1 q.1.1) 149 50 _, rfl, by rw [jup_row _ _ _ _ _ (by omega)]; exact (fl_5 Y q.1 1 q.1.1).1, by rw [jup_row _ _ _ _ _ (by omega)]; exact (fl_5 Y q.1 1 q.1.1).2, show (1 : Int) ≠ 0 by omega, mfZ_t (mfZ_P (mfP_t a3 (mfP_9 (mf9_0 (fl_0 Y q.1 1 q.1.1))))) (mfZ_50 _ _)⟩
theorem enS_b {G : jG} {X Y : jX} {T : aT} {L : jR} {R : rp} (hf : mfZ X Y) (h50 : Y 149 50 = X 149 50) (h : enS G Y T L R) : enS G X T L R := by
  cases R with
  | inl e => obtain ⟨w, Z, a1, a2, a3, a4, a5⟩ := h; exact ⟨w, Z, a1, a2, a3, a4, mfZ_t hf a5⟩
  | inr q => obtain ⟨w, Z, z, a1, a2, a3, a4⟩ := h; exact ⟨w, Z, z, a1, a2, by rw [a3, h50], mfZ_t hf a4⟩
theorem t_statement (d : Nat) {G : jG} {X : jX} {T : aT} {P : aP} {κ : aK} {z : Int} (hG : GG G) (hT : okT T) (h : mPs X T P κ z) (hd : dOk P) (h1 : 1 ≤ pN P) (hl : lk X κ = X) (h50 : X 149 50 = pN P) (h60 : pN P < 60) : enS G X T (jD (d + 12) 213 [(22, 149)] (G, X)) (sgn T (bodS T P κ)) := by
  obtain ⟨hB, hk, ⟨h5, h6⟩, hD, hz⟩ := id h
  have hO := hd.1
  have h2 : X 149 2 = κ.1 := by rw [← hl]; exact lk_at X κ
  have tt : ∀ (c : Int) (j : Nat), (c, j) ∈ wcl → jD (d + 11) 195 [(22, 149), (23, c)] (G, X) = if wd T κ = j then some (1, (G, tk X T κ)) else some (0, (G, X)) := fun c j hc => by
    have := t_takes (d + 8) hG hT hB hk h5 c j hc
    rw [hl] at this
    exact this
  have h0 : ∀ w, wd T κ = w → 0 ≤ w → srt T κ.1 ≠ 0 := fun w e w0 => by
    have := wd_so (T := T) (κ := κ) (by omega)
    rcases so_b T κ with y | y <;> omega
  have mt : srt T κ.1 ≠ 0 → mPs (tk X T κ) T P (nx T κ) z := fun h0 => mPs_tk h0 h
  have t50 : tk X T κ 149 50 = X 149 50 := tk_5 X T κ 50 (by omega) (by omega)
  have fr := mfZ_P (mfP_9 (mf9_0 (tk_0 X T κ)))
  have go : ∀ (L : jR) (R : rp), enM G (tk X T κ) T L R → enS G X T (L.bind fun q => jN (d + 11) 213 233 [(22, 149), (0, κ.1)] [] (q.2.1, q.2.2)) (sgn T R) := fun L R hh => enS_b fr t50 (c_end (d + 8) hG hT κ.1 (by rw [t50, h50]; omega) hh)
  have T2 : jD (d + 11) 195 [(22, 149), (23, 154)] (G, X) = if wd T κ = 2 then some (1, (G, tk X T κ)) else some (0, (G, X)) := tt 154 2 (by decide)
  have T5 : jD (d + 11) 195 [(22, 149), (23, 157)] (G, X) = if wd T κ = 5 then some (1, (G, tk X T κ)) else some (0, (G, X)) := tt 157 5 (by decide)
  have T6 : jD (d + 11) 195 [(22, 149), (23, 158)] (G, X) = if wd T κ = 6 then some (1, (G, tk X T κ)) else some (0, (G, X)) := tt 158 6 (by decide)
  have T7 : jD (d + 11) 195 [(22, 149), (23, 159)] (G, X) = if wd T κ = 7 then some (1, (G, tk X T κ)) else some (0, (G, X)) := tt 159 7 (by decide)
  have T8 : jD (d + 11) 195 [(22, 149), (23, 160)] (G, X) = if wd T κ = 8 then some (1, (G, tk X T κ)) else some (0, (G, X)) := tt 160 8 (by decide)
  have T9 : jD (d + 11) 195 [(22, 149), (23, 161)] (G, X) = if wd T κ = 9 then some (1, (G, tk X T κ)) else some (0, (G, X)) := tt 161 9 (by decide)
  have T10 : jD (d + 11) 195 [(22, 149), (23, 162)] (G, X) = if wd T κ = 10 then some (1, (G, tk X T κ)) else some (0, (G, X)) := tt 162 10 (by decide)
  have T11 : jD (d + 11) 195 [(22, 149), (23, 163)] (G, X) = if wd T κ = 11 then some (1, (G, tk X T κ)) else some (0, (G, X)) := tt 163 11 (by decide)
  have T12 : jD (d + 11) 195 [(22, 149), (23, 164)] (G, X) = if wd T κ = 12 then some (1, (G, tk X T κ)) else some (0, (G, X)) := tt 164 12 (by decide)
  have n10 : ¬ (1 : Int) = 0 := by omega
  have hF : ∀ k, pK P ≤ k → k < 5 → pFo P k = 0 := fun k a b => (hd.2 k (by have := pOk_n hO; omega) b).2 a
  have num : ∀ lo hi, srt T κ.1 ≠ 0 → ∃ v Y, jD (d + 11) 199 [(22, 149), (0, lo), (0, hi)] (G, tk X T κ) = some (v, (G, Y)) := fun lo hi hs => by
    have m := mt hs
    have hh := t_number (d + 9) hG hT m.1 m.2.1 m.2.2.1.1 lo hi
    cases e : nmR T lo hi (nx T κ) with
    | inl ee => rw [e] at hh; obtain ⟨w, Y, a1, -⟩ := hh; exact ⟨w, Y, a1⟩
    | inr v => rw [e] at hh; exact ⟨v, _, hh⟩
  have stp : ∀ (w lo hi : Int), 0 ≤ w → w < 3 → srt T κ.1 ≠ 0 → enS G X T ((jD (d + 11) 199 [(22, 149), (0, lo), (0, hi)] (G, tk X T κ)).bind fun q => if w < gL q.2.1 186 then jN (d + 11) 213 233 [(22, 149), (0, κ.1)] [] (q.2.1, jup q.2.2 186 w q.1) else none) (sgn T (setSt T P w lo hi κ)) := fun w lo hi a b hs => by
    obtain ⟨v, Y, eN⟩ := num lo hi hs
    have st := t_setSt (d + 9) hG hT (mt hs) w lo hi a b
    rw [eN] at st
    rw [eN]
    simp only [Option.bind_some]
    rw [gl_186 hG, if_pos (by omega)]
    exact go _ _ st
  unfold bodS
  rw [if_neg (show ¬ pN P = 0 by omega), e_X12_statementTold, h50, if_neg (show ¬ pN P = 60 by omega), h2]
  simp only [Int.reduceLE, reduceIte]
  rw [gr_149_12 hG, T2]
  by_cases w2 : wd T κ = 2
  · rw [if_pos w2, if_pos w2]
    simp only [Option.bind_some]
    rw [if_neg n10]
    exact go _ _ (t_kinS (d + 3) hG hT (mt (h0 2 w2 (by omega))) hO hF)
  · rw [if_neg w2, if_neg w2]
    simp only [Option.bind_some, reduceIte]
    rw [gr_149_15 hG, T5]
    by_cases w5 : wd T κ = 5
    · rw [if_pos w5, if_pos w5]
      simp only [Option.bind_some]
      rw [if_neg n10]
      exact go _ _ (t_rowS (d + 3) hG hT (mt (h0 5 w5 (by omega))) hO h1)
    · rw [if_neg w5, if_neg w5]
      simp only [Option.bind_some, reduceIte]
      rw [gr_149_16 hG, T6]
      by_cases w6 : wd T κ = 6
      · rw [if_pos w6, if_pos w6]
        simp only [Option.bind_some]
        rw [if_neg n10]
        exact go _ _ (t_houS (d + 3) hG hT (mt (h0 6 w6 (by omega))) hO)
      · rw [if_neg w6, if_neg w6]
        simp only [Option.bind_some, reduceIte]
        rw [gr_149_17 hG, T7]
        by_cases w7 : wd T κ = 7
        · rw [if_pos w7, if_pos w7]
          simp only [Option.bind_some]
          rw [if_neg n10]
          exact go _ _ (t_mixS (d + 3) hG hT (mt (h0 7 w7 (by omega))) hd)
        · rw [if_neg w7, if_neg w7]
          simp only [Option.bind_some, reduceIte]
          rw [gr_149_18 hG, T8]
          by_cases w8 : wd T κ = 8
          · rw [if_pos w8, if_pos w8]
            simp only [Option.bind_some]
            rw [if_neg n10]
            exact go _ _ (t_rulS d hG hT (mt (h0 8 w8 (by omega))) 0 (by omega))
          · rw [if_neg w8, if_neg w8]
            simp only [Option.bind_some, reduceIte]
            rw [gr_149_19 hG, T9]
            by_cases w9 : wd T κ = 9
            · rw [if_pos w9, if_pos w9]
              simp only [Option.bind_some]
              rw [if_neg n10]
              exact go _ _ (t_rulS d hG hT (mt (h0 9 w9 (by omega))) 1 (by omega))
            · rw [if_neg w9, if_neg w9]
              simp only [Option.bind_some, reduceIte]
              rw [gr_149_20 hG, T10]
              by_cases w10 : wd T κ = 10
              · rw [if_pos w10, if_pos w10]
                simp only [Option.bind_some]
                rw [if_neg n10]
                exact go _ _ (t_rulS d hG hT (mt (h0 10 w10 (by omega))) 2 (by omega))
              · rw [if_neg w10, if_neg w10]
                simp only [Option.bind_some, reduceIte]
                rw [gr_149_21 hG, T11]
                by_cases w11 : wd T κ = 11
                · rw [if_pos w11, if_pos w11]
                  simp only [Option.bind_some]
                  rw [if_neg n10]
                  simp only [gr_149_45 hG, Int.reduceLE, reduceIte]
                  exact stp 0 1 8 (by omega) (by omega) (h0 11 w11 (by omega))
                · rw [if_neg w11, if_neg w11]
                  simp only [Option.bind_some, reduceIte]
                  rw [gr_149_22 hG, T12]
                  by_cases w12 : wd T κ = 12
                  · rw [if_pos w12, if_pos w12]
                    simp only [Option.bind_some]
                    rw [if_neg n10]
                    simp only [gr_149_45 hG, Int.reduceLE, reduceIte]
                    exact stp 1 0 20 (by omega) (by omega) (h0 12 w12 (by omega))
                  · rw [if_neg w12, if_neg w12]
                    simp only [Option.bind_some, reduceIte]
                    rw [gr_149_23 hG, t_asks (d + 7) hG hT hB hk h5 165 13 (by decide)]
                    by_cases w13 : wd T κ = 13
                    · rw [if_pos (show wd T κ = ((13 : Nat) : Int) from w13), if_pos w13]
                      simp only [Option.bind_some, gr_149_45 hG, Int.reduceLE, reduceIte]
                      exact stp 2 0 999 (by omega) (by omega) (h0 13 w13 (by omega))
                    · rw [if_neg (show ¬ wd T κ = ((13 : Nat) : Int) from w13), if_neg w13]
                      have f5 := fl_5 X κ 1 κ.1
                      have n5 : fl X κ 1 κ.1 149 5 ≠ 0 := by rw [f5.1]; omega
                      simp only [Option.bind_some, gr_149_45 hG, gl_186 hG, Int.reduceLE, Int.reduceLT, reduceIte, f_number _ n5]
                      have := c_end (d + 8) hG hT κ.1 (X := X) (L := some (0, (G, jup (fl X κ 1 κ.1) 186 2 0))) (R := .inl (1, κ.1)) (by rw [h50]; omega) ⟨0, _, rfl, by rw [jup_rw _ _ _ _ _ (by omega)]; exact f5.1, by rw [jup_rw _ _ _ _ _ (by omega)]; exact f5.2, show (1 : Int) ≠ 0 by omega, mfP_t (mfP_9 (mf9_0 (fl_0 X κ 1 κ.1))) (mfP_w (by omega) (show (2 : Int) < 3 by omega))⟩
                      exact this
