/-! PIT: the reference's name -/
def ngv (T : aT) (b : Int) : Int → Int := fun j => if b + j < rn bL T b then T.2 (b + j) - 96 else 0
theorem t_name_n (d : Nat) {G : jG} {T : aT} (hG : GG G) (hT : okT T) (b : Int) (b0 : 0 ≤ b) : ∀ (m n : Nat) (X : jX) (v : Int), n + m = 7 → mB X T → X 149 2 = b + n → X 149 39 = b → X 149 5 = 0 → n ≤ 6 → b + n ≤ T.1 → rn bL T (b + n) = rn bL T b → v = nam (ngv T b) n → (0 ≤ v ∧ v < 27 ^ n) → ∃ w Y, jN (d + 1) 201 58 [(22, 149), (1, v), (2, (-1))] [] (G, X) = some (w, (G, Y)) ∧ mf9 X Y ∧ (6 < rn bL T b - b → Y 149 5 = 1 ∧ Y 149 6 = b + 6) ∧ (rn bL T b - b ≤ 6 → w = nam (ngv T b) (rn bL T b - b).toNat ∧ Y 149 2 = rn bL T b ∧ Y 149 4 = rn bL T b ∧ Y 149 5 = 0 ∧ Y 149 6 = X 149 6 ∧ Y 149 39 = b) := by
  intro m
  induction m with
  | zero => intro n X v hn _ _ _ _ h6; omega
  | succ m ih =>
    intro n X v hn hB h2 h39 h5 h6 hle hrn hv hvb
    have hT2 := hT.2.1
    have fin : rn bL T b = b + n → ∃ w Y, some (v, (G, jup X 149 4 (b + n))) = some (w, (G, Y)) ∧ mf9 X Y ∧ (6 < rn bL T b - b → Y 149 5 = 1 ∧ Y 149 6 = b + 6) ∧ (rn bL T b - b ≤ 6 → w = nam (ngv T b) (rn bL T b - b).toNat ∧ Y 149 2 = rn bL T b ∧ Y 149 4 = rn bL T b ∧ Y 149 5 = 0 ∧ Y 149 6 = X 149 6 ∧ Y 149 39 = b) := fun hE => by
      refine ⟨v, jup X 149 4 (b + n), rfl, mf9_u (by omega), fun h => by omega, fun h => ⟨?_, ?_, ?_, ?_, ?_, ?_⟩⟩
      · rw [hE, show (b + (n : Int) - b).toNat = n by omega]; exact hv
      · rw [jup_row _ _ _ _ _ (by omega), h2, hE]
      · rw [jup_same, hE]
      · rw [jup_row _ _ _ _ _ (by omega)]; exact h5
      · rw [jup_row _ _ _ _ _ (by omega)]
      · rw [jup_row _ _ _ _ _ (by omega)]; exact h39
    rw [h_X12_name_58, h2, hB.1.1, gr_149_0 hG, gl_150 hG]
    simp only [Int.reduceLE, reduceIte]
    by_cases q : b + (n : Int) < T.1
    · have e150 : X 150 (b + n) = tat T (b + n) := by rw [hB.1.2 _ (by omega) q, tat_in (by omega) q]
      rw [if_pos q, if_pos (show 0 ≤ b + (n : Int) by omega), if_pos (show b + (n : Int) < 1600 by omega), e150, t_isLetter d (by omega)]
      simp only [Option.bind_some]
      by_cases q1 : srt T (b + n) = 1
      · have hlt := (srt_1.1 q1).2
        have hr := rn_pos (p := bL) (T := T) ⟨q, hlt⟩
        have hge := rn_ge bL T (b + n + 1)
        have hc := (bL_iff _).1 hlt
        rw [if_pos q1, if_neg (show ¬ (1 : Int) = 0 by omega), h39, h2, jsub_id (by omega) (by omega)]
        by_cases q6 : n = 6
        · rw [if_pos (by omega), t_fail d h5]
          refine ⟨0, jup (jup X 149 5 1) 149 6 (b + n), rfl, mf9_t (mf9_u (by omega)) (mf9_u (by omega)), fun _ => ⟨by rw [jup_row _ _ _ _ _ (by omega), jup_same], by rw [jup_same]; omega⟩, fun h => by omega⟩
        · have p27 : (27 : Int) ^ n ≤ 27 ^ 5 := by
            have : n ≤ 5 := by omega
            have := Nat.pow_le_pow_right (n := 27) (by omega) this
            exact_mod_cast this
          have p27' : (27 : Int) ^ n ≤ 14348907 := by have e : (27 : Int) ^ 5 = 14348907 := by decide
                                                      omega
          have ev : ladd (lsub (ladd (lmul 27 v) (T.2 (b + n))) 97) 1 = 27 * v + (T.2 (b + n) - 96) := by
            rw [lmul_id (by omega) (by omega), ladd_id (a := 27 * v) (by omega) (by omega), lsub_id (by omega) (by omega), ladd_id (by omega) (by omega)]; omega
          rw [if_neg (by omega), gr_149_0 hG, gl_150 hG, if_pos (show (0 : Int) ≤ 150 by omega), if_pos (show 0 ≤ b + (n : Int) by omega), if_pos (show b + (n : Int) < 1600 by omega), hB.1.2 _ (by omega) q, ev, jadd_id (by omega) (by omega)]
          have eg : ngv T b n = T.2 (b + n) - 96 := by unfold ngv; rw [if_pos (by omega)]
          have en : 27 * v + (T.2 (b + n) - 96) = nam (ngv T b) (n + 1) := by
            show _ = if ngv T b n = 0 then nam (ngv T b) n else 27 * nam (ngv T b) n + ngv T b n
            rw [eg, if_neg (by omega), hv]
          have f := mf9_u (X := X) (j := 2) (v := b + n + 1) (by omega)
          have ps : (27 : Int) ^ (n + 1) = 27 * 27 ^ n := by rw [Int.pow_succ]; omega
          obtain ⟨w, Y, a1, a2, a3, a4⟩ := ih (n + 1) (jup X 149 2 (b + n + 1)) (27 * v + (T.2 (b + n) - 96)) (by omega) (mB_9 f hB) (by rw [jup_same]; omega) (by rw [jup_row _ _ _ _ _ (by omega)]; exact h39) (by rw [jup_row _ _ _ _ _ (by omega)]; exact h5) (by omega) (by omega) (by rw [← hrn, hr]; congr 1; omega) en ⟨by omega, by rw [ps]; omega⟩
          rw [jup_row _ _ _ _ _ (show (6 : Int) ≠ 2 by omega)] at a4
          exact ⟨w, Y, a1, mf9_t f a2, a3, a4⟩
      · have hE : rn bL T b = b + n := by rw [← hrn]; exact rn_neg (fun y => q1 (srt_1.2 y))
        rw [if_neg q1, if_pos (show (0 : Int) = 0 from rfl), h2]
        exact fin hE
    · have hE : rn bL T b = b + n := by rw [← hrn]; exact rn_neg (fun y => q y.1)
      rw [if_neg q]
      exact fin hE
theorem nam_cut {f : Int → Int} {n : Nat} : ∀ m : Nat, (∀ j : Nat, n ≤ j → j < n + m → f j = 0) → nam f (n + m) = nam f n := by
  intro m
  induction m with
  | zero => intro _; rfl
  | succ m ih =>
    intro h
    show (if f ((n + m : Nat) : Int) = 0 then nam f (n + m) else _) = _
    rw [if_pos (h (n + m) (by omega) (by omega))]
    exact ih (fun j a b => h j a (by omega))
def nmM (G : jG) (X : jX) (T : aT) (κ : aK) (L : jR) (R : (Int × Int) ⊕ (Int → Int)) : Prop := match R with
  | .inl e => ∃ w Y, L = some (w, (G, Y)) ∧ Y 149 5 = e.1 ∧ Y 149 6 = e.2 ∧ e.1 ≠ 0 ∧ mf9 X Y
  | .inr g => ∃ Y, L = some (nam g 6, (G, Y)) ∧ mK Y T (nx T κ) ∧ Y 149 39 = κ.1 ∧ Y 149 5 = 0 ∧ Y 149 6 = X 149 6 ∧ mf9 X Y
theorem wds_6 : ∀ j : Nat, j < 29 → (wds.getD j []).length ≤ 6 := by decide
theorem t_name (d : Nat) {G : jG} {X : jX} {T : aT} {κ : aK} (hG : GG G) (hT : okT T) (hB : mB X T) (hk : mK X T κ) (h5 : X 149 5 = 0) : nmM G X T κ (jD (d + 4) 201 [(22, 149)] (G, X)) (nmN T κ) := by
  have hin := mK_in hk
  have hB' := mB_0 (lk_0 X κ) hB
  have hk' := lk_K hk
  have h5' : lk X κ 149 5 = 0 := by rw [lk_j X κ 5 (by omega)]; exact h5
  have h4' : lk X κ 149 4 = X 149 4 := lk_j X κ 4 (by omega)
  have h2' := lk_at X κ
  have hl := lk_lk X κ
  have h6' : lk X κ 149 6 = X 149 6 := lk_j X κ 6 (by omega)
  have f0 := mf9_0 (lk_0 X κ)
  have htE : srt T κ.1 = 1 → tE T κ.1 = rn bL T κ.1 := fun h => by unfold tE; rw [if_pos h]
  have hkt := fun h => tk_K (X := X) hk h
  rw [e_X12_name, h5]
  simp only [Int.reduceLE, reduceIte]
  rw [t_look (d + 2) hG hT hB hk]
  simp only [Option.bind_some]
  rw [t_isLetter (d + 2) hin.1]
  simp only [Option.bind_some]
  generalize hY : lk X κ = Y at *
  have ff : ∀ s, some ((0 : Int), (G, jup (jup Y 149 5 1) 149 6 κ.1)) = some (s, (G, jup (jup Y 149 5 1) 149 6 κ.1)) → nmM G X T κ (some (0, (G, jup (jup Y 149 5 1) 149 6 κ.1))) (.inl (1, κ.1)) := fun s _ => ⟨0, jup (jup Y 149 5 1) 149 6 κ.1, rfl, by rw [jup_row _ _ _ _ _ (by omega), jup_same], by rw [jup_same], show (1 : Int) ≠ 0 by omega, mf9_t f0 (mf9_t (mf9_u (by omega)) (mf9_u (by omega)))⟩
  have hs := so_b T κ
  unfold nmN
  by_cases q1 : srt T κ.1 = 1
  · rw [if_pos q1, if_neg (show ¬ (1 : Int) = 0 by omega), h2', h4']
    by_cases q2 : κ.2 = true
    · have so1 : ¬ so T κ = 1 := by
        rcases hs with h | h
        · have := h.1; omega
        · have := h.2 q2; omega
      rw [if_pos (hk.2.1.2 q2).symm, if_neg so1, t_fail (d + 2) h5']
      exact ff 0 rfl
    · have so1 : so T κ = 1 := by
        rcases hs with h | h
        · exact absurd h.2.1 q2
        · rw [h.1]; exact q1
      rw [if_neg (fun y => q2 (hk.2.1.1 y.symm)), if_pos so1, t_isOwn d hG hT hB' hk' h5', hl]
      simp only [Option.bind_some]
      have hb := wd_b T κ
      by_cases q3 : 0 ≤ wd T κ ∧ wd T κ ≤ 28
      · have l6 : tE T κ.1 - κ.1 ≤ 6 := by
          have e : wd T κ = ((wd T κ).toNat : Int) := by omega
          have := ((isW_iff.1 ((wd_iff (wd T κ).toNat (by omega)).1 e)).1).2
          have := wds_6 (wd T κ).toNat (by omega)
          omega
        rw [if_pos q3, if_neg (show ¬ (1 : Int) = 0 by omega), if_neg (show ¬ 6 < tE T κ.1 - κ.1 by omega), if_pos (show wd T κ ≠ -1 ∧ wd T κ < 29 by omega), h2', t_fail (d + 2) h5']
        exact ff 0 rfl
      · have f1 := mf9_u (X := Y) (j := 39) (v := κ.1) (by omega)
        rw [if_neg q3, if_pos (show (0 : Int) = 0 from rfl), h2']
        have hk1 := hin.2
        obtain ⟨w, Z, a1, a2, a3, a4⟩ := t_name_n (d + 2) hG hT κ.1 hin.1 7 0 (jup Y 149 39 κ.1) 0 (by omega) (mB_9 f1 hB') (by rw [jup_row _ _ _ _ _ (by omega), h2']; omega) (by rw [jup_same]) (by rw [jup_row _ _ _ _ _ (by omega)]; exact h5') (by omega) (by omega) (by congr 1; omega) rfl ⟨by omega, by decide⟩
        rw [htE q1, a1]
        by_cases q6 : 6 < rn bL T κ.1 - κ.1
        · rw [if_pos q6]
          exact ⟨w, Z, rfl, (a3 q6).1, (a3 q6).2, show (1 : Int) ≠ 0 by omega, mf9_t f0 (mf9_t f1 a2)⟩
        · rw [if_neg q6, if_neg (show ¬ (wd T κ ≠ -1 ∧ wd T κ < 29) by omega)]
          obtain ⟨b1, b2, b3, b4, b5, b6⟩ := a4 (by omega)
          have hge := rn_ge bL T κ.1
          have hw : w = nam (fun j => if κ.1 + j < rn bL T κ.1 then T.2 (κ.1 + j) - 96 else 0) 6 := by
            rw [b1]
            have := nam_cut (f := ngv T κ.1) (n := (rn bL T κ.1 - κ.1).toNat) (6 - (rn bL T κ.1 - κ.1).toNat) (fun j hj _ => by unfold ngv; rw [if_neg (by omega)])
            rw [show (rn bL T κ.1 - κ.1).toNat + (6 - (rn bL T κ.1 - κ.1).toNat) = 6 by omega] at this
            exact this.symm
          refine ⟨Z, by rw [hw], ?_, b6, b4, by rw [b5, jup_row _ _ _ _ _ (by omega)]; exact h6', mf9_t f0 (mf9_t f1 a2)⟩
          refine mK_e ?_ ?_ (hkt (by omega))
          · unfold tk; rw [if_neg (by omega), jup_row _ _ _ _ _ (by omega), jup_same, htE q1]; exact b2
          · unfold tk; rw [if_neg (by omega), jup_same, htE q1]; exact b3
  · rw [if_neg q1, if_pos (show (0 : Int) = 0 from rfl), h2', if_neg (show ¬ so T κ = 1 by omega), t_fail (d + 2) h5']
    exact ff 0 rfl
