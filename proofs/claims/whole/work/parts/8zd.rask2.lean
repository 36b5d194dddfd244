theorem t_qKind (d : Nat) {G : jG} {X : jX} {T : aT} {κ : aK} (hG : GG G) (hT : okT T) (hB : mB X T) (hk : mK X T κ) (h5 : X 149 5 = 0) : (29 ≤ wd T κ → jD (d + 5) 321 [(22, 149)] (G, X) = some (wd T κ - 29, (G, tk X T κ))) ∧ (wd T κ < 29 → jD (d + 5) 321 [(22, 149)] (G, X) = some (5, (G, fl X κ 1 κ.1))) := by
  have hb := wd_b T κ
  have hB' := mB_0 (lk_0 X κ) hB
  have hk' := lk_K hk
  have h5' : lk X κ 149 5 = 0 := by rw [lk_j X κ 5 (by omega)]; exact h5
  have e0 := t_takes (d + 1) hG hT hB hk h5 204 29 (by decide)
  have e : ∀ (c : Int) (j : Nat), (c, j) ∈ wcl → jD (d + 4) 195 [(22, 149), (23, c)] (G, lk X κ) = if wd T κ = j then some (1, (G, tk X T κ)) else some (0, (G, lk X κ)) := fun c j hc => by
    have := t_takes (d + 1) hG hT hB' hk' h5' c j hc
    rw [lk_lk, tk_lk] at this
    exact this
  have ea := t_asks d hG hT hB' hk' h5' 209 34 (by decide)
  rw [tk_lk, fl_lk] at ea
  have main : jD (d + 5) 321 [(22, 149)] (G, X) = if wd T κ = 29 then some (0, (G, tk X T κ)) else if wd T κ = 30 then some (1, (G, tk X T κ)) else if wd T κ = 31 then some (2, (G, tk X T κ)) else if wd T κ = 32 then some (3, (G, tk X T κ)) else if wd T κ = 33 then some (4, (G, tk X T κ)) else if wd T κ = 34 then some (5, (G, tk X T κ)) else some (5, (G, fl X κ 1 κ.1)) := by
    rw [e_X12_qKind, gr_149_85 hG]
    simp only [Int.reduceLE, reduceIte]
    rw [e0]
    by_cases q : wd T κ = 29
    · rw [if_pos (show wd T κ = ((29 : Nat) : Int) from q), if_pos q]; simp only [Option.bind_some]; rw [if_neg (by omega)]
    · rw [if_neg (show ¬ wd T κ = ((29 : Nat) : Int) from q), if_neg q]; simp only [Option.bind_some, reduceIte]
      rw [gr_149_86 hG, e 205 30 (by decide)]
      by_cases q : wd T κ = 30
      · rw [if_pos (show wd T κ = ((30 : Nat) : Int) from q), if_pos q]; simp only [Option.bind_some]; rw [if_neg (by omega)]
      · rw [if_neg (show ¬ wd T κ = ((30 : Nat) : Int) from q), if_neg q]; simp only [Option.bind_some, reduceIte]
        rw [gr_149_87 hG, e 206 31 (by decide)]
        by_cases q : wd T κ = 31
        · rw [if_pos (show wd T κ = ((31 : Nat) : Int) from q), if_pos q]; simp only [Option.bind_some]; rw [if_neg (by omega)]
        · rw [if_neg (show ¬ wd T κ = ((31 : Nat) : Int) from q), if_neg q]; simp only [Option.bind_some, reduceIte]
          rw [gr_149_88 hG, e 207 32 (by decide)]
          by_cases q : wd T κ = 32
          · rw [if_pos (show wd T κ = ((32 : Nat) : Int) from q), if_pos q]; simp only [Option.bind_some]; rw [if_neg (by omega)]
          · rw [if_neg (show ¬ wd T κ = ((32 : Nat) : Int) from q), if_neg q]; simp only [Option.bind_some, reduceIte]
            rw [gr_149_89 hG, e 208 33 (by decide)]
            by_cases q : wd T κ = 33
            · rw [if_pos (show wd T κ = ((33 : Nat) : Int) from q), if_pos q]; simp only [Option.bind_some]; rw [if_neg (by omega)]
            · rw [if_neg (show ¬ wd T κ = ((33 : Nat) : Int) from q), if_neg q]; simp only [Option.bind_some, reduceIte]
              rw [gr_149_90 hG, ea]
              by_cases q : wd T κ = 34
              · rw [if_pos (show wd T κ = ((34 : Nat) : Int) from q), if_pos q]; rfl
              · rw [if_neg (show ¬ wd T κ = ((34 : Nat) : Int) from q), if_neg q]; rfl
  constructor
  · intro hw
    have : wd T κ = 29 ∨ wd T κ = 30 ∨ wd T κ = 31 ∨ wd T κ = 32 ∨ wd T κ = 33 ∨ wd T κ = 34 := by omega
    rw [main]
    rcases this with h | h | h | h | h | h <;> rw [h] <;> rfl
  · intro hw
    rw [main, if_neg (by omega), if_neg (by omega), if_neg (by omega), if_neg (by omega), if_neg (by omega), if_neg (by omega)]
/-- the start of a reading -/
theorem mS_start {X Y : jX} {T : aT} {u : Int} (hT : okT T) (h3 : Y 149 3 = T.1) (h150 : ∀ i, 0 ≤ i → i < T.1 → Y 150 i = T.2 i) (hW : mWd Y) (h2 : Y 149 2 = 0) (h4 : Y 149 4 = -1) (h5 : Y 149 5 = 0) (h6 : Y 149 6 = -1) (h52 : Y 149 52 = u) (h109 : Y 149 109 = 0) (h111 : Y 149 111 = 0) (h112 : Y 149 112 = 0) (h113 : Y 149 113 = 0) : mS Y T u (kp0 T) 6 [] 0 [] := by
  have hk := kp0_in hT
  have hk0 := hk.1
  refine ⟨⟨⟨h3, h150⟩, hW⟩, ⟨⟨by omega, by rw [h2]; exact hT.1, by rw [h2]; rfl⟩, ⟨fun y => by rw [h4] at y; omega, fun y => by unfold kp0 at y; simp at y⟩, by rw [h4]; omega⟩, ⟨h5, h52, h6⟩, ⟨by rw [h109]; rfl, fun i hi => absurd hi (Nat.not_lt_zero i)⟩, ⟨by rw [h111]; rfl, trivial⟩, ⟨by rw [h112]; rfl, by omega⟩, h113⟩
theorem t_ans_n (d : Nat) {G : jG} {P : aP} {γ : aG} (w : Int) (l : List Int) (hG : GG G) (hO : pOk P) (hgO : gOk P γ) (h1 : 29 ≤ w) (h2 : w ≤ 34) (hwf : wfC 2 (if w ≤ 31 then 1 else 0) l) : ∀ (m : Nat) (X : jX) (i a : Int), i + m = pCe P → 0 ≤ i → mPlan X P → mGr X 190 0 γ → (∀ j : Nat, j < l.length → X 227 j = toM (l.getD j 0)) → X 149 109 = l.length → X 149 116 = a → X 149 117 = (if i = 0 then 1 else 0) → -(1000000 * (i + 1)) ≤ a ∧ a ≤ 1000000 * (i + 1) → ∃ X', jN (d + 4) 323 183 [(22, 149), (0, w - 29), (0, i)] [] (G, X) = some (ovC (fun c a => goS w a (evv (fcC P (gCe γ) c) (tbG γ) l) c) m i a, (G, X')) ∧ (∀ k, k ≠ 149 → k ≠ 229 → X' k = X k) ∧ ∀ j, ¬ (55 ≤ j ∧ j ≤ 62) → ¬ (115 ≤ j ∧ j ≤ 117) → X' 149 j = X 149 j := by
  have hcc := pCe_le hO
  intro m
  induction m with
  | zero =>
    intro X i a hi i0 hP hγ hcd h109 ha hn hab
    refine ⟨X, ?_, fun _ _ _ => rfl, fun _ _ _ => rfl⟩
    rw [h_X12_ask_183]
    simp only [Int.reduceLE, reduceIte]
    rw [t_cellMany (d + 2) hG hP hO]
    simp only [Option.bind_some]
    rw [if_neg (by omega), ha]
    rfl
  | succ m ih =>
    intro X i a hi i0 hP hγ hcd h109 ha hn hab
    have hin : inP P i := ⟨i0, by omega⟩
    have hg := hgO.2.2.2.2.2.2.2 i i0 (by omega)
    obtain ⟨X1, e1, f1, g1, c1⟩ := t_asksCell d i hG hP hO hin hγ
    have P1 := mPlan_fr (X' := X1) (fun a h1 h2 => f1 a (by omega)) (g1 51 (by omega)) hP
    have γ1 := mGr_fr (X' := X1) (f1 190 (by omega)) hγ
    have eo := t_isOpen (d + 2) i hG γ1 i0 (by omega)
    -- the two others
    have ew : ∀ Y : jX, Y 190 = X1 190 → jD (d + 4) 226 [(22, 149), (0, i)] (G, Y) = some (gCe γ i, (G, Y)) := fun Y hY => t_whatIs (d + 3) i hG (mGr_fr hY γ1) i0 (by omega)
    generalize hX3 : jup (jup X1 149 61 (b01 (opn (gCe γ) i))) 149 62 (if gCe γ i = 3 then 1 else 0) = X3
    have f3 : ∀ k, k ≠ 149 → X3 k = X k := fun k hk => by rw [← hX3, jup_rw _ _ _ _ _ hk, jup_rw _ _ _ _ _ hk, f1 k hk]
    have g3 : ∀ j, ¬ (55 ≤ j ∧ j ≤ 62) → X3 149 j = X 149 j := fun j hj => by rw [← hX3, jup_row _ _ _ _ _ (by omega), jup_row _ _ _ _ _ (by omega), g1 j (by omega)]
    have hfa : ∀ k, (1 ≤ k ∧ k ≤ 6 ∨ k = 8 ∨ k = 9) → X3 149 (fsl (20000 + k)) = fcC P (gCe γ) i k := fun k hk => by
      unfold fsl
      by_cases q : k ≤ 6
      · rw [if_pos (by omega), show 20000 + k - 20000 + 54 = k + 54 by omega, ← hX3, jup_row _ _ _ _ _ (by omega), jup_row _ _ _ _ _ (by omega)]
        exact c1 k (by omega) (by omega)
      · rw [if_neg (by omega)]
        by_cases q8 : k = 8
        · rw [q8, show (20000 : Int) + 8 - 20008 + 61 = 61 by omega, ← hX3, jup_row _ _ _ _ _ (by omega), jup_same]
          rfl
        · have q9 : k = 9 := by omega
          rw [q9, show (20000 : Int) + 9 - 20008 + 61 = 62 by omega, ← hX3, jup_same]
          rfl
    obtain ⟨X4, e4, f4⟩ := t_qTold d (X := X3) hG (mPlan_fr (fun a h1 h2 => f3 a (by omega)) (g3 51 (by omega)) hP) hO hgO (mGr_fr (f3 190 (by omega)) hγ) i hin l hwf (fun j hj => by rw [f3 227 (by omega)]; exact hcd j hj) (by rw [g3 109 (by omega)]; exact h109) hfa
    have y4 : ∀ k, k ≠ 149 → k ≠ 229 → X4 k = X k := fun k a b => by rw [f4.1 k a b, f3 k a]
    have z4 : ∀ j, ¬ (55 ≤ j ∧ j ≤ 62) → j ≠ 115 → X4 149 j = X 149 j := fun j a b => by rw [f4.2 j a b, g3 j a]
    have hv := evv_ok (fcC_le (gCe γ) hO hin) (tb_le hgO) hwf
    have hvt : w ≤ 31 → evv (fcC P (gCe γ) i) (tbG γ) l = 0 ∨ evv (fcC P (gCe γ) i) (tbG γ) l = 1 := fun hw => hv.2.2 (by rw [if_pos hw])
    have et := t_qTakes (d + 3) (G := G) (X := X4) w (evv (fcC P (gCe γ) i) (tbG γ) l) i a h1 h2 ⟨hv.1, hv.2.1⟩ hvt (by rw [z4 116 (by omega) (by omega)]; exact ha) (by omega) (by rw [z4 117 (by omega) (by omega)]; exact hn)
    have hb := goS_b (w := w) (c := i) hab ⟨hv.1, hv.2.1⟩ (by omega) (by omega)
    generalize hX5 : jup (jup X4 149 116 (goS w a (evv (fcC P (gCe γ) i) (tbG γ) l) i)) 149 117 0 = X5 at et
    have y5 : ∀ k, k ≠ 149 → k ≠ 229 → X5 k = X k := fun k a b => by rw [← hX5, jup_rw _ _ _ _ _ a, jup_rw _ _ _ _ _ a, y4 k a b]
    have z5 : ∀ j, ¬ (55 ≤ j ∧ j ≤ 62) → ¬ (115 ≤ j ∧ j ≤ 117) → X5 149 j = X 149 j := fun j a b => by rw [← hX5, jup_row _ _ _ _ _ (by omega), jup_row _ _ _ _ _ (by omega), z4 j a (by omega)]
    obtain ⟨X', e', f', g'⟩ := ih X5 (i + 1) (goS w a (evv (fcC P (gCe γ) i) (tbG γ) l) i) (by omega) (by omega) (mPlan_fr (fun a h1 h2 => y5 a (by omega) (by omega)) (z5 51 (by omega) (by omega)) hP) (mGr_fr (y5 190 (by omega) (by omega)) hγ) (fun j hj => by rw [y5 227 (by omega) (by omega)]; exact hcd j hj) (by rw [z5 109 (by omega) (by omega)]; exact h109) (by rw [← hX5, jup_row _ _ _ _ _ (by omega), jup_same]) (by rw [← hX5, jup_same, if_neg (by omega)]) hb
    refine ⟨X', ?_, fun k a b => by rw [f' k a b, y5 k a b], fun j a b => by rw [g' j a b, z5 j a b]⟩
    rw [h_X12_ask_183]
    simp only [Int.reduceLE, reduceIte]
    rw [t_cellMany (d + 2) hG hP hO]
    simp only [Option.bind_some]
    rw [if_pos (by omega), e1]
    simp only [Option.bind_some]
    rw [eo]
    simp only [Option.bind_some]
    -- both ways
    have e228 : ∀ s0 : Int, (s0 = if gCe γ i = 3 then 1 else 0) → jN (d + 4) 323 228 [(22, 149), (0, w - 29), (0, i)] [(1, s0), (22, 149)] (G, jup X1 149 61 (b01 (opn (gCe γ) i))) = some (ovC (fun c a => goS w a (evv (fcC P (gCe γ) c) (tbG γ) l) c) (m + 1) i a, (G, X')) := fun s0 hs => by
      rw [h_X12_ask_228, hs, hX3]
      simp only [Int.reduceLE, reduceIte]
      rw [e4]
      simp only [Option.bind_some]
      rw [et]
      simp only [Option.bind_some]
      rw [jadd_id (by omega) (by omega)]
      exact e'
    have e210 : jN (d + 4) 323 210 [(22, 149), (0, w - 29), (0, i)] [(1, b01 (opn (gCe γ) i)), (22, 149)] (G, X1) = some (ovC (fun c a => goS w a (evv (fcC P (gCe γ) c) (tbG γ) l) c) (m + 1) i a, (G, X')) := by
      rw [h_X12_ask_210]
      simp only [Int.reduceLE, reduceIte]
      rw [ew _ (jup_rw _ _ _ _ _ (by omega))]
      simp only [Option.bind_some]
      by_cases q : gCe γ i = 3
      · rw [if_pos q]; exact e228 1 (by rw [if_pos q])
      · rw [if_neg q]; exact e228 0 (by rw [if_neg q])
    by_cases qo : opn (gCe γ) i
    · have hb1 : b01 (opn (gCe γ) i) = 1 := by unfold b01; rw [if_pos qo]
      rw [hb1] at e210 ⊢
      rw [if_neg (by omega)]
      exact e210
    · have hb0 : b01 (opn (gCe γ) i) = 0 := by unfold b01; rw [if_neg qo]
      rw [hb0] at e210 ⊢
      rw [if_pos rfl]
      exact e210
theorem m_ask : okM 323 [] asA asN := by
  intro d G X A hG hR hV
  obtain ⟨r1, r2, r3, r4, r5, r6, r7, r8, r9, r10, r11⟩ := id hR
  have hO := hV.2.1
  have hN := (pOk_n hO).1
  have hT : okT (aTn A, aTp A) := hV.1
  have hT1 := hT.2.1
  have h51 : X 149 51 = (if pN (aPl A) = 0 then 0 else 1) := r3.1
  rw [e_X12_ask, h51]
  simp only [Int.reduceLE, reduceIte]
  unfold asA asN
  by_cases q : pN (aPl A) = 0
  · simp only [if_pos q, reduceIte]
    exact ⟨_, rfl, RM_shrt 0 hV.1.1 hR, fun k hk => jup_rw _ _ _ _ _ (by omega)⟩
  · simp only [if_neg q, Int.reduceEq, reduceIte]
    rw [r1.1]
    generalize hX0 : jup (jup (jup (jup (jup (jup (jup (jup (jup (jup (jup X 149 3 (aTn A)) 149 1 0) 149 2 0) 149 4 (-1)) 149 5 0) 149 6 (-1)) 149 52 2) 149 109 0) 149 111 0) 149 112 0) 149 113 0 = X0
    have f0 : ∀ k, k ≠ 149 → X0 k = X k := fun k hk => by rw [← hX0]; simp only [jup_rw _ _ _ _ _ hk]
    have g0 : ∀ j, ¬ (1 ≤ j ∧ j ≤ 6) → j ≠ 52 → j ≠ 109 → ¬ (111 ≤ j ∧ j ≤ 113) → X0 149 j = X 149 j := fun j a b c e => by
      rw [← hX0, jup_row _ _ _ _ _ (by omega), jup_row _ _ _ _ _ (by omega), jup_row _ _ _ _ _ (by omega), jup_row _ _ _ _ _ (by omega), jup_row _ _ _ _ _ (by omega), jup_row _ _ _ _ _ (by omega), jup_row _ _ _ _ _ (by omega), jup_row _ _ _ _ _ (by omega), jup_row _ _ _ _ _ (by omega), jup_row _ _ _ _ _ (by omega), jup_row _ _ _ _ _ (by omega)]
    have x1 : X0 149 1 = 0 := by rw [← hX0]; simp only [jup, Int.reduceEq, reduceIte]
    have x6 : X0 149 6 = -1 := by rw [← hX0]; simp only [jup, Int.reduceEq, reduceIte]
    have S0 : mS X0 (aTn A, aTp A) 2 (kp0 (aTn A, aTp A)) 6 [] 0 [] := mS_start (X := X) hT (by rw [← hX0]; simp only [jup, Int.reduceEq, reduceIte]) (fun i i0 i1 => by rw [f0 150 (by omega)]; exact r1.2 i i0 i1) (mWd_fr (fun a ha => f0 a (by omega)) r11) (by rw [← hX0]; simp only [jup, Int.reduceEq, reduceIte]) (by rw [← hX0]; simp only [jup, Int.reduceEq, reduceIte]) (by rw [← hX0]; simp only [jup, Int.reduceEq, reduceIte]) (by rw [← hX0]; simp only [jup, Int.reduceEq, reduceIte]) (by rw [← hX0]; simp only [jup, Int.reduceEq, reduceIte]) (by rw [← hX0]; simp only [jup, Int.reduceEq, reduceIte]) (by rw [← hX0]; simp only [jup, Int.reduceEq, reduceIte]) (by rw [← hX0]; simp only [jup, Int.reduceEq, reduceIte]) (by rw [← hX0]; simp only [jup, Int.reduceEq, reduceIte])
    obtain ⟨k1, k2⟩ := t_qKind (d + 54) hG hT S0.1 S0.2.1 S0.2.2.1.1
    -- what both ends share
    have rel : ∀ (Y : jX) (e1 e2 : Int), (∀ k, k ≠ 149 → k ≠ 227 → k ≠ 228 → k ≠ 229 → Y k = X k) → (∀ j, sN j → j ≠ 1 → j ≠ 7 → j ≠ 8 → Y 149 j = X 149 j) → Y 149 1 = 0 → Y 149 7 = e1 → Y 149 8 = e2 → RM (setF (setT A 0 (aTp A)) e1 e2) Y := fun Y e1 e2 hc hn h1 h7 h8 => by
      unfold sN at hn
      exact ⟨⟨h1, fun i i0 i1 => by have : i < 0 := i1; omega⟩, ⟨h7, h8⟩, mPlan_fr (fun a b c => hc a (by omega) (by omega) (by omega) (by omega)) (hn _ (by omega) (by omega) (by omega) (by omega)) r3, mGr_fr (hc _ (by omega) (by omega) (by omega) (by omega)) r4, mHi_fr (hn _ (by omega) (by omega) (by omega) (by omega)) (hn _ (by omega) (by omega) (by omega) (by omega)) (hc _ (by omega) (by omega) (by omega) (by omega)) r5, mJu_fr (fun j a b => hn j (by omega) (by omega) (by omega) (by omega)) r6, mBo_fr (hn _ (by omega) (by omega) (by omega) (by omega)) (hc _ (by omega) (by omega) (by omega) (by omega)) r7, by rw [hn 80 (by omega) (by omega) (by omega) (by omega)]; exact r8, mPi_fr (hn _ (by omega) (by omega) (by omega) (by omega)) (hc _ (by omega) (by omega) (by omega) (by omega)) r9, mRf_fr (hc _ (by omega) (by omega) (by omega) (by omega)) r10, mWd_fr (fun a ha => hc a (by omega) (by omega) (by omega) (by omega)) r11⟩
    -- the two ends at 133
    have mq : ∀ Y, mfQ X0 Y → (∀ k, k ≠ 149 → k ≠ 227 → k ≠ 228 → k ≠ 229 → Y k = X k) ∧ (∀ j, sN j → j ≠ 1 → Y 149 j = X 149 j) ∧ Y 149 1 = 0 := fun Y hf => ⟨fun k a b c e => by rw [hf.1 k a b c, f0 k a], fun j hj h1 => by unfold sN at hj; rw [hf.2 j (by omega) (by omega) (by omega) (by omega), g0 j (by omega) (by omega) (by omega) (by omega)], by rw [hf.2 1 (by omega) (by omega) (by omega) (by omega)]; exact x1⟩
    have bad133 : ∀ (Y : jX) (v1 : Int) (e : Int × Int), mfQ X0 Y → Y 149 5 = e.1 → Y 149 6 = e.2 → e.1 ≠ 0 → ∃ X', jN (d + 59) 323 133 [(22, 149), (0, v1), (2, (-1))] [] (G, Y) = some (-1000000000000000, (G, X')) ∧ RM (setF (setT A 0 (aTp A)) e.1 e.2) X' ∧ ∀ a, a < 149 → X' a = X a := fun Y v1 e hf h5 h6 hne => by
      obtain ⟨m1, m2, m3⟩ := mq Y hf
      refine ⟨jup (jup Y 149 7 (Y 149 5)) 149 8 (Y 149 6), ?_, rel _ _ _ (fun k a b c e => by rw [jup_rw _ _ _ _ _ a, jup_rw _ _ _ _ _ a]; exact m1 k a b c e) (fun j hj h1 h7 h8 => by rw [jup_row _ _ _ _ _ h8, jup_row _ _ _ _ _ h7]; exact m2 j hj h1) (by rw [jup_row _ _ _ _ _ (by omega), jup_row _ _ _ _ _ (by omega)]; exact m3) (by rw [jup_row _ _ _ _ _ (by omega), jup_same]; exact h5) (by rw [jup_same]; exact h6), fun a ha => by rw [jup_rw _ _ _ _ _ (by omega), jup_rw _ _ _ _ _ (by omega)]; exact m1 a (by omega) (by omega) (by omega) (by omega)⟩
      rw [h_X12_ask_133, jup_row Y 149 7 _ 6 (by omega), jup_row _ 149 8 _ 5 (by omega), jup_row Y 149 7 _ 5 (by omega), h5, if_neg hne]
      simp only [Int.reduceLE, reduceIte]
    have hq0 := qsR_ok hT
    by_cases q1 : wd (aTn A, aTp A) (kp0 (aTn A, aTp A)) < 29
    · have eq : qsR (aTn A, aTp A) = .inl (1, (kp0 (aTn A, aTp A)).1) := if_pos q1
      rw [eq, k2 q1]
      simp only [Option.bind_some]
      have z := fl_5 X0 (kp0 (aTn A, aTp A)) 1 (kp0 (aTn A, aTp A)).1
      obtain ⟨X', e', m', g'⟩ := bad133 (fl X0 (kp0 (aTn A, aTp A)) 1 (kp0 (aTn A, aTp A)).1) 5 (1, (kp0 (aTn A, aTp A)).1) (mfQ_0 (fl_0 _ _ _ _)) z.1 z.2 (by show (1 : Int) ≠ 0; omega)
      refine ⟨X', ?_, m', g'⟩
      rw [z.1, if_neg (by omega), h_X12_ask_98, z.1]
      simp only [Int.reduceEq, Int.reduceLE, reduceIte]
      rw [h_X12_ask_109, z.1]
      simp only [Int.reduceEq, Int.reduceLE, reduceIte]
      exact e'
    · have hwb := wd_b (aTn A, aTp A) (kp0 (aTn A, aTp A))
      have hso := wd_so (T := (aTn A, aTp A)) (κ := kp0 (aTn A, aTp A)) (by omega)
      have hsr : srt (aTn A, aTp A) (kp0 (aTn A, aTp A)).1 ≠ 0 := by rcases so_b (aTn A, aTp A) (kp0 (aTn A, aTp A)) with z | z <;> omega
      have S1 := mS_tk (X := X0) hsr S0
      have F1 : mfQ X0 (tk X0 (aTn A, aTp A) (kp0 (aTn A, aTp A))) := mfQ_0 (tk_0 _ _ _)
      have hin := kp0_in hT
      have hn := nx_in hin
      have hcc := pCe_le hO
      rw [k1 (by omega)]
      simp only [Option.bind_some]
      rw [S1.2.2.1.1, if_pos rfl]
      -- behind the formula
      have fin : ∀ (L : jR) (R : rs) (H t : Nat), (match R with
          | .inl e => ∃ Y, L = some (0, (G, Y)) ∧ Y 149 5 = e.1 ∧ Y 149 6 = e.2 ∧ mfQ (tk X0 (aTn A, aTp A) (kp0 (aTn A, aTp A))) Y
          | .inr p => ∃ Y, L = some (0, (G, Y)) ∧ mS Y (aTn A, aTp A) 2 p.1 6 [] 0 ([] ++ p.2) ∧ mfQ (tk X0 (aTn A, aTp A) (kp0 (aTn A, aTp A))) Y) → gdR (aTn A, aTp A) 2 H t (nx (aTn A, aTp A) (kp0 (aTn A, aTp A))) R → qsR (aTn A, aTp A) = (match R with
          | .inl e => (.inl e : (Int × Int) ⊕ (Int × List Int))
          | .inr p => if so (aTn A, aTp A) p.1 = 0 then .inr (wd (aTn A, aTp A) (kp0 (aTn A, aTp A)), p.2) else .inl (1, p.1.1)) → ∃ X', (L.bind fun q2 => jN (d + 59) 323 109 [(22, 149), (0, wd (aTn A, aTp A) (kp0 (aTn A, aTp A)) - 29), (2, (-1))] [] (q2.2.1, q2.2.2)) = some (match qsR (aTn A, aTp A) with
          | .inl _ => -1000000000000000
          | .inr q => qaS (aPl A) (aGr A) q.1 q.2, (G, X')) ∧ RM (match qsR (aTn A, aTp A) with
          | .inl e => setF (setT A 0 (aTp A)) e.1 e.2
          | .inr _ => setF (setT A 0 (aTp A)) 0 (-1)) X' ∧ ∀ a, a < 149 → X' a = X a := fun L R H t hL hg hqs => by
        rw [hqs]
        rw [hqs] at hq0
        cases R with
        | inl e =>
          obtain ⟨Y, y1, y2, y3, y4⟩ := hL
          have hne : e.1 ≠ 0 := hg
          obtain ⟨X', e', m', g'⟩ := bad133 Y (wd (aTn A, aTp A) (kp0 (aTn A, aTp A)) - 29) e (mfQ_t F1 y4) y2 y3 hne
          refine ⟨X', ?_, m', g'⟩
          rw [y1]
          simp only [Option.bind_some]
          rw [h_X12_ask_109, if_pos (by omega), if_neg (by rw [y2]; exact hne)]
          exact e'
        | inr p =>
          obtain ⟨Y, y1, y2, y3⟩ := hL
          rw [List.nil_append] at y2
          have y6 := y2.2.2.1.2.2
          have FY := mfQ_t F1 y3
          have hpi := mS_in y2
          have el := t_look (d + 58) hG hT y2.1 y2.2.1
          dsimp only at hq0 ⊢
          by_cases q3 : so (aTn A, aTp A) p.1 = 0
          · rw [if_pos q3] at hq0 ⊢
            obtain ⟨hw1, hwf⟩ := hq0
            dsimp only at hw1 hwf ⊢
            have htl : tat (aTn A, aTp A) p.1.1 = -1 := by
              have : srt (aTn A, aTp A) p.1.1 = 0 := by rcases so_b (aTn A, aTp A) p.1 with z | z <;> omega
              have := srt_0.1 this
              exact if_neg (fun y => by omega)
            have SK := mS_lk y2
            have FK := mfQ_t FY (mfQ_0 (lk_0 Y p.1))
            obtain ⟨m1, m2, m3⟩ := mq _ FK
            have k6 : lk Y p.1 149 6 = -1 := by rw [lk_j Y p.1 6 (by omega)]; exact y6
            -- the state at the loop
            obtain ⟨a0, ha0⟩ : ∃ a0 : Int, a0 = if wd (aTn A, aTp A) (kp0 (aTn A, aTp A)) = 29 ∨ wd (aTn A, aTp A) (kp0 (aTn A, aTp A)) = 30 then -1 else 0 := ⟨_, rfl⟩
            generalize hZ : jup (jup (jup (jup (lk Y p.1) 149 7 0) 149 8 (-1)) 149 116 a0) 149 117 1 = Z
            have zf : ∀ k, k ≠ 149 → Z k = lk Y p.1 k := fun k hk => by rw [← hZ]; simp only [jup_rw _ _ _ _ _ hk]
            have zg : ∀ j, j ≠ 7 → j ≠ 8 → j ≠ 116 → j ≠ 117 → Z 149 j = lk Y p.1 149 j := fun j a b c e => by rw [← hZ, jup_row _ _ _ _ _ e, jup_row _ _ _ _ _ c, jup_row _ _ _ _ _ b, jup_row _ _ _ _ _ a]
            obtain ⟨X', e', f', g'⟩ := t_ans_n (d + 55) (γ := aGr A) (wd (aTn A, aTp A) (kp0 (aTn A, aTp A))) p.2 hG hO hV.2.2.1 hw1.1 hw1.2 hwf (pCe (aPl A)).toNat Z 0 a0 (by omega) (by omega) (mPlan_fr (fun a b c => by rw [zf a (by omega), m1 a (by omega) (by omega) (by omega) (by omega)]) (by rw [zg 51 (by omega) (by omega) (by omega) (by omega), m2 51 (by unfold sN; omega) (by omega)]) r3) (mGr_fr (by rw [zf 190 (by omega), m1 190 (by omega) (by omega) (by omega) (by omega)]) r4) (fun j hj => by rw [zf 227 (by omega)]; exact SK.2.2.2.1.2 j hj) (by rw [zg 109 (by omega) (by omega) (by omega) (by omega)]; exact SK.2.2.2.1.1) (by rw [← hZ, jup_row _ _ _ _ _ (by omega), jup_same]) (by rw [← hZ, jup_same]; rfl) (by rw [ha0]; split <;> omega)
            refine ⟨X', ?_, rel X' 0 (-1) (fun k a b c e => by rw [f' k a e, zf k a]; exact m1 k a b c e) (fun j hj h1 h7 h8 => by have hj' := hj; unfold sN at hj'; rw [g' j (by omega) (by omega), zg j h7 h8 (by omega) (by omega)]; exact m2 j hj h1) (by rw [g' 1 (by omega) (by omega), zg 1 (by omega) (by omega) (by omega) (by omega)]; exact m3) (by rw [g' 7 (by omega) (by omega), ← hZ, jup_row _ _ _ _ _ (by omega), jup_row _ _ _ _ _ (by omega), jup_row _ _ _ _ _ (by omega), jup_same]) (by rw [g' 8 (by omega) (by omega), ← hZ, jup_row _ _ _ _ _ (by omega), jup_row _ _ _ _ _ (by omega), jup_same]), fun k hk => by rw [f' k (by omega) (by omega), zf k (by omega)]; exact m1 k (by omega) (by omega) (by omega) (by omega)⟩
            rw [y1]
            simp only [Option.bind_some]
            rw [h_X12_ask_109, y2.2.2.1.1]
            simp only [Int.reduceLE, reduceIte]
            rw [el]
            simp only [Option.bind_some]
            rw [if_pos htl, h_X12_ask_133, jup_row (lk Y p.1) 149 7 _ 6 (by omega), jup_row _ 149 8 _ 5 (by omega), jup_row (lk Y p.1) 149 7 _ 5 (by omega), SK.2.2.1.1, k6]
            simp only [Int.reduceLE, reduceIte]
            have e173 : ∀ s0 : Int, s0 = a0 → jN (d + 59) 323 173 [(22, 149), (0, wd (aTn A, aTp A) (kp0 (aTn A, aTp A)) - 29), (2, (-1))] [(1, s0), (22, 149)] (G, jup (jup (lk Y p.1) 149 7 0) 149 8 (-1)) = some (qaS (aPl A) (aGr A) (wd (aTn A, aTp A) (kp0 (aTn A, aTp A))) p.2, (G, X')) := fun s0 hs => by
              rw [h_X12_ask_173, hs, hZ]
              simp only [Int.reduceLE, reduceIte]
              unfold qaS
              rw [← ha0]
              exact e'
            by_cases w2 : wd (aTn A, aTp A) (kp0 (aTn A, aTp A)) - 29 < 2
            · rw [if_pos w2]; exact e173 (-1) (by rw [ha0, if_pos (by omega)])
            · rw [if_neg w2]; exact e173 0 (by rw [ha0, if_neg (by omega)])
          · rw [if_neg q3]
            have htl : tat (aTn A, aTp A) p.1.1 ≠ -1 := by
              have : ¬ srt (aTn A, aTp A) p.1.1 = 0 := fun y => q3 (by unfold so; rw [if_neg (fun z => by omega)]; exact y)
              rw [srt_0] at this
              have hb := hT.2.2 p.1.1 hpi.1 (by omega)
              rw [tat_in hpi.1 (by omega)]
              omega
            have SK := mS_lk y2
            have z := fl_5 Y p.1 1 p.1.1
            obtain ⟨X', e', m', g'⟩ := bad133 (fl Y p.1 1 p.1.1) (wd (aTn A, aTp A) (kp0 (aTn A, aTp A)) - 29) (1, p.1.1) (mfQ_t FY (mfQ_0 (fl_0 _ _ _ _))) z.1 z.2 (by show (1 : Int) ≠ 0; omega)
            refine ⟨X', ?_, m', g'⟩
            rw [y1]
            simp only [Option.bind_some]
            rw [h_X12_ask_109, y2.2.2.1.1]
            simp only [Int.reduceLE, reduceIte]
            rw [el]
            simp only [Option.bind_some]
            rw [if_neg htl, lk_at, t_fail (d + 58) SK.2.2.1.1]
            simp only [Option.bind_some]
            exact e'
      by_cases q2 : wd (aTn A, aTp A) (kp0 (aTn A, aTp A)) ≤ 31
      · have hI := t_qTest (d + 50) hG hT (by omega : (2 : Int) = 0 ∨ (2 : Int) = 1 ∨ (2 : Int) = 2) S1 (by show ((0 : Nat) : Int) ≤ _; have := hn.1.1; omega)
        rw [if_pos (show wd (aTn A, aTp A) (kp0 (aTn A, aTp A)) - 29 < 3 by omega)]
        refine fin _ _ (3 * 6 + 4 + 2) 1 hI (tst_gd hT1 (fac_gd hT1 (by omega) 6) _ hn.1) ?_
        unfold qsR
        rw [if_neg q1, if_pos q2]
        cases tst (aTn A, aTp A) (fac (aTn A, aTp A) 2 6) (nx (aTn A, aTp A) (kp0 (aTn A, aTp A))) <;> rfl
      · have hI := t_qSums (d + 52) hG hT (by omega : (2 : Int) = 0 ∨ (2 : Int) = 1 ∨ (2 : Int) = 2) S1 (by show (0 : Int) ≠ 3 ∧ (0 : Int) ≠ 4 ∧ (0 : Int) ≠ 1 ∧ (0 : Int) ≠ 2; omega) (by show 0 + 3 * 6 + 3 ≤ 1000; omega) (by show ((0 : Nat) : Int) ≤ _; have := hn.1.1; omega)
        rw [if_neg (show ¬ wd (aTn A, aTp A) (kp0 (aTn A, aTp A)) - 29 < 3 by omega), h_X12_ask_98, S1.2.2.1.1]
        simp only [Int.reduceLE, reduceIte]
        refine fin _ (sms (aTn A, aTp A) (prt (aTn A, aTp A) 2 6) (nx (aTn A, aTp A) (kp0 (aTn A, aTp A)))) (3 * 6 + 1 + 2) 0 ?_ (sms_gd hT1 (prt_gd hT1 (by omega) 6) _ hn.1) ?_
        · revert hI
          cases sms (aTn A, aTp A) (prt (aTn A, aTp A) 2 6) (nx (aTn A, aTp A) (kp0 (aTn A, aTp A))) with
          | inl e => rintro ⟨Y, y1, y2, y3, y4⟩; exact ⟨Y, y1, y2, y3, y4.1⟩
          | inr p => exact fun h => h
        · unfold qsR
          rw [if_neg q1, if_neg q2]
          cases sms (aTn A, aTp A) (prt (aTn A, aTp A) 2 6) (nx (aTn A, aTp A) (kp0 (aTn A, aTp A))) <;> rfl
theorem call_ask : okB 176 323 [] := ⟨asA, asN, c_ask, m_ask, fun A h => by
  unfold asN
  by_cases q : pN (aPl A) = 0
  · rw [if_pos q]; exact AV_shrt 0 (by omega) h.1.1 h
  · rw [if_neg q]
    cases qsR (aTn A, aTp A) with
    | inl e => exact AV_shrt 0 (by omega) h.1.1 h
    | inr p => exact AV_shrt 0 (by omega) h.1.1 h⟩
