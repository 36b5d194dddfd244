/-! PIT: the reference's own call, whole -/
theorem hiL_le (k : Int) : 3 ≤ hiL k := by unfold hiL; repeat' split
                                           all_goals omega
theorem m_pit : okM 214 [] ptA ptN := by
  intro d G X A hG hR hV
  obtain ⟨r1, r2, r3, r4, r5, r6, r7, r8, r9, r10, r11⟩ := id hR
  have hT : okT (aTn A, aTp A) := hV.1
  have hT1 := hT.2.1
  rw [e_X12_pit, r1.1]
  simp only [Int.reduceLE, reduceIte]
  generalize hX0 : jup (jup (jup (jup (jup (jup (jup X 149 3 (aTn A)) 149 1 0) 149 2 0) 149 4 (-1)) 149 5 0) 149 6 (-1)) 149 49 0 = X0
  have f0 : ∀ k, k ≠ 149 → X0 k = X k := fun k hk => by rw [← hX0]; simp only [jup_rw _ _ _ _ _ hk]
  have g0 : ∀ j, ¬ (1 ≤ j ∧ j ≤ 6) → j ≠ 49 → X0 149 j = X 149 j := fun j a b => by
    rw [← hX0, jup_row _ _ _ _ _ (by omega), jup_row _ _ _ _ _ (by omega), jup_row _ _ _ _ _ (by omega), jup_row _ _ _ _ _ (by omega), jup_row _ _ _ _ _ (by omega), jup_row _ _ _ _ _ (by omega), jup_row _ _ _ _ _ (by omega)]
  have x0 : X0 149 1 = 0 ∧ X0 149 2 = 0 ∧ X0 149 3 = aTn A ∧ X0 149 4 = -1 ∧ X0 149 5 = 0 ∧ X0 149 6 = -1 ∧ X0 149 49 = 0 := by
    subst hX0
    refine ⟨?_, ?_, ?_, ?_, ?_, ?_, ?_⟩ <;> simp only [jup, Int.reduceEq, reduceIte]
  obtain ⟨Y1, a1, a2, a3, a4⟩ := p_40 (d + 59) hG 6 X0 0 (by omega) (by omega)
  obtain ⟨Y2, b1, b2, b3, b4⟩ := p_83 (d + 59) hG 3 (jup (jup (jup Y1 186 0 3) 186 1 5) 186 2 10) 0 (by omega) (by omega)
  have c0 : ∀ k, k ≠ 181 → k ≠ 186 → k ≠ 187 → Y2 k = X0 k := fun k a b c => by rw [b2 k c, jup_rw _ _ _ _ _ b, jup_rw _ _ _ _ _ b, jup_rw _ _ _ _ _ b, a2 k a]
  have c181 : Y2 181 = Y1 181 := by rw [b2 181 (by omega), jup_rw _ _ _ _ _ (by omega), jup_rw _ _ _ _ _ (by omega), jup_rw _ _ _ _ _ (by omega)]
  have c186 : Y2 186 0 = 3 ∧ Y2 186 1 = 5 ∧ Y2 186 2 = 10 ∧ ∀ j, 3 ≤ j → Y2 186 j = X 186 j := by
    rw [b2 186 (by omega)]
    refine ⟨?_, ?_, ?_, fun j hj => ?_⟩
    · rw [jup_row _ _ _ _ _ (by omega), jup_row _ _ _ _ _ (by omega), jup_same]
    · rw [jup_row _ _ _ _ _ (by omega), jup_same]
    · rw [jup_same]
    · rw [jup_row _ _ _ _ _ (by omega), jup_row _ _ _ _ _ (by omega), jup_row _ _ _ _ _ (by omega), a2 186 (by omega), f0 186 (by omega)]
  have c187 : ∀ j, 3 ≤ j → Y2 187 j = X 187 j := fun j hj => by rw [b4 j (Or.inr hj), jup_rw _ _ _ _ _ (by omega), jup_rw _ _ _ _ _ (by omega), jup_rw _ _ _ _ _ (by omega), a2 187 (by omega), f0 187 (by omega)]
  have c149 : Y2 149 = X0 149 := c0 149 (by omega) (by omega) (by omega)
  have m0 : mPs Y2 (aTn A, aTp A) P00 (kp0 (aTn A, aTp A)) 0 := by
    have hin := kp0_in hT
    refine ⟨⟨⟨by rw [c149]; exact x0.2.2.1, fun i i0 i1 => by rw [c0 150 (by omega) (by omega) (by omega), f0 150 (by omega)]; exact r1.2 i i0 i1⟩, mWd_fr (fun a ha => by rw [c0 a (by omega) (by omega) (by omega), f0 a (by omega)]) r11⟩, ⟨⟨by rw [c149, x0.2.1]; omega, by rw [c149, x0.2.1]; exact hT.1, by rw [c149, x0.2.1]; rfl⟩, ?_, ?_⟩, by rw [c149]; exact ⟨x0.2.2.2.2.1, x0.2.2.2.2.2.1⟩, ?_, hin.1⟩
    · rw [c149, x0.2.2.2.1]
      constructor
      · intro y; have := hin.1; omega
      · intro y; exact absurd y (by unfold kp0; simp)
    · rw [c149, x0.2.2.2.1]; have := hin.1; omega
    · refine ⟨?_, ⟨c186.1, c186.2.1, c186.2.2.1⟩, ⟨b3 0 (by omega) (by omega), b3 1 (by omega) (by omega), b3 2 (by omega) (by omega)⟩, fun k k0 k1 => by have : k < 0 := k1; omega, fun k k0 k1 => by have : k < 0 := k1; omega, fun r c r0 r1 => by have : r < 0 := r1; omega, by rw [c149]; exact x0.2.2.2.2.2.2, by omega⟩
      rw [c181]
      exact ⟨a3 0 (by omega) (by omega), a3 1 (by omega) (by omega), a3 2 (by omega) (by omega), a3 3 (by omega) (by omega), a3 4 (by omega) (by omega), a3 5 (by omega) (by omega)⟩
  have F0 : (∀ k, ¬ (181 ≤ k ∧ k ≤ 189) → k ≠ 149 → Y2 k = X k) ∧ (∀ k j, 181 ≤ k → k ≤ 189 → hiL k ≤ j → Y2 k j = X k j) ∧ ∀ j, ¬ (1 ≤ j ∧ j ≤ 6) → j ≠ 49 → Y2 149 j = X 149 j := by
    refine ⟨fun k a b => by rw [c0 k (by omega) (by omega) (by omega), f0 k b], fun k j k0 k1 hj => ?_, fun j a b => by rw [c149]; exact g0 j a b⟩
    have h3 := hiL_le k
    by_cases e1 : k = 181
    · have e : hiL k = 6 := by rw [e1]; rfl
      rw [e1, c181, a4 j (by omega), f0 181 (by omega)]
    · by_cases e2 : k = 186
      · rw [e2]; exact c186.2.2.2 j (by omega)
      · by_cases e3 : k = 187
        · rw [e3]; exact c187 j (by omega)
        · rw [c0 k e1 e2 e3, f0 k (by omega)]
  rw [a1, b1]
  -- the end of the loop, for either
  have FR : ∀ Y, mfZ Y2 Y → (∀ k, ¬ (181 ≤ k ∧ k ≤ 189) → k ≠ 149 → k ≠ 227 → k ≠ 228 → Y k = X k) ∧ (∀ k j, 181 ≤ k → k ≤ 189 → hiL k ≤ j → Y k j = X k j) ∧ (∀ j, sN j → j ≠ 1 → Y 149 j = X 149 j) ∧ Y 149 1 = 0 := fun Y hf => ⟨fun k a b c e => by rw [hf.1 k a b c e, F0.1 k a b], fun k j a b c => by rw [hf.2.1 k j a b c, F0.2.1 k j a b c], fun j hj h1 => by unfold sN at hj; rw [hf.2.2 j (by unfold sP; omega) (by omega), F0.2.2 j (by omega) (by omega)], by rw [hf.2.2 1 (by unfold sP; omega) (by omega), c149]; exact x0.1⟩
  have bad : ∀ (Y : jX) (v1 : Int) (e : Int × Int), mfZ Y2 Y → Y 149 5 = e.1 → Y 149 6 = e.2 → e.1 ≠ 0 → ∃ X', jN (d + 59) 214 110 [(22, 149), (0, v1)] [] (G, Y) = some (-1, (G, X')) ∧ RM (refu (setF (setT A 0 (aTp A)) e.1 e.2) 1) X' ∧ ∀ a, a < 149 → X' a = X a := fun Y v1 e hf h5 h6 hne => by
    obtain ⟨m1, m2, m3, m4⟩ := FR Y hf
    have y151 : Y 151 1 = aRf A 1 := by rw [m1 151 (by omega) (by omega) (by omega) (by omega)]; exact r10 1 (by omega) (by omega)
    generalize hZ : jup (jup (jup Y 149 7 e.1) 149 8 e.2) 151 1 (jadd (aRf A 1) 1) = Z
    have zk : ∀ k, k ≠ 149 → k ≠ 151 → Z k = Y k := fun k a b => by rw [← hZ, jup_rw _ _ _ _ _ b, jup_rw _ _ _ _ _ a, jup_rw _ _ _ _ _ a]
    have z149 : ∀ j, j ≠ 7 → j ≠ 8 → Z 149 j = Y 149 j := fun j a b => by rw [← hZ, jup_rw _ _ _ _ _ (by omega), jup_row _ _ _ _ _ b, jup_row _ _ _ _ _ a]
    have zx : ∀ k, ¬ (181 ≤ k ∧ k ≤ 189) → k ≠ 149 → k ≠ 151 → k ≠ 227 → k ≠ 228 → Z k = X k := fun k a b c e f => by rw [zk k b c, m1 k a b e f]
    have zj : ∀ j, sN j → j ≠ 1 → j ≠ 7 → j ≠ 8 → Z 149 j = X 149 j := fun j a b c e => by rw [z149 j c e, m3 j a b]
    refine ⟨Z, ?_, ?_, fun a ha => zx a (by omega) (by omega) (by omega) (by omega) (by omega)⟩
    · rw [h_X12_pit_110, h5, if_neg hne, jup_row Y 149 7 _ 6 (by omega), h6, jup_row _ 149 8 _ 5 (by omega), jup_row Y 149 7 _ 5 (by omega), h5, if_neg hne, gr_149_9 hG, gl_151 hG, jup_rw _ 149 _ _ 151 (by omega), jup_rw _ 149 _ _ 151 (by omega), y151, hZ]
      simp only [Int.reduceLE, Int.reduceLT, reduceIte]
    · have up : mPlan Z (aPl A) := by
        obtain ⟨p1, p2, p3, p4, p5, p6, p7⟩ := r3
        have hn := pOk_n hV.2.1
        have hcc := pCe_le hV.2.1
        have u : ∀ k j, 181 ≤ k → k ≤ 189 → hiL k ≤ j → Z k j = X k j := fun k j a b c => by rw [zk k (by omega) (by omega), m2 k j a b c]
        have fo : ∀ w : Nat, w < 3 → ∀ o, mFo X w o → mFo Z w o := fun w hw o ho => by
          have z7 : Z 187 (3 + w) = X 187 (3 + w) := u 187 _ (by omega) (by omega) (by show (3 : Int) ≤ _; omega)
          have z8 : Z 188 (3 + w) = X 188 (3 + w) := u 188 _ (by omega) (by omega) (by show (3 : Int) ≤ _; omega)
          cases o with
          | none => show Z 187 (3 + w) = -1; rw [z7]; exact ho
          | some l =>
            obtain ⟨x1, x2, x3, x4⟩ := ho
            exact ⟨by rw [z7]; exact x1, by rw [z7, z8]; exact x2, by rw [z8]; exact x3, fun i hi => by rw [z7, u 189 _ (by omega) (by omega) (by show (1600 : Int) ≤ _; omega)]; exact x4 i hi⟩
        have u1 : ∀ j, 6 ≤ j → Z 181 j = X 181 j := fun j hj => u 181 j (by omega) (by omega) hj
        have u6 : ∀ j, 3 ≤ j → Z 186 j = X 186 j := fun j hj => u 186 j (by omega) (by omega) hj
        refine ⟨by rw [zj 51 (by unfold sN; omega) (by omega) (by omega) (by omega)]; exact p1, by rw [u1 6 (by omega), u1 7 (by omega), u1 8 (by omega), u1 9 (by omega), u1 10 (by omega), u1 11 (by omega)]; exact p2, by rw [u6 3 (by omega), u6 4 (by omega), u6 5 (by omega)]; exact p3, ⟨fo 0 (by omega) _ p4.1, fo 1 (by omega) _ p4.2.1, fo 2 (by omega) _ p4.2.2⟩, fun k k0 k1 => ?_, fun k k0 k1 => ?_, fun r c q0 q1 q2 q3 => ?_⟩
        · rw [u 183 _ (by omega) (by omega) (by show (15 : Int) ≤ _; omega), u 183 _ (by omega) (by omega) (by show (15 : Int) ≤ _; omega), u 183 _ (by omega) (by omega) (by show (15 : Int) ≤ _; omega), u 182 _ (by omega) (by omega) (by show (12 : Int) ≤ _; omega)]; exact p5 k k0 k1
        · rw [u 185 _ (by omega) (by omega) (by show (6 : Int) ≤ _; omega), u 182 _ (by omega) (by omega) (by show (12 : Int) ≤ _; omega)]; exact p6 k k0 k1
        · rw [u 184 _ (by omega) (by omega) (by show (48 : Int) ≤ _; omega)]; exact p7 r c q0 q1 q2 q3
      unfold sN at zj
      refine ⟨⟨by rw [z149 1 (by omega) (by omega)]; exact m4, fun i i0 i1 => by have : i < 0 := i1; omega⟩, ⟨by rw [← hZ, jup_rw _ _ _ _ _ (by omega), jup_row _ _ _ _ _ (by omega), jup_same]; rfl, by rw [← hZ, jup_rw _ _ _ _ _ (by omega), jup_same]; rfl⟩, up, mGr_fr (zx _ (by omega) (by omega) (by omega) (by omega) (by omega)) r4, mHi_fr (zj _ (by omega) (by omega) (by omega) (by omega)) (zj _ (by omega) (by omega) (by omega) (by omega)) (zx _ (by omega) (by omega) (by omega) (by omega) (by omega)) r5, mJu_fr (fun j a b => zj j (by omega) (by omega) (by omega) (by omega)) r6, mBo_fr (zj _ (by omega) (by omega) (by omega) (by omega)) (zx _ (by omega) (by omega) (by omega) (by omega) (by omega)) r7, by rw [zj 80 (by omega) (by omega) (by omega) (by omega)]; exact r8, mPi_fr (zj _ (by omega) (by omega) (by omega) (by omega)) (zx _ (by omega) (by omega) (by omega) (by omega) (by omega)) r9, fun k k0 k1 => ?_, mWd_fr (fun a ha => zx a (by omega) (by omega) (by omega) (by omega) (by omega)) r11⟩
      show Z 151 k = if k = 1 then jadd (aRf A k) 1 else aRf A k
      by_cases y : k = 1
      · rw [if_pos y, y, ← hZ, jup_same]
      · rw [if_neg y, ← hZ, jup_row _ _ _ _ _ y, jup_rw _ _ _ _ _ (by omega), jup_rw _ _ _ _ _ (by omega), m1 151 (by omega) (by omega) (by omega) (by omega)]
        exact r10 k k0 k1
  have good : ∀ (Y : jX) (v1 : Int) (q : aK × aP) (z : Int), mfZ Y2 Y → mPs Y (aTn A, aTp A) q.2 q.1 z → so (aTn A, aTp A) q.1 = 0 → Y 149 50 = pN q.2 → dOk q.2 → 1 ≤ pN q.2 → ∃ X', jN (d + 59) 214 110 [(22, 149), (0, v1)] [] (G, Y) = some (pN q.2, (G, X')) ∧ RM (nPit A q.2) X' ∧ ∀ a, a < 149 → X' a = X a := fun Y v1 q z hf hm h0 h50 hd h1 => by
    obtain ⟨m1, m2, m3, m4⟩ := FR Y hf
    have hin := mK_in hm.2.1
    have ml := mPs_lk hm
    have fl := lk_0 Y q.1
    have l50 : lk Y q.1 149 50 = pN q.2 := by rw [lk_j Y q.1 50 (by omega)]; exact h50
    have run : jN (d + 59) 214 110 [(22, 149), (0, v1)] [] (G, Y) = (jD (d + 59) 215 [(22, 149)] (G, jup (jup (lk Y q.1) 149 7 0) 149 8 (-1))).bind fun q2 => some (q2.2.2 149 50, (q2.2.1, q2.2.2)) := by
      rw [h_X12_pit_110, if_pos (show (0 : Int) ≤ 149 by omega), if_pos hm.2.2.1.1, if_pos (show (0 : Int) ≤ 149 by omega), t_look (d + 58) hG hT hm.1 hm.2.1]
      simp only [Option.bind_some]
      rw [if_pos ((tat_so hT hin).2 h0), ml.2.2.1.1, jup_row _ 149 7 _ 6 (by omega), ml.2.2.1.2, jup_row _ 149 8 _ 5 (by omega), jup_row _ 149 7 _ 5 (by omega), ml.2.2.1.1]
      simp only [Int.reduceLE, reduceIte]
    generalize lk Y q.1 = W at *
    have m7 : mPs (jup (jup W 149 7 0) 149 8 (-1)) (aTn A, aTp A) q.2 q.1 z := by
      have e : ∀ j, j ≠ 7 → j ≠ 8 → jup (jup W 149 7 0) 149 8 (-1) 149 j = W 149 j := fun j a b => by rw [jup_row _ _ _ _ _ b, jup_row _ _ _ _ _ a]
      have e' : ∀ k, k ≠ 149 → jup (jup W 149 7 0) 149 8 (-1) k = W k := fun k hk => by rw [jup_rw _ _ _ _ _ hk, jup_rw _ _ _ _ _ hk]
      obtain ⟨⟨⟨x1, x2⟩, x3⟩, b, c, f, g⟩ := ml
      exact ⟨⟨⟨by rw [e 3 (by omega) (by omega)]; exact x1, by rw [e' 150 (by omega)]; exact x2⟩, mWd_fr (fun x hx => e' x (by omega)) x3⟩, mK_e (e 2 (by omega) (by omega)) (e 4 (by omega) (by omega)) b, by rw [e 5 (by omega) (by omega), e 6 (by omega) (by omega)]; exact c, mDr_fr (fun k x y => e' k (by omega)) (e 49 (by omega) (by omega)) f, g⟩
    obtain ⟨Z, s1, s2, s3, s4, s5, s6, s7, s8⟩ := t_stands (d + 58) hG hd.1 h1 m7 (by have := hm.2.2.2.2; have := hin.2; have : (aTn A, aTp A).1 = aTn A := rfl; omega)
    have w149 : ∀ j, j ≠ 7 → j ≠ 8 → j ≠ 51 → j ≠ 65 → j ≠ 78 → j ≠ 81 → Z 149 j = W 149 j := fun j a b c e f g => by rw [s8 j c e f g, jup_row _ _ _ _ _ b, jup_row _ _ _ _ _ a]
    have wj : ∀ j, ¬ (4 ≤ j ∧ j ≤ 6) → j ≠ 2 → j ≠ 7 → j ≠ 8 → j ≠ 51 → j ≠ 65 → j ≠ 78 → j ≠ 81 → Z 149 j = Y 149 j := fun j a b c e f g h i => by rw [w149 j c e f g h i, fl.2 j b a]
    have wk : ∀ k, k ≠ 149 → ¬ (181 ≤ k ∧ k ≤ 190) → Z k = Y k := fun k a b => by rw [s7 k a b, jup_rw _ _ _ _ _ a, jup_rw _ _ _ _ _ a, fl.1 k a]
    have wx : ∀ k, k ≠ 149 → ¬ (181 ≤ k ∧ k ≤ 190) → k ≠ 227 → k ≠ 228 → Z k = X k := fun k a b c e => by rw [wk k a b, m1 k (by omega) a c e]
    have wn : ∀ j, j = 79 ∨ j = 80 ∨ j = 119 → Z 149 j = X 149 j := fun j hj => by rw [wj j (by omega) (by omega) (by omega) (by omega) (by omega) (by omega) (by omega) (by omega), m3 j (by unfold sN; omega) (by omega)]
    refine ⟨Z, ?_, ?_, fun a ha => wx a (by omega) (by omega) (by omega) (by omega)⟩
    · rw [run, s1]
      simp only [Option.bind_some]
      rw [w149 50 (by omega) (by omega) (by omega) (by omega) (by omega) (by omega), l50]
    · refine ⟨⟨by rw [wj 1 (by omega) (by omega) (by omega) (by omega) (by omega) (by omega) (by omega) (by omega)]; exact m4, fun i i0 i1 => by have : i < 0 := i1; omega⟩, ⟨by rw [s8 7 (by omega) (by omega) (by omega) (by omega), jup_row _ _ _ _ _ (by omega), jup_same]; rfl, by rw [s8 8 (by omega) (by omega) (by omega) (by omega), jup_same]; rfl⟩, s2, s3, ⟨s4, by rw [wn 79 (by omega)]; exact r5.2.1, by rw [wn 79 (by omega)]; exact r5.2.2.1, fun j hj => absurd hj (by simp [aHi, nPit, setF, setT, setB, setJ, setH])⟩, s6, ⟨s5, fun i i0 i1 => by have : i < 3 * 0 := i1; omega⟩, by rw [wn 80 (by omega)]; exact r8, mPi_fr (wn 119 (by omega)) (wx 230 (by omega) (by omega) (by omega) (by omega)) r9, mRf_fr (wx 151 (by omega) (by omega) (by omega) (by omega)) r10, mWd_fr (fun a ha => wx a (by omega) (by omega) (by omega) (by omega)) r11⟩
  -- the first statement
  have hP := t_pitS (d + 51) hG hT m0 dOk_0.1 rfl
  have hin := kp0_in hT
  have hg := bodS_gd hT hin dOk_0 (by show (0 : Int) < 60; omega)
  have eb : bodS (aTn A, aTp A) P00 (kp0 (aTn A, aTp A)) = pitS (aTn A, aTp A) P00 (kp0 (aTn A, aTp A)) := by unfold bodS; rw [if_pos (show pN P00 = 0 from rfl)]
  have hrd := rdP_ok hT
  have E : rdP (aTn A, aTp A) = bnp (rd1 (aTn A, aTp A) P00 (kp0 (aTn A, aTp A))) (fun κ' P' => rdN (aTn A, aTp A) 60 P' κ') := by
    show (if so (aTn A, aTp A) (kp0 (aTn A, aTp A)) = 0 then (if pN P00 = 0 then (.inl (1, (kp0 (aTn A, aTp A)).1) : rp) else .inr (kp0 (aTn A, aTp A), P00)) else if pN P00 = 60 then .inl (5, (kp0 (aTn A, aTp A)).1) else bnp (rd1 (aTn A, aTp A) P00 (kp0 (aTn A, aTp A))) (fun κ' P' => rdN (aTn A, aTp A) 60 P' κ')) = _
    by_cases q0 : so (aTn A, aTp A) (kp0 (aTn A, aTp A)) = 0
    · have hw : ¬ wd (aTn A, aTp A) (kp0 (aTn A, aTp A)) = 0 := fun y => by
        have := wd_so (T := (aTn A, aTp A)) (κ := kp0 (aTn A, aTp A)) (by omega)
        omega
      rw [if_pos q0, if_pos (show pN P00 = 0 from rfl)]
      unfold rd1
      rw [eb]
      unfold pitS tW
      rw [if_neg hw]
      rfl
    · rw [if_neg q0, if_neg (show ¬ pN P00 = 60 from fun y => by have : (0 : Int) = 60 := y; omega)]
  have go : ∀ (w : Int) (Y : jX), jD (d + 59) 206 [(22, 149)] (G, Y2) = some (w, (G, Y)) → ((jD (d + 59) 206 [(22, 149)] (G, Y2)).bind fun q1 => jN (d + 59) 214 110 [(22, 149), (0, 3)] [] (q1.2.1, jup q1.2.2 149 50 1)) = jN (d + 59) 214 110 [(22, 149), (0, 3)] [] (G, jup Y 149 50 1) := fun w Y h => by rw [h]; rfl
  have j5 : ∀ (Y : jX) (j : Int), j ≠ 50 → jup Y 149 50 1 149 j = Y 149 j := fun Y j h => jup_row _ _ _ _ _ h
  unfold ptA ptN
  unfold rd1 at E
  rw [eb] at E hg
  cases e : pitS (aTn A, aTp A) P00 (kp0 (aTn A, aTp A)) with
  | inl er =>
    rw [e] at hP E
    obtain ⟨w, Y, y1, y2, y3, y4, y5⟩ := hP
    have E' : rdP (aTn A, aTp A) = .inl er := E
    rw [E', go w Y y1]
    exact bad _ 3 er (mfZ_t (mfZ_P y5) (mfZ_50 _ _)) (by rw [j5 Y 5 (by omega)]; exact y2) (by rw [j5 Y 6 (by omega)]; exact y3) y4
  | inr p =>
    rw [e] at hP E hg
    obtain ⟨g1, g2, g3, g4⟩ := hg
    have g4' : pN p.2 = 0 := g4
    have hP' : enM G Y2 (aTn A, aTp A) (jD (d + 59) 206 [(22, 149)] (G, Y2)) (if mk (aTn A, aTp A) p.1 59 = true then .inr (nx (aTn A, aTp A) p.1, p.2) else .inl (1, p.1.1)) := hP
    have E2 : rdP (aTn A, aTp A) = bnp (if mk (aTn A, aTp A) p.1 59 = true then .inr (nx (aTn A, aTp A) p.1, incN p.2) else .inl (1, p.1.1)) (fun κ' P' => rdN (aTn A, aTp A) 60 P' κ') := E
    by_cases q59 : mk (aTn A, aTp A) p.1 59 = true
    · rw [if_pos q59] at hP' E2
      obtain ⟨w, Y, z, y1, y2, y3⟩ := hP'
      have E3 : rdP (aTn A, aTp A) = rdN (aTn A, aTp A) 60 (incN p.2) (nx (aTn A, aTp A) p.1) := E2
      have F1 := mfZ_t (mfZ_P y3) (mfZ_50 Y 1)
      have I := t_pit_n (d + 47) hG hT 3 60 (jup Y 149 50 1) (incN p.2) (nx (aTn A, aTp A) p.1) z (mPs_50 y2) g3 (by show 1 ≤ pN p.2 + 1; omega) (by rw [jup_same]; show _ = pN p.2 + 1; omega) (by show pN p.2 + 1 + ((60 : Nat) : Int) = 61; omega)
      rw [← E3] at I
      rw [go w Y y1]
      revert I hrd
      cases rdP (aTn A, aTp A) with
      | inl er =>
        rintro - ⟨W, b1, b2, b3, b4, b5⟩
        rw [b1]
        exact bad W 3 er (mfZ_t F1 b5) b2 b3 b4
      | inr q =>
        rintro ⟨h1, h2⟩ ⟨W, z', b1, b2, b3, b4, b5⟩
        rw [b1]
        exact good W 3 q z' (mfZ_t F1 b5) b2 b3 b4 h1 h2
    · rw [if_neg q59] at hP' E2
      obtain ⟨w, Y, y1, y2, y3, y4, y5⟩ := hP'
      have E' : rdP (aTn A, aTp A) = .inl (1, p.1.1) := E2
      rw [E', go w Y y1]
      exact bad _ 3 (1, p.1.1) (mfZ_t (mfZ_P y5) (mfZ_50 _ _)) (by rw [j5 Y 5 (by omega)]; exact y2) (by rw [j5 Y 6 (by omega)]; exact y3) y4
/-- the last of the 29 -/
theorem call_pit : okB 154 214 [] := ⟨ptA, ptN, c_pit, m_pit, fun _ h => ptN_AV h⟩
