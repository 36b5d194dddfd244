/-! PIT: the class's own call, whole -/
theorem nwh_0 : ∀ n : Nat, nwh (fun _ => 0) n = 0 := by
  intro n
  induction n with
  | zero => rfl
  | succ n ih => show nwh (fun _ => 0) n + (if (0 : Int) = 0 then 0 else 1) = 0; rw [ih, if_pos rfl]; rfl
theorem gNew_ok {P : aP} (hO : pOk P) : gOk P (gNew P) := by
  have hn := pOk_n hO
  have e : nwh (gCe (gNew P)) 48 = 0 := nwh_0 48
  refine ⟨show 0 ≤ pPr P by omega, show pPr P ≤ 20 by omega, Int.le_refl 0, ?_, Int.le_refl 0, ?_, fun k _ _ => ⟨Int.le_refl 0, ?_, fun _ => rfl⟩, fun c _ _ => ⟨Int.le_refl 0, show (0 : Int) ≤ 3 by omega, fun _ => rfl⟩⟩
  · rw [e]; show (0 : Int) ≤ _; omega
  · rw [e]; show (0 : Int) + 99 * (0 + 0 + 0 + 0 + 0) ≤ _; omega
  · rw [e]; show (0 : Int) ≤ _; omega
theorem rdN_ok {T : aT} (hT : okT T) : ∀ (m : Nat) (P : aP) (κ : aK), inT T κ → dOk P → pN P + m ≤ 61 → match rdN T m P κ with
  | .inl e => e.1 ≠ 0
  | .inr q => dOk q.2 ∧ 1 ≤ pN q.2 := by
  intro m
  induction m with
  | zero => intro P κ hin hd hm; show (5 : Int) ≠ 0; omega
  | succ m ih =>
    intro P κ hin hd hm
    unfold rdN
    have hn := (pOk_n hd.1).1
    by_cases q0 : so T κ = 0
    · rw [if_pos q0]
      by_cases q1 : pN P = 0
      · rw [if_pos q1]; show (1 : Int) ≠ 0; omega
      · rw [if_neg q1]; exact ⟨hd, show 1 ≤ pN P by omega⟩
    · rw [if_neg q0]
      by_cases q60 : pN P = 60
      · rw [if_pos q60]; show (5 : Int) ≠ 0; omega
      · rw [if_neg q60]
        have hg := bodS_gd hT hin hd (by omega)
        unfold rd1
        cases e : bodS T P κ with
        | inl er => rw [e] at hg; exact hg
        | inr p =>
          rw [e] at hg
          obtain ⟨g1, g2, g3, g4⟩ := hg
          show match bnp (if mk T p.1 59 = true then .inr (nx T p.1, incN p.2) else .inl (1, p.1.1)) (fun κ' P' => rdN T m P' κ') with
            | .inl e => _
            | .inr q => _
          by_cases q59 : mk T p.1 59 = true
          · rw [if_pos q59]
            exact ih (incN p.2) (nx T p.1) (nx_in g1).1 g3 (by show pN p.2 + 1 + m ≤ 61; omega)
          · rw [if_neg q59]; show (1 : Int) ≠ 0; omega
theorem rdP_ok {T : aT} (hT : okT T) : match rdP T with
  | .inl e => e.1 ≠ 0
  | .inr q => dOk q.2 ∧ 1 ≤ pN q.2 := rdN_ok hT 61 P00 (kp0 T) (kp0_in hT) dOk_0 (by show (0 : Int) + ((61 : Nat) : Int) ≤ 61; omega)
theorem ptN_AV {A : aA} (hV : AV A) : AV (ptN A) := by
  have h := rdP_ok (T := (aTn A, aTp A)) hV.1
  obtain ⟨v1, v2, v3, v4, v5, v6, v7⟩ := hV
  unfold ptN
  revert h
  cases rdP (aTn A, aTp A) with
  | inl e => intro _; exact ⟨⟨Int.le_refl 0, show (0 : Int) ≤ 1600 by omega, fun i i0 i1 => by have : i < 0 := i1; omega⟩, v2, v3, v4, v5, v6, v7⟩
  | inr q => rintro ⟨h1, h2⟩; exact ⟨⟨Int.le_refl 0, show (0 : Int) ≤ 1600 by omega, fun i i0 i1 => by have : i < 0 := i1; omega⟩, h1.1, gNew_ok h1.1, ⟨show 0 ≤ 20 by omega, fun h hh => absurd hh (by simp [aHi, nPit, setF, setT, setB, setJ, setH])⟩, ⟨Int.le_refl 0, show (0 : Int) ≤ 20 by omega, fun i i0 i1 => by have : i < 3 * 0 := i1; omega⟩, v6, v7⟩
theorem c_pit : okC 154 [] ptA ptN := by
  intro d G X A hG hR hV
  obtain ⟨r1, r2, r3, r4, r5, r6, r7, r8, r9, r10, r11⟩ := id hR
  have hT : okT (aTn A, aTp A) := hV.1
  have hp : cTp X (aTn A, aTp A) := r1
  obtain ⟨G1, X1, hG1, f1, hq⟩ := s_readPlan (d + 18) hG hT hp
  have t1 : X1 33 1 = aTn A := by rw [f1 33 (by omega) (by omega) (by omega)]; exact r1.1
  have e1 : jD (d + 59) 145 [(20, 33), (0, 0)] (G1, X1) = some (0, (G1, jup X1 33 1 0)) := s_shorten (d + 58) 33 0 (by omega) (by omega) (by rw [t1]; exact hV.1.1)
  generalize hY : jup (jup (jup X1 33 1 0) 0 16 (X1 28 9)) 0 17 (X1 28 10) = Y
  have ek : jD (d + 59) 182 [(21, 0)] (G1, jup X1 33 1 0) = some (0, (G1, Y)) := by
    rw [e_X11_keepFault, gr_0_10 hG1, jup_rw _ 0 _ _ 28 (by omega), jup_rw _ 33 _ _ 28 (by omega), hY]
    simp only [Int.reduceLE, reduceIte]
  have yf : ∀ k, ¬ (13 ≤ k ∧ k ≤ 24) → k ≠ 0 → k ≠ 28 → k ≠ 32 → k ≠ 33 → Y k = X k := fun k a b c e g => by rw [← hY, jup_rw _ _ _ _ _ b, jup_rw _ _ _ _ _ b, jup_rw _ _ _ _ _ g, f1 k a c e]
  have y33 : Y 33 1 = 0 := by rw [← hY, jup_rw _ _ _ _ _ (by omega), jup_rw _ _ _ _ _ (by omega), jup_same]
  have y16 : Y 0 16 = X1 28 9 := by rw [← hY, jup_row _ _ _ _ _ (by omega), jup_same]
  have y17 : Y 0 17 = X1 28 10 := by rw [← hY, jup_same]
  have y0 : ∀ j, j ≠ 16 → j ≠ 17 → Y 0 j = X 0 j := fun j a b => by rw [← hY, jup_row _ _ _ _ _ b, jup_row _ _ _ _ _ a, jup_rw _ _ _ _ _ (by omega), f1 0 (by omega) (by omega) (by omega)]
  have yd : ∀ k, 13 ≤ k → k ≤ 24 → Y k = X1 k := fun k a b => by rw [← hY, jup_rw _ _ _ _ _ (by omega), jup_rw _ _ _ _ _ (by omega), jup_rw _ _ _ _ _ (by omega)]
  rw [e_X11_pit, gr_0_11 hG, gr_0_0 hG]
  simp only [Int.reduceLE, reduceIte]
  unfold ptA ptN
  cases e : rdP (aTn A, aTp A) with
  | inl ee =>
    rw [e] at hq
    obtain ⟨q1, q2, q3⟩ := hq
    rw [q1]
    simp only [Option.bind_some]
    rw [gr_0_0 hG1]
    simp only [Int.reduceLE, reduceIte]
    rw [e1]
    simp only [Option.bind_some]
    rw [ek]
    simp only [Option.bind_some]
    rw [s_refuse (d + 58) 1 hG1 (by omega) (by omega)]
    refine ⟨G1, jup Y 147 1 (jadd (Y 147 1) 1), rfl, hG1, RC_refu 1 (by omega) (by omega) ?_, fun k hk => by rw [jup_rw _ _ _ _ _ (by omega), yf k (by omega) (by omega) (by omega) (by omega) (by omega)]⟩
    have w : ∀ k, sR k → k ≠ 0 → k ≠ 33 → Y k = X k := fun k hk a b => by unfold sR at hk; exact yf k (by omega) a (by omega) (by omega) b
    unfold sR at w
    exact ⟨⟨y33, fun i i0 i1 => by have : i < 0 := i1; omega⟩, ⟨by rw [y16]; exact q2, by rw [y17]; exact q3⟩, cPlan_fr (fun a b c => w a (by omega) (by omega) (by omega)) r3, cGr_fr (w _ (by omega) (by omega) (by omega)) (w _ (by omega) (by omega) (by omega)) (w _ (by omega) (by omega) (by omega)) r4, cHi_fr (fun a b c => w a (by omega) (by omega) (by omega)) r5, cJu_fr (y0 15 (by omega) (by omega)) (w _ (by omega) (by omega) (by omega)) r6, cBo_fr (w _ (by omega) (by omega) (by omega)) (w _ (by omega) (by omega) (by omega)) r7, by rw [y0 18 (by omega) (by omega)]; exact r8, cPi_fr (w _ (by omega) (by omega) (by omega)) (w _ (by omega) (by omega) (by omega)) r9, cRf_fr (w _ (by omega) (by omega) (by omega)) r10, cCa_fr (w _ (by omega) (by omega) (by omega)) (w _ (by omega) (by omega) (by omega)) (w _ (by omega) (by omega) (by omega)) r11⟩
  | inr p =>
    rw [e] at hq
    obtain ⟨z, q1, q2, q3, q4, q5, q6, q7⟩ := hq
    have D1 : cDr Y p.2 z := by
      unfold cDr dFo at q2 ⊢
      rw [yd 13 (by omega) (by omega), yd 14 (by omega) (by omega), yd 15 (by omega) (by omega), yd 16 (by omega) (by omega), yd 17 (by omega) (by omega), yd 18 (by omega) (by omega), yd 19 (by omega) (by omega), yd 20 (by omega) (by omega), yd 21 (by omega) (by omega), yd 22 (by omega) (by omega), yd 24 (by omega) (by omega)]
      exact q2
    obtain ⟨X2, e2, P2, f2⟩ := s_takeOver (d + 55) hG1 q6.1 D1 q3
    obtain ⟨X3, e3, g3, f3⟩ := s_start (d + 57) hG1 P2
    generalize hW : jup (jup (jup (jup (jup X3 137 3 0) 42 2 0) 104 9 (-1)) 104 10 (-1)) 0 15 0 = W
    have wf : ∀ k, k ≠ 0 → k ≠ 42 → k ≠ 104 → k ≠ 137 → W k = X3 k := fun k a b c e => by rw [← hW, jup_rw _ _ _ _ _ a, jup_rw _ _ _ _ _ c, jup_rw _ _ _ _ _ c, jup_rw _ _ _ _ _ b, jup_rw _ _ _ _ _ e]
    have w137 : W 137 3 = 0 := by rw [← hW, jup_rw _ _ _ _ _ (by omega), jup_rw _ _ _ _ _ (by omega), jup_rw _ _ _ _ _ (by omega), jup_rw _ _ _ _ _ (by omega), jup_same]
    have w42 : W 42 2 = 0 ∧ W 42 1 = X3 42 1 := ⟨by rw [← hW, jup_rw _ _ _ _ _ (by omega), jup_rw _ _ _ _ _ (by omega), jup_rw _ _ _ _ _ (by omega), jup_same], by rw [← hW, jup_rw _ _ _ _ _ (by omega), jup_rw _ _ _ _ _ (by omega), jup_rw _ _ _ _ _ (by omega), jup_row _ _ _ _ _ (by omega), jup_rw _ _ _ _ _ (by omega)]⟩
    have w104 : W 104 9 = -1 ∧ W 104 10 = -1 := ⟨by rw [← hW, jup_rw _ _ _ _ _ (by omega), jup_row _ _ _ _ _ (by omega), jup_same], by rw [← hW, jup_rw _ _ _ _ _ (by omega), jup_same]⟩
    have w0 : W 0 15 = 0 ∧ ∀ j, j ≠ 15 → W 0 j = X3 0 j := ⟨by rw [← hW, jup_same], fun j hj => by rw [← hW, jup_row _ _ _ _ _ hj, jup_rw _ _ _ _ _ (by omega), jup_rw _ _ _ _ _ (by omega), jup_rw _ _ _ _ _ (by omega), jup_rw _ _ _ _ _ (by omega)]⟩
    have x30 : X3 0 = Y 0 := by rw [f3 0 (by omega) (by omega) (by omega), f2 0 (by omega)]
    have wx : ∀ k, ¬ (0 ≤ k ∧ k ≤ 28) → k ≠ 32 → k ≠ 33 → k ≠ 42 → k ≠ 104 → k ≠ 137 → W k = X k := fun k a b c e g h => by rw [wf k (by omega) e g h, f3 k (by omega) (by omega) (by omega), f2 k (by omega), yf k (by omega) (by omega) (by omega) b c]
    have wP : cPlan W p.2 := cPlan_fr (fun a b c => by rw [wf a (by omega) (by omega) (by omega) (by omega), f3 a (by omega) (by omega) (by omega)]) P2
    rw [q1]
    simp only [Option.bind_some]
    rw [gr_0_0 hG1]
    simp only [Int.reduceLE, reduceIte]
    rw [e1]
    simp only [Option.bind_some]
    rw [ek]
    simp only [Option.bind_some]
    rw [if_neg (show ¬ (1 : Int) = 0 by omega), gr_0_2 hG1, gr_0_3 hG1]
    simp only [Int.reduceLE, reduceIte]
    rw [e2]
    simp only [Option.bind_some]
    rw [gr_0_4 hG1, gr_0_2 hG1]
    simp only [Int.reduceLE, reduceIte]
    rw [e3]
    simp only [Option.bind_some]
    rw [gr_0_8 hG1, e_X0_forget]
    simp only [Int.reduceLE, reduceIte, Option.bind_some]
    rw [gr_0_6 hG1, e_X2_forget]
    simp only [Int.reduceLE, reduceIte, Option.bind_some]
    rw [gr_0_7 hG1, e_X8_forget]
    simp only [Int.reduceLE, reduceIte, Option.bind_some]
    rw [gr_0_2 hG1, hW]
    simp only [Int.reduceLE, reduceIte]
    refine ⟨G1, W, by rw [(cPlan_at wP).1], hG1, ?_, fun k hk => wx k (by omega) (by omega) (by omega) (by omega) (by omega) (by omega)⟩
    have h5 := r5
    refine ⟨⟨?_, fun i i0 i1 => by have : i < 0 := i1; omega⟩, ⟨?_, ?_⟩, wP, cGr_fr (wf _ (by omega) (by omega) (by omega) (by omega)) (wf _ (by omega) (by omega) (by omega) (by omega)) (wf _ (by omega) (by omega) (by omega) (by omega)) g3, ⟨w42.1, ?_, ?_, fun j hj => absurd hj (by simp [aHi, nPit, setF, setT, setB, setJ, setH])⟩, w0.1, ⟨w137, fun i i0 i1 => by have : i < 3 * 0 := i1; omega⟩, ?_, cPi_fr (wx _ (by omega) (by omega) (by omega) (by omega) (by omega) (by omega)) (wx _ (by omega) (by omega) (by omega) (by omega) (by omega) (by omega)) r9, cRf_fr (wx _ (by omega) (by omega) (by omega) (by omega) (by omega) (by omega)) r10, ⟨Or.inl w104.1, Or.inl w104.2⟩⟩
    · rw [wf 33 (by omega) (by omega) (by omega) (by omega), f3 33 (by omega) (by omega) (by omega), f2 33 (by omega)]; exact y33
    · rw [w0.2 16 (by omega), x30, y16]; exact q4
    · rw [w0.2 17 (by omega), x30, y17]; exact q5
    · rw [w42.2, f3 42 (by omega) (by omega) (by omega), f2 42 (by omega), yf 42 (by omega) (by omega) (by omega) (by omega) (by omega)]; exact r5.2.1
    · rw [w42.2, f3 42 (by omega) (by omega) (by omega), f2 42 (by omega), yf 42 (by omega) (by omega) (by omega) (by omega) (by omega)]; exact r5.2.2.1
    · rw [w0.2 18 (by omega), x30, y0 18 (by omega) (by omega)]; exact r8
