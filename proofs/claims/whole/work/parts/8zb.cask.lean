/-! ASK: the question, and the class -/
def kp0 (T : aT) : aK := (rn bB T 0, false)
theorem kp0_in {T : aT} (h : okT T) : inT T (kp0 T) := ⟨rn_ge bB T 0, rn_up bB T h.1⟩
def qsR (T : aT) : (Int × Int) ⊕ (Int × List Int) := if wd T (kp0 T) < 29 then .inl (1, (kp0 T).1) else match (if wd T (kp0 T) ≤ 31 then tst T (fac T 2 6) (nx T (kp0 T)) else sms T (prt T 2 6) (nx T (kp0 T))) with
  | .inl e => .inl e
  | .inr q => if so T q.1 = 0 then .inr (wd T (kp0 T), q.2) else .inl (1, q.1.1)
def tbG (γ : aG) : Int → Int := fun x => if 0 ≤ x ∧ x < 5 then gSt γ x else 0
def goS (w a v c : Int) : Int := if w = 29 then (if a = -1 ∧ v ≠ 0 then c else a) else if w = 30 then (if v ≠ 0 then c else a) else if w = 31 ∨ w = 32 then a + v else if w = 33 then (if c = 0 then v else if a < v then v else a) else (if c = 0 then v else if v < a then v else a)
noncomputable def qaS (P : aP) (γ : aG) (w : Int) (l : List Int) : Int := ovC (fun c a => goS w a (evv (fcC P (gCe γ) c) (tbG γ) l) c) (pCe P).toNat 0 (if w = 29 ∨ w = 30 then -1 else 0)
noncomputable def asA (A : aA) : Int := if pN (aPl A) = 0 then -1000000000000000 else match qsR (aTn A, aTp A) with
  | .inl _ => -1000000000000000
  | .inr q => qaS (aPl A) (aGr A) q.1 q.2
noncomputable def asN (A : aA) : aA := if pN (aPl A) = 0 then setT A 0 (aTp A) else match qsR (aTn A, aTp A) with
  | .inl e => setF (setT A 0 (aTp A)) e.1 e.2
  | .inr _ => setF (setT A 0 (aTp A)) 0 (-1)
/-- what holds of a question that is read -/
theorem qsR_ok {T : aT} (hT : okT T) : match qsR T with
  | .inl e => e.1 ≠ 0
  | .inr q => (29 ≤ q.1 ∧ q.1 ≤ 34) ∧ wfC 2 (if q.1 ≤ 31 then 1 else 0) q.2 := by
  have hin := kp0_in hT
  have hT1 := hT.2.1
  have hb := wd_b T (kp0 T)
  have h0 := hin.1
  unfold qsR
  by_cases q1 : wd T (kp0 T) < 29
  · rw [if_pos q1]; show (1 : Int) ≠ 0; omega
  · rw [if_neg q1]
    have hn := nx_in hin
    have hn2 := wd_nx hin (by omega)
    have fin : ∀ (H t : Nat) (R : rs), gdR T 2 H t (nx T (kp0 T)) R → H ≤ 60 → (t = if wd T (kp0 T) ≤ 31 then 1 else 0) → match (match R with
        | .inl e => (.inl e : (Int × Int) ⊕ (Int × List Int))
        | .inr q => if so T q.1 = 0 then .inr (wd T (kp0 T), q.2) else .inl (1, q.1.1)) with
      | .inl e => e.1 ≠ 0
      | .inr q => (29 ≤ q.1 ∧ q.1 ≤ 34) ∧ wfC 2 (if q.1 ≤ 31 then 1 else 0) q.2 := fun H t R hg hH ht => by
      cases R with
      | inl e => exact hg
      | inr q =>
        dsimp only
        by_cases q3 : so T q.1 = 0
        · rw [if_pos q3]
          obtain ⟨g1, g2, g3, g4, g5, g6⟩ := hg
          have g1' := g1.2
          have g2' : (nx T (kp0 T)).1 + q.2.length ≤ q.1.1 := g2
          refine ⟨⟨by omega, by omega⟩, by show q.2.length ≤ 1599; omega, ?_, ?_, g6⟩
          · have := g4 0 [] (by omega); rw [List.append_nil] at this; exact this
          · have := g5 [] []; rw [List.append_nil] at this; rw [this, ht]; rfl
        · rw [if_neg q3]; show (1 : Int) ≠ 0; omega
    by_cases q2 : wd T (kp0 T) ≤ 31
    · rw [if_pos q2]
      exact fin (3 * 6 + 4 + 2) 1 _ (tst_gd hT1 (fac_gd hT1 (by omega) 6) _ hn.1) (by omega) (by rw [if_pos q2])
    · rw [if_neg q2]
      exact fin (3 * 6 + 1 + 2) 0 _ (sms_gd hT1 (prt_gd hT1 (by omega) 6) _ hn.1) (by omega) (by rw [if_neg q2])
theorem s_begin (d : Nat) {G : jG} {X : jX} {T : aT} (hG : GG G) (hT : okT T) (hp : cTp X T) : ∃ G' X', jD (d + 3) 85 [(17, 28), (20, 33), (24, 24)] (G, X) = some (0, (G', X')) ∧ RG G' ∧ cTp X' T ∧ cK X' T (kp0 T) ∧ (X' 28 3 = 0 ∧ X' 28 5 = 0 ∧ X' 28 9 = 0 ∧ X' 28 10 = -1) ∧ ∀ k, k ≠ 28 → X' k = X k := by
  have hR : RG (jsetR ((jsetR (G, X) 28 0 33).1, X) 28 1 24).1 := by
    refine ⟨GG_set (GG_set hG (Or.inl rfl)) (Or.inr rfl), ?_, ?_⟩
    · show jup (jup (gR G) 28 0 33) 28 1 24 28 0 = 33
      rw [jup_row _ _ _ _ _ (by omega), jup_same]
    · show jup (jup (gR G) 28 0 33) 28 1 24 28 1 = 24
      rw [jup_same]
  rw [e_X7_begin]
  simp only [Int.reduceLE, reduceIte]
  generalize hX0 : jup (jup (jup (jup (jup (jup (jup X 28 3 0) 28 5 0) 28 9 0) 28 10 (-1)) 28 6 0) 28 7 0) 28 8 0 = X0
  have f0 : ∀ k, k ≠ 28 → X0 k = X k := fun k hk => by rw [← hX0]; simp only [jup_rw _ _ _ _ _ hk]
  have x6 : X0 28 6 = 0 := by rw [← hX0, jup_row _ _ _ _ _ (by omega), jup_row _ _ _ _ _ (by omega), jup_same]
  have x8 : X0 28 8 = 0 := by rw [← hX0, jup_same]
  have x3 : X0 28 3 = 0 := by rw [← hX0, jup_row _ _ _ _ _ (by omega), jup_row _ _ _ _ _ (by omega), jup_row _ _ _ _ _ (by omega), jup_row _ _ _ _ _ (by omega), jup_row _ _ _ _ _ (by omega), jup_row _ _ _ _ _ (by omega), jup_same]
  have x5 : X0 28 5 = 0 := by rw [← hX0, jup_row _ _ _ _ _ (by omega), jup_row _ _ _ _ _ (by omega), jup_row _ _ _ _ _ (by omega), jup_row _ _ _ _ _ (by omega), jup_row _ _ _ _ _ (by omega), jup_same]
  have x9 : X0 28 9 = 0 := by rw [← hX0, jup_row _ _ _ _ _ (by omega), jup_row _ _ _ _ _ (by omega), jup_row _ _ _ _ _ (by omega), jup_row _ _ _ _ _ (by omega), jup_same]
  have x10 : X0 28 10 = -1 := by rw [← hX0, jup_row _ _ _ _ _ (by omega), jup_row _ _ _ _ _ (by omega), jup_row _ _ _ _ _ (by omega), jup_same]
  have hp0 : cTp X0 T := cTp_fr (f0 33 (by omega)) (f0 34 (by omega)) hp
  obtain ⟨X1, e1, k1, f1⟩ := s_step0 d hR hT hp0 0 0 x6 x8 (by omega) hT.1
  rw [e1]
  have hk : (rn bB T 0, decide (((0 : Int) = 1 ∨ (0 : Int) = 2) ∧ rn bB T 0 = 0)) = kp0 T := by
    unfold kp0
    rw [decide_eq_false (fun y => by omega)]
  rw [hk] at k1
  exact ⟨_, X1, rfl, hR, cTp_fr (f1.1 33 (by omega)) (f1.1 34 (by omega)) hp0, k1, ⟨by rw [f1.2 3 (by omega)]; exact x3, by rw [f1.2 5 (by omega)]; exact x5, by rw [f1.2 9 (by omega)]; exact x9, by rw [f1.2 10 (by omega)]; exact x10⟩, fun k hk => by rw [f1.1 k hk, f0 k hk]⟩
theorem s_isEnd (d : Nat) {G : jG} {X : jX} {T : aT} {κ : aK} (hk : cK X T κ) : jD (d + 1) 91 [(17, 28)] (G, X) = some (if so T κ = 0 then 1 else 0, (G, X)) := by
  rw [e_X7_isEnd, hk.1]
  simp only [Int.reduceLE, reduceIte]
  by_cases q : so T κ = 0
  · rw [if_pos q, if_pos q]
  · rw [if_neg q, if_neg q]
/-- readQuestion -/
theorem s_readQuestion (d : Nat) {G : jG} {X : jX} {T : aT} (hG : GG G) (hT : okT T) (hp : cTp X T) : ∃ G' X', GG G' ∧ (∀ k, k ≠ 28 → k ≠ 24 → k ≠ 146 → X' k = X k) ∧ match qsR T with
  | .inl e => jD (d + 40) 80 [(16, 146), (20, 33), (24, 24)] (G, X) = some (0, (G', X')) ∧ X' 28 9 = e.1 ∧ X' 28 10 = e.2
  | .inr q => jD (d + 40) 80 [(16, 146), (20, 33), (24, 24)] (G, X) = some (1, (G', X')) ∧ X' 28 9 = 0 ∧ X' 28 10 = -1 ∧ X' 146 1 = q.1 ∧ (∀ i : Nat, i < q.2.length → X' 24 i = toC (q.2.getD i 0)) ∧ X' 24 q.2.length = 10000 := by
  have hT1 := hT.2.1
  have hin := kp0_in hT
  obtain ⟨G1, X1, e1, hR, p1, k1, ⟨x3, x5, x9, x10⟩, f1⟩ := s_begin (d + 36) hG hT hp
  have ew := s_wordHere (d + 37) hR hT p1 k1 hin
  have hb := wd_b T (kp0 T)
  have hn := nx_in hin
  have hin0 := hin.1
  have f2 : ∀ k, k ≠ 28 → k ≠ 146 → jup X1 146 1 (wd T (kp0 T)) k = X k := fun k a b => by rw [jup_rw _ _ _ _ _ b, f1 k a]
  rw [e_X6_readQuestion, gr_146_0 hG]
  simp only [Int.reduceLE, reduceIte]
  rw [e1]
  simp only [Option.bind_some]
  rw [gr_146_0 hR.1]
  simp only [Int.reduceLE, reduceIte]
  rw [ew]
  simp only [Option.bind_some]
  rw [jup_same, gr_146_0 hR.1]
  simp only [Int.reduceLE, reduceIte]
  have K2 : cK (jup X1 146 1 (wd T (kp0 T))) T (kp0 T) := by unfold cK at *; rw [jup_rw _ _ _ _ _ (by omega)]; exact k1
  unfold qsR
  by_cases q1 : wd T (kp0 T) < 29
  · rw [if_pos q1, if_pos q1, s_failHere (d + 38) K2]
    simp only [Option.bind_some, reduceIte]
    refine ⟨G1, _, hR.1, fun k a b c => ?_, rfl, ?_, ?_⟩
    · rw [jup_rw _ _ _ _ _ a, jup_rw _ _ _ _ _ a]; exact f2 k a c
    · rw [jup_row _ _ _ _ _ (by omega), jup_same]
    · rw [jup_same]
  · rw [if_neg q1, if_neg q1, e_X7_beginFormula]
    simp only [Int.reduceLE, reduceIte, Option.bind_some]
    generalize hX3 : jup (jup (jup X1 146 1 (wd T (kp0 T))) 28 4 2) 28 5 0 = X3
    have f3 : ∀ k, k ≠ 28 → k ≠ 146 → X3 k = X k := fun k a b => by rw [← hX3, jup_rw _ _ _ _ _ a, jup_rw _ _ _ _ _ a, f2 k a b]
    have g3 : ∀ j, j ≠ 4 → j ≠ 5 → X3 28 j = X1 28 j := fun j a b => by rw [← hX3, jup_row _ _ _ _ _ b, jup_row _ _ _ _ _ a, jup_rw _ _ _ _ _ (by omega)]
    have h146 : X3 146 1 = wd T (kp0 T) := by rw [← hX3, jup_rw _ _ _ _ _ (by omega), jup_rw _ _ _ _ _ (by omega), jup_same]
    have S3 : cS X3 T 2 (kp0 T) 6 0 [] := ⟨cTp_fr (by rw [f3 33 (by omega) (by omega)]) (by rw [f3 34 (by omega) (by omega)]) hp, ⟨by rw [g3 6 (by omega) (by omega)]; exact k1.1, by rw [g3 7 (by omega) (by omega)]; exact k1.2.1, by rw [g3 8 (by omega) (by omega)]; exact k1.2.2⟩, hin, ⟨by rw [← hX3, jup_row _ _ _ _ _ (by omega), jup_same], by rw [g3 9 (by omega) (by omega)]; exact x9, by rw [g3 10 (by omega) (by omega)]; exact x10⟩, ⟨by rw [← hX3, jup_same]; rfl, by omega⟩, by rw [g3 3 (by omega) (by omega), x3]; rfl, fun i hi => absurd hi (Nat.not_lt_zero i), by omega⟩
    have hso := wd_so (T := T) (κ := kp0 T) (by omega)
    obtain ⟨X4, e4, S4, f4⟩ := cS_step (d + 37) hR hT S3 (by omega)
    have h4 : X4 146 1 = wd T (kp0 T) := by rw [f4.1 146 (by omega) (by omega)]; exact h146
    rw [gr_146_0 hR.1]
    simp only [Int.reduceLE, reduceIte]
    rw [e4]
    simp only [Option.bind_some]
    have hn2 := wd_nx hin (by omega)
    -- behind the formula
    have fin : ∀ (L : jR) (H t : Nat) (R : rs), cRs G1 X4 T 2 6 0 [] L R → gdR T 2 H t (nx T (kp0 T)) R → ∃ (G' : jG) (X' : jX), GG G' ∧ (∀ k, k ≠ 28 → k ≠ 24 → k ≠ 146 → X' k = X k) ∧ match (match R with
        | .inl e => (.inl e : (Int × Int) ⊕ (Int × List Int))
        | .inr q => if so T q.1 = 0 then .inr (wd T (kp0 T), q.2) else .inl (1, q.1.1)) with
      | .inl e => (L.bind fun q7 => jN (d + 39) 80 77 [(16, 146), (20, 33), (24, 24), (2, (-1))] [(0, q7.1)] (q7.2.1, q7.2.2)) = some (0, (G', X')) ∧ X' 28 9 = e.1 ∧ X' 28 10 = e.2
      | .inr q => (L.bind fun q7 => jN (d + 39) 80 77 [(16, 146), (20, 33), (24, 24), (2, (-1))] [(0, q7.1)] (q7.2.1, q7.2.2)) = some (1, (G', X')) ∧ X' 28 9 = 0 ∧ X' 28 10 = -1 ∧ X' 146 1 = q.1 ∧ (∀ i : Nat, i < q.2.length → X' 24 i = toC (q.2.getD i 0)) ∧ X' 24 q.2.length = 10000 := fun L H t R hc hg => by
      cases R with
      | inl e =>
        obtain ⟨Y, y1, y2, y3, y4, y5⟩ := hc
        refine ⟨G1, Y, hR.1, fun k a b c => by rw [y5.1 k a b, f4.1 k a b, f3 k a c], ?_, y2, y3⟩
        rw [y1]
        simp only [Option.bind_some]
        rw [h_X6_readQuestion_77, if_pos rfl, h_X6_readQuestion_92]
      | inr q =>
        obtain ⟨Y, y1, y2, y3⟩ := hc
        have g2 : (nx T (kp0 T)).1 + q.2.length ≤ q.1.1 := hg.2.1
        have g3' : q.1.1 ≤ T.1 := hg.1.2
        rw [List.nil_append] at y2
        obtain ⟨Z, z1, z2, z3, z4, z5⟩ := s_emit (d + 37) (X := Y) hR 10000 (q.2.length : Int) (by rw [y2.2.2.2.2.2.1]; omega) (by omega)
        have z2 := z2 (by omega)
        have zK : cK Z T q.1 := ⟨by rw [z3 6 (by omega)]; exact y2.2.1.1, by rw [z3 7 (by omega)]; exact y2.2.1.2.1, by rw [z3 8 (by omega)]; exact y2.2.1.2.2⟩
        have zf := z5 0 (by omega)
        have e104 : jD (d + 39) 104 [(17, 28)] (G1, Y) = some (1, (G1, Z)) := by
          rw [e_X7_endFormula]
          simp only [Int.reduceLE, reduceIte]
          rw [z1]
          rfl
        have st : (L.bind fun q7 => jN (d + 39) 80 77 [(16, 146), (20, 33), (24, 24), (2, (-1))] [(0, q7.1)] (q7.2.1, q7.2.2)) = if so T q.1 = 0 then some (1, (G1, Z)) else some (0, (G1, jup (jup Z 28 9 1) 28 10 q.1.1)) := by
          rw [y1]
          simp only [Option.bind_some]
          rw [h_X6_readQuestion_77, if_neg (by omega), gr_146_0 hR.1]
          simp only [Int.reduceLE, reduceIte]
          rw [e104]
          simp only [Option.bind_some]
          rw [if_neg (by omega), gr_146_0 hR.1]
          simp only [Int.reduceLE, reduceIte]
          rw [s_isEnd (d + 38) zK]
          simp only [Option.bind_some]
          by_cases q3 : so T q.1 = 0
          · rw [if_pos q3, if_pos q3, if_neg (by omega), h_X6_readQuestion_115, h_X6_readQuestion_120, if_neg (by omega), if_pos rfl]
          · rw [if_neg q3, if_neg q3, if_pos rfl, gr_146_0 hR.1]
            simp only [Int.reduceLE, reduceIte]
            rw [s_failHere (d + 38) zK]
            simp only [Option.bind_some, reduceIte]
            rw [h_X6_readQuestion_120, if_pos rfl]
        dsimp only
        by_cases q3 : so T q.1 = 0
        · rw [if_pos q3] at st ⊢
          refine ⟨G1, Z, hR.1, fun k a b c => by rw [zf.1 k a b, y3.1 k a b, f4.1 k a b, f3 k a c], st, by rw [z3 9 (by omega)]; exact y2.2.2.2.1.2.1, by rw [z3 10 (by omega)]; exact y2.2.2.2.1.2.2, by rw [zf.1 146 (by omega) (by omega), y3.1 146 (by omega) (by omega)]; exact h4, fun i hi => ?_, ?_⟩
          · have hi' : i < q.2.length := hi
            rw [z2, jup_rw _ _ _ _ _ (by omega), jup_row _ _ _ _ _ (by omega)]
            have := y2.2.2.2.2.2.2.1 i hi'
            rw [Int.zero_add] at this
            exact this
          · rw [z2, jup_rw _ _ _ _ _ (by omega), jup_same]
        · rw [if_neg q3] at st ⊢
          exact ⟨G1, _, hR.1, fun k a b c => by rw [jup_rw _ _ _ _ _ a, jup_rw _ _ _ _ _ a, zf.1 k a b, y3.1 k a b, f4.1 k a b, f3 k a c], st, by rw [jup_row _ _ _ _ _ (by omega), jup_same], by rw [jup_same]⟩
    by_cases q2 : wd T (kp0 T) ≤ 31
    · have hI := s_test (z := 0) hR hT (by omega : (2 : Int) = 0 ∨ (2 : Int) = 1 ∨ (2 : Int) = 2) 6 (d + 5) X4 (nx T (kp0 T)) [] S4 (by show (0 : Int) + ((0 : Nat) : Int) ≤ _; have := hn.1.1; omega)
      have et : jD (d + 39) 81 [(16, 146)] (G1, X4) = some (1, (G1, X4)) := by
        rw [e_X6_isOfTest, h4]
        simp only [Int.reduceLE, reduceIte]
        by_cases a : wd T (kp0 T) = 29
        · rw [if_pos a]
        · rw [if_neg a]
          by_cases b : wd T (kp0 T) = 30
          · rw [if_pos b]
          · rw [if_neg b, if_pos (by omega)]
      rw [if_pos q2, et]
      simp only [Option.bind_some]
      rw [if_neg (by omega), gr_146_0 hR.1]
      simp only [Int.reduceLE, reduceIte]
      exact fin _ (3 * 6 + 4 + 2) 1 _ hI (tst_gd hT1 (fac_gd hT1 (by omega) 6) _ hn.1)
    · have hI := s_sum (z := 0) hR hT (by omega : (2 : Int) = 0 ∨ (2 : Int) = 1 ∨ (2 : Int) = 2) 6 (d + 8) X4 (nx T (kp0 T)) [] S4 (by show (0 : Int) + ((0 : Nat) : Int) ≤ _; have := hn.1.1; omega)
      have et : jD (d + 39) 81 [(16, 146)] (G1, X4) = some (0, (G1, X4)) := by
        rw [e_X6_isOfTest, h4]
        simp only [Int.reduceLE, reduceIte]
        rw [if_neg (by omega), if_neg (by omega), if_neg (by omega)]
      rw [if_neg q2, et]
      simp only [Option.bind_some, reduceIte]
      rw [gr_146_0 hR.1]
      simp only [Int.reduceLE, reduceIte]
      exact fin _ (3 * 6 + 1 + 2) 0 _ hI (sms_gd hT1 (prt_gd hT1 (by omega) 6) _ hn.1)
theorem s_goOn (d : Nat) {G : jG} {X : jX} (w a v c : Int) (hw : X 146 1 = w) (h1 : 29 ≤ w) (h2 : w ≤ 34) (ha : -100000000 ≤ a ∧ a ≤ 100000000) (hv : -1000000 ≤ v ∧ v ≤ 1000000) : jD (d + 2) 83 [(16, 146), (1, a), (0, v), (0, c)] (G, X) = some (goS w a v c, (G, X)) := by
  rw [e_X6_goOn, hw]
  simp only [Int.reduceLE, reduceIte]
  unfold goS
  have hlc : lCmp a (-1) = 0 ↔ a = -1 := by unfold lCmp; grind
  by_cases w1 : w = 29
  · rw [if_pos w1, if_pos w1]
    by_cases q : a = -1
    · rw [if_pos (hlc.2 q)]
      by_cases q2 : v = 0
      · rw [if_pos q2, if_neg (fun y => y.2 q2)]
      · rw [if_neg q2, if_pos ⟨q, q2⟩]
    · rw [if_neg (fun y => q (hlc.1 y)), if_neg (fun y => q y.1)]
  · rw [if_neg w1, if_neg w1]
    by_cases w2 : w = 30
    · rw [if_pos w2, if_pos w2]
      by_cases q2 : v = 0
      · rw [if_pos q2, if_neg (fun y => y q2)]
      · rw [if_neg q2, if_pos q2]
    · rw [if_neg w2, if_neg w2]
      by_cases w3 : w = 31
      · rw [if_pos w3, if_pos (Or.inl w3), ladd_id (by omega) (by omega)]
      · rw [if_neg w3]
        by_cases w4 : w = 32
        · rw [if_pos w4, if_pos (Or.inr w4), ladd_id (by omega) (by omega)]
        · rw [if_neg w4, if_neg (show ¬ (w = 31 ∨ w = 32) by omega)]
          by_cases w5 : w = 33
          · rw [if_pos w5, if_pos w5]
            by_cases q : c = 0
            · rw [if_pos q, if_pos q]
            · rw [if_neg q, if_neg q, s_lmax]
              rfl
          · rw [if_neg w5, if_neg w5, if_pos (by omega)]
            by_cases q : c = 0
            · rw [if_pos q, if_pos q]
            · rw [if_neg q, if_neg q, s_lmin]
              rfl
theorem goS_b {w a v c n : Int} (ha : -(1000000 * n) ≤ a ∧ a ≤ 1000000 * n) (hv : -1000000 ≤ v ∧ v ≤ 1000000) (hc : 0 ≤ c ∧ c ≤ 48) (hn : 1 ≤ n) : -(1000000 * (n + 1)) ≤ goS w a v c ∧ goS w a v c ≤ 1000000 * (n + 1) := by
  unfold goS
  repeat' split
  all_goals omega
theorem s_answer_n (d : Nat) {G : jG} {P : aP} {γ : aG} (w : Int) (l : List Int) {t : Nat} (hG : GG G) (hO : pOk P) (hgO : gOk P γ) (h1 : 29 ≤ w) (h2 : w ≤ 34) (hwf : wfC 2 t l) (v3 : Int) : ∀ (m : Nat) (X : jX) (i a : Int), i + m = pCe P → 0 ≤ i → cPlan X P → cGr X 25 γ → X 146 1 = w → (∀ j : Nat, j < l.length → X 24 j = toC (l.getD j 0)) → X 24 l.length = 10000 → -(1000000 * (i + 1)) ≤ a ∧ a ≤ 1000000 * (i + 1) → ∃ X', jN (d + 4) 82 40 [(16, 146), (13, 37), (24, 24), (0, v3), (1, a), (2, (-1)), (0, i)] [] (G, X) = some (ovC (fun c a => goS w a (evv (fcC P (gCe γ) c) (tbG γ) l) c) m i a, (G, X')) ∧ ∀ k, k ≠ 40 → k ≠ 41 → X' k = X k := by
  have hcc := pCe_le hO
  intro m
  induction m with
  | zero =>
    intro X i a hi i0 hP hγ hw hcd hst ha
    refine ⟨X, ?_, fun _ _ _ => rfl⟩
    rw [h_X6_answer_40, gr_37_0 hG, (cPlan_at hP).2.1]
    simp only [Int.reduceLE, reduceIte]
    rw [if_neg (by omega)]
    rfl
  | succ m ih =>
    intro X i a hi i0 hP hγ hw hcd hst ha
    have hin : inP P i := ⟨i0, by omega⟩
    obtain ⟨X1, e1, f1, c1⟩ := s_loadCell d i hG hP hO hin (mi_0 hG) hγ
    have γ1 := cGr_fr (X' := X1) (f1 25 (by omega)) (f1 26 (by omega)) (f1 27 (by omega)) hγ
    obtain ⟨X2, e2, f2⟩ := s_value (d + 1) (mi_0 hG) γ1 hgO 24 0 (by omega) (by omega) (gl_24 hG) (fcC P (gCe γ) i) (fcC_le _ hO hin) l hwf (by omega) (fun j hj => by rw [f1 24 (by omega), Int.zero_add]; exact hcd j hj) (by rw [f1 24 (by omega), Int.zero_add]; exact hst) (by have := hwf.1; omega) c1
    have y2 : ∀ k, k ≠ 40 → k ≠ 41 → X2 k = X k := fun k a b => by rw [f2 k (by omega), f1 k (by omega)]
    have hv := evv_ok (fcC_le (gCe γ) hO hin) (tb_le hgO) hwf
    have eg := s_goOn (d + 2) (G := G) (X := X2) w a (evv (fcC P (gCe γ) i) (tbG γ) l) i (by rw [y2 146 (by omega) (by omega)]; exact hw) h1 h2 (by omega) ⟨hv.1, hv.2.1⟩
    have hb := goS_b (w := w) (c := i) ha ⟨hv.1, hv.2.1⟩ (by omega) (by omega)
    obtain ⟨X', e', f'⟩ := ih X2 (i + 1) (goS w a (evv (fcC P (gCe γ) i) (tbG γ) l) i) (by omega) (by omega) (cPlan_fr (fun a b c => y2 a (by omega) (by omega)) hP) (cGr_fr (y2 25 (by omega) (by omega)) (y2 26 (by omega) (by omega)) (y2 27 (by omega) (by omega)) hγ) (by rw [y2 146 (by omega) (by omega)]; exact hw) (fun j hj => by rw [y2 24 (by omega) (by omega)]; exact hcd j hj) (by rw [y2 24 (by omega) (by omega)]; exact hst) hb
    refine ⟨X', ?_, fun k a b => by rw [f' k a b, y2 k a b]⟩
    rw [h_X6_answer_40, gr_37_0 hG, (cPlan_at hP).2.1]
    simp only [Int.reduceLE, reduceIte]
    rw [if_pos (by omega), e1]
    simp only [Option.bind_some]
    rw [e2]
    simp only [Option.bind_some]
    rw [show evv (fcC P (gCe γ) i) (fun x => if 0 ≤ x ∧ x < 5 then gSt γ x else 0) l = evv (fcC P (gCe γ) i) (tbG γ) l from rfl, eg]
    simp only [Option.bind_some]
    rw [jadd_id (by omega) (by omega)]
    exact e'
theorem c_ask : okC 176 [] asA asN := by
  intro d G X A hG hR hV
  obtain ⟨r1, r2, r3, r4, r5, r6, r7, r8, r9, r10, r11⟩ := id hR
  have hO := hV.2.1
  have hN := (pOk_n hO).1
  have hT : okT (aTn A, aTp A) := hV.1
  have hp : cTp X (aTn A, aTp A) := r1
  rw [e_X11_ask, gr_0_2 hG, e_X4_isTold, (cPlan_at r3).1]
  simp only [Int.reduceLE, reduceIte]
  have shorten : ∀ (Y : jX) (G' : jG), Y 33 1 = aTn A → jD (d + 59) 145 [(20, 33), (0, 0)] (G', Y) = some (0, (G', jup Y 33 1 0)) := fun Y G' h => s_shorten (d + 58) 33 0 (by omega) (by omega) (by rw [h]; exact hV.1.1)
  unfold asA asN
  by_cases q : pN (aPl A) = 0
  · rw [if_pos q, if_pos q, if_neg (by omega)]
    simp only [Option.bind_some, reduceIte]
    rw [gr_0_0 hG, shorten X G r1.1]
    exact ⟨G, _, rfl, hG, RC_shrt 0 hV.1.1 hR, fun k hk => jup_rw _ _ _ _ _ (by omega)⟩
  · rw [if_neg q, if_neg q, if_pos (by omega)]
    simp only [Option.bind_some]
    rw [if_neg (by omega), gr_0_3 hG, gr_0_12 hG, gr_0_0 hG, gr_13_18 hG]
    simp only [Int.reduceLE, reduceIte]
    obtain ⟨G1, X1, hG1, f1, hq⟩ := s_readQuestion (d + 19) hG hT hp
    have t1 : X1 33 1 = aTn A := by rw [f1 33 (by omega) (by omega) (by omega)]; exact r1.1
    have ek : ∀ Y : jX, jD (d + 59) 182 [(21, 0)] (G1, Y) = some (0, (G1, jup (jup Y 0 16 (Y 28 9)) 0 17 (Y 28 10))) := fun Y => by
      rw [e_X11_keepFault, gr_0_10 hG1, jup_rw _ _ _ _ _ (by omega)]
      simp only [Int.reduceLE, reduceIte]
    -- what both ends share
    have rel : ∀ (Y : jX) (e1 e2 : Int), (∀ k, k ≠ 0 → k ≠ 28 → k ≠ 24 → k ≠ 146 → k ≠ 33 → k ≠ 40 → k ≠ 41 → Y k = X k) → (Y 33 1 = 0) → Y 0 16 = e1 → Y 0 17 = e2 → (∀ j, j ≠ 16 → j ≠ 17 → Y 0 j = X 0 j) → RC (setF (setT A 0 (aTp A)) e1 e2) Y := fun Y e1 e2 h1 h33 h16 h17 h0 => by
      have w : ∀ k, sR k → k ≠ 0 → k ≠ 33 → Y k = X k := fun k hk a b => by unfold sR at hk; exact h1 k a (by omega) (by omega) (by omega) b (by omega) (by omega)
      unfold sR at w
      refine ⟨⟨h33, fun i i0 i1 => by have : i < 0 := i1; omega⟩, ⟨h16, h17⟩, cPlan_fr (fun a b c => w a (by omega) (by omega) (by omega)) r3, cGr_fr (w _ (by omega) (by omega) (by omega)) (w _ (by omega) (by omega) (by omega)) (w _ (by omega) (by omega) (by omega)) r4, cHi_fr (fun a b c => w a (by omega) (by omega) (by omega)) r5, cJu_fr (h0 15 (by omega) (by omega)) (w _ (by omega) (by omega) (by omega)) r6, cBo_fr (w _ (by omega) (by omega) (by omega)) (w _ (by omega) (by omega) (by omega)) r7, by rw [h0 18 (by omega) (by omega)]; exact r8, cPi_fr (w _ (by omega) (by omega) (by omega)) (w _ (by omega) (by omega) (by omega)) r9, cRf_fr (w _ (by omega) (by omega) (by omega)) r10, cCa_fr (w _ (by omega) (by omega) (by omega)) (w _ (by omega) (by omega) (by omega)) (w _ (by omega) (by omega) (by omega)) r11⟩
    generalize hY : jup (jup (jup X1 33 1 0) 0 16 (X1 28 9)) 0 17 (X1 28 10) = Y
    have yf : ∀ k, k ≠ 0 → k ≠ 28 → k ≠ 24 → k ≠ 146 → k ≠ 33 → Y k = X k := fun k a b c e g => by rw [← hY, jup_rw _ _ _ _ _ a, jup_rw _ _ _ _ _ a, jup_rw _ _ _ _ _ g, f1 k b c e]
    have y33 : Y 33 1 = 0 := by rw [← hY, jup_rw _ _ _ _ _ (by omega), jup_rw _ _ _ _ _ (by omega), jup_same]
    have y16 : Y 0 16 = X1 28 9 := by rw [← hY, jup_row _ _ _ _ _ (by omega), jup_same]
    have y17 : Y 0 17 = X1 28 10 := by rw [← hY, jup_same]
    have y0 : ∀ j, j ≠ 16 → j ≠ 17 → Y 0 j = X 0 j := fun j a b => by rw [← hY, jup_row _ _ _ _ _ b, jup_row _ _ _ _ _ a, jup_rw _ _ _ _ _ (by omega), f1 0 (by omega) (by omega) (by omega)]
    have hq0 := qsR_ok hT
    cases e : qsR (aTn A, aTp A) with
    | inl ee =>
      rw [e] at hq
      obtain ⟨q1, q2, q3⟩ := hq
      rw [q1]
      simp only [Option.bind_some]
      rw [gr_0_0 hG1]
      simp only [Int.reduceLE, reduceIte]
      rw [shorten X1 G1 t1]
      simp only [Option.bind_some]
      rw [ek, jup_rw X1 33 1 0 28 (by omega), hY]
      simp only [Option.bind_some, reduceIte]
      exact ⟨G1, Y, rfl, hG1, rel Y ee.1 ee.2 (fun k a b c e f _ _ => yf k a b c e f) y33 (by rw [y16]; exact q2) (by rw [y17]; exact q3) y0, fun k hk => yf k (by omega) (by omega) (by omega) (by omega) (by omega)⟩
    | inr p =>
      rw [e] at hq hq0
      obtain ⟨q1, q2, q3, q4, q5, q6⟩ := hq
      obtain ⟨hw1, hwf⟩ := hq0
      have z146 : Y 146 = X1 146 := by rw [← hY, jup_rw _ _ _ _ _ (by omega), jup_rw _ _ _ _ _ (by omega), jup_rw _ _ _ _ _ (by omega)]
      have z24 : Y 24 = X1 24 := by rw [← hY, jup_rw _ _ _ _ _ (by omega), jup_rw _ _ _ _ _ (by omega), jup_rw _ _ _ _ _ (by omega)]
      have hcc := pCe_le hO
      rw [q1]
      simp only [Option.bind_some]
      rw [gr_0_0 hG1]
      simp only [Int.reduceLE, reduceIte]
      rw [shorten X1 G1 t1]
      simp only [Option.bind_some]
      rw [ek, jup_rw X1 33 1 0 28 (by omega), hY]
      simp only [Option.bind_some]
      rw [if_neg (by omega), gr_0_3 hG1, gr_0_12 hG1, gr_0_5 hG1, gr_13_18 hG1]
      simp only [Int.reduceLE, reduceIte]
      have go : ∀ v3 a : Int, (a = if p.1 = 29 ∨ p.1 = 30 then -1 else 0) → ∃ X', jN (d + 58) 82 40 [(16, 146), (13, 37), (24, 24), (0, v3), (1, a), (2, (-1)), (0, 0)] [] (G1, Y) = some (qaS (aPl A) (aGr A) p.1 p.2, (G1, X')) ∧ ∀ k, k ≠ 40 → k ≠ 41 → X' k = Y k := fun v3 a ha => by
        have := s_answer_n (d + 54) (γ := aGr A) p.1 p.2 hG1 hO hV.2.2.1 hw1.1 hw1.2 hwf v3 (pCe (aPl A)).toNat Y 0 a (by omega) (by omega) (cPlan_fr (fun a b c => yf a (by omega) (by omega) (by omega) (by omega) (by omega)) r3) (cGr_fr (yf _ (by omega) (by omega) (by omega) (by omega) (by omega)) (yf _ (by omega) (by omega) (by omega) (by omega) (by omega)) (yf _ (by omega) (by omega) (by omega) (by omega) (by omega)) r4) (by rw [z146]; exact q4) (by rw [z24]; exact q5) (by rw [z24]; exact q6) (by rw [ha]; split <;> omega)
        rw [ha] at this ⊢
        exact this
      have ea : ∃ X', jD (d + 59) 82 [(16, 146), (13, 37), (24, 24)] (G1, Y) = some (qaS (aPl A) (aGr A) p.1 p.2, (G1, X')) ∧ ∀ k, k ≠ 40 → k ≠ 41 → X' k = Y k := by
        rw [e_X6_answer, show Y 146 1 = p.1 by rw [z146]; exact q4]
        simp only [Int.reduceLE, reduceIte]
        by_cases w1 : p.1 = 29
        · rw [if_pos w1]; exact go 1 (-1) (by rw [if_pos (Or.inl w1)])
        · rw [if_neg w1]
          by_cases w2 : p.1 = 30
          · rw [if_pos w2]; exact go 1 (-1) (by rw [if_pos (Or.inr w2)])
          · rw [if_neg w2]; exact go 0 0 (by rw [if_neg (by omega)])
      obtain ⟨X', e', f'⟩ := ea
      rw [e']
      have n0 : X' 0 = Y 0 := f' 0 (by omega) (by omega)
      exact ⟨G1, X', rfl, hG1, rel X' 0 (-1) (fun k a b c e f g h => by rw [f' k g h, yf k a b c e f]) (by rw [f' 33 (by omega) (by omega)]; exact y33) (by rw [n0, y16]; exact q2) (by rw [n0, y17]; exact q3) (fun j a b => by rw [n0]; exact y0 j a b), fun k hk => by rw [f' k (by omega) (by omega), yf k (by omega) (by omega) (by omega) (by omega) (by omega)]⟩
