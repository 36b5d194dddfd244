/-! PIT: the class reads statements -/
theorem cS_fr {X X' : jX} {T : aT} {u : Int} {κ : aK} {r : Nat} {z : Int} {C : List Int} (h28 : X' 28 = X 28) (h24 : X' 24 = X 24) (h33 : X' 33 = X 33) (h34 : X' 34 = X 34) (h : cS X T u κ r z C) : cS X' T u κ r z C := by
  obtain ⟨a1, a2, a3, a4, a5, a6, a7, a8⟩ := h
  exact ⟨cTp_fr h33 h34 a1, by unfold cK at *; rw [h28]; exact a2, a3, by rw [h28]; exact a4, by rw [h28]; exact a5, by rw [h28]; exact a6, by rw [h24]; exact a7, a8⟩
theorem cfS_w {X : jX} {a j v : Int} (h : 13 ≤ a ∧ a ≤ 24) : cfS X (jup X a j v) := fun k h1 _ _ => jup_rw _ _ _ _ _ (by omega)
/-- what is common to all statements -/
def cT (G : jG) (X : jX) (T : aT) (P : aP) (κ : aK) (u z : Int) : Prop := RG G ∧ okT T ∧ cS X T u κ 6 z [] ∧ cDr X P z ∧ z ≤ κ.1 ∧ pOk P
theorem s_setting (d : Nat) {G : jG} {X : jX} {T : aT} {P : aP} {κ : aK} {u z : Int} (h : cT G X T P κ u z) (w lo hi : Int) (w0 : 0 ≤ w) (w1 : w < 3) (hw : so T κ ≠ 4) : endC G X T (jD (d + 4) 78 [(15, 145), (0, w), (0, lo), (0, hi)] (G, X)) (setSt T P w lo hi κ) := by
  obtain ⟨hR, hT, hS, hD, hz, hO⟩ := h
  obtain ⟨X1, e1, S1, f1⟩ := cS_step (d + 1) hR hT hS hw
  have hn := nx_in hS.2.2.1
  have en := s_takeNumber d hR hT S1 lo hi
  rw [e_X5_readSetting, gr_145_0 hR.1]
  simp only [Int.reduceLE, reduceIte]
  rw [e1]
  simp only [Option.bind_some]
  rw [gr_145_0 hR.1]
  simp only [Int.reduceLE, reduceIte]
  unfold setSt tN
  cases e : nmR T lo hi (nx T κ) with
  | inl ee =>
    rw [e] at en
    obtain ⟨X2, e2, b1, b2, f2⟩ := en
    rw [e2]
    simp only [Option.bind_some, reduceIte]
    exact ⟨X2, rfl, b1, b2, cfS_D (cfD_F (cfF_t f1 f2))⟩
  | inr v =>
    rw [e] at en
    obtain ⟨X2, e2, v0, v1, v2, S2, f2⟩ := en
    have F2 := cfD_F (cfF_t f1 f2)
    have D2 := cDr_fr F2 hD
    have hn2 := nx_in hn.1
    rw [e2]
    simp only [Option.bind_some]
    rw [if_neg (by omega), gr_145_1 hR.1, gr_13_8 hR.1, gl_14 hR.1]
    simp only [if_pos w0, if_pos w1, Int.reduceLE, reduceIte]
    refine ⟨jup X2 14 w v, u, z, rfl, cS_fr (jup_rw _ _ _ _ _ (by omega)) (jup_rw _ _ _ _ _ (by omega)) (jup_rw _ _ _ _ _ (by omega)) (jup_rw _ _ _ _ _ (by omega)) S2, ?_, by dsimp only; omega, cfS_t (cfS_D F2) (cfS_w (by omega))⟩
    obtain ⟨a1, a2, a3, a4, a5, a6, a7⟩ := D2
    have e14 : ∀ j, jup X2 14 w v 14 j = if j = w then v else X2 14 j := fun j => by
      by_cases q : j = w
      · rw [if_pos q, q, jup_same]
      · rw [if_neg q, jup_row _ _ _ _ _ q]
    have ek : ∀ k, k ≠ 14 → jup X2 14 w v k = X2 k := fun k hk => jup_rw _ _ _ _ _ hk
    refine ⟨by rw [ek 13 (by omega)]; exact a1, ⟨?_, ?_, ?_⟩, ⟨dFo_fr (ek 15 (by omega)) (fun j _ => by rw [ek 24 (by omega)]) a3.1, dFo_fr (ek 15 (by omega)) (fun j _ => by rw [ek 24 (by omega)]) a3.2.1, dFo_fr (ek 15 (by omega)) (fun j _ => by rw [ek 24 (by omega)]) a3.2.2⟩, by rw [ek 16 (by omega), ek 17 (by omega), ek 19 (by omega)]; exact a4, by rw [ek 18 (by omega)]; exact a5, by rw [ek 20 (by omega), ek 21 (by omega)]; exact a6, by rw [ek 22 (by omega)]; exact a7⟩
    · rw [e14]
      show _ = if w = 0 then v else pHo P
      by_cases q : w = 0
      · rw [if_pos q.symm, if_pos q]
      · rw [if_neg (fun y => q y.symm), if_neg q]; exact a2.1
    · rw [e14]
      show _ = if w = 1 then v else pPr P
      by_cases q : w = 1
      · rw [if_pos q.symm, if_pos q]
      · rw [if_neg (fun y => q y.symm), if_neg q]; exact a2.2.1
    · rw [e14]
      show _ = if w = 2 then v else pLe P
      by_cases q : w = 2
      · rw [if_pos q.symm, if_pos q]
      · rw [if_neg (fun y => q y.symm), if_neg q]; exact a2.2.2
theorem s_pitS (d : Nat) {G : jG} {X : jX} {T : aT} {P : aP} {κ : aK} {u z : Int} (h : cT G X T P κ u z) (hP0 : pN P = 0) : endC G X T (jD (d + 4) 69 [(15, 145)] (G, X)) (pitS T P κ) := by
  obtain ⟨hR, hT, hS, hD, hz, hO⟩ := h
  have hz0 : pR P = 0 ∧ pK P = 0 ∧ pH P = 0 := by have := (pOk_n hO).1; omega
  rw [e_X5_readPit, gr_145_0 hR.1]
  simp only [Int.reduceLE, reduceIte]
  unfold pitS tW
  obtain ⟨w1, w2⟩ := s_takeWord d hR hT hS 0 (by omega)
  by_cases q1 : wd T κ = 0
  · obtain ⟨X1, e1, S1, f1⟩ := w1 q1
    rw [if_pos q1, e1]
    simp only [Option.bind_some]
    rw [if_neg (by omega), gr_145_0 hR.1]
    simp only [Int.reduceLE, reduceIte]
    have hn1 := nx_in hS.2.2.1
    have en := s_takeNumber d hR hT S1 3 8
    unfold tN
    cases e : nmR T 3 8 (nx T κ) with
    | inl ee =>
      rw [e] at en
      obtain ⟨X2, e2, b1, b2, f2⟩ := en
      rw [e2]
      simp only [Option.bind_some, reduceIte]
      exact ⟨X2, rfl, b1, b2, cfS_D (cfD_F (cfF_t f1 f2))⟩
    | inr c =>
      rw [e] at en
      obtain ⟨X2, e2, v0, v1, v2, S2, f2⟩ := en
      have F2 := cfF_t f1 f2
      rw [e2]
      simp only [Option.bind_some]
      rw [if_neg (by omega), gr_145_0 hR.1]
      simp only [Int.reduceLE, reduceIte]
      have hn2 := nx_in hn1.1
      obtain ⟨w3, w4⟩ := s_takeWord d hR hT S2 1 (by omega)
      by_cases q2 : wd T (nx T (nx T κ)) = 1
      · obtain ⟨X3, e3, S3, f3⟩ := w3 q2
        rw [if_pos q2, e3]
        simp only [Option.bind_some]
        rw [if_neg (by omega), gr_145_0 hR.1]
        simp only [Int.reduceLE, reduceIte]
        have hn3 := nx_in hn2.1
        have F3 := cfF_t F2 f3
        have en2 := s_takeNumber d hR hT S3 0 (c - 1)
        rw [jsub_id (by omega) (by omega)]
        cases e4 : nmR T 0 (c - 1) (nx T (nx T (nx T κ))) with
        | inl ee =>
          rw [e4] at en2
          obtain ⟨X4, e5, b1, b2, f4⟩ := en2
          rw [e5]
          simp only [Option.bind_some]
          rw [gr_145_1 hR.1]
          simp only [Int.reduceLE, reduceIte]
          exact ⟨_, rfl, by rw [jup_rw _ _ _ _ _ (by omega), jup_rw _ _ _ _ _ (by omega)]; exact b1, by rw [jup_rw _ _ _ _ _ (by omega), jup_rw _ _ _ _ _ (by omega)]; exact b2, cfS_t (cfS_D (cfD_F (cfF_t F3 f4))) (cfS_t (cfS_w (by omega)) (cfS_w (by omega)))⟩
        | inr s =>
          rw [e4] at en2
          obtain ⟨X4, e5, v3, v4, v5, S4, f4⟩ := en2
          have F4 := cfD_F (cfF_t F3 f4)
          have hn4 := nx_in hn3.1
          obtain ⟨a1, a2, a3, a4, a5, a6, a7⟩ := cDr_fr F4 hD
          rw [e5]
          simp only [Option.bind_some]
          rw [gr_145_1 hR.1]
          simp only [Int.reduceLE, reduceIte]
          rw [if_neg (by omega)]
          have ek : ∀ k, k ≠ 13 → jup (jup X4 13 2 c) 13 3 s k = X4 k := fun k hk => by rw [jup_rw _ _ _ _ _ hk, jup_rw _ _ _ _ _ hk]
          refine ⟨_, u, z, rfl, cS_fr (ek 28 (by omega)) (ek 24 (by omega)) (ek 33 (by omega)) (ek 34 (by omega)) S4, ?_, by dsimp only; omega, cfS_t (cfS_D F4) (cfS_t (cfS_w (by omega)) (cfS_w (by omega)))⟩
          have e13 : ∀ j, j ≠ 2 → j ≠ 3 → jup (jup X4 13 2 c) 13 3 s 13 j = X4 13 j := fun j j2 j3 => by rw [jup_row _ _ _ _ _ j3, jup_row _ _ _ _ _ j2]
          refine ⟨⟨by rw [e13 0 (by omega) (by omega)]; exact a1.1, by rw [jup_row _ _ _ _ _ (by omega), jup_same]; rfl, by rw [jup_same]; rfl, by rw [e13 4 (by omega) (by omega)]; exact a1.2.2.2.1, by rw [e13 5 (by omega) (by omega)]; exact a1.2.2.2.2.1, by rw [e13 6 (by omega) (by omega)]; exact a1.2.2.2.2.2.1, by rw [e13 7 (by omega) (by omega)]; exact a1.2.2.2.2.2.2⟩, by rw [ek 14 (by omega)]; exact a2, ⟨dFo_fr (ek 15 (by omega)) (fun j _ => by rw [ek 24 (by omega)]) a3.1, dFo_fr (ek 15 (by omega)) (fun j _ => by rw [ek 24 (by omega)]) a3.2.1, dFo_fr (ek 15 (by omega)) (fun j _ => by rw [ek 24 (by omega)]) a3.2.2⟩, by rw [ek 16 (by omega), ek 17 (by omega), ek 19 (by omega)]; exact a4, by rw [ek 18 (by omega)]; exact a5, by rw [ek 20 (by omega), ek 21 (by omega)]; exact a6, fun i i0 i1 => ?_⟩
          have : pCe (setC P c s) = c * pR P := rfl
          rw [this, hz0.1, Int.mul_zero] at i1
          omega
      · rw [if_neg q2, w4 q2]
        simp only [Option.bind_some, reduceIte]
        exact endC_f rfl (cfS_D (cfD_F F2))
  · rw [if_neg q1, w2 q1]
    simp only [Option.bind_some, reduceIte]
    exact endC_f rfl (cfS_D (cfD_r z X))
/-! names -/
theorem s_isName_n (d : Nat) {G : jG} {X : jX} (a i : Int) (f g : Int → Int) (n : Int) (ha0 : 0 ≤ a) (hl : gL G a = n) (hG : GG G) (hin : 0 ≤ i) (hi6 : i * 6 + 6 ≤ n) (hn : n ≤ 100) (hf : ∀ j, 0 ≤ j → j < 6 → X a (i * 6 + j) = f j) (hg : ∀ j, 0 ≤ j → j < 6 → X 32 j = g j) : ∀ (m : Nat) (j : Int), j + m = 6 → 0 ≤ j → ((∀ t, j ≤ t → t < 6 → f t = g t) → jN d 65 8 [(24, a), (0, i), (24, 32), (0, i * 6), (0, j)] [] (G, X) = some (1, (G, X))) ∧ (¬ (∀ t, j ≤ t → t < 6 → f t = g t) → jN d 65 8 [(24, a), (0, i), (24, 32), (0, i * 6), (0, j)] [] (G, X) = some (0, (G, X))) := by
  intro m
  induction m with
  | zero =>
    intro j hj j0
    refine ⟨fun _ => ?_, fun q => absurd (fun t h1 h2 => by omega) q⟩
    rw [h_X4_isName_8, if_neg (by omega)]
  | succ m ih =>
    intro j hj j0
    obtain ⟨i1, i2⟩ := ih (j + 1) (by omega) (by omega)
    have st : jN d 65 8 [(24, a), (0, i), (24, 32), (0, i * 6), (0, j)] [] (G, X) = if f j = g j then jN d 65 8 [(24, a), (0, i), (24, 32), (0, i * 6), (0, j + 1)] [] (G, X) else some (0, (G, X)) := by
      rw [h_X4_isName_8, gl_32 hG, hl, jadd_id (a := i * 6) (by omega) (by omega), jadd_id (a := j) (by omega) (by omega), hf j j0 (by omega), hg j j0 (by omega)]
      simp only [if_pos (show j < 6 by omega), if_neg (show ¬ i * 6 < 0 by omega), if_pos ha0, if_pos (show i * 6 + j < n by omega), if_pos (show 0 ≤ i * 6 + j by omega), if_pos j0, Int.reduceLE, reduceIte]
    rw [st]
    by_cases q : f j = g j
    · rw [if_pos q]
      constructor
      · intro h; exact i1 (fun t h1 h2 => h t (by omega) h2)
      · intro h
        refine i2 (fun y => h (fun t h1 h2 => ?_))
        by_cases z : t = j
        · rw [z]; exact q
        · exact y t (by omega) h2
    · rw [if_neg q]
      exact ⟨fun h => absurd (h j (by omega) (by omega)) q, fun _ => rfl⟩
theorem same6_iff {f g : Int → Int} : same6 f g = true ↔ ∀ t, 0 ≤ t → t < 6 → f t = g t := by
  unfold same6
  rw [decide_eq_true_iff]
  constructor
  · rintro ⟨h0, h1, h2, h3, h4, h5⟩ t t0 t1
    have : t = 0 ∨ t = 1 ∨ t = 2 ∨ t = 3 ∨ t = 4 ∨ t = 5 := by omega
    rcases this with rfl | rfl | rfl | rfl | rfl | rfl
    · exact h0
    · exact h1
    · exact h2
    · exact h3
    · exact h4
    · exact h5
  · intro h
    exact ⟨h 0 (by omega) (by omega), h 1 (by omega) (by omega), h 2 (by omega) (by omega), h 3 (by omega) (by omega), h 4 (by omega) (by omega), h 5 (by omega) (by omega)⟩
theorem s_findName (d : Nat) {G : jG} {X : jX} (a c n : Int) (f : Int → Int → Int) (g : Int → Int) (ha0 : 0 ≤ a) (hl : gL G a = n) (hG : GG G) (hc : 0 ≤ c) (hc6 : c * 6 ≤ n) (hn : n ≤ 100) (hf : ∀ i, 0 ≤ i → i < c → ∀ j, 0 ≤ j → j < 6 → X a (i * 6 + j) = f i j) (hg : ∀ j, 0 ≤ j → j < 6 → X 32 j = g j) : jD (d + 2) 64 [(14, 13), (24, a), (0, c), (24, 32)] (G, X) = some (fnd f c g, (G, X)) := by
  have loop : ∀ (m : Nat) (i : Int), i + m = c → 0 ≤ i → jN (d + 1) 64 3 [(14, 13), (24, a), (0, c), (24, 32), (0, i)] [] (G, X) = some (fndN f g m i, (G, X)) := by
    intro m
    induction m with
    | zero =>
      intro i hi i0
      rw [h_X4_findName_3, if_neg (by omega)]
      rfl
    | succ m ih =>
      intro i hi i0
      have e := s_isName_n d a i (f i) g n ha0 hl hG i0 (by omega) hn (hf i i0 (by omega)) hg 6 0 (by omega) (by omega)
      rw [h_X4_findName_3, if_pos (by omega), e_X4_isName, jmul_id (by omega) (by omega)]
      unfold fndN
      by_cases q : same6 (f i) g = true
      · rw [if_pos q, e.1 (fun t h1 h2 => same6_iff.1 q t h1 h2)]
        simp only [Option.bind_some]
        rw [if_neg (by omega)]
      · rw [if_neg q, e.2 (fun y => q (same6_iff.2 y))]
        simp only [Option.bind_some, reduceIte]
        rw [jadd_id (by omega) (by omega)]
        exact ih (i + 1) (by omega) (by omega)
  rw [e_X4_findName]
  exact loop c.toNat 0 (by omega) (by omega)
theorem fndN_b (f : Int → Int → Int) (g : Int → Int) : ∀ (m : Nat) (i : Int), 0 ≤ i → fndN f g m i = -1 ∨ (i ≤ fndN f g m i ∧ fndN f g m i < i + m)
  | 0, i, _ => Or.inl rfl
  | m + 1, i, h => by
    unfold fndN
    split
    · omega
    · have := fndN_b f g m (i + 1) (by omega)
      omega
theorem fnd_b (f : Int → Int → Int) (n : Int) (g : Int → Int) (hn : 0 ≤ n) : fnd f n g = -1 ∨ (0 ≤ fnd f n g ∧ fnd f n g < n) := by
  have := fndN_b f g n.toNat 0 (by omega)
  unfold fnd
  omega
/-- a name that is not there yet goes into its place -/
theorem s_give (d : Nat) {G : jG} {X : jX} {T : aT} {P : aP} {κ : aK} {u z : Int} (h : cT G X T P κ u z) (a b n : Int) (hab : a = 19 ∧ n = 30 ∨ a = 20 ∧ n = 36) (hb : 0 ≤ b) (hb6 : b * 6 + 6 ≤ n) : match nmN T κ with
  | .inl e => ∃ X', jD (d + 4) 71 [(15, 145), (24, a), (0, b)] (G, X) = some (0, (G, X')) ∧ X' 28 9 = e.1 ∧ X' 28 10 = e.2 ∧ cfS X X'
  | .inr g => ((fnd (pKn P) (pK P) g ≠ -1 ∨ fnd (pHn P) (pH P) g ≠ -1) → ∃ X', jD (d + 4) 71 [(15, 145), (24, a), (0, b)] (G, X) = some (0, (G, X')) ∧ X' 28 9 = 3 ∧ X' 28 10 = κ.1 ∧ cfS X X') ∧ (¬ (fnd (pKn P) (pK P) g ≠ -1 ∨ fnd (pHn P) (pH P) g ≠ -1) → ∃ X', jD (d + 4) 71 [(15, 145), (24, a), (0, b)] (G, X) = some (1, (G, X')) ∧ cS X' T u (nx T κ) 6 z [] ∧ (∀ i, X' a i = if b * 6 ≤ i ∧ i < b * 6 + 6 then g (i - b * 6) else X a i) ∧ (∀ k, k ≠ 28 → k ≠ 24 → k ≠ 32 → k ≠ a → X' k = X k) ∧ ∀ j, j < z → X' 24 j = X 24 j) := by
  obtain ⟨hR, hT, hS, hD, hz, hO⟩ := h
  have hk := pOk_n hO
  have en := s_nameHere d hR hT hS
  have hla : gL G a = n := by rcases hab with ⟨rfl, rfl⟩ | ⟨rfl, rfl⟩; exact gl_19 hR.1; exact gl_20 hR.1
  rw [e_X5_giveName, gr_145_0 hR.1]
  simp only [Int.reduceLE, reduceIte]
  cases e : nmN T κ with
  | inl ee =>
    rw [e] at en
    obtain ⟨X1, e1, b1, b2, f1⟩ := en
    rw [e1]
    simp only [Option.bind_some, reduceIte]
    exact ⟨X1, rfl, b1, b2, cfS_D f1⟩
  | inr g =>
    rw [e] at en
    obtain ⟨X1, e1, g1, S1, f1, hso⟩ := en
    obtain ⟨a1, a2, a3, a4, a5, a6, a7⟩ := cDr_fr f1 hD
    have ek := s_findName (d + 1) (X := X1) (G := G) 19 (pK P) 30 (pKn P) g (by omega) (gl_19 hR.1) hR.1 (by omega) (by omega) (by omega) (fun i i0 i1 => (a4 i i0 i1).2.2) g1
    have eh := s_findName (d + 1) (X := X1) (G := G) 20 (pH P) 36 (pHn P) g (by omega) (gl_20 hR.1) hR.1 (by omega) (by omega) (by omega) (fun i i0 i1 => (a6 i i0 i1).2) g1
    have failed : ∀ L : jR, L = (jD (d + 3) 87 [(17, 28), (0, 3)] (G, X1)).bind (fun q7 => if q7.1 = 0 then some (0, (q7.2.1, q7.2.2)) else (if q7.1 = 1 then some (1, (q7.2.1, q7.2.2)) else none)) → ∃ X', L = some (0, (G, X')) ∧ X' 28 9 = 3 ∧ X' 28 10 = κ.1 ∧ cfS X X' := fun L hL => by
      rw [hL, s_failHere (d + 2) S1.2.1]
      exact ⟨jup (jup X1 28 9 3) 28 10 κ.1, rfl, by rw [jup_row _ _ _ _ _ (by omega), jup_same], by rw [jup_same], cfS_t (cfS_D f1) (fun k _ b _ => by rw [jup_rw _ _ _ _ _ b, jup_rw _ _ _ _ _ b])⟩
    rw [e1]
    simp only [Option.bind_some]
    rw [if_neg (by omega), gr_145_1 hR.1, gr_13_13 hR.1, a1.2.2.2.2.1]
    simp only [Int.reduceLE, reduceIte]
    rw [ek]
    simp only [Option.bind_some]
    rw [gr_145_1 hR.1, gr_13_14 hR.1, a1.2.2.2.2.2.1]
    simp only [Int.reduceLE, reduceIte]
    rw [eh]
    simp only [Option.bind_some]
    rw [gr_145_0 hR.1]
    simp only [Int.reduceLE, reduceIte]
    constructor
    · intro q
      by_cases q1 : fnd (pKn P) (pK P) g = -1
      · rw [if_pos q1, if_neg (q.resolve_left (fun y => y q1))]
        exact failed _ rfl
      · rw [if_neg q1]
        exact failed _ rfl
    · intro q
      have q1 : fnd (pKn P) (pK P) g = -1 := Classical.byContradiction (fun y => q (Or.inl y))
      have q2 : fnd (pHn P) (pH P) g = -1 := Classical.byContradiction (fun y => q (Or.inr y))
      have S2 : cS (jcpy X1 32 0 a (b * 6) 6) T u κ 6 z [] := cS_fr (jcpy_ne _ _ _ _ _ _ _ (by omega)) (jcpy_ne _ _ _ _ _ _ _ (by omega)) (jcpy_ne _ _ _ _ _ _ _ (by omega)) (jcpy_ne _ _ _ _ _ _ _ (by omega)) S1
      obtain ⟨X2, e2, S3, f2⟩ := cS_step (d + 1) hR hT S2 (by omega)
      refine ⟨X2, ?_, S3, fun i => ?_, fun k k1 k2 k3 k4 => ?_, fun j hj => ?_⟩
      · rw [if_pos q1, if_pos q2, hla, gl_32 hR.1, jmul_id (by omega) (by omega), jadd_id (by omega) (by omega), if_neg (show ¬ b * 6 < 0 by omega), if_neg (show ¬ n < b * 6 + 6 by omega), if_pos (show 0 ≤ b * 6 by omega), if_pos (show b * 6 + 6 ≤ n by omega), e2]
        simp only [if_pos (show 0 ≤ a by omega), Int.reduceLE, Int.reduceAdd, reduceIte, Option.bind_some]
      · rw [f2.1 a (by omega) (by omega), jcpy_at]
        by_cases y : b * 6 ≤ i ∧ i < b * 6 + 6
        · rw [if_pos y, if_pos y, show (0 : Int) + (i - b * 6) = i - b * 6 by omega]; exact g1 _ (by omega) (by omega)
        · rw [if_neg y, if_neg y, f1.1 a (by omega) (by omega) (by omega)]
      · rw [f2.1 k k1 k2, jcpy_ne _ _ _ _ _ _ _ k4, f1.1 k k1 k2 k3]
      · rw [f2.2 j hj, jcpy_ne _ _ _ _ _ _ _ (by omega), f1.2 j hj]
