/-! WHAT THERE IS: has, kind, cell -/
def cnF (f : Int → Int) : Nat → Int → Int
  | 0, _ => 0
  | n + 1, i => f i + cnF f n (i + 1)
theorem cnF_cnt (f : Int → Int) : ∀ (n : Nat) (i : Int), cnF f n i = cnt (fun k => f (i + k)) n := by
  intro n
  induction n with
  | zero => intro i; rfl
  | succ n ih =>
    intro i
    rw [cnt_sh]
    show f i + cnF f n (i + 1) = f (i + 0) + cnt (fun k => f (i + (1 + k))) n
    rw [ih (i + 1), Int.add_zero]
    congr 2
    funext k
    rw [Int.add_assoc]
theorem cnF_0 (f : Int → Int) (n : Nat) : cnF f n 0 = cnt f n := by rw [cnF_cnt]; congr 1; funext k; rw [Int.zero_add]
theorem cnt_cong {f g : Int → Int} : ∀ {n : Nat}, (∀ c : Int, 0 ≤ c → c < n → f c = g c) → cnt f n = cnt g n := by
  intro n
  induction n with
  | zero => intro _; rfl
  | succ n ih =>
    intro h
    show cnt f n + f n = cnt g n + g n
    rw [ih (fun c h0 h1 => h c h0 (by omega)), h n (by omega) (by omega)]
theorem cnt_add (f g : Int → Int) : ∀ n : Nat, cnt f n + cnt g n = cnt (fun c => f c + g c) n := by
  intro n
  induction n with
  | zero => rfl
  | succ n ih =>
    show cnt f n + f n + (cnt g n + g n) = cnt (fun c => f c + g c) n + (f n + g n)
    rw [← ih]; omega
theorem cnt_ext {f : Int → Int} {n : Nat} : ∀ {m : Nat}, n ≤ m → (∀ c : Int, n ≤ c → c < m → f c = 0) → cnt f m = cnt f n := by
  intro m
  induction m with
  | zero => intro h _; rw [show n = 0 by omega]
  | succ m ih =>
    intro h h0
    by_cases q : n = m + 1
    · rw [q]
    · show cnt f m + f m = cnt f n
      rw [ih (by omega) (fun c c0 c1 => h0 c c0 (by omega)), h0 m (by omega) (by omega)]; omega
theorem s_tally_n (d : Nat) {G : jG} {X : jX} {γ : aG} (g w : Int) (hg : isGr G g) (hγ : cGr X g γ) : ∀ (n : Nat) (i v : Int), i + n = 48 → 0 ≤ i → 0 ≤ v → v ≤ i → jN d 15 4 [(11, g), (0, w), (0, v), (0, i)] [] (G, X) = some (v + cnF (fun c => if gCe γ c = w then 1 else 0) n i, (G, X)) := by
  obtain ⟨g0, g1, g2, g3, g4⟩ := hg
  intro n
  induction n with
  | zero =>
    intro i v h0 h1 h2 h3
    rw [h_X1_tally_4, if_neg (by omega)]
    show _ = some (v + 0, _)
    rw [Int.add_zero]
  | succ n ih =>
    intro i v h0 h1 h2 h3
    rw [h_X1_tally_4, if_pos (by omega), g0, g2, if_pos (by omega), if_pos (by omega), if_pos h1, if_pos (by omega), hγ.2.1 i h1 (by omega), jadd_id (a := v) (by omega) (by omega), jadd_id (a := i) (by omega) (by omega), ih (i + 1) (v + 1) (by omega) (by omega) (by omega) (by omega), ih (i + 1) v (by omega) (by omega) (by omega) (by omega)]
    show _ = some (v + ((if gCe γ i = w then 1 else 0) + cnF _ n (i + 1)), _)
    split
    · rw [Int.add_assoc]
    · rw [Int.zero_add]
theorem s_tally (d : Nat) {G : jG} {X : jX} {γ : aG} (g w : Int) (hg : isGr G g) (hγ : cGr X g γ) : jD (d + 1) 15 [(11, g), (0, w)] (G, X) = some (cnt (fun c => if gCe γ c = w then 1 else 0) 48, (G, X)) := by
  rw [e_X1_tally, s_tally_n d g w hg hγ 48 0 0 rfl (by omega) (by omega) (by omega), Int.zero_add, cnF_0]
theorem s_tubsInAll (d : Nat) {G : jG} {X : jX} {P : aP} {γ : aG} (g : Int) (hg : isGr G g) (hγ : cGr X g γ) (hO : gOk P γ) : jD (d + 1) 17 [(11, g)] (G, X) = some (sm5 (gSt γ), (G, X)) := by
  obtain ⟨g0, g1, g2, g3, g4⟩ := hg
  have o7 := hO.2.2.2.2.2.2.1
  have hq := nwh_le (gCe γ) 48
  have a0 := o7 0 (by omega) (by omega); have a1 := o7 1 (by omega) (by omega); have a2 := o7 2 (by omega) (by omega); have a3 := o7 3 (by omega) (by omega); have a4 := o7 4 (by omega) (by omega)
  have step : ∀ i v : Int, 0 ≤ i → i < 5 → jadd v (gSt γ i) = v + gSt γ i → jN d 17 4 [(11, g), (0, v), (0, i)] [] (G, X) = jN d 17 4 [(11, g), (0, v + gSt γ i), (0, i + 1)] [] (G, X) := by
    intro i v h0 h1 h2
    rw [h_X1_tubsInAll_4, if_pos (by omega), g1, g3, if_pos (by omega), if_pos (by omega), if_pos h0, if_pos (by omega), hγ.2.2 i h0 h1, h2, jadd_id (by omega) (by omega)]
  rw [e_X1_tubsInAll, step 0 0 (by omega) (by omega) (jadd_id (by omega) (by omega)), step (0 + 1) _ (by omega) (by omega) (jadd_id (by simp; omega) (by simp; omega)), step (0 + 1 + 1) _ (by omega) (by omega) (jadd_id (by simp; omega) (by simp; omega)), step (0 + 1 + 1 + 1) _ (by omega) (by omega) (jadd_id (by simp; omega) (by simp; omega)), step (0 + 1 + 1 + 1 + 1) _ (by omega) (by omega) (jadd_id (by simp; omega) (by simp; omega)), h_X1_tubsInAll_4, if_neg (by omega)]
  unfold sm5
  simp
theorem t_tubs_n (d : Nat) {G : jG} {X : jX} {P : aP} {γ : aG} (hG : GG G) (hP : mPlan X P) (hO : pOk P) (hγ : mGr X 190 0 γ) (hgO : gOk P γ) : ∀ (n : Nat) (i v : Int), i + n = pK P → 0 ≤ i → 0 ≤ v → v ≤ 100 * i → jN (d + 1) 249 4 [(22, 149), (0, v), (0, i)] [] (G, X) = some (v + cnF (gSt γ) n i, (G, X)) := by
  have hn := pOk_n hO
  have hq := nwh_le (gCe γ) 48
  intro n
  induction n with
  | zero =>
    intro i v h0 h1 h2 h3
    rw [h_X12_tubsAll_4, t_kindMany d hG hP]
    simp only [Option.bind_some, Int.reduceLE, reduceIte]
    rw [if_neg (by omega)]
    show _ = some (v + 0, _)
    rw [Int.add_zero]
  | succ n ih =>
    intro i v h0 h1 h2 h3
    have o7 := hgO.2.2.2.2.2.2.1 i h1 (by omega)
    rw [h_X12_tubsAll_4, t_kindMany d hG hP]
    simp only [Option.bind_some, Int.reduceLE, reduceIte]
    rw [if_pos (by omega), t_tubsOf d i hG hγ h1 (by omega)]
    simp only [Option.bind_some]
    rw [jadd_id (a := v) (by omega) (by omega), jadd_id (a := i) (by omega) (by omega), ih (i + 1) _ (by omega) (by omega) (by omega) (by omega)]
    show _ = some (v + (gSt γ i + cnF (gSt γ) n (i + 1)), _)
    rw [Int.add_assoc]
theorem t_tubsAll (d : Nat) {G : jG} {X : jX} {P : aP} {γ : aG} (hG : GG G) (hP : mPlan X P) (hO : pOk P) (hγ : mGr X 190 0 γ) (hgO : gOk P γ) : jD (d + 2) 249 [(22, 149)] (G, X) = some (sm5 (gSt γ), (G, X)) := by
  have hn := pOk_n hO
  rw [e_X12_tubsAll, t_tubs_n d hG hP hO hγ hgO (pK P).toNat 0 0 (by omega) (by omega) (by omega) (by omega), Int.zero_add, cnF_0]
  have : cnt (gSt γ) 5 = cnt (gSt γ) (pK P).toNat := cnt_ext (by omega) (fun c c0 c1 => (hgO.2.2.2.2.2.2.1 c (by omega) (by omega)).2.2 (by omega))
  rw [← this]
  congr 2
  show ((((0 + gSt γ 0) + gSt γ 1) + gSt γ 2) + gSt γ 3) + gSt γ 4 = _
  unfold sm5
  omega
theorem t_that_n (d : Nat) {G : jG} {X : jX} {P : aP} {γ : aG} (w : Int) (hG : GG G) (hP : mPlan X P) (hO : pOk P) (hγ : mGr X 190 0 γ) : ∀ (n : Nat) (i v : Int), i + n = pCe P → 0 ≤ i → 0 ≤ v → v ≤ i → jN (d + 2) 248 4 [(22, 149), (0, w), (0, v), (0, i)] [] (G, X) = some (v + cnF (fun c => if w = 10 then b01 (opn (gCe γ) c) else (if gCe γ c = 3 then 1 else 0)) n i, (G, X)) := by
  have hcc := pCe_le hO
  intro n
  induction n with
  | zero =>
    intro i v h0 h1 h2 h3
    rw [h_X12_cellsThat_4, t_cellMany d hG hP hO]
    simp only [Option.bind_some, Int.reduceLE, reduceIte]
    rw [if_neg (by omega)]
    show _ = some (v + 0, _)
    rw [Int.add_zero]
  | succ n ih =>
    intro i v h0 h1 h2 h3
    rw [h_X12_cellsThat_4, t_cellMany d hG hP hO]
    simp only [Option.bind_some, Int.reduceLE, reduceIte]
    rw [if_pos (by omega), t_isOpen d i hG hγ h1 (by omega), t_whatIs (d + 1) i hG hγ h1 (by omega)]
    simp only [Option.bind_some]
    rw [jadd_id (a := v) (by omega) (by omega), jadd_id (a := i) (by omega) (by omega), ih (i + 1) (v + 1) (by omega) (by omega) (by omega) (by omega), ih (i + 1) v (by omega) (by omega) (by omega) (by omega)]
    show _ = some (v + ((if w = 10 then b01 (opn (gCe γ) i) else (if gCe γ i = 3 then 1 else 0)) + cnF _ n (i + 1)), _)
    by_cases q : w = 10
    · rw [if_pos q, if_pos q]
      rcases b01_or (opn (gCe γ) i) with ⟨e, -⟩ | ⟨e, -⟩
      · rw [if_pos e, e, Int.zero_add]
      · rw [if_neg (by omega), e, Int.add_assoc]
    · rw [if_neg q, if_neg q]
      split
      · rw [Int.add_assoc]
      · rw [Int.zero_add]
theorem open_cnt (P : aP) (γ : aG) (hO : pOk P) (hgO : gOk P γ) : cnt (fun c => if gCe γ c = 1 then 1 else 0) 48 + cnt (fun c => if gCe γ c = 2 then 1 else 0) 48 = cnt (fun c => b01 (opn (gCe γ) c)) (pCe P).toNat := by
  have hcc := pCe_le hO
  rw [cnt_add]
  have e1 : cnt (fun c => (if gCe γ c = 1 then 1 else 0) + (if gCe γ c = 2 then 1 else 0)) 48 = cnt (fun c => b01 (opn (gCe γ) c)) 48 := cnt_cong (fun c c0 c1 => by
    try dsimp only
    rcases b01_or (opn (gCe γ) c) with ⟨e, h⟩ | ⟨e, h⟩ <;> rw [e] <;> unfold opn at h <;> split <;> split <;> omega)
  rw [e1]
  refine cnt_ext (by omega) (fun c c0 c1 => b01_f ?_)
  have := (hgO.2.2.2.2.2.2.2 c (by omega) (by omega)).2.2 (by omega)
  unfold opn
  omega
theorem fall_cnt (P : aP) (γ : aG) (hO : pOk P) (hgO : gOk P γ) : cnt (fun c => if gCe γ c = 3 then 1 else 0) 48 = cnt (fun c => if gCe γ c = 3 then 1 else 0) (pCe P).toNat := by
  have hcc := pCe_le hO
  refine cnt_ext (by omega) (fun c c0 c1 => ?_)
  have := (hgO.2.2.2.2.2.2.2 c (by omega) (by omega)).2.2 (by omega)
  try dsimp only
  rw [if_neg (by omega)]
noncomputable def hasS (w : Int) (A : aA) : Int := if w = 0 then pC (aPl A) else if w = 1 then pR (aPl A) else if w = 2 then pK (aPl A) else if w = 3 then pH (aPl A) else if w = 4 then pM (aPl A) else if w = 5 then pHo (aPl A) else if w = 6 then gPr (aGr A) else if w = 7 then sm5 (gSt (aGr A)) else if w = 8 then gWo (aGr A) else if w = 9 then gRe (aGr A) else if w = 10 then cnt (fun c => b01 (opn (gCe (aGr A)) c)) (pCe (aPl A)).toNat else if w = 11 then cnt (fun c => if gCe (aGr A) c = 3 then 1 else 0) (pCe (aPl A)).toNat else if w = 12 then nct (aPl A) (gCe (aGr A)) else if w = 13 then (aHi A).length else -1
theorem call_has (w : Int) : okB 156 250 [(0, w)] := by
  refine ⟨hasS w, fun A => A, fun d G X A hG hR hV => ?_, fun d G X A hG hR hV => ?_, fun A hV => hV⟩
  · obtain ⟨r1, r2, r3, r4, r5, r6, r7, r8, r9, r10, r11⟩ := id hR
    have hO := hV.2.1
    have hgO := hV.2.2.1
    have hp := cPlan_at r3
    have hg25 : isGr G 25 := ⟨gr_25_0 hG, gr_25_1 hG, gl_26 hG, gl_27 hG, by omega⟩
    have same : ∀ v, jD (d + 60) 156 ((21, 0) :: [(0, w)]) (G, X) = some (v, (G, X)) → v = hasS w A → ∃ G' X', jD (d + 60) 156 ((21, 0) :: [(0, w)]) (G, X) = some (hasS w A, (G', X')) ∧ GG G' ∧ RC A X' ∧ ∀ a, 149 ≤ a → X' a = X a := fun v h1 h2 => ⟨G, X, by rw [← h2]; exact h1, hG, hR, fun _ _ => rfl⟩
    by_cases h12 : w = 12
    · obtain ⟨X1, e1, f1⟩ := s_countCuttable (d + 53) hG r3 hO hgO (mi_0 hG) r4
      subst h12
      refine ⟨G, X1, ?_, hG, RC_same (fun a ha => f1 a (by unfold sR at ha; unfold mSc; omega)) hR, fun a ha => f1 a (by unfold mSc; omega)⟩
      rw [e_X11_has, gr_0_5 hG]
      simp only [Int.reduceEq, Int.reduceLE, reduceIte]
      rw [e1]
      rfl
    · have hb1 := cnt_le (f := fun c => if gCe (aGr A) c = 1 then 1 else 0) (n := 48) (fun c _ _ => by split <;> simp)
      have hb2 := cnt_le (f := fun c => if gCe (aGr A) c = 2 then 1 else 0) (n := 48) (fun c _ _ => by split <;> simp)
      refine same (hasS w A) ?_ rfl
      rw [e_X11_has, gr_0_2 hG, gr_0_4 hG, gr_0_6 hG, gr_1_8 hG, gl_2 hG, hp.2.2.1, hp.2.2.2.2.1, hp.2.2.2.2.2.1, hp.2.2.2.2.2.2.1, hp.2.2.2.2.2.2.2, r3.2.1.1, r4.1.1, r4.1.2.1, r4.1.2.2, s_tubsInAll (d + 58) 25 hg25 r4 hgO, s_tally (d + 58) 25 1 hg25 r4, s_tally (d + 58) 25 3 hg25 r4, e_X2_size, r5.1]
      simp only [Option.bind_some, Int.reduceLE, Int.reduceLT, reduceIte]
      rw [gr_0_4 hG, s_tally (d + 58) 25 2 hg25 r4]
      simp only [Option.bind_some, Int.reduceLE, reduceIte]
      rw [jadd_id (by omega) (by omega), open_cnt (aPl A) (aGr A) hO hgO, fall_cnt (aPl A) (aGr A) hO hgO]
      unfold hasS
      by_cases q0 : w = 0
      · rw [if_pos q0, if_pos q0]
      rw [if_neg q0, if_neg q0]
      by_cases q1 : w = 1
      · rw [if_pos q1, if_pos q1]
      rw [if_neg q1, if_neg q1]
      by_cases q2 : w = 2
      · rw [if_pos q2, if_pos q2]
      rw [if_neg q2, if_neg q2]
      by_cases q3 : w = 3
      · rw [if_pos q3, if_pos q3]
      rw [if_neg q3, if_neg q3]
      by_cases q4 : w = 4
      · rw [if_pos q4, if_pos q4]
      rw [if_neg q4, if_neg q4]
      by_cases q5 : w = 5
      · rw [if_pos q5, if_pos q5]
      rw [if_neg q5, if_neg q5]
      by_cases q6 : w = 6
      · rw [if_pos q6, if_pos q6]
      rw [if_neg q6, if_neg q6]
      by_cases q7 : w = 7
      · rw [if_pos q7, if_pos q7]
      rw [if_neg q7, if_neg q7]
      by_cases q8 : w = 8
      · rw [if_pos q8, if_pos q8]
      rw [if_neg q8, if_neg q8]
      by_cases q9 : w = 9
      · rw [if_pos q9, if_pos q9]
      rw [if_neg q9, if_neg q9]
      by_cases q10 : w = 10
      · rw [if_pos q10, if_pos q10]
      rw [if_neg q10, if_neg q10]
      by_cases q11 : w = 11
      · rw [if_pos q11, if_pos q11]
      rw [if_neg q11, if_neg q11, if_neg h12, if_neg h12]
      by_cases q13 : w = 13
      · rw [if_pos q13, if_pos q13]
      rw [if_neg q13, if_neg q13]
  · obtain ⟨r1, r2, r3, r4, r5, r6, r7, r8, r9, r10, r11⟩ := id hR
    have hO := hV.2.1
    have hgO := hV.2.2.1
    have hp := mPlan_at r3
    have hcc := pCe_le hO
    by_cases h12 : w = 12
    · obtain ⟨X1, e1, f1⟩ := t_cuttable (d + 52) hG r3 hO r4
      subst h12
      refine ⟨X1, ?_, RM_same (fun a ha => f1.1 a (by unfold sM at ha; omega) (by unfold sM at ha; omega) (by unfold sM at ha; omega)) (fun j hj => f1.2 j (by unfold sN at hj; omega) (by unfold sN at hj; omega)) hR, fun a ha => f1.1 a (by omega) (by omega) (by omega)⟩
      have ebits := t_bitsOf (d + 58) (G := G) (X := X1) (ct0 (aPl A) (gCe (aGr A))) (pCe (aPl A)).toNat (by omega) (ct0_01 _ _)
      rw [e_X12_has]
      simp only [Int.reduceEq, Int.reduceLE, reduceIte]
      rw [e1]
      simp only [Option.bind_some]
      change (jD (d + 59) 245 [(1, ((bsN (ct0 (aPl A) (gCe (aGr A))) (pCe (aPl A)).toNat : Nat) : Int))] (G, X1)).bind _ = _
      rw [ebits]
      rfl
    · refine ⟨X, ?_, hR, fun _ _ => rfl⟩
      have e10 : jD (d + 59) 248 [(22, 149), (0, w)] (G, X) = some (cnt (fun c => if w = 10 then b01 (opn (gCe (aGr A)) c) else (if gCe (aGr A) c = 3 then 1 else 0)) (pCe (aPl A)).toNat, (G, X)) := by
        rw [e_X12_cellsThat, t_that_n (d + 56) w hG r3 hO r4 (pCe (aPl A)).toNat 0 0 (by omega) (by omega) (by omega) (by omega), Int.zero_add, cnF_0]
      have e72 : w = 0 ∨ w = 1 ∨ w = 2 ∨ w = 3 ∨ w = 4 → jN (d + 59) 250 72 [(22, 149), (0, w)] [] (G, X) = some (X 181 (6 + w), (G, X)) := by
        intro h
        rw [h_X12_has_72, gr_149_40 hG, gl_181 hG, jadd_id (by omega) (by omega)]
        simp only [Int.reduceLE, reduceIte]
        rw [if_pos (by omega), if_pos (by omega)]
      rw [e_X12_has, gr_149_53 hG, gl_190 hG, t_holdsUp (d + 58) hG r3, t_tubsAll (d + 57) hG r3 hO r4 hgO, show X 190 0 = gPr (aGr A) from r4.1.1, show X 190 1 = gWo (aGr A) from r4.1.2.1, show X 190 2 = gRe (aGr A) from r4.1.2.2, r5.1, h_X12_has_113, e10]
      simp only [Option.bind_some, Int.reduceLE, Int.reduceLT, reduceIte]
      unfold hasS
      by_cases q0 : w = 0
      · rw [if_pos q0, if_pos q0, e72 (by omega), q0]; rw [show (6 : Int) + 0 = 6 from rfl, hp.1]
      rw [if_neg q0, if_neg q0]
      by_cases q1 : w = 1
      · rw [if_pos q1, if_pos q1, e72 (by omega), q1]; rw [show (6 : Int) + 1 = 7 from rfl, hp.2.1]
      rw [if_neg q1, if_neg q1]
      by_cases q2 : w = 2
      · rw [if_pos q2, if_pos q2, e72 (by omega), q2]; rw [show (6 : Int) + 2 = 8 from rfl, hp.2.2.1]
      rw [if_neg q2, if_neg q2]
      by_cases q3 : w = 3
      · rw [if_pos q3, if_pos q3, e72 (by omega), q3]; rw [show (6 : Int) + 3 = 9 from rfl, hp.2.2.2.1]
      rw [if_neg q3, if_neg q3]
      by_cases q4 : w = 4
      · rw [if_pos q4, if_pos q4, e72 (by omega), q4]; rw [show (6 : Int) + 4 = 10 from rfl, hp.2.2.2.2.1]
      rw [if_neg q4, if_neg q4]
      by_cases q5 : w = 5
      · rw [if_pos q5, if_pos q5]
      rw [if_neg q5, if_neg q5]
      by_cases q6 : w = 6
      · rw [if_pos q6, if_pos q6]
      rw [if_neg q6, if_neg q6]
      by_cases q7 : w = 7
      · rw [if_pos q7, if_pos q7]
      rw [if_neg q7, if_neg q7]
      by_cases q8 : w = 8
      · rw [if_pos q8, if_pos q8]
      rw [if_neg q8, if_neg q8]
      by_cases q9 : w = 9
      · rw [if_pos q9, if_pos q9]
      rw [if_neg q9, if_neg q9]
      by_cases q10 : w = 10
      · rw [if_pos q10, if_pos q10]
        simp only [if_pos q10]
      rw [if_neg q10, if_neg q10]
      by_cases q11 : w = 11
      · rw [if_pos q11, if_pos q11]
        simp only [if_neg q10]
      rw [if_neg q11, if_neg q11, if_neg h12, if_neg h12]
      by_cases q13 : w = 13
      · rw [if_pos q13, if_pos q13]
      rw [if_neg q13, if_neg q13]
