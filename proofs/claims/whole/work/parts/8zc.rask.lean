/-! ASK: the reference -/
theorem t_qOf (d : Nat) {G : jG} {X : jX} {P : aP} {γ : aG} (hG : GG G) (hP : mPlan X P) (hO : pOk P) (hgO : gOk P γ) (hγ : mGr X 190 0 γ) (a x c : Int) (hx : -1000000 ≤ x ∧ x ≤ 1000000) : jD (d + 2) 319 [(22, 149), (0, a), (1, x), (0, c)] (G, X) = some (tbG γ x, (G, X)) := by
  have hk := pOk_n hO
  have hg := hgO.2.2.2.2.2.2.1
  rw [e_X12_qOf]
  simp only [Int.reduceLE, reduceIte]
  rw [t_kindMany d hG hP]
  simp only [Option.bind_some]
  rw [t_isIn, jsub_id (by omega) (by omega)]
  simp only [Option.bind_some]
  unfold tbG
  by_cases q : 0 ≤ x ∧ x ≤ pK P - 1
  · rw [if_pos q, if_neg (by omega), w32_i (by omega) (by omega), t_tubsOf d x hG hγ (by omega) (by omega), if_pos ⟨by omega, by omega⟩]
    rfl
  · rw [if_neg q, if_pos rfl]
    by_cases q2 : 0 ≤ x ∧ x < 5
    · rw [if_pos q2, (hg x q2.1 q2.2).2.2 (by omega)]
    · rw [if_neg q2]
theorem t_told_n (d : Nat) {G : jG} {P : aP} {γ : aG} (hG : GG G) (hO : pOk P) (hgO : gOk P γ) (c E : Int) (c0 : 0 ≤ c) (c1 : c < 48) (f : Int → Int) (hf : ∀ k, 0 ≤ k → k ≤ 9 → -1000000 ≤ f k ∧ f k ≤ 1000000) (hf0 : f 0 = c) (hf7 : f 7 = if gCe γ c = 0 then 1 else 0) : ∀ (l : List Int) (X : jX) (i : Int) (s : List Int) (ts ts' : List Nat) (u3 : jV), u3.1 = 2 ∨ u3.1 = 0 → 0 ≤ i → mPlan X P → mGr X 190 0 γ → (∀ j : Nat, j < l.length → X 227 (i + j) = toM (l.getD j 0)) → X 149 109 = E → i + l.length = E → E ≤ 1600 → (∀ k, (1 ≤ k ∧ k ≤ 6 ∨ k = 8 ∨ k = 9) → X 149 (fsl (20000 + k)) = f k) → X 149 115 = s.length → pil (X 229) s → vok s ts → s.length ≤ 60 → hts l s.length = some 1 → tys l ts = some ts' →
    ∃ X', jN (d + 3) 320 7 [(22, 149), (0, c), (0, i), u3] [] (G, X) = some ((evl f (tbG γ) l s).headD 0, (G, X')) ∧ mfE X X' := by
  have ht : ∀ x, -1000000 ≤ tbG γ x ∧ tbG γ x ≤ 1000000 := tb_le hgO
  intro l
  induction l with
  | nil =>
    intro X i s ts ts' u3 hu3 hi hP hγ hcd hE hiE hE1 hfa hn hp hv hle hh hty
    have hlen : s.length = 1 := by simpa [hts] using hh
    simp only [List.length_nil] at hiE
    match s, hp, hlen with
    | [x], hp, _ =>
      refine ⟨X, ?_, mfE_r X⟩
      rw [h_X12_qTold_7 _ _ _ _ _ hu3, hE, gr_149_114 hG, gl_229 hG]
      simp only [Int.reduceLE, Int.reduceLT, reduceIte]
      rw [if_neg (by omega)]
      have : X 229 0 = x := hp.1
      rw [this]
      rfl
  | cons op l ih =>
    intro X i s ts ts' u3 hu3 hi hP hγ hcd hE hiE hE1 hfa hn hp hv hle hh hty
    obtain ⟨ts1, hv1, hh1, hty1, hle1⟩ := ev1_ok hf ht hv hle hh hty
    have hop : X 227 i = toM op := by have := hcd 0 (by simp); simpa using this
    have hcd' : ∀ j : Nat, j < l.length → X 227 (i + 1 + j) = toM (l.getD j 0) := fun j hj => by
      have := hcd (j + 1) (by simp; omega)
      rw [show i + 1 + (j : Int) = i + ((j + 1 : Nat) : Int) by omega, this]
      simp
    simp only [List.length_cons] at hiE
    have go : ∀ (X1 : jX) (v3 : Int), (∀ k, k ≠ 149 → k ≠ 229 → X1 k = X k) → (∀ j, j ≠ 115 → X1 149 j = X 149 j) → X1 149 115 = (ev1 f (tbG γ) op s).length → pil (X1 229) (ev1 f (tbG γ) op s) → ∃ X', jN (d + 3) 320 7 [(22, 149), (0, c), (0, i + 1), (0, v3)] [] (G, X1) = some ((evl f (tbG γ) (op :: l) s).headD 0, (G, X')) ∧ mfE X X' := by
      intro X1 v3 hfr hfr2 hn1 hp1
      obtain ⟨X', e, fr⟩ := ih X1 (i + 1) (ev1 f (tbG γ) op s) ts1 ts' (0, v3) (Or.inr rfl) (by omega) (mPlan_fr (fun a h1 h2 => hfr a (by omega) (by omega)) (hfr2 51 (by omega)) hP) (mGr_fr (hfr 190 (by omega) (by omega)) hγ) (fun j hj => by rw [hfr 227 (by omega) (by omega)]; exact hcd' j hj) (by rw [hfr2 109 (by omega)]; exact hE) (by omega) hE1 (fun k hk => by rw [hfr2 _ (by unfold fsl; split <;> omega)]; exact hfa k hk) hn1 hp1 hv1 hle1 hh1 hty1
      exact ⟨X', e, mfE_t ⟨hfr, fun j _ h2 => hfr2 j h2⟩ fr⟩
    rw [h_X12_qTold_7 _ _ _ _ _ hu3, hE, gr_149_108 hG, gl_227 hG, gr_149_114 hG, gl_229 hG, hop, jadd_id (a := i) (by omega) (by omega), hn]
    simp only [Int.reduceLE, Int.reduceLT, reduceIte]
    rw [if_pos (show i < E by omega), if_pos hi, if_pos (show i < 1700 by omega)]
    have hT := toM_r (op := op)
    have push : ∀ v z : Int, ev1 f (tbG γ) op s = v :: s → ∃ X', jN (d + 3) 320 7 [(22, 149), (0, c), (0, i + 1), (0, z)] [] (G, jup (jup X 229 s.length v) 149 115 (s.length + 1)) = some ((evl f (tbG γ) (op :: l) s).headD 0, (G, X')) ∧ mfE X X' := by
      intro v z hev
      refine go _ z (fun k h1 h2 => by rw [jup_rw _ _ _ _ _ h1, jup_rw _ _ _ _ _ h2]) (fun j hj => by rw [jup_row _ _ _ _ _ hj, jup_rw _ _ _ _ _ (by omega)]) ?_ ?_
      · rw [jup_same, hev]; simp
      · rw [hev, jup_rw _ _ _ _ _ (by omega)]
        exact ⟨jup_same _ _ _ _, pil_up (fun q q0 q1 => jup_row _ _ _ _ _ (by omega)) hp⟩
    unfold ev1 at go push
    unfold hts at hh
    unfold tys at hty
    by_cases h14 : op = 10014
    · subst h14
      rw [show toM 10014 = 13 from rfl]
      simp only [Int.reduceLT, reduceIte]
      rw [t_qPuts (d + 2) 1 s.length hG hn (by omega) (by omega)]
      simp only [Option.bind_some]
      exact push 1 13 rfl
    rw [if_neg h14] at hty
    by_cases hnn : op < 10000 ∧ 0 ≤ op
    · rw [hT.1 ⟨hnn.2, hnn.1⟩, if_neg (show ¬ 1000 + op < 1000 by omega), jsub_id (by omega) (by omega), show 1000 + op - 1000 = op by omega, t_qPuts (d + 2) op s.length hG hn (by omega) (by omega)]
      simp only [Option.bind_some]
      exact push op _ (if_pos hnn.1)
    by_cases hfc : 20000 ≤ op ∧ op ≤ 20009
    · have h40 := hT.2.1 hfc
      have hfb := hf (op - 20000) (by omega) (by omega)
      have ep : jD (d + 3) 318 [(22, 149), (0, toM op - 40), (0, c)] (G, X) = some (f (op - 20000), (G, X)) := by
        by_cases o0 : op = 20000
        · rw [o0, show toM 20000 - 40 = 8 from rfl, e_X12_qPartOf]
          simp only [Int.reduceEq, reduceIte]
          rw [show (20000 : Int) - 20000 = 0 by omega, hf0]
        · by_cases o7 : op = 20007
          · rw [o7, show toM 20007 - 40 = 9 from rfl, e_X12_qPartOf]
            simp only [Int.reduceEq, Int.reduceLE, reduceIte]
            rw [t_whatIs (d + 1) c hG hγ c0 c1]
            simp only [Option.bind_some]
            rw [show (20007 : Int) - 20000 = 7 by omega, hf7]
            split <;> rfl
          · rw [t_qPartOf (d + 2) op c (by omega) hfc.2 o7]
            have := hfa (op - 20000) (by omega)
            rw [show 20000 + (op - 20000) = op by omega] at this
            rw [this]
      rw [if_pos (by omega), if_pos (by omega), if_neg (by omega), jsub_id (by omega) (by omega), ep]
      simp only [Option.bind_some]
      rw [t_qClip (d + 2), clp_id hfb.1 hfb.2]
      simp only [Option.bind_some]
      rw [t_qPuts (d + 2) _ s.length hG hn (by omega) (by omega)]
      simp only [Option.bind_some]
      exact push (f (op - 20000)) _ (by rw [if_neg (by omega), if_neg h14, if_pos hfc.1])
    rw [if_neg (by omega)] at hh
    rw [if_neg (by omega)] at hty
    have h10 : 10001 ≤ op ∧ op ≤ 10013 := by
      split at hh
      · omega
      · split at hh
        · omega
        · cases hh
    rw [if_neg (by omega), if_neg h14, if_neg (by omega)] at go
    match s, ts, hv, hp with
    | [], [], _, _ => cases hty
    | x :: s, t :: ts, hv, hp =>
      dsimp only at hty go
      simp only [List.length_cons] at hle hh hn ⊢
      have hx : X 229 s.length = x := hp.1
      by_cases h1 : op = 10001
      · rw [if_pos h1] at hty go
        rw [show toM op = 12 by rw [h1]; rfl]
        simp only [Int.reduceLT, Int.reduceEq, reduceIte]
        rw [jsub_id (by omega) (by omega), show ((s.length + 1 : Nat) : Int) - 1 = s.length by omega, if_pos (by omega), if_pos (by omega), hx, lsub_id (by have := hv.1; omega) (by have := hv.1; omega)]
        have zz := go (jup X 229 s.length (1 - x)) 12 (fun k h1 h2 => jup_rw _ _ _ _ _ h2) (fun j hj => by rw [jup_rw _ _ _ _ _ (by omega)]) (by rw [jup_rw _ _ _ _ _ (by omega), hn]; simp) ⟨jup_same _ _ _ _, pil_up (fun q q0 q1 => jup_row _ _ _ _ _ (by omega)) hp.2⟩
        try rw [if_pos (by omega), if_pos (by omega)]
        exact zz
      rw [if_neg h1] at hty go
      by_cases h2 : op = 10002
      · rw [if_pos h2] at hty go
        have ht' := ht x
        rw [show toM op = 60 by rw [h2]; rfl]
        simp only [Int.reduceLT, Int.reduceEq, reduceIte]
        rw [jsub_id (a := ((s.length + 1 : Nat) : Int)) (by omega) (by omega), show ((s.length + 1 : Nat) : Int) - 1 = s.length by omega, if_pos (by omega), if_pos (by omega), hx, t_qOf (d + 1) hG hP hO hgO hγ _ x c ⟨hv.1.1, hv.1.2.1⟩]
        simp only [Option.bind_some]
        rw [t_qClip (d + 2), clp_id ht'.1 ht'.2]
        simp only [Option.bind_some]
        have zz := go (jup X 229 s.length (tbG γ x)) 60 (fun k h1 h2 => jup_rw _ _ _ _ _ h2) (fun j hj => by rw [jup_rw _ _ _ _ _ (by omega)]) (by rw [jup_rw _ _ _ _ _ (by omega), hn]; simp) ⟨jup_same _ _ _ _, pil_up (fun q q0 q1 => jup_row _ _ _ _ _ (by omega)) hp.2⟩
        rw [gl_229 hG, if_pos (by omega), if_pos (by omega)]
        exact zz
      rw [if_neg h2] at hty go
      rw [if_neg (by omega), if_pos (by omega)] at hh
      have h3 := hT.2.2 ⟨by omega, by omega⟩
      match s, ts, hv, hp with
      | [], [], _, _ => cases hty
      | y :: s, tt :: ts, hv, hp =>
        dsimp only at hty go
        simp only [List.length_cons] at hle hh hx hn ⊢
        have hy : X 229 s.length = y := hp.2.1
        have h01 : op ≤ 10004 → (y = 0 ∨ y = 1) ∧ (x = 0 ∨ x = 1) := by
          intro q
          rw [if_pos (by omega)] at hty
          split at hty
          · rename_i e2
            exact ⟨hv.2.1.2.2 e2.2, hv.1.2.2 e2.1⟩
          · cases hty
        rw [if_pos (by omega), if_pos (by omega), if_pos (by omega), if_neg (by omega), if_neg (by omega), t_qJoins (d + 1) op y x s.length hG (by omega) (by omega) hv.2.1.1 hv.2.1.2.1 hv.1.1 hv.1.2.1 h01 (by rw [hn]; omega) (by omega) (by omega) hy (by rw [← hx]; congr 1)]
        simp only [Option.bind_some]
        refine go _ _ (fun k h1 h2 => by rw [jup_rw _ _ _ _ _ h1, jup_rw _ _ _ _ _ h2, jup_rw _ _ _ _ _ h1]) (fun j hj => by rw [jup_row _ _ _ _ _ hj, jup_rw _ _ _ _ _ (by omega), jup_row _ _ _ _ _ hj]) ?_ ?_
        · rw [jup_same]; simp
        · rw [jup_rw _ _ _ _ _ (by omega)]
          refine ⟨jup_same _ _ _ _, pil_up (fun q q0 q1 => ?_) hp.2.2⟩
          rw [jup_row _ _ _ _ _ (by omega), jup_rw _ _ _ _ _ (by omega)]
theorem t_qTold (d : Nat) {G : jG} {X : jX} {P : aP} {γ : aG} {t : Nat} (hG : GG G) (hP : mPlan X P) (hO : pOk P) (hgO : gOk P γ) (hγ : mGr X 190 0 γ) (c : Int) (hi : inP P c) (l : List Int) (hwf : wfC 2 t l) (hcd : ∀ j : Nat, j < l.length → X 227 j = toM (l.getD j 0)) (hE : X 149 109 = l.length) (hfa : ∀ k, (1 ≤ k ∧ k ≤ 6 ∨ k = 8 ∨ k = 9) → X 149 (fsl (20000 + k)) = fcC P (gCe γ) c k) : ∃ X', jD (d + 4) 320 [(22, 149), (0, c)] (G, X) = some (evv (fcC P (gCe γ) c) (tbG γ) l, (G, X')) ∧ mfE X X' := by
  have hcc := pCe_le hO
  have hi' : 0 ≤ c ∧ c < pCe P := hi
  have hf0 : mfE X (jup X 149 115 0) := ⟨fun k h1 _ => jup_rw _ _ _ _ _ h1, fun j _ h2 => jup_row _ _ _ _ _ h2⟩
  obtain ⟨X', e, fr⟩ := t_told_n d hG hO hgO c (l.length : Int) hi'.1 (by omega) (fcC P (gCe γ) c) (fcC_le _ hO hi) rfl rfl l (jup X 149 115 0) 0 [] [] [t] (2, -1) (Or.inl rfl) (by omega) (mfE_P hf0 hP) (mfE_G hf0 (by omega) (by omega) hγ) (fun j hj => by rw [jup_rw _ _ _ _ _ (by omega), Int.zero_add]; exact hcd j hj) (by rw [jup_row _ _ _ _ _ (by omega)]; exact hE) (by omega) (by have := hwf.1; omega) (fun k hk => by rw [jup_row _ _ _ _ _ (by unfold fsl; split <;> omega)]; exact hfa k hk) (by rw [jup_same]; rfl) trivial trivial (by simp) hwf.2.1 hwf.2.2.1
  refine ⟨X', ?_, mfE_t hf0 fr⟩
  rw [e_X12_qTold, if_pos (by omega)]
  exact e
theorem t_qTakes (d : Nat) {G : jG} {X : jX} (w v c a : Int) (h1 : 29 ≤ w) (h2 : w ≤ 34) (hv : -1000000 ≤ v ∧ v ≤ 1000000) (h01 : w ≤ 31 → v = 0 ∨ v = 1) (ha : X 149 116 = a) (hab : -100000000 ≤ a ∧ a ≤ 100000000) (hn : X 149 117 = if c = 0 then 1 else 0) : jD (d + 1) 322 [(22, 149), (0, w - 29), (1, v), (0, c)] (G, X) = some (0, (G, jup (jup X 149 116 (goS w a v c)) 149 117 0)) := by
  have same : jup X 149 116 a = X := jup_id _ _ _ _ ha
  have l1 : lCmp v 1 = 0 ↔ v = 1 := by unfold lCmp; grind
  have l2 : lCmp a (-1) = 0 ↔ a = -1 := by unfold lCmp; grind
  have l3 : 0 < lCmp v a ↔ a < v := by unfold lCmp; grind
  have l4 : lCmp v a < 0 ↔ v < a := by unfold lCmp; grind
  have end133 : ∀ (Y : jX) (v5 : Int), jN d 322 133 [(22, 149), (0, w - 29), (1, v), (2, (-1)), (0, c), (0, v5)] [] (G, Y) = some (0, (G, jup Y 149 117 0)) := fun Y v5 => by
    rw [h_X12_qTakes_133, if_pos (by omega)]
  have low90 : ∀ (Y : jX) (v5 : Int), w ≤ 32 → jN d 322 90 [(22, 149), (0, w - 29), (1, v), (2, (-1)), (0, c), (0, v5)] [] (G, Y) = some (0, (G, jup Y 149 117 0)) := fun Y v5 hw => by
    rw [h_X12_qTakes_90, if_neg (by omega)]; exact end133 Y v5
  rw [e_X12_qTakes]
  unfold goS
  by_cases w3 : w - 29 < 3
  · rw [if_pos w3]
    have h01 := h01 (by omega)
    have e16 : ∀ s0 : Int, (s0 = if v = 1 then 1 else 0) → jN d 322 16 [(22, 149), (0, w - 29), (1, v), (2, (-1)), (0, c), (2, (-1))] [(0, s0)] (G, X) = some (0, (G, jup (jup X 149 116 (if w = 29 then (if a = -1 ∧ v ≠ 0 then c else a) else if w = 30 then (if v ≠ 0 then c else a) else if w = 31 ∨ w = 32 then a + v else if w = 33 then (if c = 0 then v else if a < v then v else a) else (if c = 0 then v else if v < a then v else a))) 149 117 0)) := fun s0 hs => by
      have t75 : ∀ (Y : jX), jN d 322 75 [(22, 149), (0, w - 29), (1, v), (2, (-1)), (0, c), (0, s0)] [] (G, Y) = some (0, (G, jup Y 149 117 0)) := fun Y => by
        rw [h_X12_qTakes_75, if_neg (by omega)]; exact low90 Y s0 (by omega)
      by_cases w0 : w = 29
      · have t55 : ∀ (Y : jX), jN d 322 55 [(22, 149), (0, w - 29), (1, v), (2, (-1)), (0, c), (0, s0)] [] (G, Y) = some (0, (G, jup Y 149 117 0)) := fun Y => by
          rw [h_X12_qTakes_55, if_neg (by omega)]; exact t75 Y
        have t38 : jN d 322 38 [(22, 149), (0, w - 29), (1, v), (2, (-1)), (0, c), (0, s0)] [] (G, X) = some (0, (G, jup X 149 117 0)) := by
          rw [h_X12_qTakes_38, if_neg (by omega)]; exact t55 X
        rw [if_pos w0, h_X12_qTakes_16, if_pos (by omega), ha]
        simp only [Int.reduceLE, reduceIte]
        by_cases qv : v = 1
        · rw [if_pos qv] at hs
          rw [if_neg (by omega)]
          by_cases qa : a = -1
          · rw [if_pos (l2.2 qa), if_pos ⟨qa, by omega⟩, h_X12_qTakes_48, if_pos (by omega)]; exact t55 _
          · rw [if_neg (fun y => qa (l2.1 y)), if_neg (fun y => qa y.1), same]; exact t38
        · rw [if_neg qv] at hs
          rw [if_pos hs, if_neg (fun y => y.2 (by omega)), same]; exact t38
      · rw [if_neg w0, h_X12_qTakes_16, if_neg (by omega)]
        by_cases w1 : w = 30
        · have t55 : ∀ (Y : jX), jN d 322 55 [(22, 149), (0, w - 29), (1, v), (2, (-1)), (0, c), (0, s0)] [] (G, Y) = some (0, (G, jup Y 149 117 0)) := fun Y => by
            rw [h_X12_qTakes_55, if_neg (by omega)]; exact t75 Y
          rw [if_pos w1, h_X12_qTakes_38, if_pos (by omega)]
          by_cases qv : v = 1
          · rw [if_pos qv] at hs
            rw [if_neg (by omega), if_pos (show v ≠ 0 by omega), h_X12_qTakes_48, if_pos (by omega)]; exact t55 _
          · rw [if_neg qv] at hs
            rw [if_pos hs, if_neg (show ¬ v ≠ 0 by omega), same]; exact t55 X
        · rw [if_neg w1, if_pos (show w = 31 ∨ w = 32 by omega), h_X12_qTakes_38, if_neg (by omega), h_X12_qTakes_55, if_pos (by omega), ha]
          simp only [Int.reduceLE, reduceIte]
          by_cases qv : v = 1
          · rw [if_pos qv] at hs
            rw [if_neg (by omega), ladd_id (by omega) (by omega), qv]; rw [qv] at t75; exact t75 _
          · rw [if_neg qv] at hs
            rw [if_pos hs, show a + v = a by omega, same]; exact t75 X
    by_cases qv : v = 1
    · rw [if_pos (l1.2 qv)]; exact e16 1 (by rw [if_pos qv])
    · rw [if_neg (fun y => qv (l1.1 y)), h_X12_qTakes_15]; exact e16 0 (by rw [if_neg qv])
  · rw [if_neg w3, h_X12_qTakes_15, h_X12_qTakes_16, if_neg (by omega), h_X12_qTakes_38, if_neg (by omega), h_X12_qTakes_55, if_neg (by omega), h_X12_qTakes_75, if_neg (show ¬ w = 29 by omega), if_neg (show ¬ w = 30 by omega), ha]
    simp only [Int.reduceLE, reduceIte]
    by_cases w4 : w = 32
    · rw [if_pos (by omega), if_pos (Or.inr w4), ladd_id (by omega) (by omega)]; exact low90 _ 0 (by omega)
    · rw [if_neg (by omega), if_neg (show ¬ (w = 31 ∨ w = 32) by omega), h_X12_qTakes_90, if_pos (by omega), hn, ha]
      simp only [Int.reduceLE, reduceIte]
      have t128 : ∀ Y : jX, jN d 322 128 [(22, 149), (0, w - 29), (1, v), (2, (-1)), (0, c), (0, 0)] [] (G, Y) = some (0, (G, jup (jup Y 149 116 v) 149 117 0)) := fun Y => by
        rw [h_X12_qTakes_128, if_pos (by omega)]; exact end133 _ 0
      by_cases qc : c = 0
      · simp only [if_pos qc]
        rw [if_neg (by omega), t128]
        split <;> rfl
      · simp only [if_neg qc, reduceIte]
        by_cases w5 : w = 33
        · rw [if_pos (by omega), if_pos w5]
          by_cases q : a < v
          · rw [if_pos (l3.2 q), if_pos q, t128]
          · rw [if_neg (fun y => q (l3.1 y)), if_neg q, same, end133]
        · rw [if_neg (by omega), if_neg w5]
          by_cases q : v < a
          · rw [if_pos (l4.2 q), if_pos q, t128]
          · rw [if_neg (fun y => q (l4.1 y)), if_neg q, same, end133]
