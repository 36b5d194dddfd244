/-! ON: an image read -/
def thr (f : Int → Int) (k : Int) : Int := 65536 * f k + 256 * f (k + 1) + f (k + 2)
def onO (A : aA) : Prop := pN (aPl A) ≠ 0 ∧ aTn A = imN (aPl A) + 1 ∧ aTp A 0 ≤ pPr (aPl A) ∧ thr (aTp A) 1 ≤ 999999 ∧ thr (aTp A) 4 ≤ 999999 ∧ (∀ k, 0 ≤ k → k < pK (aPl A) → aTp A (7 + k) ≤ 20) ∧ (∀ c, 0 ≤ c → c < pCe (aPl A) → aTp A (7 + pK (aPl A) + c) ≤ 3) ∧ aTp A (imN (aPl A)) = chk (aTp A) (imN (aPl A)).toNat
def onG (A : aA) : aG := ((aTp A 0, thr (aTp A) 1, thr (aTp A) 4), (fun k => if 0 ≤ k ∧ k < pK (aPl A) then aTp A (7 + k) else gSt (aGr A) k), (fun c => if 0 ≤ c ∧ c < pCe (aPl A) then aTp A (7 + pK (aPl A) + c) else gCe (aGr A) c))
theorem iShl_k : ∀ a : Nat, a ≤ 255 → iShl a 8 = a * 256 ∧ iShl a 16 = a * 65536 := by decide +kernel
theorem iShl_id {a : Int} (h0 : 0 ≤ a) (h1 : a ≤ 255) : iShl a 8 = a * 256 ∧ iShl a 16 = a * 65536 := by
  obtain ⟨n, rfl⟩ := Int.eq_ofNat_of_zero_le h0
  exact iShl_k n (by omega)
theorem s_threeAt (d : Nat) {G : jG} {X : jX} {f : Int → Int} {n : Int} (k : Int) (hG : GG G) (hT : cTa X n f) (hn : n ≤ 1600) (h0 : 0 ≤ k) (h1 : k + 2 < n) (hb : ∀ i, 0 ≤ i → i < n → 0 ≤ f i ∧ f i ≤ 255) : jD (d + 2) 149 [(20, 33), (0, k)] (G, X) = some (thr f k, (G, X)) := by
  have at_ : ∀ j, 0 ≤ j → j < n → jD (d + 1) 144 [(20, 33), (0, j)] (G, X) = some (f j, (G, X)) := fun j j0 j1 => by
    rw [s_at d 33 34 n j (gr_33_0 hG) hT.1 (by omega) (by omega) (by rw [gl_34 hG]; exact hn), if_pos ⟨j0, j1⟩, hT.2 j j0 j1]
  have b0 := hb k h0 (by omega)
  have b1 := hb (k + 1) (by omega) (by omega)
  have b2 := hb (k + 2) (by omega) (by omega)
  rw [e_X10_threeAt, at_ k h0 (by omega)]
  simp only [Option.bind_some, Int.reduceLE, reduceIte]
  rw [jadd_id (a := k) (by omega) (by omega), at_ (k + 1) (by omega) (by omega)]
  simp only [Option.bind_some]
  rw [jadd_id (a := k) (by omega) (by omega), at_ (k + 2) (by omega) (by omega)]
  simp only [Option.bind_some]
  rw [(iShl_id b0.1 b0.2).2, (iShl_id b1.1 b1.2).1, jadd_id (a := f k * 65536) (by omega) (by omega), jadd_id (by omega) (by omega), show f k * 65536 + f (k + 1) * 256 + f (k + 2) = thr f k by unfold thr; omega]
theorem t_threeAt (d : Nat) {G : jG} {X : jX} {f : Int → Int} {n : Int} (k : Int) (hG : GG G) (hT : ∀ i, 0 ≤ i → i < n → X 150 i = f i) (hn : n ≤ 1600) (h0 : 0 ≤ k) (h1 : k + 2 < n) (hb : ∀ i, 0 ≤ i → i < n → 0 ≤ f i ∧ f i ≤ 255) : jD (d + 1) 329 [(22, 149), (0, k)] (G, X) = some (thr f k, (G, X)) := by
  have b0 := hb k h0 (by omega)
  have b1 := hb (k + 1) (by omega) (by omega)
  have b2 := hb (k + 2) (by omega) (by omega)
  rw [e_X12_threeAt, gr_149_0 hG, gl_150 hG, jadd_id (a := k) (by omega) (by omega), jadd_id (a := k) (by omega) (by omega), hT k h0 (by omega), hT (k + 1) (by omega) (by omega), hT (k + 2) (by omega) (by omega), jmul_id (by omega) (by omega), jmul_id (by omega) (by omega), jadd_id (a := 65536 * f k) (by omega) (by omega), jadd_id (by omega) (by omega)]
  simp only [Int.reduceLE, reduceIte]
  rw [if_pos h0, if_pos (by omega), if_pos (by omega), if_pos (by omega), if_pos (by omega), if_pos (by omega)]
  rfl
theorem s_isIm_n (d : Nat) {G : jG} {X : jX} {P : aP} {f : Int → Int} {n : Int} (hG : GG G) (hO : pOk P) (hT : cTa X n f) (hN : n = imN P + 1) (hb : ∀ i, 0 ≤ i → i < n → 0 ≤ f i ∧ f i ≤ 255) : ∀ (m : Nat) (i : Int), i + m = imN P → 7 ≤ i → jN (d + 1) 19 71 [(14, 1), (20, 33), (0, n), (0, 7 + pK P), (0, i)] [] (G, X) = some (b01 ((∀ j, i ≤ j → j < imN P → f j ≤ (if j < 7 + pK P then 20 else 3)) ∧ f (imN P) = chk f (imN P).toNat), (G, X)) := by
  have hn := pOk_n hO
  have hcc := pCe_le hO
  have hNn : imN P = 7 + pK P + pCe P := rfl
  have at_ : ∀ j, 0 ≤ j → j < n → jD (d + 1) 144 [(20, 33), (0, j)] (G, X) = some (f j, (G, X)) := fun j j0 j1 => by
    rw [s_at d 33 34 n j (gr_33_0 hG) hT.1 (by omega) (by omega) (by rw [gl_34 hG]; omega), if_pos ⟨j0, j1⟩, hT.2 j j0 j1]
  intro m
  induction m with
  | zero =>
    intro i h0 h1
    rw [h_X1_isImage_71, jsub_id (by omega) (by omega), if_neg (by omega), if_pos (by omega), at_ (n - 1) (by omega) (by omega)]
    simp only [Option.bind_some, Int.reduceLE, reduceIte]
    rw [s_guard d 33 34 (n - 1) n (by omega) (gr_33_0 hG) (by omega) (by omega) (by omega) hT.1 (by rw [gl_34 hG]; omega) (fun j j0 j1 => ⟨hT.2 j j0 (by omega), hb j j0 (by omega)⟩) (by omega)]
    simp only [Option.bind_some]
    rw [show n - 1 = imN P by omega]
    by_cases q : f (imN P) = chk f (imN P).toNat
    · rw [if_pos q, b01_t ⟨fun j j0 j1 => by omega, q⟩]
    · rw [if_neg q, b01_f (fun w => q w.2)]
  | succ m ih =>
    intro i h0 h1
    rw [h_X1_isImage_71, jsub_id (by omega) (by omega), if_pos (by omega), if_pos (by omega), at_ i (by omega) (by omega)]
    simp only [Option.bind_some]
    rw [jadd_id (by omega) (by omega), ih (i + 1) (by omega) (by omega)]
    have key : f i ≤ (if i < 7 + pK P then 20 else 3) → b01 ((∀ j, i + 1 ≤ j → j < imN P → f j ≤ (if j < 7 + pK P then 20 else 3)) ∧ f (imN P) = chk f (imN P).toNat) = b01 ((∀ j, i ≤ j → j < imN P → f j ≤ (if j < 7 + pK P then 20 else 3)) ∧ f (imN P) = chk f (imN P).toNat) := by
      intro hk
      congr 1
      apply propext
      constructor
      · rintro ⟨a, b⟩
        exact ⟨fun j j0 j1 => by by_cases q : j = i; · subst q; exact hk
                                 · exact a j (by omega) j1, b⟩
      · rintro ⟨a, b⟩; exact ⟨fun j j0 j1 => a j (by omega) j1, b⟩
    have nk : ¬ f i ≤ (if i < 7 + pK P then 20 else 3) → b01 ((∀ j, i ≤ j → j < imN P → f j ≤ (if j < 7 + pK P then 20 else 3)) ∧ f (imN P) = chk f (imN P).toNat) = 0 := fun hk => b01_f (fun w => hk (w.1 i (by omega) (by omega)))
    by_cases q : i < 7 + pK P
    · rw [if_pos q] at key nk ⊢
      by_cases q2 : 20 < f i
      · rw [if_pos q2, nk (by omega)]
      · rw [if_neg q2, key (by omega)]
    · rw [if_neg q] at key nk ⊢
      by_cases q2 : 3 < f i
      · rw [if_pos q2, nk (by omega)]
      · rw [if_neg q2, key (by omega)]
theorem s_isImage (d : Nat) {G : jG} {X : jX} {A : aA} (hG : GG G) (hR : RC A X) (hV : AV A) : jD (d + 3) 19 [(14, 1), (20, 33)] (G, X) = some (b01 (aTn A = imN (aPl A) + 1 ∧ aTp A 0 ≤ pPr (aPl A) ∧ thr (aTp A) 1 ≤ 999999 ∧ thr (aTp A) 4 ≤ 999999 ∧ (∀ j, 7 ≤ j → j < imN (aPl A) → aTp A j ≤ (if j < 7 + pK (aPl A) then 20 else 3)) ∧ aTp A (imN (aPl A)) = chk (aTp A) (imN (aPl A)).toNat), (G, X)) := by
  obtain ⟨r1, r2, r3, -⟩ := id hR
  have hO := hV.2.1
  have hn := pOk_n hO
  have hcc := pCe_le hO
  have hv := hV.1
  have hNn : imN (aPl A) = 7 + pK (aPl A) + pCe (aPl A) := rfl
  have ha := cPlan_at r3
  rw [e_X1_isImage, s_length (d + 1) 33 (by omega), r1.1]
  simp only [Option.bind_some, Int.reduceLE, reduceIte]
  rw [ha.2.1, ha.2.2.2.2.2.1, jadd_id (a := 8) (by omega) (by omega), jadd_id (by omega) (by omega)]
  by_cases h1 : aTn A = 8 + pK (aPl A) + pCe (aPl A)
  · have h1' : aTn A = imN (aPl A) + 1 := by omega
    rw [if_pos h1, s_at (d + 1) 33 34 (aTn A) 0 (gr_33_0 hG) r1.1 (by omega) (by omega) (by rw [gl_34 hG]; omega), if_pos (by omega), r1.2 0 (by omega) (by omega)]
    simp only [Option.bind_some]
    rw [gr_1_8 hG, gl_2 hG, r3.2.1.2.1]
    simp only [Int.reduceLE, Int.reduceLT, reduceIte]
    by_cases h2 : pPr (aPl A) < aTp A 0
    · rw [if_pos h2, b01_f (fun w => by omega)]
    rw [if_neg h2, s_threeAt d 1 hG r1 hv.2.1 (by omega) (by omega) hv.2.2]
    simp only [Option.bind_some]
    by_cases h3 : 999999 < thr (aTp A) 1
    · rw [if_pos h3, b01_f (fun w => by omega)]
    rw [if_neg h3, s_threeAt d 4 hG r1 hv.2.1 (by omega) (by omega) hv.2.2]
    simp only [Option.bind_some]
    by_cases h4 : 999999 < thr (aTp A) 4
    · rw [if_pos h4, b01_f (fun w => by omega)]
    rw [if_neg h4, jadd_id (by omega) (by omega), s_isIm_n (d + 1) hG hO r1 h1' hv.2.2 (imN (aPl A) - 7).toNat 7 (by omega) (by omega)]
    congr 3
    apply propext
    constructor
    · rintro ⟨a, b⟩; exact ⟨h1', by omega, by omega, by omega, a, b⟩
    · rintro ⟨-, -, -, -, a, b⟩; exact ⟨a, b⟩
  · rw [if_neg h1, b01_f (fun w => by omega)]
theorem onO_c {A : aA} (hO : pOk (aPl A)) : (pN (aPl A) ≠ 0 ∧ (aTn A = imN (aPl A) + 1 ∧ aTp A 0 ≤ pPr (aPl A) ∧ thr (aTp A) 1 ≤ 999999 ∧ thr (aTp A) 4 ≤ 999999 ∧ (∀ j, 7 ≤ j → j < imN (aPl A) → aTp A j ≤ (if j < 7 + pK (aPl A) then 20 else 3)) ∧ aTp A (imN (aPl A)) = chk (aTp A) (imN (aPl A)).toNat)) ↔ onO A := by
  have hn := pOk_n hO
  have hcc := pCe_le hO
  have hNn : imN (aPl A) = 7 + pK (aPl A) + pCe (aPl A) := rfl
  constructor
  · rintro ⟨a0, a1, a2, a3, a4, a5, a6⟩
    refine ⟨a0, a1, a2, a3, a4, fun k k0 k1 => ?_, fun c c0 c1 => ?_, a6⟩
    · have := a5 (7 + k) (by omega) (by omega); rw [if_pos (by omega)] at this; exact this
    · have := a5 (7 + pK (aPl A) + c) (by omega) (by omega); rw [if_neg (by omega)] at this; exact this
  · rintro ⟨a0, a1, a2, a3, a4, a5, a5', a6⟩
    refine ⟨a0, a1, a2, a3, a4, fun j j0 j1 => ?_, a6⟩
    by_cases q : j < 7 + pK (aPl A)
    · rw [if_pos q]; have := a5 (j - 7) (by omega) (by omega); rw [show 7 + (j - 7) = j by omega] at this; exact this
    · rw [if_neg q]; have := a5' (j - 7 - pK (aPl A)) (by omega) (by omega); rw [show 7 + pK (aPl A) + (j - 7 - pK (aPl A)) = j by omega] at this; exact this
theorem s_read_k (d : Nat) {G : jG} {P : aP} {f : Int → Int} {n : Int} (hG : GG G) (hO : pOk P) (hn1 : n ≤ 1600) (hN : n = imN P + 1) : ∀ (m : Nat) (X : jX) (k : Int), cPlan X P → cTa X n f → k + m = pK P → 0 ≤ k → ∃ X', jN (d + 1) 20 29 [(11, 25), (14, 1), (20, 33), (0, k)] [] (G, X) = jN (d + 1) 20 64 [(11, 25), (14, 1), (20, 33), (0, 0)] [] (G, X') ∧ (∀ a, a ≠ 27 → X' a = X a) ∧ (∀ j, X' 27 j = if k ≤ j ∧ j < pK P then f (7 + j) else X 27 j) := by
  have hn := pOk_n hO
  have hcc := pCe_le hO
  have hNn : imN P = 7 + pK P + pCe P := rfl
  intro m
  induction m with
  | zero =>
    intro X k hP hT h0 h1
    refine ⟨X, ?_, fun _ _ => rfl, fun j => by rw [if_neg (by omega)]⟩
    rw [h_X1_read_29, if_pos (by omega), (cPlan_at hP).2.2.2.2.2.1, if_neg (by omega)]
  | succ m ih =>
    intro X k hP hT h0 h1
    rw [h_X1_read_29, if_pos (by omega), (cPlan_at hP).2.2.2.2.2.1, if_pos (by omega), if_pos (by omega), if_pos (by omega), if_pos (by omega), jadd_id (a := 7) (by omega) (by omega), s_at d 33 34 n (7 + k) (gr_33_0 hG) hT.1 (by omega) (by omega) (by rw [gl_34 hG]; exact hn1), if_pos (by omega), hT.2 (7 + k) (by omega) (by omega)]
    simp only [Option.bind_some]
    rw [gr_25_1 hG, if_pos (by omega), if_pos h1, gl_27 hG, if_pos (by omega), jadd_id (by omega) (by omega)]
    have fr : ∀ a, a ≠ 27 → jup X 27 k (f (7 + k)) a = X a := fun a ha => jup_rw _ _ _ _ _ ha
    obtain ⟨X', e', f', c'⟩ := ih (jup X 27 k (f (7 + k))) (k + 1) (cPlan_fr (fun a h1 h2 => fr a (by omega)) hP) (cTa_fr (fr _ (by omega)) (fr _ (by omega)) hT) (by omega) (by omega)
    refine ⟨X', e', fun a ha => by rw [f' a ha, fr a ha], fun j => ?_⟩
    rw [c' j]
    by_cases q : j = k
    · rw [if_neg (by omega), if_pos (by omega), q, jup_same]
    · rw [jup_row _ _ _ _ _ q]
      by_cases q2 : k + 1 ≤ j ∧ j < pK P
      · rw [if_pos q2, if_pos (by omega)]
      · rw [if_neg q2, if_neg (by omega)]
theorem s_read_c (d : Nat) {G : jG} {P : aP} {f : Int → Int} {n : Int} (hG : GG G) (hO : pOk P) (hn1 : n ≤ 1600) (hN : n = imN P + 1) : ∀ (m : Nat) (X : jX) (c : Int), cPlan X P → cTa X n f → c + m = pCe P → 0 ≤ c → ∃ X', jN (d + 1) 20 64 [(11, 25), (14, 1), (20, 33), (0, c)] [] (G, X) = some (0, (G, X')) ∧ (∀ a, a ≠ 26 → X' a = X a) ∧ (∀ j, X' 26 j = if c ≤ j ∧ j < pCe P then f (7 + pK P + j) else X 26 j) := by
  have hn := pOk_n hO
  have hcc := pCe_le hO
  have hNn : imN P = 7 + pK P + pCe P := rfl
  intro m
  induction m with
  | zero =>
    intro X c hP hT h0 h1
    refine ⟨X, ?_, fun _ _ => rfl, fun j => by rw [if_neg (by omega)]⟩
    rw [h_X1_read_64, if_pos (by omega), (cPlan_at hP).2.1, if_neg (by omega)]
  | succ m ih =>
    intro X c hP hT h0 h1
    rw [h_X1_read_64, if_pos (by omega), (cPlan_at hP).2.1, if_pos (by omega), if_pos (by omega), if_pos (by omega), if_pos (by omega), (cPlan_at hP).2.2.2.2.2.1, jadd_id (a := 7) (by omega) (by omega), jadd_id (a := 7 + pK P) (by omega) (by omega), s_at d 33 34 n (7 + pK P + c) (gr_33_0 hG) hT.1 (by omega) (by omega) (by rw [gl_34 hG]; exact hn1), if_pos (by omega), hT.2 (7 + pK P + c) (by omega) (by omega)]
    simp only [Option.bind_some]
    rw [gr_25_0 hG, if_pos (by omega), if_pos h1, gl_26 hG, if_pos (by omega), jadd_id (by omega) (by omega)]
    have fr : ∀ a, a ≠ 26 → jup X 26 c (f (7 + pK P + c)) a = X a := fun a ha => jup_rw _ _ _ _ _ ha
    obtain ⟨X', e', f', c'⟩ := ih (jup X 26 c (f (7 + pK P + c))) (c + 1) (cPlan_fr (fun a h1 h2 => fr a (by omega)) hP) (cTa_fr (fr _ (by omega)) (fr _ (by omega)) hT) (by omega) (by omega)
    refine ⟨X', e', fun a ha => by rw [f' a ha, fr a ha], fun j => ?_⟩
    rw [c' j]
    by_cases q : j = c
    · rw [if_neg (by omega), if_pos (by omega), q, jup_same]
    · rw [jup_row _ _ _ _ _ q]
      by_cases q2 : c + 1 ≤ j ∧ j < pCe P
      · rw [if_pos q2, if_pos (by omega)]
      · rw [if_neg q2, if_neg (by omega)]
theorem gOk_on {A : aA} (hV : AV A) (h : onO A) : gOk (aPl A) (onG A) := by
  obtain ⟨a0, a1, a2, a3, a4, a5, a6, -⟩ := h
  have hO := hV.2.1
  have hn := pOk_n hO
  have hcc := pCe_le hO
  have hNn : imN (aPl A) = 7 + pK (aPl A) + pCe (aPl A) := rfl
  have hb := hV.1.2.2
  obtain ⟨-, -, -, -, -, -, o7, o8⟩ := hV.2.2.1
  have hq := nwh_le (gCe (onG A)) 48
  have se : ∀ k, gSt (onG A) k = if 0 ≤ k ∧ k < pK (aPl A) then aTp A (7 + k) else gSt (aGr A) k := fun k => rfl
  have sl : ∀ k, 0 ≤ k → k < 5 → 0 ≤ gSt (onG A) k ∧ gSt (onG A) k ≤ 20 ∧ (pK (aPl A) ≤ k → gSt (onG A) k = 0) := by
    intro k k0 k1
    rw [se k]
    by_cases q : 0 ≤ k ∧ k < pK (aPl A)
    · rw [if_pos q]; exact ⟨(hb (7 + k) (by omega) (by omega)).1, a5 k q.1 q.2, fun w => by omega⟩
    · rw [if_neg q]; have := (o7 k k0 k1).2.2 (by omega); omega
  have b0 := hb 0 (by omega) (by omega)
  have b1 := hb 1 (by omega) (by omega)
  have b2 := hb 2 (by omega) (by omega)
  have b3 := hb 3 (by omega) (by omega)
  have b4 := hb 4 (by omega) (by omega)
  have b5 := hb 5 (by omega) (by omega)
  have b6 := hb 6 (by omega) (by omega)
  have t1 : 0 ≤ thr (aTp A) 1 := by show 0 ≤ 65536 * aTp A 1 + 256 * aTp A 2 + aTp A 3; omega
  have t4 : 0 ≤ thr (aTp A) 4 := by show 0 ≤ 65536 * aTp A 4 + 256 * aTp A 5 + aTp A 6; omega
  refine ⟨b0.1, by show aTp A 0 ≤ 20; omega, t1, by show thr (aTp A) 1 ≤ _; omega, t4, ?_, fun k k0 k1 => ?_, fun c c0 c1 => ?_⟩
  · show thr (aTp A) 4 + 99 * sm5 (gSt (onG A)) ≤ _
    have s0 := sl 0 (by omega) (by omega); have s1 := sl 1 (by omega) (by omega); have s2 := sl 2 (by omega) (by omega); have s3 := sl 3 (by omega) (by omega); have s4 := sl 4 (by omega) (by omega)
    unfold sm5
    omega
  · have := sl k k0 k1; exact ⟨this.1, by omega, this.2.2⟩
  · show 0 ≤ (if 0 ≤ c ∧ c < pCe (aPl A) then aTp A (7 + pK (aPl A) + c) else gCe (aGr A) c) ∧ (if 0 ≤ c ∧ c < pCe (aPl A) then aTp A (7 + pK (aPl A) + c) else gCe (aGr A) c) ≤ 3 ∧ (pCe (aPl A) ≤ c → (if 0 ≤ c ∧ c < pCe (aPl A) then aTp A (7 + pK (aPl A) + c) else gCe (aGr A) c) = 0)
    by_cases q : 0 ≤ c ∧ c < pCe (aPl A)
    · rw [if_pos q]; exact ⟨(hb _ (by omega) (by omega)).1, a6 c q.1 q.2, fun w => by omega⟩
    · rw [if_neg q]; exact o8 c c0 c1
theorem t_told_c (d : Nat) {G : jG} {X : jX} {P : aP} {f : Int → Int} {n : Int} (hG : GG G) (hP : mPlan X P) (hO : pOk P) (hT : ∀ i, 0 ≤ i → i < n → X 150 i = f i) (hN : n = imN P + 1) : ∀ (m : Nat) (c : Int), c + m = pCe P → 0 ≤ c → jN (d + 2) 330 117 [(22, 149), (0, n), (0, c)] [] (G, X) = some (b01 (∀ j, c ≤ j → j < pCe P → f (7 + pK P + j) ≤ 3), (G, X)) := by
  have hn := pOk_n hO
  have hcc := pCe_le hO
  have hNn : imN P = 7 + pK P + pCe P := rfl
  intro m
  induction m with
  | zero =>
    intro c h0 h1
    rw [h_X12_isTold_117, t_cellMany d hG hP hO]
    simp only [Option.bind_some, Int.reduceLE, reduceIte]
    rw [if_neg (by omega), b01_t (fun j j0 j1 => by omega)]
  | succ m ih =>
    intro c h0 h1
    rw [h_X12_isTold_117, t_cellMany d hG hP hO]
    simp only [Option.bind_some, Int.reduceLE, reduceIte]
    rw [if_pos (by omega), t_kindMany (d + 1) hG hP]
    simp only [Option.bind_some]
    rw [gr_149_0 hG, gl_150 hG, jadd_id (a := 7) (by omega) (by omega), jadd_id (a := 7 + pK P) (by omega) (by omega), hT _ (by omega) (by omega), jadd_id (by omega) (by omega), ih (c + 1) (by omega) (by omega)]
    simp only [Int.reduceLE, reduceIte]
    rw [if_pos (by omega), if_pos (by omega)]
    by_cases q : 3 < f (7 + pK P + c)
    · rw [if_pos q, b01_f (fun w => by have := w c (by omega) (by omega); omega)]
    · rw [if_neg q]
      congr 3
      apply propext
      constructor
      · intro a j j0 j1
        by_cases q2 : j = c
        · rw [q2]; omega
        · exact a j (by omega) j1
      · intro a j j0 j1; exact a j (by omega) j1
theorem t_told_k (d : Nat) {G : jG} {X : jX} {P : aP} {f : Int → Int} {n : Int} (hG : GG G) (hP : mPlan X P) (hO : pOk P) (hT : ∀ i, 0 ≤ i → i < n → X 150 i = f i) (hN : n = imN P + 1) : ∀ (m : Nat) (k : Int), k + m = pK P → 0 ≤ k → jN (d + 2) 330 85 [(22, 149), (0, n), (0, k)] [] (G, X) = some (b01 ((∀ j, k ≤ j → j < pK P → f (7 + j) ≤ 20) ∧ ∀ j, 0 ≤ j → j < pCe P → f (7 + pK P + j) ≤ 3), (G, X)) := by
  have hn := pOk_n hO
  have hcc := pCe_le hO
  have hNn : imN P = 7 + pK P + pCe P := rfl
  intro m
  induction m with
  | zero =>
    intro k h0 h1
    rw [h_X12_isTold_85, t_kindMany (d + 1) hG hP]
    simp only [Option.bind_some, Int.reduceLE, reduceIte]
    rw [if_neg (by omega), t_told_c d hG hP hO hT hN (pCe P).toNat 0 (by omega) (by omega)]
    congr 3
    apply propext
    exact ⟨fun a => ⟨fun j j0 j1 => by omega, a⟩, fun a => a.2⟩
  | succ m ih =>
    intro k h0 h1
    rw [h_X12_isTold_85, t_kindMany (d + 1) hG hP]
    simp only [Option.bind_some, Int.reduceLE, reduceIte]
    rw [if_pos (by omega), gr_149_0 hG, gl_150 hG, jadd_id (a := 7) (by omega) (by omega), hT _ (by omega) (by omega), jadd_id (by omega) (by omega), ih (k + 1) (by omega) (by omega)]
    simp only [Int.reduceLE, reduceIte]
    rw [if_pos (by omega), if_pos (by omega)]
    by_cases q : 20 < f (7 + k)
    · rw [if_pos q, b01_f (fun w => by have := w.1 k (by omega) (by omega); omega)]
    · rw [if_neg q]
      congr 3
      apply propext
      constructor
      · rintro ⟨a, b⟩
        refine ⟨fun j j0 j1 => ?_, b⟩
        by_cases q2 : j = k
        · rw [q2]; omega
        · exact a j (by omega) j1
      · rintro ⟨a, b⟩; exact ⟨fun j j0 j1 => a j (by omega) j1, b⟩
theorem t_isTold (d : Nat) {G : jG} {X : jX} {A : aA} (hG : GG G) (r3 : mPlan X (aPl A)) (hT : ∀ i, 0 ≤ i → i < aTn A → X 150 i = aTp A i) (hV : AV A) : jD (d + 3) 330 [(22, 149), (0, aTn A)] (G, X) = some (b01 (onO A), (G, X)) := by
  have hO := hV.2.1
  have hn := pOk_n hO
  have hcc := pCe_le hO
  have hv := hV.1
  have hNn : imN (aPl A) = 7 + pK (aPl A) + pCe (aPl A) := rfl
  rw [e_X12_isTold, r3.1]
  simp only [Int.reduceLE, reduceIte]
  by_cases h0 : pN (aPl A) = 0
  · rw [if_pos h0, if_pos rfl, b01_f (fun w => w.1 h0)]
  rw [if_neg h0, if_neg (show ¬ (1 : Int) = 0 by omega), t_kindMany (d + 1) hG r3]
  simp only [Option.bind_some]
  rw [t_cellMany d hG r3 hO]
  simp only [Option.bind_some]
  rw [jadd_id (a := 8) (by omega) (by omega), jadd_id (by omega) (by omega)]
  by_cases h1 : aTn A = 8 + pK (aPl A) + pCe (aPl A)
  · have h1' : aTn A = imN (aPl A) + 1 := by omega
    rw [if_pos h1, gr_149_0 hG, gl_150 hG, jsub_id (by omega) (by omega), t_checked (d + 1) 150 (aTn A - 1) (by omega) (by omega) (by rw [gl_150 hG]; omega) (fun i i0 i1 => ⟨hT i i0 (by omega), hv.2.2 i i0 (by omega)⟩) (by omega)]
    simp only [Option.bind_some, Int.reduceLE, reduceIte]
    rw [if_pos (by omega), if_pos (by omega), hT _ (by omega) (by omega), show aTn A - 1 = imN (aPl A) by omega]
    by_cases h2 : aTp A (imN (aPl A)) = chk (aTp A) (imN (aPl A)).toNat
    · rw [if_pos h2, gr_149_0 hG, gl_150 hG, gr_149_45 hG, gl_186 hG, r3.2.2.1.2.1, hT 0 (by omega) (by omega)]
      simp only [Int.reduceLE, Int.reduceLT, reduceIte]
      by_cases h3 : pPr (aPl A) < aTp A 0
      · rw [if_pos h3, b01_f (fun w => by have := w.2.2.1; omega)]
      rw [if_neg h3, t_threeAt (d + 1) 1 hG hT hv.2.1 (by omega) (by omega) hv.2.2]
      simp only [Option.bind_some]
      by_cases h4 : 999999 < thr (aTp A) 1
      · rw [if_pos h4, b01_f (fun w => by have := w.2.2.2.1; omega)]
      rw [if_neg h4, t_threeAt (d + 1) 4 hG hT hv.2.1 (by omega) (by omega) hv.2.2]
      simp only [Option.bind_some]
      by_cases h5 : 999999 < thr (aTp A) 4
      · rw [if_pos h5, b01_f (fun w => by have := w.2.2.2.2.1; omega)]
      rw [if_neg h5, t_told_k d hG r3 hO hT h1' (pK (aPl A)).toNat 0 (by omega) (by omega)]
      congr 3
      apply propext
      constructor
      · rintro ⟨a, b⟩; exact ⟨h0, h1', by omega, by omega, by omega, a, b, h2⟩
      · rintro ⟨-, -, -, -, -, a, b, -⟩; exact ⟨a, b⟩
    · rw [if_neg h2, b01_f (fun w => h2 w.2.2.2.2.2.2.2)]
  · rw [if_neg h1, b01_f (fun w => by have := w.2.1; omega)]
theorem t_on_k (d : Nat) {G : jG} {P : aP} {f : Int → Int} {n : Int} (hG : GG G) (hO : pOk P) (hN : n = imN P + 1) : ∀ (m : Nat) (X : jX) (k : Int), mPlan X P → (∀ i, 0 ≤ i → i < n → X 150 i = f i) → k + m = pK P → 0 ≤ k → ∃ X', jN (d + 2) 331 66 [(22, 149), (0, n), (0, k)] [] (G, X) = jN (d + 2) 331 99 [(22, 149), (0, n), (0, 0)] [] (G, X') ∧ (∀ a, a ≠ 190 → X' a = X a) ∧ (∀ j, X' 190 j = if 3 + k ≤ j ∧ j < 3 + pK P then f (4 + j) else X 190 j) := by
  have hn := pOk_n hO
  have hcc := pCe_le hO
  have hNn : imN P = 7 + pK P + pCe P := rfl
  intro m
  induction m with
  | zero =>
    intro X k hP hT h0 h1
    refine ⟨X, ?_, fun _ _ => rfl, fun j => by rw [if_neg (by omega)]⟩
    rw [h_X12_on_66, t_kindMany (d + 1) hG hP]
    simp only [Option.bind_some, Int.reduceLE, reduceIte]
    rw [if_neg (by omega)]
  | succ m ih =>
    intro X k hP hT h0 h1
    rw [h_X12_on_66, t_kindMany (d + 1) hG hP]
    simp only [Option.bind_some, Int.reduceLE, reduceIte]
    rw [if_pos (by omega), gr_149_0 hG, gl_150 hG, gr_149_53 hG, gl_190 hG, jadd_id (a := 7) (by omega) (by omega), hT _ (by omega) (by omega), jadd_id (a := 3) (by omega) (by omega), jadd_id (by omega) (by omega)]
    simp only [Int.reduceLE, reduceIte]
    rw [if_pos (by omega), if_pos (by omega), if_pos (by omega), if_pos (by omega)]
    have fr : ∀ a, a ≠ 190 → jup X 190 (3 + k) (f (7 + k)) a = X a := fun a ha => jup_rw _ _ _ _ _ ha
    obtain ⟨X', e', f', c'⟩ := ih (jup X 190 (3 + k) (f (7 + k))) (k + 1) (mPlan_fr (fun a h1 h2 => fr a (by omega)) (by rw [fr 149 (by omega)]) hP) (fun i i0 i1 => by rw [fr 150 (by omega)]; exact hT i i0 i1) (by omega) (by omega)
    refine ⟨X', e', fun a ha => by rw [f' a ha, fr a ha], fun j => ?_⟩
    rw [c' j]
    by_cases q : j = 3 + k
    · rw [if_neg (by omega), if_pos (by omega), q, jup_same, show 4 + (3 + k) = 7 + k by omega]
    · rw [jup_row _ _ _ _ _ q]
      by_cases q2 : 3 + (k + 1) ≤ j ∧ j < 3 + pK P
      · rw [if_pos q2, if_pos (by omega)]
      · rw [if_neg q2, if_neg (by omega)]
theorem t_on_c (d : Nat) {G : jG} {P : aP} {f : Int → Int} {n : Int} (hG : GG G) (hO : pOk P) (hN : n = imN P + 1) : ∀ (m : Nat) (X : jX) (c : Int), mPlan X P → (∀ i, 0 ≤ i → i < n → X 150 i = f i) → c + m = pCe P → 0 ≤ c → ∃ X', jN (d + 2) 331 99 [(22, 149), (0, n), (0, c)] [] (G, X) = some (1, (G, jup X' 149 78 0)) ∧ (∀ a, a ≠ 190 → X' a = X a) ∧ (∀ j, X' 190 j = if 8 + c ≤ j ∧ j < 8 + pCe P then f (pK P - 1 + j) else X 190 j) := by
  have hn := pOk_n hO
  have hcc := pCe_le hO
  have hNn : imN P = 7 + pK P + pCe P := rfl
  intro m
  induction m with
  | zero =>
    intro X c hP hT h0 h1
    refine ⟨X, ?_, fun _ _ => rfl, fun j => by rw [if_neg (by omega)]⟩
    rw [h_X12_on_99, t_cellMany d hG hP hO]
    simp only [Option.bind_some, Int.reduceLE, reduceIte]
    rw [if_neg (by omega)]
  | succ m ih =>
    intro X c hP hT h0 h1
    rw [h_X12_on_99, t_cellMany d hG hP hO]
    simp only [Option.bind_some, Int.reduceLE, reduceIte]
    rw [if_pos (by omega), t_kindMany (d + 1) hG hP]
    simp only [Option.bind_some]
    rw [gr_149_0 hG, gl_150 hG, gr_149_53 hG, gl_190 hG, jadd_id (a := 7) (by omega) (by omega), jadd_id (a := 7 + pK P) (by omega) (by omega), hT _ (by omega) (by omega), jadd_id (a := 8) (by omega) (by omega), jadd_id (by omega) (by omega)]
    simp only [Int.reduceLE, reduceIte]
    rw [if_pos (by omega), if_pos (by omega), if_pos (by omega), if_pos (by omega)]
    have fr : ∀ a, a ≠ 190 → jup X 190 (8 + c) (f (7 + pK P + c)) a = X a := fun a ha => jup_rw _ _ _ _ _ ha
    obtain ⟨X', e', f', c'⟩ := ih (jup X 190 (8 + c) (f (7 + pK P + c))) (c + 1) (mPlan_fr (fun a h1 h2 => fr a (by omega)) (by rw [fr 149 (by omega)]) hP) (fun i i0 i1 => by rw [fr 150 (by omega)]; exact hT i i0 i1) (by omega) (by omega)
    refine ⟨X', e', fun a ha => by rw [f' a ha, fr a ha], fun j => ?_⟩
    rw [c' j]
    by_cases q : j = 8 + c
    · rw [if_neg (by omega), if_pos (by omega), q, jup_same, show pK P - 1 + (8 + c) = 7 + pK P + c by omega]
    · rw [jup_row _ _ _ _ _ q]
      by_cases q2 : 8 + (c + 1) ≤ j ∧ j < 8 + pCe P
      · rw [if_pos q2, if_pos (by omega)]
      · rw [if_neg q2, if_neg (by omega)]
theorem call_on : okB 179 331 [] := by
  refine ⟨fun A => b01 (onO A), fun A => @ite aA (onO A) (Classical.propDecidable _) (setT (setG (setH A []) (onG A)) 0 (aTp A)) (setT (refu A 5) 0 (aTp A)), fun d G X A hG hR hV => ?_, fun d G X A hG hR hV => ?_, fun A hV => ?_⟩
  · dsimp only
    obtain ⟨r1, r2, r3, r4, r5, r6, r7, r8, r9, r10, r11⟩ := id hR
    have hO := hV.2.1
    have hn := pOk_n hO
    have hcc := pCe_le hO
    have hv := hV.1
    have told : jD (d + 59) 54 [(14, 1)] (G, X) = some (if 0 < pN (aPl A) then 1 else 0, (G, X)) := by
      rw [e_X4_isTold, (cPlan_at r3).1]; simp only [Int.reduceLE, reduceIte]; split <;> rfl
    have bad : ∀ hq : ¬ onO A, ∃ G' X', (some ((0 : Int), (G, jup (jup X 147 5 (jadd (X 147 5) 1)) 33 1 0)) : jR) = some (b01 (onO A), (G', X')) ∧ GG G' ∧ RC (setT (refu A 5) 0 (aTp A)) X' ∧ ∀ a, 149 ≤ a → X' a = X a := fun hq => ⟨G, _, by rw [b01_f hq], hG, RC_shrt (A := refu A 5) 0 hv.1 (RC_refu 5 (by omega) (by omega) hR), fun a ha => by rw [jup_rw _ _ _ _ _ (by omega), jup_rw _ _ _ _ _ (by omega)]⟩
    have x33 : ∀ z, jup X 147 5 z 33 1 = aTn A := fun z => by rw [jup_rw _ _ _ _ _ (by omega)]; exact r1.1
    rw [e_X11_on, gr_0_2 hG, told]
    simp only [Option.bind_some, Int.reduceLE, reduceIte]
    by_cases h0 : 0 < pN (aPl A)
    · rw [if_pos h0, if_neg (show ¬ (1 : Int) = 0 by omega), gr_0_2 hG, gr_0_0 hG, s_isImage (d + 56) hG hR hV]
      simp only [Option.bind_some]
      have hc := onO_c (A := A) hO
      by_cases hq : onO A
      · have hq2 := (hc.mpr hq).2
        have h1' : aTn A = imN (aPl A) + 1 := hq2.1
        have hNn : imN (aPl A) = 7 + pK (aPl A) + pCe (aPl A) := rfl
        rw [if_pos hq, b01_t hq2, if_neg (show ¬ (1 : Int) = 0 by omega), b01_t hq, gr_0_4 hG, gr_0_2 hG, gr_0_0 hG, e_X1_read, s_at (d + 57) 33 34 (aTn A) 0 (gr_33_0 hG) r1.1 (by omega) (by omega) (by rw [gl_34 hG]; omega), if_pos (show (0 : Int) ≤ 0 ∧ 0 < aTn A by omega), r1.2 0 (by omega) (by omega)]
        simp only [Option.bind_some, Int.reduceLE, reduceIte]
        have y1 : ∀ a, a ≠ 25 → jup X 25 2 (aTp A 0) a = X a := fun a ha => jup_rw _ _ _ _ _ ha
        rw [s_threeAt (d + 56) 1 hG (cTa_fr (y1 _ (by omega)) (y1 _ (by omega)) r1) hv.2.1 (by omega) (by omega) hv.2.2]
        simp only [Option.bind_some]
        have y2 : ∀ a, a ≠ 25 → jup (jup X 25 2 (aTp A 0)) 25 3 (thr (aTp A) 1) a = X a := fun a ha => by rw [jup_rw _ _ _ _ _ ha, y1 a ha]
        rw [s_threeAt (d + 56) 4 hG (cTa_fr (y2 _ (by omega)) (y2 _ (by omega)) r1) hv.2.1 (by omega) (by omega) hv.2.2]
        simp only [Option.bind_some]
        have y3 : ∀ a, a ≠ 25 → jup (jup (jup X 25 2 (aTp A 0)) 25 3 (thr (aTp A) 1)) 25 4 (thr (aTp A) 4) a = X a := fun a ha => by rw [jup_rw _ _ _ _ _ ha, y2 a ha]
        obtain ⟨X4, e4, f4, c4⟩ := s_read_k (d + 57) (f := aTp A) (n := aTn A) hG hO hv.2.1 h1' (pK (aPl A)).toNat _ 0 (cPlan_fr (fun a h1 h2 => y3 a (by omega)) r3) (cTa_fr (y3 _ (by omega)) (y3 _ (by omega)) r1) (by omega) (by omega)
        have y4 : ∀ a, a ≠ 25 → a ≠ 27 → X4 a = X a := fun a ha hb => by rw [f4 a hb, y3 a ha]
        obtain ⟨X5, e5, f5, c5⟩ := s_read_c (d + 57) (f := aTp A) (n := aTn A) hG hO hv.2.1 h1' (pCe (aPl A)).toNat X4 0 (cPlan_fr (fun a h1 h2 => y4 a (by omega) (by omega)) r3) (cTa_fr (y4 _ (by omega) (by omega)) (y4 _ (by omega) (by omega)) r1) (by omega) (by omega)
        have y5 : ∀ a, ¬ (25 ≤ a ∧ a ≤ 27) → X5 a = X a := fun a ha => by rw [f5 a (by omega), y4 a (by omega) (by omega)]
        rw [e4, e5]
        simp only [Option.bind_some]
        rw [gr_0_6 hG, e_X2_forget]
        simp only [Option.bind_some, Int.reduceLE, reduceIte]
        rw [gr_0_7 hG, e_X8_forget]
        simp only [Option.bind_some, Int.reduceLE, reduceIte]
        have x33' : jup (jup (jup X5 42 2 0) 104 9 (-1)) 104 10 (-1) 33 1 = aTn A := by rw [jup_rw _ _ _ _ _ (by omega), jup_rw _ _ _ _ _ (by omega), jup_rw _ _ _ _ _ (by omega), y5 33 (by omega)]; exact r1.1
        rw [gr_0_0 hG, s_shorten (d + 58) 33 0 (by omega) (by omega) (by rw [x33']; exact hv.1)]
        have y6 : ∀ a, ¬ (25 ≤ a ∧ a ≤ 27) → a ≠ 42 → a ≠ 104 → jup (jup (jup X5 42 2 0) 104 9 (-1)) 104 10 (-1) a = X a := fun a h1 h2 h3 => by rw [jup_rw _ _ _ _ _ h3, jup_rw _ _ _ _ _ h3, jup_rw _ _ _ _ _ h2, y5 a h1]
        have y7 : ∀ a, 25 ≤ a → a ≤ 27 → jup (jup (jup X5 42 2 0) 104 9 (-1)) 104 10 (-1) a = X5 a := fun a h1 h2 => by rw [jup_rw _ _ _ _ _ (by omega), jup_rw _ _ _ _ _ (by omega), jup_rw _ _ _ _ _ (by omega)]
        have hγ : cGr X5 25 (onG A) := by
          have x25 : X5 25 = jup (jup (jup X 25 2 (aTp A 0)) 25 3 (thr (aTp A) 1)) 25 4 (thr (aTp A) 4) 25 := by rw [f5 25 (by omega), f4 25 (by omega)]
          refine ⟨⟨?_, ?_, ?_⟩, fun c c0 c1 => ?_, fun k k0 k1 => ?_⟩
          · rw [x25, jup_row _ _ _ _ _ (by omega), jup_row _ _ _ _ _ (by omega), jup_same]; rfl
          · rw [x25, jup_row _ _ _ _ _ (by omega), jup_same]; rfl
          · rw [x25, jup_same]; rfl
          · show X5 26 c = if 0 ≤ c ∧ c < pCe (aPl A) then aTp A (7 + pK (aPl A) + c) else gCe (aGr A) c
            rw [c5 c]
            by_cases q : 0 ≤ c ∧ c < pCe (aPl A)
            · rw [if_pos q, if_pos q]
            · rw [if_neg q, if_neg q, y4 26 (by omega) (by omega)]; exact r4.2.1 c c0 c1
          · show X5 27 k = if 0 ≤ k ∧ k < pK (aPl A) then aTp A (7 + k) else gSt (aGr A) k
            rw [f5 27 (by omega), c4 k]
            by_cases q : 0 ≤ k ∧ k < pK (aPl A)
            · rw [if_pos q, if_pos q]
            · rw [if_neg q, if_neg q, y3 27 (by omega)]; exact r4.2.2 k k0 k1
        have hR2 : RC (setG (setH A []) (onG A)) (jup (jup (jup X5 42 2 0) 104 9 (-1)) 104 10 (-1)) := RC_act (fun a ha => y6 a (by omega) (by omega) (by omega)) (cGr_fr (y7 _ (by omega) (by omega)) (y7 _ (by omega) (by omega)) (y7 _ (by omega) (by omega)) hγ) ⟨by rw [jup_rw _ _ _ _ _ (by omega), jup_rw _ _ _ _ _ (by omega), jup_same]; rfl, by rw [jup_rw _ _ _ _ _ (by omega), jup_rw _ _ _ _ _ (by omega), jup_row _ _ _ _ _ (by omega), y5 42 (by omega)]; exact r5.2.1, by rw [jup_rw _ _ _ _ _ (by omega), jup_rw _ _ _ _ _ (by omega), jup_row _ _ _ _ _ (by omega), y5 42 (by omega)]; exact r5.2.2.1, fun j hj => absurd hj (Nat.not_lt_zero j)⟩ ⟨by rw [jup_row _ _ _ _ _ (by omega), jup_same], jup_same _ _ _ _⟩ hR
        refine ⟨G, _, rfl, hG, RC_shrt (A := setG (setH A []) (onG A)) 0 hv.1 hR2, fun a ha => ?_⟩
        show jup (jup (jup (jup X5 42 2 0) 104 9 (-1)) 104 10 (-1)) 33 1 0 a = X a
        rw [jup_rw _ _ _ _ _ (by omega), y6 a (by omega) (by omega) (by omega)]
      · have hq2 := fun w => hq (hc.mp ⟨by omega, w⟩)
        rw [if_neg hq, b01_f hq2, if_pos rfl, s_refuse (d + 58) 5 hG (by omega) (by omega)]
        simp only [Option.bind_some]
        rw [gr_0_0 hG, s_shorten (d + 58) 33 0 (by omega) (by omega) (by rw [x33]; exact hv.1)]
        exact bad hq
    · have hq : ¬ onO A := fun w => by have := w.1; omega
      rw [if_neg h0, if_pos rfl, if_neg hq, s_refuse (d + 58) 5 hG (by omega) (by omega)]
      simp only [Option.bind_some]
      rw [gr_0_0 hG, s_shorten (d + 58) 33 0 (by omega) (by omega) (by rw [x33]; exact hv.1)]
      exact bad hq
  · dsimp only
    obtain ⟨r1, r2, r3, r4, r5, r6, r7, r8, r9, r10, r11⟩ := id hR
    have hO := hV.2.1
    have hn := pOk_n hO
    have hcc := pCe_le hO
    have hv := hV.1
    have hR1 := RM_shrt 0 hv.1 hR
    have y0 : ∀ a, a ≠ 149 → jup X 149 1 0 a = X a := fun a ha => jup_rw _ _ _ _ _ ha
    have hP1 : mPlan (jup X 149 1 0) (aPl A) := mPlan_fr (fun a h1 h2 => y0 a (by omega)) (jup_row _ _ _ _ _ (by omega)) r3
    have hT1 : ∀ i, 0 ≤ i → i < aTn A → jup X 149 1 0 150 i = aTp A i := fun i i0 i1 => by rw [y0 150 (by omega)]; exact r1.2 i i0 i1
    rw [e_X12_on, r1.1, t_isTold (d + 56) hG hP1 hT1 hV]
    simp only [Option.bind_some, Int.reduceLE, reduceIte]
    by_cases hq : onO A
    · have h1' : aTn A = imN (aPl A) + 1 := hq.2.1
      have hNn : imN (aPl A) = 7 + pK (aPl A) + pCe (aPl A) := rfl
      rw [if_pos hq, b01_t hq, if_neg (show ¬ (1 : Int) = 0 by omega), gr_149_0 hG, gl_150 hG, gr_149_53 hG, gl_190 hG, hT1 0 (by omega) (by omega)]
      simp only [Int.reduceLE, Int.reduceLT, reduceIte]
      have y1 : ∀ a, a ≠ 190 → jup (jup X 149 1 0) 190 0 (aTp A 0) a = jup X 149 1 0 a := fun a ha => jup_rw _ _ _ _ _ ha
      rw [t_threeAt (d + 58) 1 hG (fun i i0 i1 => by rw [y1 150 (by omega)]; exact hT1 i i0 i1) hv.2.1 (by omega) (by omega) hv.2.2]
      simp only [Option.bind_some]
      have y2 : ∀ a, a ≠ 190 → jup (jup (jup X 149 1 0) 190 0 (aTp A 0)) 190 1 (thr (aTp A) 1) a = jup X 149 1 0 a := fun a ha => by rw [jup_rw _ _ _ _ _ ha, y1 a ha]
      rw [gl_190 hG, t_threeAt (d + 58) 4 hG (fun i i0 i1 => by rw [y2 150 (by omega)]; exact hT1 i i0 i1) hv.2.1 (by omega) (by omega) hv.2.2]
      simp only [Option.bind_some, Int.reduceLT, reduceIte]
      rw [gr_149_53 hG, gl_190 hG]
      simp only [Int.reduceLE, Int.reduceLT, reduceIte]
      have y3 : ∀ a, a ≠ 190 → jup (jup (jup (jup X 149 1 0) 190 0 (aTp A 0)) 190 1 (thr (aTp A) 1)) 190 2 (thr (aTp A) 4) a = jup X 149 1 0 a := fun a ha => by rw [jup_rw _ _ _ _ _ ha, y2 a ha]
      obtain ⟨X4, e4, f4, c4⟩ := t_on_k (d + 57) (f := aTp A) (n := aTn A) hG hO h1' (pK (aPl A)).toNat _ 0 (mPlan_fr (fun a h1 h2 => y3 a (by omega)) (by rw [y3 149 (by omega)]) hP1) (fun i i0 i1 => by rw [y3 150 (by omega)]; exact hT1 i i0 i1) (by omega) (by omega)
      have y4 : ∀ a, a ≠ 190 → X4 a = jup X 149 1 0 a := fun a ha => by rw [f4 a ha, y3 a ha]
      obtain ⟨X5, e5, f5, c5⟩ := t_on_c (d + 57) (f := aTp A) (n := aTn A) hG hO h1' (pCe (aPl A)).toNat X4 0 (mPlan_fr (fun a h1 h2 => y4 a (by omega)) (by rw [y4 149 (by omega)]) hP1) (fun i i0 i1 => by rw [y4 150 (by omega)]; exact hT1 i i0 i1) (by omega) (by omega)
      have y5 : ∀ a, a ≠ 190 → X5 a = jup X 149 1 0 a := fun a ha => by rw [f5 a ha, y4 a ha]
      rw [e4, e5]
      have hγ : mGr X5 190 0 (onG A) := by
        have lo : ∀ j, j < 3 → X5 190 j = jup (jup (jup (jup X 149 1 0) 190 0 (aTp A 0)) 190 1 (thr (aTp A) 1)) 190 2 (thr (aTp A) 4) 190 j := fun j hj => by rw [c5 j, if_neg (by omega), c4 j, if_neg (by omega)]
        refine ⟨⟨?_, ?_, ?_⟩, fun c c0 c1 => ?_, fun k k0 k1 => ?_⟩
        · rw [lo 0 (by omega), jup_row _ _ _ _ _ (by omega), jup_row _ _ _ _ _ (by omega), jup_same]; rfl
        · rw [lo (0 + 1) (by omega), jup_row _ _ _ _ _ (by omega)]; exact jup_same _ _ _ _
        · rw [lo (0 + 2) (by omega)]; exact jup_same _ _ _ _
        · show X5 190 (0 + 8 + c) = if 0 ≤ c ∧ c < pCe (aPl A) then aTp A (7 + pK (aPl A) + c) else gCe (aGr A) c
          rw [c5 _]
          by_cases q : 0 ≤ c ∧ c < pCe (aPl A)
          · rw [if_pos q, if_pos (by omega), show pK (aPl A) - 1 + (0 + 8 + c) = 7 + pK (aPl A) + c by omega]
          · rw [if_neg q, if_neg (by omega), c4 _, if_neg (by omega), jup_row _ _ _ _ _ (by omega), jup_row _ _ _ _ _ (by omega), jup_row _ _ _ _ _ (by omega), y0 190 (by omega)]; exact r4.2.1 c c0 c1
        · show X5 190 (0 + 3 + k) = if 0 ≤ k ∧ k < pK (aPl A) then aTp A (7 + k) else gSt (aGr A) k
          rw [c5 _, if_neg (by omega), c4 _]
          by_cases q : 0 ≤ k ∧ k < pK (aPl A)
          · rw [if_pos q, if_pos (by omega), show 4 + (0 + 3 + k) = 7 + k by omega]
          · rw [if_neg q, if_neg (by omega), jup_row _ _ _ _ _ (by omega), jup_row _ _ _ _ _ (by omega), jup_row _ _ _ _ _ (by omega), y0 190 (by omega)]; exact r4.2.2 k k0 k1
      refine ⟨_, rfl, ?_, fun a ha => ?_⟩
      · have hT0 : mTa (jup X5 149 78 0) 0 (aTp A) := ⟨by rw [jup_row _ _ _ _ _ (by omega), y5 149 (by omega), jup_same], fun i i0 i1 => by omega⟩
        have fr : ∀ a, sM a → a ≠ 190 → jup X5 149 78 0 a = X a := fun a h1 h2 => by unfold sM at h1; rw [jup_rw _ _ _ _ _ (by omega), y5 a h2, y0 a (by omega)]
        have fn : ∀ j, j ≠ 78 → j ≠ 1 → jup X5 149 78 0 149 j = X 149 j := fun j h1 h2 => by rw [jup_row _ _ _ _ _ h1, y5 149 (by omega), jup_row _ _ _ _ _ h2]
        unfold sM at fr
        exact ⟨hT0, by rw [fn 7 (by omega) (by omega), fn 8 (by omega) (by omega)]; exact r2, mPlan_fr (fun a h1 h2 => fr a (by omega) (by omega)) (fn _ (by omega) (by omega)) r3, mGr_fr (jup_rw _ _ _ _ _ (by omega)) hγ, ⟨jup_same _ _ _ _, by rw [fn 79 (by omega) (by omega)]; exact r5.2.1, by rw [fn 79 (by omega) (by omega)]; exact r5.2.2.1, fun j hj => absurd hj (Nat.not_lt_zero j)⟩, mJu_fr (fun j h1 h2 => fn j (by omega) (by omega)) r6, mBo_fr (fn _ (by omega) (by omega)) (fr _ (by omega) (by omega)) r7, by rw [fn 80 (by omega) (by omega)]; exact r8, mPi_fr (fn _ (by omega) (by omega)) (fr _ (by omega) (by omega)) r9, mRf_fr (fr _ (by omega) (by omega)) r10, mWd_fr (fun a h1 => fr a (by omega) (by omega)) r11⟩
      · rw [jup_rw _ _ _ _ _ (by omega), y5 a (by omega), y0 a (by omega)]
    · rw [if_neg hq, b01_f hq, if_pos rfl, gr_149_9 hG, gl_151 hG]
      exact ⟨_, rfl, RM_refu (A := setT A 0 (aTp A)) 5 (by omega) (by omega) hR1, fun a ha => by show jup (jup X 149 1 0) 151 5 _ a = _; rw [jup_rw _ _ _ _ _ (by omega), y0 a (by omega)]⟩
  · dsimp only
    by_cases hq : onO A
    · rw [if_pos hq]
      exact ⟨⟨Int.le_refl 0, by show (0 : Int) ≤ 1600; omega, fun i i0 i1 => by have : i < 0 := i1; omega⟩, hV.2.1, gOk_on hV hq, ⟨Nat.zero_le 20, fun g hg => absurd hg (List.not_mem_nil)⟩, hV.2.2.2.2⟩
    · rw [if_neg hq]
      exact AV_shrt (A := refu A 5) 0 (Int.le_refl 0) hV.1.1 hV
