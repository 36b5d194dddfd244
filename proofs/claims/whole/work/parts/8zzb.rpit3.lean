/-! PIT: the reference's own call -/
theorem t_stands (d : Nat) {G : jG} {X : jX} {T : aT} {P : aP} {κ : aK} {z : Int} (hG : GG G) (hO : pOk P) (h1 : 1 ≤ pN P) (h : mPs X T P κ z) (hz : z ≤ 1600) : ∃ Y, jD (d + 1) 215 [(22, 149)] (G, X) = some (0, (G, Y)) ∧ mPlan Y P ∧ mGr Y 190 0 (gNew P) ∧ Y 149 78 = 0 ∧ Y 149 81 = 0 ∧ Y 149 65 = 0 ∧ (∀ k, k ≠ 149 → ¬ (181 ≤ k ∧ k ≤ 190) → Y k = X k) ∧ ∀ j, j ≠ 51 → j ≠ 65 → j ≠ 78 → j ≠ 81 → Y 149 j = X 149 j := by
  have hn := pOk_n hO
  have hcc := pCe_le hO
  obtain ⟨-, -, -, hD, -⟩ := h
  obtain ⟨c1, c2, c3, c4, c5, c6, c7, c8⟩ := hD
  obtain ⟨Y1, a1, a2, a3, a4⟩ := st_7 d hG 6 (jup X 149 51 1) 0 (by omega) (by omega)
  obtain ⟨Y2, b1, b2, b3, b4⟩ := st_36 d hG 12 Y1 0 (by omega) (by omega)
  obtain ⟨Y3, d1, d2, d3, d4⟩ := st_65 d hG 15 Y2 0 (by omega) (by omega)
  obtain ⟨Y4, e1, e2, e3, e4⟩ := st_94 d hG 48 Y3 0 (by omega) (by omega)
  obtain ⟨Y5, f1, f2, f3, f4⟩ := st_123 d hG 6 Y4 0 (by omega) (by omega)
  obtain ⟨Y6, g1, g2, g3, g4⟩ := st_152 d hG 3 Y5 0 (by omega) (by omega)
  have p149 : ∀ j, j ≠ 51 → Y6 149 j = X 149 j := fun j hj => by rw [g2 149 (by omega) (by omega) (by omega), f2 149 (by omega), e2 149 (by omega), d2 149 (by omega), b2 149 (by omega), a2 149 (by omega), jup_row _ _ _ _ _ hj]
  have p51 : Y6 149 51 = 1 := by rw [g2 149 (by omega) (by omega) (by omega), f2 149 (by omega), e2 149 (by omega), d2 149 (by omega), b2 149 (by omega), a2 149 (by omega), jup_same]
  obtain ⟨Y7, i1, i2, i3, i4⟩ := st_207 d hG z hz z.toNat Y6 0 (by rw [p149 49 (by omega)]; exact c7) (by omega) (by omega)
  obtain ⟨Y8, k1, k2, k3, k4⟩ := st_239 d hG 56 Y7 0 (by omega) (by omega)
  have q : ∀ k, k ≠ 149 → ¬ (181 ≤ k ∧ k ≤ 190) → Y8 k = X k := fun k a b => by rw [k2 k (by omega), i2 k (by omega), g2 k (by omega) (by omega) (by omega), f2 k (by omega), e2 k (by omega), d2 k (by omega), b2 k (by omega), a2 k (by omega), jup_rw _ _ _ _ _ a]
  have q181 : ∀ j, 0 ≤ j → j < 6 → Y8 181 (6 + j) = X 181 j := fun j j0 j1 => by rw [k2 181 (by omega), i2 181 (by omega), g2 181 (by omega) (by omega) (by omega), f2 181 (by omega), e2 181 (by omega), d2 181 (by omega), b2 181 (by omega), a4 j j0 j1, jup_rw _ _ _ _ _ (by omega)]
  have q182 : ∀ j, 0 ≤ j → j < 12 → Y8 182 (12 + j) = X 182 j := fun j j0 j1 => by rw [k2 182 (by omega), i2 182 (by omega), g2 182 (by omega) (by omega) (by omega), f2 182 (by omega), e2 182 (by omega), d2 182 (by omega), b4 j j0 j1, a2 182 (by omega), jup_rw _ _ _ _ _ (by omega)]
  have q183 : ∀ j, 0 ≤ j → j < 15 → Y8 183 (15 + j) = X 183 j := fun j j0 j1 => by rw [k2 183 (by omega), i2 183 (by omega), g2 183 (by omega) (by omega) (by omega), f2 183 (by omega), e2 183 (by omega), d4 j j0 j1, b2 183 (by omega), a2 183 (by omega), jup_rw _ _ _ _ _ (by omega)]
  have q184 : ∀ j, 0 ≤ j → j < 48 → Y8 184 (48 + j) = X 184 j := fun j j0 j1 => by rw [k2 184 (by omega), i2 184 (by omega), g2 184 (by omega) (by omega) (by omega), f2 184 (by omega), e4 j j0 j1, d2 184 (by omega), b2 184 (by omega), a2 184 (by omega), jup_rw _ _ _ _ _ (by omega)]
  have q185 : ∀ j, 0 ≤ j → j < 6 → Y8 185 (6 + j) = X 185 j := fun j j0 j1 => by rw [k2 185 (by omega), i2 185 (by omega), g2 185 (by omega) (by omega) (by omega), f4 j j0 j1, e2 185 (by omega), d2 185 (by omega), b2 185 (by omega), a2 185 (by omega), jup_rw _ _ _ _ _ (by omega)]
  have q18x : ∀ k j, 186 ≤ k → k ≤ 188 → 0 ≤ j → j < 3 → Y8 k (3 + j) = X k j := fun k j k0 k1' j0 j1 => by rw [k2 k (by omega), i2 k (by omega), g4 k j k0 k1' j0 j1, f2 k (by omega), e2 k (by omega), d2 k (by omega), b2 k (by omega), a2 k (by omega), jup_rw _ _ _ _ _ (by omega)]
  have q189 : ∀ j, 0 ≤ j → j < z → Y8 189 (1600 + j) = X 189 j := fun j j0 j1 => by rw [k2 189 (by omega), i4 j j0 j1, g2 189 (by omega) (by omega) (by omega), f2 189 (by omega), e2 189 (by omega), d2 189 (by omega), b2 189 (by omega), a2 189 (by omega), jup_rw _ _ _ _ _ (by omega)]
  have q1861 : Y7 186 1 = pPr P := by rw [i2 186 (by omega), g3 186 1 (by omega), f2 186 (by omega), e2 186 (by omega), d2 186 (by omega), b2 186 (by omega), a2 186 (by omega), jup_rw _ _ _ _ _ (by omega)]; exact c2.2.1
  have q149 : Y8 149 = Y6 149 := by rw [k2 149 (by omega), i2 149 (by omega)]
  rw [q1861] at k1
  generalize hZ : jup (jup (jup (jup Y8 190 0 (pPr P)) 149 78 0) 149 81 0) 149 65 0 = Z at *
  have zk : ∀ k, k ≠ 149 → k ≠ 190 → Z k = Y8 k := fun k a b => by rw [← hZ, jup_rw _ _ _ _ _ a, jup_rw _ _ _ _ _ a, jup_rw _ _ _ _ _ a, jup_rw _ _ _ _ _ b]
  have z149 : ∀ j, j ≠ 65 → j ≠ 78 → j ≠ 81 → Z 149 j = Y6 149 j := fun j a b c => by rw [← hZ, jup_row _ _ _ _ _ a, jup_row _ _ _ _ _ c, jup_row _ _ _ _ _ b, jup_rw _ _ _ _ _ (by omega), q149]
  have z190 : ∀ j, Z 190 j = if j = 0 then pPr P else Y8 190 j := fun j => by
    rw [← hZ, jup_rw _ _ _ _ _ (by omega), jup_rw _ _ _ _ _ (by omega), jup_rw _ _ _ _ _ (by omega)]
    by_cases y : j = 0
    · rw [if_pos y, y, jup_same]
    · rw [if_neg y, jup_row _ _ _ _ _ y]
  have fo : ∀ w : Nat, w < 3 → ∀ o, mDF X z w o → mFo Z w o := fun w hw o ho => by
    have z7 : Z 187 (3 + w) = X 187 w := by rw [zk 187 (by omega) (by omega)]; exact q18x 187 w (by omega) (by omega) (by omega) (by omega)
    have z8 : Z 188 (3 + w) = X 188 w := by rw [zk 188 (by omega) (by omega)]; exact q18x 188 w (by omega) (by omega) (by omega) (by omega)
    cases o with
    | none => show Z 187 (3 + w) = -1; rw [z7]; exact ho
    | some l =>
      obtain ⟨x1, x2, x3, x4⟩ := ho
      exact ⟨by rw [z7]; exact x1, by rw [z7, z8]; exact x2, by rw [z8]; omega, fun i hi => by rw [z7, zk 189 (by omega) (by omega), q189 _ (by omega) (by omega)]; exact x4 i hi⟩
  have r181 : ∀ j, 0 ≤ j → j < 6 → Z 181 (6 + j) = X 181 j := fun j j0 j1 => by rw [zk 181 (by omega) (by omega)]; exact q181 j j0 j1
  refine ⟨Z, ?_, ⟨?_, ⟨?_, ?_, ?_, ?_, ?_, ?_⟩, ⟨?_, ?_, ?_⟩, ⟨fo 0 (by omega) _ c3.1, fo 1 (by omega) _ c3.2.1, fo 2 (by omega) _ c3.2.2⟩, fun k k0 k1' => ?_, fun k k0 k1' => ?_, fun r c r0 r1 cc0 cc1 => ?_⟩, ⟨⟨?_, ?_, ?_⟩, fun c x0 x1 => ?_, fun k x0 x1 => ?_⟩, ?_, ?_, ?_, fun k a b => by rw [zk k a (by omega), q k a b], fun j a b c e => by rw [z149 j b c e, p149 j a]⟩
  · rw [e_X12_stands, if_pos (by omega), a1, b1, d1, e1, f1, g1, i1, k1]
  · rw [z149 51 (by omega) (by omega) (by omega), p51, if_neg (by omega)]
  · exact (r181 0 (by omega) (by omega)).trans c1.1
  · exact (r181 1 (by omega) (by omega)).trans c1.2.1
  · exact (r181 2 (by omega) (by omega)).trans c1.2.2.1
  · exact (r181 3 (by omega) (by omega)).trans c1.2.2.2.1
  · exact (r181 4 (by omega) (by omega)).trans c1.2.2.2.2.1
  · exact (r181 5 (by omega) (by omega)).trans c1.2.2.2.2.2
  · rw [zk 186 (by omega) (by omega)]; exact (q18x 186 0 (by omega) (by omega) (by omega) (by omega)).trans c2.1
  · rw [zk 186 (by omega) (by omega)]; exact (q18x 186 1 (by omega) (by omega) (by omega) (by omega)).trans c2.2.1
  · rw [zk 186 (by omega) (by omega)]; exact (q18x 186 2 (by omega) (by omega) (by omega) (by omega)).trans c2.2.2
  · obtain ⟨x1, x2, x3, x4⟩ := c4 k k0 k1'
    rw [zk 183 (by omega) (by omega), zk 182 (by omega) (by omega), q183 (3 * k) (by omega) (by omega), show 16 + 3 * k = 15 + (3 * k + 1) by omega, show 17 + 3 * k = 15 + (3 * k + 2) by omega, q183 (3 * k + 1) (by omega) (by omega), q183 (3 * k + 2) (by omega) (by omega), q182 k (by omega) (by omega)]
    exact ⟨x1, x2, x3, x4⟩
  · obtain ⟨x1, x2⟩ := c5 k k0 k1'
    rw [zk 185 (by omega) (by omega), zk 182 (by omega) (by omega), q185 k (by omega) (by omega), show 18 + k = 12 + (6 + k) by omega, q182 (6 + k) (by omega) (by omega)]
    exact ⟨x1, x2⟩
  · rw [zk 184 (by omega) (by omega), show 48 + 8 * r + c = 48 + (8 * r + c) by omega, q184 _ (by omega) (by omega)]
    exact c6 r c r0 r1 cc0 cc1
  · rw [z190, if_pos rfl]; rfl
  · rw [z190, if_neg (by omega), k3 _ (by omega) (by omega)]; rfl
  · rw [z190, if_neg (by omega), k3 _ (by omega) (by omega)]; rfl
  · rw [z190, if_neg (by omega), k3 _ (by omega) (by omega)]; rfl
  · rw [z190, if_neg (by omega), k3 _ (by omega) (by omega)]; rfl
  · rw [← hZ, jup_row _ _ _ _ _ (by omega), jup_row _ _ _ _ _ (by omega), jup_same]
  · rw [← hZ, jup_row _ _ _ _ _ (by omega), jup_same]
  · rw [← hZ, jup_same]
theorem p_40 (d : Nat) {G : jG} (hG : GG G) : ∀ (m : Nat) (X : jX) (i : Int), i + m = 6 → 0 ≤ i → ∃ Y, jN d 214 40 [(22, 149), (0, i)] [] (G, X) = jN d 214 83 [(22, 149), (0, 0)] [] (G, jup (jup (jup Y 186 0 3) 186 1 5) 186 2 10) ∧ (∀ k, k ≠ 181 → Y k = X k) ∧ (∀ j, i ≤ j → j < 6 → Y 181 j = 0) ∧ ∀ j, j < i ∨ 6 ≤ j → Y 181 j = X 181 j := by
  intro m
  induction m with
  | zero =>
    intro X i hi i0
    refine ⟨X, ?_, fun _ _ => rfl, fun j a b => by omega, fun _ _ => rfl⟩
    rw [h_X12_pit_40, if_neg (by omega), gr_149_45 hG, gl_186 hG]
    simp only [Int.reduceLE, Int.reduceLT, reduceIte]
  | succ m ih =>
    intro X i hi i0
    obtain ⟨Y, a1, a2, a3, a4⟩ := ih (jup X 181 i 0) (i + 1) (by omega) (by omega)
    refine ⟨Y, ?_, fun k hk => by rw [a2 k hk, jup_rw _ _ _ _ _ hk], fun j hj hn => ?_, fun j hj => by rw [a4 j (by omega), jup_row _ _ _ _ _ (by omega)]⟩
    · rw [h_X12_pit_40, if_pos (show i < 6 by omega), gr_149_40 hG, gl_181 hG, jadd_id (a := i) (b := 1) (by omega) (by omega)]
      simp only [Int.reduceLE, reduceIte]
      rw [if_pos (show 0 ≤ i by omega), if_pos (show i < 12 by omega)]
      exact a1
    · by_cases q : j = i
      · rw [q, a4 i (by omega), jup_same]
      · exact a3 j (by omega) hn
theorem p_83 (d : Nat) {G : jG} (hG : GG G) : ∀ (m : Nat) (X : jX) (i : Int), i + m = 3 → 0 ≤ i → ∃ Y, jN d 214 83 [(22, 149), (0, i)] [] (G, X) = ((jD d 206 [(22, 149)] (G, Y)).bind fun q1 => jN d 214 110 [(22, 149), (0, 3)] [] (q1.2.1, jup q1.2.2 149 50 1)) ∧ (∀ k, k ≠ 187 → Y k = X k) ∧ (∀ j, i ≤ j → j < 3 → Y 187 j = -1) ∧ ∀ j, j < i ∨ 3 ≤ j → Y 187 j = X 187 j := by
  intro m
  induction m with
  | zero =>
    intro X i hi i0
    refine ⟨X, ?_, fun _ _ => rfl, fun j a b => by omega, fun _ _ => rfl⟩
    rw [h_X12_pit_83, if_neg (by omega), show i = 3 by omega]
    simp only [Int.reduceLE, reduceIte]
  | succ m ih =>
    intro X i hi i0
    obtain ⟨Y, a1, a2, a3, a4⟩ := ih (jup X 187 i (-1)) (i + 1) (by omega) (by omega)
    refine ⟨Y, ?_, fun k hk => by rw [a2 k hk, jup_rw _ _ _ _ _ hk], fun j hj hn => ?_, fun j hj => by rw [a4 j (by omega), jup_row _ _ _ _ _ (by omega)]⟩
    · rw [h_X12_pit_83, if_pos (show i < 3 by omega), gr_149_46 hG, gl_187 hG, jadd_id (a := i) (b := 1) (by omega) (by omega)]
      simp only [Int.reduceLE, reduceIte]
      rw [if_pos (show 0 ≤ i by omega), if_pos (show i < 6 by omega)]
      exact a1
    · by_cases q : j = i
      · rw [q, a4 i (by omega), jup_same]
      · exact a3 j (by omega) hn
