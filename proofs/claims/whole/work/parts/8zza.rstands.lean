/-! PIT: the reference's new pit stands -/
theorem st_7 (d : Nat) {G : jG} (hG : GG G) : ∀ (m : Nat) (X : jX) (i : Int), i + m = 6 → 0 ≤ i → ∃ Y, jN d 215 7 [(22, 149), (0, i)] [] (G, X) = jN d 215 36 [(22, 149), (0, 0)] [] (G, Y) ∧ (∀ k, k ≠ 181 → Y k = X k) ∧ (∀ j, j < 6 + i → Y 181 j = X 181 j) ∧ ∀ j, i ≤ j → j < 6 → Y 181 (6 + j) = X 181 j := by
  intro m
  induction m with
  | zero =>
    intro X i hi i0
    refine ⟨X, ?_, fun _ _ => rfl, fun _ _ => rfl, fun j a b => by omega⟩
    rw [h_X12_stands_7, if_neg (by omega)]
  | succ m ih =>
    intro X i hi i0
    obtain ⟨Y, a1, a2, a3, a4⟩ := ih (jup X 181 (6 + i) (X 181 i)) (i + 1) (by omega) (by omega)
    refine ⟨Y, ?_, fun k hk => by rw [a2 k hk, jup_rw _ _ _ _ _ hk], fun j hj => by rw [a3 j (by omega), jup_row _ _ _ _ _ (by omega)], fun j hj hn => ?_⟩
    · rw [h_X12_stands_7, gr_149_40 hG, gl_181 hG, jadd_id (a := 6) (b := i) (by omega) (by omega), jadd_id (a := i) (b := 1) (by omega) (by omega)]
      simp only [Int.reduceLE, reduceIte]
      rw [if_pos (show i < 6 by omega), if_pos (show 0 ≤ i by omega), if_pos (show i < 12 by omega), if_pos (show 0 ≤ 6 + i by omega), if_pos (show 6 + i < 12 by omega)]
      exact a1
    · by_cases q : j = i
      · rw [q, a3 _ (by omega), jup_same]
      · rw [a4 j (by omega) hn, jup_row _ _ _ _ _ (by omega)]
theorem st_36 (d : Nat) {G : jG} (hG : GG G) : ∀ (m : Nat) (X : jX) (i : Int), i + m = 12 → 0 ≤ i → ∃ Y, jN d 215 36 [(22, 149), (0, i)] [] (G, X) = jN d 215 65 [(22, 149), (0, 0)] [] (G, Y) ∧ (∀ k, k ≠ 182 → Y k = X k) ∧ (∀ j, j < 12 + i → Y 182 j = X 182 j) ∧ ∀ j, i ≤ j → j < 12 → Y 182 (12 + j) = X 182 j := by
  intro m
  induction m with
  | zero =>
    intro X i hi i0
    refine ⟨X, ?_, fun _ _ => rfl, fun _ _ => rfl, fun j a b => by omega⟩
    rw [h_X12_stands_36, if_neg (by omega)]
  | succ m ih =>
    intro X i hi i0
    obtain ⟨Y, a1, a2, a3, a4⟩ := ih (jup X 182 (12 + i) (X 182 i)) (i + 1) (by omega) (by omega)
    refine ⟨Y, ?_, fun k hk => by rw [a2 k hk, jup_rw _ _ _ _ _ hk], fun j hj => by rw [a3 j (by omega), jup_row _ _ _ _ _ (by omega)], fun j hj hn => ?_⟩
    · rw [h_X12_stands_36, gr_149_41 hG, gl_182 hG, jadd_id (a := 12) (b := i) (by omega) (by omega), jadd_id (a := i) (b := 1) (by omega) (by omega)]
      simp only [Int.reduceLE, reduceIte]
      rw [if_pos (show i < 12 by omega), if_pos (show 0 ≤ i by omega), if_pos (show i < 24 by omega), if_pos (show 0 ≤ 12 + i by omega), if_pos (show 12 + i < 24 by omega)]
      exact a1
    · by_cases q : j = i
      · rw [q, a3 _ (by omega), jup_same]
      · rw [a4 j (by omega) hn, jup_row _ _ _ _ _ (by omega)]
theorem st_65 (d : Nat) {G : jG} (hG : GG G) : ∀ (m : Nat) (X : jX) (i : Int), i + m = 15 → 0 ≤ i → ∃ Y, jN d 215 65 [(22, 149), (0, i)] [] (G, X) = jN d 215 94 [(22, 149), (0, 0)] [] (G, Y) ∧ (∀ k, k ≠ 183 → Y k = X k) ∧ (∀ j, j < 15 + i → Y 183 j = X 183 j) ∧ ∀ j, i ≤ j → j < 15 → Y 183 (15 + j) = X 183 j := by
  intro m
  induction m with
  | zero =>
    intro X i hi i0
    refine ⟨X, ?_, fun _ _ => rfl, fun _ _ => rfl, fun j a b => by omega⟩
    rw [h_X12_stands_65, if_neg (by omega)]
  | succ m ih =>
    intro X i hi i0
    obtain ⟨Y, a1, a2, a3, a4⟩ := ih (jup X 183 (15 + i) (X 183 i)) (i + 1) (by omega) (by omega)
    refine ⟨Y, ?_, fun k hk => by rw [a2 k hk, jup_rw _ _ _ _ _ hk], fun j hj => by rw [a3 j (by omega), jup_row _ _ _ _ _ (by omega)], fun j hj hn => ?_⟩
    · rw [h_X12_stands_65, gr_149_42 hG, gl_183 hG, jadd_id (a := 15) (b := i) (by omega) (by omega), jadd_id (a := i) (b := 1) (by omega) (by omega)]
      simp only [Int.reduceLE, reduceIte]
      rw [if_pos (show i < 15 by omega), if_pos (show 0 ≤ i by omega), if_pos (show i < 30 by omega), if_pos (show 0 ≤ 15 + i by omega), if_pos (show 15 + i < 30 by omega)]
      exact a1
    · by_cases q : j = i
      · rw [q, a3 _ (by omega), jup_same]
      · rw [a4 j (by omega) hn, jup_row _ _ _ _ _ (by omega)]
theorem st_94 (d : Nat) {G : jG} (hG : GG G) : ∀ (m : Nat) (X : jX) (i : Int), i + m = 48 → 0 ≤ i → ∃ Y, jN d 215 94 [(22, 149), (0, i)] [] (G, X) = jN d 215 123 [(22, 149), (0, 0)] [] (G, Y) ∧ (∀ k, k ≠ 184 → Y k = X k) ∧ (∀ j, j < 48 + i → Y 184 j = X 184 j) ∧ ∀ j, i ≤ j → j < 48 → Y 184 (48 + j) = X 184 j := by
  intro m
  induction m with
  | zero =>
    intro X i hi i0
    refine ⟨X, ?_, fun _ _ => rfl, fun _ _ => rfl, fun j a b => by omega⟩
    rw [h_X12_stands_94, if_neg (by omega)]
  | succ m ih =>
    intro X i hi i0
    obtain ⟨Y, a1, a2, a3, a4⟩ := ih (jup X 184 (48 + i) (X 184 i)) (i + 1) (by omega) (by omega)
    refine ⟨Y, ?_, fun k hk => by rw [a2 k hk, jup_rw _ _ _ _ _ hk], fun j hj => by rw [a3 j (by omega), jup_row _ _ _ _ _ (by omega)], fun j hj hn => ?_⟩
    · rw [h_X12_stands_94, gr_149_43 hG, gl_184 hG, jadd_id (a := 48) (b := i) (by omega) (by omega), jadd_id (a := i) (b := 1) (by omega) (by omega)]
      simp only [Int.reduceLE, reduceIte]
      rw [if_pos (show i < 48 by omega), if_pos (show 0 ≤ i by omega), if_pos (show i < 96 by omega), if_pos (show 0 ≤ 48 + i by omega), if_pos (show 48 + i < 96 by omega)]
      exact a1
    · by_cases q : j = i
      · rw [q, a3 _ (by omega), jup_same]
      · rw [a4 j (by omega) hn, jup_row _ _ _ _ _ (by omega)]
theorem st_123 (d : Nat) {G : jG} (hG : GG G) : ∀ (m : Nat) (X : jX) (i : Int), i + m = 6 → 0 ≤ i → ∃ Y, jN d 215 123 [(22, 149), (0, i)] [] (G, X) = jN d 215 152 [(22, 149), (0, 0)] [] (G, Y) ∧ (∀ k, k ≠ 185 → Y k = X k) ∧ (∀ j, j < 6 + i → Y 185 j = X 185 j) ∧ ∀ j, i ≤ j → j < 6 → Y 185 (6 + j) = X 185 j := by
  intro m
  induction m with
  | zero =>
    intro X i hi i0
    refine ⟨X, ?_, fun _ _ => rfl, fun _ _ => rfl, fun j a b => by omega⟩
    rw [h_X12_stands_123, if_neg (by omega)]
  | succ m ih =>
    intro X i hi i0
    obtain ⟨Y, a1, a2, a3, a4⟩ := ih (jup X 185 (6 + i) (X 185 i)) (i + 1) (by omega) (by omega)
    refine ⟨Y, ?_, fun k hk => by rw [a2 k hk, jup_rw _ _ _ _ _ hk], fun j hj => by rw [a3 j (by omega), jup_row _ _ _ _ _ (by omega)], fun j hj hn => ?_⟩
    · rw [h_X12_stands_123, gr_149_44 hG, gl_185 hG, jadd_id (a := 6) (b := i) (by omega) (by omega), jadd_id (a := i) (b := 1) (by omega) (by omega)]
      simp only [Int.reduceLE, reduceIte]
      rw [if_pos (show i < 6 by omega), if_pos (show 0 ≤ i by omega), if_pos (show i < 12 by omega), if_pos (show 0 ≤ 6 + i by omega), if_pos (show 6 + i < 12 by omega)]
      exact a1
    · by_cases q : j = i
      · rw [q, a3 _ (by omega), jup_same]
      · rw [a4 j (by omega) hn, jup_row _ _ _ _ _ (by omega)]
theorem st_152 (d : Nat) {G : jG} (hG : GG G) : ∀ (m : Nat) (X : jX) (i : Int), i + m = 3 → 0 ≤ i → ∃ Y, jN d 215 152 [(22, 149), (0, i)] [] (G, X) = jN d 215 207 [(22, 149), (0, 0)] [] (G, Y) ∧ (∀ k, k ≠ 186 → k ≠ 187 → k ≠ 188 → Y k = X k) ∧ (∀ k j, j < 3 + i → Y k j = X k j) ∧ ∀ k j, 186 ≤ k → k ≤ 188 → i ≤ j → j < 3 → Y k (3 + j) = X k j := by
  intro m
  induction m with
  | zero =>
    intro X i hi i0
    refine ⟨X, ?_, fun _ _ _ _ => rfl, fun _ _ _ => rfl, fun k j _ _ a b => by omega⟩
    rw [h_X12_stands_152, if_neg (by omega)]
  | succ m ih =>
    intro X i hi i0
    generalize hZ : jup (jup (jup X 186 (3 + i) (X 186 i)) 187 (3 + i) (X 187 i)) 188 (3 + i) (X 188 i) = Z
    have zk : ∀ k, k ≠ 186 → k ≠ 187 → k ≠ 188 → Z k = X k := fun k a b c => by rw [← hZ, jup_rw _ _ _ _ _ c, jup_rw _ _ _ _ _ b, jup_rw _ _ _ _ _ a]
    have zj : ∀ k j, Z k j = if 186 ≤ k ∧ k ≤ 188 ∧ j = 3 + i then X k i else X k j := fun k j => by
      by_cases q6 : k = 186
      · subst q6
        rw [← hZ, jup_rw _ _ _ _ _ (by omega), jup_rw _ _ _ _ _ (by omega)]
        by_cases q : j = 3 + i
        · rw [if_pos (by omega), q, jup_same]
        · rw [if_neg (by omega), jup_row _ _ _ _ _ q]
      · by_cases q7 : k = 187
        · subst q7
          rw [← hZ, jup_rw _ _ _ _ _ (by omega)]
          by_cases q : j = 3 + i
          · rw [if_pos (by omega), q, jup_same]
          · rw [if_neg (by omega), jup_row _ _ _ _ _ q, jup_rw _ _ _ _ _ (by omega)]
        · by_cases q8 : k = 188
          · subst q8
            rw [← hZ]
            by_cases q : j = 3 + i
            · rw [if_pos (by omega), q, jup_same]
            · rw [if_neg (by omega), jup_row _ _ _ _ _ q, jup_rw _ _ _ _ _ (by omega), jup_rw _ _ _ _ _ (by omega)]
          · rw [zk k q6 q7 q8, if_neg (by omega)]
    obtain ⟨Y, a1, a2, a3, a4⟩ := ih Z (i + 1) (by omega) (by omega)
    refine ⟨Y, ?_, fun k a b c => by rw [a2 k a b c, zk k a b c], fun k j hj => by rw [a3 k j (by omega), zj, if_neg (by omega)], fun k j k0 k1 hj hn => ?_⟩
    · rw [h_X12_stands_152, gr_149_45 hG, gr_149_46 hG, gr_149_47 hG, gl_186 hG, gl_187 hG, gl_188 hG, jadd_id (a := 3) (b := i) (by omega) (by omega), jadd_id (a := i) (b := 1) (by omega) (by omega), jup_rw _ 186 _ _ 187 (by omega), jup_rw _ 187 _ _ 188 (by omega), jup_rw _ 186 _ _ 188 (by omega), hZ]
      simp only [Int.reduceLE, reduceIte]
      simp only [if_pos (show i < 3 by omega), if_pos (show 0 ≤ i by omega), if_pos (show i < 6 by omega), if_pos (show 0 ≤ 3 + i by omega), if_pos (show 3 + i < 6 by omega)]
      exact a1
    · by_cases q : j = i
      · rw [q, a3 _ _ (by omega), zj, if_pos (by omega)]
      · rw [a4 k j k0 k1 (by omega) hn, zj, if_neg (by omega)]
theorem st_207 (d : Nat) {G : jG} (hG : GG G) (z : Int) (hz : z ≤ 1600) : ∀ (m : Nat) (X : jX) (i : Int), X 149 49 = z → i + m = z → 0 ≤ i → ∃ Y, jN d 215 207 [(22, 149), (0, i)] [] (G, X) = jN d 215 239 [(22, 149), (0, 0)] [] (G, Y) ∧ (∀ k, k ≠ 189 → Y k = X k) ∧ (∀ j, j < 1600 + i → Y 189 j = X 189 j) ∧ ∀ j, i ≤ j → j < z → Y 189 (1600 + j) = X 189 j := by
  intro m
  induction m with
  | zero =>
    intro X i h49 hi i0
    refine ⟨X, ?_, fun _ _ => rfl, fun _ _ => rfl, fun j a b => by omega⟩
    rw [h_X12_stands_207, h49, if_pos (by omega), if_neg (by omega)]
  | succ m ih =>
    intro X i h49 hi i0
    obtain ⟨Y, a1, a2, a3, a4⟩ := ih (jup X 189 (1600 + i) (X 189 i)) (i + 1) (by rw [jup_rw _ _ _ _ _ (by omega)]; exact h49) (by omega) (by omega)
    refine ⟨Y, ?_, fun k hk => by rw [a2 k hk, jup_rw _ _ _ _ _ hk], fun j hj => by rw [a3 j (by omega), jup_row _ _ _ _ _ (by omega)], fun j hj hn => ?_⟩
    · rw [h_X12_stands_207, h49, gr_149_48 hG, gl_189 hG, jadd_id (a := 1600) (b := i) (by omega) (by omega), jadd_id (a := i) (b := 1) (by omega) (by omega)]
      simp only [Int.reduceLE, reduceIte]
      rw [if_pos (show i < z by omega), if_pos (show 0 ≤ i by omega), if_pos (show i < 3200 by omega), if_pos (show 0 ≤ 1600 + i by omega), if_pos (show 1600 + i < 3200 by omega)]
      exact a1
    · by_cases q : j = i
      · rw [q, a3 _ (by omega), jup_same]
      · rw [a4 j (by omega) hn, jup_row _ _ _ _ _ (by omega)]
theorem st_239 (d : Nat) {G : jG} (hG : GG G) : ∀ (m : Nat) (X : jX) (i : Int), i + m = 56 → 0 ≤ i → ∃ Y, jN d 215 239 [(22, 149), (0, i)] [] (G, X) = some (0, (G, jup (jup (jup (jup Y 190 0 (X 186 1)) 149 78 0) 149 81 0) 149 65 0)) ∧ (∀ k, k ≠ 190 → Y k = X k) ∧ (∀ j, i ≤ j → j < 56 → Y 190 j = 0) ∧ ∀ j, j < i → Y 190 j = X 190 j := by
  intro m
  induction m with
  | zero =>
    intro X i hi i0
    refine ⟨X, ?_, fun _ _ => rfl, fun j a b => by omega, fun _ _ => rfl⟩
    rw [h_X12_stands_239, if_neg (by omega), gr_149_45 hG, gr_149_53 hG, gl_186 hG, gl_190 hG]
    simp only [Int.reduceLE, Int.reduceLT, reduceIte]
  | succ m ih =>
    intro X i hi i0
    obtain ⟨Y, a1, a2, a3, a4⟩ := ih (jup X 190 i 0) (i + 1) (by omega) (by omega)
    rw [jup_rw _ 190 _ _ 186 (by omega)] at a1
    have hY : Y 190 i = 0 := by rw [a4 i (by omega), jup_same]
    refine ⟨Y, ?_, fun k hk => by rw [a2 k hk, jup_rw _ _ _ _ _ hk], fun j hj hn => ?_, fun j hj => by rw [a4 j (by omega), jup_row _ _ _ _ _ (by omega)]⟩
    · rw [h_X12_stands_239, if_pos (show i < 56 by omega), gr_149_53 hG, gl_190 hG, jadd_id (a := i) (b := 1) (by omega) (by omega)]
      simp only [Int.reduceLE, reduceIte]
      rw [if_pos (show 0 ≤ i by omega), if_pos (show i < 56 by omega)]
      exact a1
    · by_cases q : j = i
      · rw [q]; exact hY
      · exact a3 j (by omega) hn
