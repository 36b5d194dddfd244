/-! THE GROUNDS KEPT, acts begun -/
theorem kept_r {G : jG} {j : Int} (h : GG G) (h0 : 0 ≤ j) (h1 : j < 20) : gR G 43 j = 44 + 3 * j := by
  rcases (show j = 0 ∨ j = 1 ∨ j = 2 ∨ j = 3 ∨ j = 4 ∨ j = 5 ∨ j = 6 ∨ j = 7 ∨ j = 8 ∨ j = 9 ∨ j = 10 ∨ j = 11 ∨ j = 12 ∨ j = 13 ∨ j = 14 ∨ j = 15 ∨ j = 16 ∨ j = 17 ∨ j = 18 ∨ j = 19 by omega) with rfl | rfl | rfl | rfl | rfl | rfl | rfl | rfl | rfl | rfl | rfl | rfl | rfl | rfl | rfl | rfl | rfl | rfl | rfl | rfl
  · exact gr_43_0 h
  · exact gr_43_1 h
  · exact gr_43_2 h
  · exact gr_43_3 h
  · exact gr_43_4 h
  · exact gr_43_5 h
  · exact gr_43_6 h
  · exact gr_43_7 h
  · exact gr_43_8 h
  · exact gr_43_9 h
  · exact gr_43_10 h
  · exact gr_43_11 h
  · exact gr_43_12 h
  · exact gr_43_13 h
  · exact gr_43_14 h
  · exact gr_43_15 h
  · exact gr_43_16 h
  · exact gr_43_17 h
  · exact gr_43_18 h
  · exact gr_43_19 h
theorem kept_g {G : jG} {j : Int} (h : GG G) (h0 : 0 ≤ j) (h1 : j < 20) : isGr G (44 + 3 * j) := by
  rcases (show j = 0 ∨ j = 1 ∨ j = 2 ∨ j = 3 ∨ j = 4 ∨ j = 5 ∨ j = 6 ∨ j = 7 ∨ j = 8 ∨ j = 9 ∨ j = 10 ∨ j = 11 ∨ j = 12 ∨ j = 13 ∨ j = 14 ∨ j = 15 ∨ j = 16 ∨ j = 17 ∨ j = 18 ∨ j = 19 by omega) with rfl | rfl | rfl | rfl | rfl | rfl | rfl | rfl | rfl | rfl | rfl | rfl | rfl | rfl | rfl | rfl | rfl | rfl | rfl | rfl
  · exact ⟨gr_44_0 h, gr_44_1 h, gl_45 h, gl_46 h, by omega⟩
  · exact ⟨gr_47_0 h, gr_47_1 h, gl_48 h, gl_49 h, by omega⟩
  · exact ⟨gr_50_0 h, gr_50_1 h, gl_51 h, gl_52 h, by omega⟩
  · exact ⟨gr_53_0 h, gr_53_1 h, gl_54 h, gl_55 h, by omega⟩
  · exact ⟨gr_56_0 h, gr_56_1 h, gl_57 h, gl_58 h, by omega⟩
  · exact ⟨gr_59_0 h, gr_59_1 h, gl_60 h, gl_61 h, by omega⟩
  · exact ⟨gr_62_0 h, gr_62_1 h, gl_63 h, gl_64 h, by omega⟩
  · exact ⟨gr_65_0 h, gr_65_1 h, gl_66 h, gl_67 h, by omega⟩
  · exact ⟨gr_68_0 h, gr_68_1 h, gl_69 h, gl_70 h, by omega⟩
  · exact ⟨gr_71_0 h, gr_71_1 h, gl_72 h, gl_73 h, by omega⟩
  · exact ⟨gr_74_0 h, gr_74_1 h, gl_75 h, gl_76 h, by omega⟩
  · exact ⟨gr_77_0 h, gr_77_1 h, gl_78 h, gl_79 h, by omega⟩
  · exact ⟨gr_80_0 h, gr_80_1 h, gl_81 h, gl_82 h, by omega⟩
  · exact ⟨gr_83_0 h, gr_83_1 h, gl_84 h, gl_85 h, by omega⟩
  · exact ⟨gr_86_0 h, gr_86_1 h, gl_87 h, gl_88 h, by omega⟩
  · exact ⟨gr_89_0 h, gr_89_1 h, gl_90 h, gl_91 h, by omega⟩
  · exact ⟨gr_92_0 h, gr_92_1 h, gl_93 h, gl_94 h, by omega⟩
  · exact ⟨gr_95_0 h, gr_95_1 h, gl_96 h, gl_97 h, by omega⟩
  · exact ⟨gr_98_0 h, gr_98_1 h, gl_99 h, gl_100 h, by omega⟩
  · exact ⟨gr_101_0 h, gr_101_1 h, gl_102 h, gl_103 h, by omega⟩
theorem s_copyFrom (d : Nat) {G : jG} {X : jX} (p a : Int) (hp : isGr G p) (ha : isGr G a) (hd : p + 3 ≤ a ∨ a + 3 ≤ p) : ∃ X', jD (d + 1) 12 [(11, p), (11, a)] (G, X) = some (0, (G, X')) ∧ (∀ γ, cGr X a γ → cGr X' p γ) ∧ (∀ k, k ≠ p → k ≠ p + 1 → k ≠ p + 2 → X' k = X k) := by
  obtain ⟨p0, p1, p2, p3, p4⟩ := hp
  obtain ⟨a0, a1, a2, a3, a4⟩ := ha
  have h0 : (0 : Int) ≤ p := by omega
  have h1 : (0 : Int) ≤ a := by omega
  have h2 : (0 : Int) ≤ p + 1 := by omega
  have h3 : (0 : Int) ≤ a + 1 := by omega
  have h4 : (0 : Int) ≤ p + 2 := by omega
  have h5 : (0 : Int) ≤ a + 2 := by omega
  rw [e_X1_copyFrom, p0, p1, a0, a1, p2, p3, a2, a3]
  simp only [if_pos h0, if_pos h1, if_pos h2, if_pos h3, if_pos h4, if_pos h5, Int.reduceAdd, Int.reduceLE, reduceIte]
  refine ⟨_, rfl, fun γ hγ => ?_, fun k k0 k1 k2 => ?_⟩
  · have ea : ∀ X1 : jX, (∀ k, k ≠ p → k ≠ p + 1 → k ≠ p + 2 → X1 k = X k) → X1 a = X a := fun X1 h => h a (by omega) (by omega) (by omega)
    have eb : (jcpy (jcpy X (a + 1) 0 (p + 1) 0 48) (a + 2) 0 (p + 2) 0 5) a = X a := by rw [jcpy_ne _ _ _ _ _ _ _ (by omega), jcpy_ne _ _ _ _ _ _ _ (by omega)]
    rw [eb, jup_rw _ p _ _ a (by omega), eb, jup_rw _ p _ _ a (by omega), jup_rw _ p _ _ a (by omega), eb]
    refine ⟨⟨?_, ?_, ?_⟩, fun c c0 c1 => ?_, fun k k0 k1 => ?_⟩
    · rw [jup_row _ _ _ _ _ (by omega), jup_row _ _ _ _ _ (by omega), jup_same]; exact hγ.1.1
    · rw [jup_row _ _ _ _ _ (by omega), jup_same]; exact hγ.1.2.1
    · rw [jup_same]; exact hγ.1.2.2
    · rw [jup_rw _ _ _ _ _ (by omega), jup_rw _ _ _ _ _ (by omega), jup_rw _ _ _ _ _ (by omega), jcpy_ne _ _ _ _ _ _ _ (by omega), jcpy_at, if_pos (by omega), show (0 : Int) + (c - 0) = c by omega]; exact hγ.2.1 c c0 c1
    · rw [jup_rw _ _ _ _ _ (by omega), jup_rw _ _ _ _ _ (by omega), jup_rw _ _ _ _ _ (by omega), jcpy_at, if_pos (by omega), show (0 : Int) + (k - 0) = k by omega, jcpy_ne _ _ _ _ _ _ _ (by omega)]; exact hγ.2.2 k k0 k1
  · rw [jup_rw _ _ _ _ _ k0, jup_rw _ _ _ _ _ k0, jup_rw _ _ _ _ _ k0, jcpy_ne _ _ _ _ _ _ _ k2, jcpy_ne _ _ _ _ _ _ _ k1]
def ph (γ : aG) (h : List aG) : List aG := (γ :: h).take 20
theorem ph_len (γ : aG) (h : List aG) (hl : h.length ≤ 20) : (ph γ h).length = if h.length < 20 then h.length + 1 else 20 := by
  unfold ph
  rw [List.length_take, List.length_cons]
  split <;> omega
theorem ph_0 (γ : aG) (h : List aG) : (ph γ h).getD 0 g00 = γ := rfl
theorem ph_s (γ : aG) (h : List aG) (j : Nat) (hj : j + 1 < (ph γ h).length) : (ph γ h).getD (j + 1) g00 = h.getD j g00 := by
  unfold ph at *
  rw [List.length_take] at hj
  rw [List.getD_eq_getElem?_getD, List.getElem?_take_of_lt (by omega), List.getElem?_cons_succ, ← List.getD_eq_getElem?_getD]
theorem s_keep (d : Nat) {G : jG} {X : jX} {γ : aG} {h : List aG} (hG : GG G) (hγ : cGr X 25 γ) (hh : cHi X h) (hl : h.length ≤ 20) : ∃ X', jD (d + 2) 24 [(12, 42), (11, 25)] (G, X) = some (0, (G, X')) ∧ cHi X' (ph γ h) ∧ ∀ a, ¬ (42 ≤ a ∧ a ≤ 103) → X' a = X a := by
  obtain ⟨a1, a2, a3, a4⟩ := hh
  have hlen := ph_len γ h hl
  have q0 := Int.emod_nonneg (X 42 1 + X 42 2) (b := 20) (by omega)
  have q1 := Int.emod_lt_of_pos (X 42 1 + X 42 2) (b := 20) (by omega)
  have hi := kept_g hG q0 q1
  obtain ⟨X1, e1, c1, f1⟩ := s_copyFrom d (X := X) _ 25 hi ⟨gr_25_0 hG, gr_25_1 hG, gl_26 hG, gl_27 hG, by omega⟩ (by omega)
  have x42 : X1 42 = X 42 := f1 42 (by omega) (by omega) (by omega)
  have old : ∀ j : Nat, j < h.length → (X 42 1 + (h.length - 1 - j)) % 20 ≠ (X 42 1 + X 42 2) % 20 → cGr X1 (44 + 3 * ((X 42 1 + (h.length - 1 - j)) % 20)) (h.getD j g00) := fun j hj hne => by
    have w0 := Int.emod_nonneg (X 42 1 + (h.length - 1 - j)) (b := 20) (by omega)
    have w1 := Int.emod_lt_of_pos (X 42 1 + (h.length - 1 - j)) (b := 20) (by omega)
    exact cGr_fr (f1 _ (by omega) (by omega) (by omega)) (f1 _ (by omega) (by omega) (by omega)) (f1 _ (by omega) (by omega) (by omega)) (a4 j hj)
  rw [e_X2_keep, gr_42_0 hG, gl_43 hG, jadd_id (by omega) (by omega), jrem_id (by omega), kept_r hG q0 q1]
  simp only [Int.reduceLE, reduceIte]
  rw [if_pos q0, if_pos q1, if_pos (by omega), e1]
  simp only [Option.bind_some]
  rw [x42]
  have fin : ∀ X2 : jX, (∀ a, a ≠ 42 → X2 a = X1 a) → X2 42 2 = (ph γ h).length → 0 ≤ X2 42 1 → X2 42 1 < 20 → (X2 42 1 + ((ph γ h).length - 1)) % 20 = (X 42 1 + X 42 2) % 20 → cHi X2 (ph γ h) ∧ ∀ a, ¬ (42 ≤ a ∧ a ≤ 103) → X2 a = X a := by
    intro X2 g1 g2 g3 g4 g5
    refine ⟨⟨g2, g3, g4, fun j hj => ?_⟩, fun a ha => by rw [g1 a (by omega), f1 a (by omega) (by omega) (by omega)]⟩
    have fr : ∀ q, 0 ≤ q → ∀ δ, cGr X1 (44 + 3 * q) δ → cGr X2 (44 + 3 * q) δ := fun q hq δ hδ => cGr_fr (g1 _ (by omega)) (g1 _ (by omega)) (g1 _ (by omega)) hδ
    match j, hj with
    | 0, hj =>
      rw [ph_0, show X2 42 1 + (((ph γ h).length : Int) - 1 - ((0 : Nat) : Int)) = X2 42 1 + ((ph γ h).length - 1) by omega, g5]
      exact fr _ q0 _ (c1 γ hγ)
    | j + 1, hj =>
      rw [ph_s γ h j hj]
      have hj2 : j < h.length := by split at hlen <;> omega
      have e : (X2 42 1 + (((ph γ h).length : Int) - 1 - ((j + 1 : Nat) : Int))) % 20 = (X 42 1 + (h.length - 1 - j)) % 20 := by
        split at hlen <;> omega
      rw [e]
      refine fr _ (Int.emod_nonneg _ (by omega)) _ (old j hj2 ?_)
      split at hlen <;> omega
  by_cases hc : X 42 2 < 20
  · rw [if_pos hc, jadd_id (by omega) (by omega)]
    rw [if_pos (by omega)] at hlen
    obtain ⟨r1, r2⟩ := fin (jup X1 42 2 (X 42 2 + 1)) (fun a ha => jup_rw _ _ _ _ _ ha) (by rw [jup_same, hlen]; omega) (by rw [jup_row _ _ _ _ _ (by omega), x42]; exact a2) (by rw [jup_row _ _ _ _ _ (by omega), x42]; exact a3) (by rw [jup_row _ _ _ _ _ (by omega), x42, hlen]; omega)
    exact ⟨_, rfl, r1, r2⟩
  · rw [if_neg hc, jadd_id (by omega) (by omega), jrem_id (by omega)]
    rw [if_neg (by omega)] at hlen
    obtain ⟨r1, r2⟩ := fin (jup X1 42 1 ((X 42 1 + 1) % 20)) (fun a ha => jup_rw _ _ _ _ _ ha) (by rw [jup_row _ _ _ _ _ (by omega), x42, hlen]; omega) (by rw [jup_same]; omega) (by rw [jup_same]; omega) (by rw [jup_same, hlen]; omega)
    exact ⟨_, rfl, r1, r2⟩
theorem s_beginAct (d : Nat) {G : jG} {X : jX} {γ : aG} {h : List aG} (hG : GG G) (hγ : cGr X 25 γ) (hh : cHi X h) (hl : h.length ≤ 20) : ∃ X', jD (d + 3) 183 [(21, 0)] (G, X) = some (0, (G, X')) ∧ cHi X' (ph γ h) ∧ X' 104 9 = -1 ∧ X' 104 10 = -1 ∧ ∀ a, ¬ (42 ≤ a ∧ a ≤ 104) → X' a = X a := by
  obtain ⟨X1, e1, c1, f1⟩ := s_keep d hG hγ hh hl
  rw [e_X11_beginAct, gr_0_6 hG, gr_0_4 hG, e1]
  simp only [Option.bind_some, Int.reduceLE, reduceIte]
  rw [gr_0_7 hG, e_X8_forget]
  refine ⟨jup (jup X1 104 9 (-1)) 104 10 (-1), rfl, cHi_fr (fun a h1 h2 => by rw [jup_rw _ _ _ _ _ (by omega), jup_rw _ _ _ _ _ (by omega)]) c1, by rw [jup_row _ _ _ _ _ (by omega), jup_same], jup_same _ _ _ _, fun a ha => by rw [jup_rw _ _ _ _ _ (by omega), jup_rw _ _ _ _ _ (by omega)]; exact f1 a (by omega)⟩
/-! .. of the reference -/
theorem t_keeps_n (d : Nat) {G : jG} (hG : GG G) (N : Int) (hN0 : 0 ≤ N) (hN : N < 20) : ∀ (n : Nat) (X : jX) (k : Int), 0 ≤ k → k + n = 56 → X 149 79 = N → ∃ X', jN d 273 15 [(22, 149), (0, k)] [] (G, X) = jN d 273 15 [(22, 149), (0, 56)] [] (G, X') ∧ (∀ a, a ≠ 201 → X' a = X a) ∧ ∀ j, X' 201 j = if 56 * N + k ≤ j ∧ j < 56 * N + 56 then X 190 (j - 56 * N) else X 201 j := by
  intro n
  induction n with
  | zero =>
    intro X k h0 h1 h2
    exact ⟨X, by rw [show k = 56 by omega], fun _ _ => rfl, fun j => by rw [if_neg (by omega)]⟩
  | succ n ih =>
    intro X k h0 h1 h2
    obtain ⟨X', e, a1, a2⟩ := ih (jup X 201 (56 * N + k) (X 190 k)) (k + 1) (by omega) (by omega) (by rw [jup_rw _ _ _ _ _ (by omega)]; exact h2)
    refine ⟨X', ?_, fun a ha => by rw [a1 a ha, jup_rw _ _ _ _ _ ha], fun j => ?_⟩
    · rw [h_X12_keeps_15, gr_149_53 hG, gl_190 hG, gr_149_77 hG, gl_201 hG, h2, jmul_id (by omega) (by omega), jadd_id (a := 56 * N) (by omega) (by omega), jadd_id (a := k) (by omega) (by omega), if_pos (by omega)]
      simp only [Int.reduceLE, reduceIte]
      rw [if_pos h0, if_pos (by omega), if_pos (by omega), if_pos (by omega)]
      exact e
    · rw [a2 j, jup_rw X 201 (56 * N + k) (X 190 k) 190 (by omega)]
      by_cases q : j = 56 * N + k
      · rw [if_neg (by omega), if_pos (by omega), q, jup_same, show 56 * N + k - 56 * N = k by omega]
      · rw [jup_row _ _ _ _ _ q]
        by_cases q2 : 56 * N + (k + 1) ≤ j ∧ j < 56 * N + 56
        · rw [if_pos q2, if_pos (by omega)]
        · rw [if_neg q2, if_neg (by omega)]
theorem t_keeps (d : Nat) {G : jG} {X : jX} {γ : aG} {h : List aG} (hG : GG G) (hγ : mGr X 190 0 γ) (hh : mHi X h) (hl : h.length ≤ 20) : ∃ X', jD (d + 1) 273 [(22, 149)] (G, X) = some (0, (G, X')) ∧ mHi X' (ph γ h) ∧ (∀ a, a ≠ 149 → a ≠ 201 → X' a = X a) ∧ (∀ j, j ≠ 78 → j ≠ 79 → X' 149 j = X 149 j) := by
  obtain ⟨a1, a2, a3, a4⟩ := hh
  have hlen := ph_len γ h hl
  have n0 : 0 ≤ (X 149 79 + 1) % 20 := by omega
  have n1 : (X 149 79 + 1) % 20 < 20 := by omega
  obtain ⟨X1, e1, f1, c1⟩ := t_keeps_n d hG ((X 149 79 + 1) % 20) n0 n1 56 (jup X 149 79 ((X 149 79 + 1) % 20)) 0 (by omega) (by omega) (jup_same _ _ _ _)
  have x149 : X1 149 = jup X 149 79 ((X 149 79 + 1) % 20) 149 := f1 149 (by omega)
  have x78 : X1 149 78 = h.length := by rw [x149, jup_row _ _ _ _ _ (by omega)]; exact a1
  have x79 : X1 149 79 = (X 149 79 + 1) % 20 := by rw [x149, jup_same]
  rw [e_X12_keeps, jadd_id (by omega) (by omega), jrem_id (by omega)]
  simp only [Int.reduceLE, reduceIte]
  rw [e1, h_X12_keeps_15, if_neg (by omega), x78]
  simp only [Int.reduceLE, reduceIte]
  have new : mGr X1 201 (56 * ((X 149 79 + 1) % 20)) γ := by
    have g : ∀ j, 0 ≤ j → j < 56 → X1 201 (56 * ((X 149 79 + 1) % 20) + j) = X 190 j := fun j j0 j1 => by
      rw [c1, if_pos (by omega), jup_rw _ _ _ _ _ (by omega), show 56 * ((X 149 79 + 1) % 20) + j - 56 * ((X 149 79 + 1) % 20) = j by omega]
    refine ⟨⟨?_, ?_, ?_⟩, fun c q0 q1 => ?_, fun k q0 q1 => ?_⟩
    · rw [← Int.add_zero (56 * ((X 149 79 + 1) % 20)), g 0 (by omega) (by omega)]; exact hγ.1.1
    · rw [g 1 (by omega) (by omega)]; exact hγ.1.2.1
    · rw [g 2 (by omega) (by omega)]; exact hγ.1.2.2
    · rw [Int.add_assoc, g (8 + c) (by omega) (by omega), show 8 + c = 0 + 8 + c by omega]; exact hγ.2.1 c q0 q1
    · rw [Int.add_assoc, g (3 + k) (by omega) (by omega), show 3 + k = 0 + 3 + k by omega]; exact hγ.2.2 k q0 q1
  have old : ∀ j : Nat, j < h.length → (X 149 79 - j) % 20 ≠ (X 149 79 + 1) % 20 → mGr X1 201 (56 * ((X 149 79 - j) % 20)) (h.getD j g00) := by
    intro j hj hne
    have hg := a4 j hj
    have g : ∀ i, 0 ≤ i → i < 56 → X1 201 (56 * ((X 149 79 - j) % 20) + i) = X 201 (56 * ((X 149 79 - j) % 20) + i) := fun i i0 i1 => by
      rw [c1, if_neg (by omega), jup_rw _ _ _ _ _ (by omega)]
    refine ⟨⟨?_, ?_, ?_⟩, fun c q0 q1 => ?_, fun k q0 q1 => ?_⟩
    · have := g 0 (by omega) (by omega); rw [Int.add_zero] at this; rw [this]; exact hg.1.1
    · rw [g 1 (by omega) (by omega)]; exact hg.1.2.1
    · rw [g 2 (by omega) (by omega)]; exact hg.1.2.2
    · rw [Int.add_assoc, g (8 + c) (by omega) (by omega), ← Int.add_assoc]; exact hg.2.1 c q0 q1
    · rw [Int.add_assoc, g (3 + k) (by omega) (by omega), ← Int.add_assoc]; exact hg.2.2 k q0 q1
  have fin : ∀ X2 : jX, (∀ a, a ≠ 149 → X2 a = X1 a) → X2 149 78 = (ph γ h).length → X2 149 79 = (X 149 79 + 1) % 20 → mHi X2 (ph γ h) := by
    intro X2 g1 g2 g3
    refine ⟨g2, by rw [g3]; exact n0, by rw [g3]; exact n1, fun j hj => ?_⟩
    rw [g3]
    refine mGr_fr (g1 201 (by omega)) ?_
    match j, hj with
    | 0, hj =>
      rw [ph_0, show ((X 149 79 + 1) % 20 - ((0 : Nat) : Int)) % 20 = (X 149 79 + 1) % 20 by omega]
      exact new
    | j + 1, hj =>
      rw [ph_s γ h j hj]
      have hj2 : j < h.length := by split at hlen <;> omega
      rw [show ((X 149 79 + 1) % 20 - ((j + 1 : Nat) : Int)) % 20 = (X 149 79 - j) % 20 by omega]
      exact old j hj2 (by split at hlen <;> omega)
  by_cases hc : (h.length : Int) < 20
  · rw [if_pos hc, jadd_id (by omega) (by omega)]
    rw [if_pos (by omega)] at hlen
    refine ⟨_, rfl, fin _ (fun a ha => jup_rw _ _ _ _ _ ha) (by rw [jup_same, hlen]; omega) (by rw [jup_row _ _ _ _ _ (by omega), x79]), fun a b0 b1 => by rw [jup_rw _ _ _ _ _ b0, f1 a b1, jup_rw _ _ _ _ _ b0], fun j b0 b1 => by rw [jup_row _ _ _ _ _ b0, x149, jup_row _ _ _ _ _ b1]⟩
  · rw [if_neg hc]
    rw [if_neg (by omega)] at hlen
    refine ⟨_, rfl, fin _ (fun a ha => rfl) (by rw [x78, hlen]; omega) x79, fun a b0 b1 => by rw [f1 a b1, jup_rw _ _ _ _ _ b0], fun j b0 b1 => by rw [x149, jup_row _ _ _ _ _ b1]⟩

