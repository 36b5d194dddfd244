/-! PIT: the class reads a plan, from the clear draft on -/
theorem s_clear (d : Nat) {G : jG} {X : jX} (hG : GG G) : ∃ X', jD (d + 2) 51 [(14, 13)] (G, X) = some (0, (G, X')) ∧ (X' 13 0 = 0 ∧ X' 13 2 = 0 ∧ X' 13 3 = 0 ∧ X' 13 4 = 0 ∧ X' 13 5 = 0 ∧ X' 13 6 = 0 ∧ X' 13 7 = 0) ∧ (X' 14 0 = 3 ∧ X' 14 1 = 5 ∧ X' 14 2 = 10) ∧ (∀ j, 0 ≤ j → j < 3 → X' 15 j = -1) ∧ (∀ j, 0 ≤ j → j < 5 → X' 18 j = 0) ∧ ∀ k, k ≠ 13 → k ≠ 14 → k ≠ 15 → k ≠ 18 → X' k = X k := by
  rw [e_X4_clear, h_X4_clear_5, h_X4_clear_10, h_X4_clear_15, h_X4_clear_20, h_X4_clear_25, h_X4_clear_30, h_X4_clear_35, h_X4_clear_40, h_X4_clear_47, h_X4_clear_54, h_X4_clear_62, gr_13_8 hG, gl_14 hG, gr_13_9 hG]
  generalize hY : jup (jup (jup (jup (jup (jup (jup (jup X 13 0 0) 13 1 0) 13 2 0) 13 3 0) 13 4 0) 13 5 0) 13 6 0) 13 7 0 = Y
  generalize hZ : jup (jup (jup Y 14 0 3) 14 1 5) 14 2 10 = Z
  simp only [Int.reduceLE, Int.reduceLT, reduceIte]
  rw [s_fill d 15 (-1) 3 (by omega) (gl_15 hG) (by omega) (by omega)]
  simp only [Option.bind_some]
  rw [gr_13_12 hG, s_fill d 18 0 5 (by omega) (gl_18 hG) (by omega) (by omega)]
  have y : ∀ k, k ≠ 13 → Y k = X k := fun k hk => by rw [← hY]; simp only [jup_rw _ _ _ _ _ hk]
  have y13 : Y 13 0 = 0 ∧ Y 13 2 = 0 ∧ Y 13 3 = 0 ∧ Y 13 4 = 0 ∧ Y 13 5 = 0 ∧ Y 13 6 = 0 ∧ Y 13 7 = 0 := by
    subst hY
    refine ⟨?_, ?_, ?_, ?_, ?_, ?_, ?_⟩ <;> simp [jup]
  have z : ∀ k, k ≠ 14 → Z k = Y k := fun k hk => by rw [← hZ]; simp only [jup_rw _ _ _ _ _ hk]
  have z14 : Z 14 0 = 3 ∧ Z 14 1 = 5 ∧ Z 14 2 = 10 := by
    subst hZ
    refine ⟨?_, ?_, ?_⟩ <;> simp [jup]
  have w : ∀ k, k ≠ 15 → k ≠ 18 → fil (fil Z 15 3 (-1)) 18 5 0 k = Z k := fun k a b => by rw [fil_ne _ _ _ _ _ b, fil_ne _ _ _ _ _ a]
  refine ⟨fil (fil Z 15 3 (-1)) 18 5 0, rfl, ?_, ?_, fun j j0 j1 => ?_, fun j j0 j1 => ?_, fun k a b c e => by rw [w k c e, z k b, y k a]⟩
  · rw [w 13 (by omega) (by omega), z 13 (by omega)]; exact y13
  · rw [w 14 (by omega) (by omega)]; exact z14
  · rw [fil_ne _ _ _ _ _ (by omega), fil_at, if_pos ⟨j0, j1⟩]
  · rw [fil_at, if_pos ⟨j0, j1⟩]
theorem dOk_0 : dOk P00 := by
  refine ⟨⟨Or.inl ⟨rfl, rfl, rfl, rfl, rfl, rfl⟩, by decide, by decide, by decide, by decide, by decide, by decide, by decide, by decide, by decide, by decide, by decide, by decide, by decide, by decide, by decide, by decide, ?_, ?_, ?_, trivial, trivial, trivial⟩, fun k _ _ => ⟨⟨Int.le_refl 0, by show (0 : Int) ≤ 31; omega⟩, fun _ => rfl⟩⟩
  · intro k k0 k1; have : k < 0 := k1; omega
  · intro k k0 k1; have : k < 0 := k1; omega
  · intro k k0 k1; have : k < 0 * 0 := k1; omega
/-- readPlan -/
theorem s_readPlan (d : Nat) {G : jG} {X : jX} {T : aT} (hG : GG G) (hT : okT T) (hp : cTp X T) : ∃ G' X', GG G' ∧ cfS X X' ∧ match rdP T with
  | .inl e => jD (d + 41) 67 [(15, 145), (20, 33)] (G, X) = some (0, (G', X')) ∧ X' 28 9 = e.1 ∧ X' 28 10 = e.2
  | .inr q => ∃ z', jD (d + 41) 67 [(15, 145), (20, 33)] (G, X) = some (1, (G', X')) ∧ cDr X' q.2 z' ∧ z' ≤ 1600 ∧ X' 28 9 = 0 ∧ X' 28 10 = -1 ∧ dOk q.2 ∧ 1 ≤ pN q.2 := by
  have hin := kp0_in hT
  obtain ⟨X1, e1, c13, c14, c15, c18, f1⟩ := s_clear (d + 38) (X := X) hG
  have p1 : cTp X1 T := cTp_fr (f1 33 (by omega) (by omega) (by omega) (by omega)) (f1 34 (by omega) (by omega) (by omega) (by omega)) hp
  obtain ⟨G2, X2, e2, hR, p2, k2, ⟨x3, x5, x9, x10⟩, f2⟩ := s_begin (d + 37) hG hT p1
  have S2 : cS X2 T (X2 28 4) (kp0 T) 6 0 [] := ⟨p2, k2, hin, ⟨rfl, x9, x10⟩, ⟨by rw [x5]; omega, by omega⟩, by rw [x3]; rfl, fun i hi => absurd hi (by simp), by omega⟩
  have D2 : cDr X2 P00 0 := by
    have g : ∀ k, k ≠ 28 → X2 k = X1 k := f2
    refine ⟨by rw [g 13 (by omega)]; exact c13, by rw [g 14 (by omega)]; exact c14, ⟨?_, ?_, ?_⟩, ?_, fun k k0 k1 => by rw [g 18 (by omega)]; exact c18 k k0 k1, ?_, ?_⟩
    · show X2 15 0 = -1; rw [g 15 (by omega)]; exact c15 0 (by omega) (by omega)
    · show X2 15 1 = -1; rw [g 15 (by omega)]; exact c15 1 (by omega) (by omega)
    · show X2 15 2 = -1; rw [g 15 (by omega)]; exact c15 2 (by omega) (by omega)
    · intro k k0 k1; have : k < 0 := k1; omega
    · intro k k0 k1; have : k < 0 := k1; omega
    · intro k k0 k1; have : k < 0 * 0 := k1; omega
  have F2 : cfS X X2 := fun k a b c => by rw [f2 k b, f1 k (by omega) (by omega) (by omega) (by omega)]
  have I := s_plan_n d hR hT 61 X2 P00 (kp0 T) (X2 28 4) 0 0 ⟨hR, hT, S2, D2, by have := hin.1; omega, dOk_0.1⟩ dOk_0 rfl (by omega)
  have E : jD (d + 41) 67 [(15, 145), (20, 33)] (G, X) = jN (d + 40) 67 24 [(15, 145), (20, 33), (0, 0)] [] (G2, X2) := by
    rw [e_X5_readPlan, gr_145_1 hG]
    simp only [Int.reduceLE, reduceIte]
    rw [e1]
    simp only [Option.bind_some]
    rw [gr_145_1 hG, gr_145_0 hG, gr_13_18 hG]
    simp only [Int.reduceLE, reduceIte]
    rw [e2]
    rfl
  rw [E]
  unfold rdP
  revert I
  cases rdN T 61 P00 (kp0 T) with
  | inl e => rintro ⟨X', a1, a2, a3, a4⟩; exact ⟨G2, X', hR.1, cfS_t F2 a4, a1, a2, a3⟩
  | inr q => rintro ⟨X', z', a1, a2, a3, a4, a5, a6, a7, a8⟩; exact ⟨G2, X', hR.1, cfS_t F2 a8, z', a1, a2, a3, a4, a5, a6, a7⟩
