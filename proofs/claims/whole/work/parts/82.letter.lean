/-! LETTER -/
def namB : Nat → Int
  | 0 => 0
  | n + 1 => 27 * namB n + 26
theorem namB_le : ∀ n : Nat, n < 7 → namB n ≤ 387420488 := by decide
theorem nam_le {f : Int → Int} : ∀ n : Nat, n ≤ 6 → (∀ j : Int, 0 ≤ j → j < 6 → 0 ≤ f j ∧ f j ≤ 26) → 0 ≤ nam f n ∧ nam f n ≤ namB n
  | 0, _, _ => ⟨Int.le_refl 0, Int.le_refl 0⟩
  | n + 1, h, hf => by
    have ih := nam_le n (by omega) hf
    have h1 := hf n (by omega) (by omega)
    show 0 ≤ (if f n = 0 then nam f n else 27 * nam f n + f n) ∧ (if f n = 0 then nam f n else 27 * nam f n + f n) ≤ 27 * namB n + 26
    split <;> omega
theorem nm_len {f : Int → Int} (h : nmO f) : ∃ L : Nat, 1 ≤ L ∧ L ≤ 6 ∧ (∀ j : Int, 0 ≤ j → j < L → 1 ≤ f j) ∧ (∀ j : Int, L ≤ j → j < 6 → f j = 0) := by
  have key : ∀ L : Nat, 1 ≤ L → L ≤ 6 → f ((L : Int) - 1) ≠ 0 → (L < 6 → f L = 0) → ∃ L : Nat, 1 ≤ L ∧ L ≤ 6 ∧ (∀ j : Int, 0 ≤ j → j < L → 1 ≤ f j) ∧ (∀ j : Int, L ≤ j → j < 6 → f j = 0) := by
    intro L h1 h2 h3 h4
    refine ⟨L, h1, h2, fun j j0 j1 => ?_, fun j j0 j1 => (h.2 L (by omega) (by omega)).2.2 (h4 (by omega)) j j0 j1⟩
    have hj := h.2 j j0 (by omega)
    by_cases q : f j = 0
    · exact absurd (hj.2.2 q ((L : Int) - 1) (by omega) (by omega)) h3
    · omega
  by_cases q1 : f 1 = 0
  · exact key 1 (by omega) (by omega) (by have := h.1; show f 0 ≠ 0; omega) (fun _ => q1)
  by_cases q2 : f 2 = 0
  · exact key 2 (by omega) (by omega) q1 (fun _ => q2)
  by_cases q3 : f 3 = 0
  · exact key 3 (by omega) (by omega) q2 (fun _ => q3)
  by_cases q4 : f 4 = 0
  · exact key 4 (by omega) (by omega) q3 (fun _ => q4)
  by_cases q5 : f 5 = 0
  · exact key 5 (by omega) (by omega) q4 (fun _ => q5)
  exact key 6 (by omega) (by omega) q5 (fun w => by omega)
theorem nam_z {f : Int → Int} {L : Nat} (hz : ∀ j : Int, L ≤ j → j < 6 → f j = 0) : ∀ n : Nat, L + n ≤ 6 → nam f (L + n) = nam f L
  | 0, _ => rfl
  | n + 1, h => by
    show (if f ((L + n : Nat) : Int) = 0 then nam f (L + n) else 27 * nam f (L + n) + f ((L + n : Nat) : Int)) = _
    rw [if_pos (hz _ (by omega) (by omega)), nam_z hz n (by omega)]
theorem t_le_68 (d : Nat) {G : jG} {X : jX} {f : Int → Int} {L : Nat} (a b c N : Int) (h1 : 1 ≤ L) (h2 : L ≤ 6) (hf : ∀ j : Int, 0 ≤ j → j < 6 → 0 ≤ f j ∧ f j ≤ 26) (hp : ∀ j : Int, 0 ≤ j → j < L → 1 ≤ f j) : ∀ k : Nat, k ≤ L → jN d 251 68 [(22, 149), (0, a), (0, b), (0, c), (1, N), (2, -1), (0, (L : Int) - k), (1, nam f k), (2, -1)] [] (G, X) = if c < L then jN d 251 103 [(22, 149), (0, a), (0, b), (0, c), (1, N), (2, -1), (0, (L : Int)), (0, (L : Int) - 1), (2, -1)] [] (G, X) else some (0, (G, X))
  | 0, _ => by
    rw [h_X12_letter_68, if_neg (show ¬ 0 < lCmp (nam f 0) 0 by show ¬ (0 : Int) < (if (0 : Int) < 0 then -1 else if (0 : Int) = 0 then 0 else 1); omega), show (L : Int) - (0 : Nat) = L by omega, jsub_id (by omega) (by omega)]
  | k + 1, h => by
    have ih := t_le_68 d (G := G) (X := X) a b c N h1 h2 hf hp k (by omega)
    have hk := hp k (by omega) (by omega)
    have hk2 := hf k (by omega) (by omega)
    have hb := nam_le (f := f) k (by omega) hf
    have hB := namB_le k (by omega)
    have e : nam f (k + 1) = 27 * nam f k + f k := by
      show (if f k = 0 then nam f k else 27 * nam f k + f k) = _
      rw [if_neg (by omega)]
    rw [h_X12_letter_68, e, if_pos (show 0 < lCmp (27 * nam f k + f k) 0 by unfold lCmp; rw [if_neg (by omega), if_neg (by omega)]; omega), ldiv_id (by omega) (by omega) (by omega), show (27 * nam f k + f k) / 27 = nam f k by omega, jadd_id (by omega) (by omega), show (L : Int) - ((k + 1 : Nat) : Int) + 1 = (L : Int) - k by omega]
    exact ih
theorem t_le_103 (d : Nat) {G : jG} {X : jX} {f : Int → Int} {L : Nat} (a b w : Int) (c : Nat) (h2 : L ≤ 6) (hf : ∀ j : Int, 0 ≤ j → j < 6 → 0 ≤ f j ∧ f j ≤ 26) (hp : ∀ j : Int, 0 ≤ j → j < L → 1 ≤ f j) : ∀ m : Nat, c + m < L → jN d 251 103 [(22, 149), (0, a), (0, b), (0, (c : Int)), (1, nam f (c + m + 1)), (2, -1), (0, w), (0, ((c + m : Nat) : Int)), (2, -1)] [] (G, X) = some (f c, (G, X)) := by
  have key : ∀ k : Nat, k < L → nam f (k + 1) = 27 * nam f k + f k ∧ 0 ≤ nam f k ∧ nam f k ≤ 387420488 ∧ 1 ≤ f k ∧ f k ≤ 26 := fun k hk => by
    have h1 := hp k (by omega) (by omega)
    have hb := nam_le (f := f) k (by omega) hf
    have hB := namB_le k (by omega)
    refine ⟨?_, hb.1, by omega, h1, (hf k (by omega) (by omega)).2⟩
    show (if f k = 0 then nam f k else 27 * nam f k + f k) = _
    rw [if_neg (by omega)]
  intro m
  induction m with
  | zero =>
    intro h
    have hk := key c h
    rw [h_X12_letter_103, if_neg (by omega), show c + 0 + 1 = c + 1 from rfl, hk.1, lrem_id (by omega), show (27 * nam f c + f c) % 27 = f c by omega, w32_i (by omega) (by omega)]
  | succ m ih =>
    intro h
    have hk := key (c + (m + 1)) h
    rw [h_X12_letter_103, if_pos (by omega), hk.1, ldiv_id (by omega) (by omega) (by omega), show (27 * nam f (c + (m + 1)) + f ((c + (m + 1) : Nat) : Int)) / 27 = nam f (c + (m + 1)) by omega, jadd_id (by omega) (by omega), show ((c + (m + 1) : Nat) : Int) + -1 = ((c + m : Nat) : Int) by omega]
    exact ih (by omega)
theorem t_le (d : Nat) {G : jG} {X : jX} {f : Int → Int} (a b c : Int) (h : nmO f) (c0 : 0 ≤ c) (c1 : c ≤ 5) : jN d 251 68 [(22, 149), (0, a), (0, b), (0, c), (1, nam f 6), (2, -1), (0, 0), (1, nam f 6), (2, -1)] [] (G, X) = some (f c, (G, X)) := by
  obtain ⟨L, h1, h2, hp, hz⟩ := nm_len h
  have hf : ∀ j : Int, 0 ≤ j → j < 6 → 0 ≤ f j ∧ f j ≤ 26 := fun j j0 j1 => ⟨(h.2 j j0 j1).1, (h.2 j j0 j1).2.1⟩
  have e : nam f 6 = nam f L := by
    have := nam_z hz (6 - L) (by omega)
    rw [show L + (6 - L) = 6 by omega] at this
    exact this
  have t := t_le_68 d (G := G) (X := X) a b c (nam f L) h1 h2 hf hp L (Nat.le_refl L)
  rw [show (L : Int) - (L : Nat) = 0 by omega] at t
  rw [e, t]
  by_cases q : c < L
  · rw [if_pos q]
    have t2 := t_le_103 d (G := G) (X := X) (L := L) a b L c.toNat h2 hf hp (L - 1 - c.toNat) (by omega)
    rw [show c.toNat + (L - 1 - c.toNat) + 1 = L by omega, show ((c.toNat + (L - 1 - c.toNat) : Nat) : Int) = (L : Int) - 1 by omega, show ((c.toNat : Nat) : Int) = c by omega] at t2
    exact t2
  · rw [if_neg q, hz c (by omega) (by omega)]
theorem call_letter (a b c : Int) : okB 157 251 [(0, a), (0, b), (0, c)] := by
  refine ⟨fun A => if 0 ≤ b ∧ 0 ≤ c ∧ c ≤ 5 then (if a = 0 ∧ b < pK (aPl A) then pKn (aPl A) b c else if a = 1 ∧ b < pH (aPl A) then pHn (aPl A) b c else -1) else -1, fun A => A, fun d G X A hG hR hV => ?_, fun d G X A hG hR hV => ?_, fun A hV => hV⟩
  · dsimp only
    obtain ⟨r1, r2, r3, r4, r5, r6, r7, r8, r9, r10, r11⟩ := id hR
    have hn := pOk_n hV.2.1
    refine ⟨G, X, ?_, hG, hR, fun _ _ => rfl⟩
    rw [e_X11_letter, gr_0_2 hG, gr_1_13 hG, gr_1_14 hG, gl_7 hG, gl_8 hG, (cPlan_at r3).2.2.2.2.2.1, (cPlan_at r3).2.2.2.2.2.2.1]
    simp only [Int.reduceLE, reduceIte]
    by_cases q : 0 ≤ b ∧ 0 ≤ c ∧ c ≤ 5
    · rw [if_neg (show ¬ b < 0 by omega), if_neg (show ¬ c < 0 by omega), if_pos (show c < 6 by omega), if_pos q]
      by_cases a0 : a = 0
      · rw [if_pos a0, if_neg (show ¬ a = 1 by omega)]
        by_cases hb : b < pK (aPl A)
        · rw [if_pos hb, if_pos (show a = 0 ∧ b < pK (aPl A) from ⟨a0, hb⟩), jmul_id (by omega) (by omega), jadd_id (by omega) (by omega), if_pos (show 0 ≤ b * 6 + c by omega), if_pos (show b * 6 + c < 30 by omega), (r3.2.2.2.1 b q.1 hb).2.2.2 c q.2.1 (by omega)]
        · rw [if_neg hb, if_neg (show ¬ (a = 0 ∧ b < pK (aPl A)) from fun w => hb w.2), if_neg (show ¬ (a = 1 ∧ b < pH (aPl A)) from fun w => by have := w.1; omega)]
      · rw [if_neg a0, if_neg (show ¬ (a = 0 ∧ b < pK (aPl A)) from fun w => a0 w.1)]
        by_cases a1 : a = 1
        · rw [if_pos a1]
          by_cases hb : b < pH (aPl A)
          · rw [if_pos hb, if_pos (show a = 1 ∧ b < pH (aPl A) from ⟨a1, hb⟩), jmul_id (by omega) (by omega), jadd_id (by omega) (by omega), if_pos (show 0 ≤ b * 6 + c by omega), if_pos (show b * 6 + c < 36 by omega), (r3.2.2.2.2.1 b q.1 hb).2 c q.2.1 (by omega)]
          · rw [if_neg hb, if_neg (show ¬ (a = 1 ∧ b < pH (aPl A)) from fun w => hb w.2)]
        · rw [if_neg a1, if_neg (show ¬ (a = 1 ∧ b < pH (aPl A)) from fun w => a1 w.1)]
    · rw [if_neg q]
      by_cases b0 : b < 0
      · rw [if_pos b0]
      · rw [if_neg b0]
        by_cases c0 : c < 0
        · rw [if_pos c0]
        · rw [if_neg c0, if_neg (by omega)]
  · dsimp only
    obtain ⟨r1, r2, r3, r4, r5, r6, r7, r8, r9, r10, r11⟩ := id hR
    have hO := hV.2.1
    have hn := pOk_n hO
    have hp := mPlan_at r3
    refine ⟨X, ?_, hR, fun _ _ => rfl⟩
    rw [e_X12_letter, t_isIn (d + 58)]
    simp only [Option.bind_some]
    by_cases a0 : 0 ≤ a ∧ a ≤ 1
    · have x : ∃ n : Int, X 181 (8 + a) = n ∧ 0 ≤ n ∧ n ≤ 6 ∧ (n = if a = 0 then pK (aPl A) else pH (aPl A)) := by
        by_cases z : a = 0
        · rw [z, if_pos rfl]; exact ⟨_, hp.2.2.1, by omega, by omega, rfl⟩
        · rw [show a = 1 by omega, if_neg (by omega)]; exact ⟨_, hp.2.2.2.1, by omega, by omega, rfl⟩
      obtain ⟨n, x1, x2, x3, x4⟩ := x
      rw [if_pos a0, if_neg (show ¬ (1 : Int) = 0 by omega), gr_149_40 hG, gl_181 hG, jadd_id (a := 8) (by omega) (by omega), x1, jsub_id (by omega) (by omega), t_isIn (d + 58)]
      simp only [Option.bind_some, Int.reduceLE, reduceIte]
      rw [if_pos (show 0 ≤ 8 + a by omega), if_pos (show 8 + a < 12 by omega)]
      by_cases q1 : 0 ≤ b ∧ b ≤ n - 1
      · rw [if_pos q1, if_neg (show ¬ (1 : Int) = 0 by omega), t_isIn (d + 58)]
        simp only [Option.bind_some]
        by_cases q2 : 0 ≤ c ∧ c ≤ 5
        · rw [if_pos q2, if_neg (show ¬ (1 : Int) = 0 by omega), gr_149_41 hG, gl_182 hG, jmul_id (by omega) (by omega), jadd_id (a := 12) (by omega) (by omega), jadd_id (by omega) (by omega), if_pos (show 0 ≤ b ∧ 0 ≤ c ∧ c ≤ 5 by omega)]
          simp only [Int.reduceLE, reduceIte]
          by_cases z : a = 0
          · rw [if_pos z] at x4
            have hb : b < pK (aPl A) := by omega
            rw [if_pos (show 0 ≤ 12 + 6 * a + b by omega), if_pos (show 12 + 6 * a + b < 24 by omega), if_pos (show a = 0 ∧ b < pK (aPl A) from ⟨z, hb⟩), z, show (12 : Int) + 6 * 0 + b = 12 + b by omega, (r3.2.2.2.2.1 b q1.1 hb).2.2.2]
            exact t_le (d + 59) 0 b c (pOk_k hO b q1.1 hb).2.2.2.2.2.2 q2.1 q2.2
          · rw [if_neg z] at x4
            have hb : b < pH (aPl A) := by omega
            have a1 : a = 1 := by omega
            rw [if_pos (show 0 ≤ 12 + 6 * a + b by omega), if_pos (show 12 + 6 * a + b < 24 by omega), if_neg (show ¬ (a = 0 ∧ b < pK (aPl A)) from fun w => z w.1), if_pos (show a = 1 ∧ b < pH (aPl A) from ⟨a1, hb⟩), a1, show (12 : Int) + 6 * 1 + b = 18 + b by omega, (r3.2.2.2.2.2.1 b q1.1 hb).2]
            exact t_le (d + 59) 1 b c (pOk_h hO b q1.1 hb).2.2 q2.1 q2.2
        · rw [if_neg q2, if_pos rfl, if_neg (by omega)]
      · rw [if_neg q1, if_pos rfl]
        by_cases b0 : 0 ≤ b
        · have z0 : ¬ (a = 0 ∧ b < pK (aPl A)) := fun w => by rw [if_pos w.1] at x4; have := w.2; omega
          have z1 : ¬ (a = 1 ∧ b < pH (aPl A)) := fun w => by rw [if_neg (by omega)] at x4; have := w.2; omega
          rw [if_neg z0, if_neg z1]
          split <;> rfl
        · rw [if_neg (show ¬ (0 ≤ b ∧ 0 ≤ c ∧ c ≤ 5) from fun w => b0 w.1)]
    · rw [if_neg a0, if_pos rfl, if_neg (show ¬ (a = 0 ∧ b < pK (aPl A)) by omega), if_neg (show ¬ (a = 1 ∧ b < pH (aPl A)) by omega)]
      split <;> rfl
