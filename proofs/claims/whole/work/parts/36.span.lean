theorem mod_in {P : aP} {c : Int} (hO : pOk P) (hi : inP P c) : 0 < pC P ∧ 0 ≤ c % pC P ∧ c % pC P < pC P ∧ c % pC P ≤ c ∧ c - c % pC P + pC P ≤ pCe P ∧ 0 ≤ c / pC P ∧ c / pC P < pR P ∧ c = pC P * (c / pC P) + c % pC P := by
  have hc := pCe_le hO
  obtain ⟨h0, h1⟩ := hi
  have hC : 0 < pC P := by
    rcases Int.lt_or_eq_of_le hc.2.2.2.1 with h | h
    · exact h
    · rw [← h, Int.zero_mul] at hc; omega
  have h2 := Int.emod_nonneg c (Int.ne_of_gt hC)
  have h3 := Int.emod_lt_of_pos c hC
  have h4 : c = pC P * (c / pC P) + c % pC P := (Int.mul_ediv_add_emod c (pC P)).symm
  have h5 : c / pC P < pR P := Int.ediv_lt_of_lt_mul hC (by rw [Int.mul_comm]; omega)
  have h6 : pC P * (c / pC P) + pC P ≤ pCe P := by
    have : pC P * (c / pC P + 1) ≤ pC P * pR P := Int.mul_le_mul_of_nonneg_left (by omega) hc.2.2.2.1
    rw [Int.mul_add, Int.mul_one] at this
    omega
  have h7 := Int.ediv_nonneg h0 (Int.le_of_lt hC)
  have h8 := Int.mul_nonneg (Int.le_of_lt hC) h7
  exact ⟨hC, h2, h3, by omega, by omega, h7, h5, h4⟩
theorem s_spanS_n (d : Nat) {G : jG} {X : jX} {γ : aG} {m g r : Int} (a f : Int) (hm : isMi G m g r) (hγ : cGr X g γ) (hf : 0 ≤ f) : ∀ (n : Nat) (i : Int), i - f + 1 = n → i < 48 → jN d 36 19 [(13, m), (0, a), (0, f), (0, i)] [] (G, X) = some (i + 1 - lrn (gCe γ) n (i + 1), (G, X)) := by
  obtain ⟨⟨g0, g1, g2, g3, g4⟩, ⟨m0, m1, -⟩, -, h25, -⟩ := hm
  intro n
  induction n with
  | zero =>
    intro i h1 h2
    rw [h_X3_spanStart_19, if_pos (by omega)]
    have : i + 1 = f := by omega
    simp [lrn, this]
  | succ n ih =>
    intro i h1 h2
    have hc := hγ.2.1 i (by omega) h2
    rw [h_X3_spanStart_19, if_neg (by omega), m1, g0, g2, if_pos (by omega), if_pos (by omega), if_pos (by omega), if_pos (by omega), if_pos (by omega), hc, jadd_id (by omega) (by omega), jadd_id (by omega) (by omega)]
    show _ = some (i + 1 - (if gCe γ (i + 1 - 1) = 1 then 1 + lrn (gCe γ) n (i + 1 - 1) else 0), (G, X))
    rw [show i + 1 - 1 = i by omega]
    by_cases h : gCe γ i = 1
    · rw [if_pos h, if_pos h, ih (i + -1) (by omega) (by omega), show i + -1 + 1 = i by omega, show i - lrn (gCe γ) n i = i + 1 - (1 + lrn (gCe γ) n i) by omega]
    · rw [if_neg h, if_neg h, Int.sub_zero]
theorem s_spanStart (d : Nat) {G : jG} {X : jX} {P : aP} {γ : aG} {m g r : Int} (c : Int) (hP : cPlan X P) (hO : pOk P) (hi : inP P c) (hm : isMi G m g r) (hγ : cGr X g γ) : jD (d + 2) 36 [(13, m), (0, c)] (G, X) = some (c - spL P (gCe γ) c, (G, X)) := by
  have hc := pCe_le hO
  have hd := mod_in hO hi
  obtain ⟨hi0, hi1⟩ := hi
  obtain ⟨hg, ⟨m0, m1, -⟩, -, h25, -⟩ := id hm
  rw [e_X3_spanStart, m0, if_pos (by omega), if_pos (by omega), s_columnOf d c hP hi0 hd.1]
  simp only [Option.bind_some]
  rw [s_max d, jsub_id (by omega) (by omega), jsub_id (by omega) (by omega)]
  simp only [Option.bind_some]
  rw [show (if 0 < c - c % pC P then c - c % pC P else 0) = c - c % pC P by split <;> omega, s_spanS_n (d + 1) c _ hm hγ (by omega) (c % pC P).toNat (c - 1) (by omega) (by omega), show c - 1 + 1 = c by omega]
  rfl
theorem s_spanE_n (d : Nat) {G : jG} {X : jX} {γ : aG} {m g r : Int} (a f : Int) (hm : isMi G m g r) (hγ : cGr X g γ) (hf : f < 48) : ∀ (n : Nat) (i : Int), f - i + 1 = n → 0 ≤ i → jN d 37 30 [(13, m), (0, a), (0, f), (0, i)] [] (G, X) = some (i - 1 + rrn (gCe γ) n (i - 1), (G, X)) := by
  obtain ⟨⟨g0, g1, g2, g3, g4⟩, ⟨m0, m1, -⟩, -, h25, -⟩ := hm
  intro n
  induction n with
  | zero =>
    intro i h1 h2
    rw [h_X3_spanEnd_30, if_pos (by omega)]
    have : i - 1 = f := by omega
    simp [rrn, this]
  | succ n ih =>
    intro i h1 h2
    have hc := hγ.2.1 i h2 (by omega)
    rw [h_X3_spanEnd_30, if_neg (by omega), m1, g0, g2, if_pos (by omega), if_pos (by omega), if_pos (by omega), if_pos (by omega), if_pos (by omega), hc, jadd_id (by omega) (by omega), jsub_id (by omega) (by omega)]
    show _ = some (i - 1 + (if gCe γ (i - 1 + 1) = 1 then 1 + rrn (gCe γ) n (i - 1 + 1) else 0), (G, X))
    rw [show i - 1 + 1 = i by omega]
    by_cases h : gCe γ i = 1
    · rw [if_pos h, if_pos h, ih (i + 1) (by omega) (by omega), show i + 1 - 1 = i by omega, show i + rrn (gCe γ) n i = i - 1 + (1 + rrn (gCe γ) n i) by omega]
    · rw [if_neg h, if_neg h, Int.add_zero]
theorem s_spanEnd (d : Nat) {G : jG} {X : jX} {P : aP} {γ : aG} {m g r : Int} (c : Int) (hP : cPlan X P) (hO : pOk P) (hi : inP P c) (hm : isMi G m g r) (hγ : cGr X g γ) : jD (d + 2) 37 [(13, m), (0, c)] (G, X) = some (c + spR P (gCe γ) c, (G, X)) := by
  have hc := pCe_le hO
  have hd := mod_in hO hi
  have ha := cPlan_at hP
  obtain ⟨hi0, hi1⟩ := hi
  obtain ⟨hg, ⟨m0, m1, -⟩, -, h25, -⟩ := id hm
  rw [e_X3_spanEnd, m0, if_pos (by omega), if_pos (by omega), s_columnOf d c hP hi0 hd.1]
  simp only [Option.bind_some]
  rw [if_pos (by omega), m0, if_pos (by omega), s_min d, ha.2.2.1, jsub_id (a := c) (by omega) (by omega), jadd_id (by omega) (by omega), jadd_id (by omega) (by omega)]
  simp only [Option.bind_some]
  rw [show (if c - c % pC P + pC P < 48 then c - c % pC P + pC P else 48) = c - c % pC P + pC P by split <;> omega, jsub_id (by omega) (by omega), s_spanE_n (d + 1) c _ hm hγ (by omega) (pC P - 1 - c % pC P).toNat (c + 1) (by omega) (by omega), show c + 1 - 1 = c by omega]
  rfl
theorem lrn_le (st : Int → Int) : ∀ (n : Nat) (c : Int), 0 ≤ lrn st n c ∧ lrn st n c ≤ n := by
  intro n
  induction n with
  | zero => intro c; exact ⟨Int.le_refl 0, Int.le_refl 0⟩
  | succ n ih =>
    intro c
    have := ih (c - 1)
    show 0 ≤ (if st (c - 1) = 1 then 1 + lrn st n (c - 1) else 0) ∧ (if st (c - 1) = 1 then 1 + lrn st n (c - 1) else 0) ≤ _
    split <;> omega
theorem rrn_le (st : Int → Int) : ∀ (n : Nat) (c : Int), 0 ≤ rrn st n c ∧ rrn st n c ≤ n := by
  intro n
  induction n with
  | zero => intro c; exact ⟨Int.le_refl 0, Int.le_refl 0⟩
  | succ n ih =>
    intro c
    have := ih (c + 1)
    show 0 ≤ (if st (c + 1) = 1 then 1 + rrn st n (c + 1) else 0) ∧ (if st (c + 1) = 1 then 1 + rrn st n (c + 1) else 0) ≤ _
    split <;> omega
/-- a span lies in its row -/
theorem sp_in {P : aP} {c : Int} (st : Int → Int) (hO : pOk P) (hi : inP P c) : 0 ≤ spL P st c ∧ spL P st c ≤ c % pC P ∧ 0 ≤ spR P st c ∧ spR P st c ≤ pC P - 1 - c % pC P ∧ inP P (c - spL P st c) ∧ inP P (c + spR P st c) := by
  have hd := mod_in hO hi
  have h1 := lrn_le st (c % pC P).toNat c
  have h2 := rrn_le st (pC P - 1 - c % pC P).toNat c
  obtain ⟨hi0, hi1⟩ := hi
  unfold spL spR inP
  omega
theorem s_span (d : Nat) {G : jG} {X : jX} {P : aP} {γ : aG} {m g r : Int} (c : Int) (hP : cPlan X P) (hO : pOk P) (hi : inP P c) (hm : isMi G m g r) (hγ : cGr X g γ) : jD (d + 3) 38 [(13, m), (0, c)] (G, X) = some (spn P (gCe γ) c, (G, X)) := by
  have hc := pCe_le hO
  have hs := sp_in (gCe γ) hO hi
  have h25 : 25 ≤ m := hm.2.2.2.1
  rw [e_X3_span, if_pos (by omega), s_spanEnd d c hP hO hi hm hγ]
  simp only [Option.bind_some]
  rw [if_pos (by omega), s_spanStart d c hP hO hi hm hγ]
  simp only [Option.bind_some]
  obtain ⟨hi0, hi1⟩ := hi
  unfold spn
  have h3 : spL P (gCe γ) c ≤ c := by have := hs.2.2.2.2.1.1; omega
  have h4 := hs.2.2.2.2.2.2
  rw [jsub_id (by omega) (by omega), jadd_id (by omega) (by omega)]
  congr 2
  omega
theorem s_wouldFall (d : Nat) {G : jG} {X : jX} {P : aP} {γ : aG} {m g r : Int} (c : Int) (hG : GG G) (hP : cPlan X P) (hO : pOk P) (hi : inP P c) (hm : isMi G m g r) (hγ : cGr X g γ) : jD (d + 4) 39 [(13, m), (0, c)] (G, X) = some (if pHo P < spn P (gCe γ) c then 1 else 0, (G, X)) := by
  have h25 : 25 ≤ m := hm.2.2.2.1
  have m0 := hm.2.1.1
  rw [e_X3_wouldFall, if_pos (by omega), s_span d c hP hO hi hm hγ]
  simp only [Option.bind_some]
  rw [m0, gr_1_8 hG, gl_2 hG, hP.2.1.1]
  grind
