/-! BEST: the class's search -/
def bRel (X : jX) (q : Int × Int × List Int) : Prop := X 104 6 = q.1 ∧ X 104 7 = q.2.1 ∧ q.1 = q.2.2.length ∧ ∀ i : Nat, i < q.2.2.length → X 107 i = q.2.2.getD i 0
theorem lvl {G : jG} (hG : GG G) (a : Nat) (h : a < 3) : isMi G (113 + 8 * (a : Int)) (114 + 8 * (a : Int)) (117 + 8 * (a : Int)) ∧ gR G 105 a = 113 + 8 * (a : Int) := by
  have : a = 0 ∨ a = 1 ∨ a = 2 := by omega
  rcases this with rfl | rfl | rfl
  · exact ⟨mi_1 hG, gr_105_0 hG⟩
  · exact ⟨mi_2 hG, gr_105_1 hG⟩
  · exact ⟨mi_3 hG, gr_105_2 hG⟩
theorem s_keepIf (d : Nat) {G : jG} {X : jX} {p : List Int} {w : Int} {acc : Int × Int × List Int} (hG : GG G) (h3 : p.length ≤ 3) (hb : bRel X acc) (hp : ∀ i : Nat, i < p.length → X 106 i = p.getD i 0) : ∃ X', jD (d + 1) 127 [(18, 104), (0, (p.length : Int)), (0, w)] (G, X) = some (0, (G, X')) ∧ bRel X' (keepS p w acc) ∧ (∀ k, k ≠ 104 → k ≠ 107 → X' k = X k) ∧ ∀ j, j ≠ 6 → j ≠ 7 → X' 104 j = X 104 j := by
  have put : ∃ X', some ((0 : Int), (G, jcpy (jup (jup X 104 6 p.length) 104 7 w) 106 0 107 0 3)) = some (0, (G, X')) ∧ bRel X' (p.length, w, p) ∧ (∀ k, k ≠ 104 → k ≠ 107 → X' k = X k) ∧ ∀ j, j ≠ 6 → j ≠ 7 → X' 104 j = X 104 j := by
    refine ⟨_, rfl, ⟨?_, ?_, rfl, fun i hi => ?_⟩, fun k k0 k1 => ?_, fun j j0 j1 => ?_⟩
    · rw [jcpy_ne _ _ _ _ _ _ _ (by omega), jup_row _ _ _ _ _ (by omega), jup_same]
    · rw [jcpy_ne _ _ _ _ _ _ _ (by omega), jup_same]
    · have hi' : i < p.length := hi
      rw [jcpy_at, if_pos (by omega), jup_rw _ _ _ _ _ (by omega), jup_rw _ _ _ _ _ (by omega), show (0 : Int) + ((i : Int) - 0) = i by omega]
      exact hp i hi
    · rw [jcpy_ne _ _ _ _ _ _ _ k1, jup_rw _ _ _ _ _ k0, jup_rw _ _ _ _ _ k0]
    · rw [jcpy_ne _ _ _ _ _ _ _ (by omega), jup_row _ _ _ _ _ j1, jup_row _ _ _ _ _ j0]
  rw [e_X8_keepIfBetter, hb.1, hb.2.1, gr_104_3 hG, gr_104_4 hG, gl_106 hG, gl_107 hG]
  simp only [Int.reduceLE, Int.reduceAdd, reduceIte]
  unfold keepS
  by_cases q1 : acc.1 < p.length
  · rw [if_pos q1, if_pos (Or.inl q1)]; exact put
  · rw [if_neg q1]
    by_cases q2 : acc.1 = p.length
    · rw [if_pos q2.symm]
      by_cases q3 : acc.2.1 < w
      · rw [if_pos q3, if_pos (Or.inr ⟨q2, q3⟩)]; exact put
      · rw [if_neg q3, if_neg (fun h => by rcases h with h | h; exact q1 h; exact q3 h.2)]
        exact ⟨X, rfl, hb, fun _ _ _ => rfl, fun _ _ _ => rfl⟩
    · rw [if_neg (fun h => q2 h.symm), if_neg (fun h => by rcases h with h | h; exact q1 h; exact q2 h.1)]
      exact ⟨X, rfl, hb, fun _ _ _ => rfl, fun _ _ _ => rfl⟩
theorem s_digB (d a : Nat) {G : jG} {X : jX} {P : aP} {γ : aG} {c w : Int} (hG : GG G) (hP : cPlan X P) (hO : pOk P) (hgO : gOk P γ) (hi : inP P c) (ha : a < 3) (hγ : cGr X (114 + 8 * (a : Int)) γ) (w0 : 0 ≤ w) (w1 : w ≤ 999) : ∃ X', jD (d + 5) 128 [(18, 104), (0, (a : Int)), (0, c), (0, w)] (G, X) = some (0, (G, X')) ∧ (a + 1 < 3 → cGr X' (114 + 8 * ((a + 1 : Nat) : Int)) (dig P γ c w)) ∧ ∀ k, ¬ (a + 1 < 3 ∧ 114 + 8 * ((a + 1 : Nat) : Int) ≤ k ∧ k ≤ 116 + 8 * ((a + 1 : Nat) : Int)) → X' k = X k := by
  rw [e_X8_digBelow, gr_104_2 hG, gl_105 hG, show jadd (a : Int) 1 = ((a + 1 : Nat) : Int) by rw [jadd_id (by omega) (by omega)]; omega]
  simp only [Int.reduceLE, reduceIte]
  by_cases q : a + 1 < 3
  · obtain ⟨hm0, hr0⟩ := lvl hG a ha
    obtain ⟨hm1, hr1⟩ := lvl hG (a + 1) q
    obtain ⟨X1, e1, c1, f1⟩ := s_copyFrom (d + 3) (X := X) (114 + 8 * ((a + 1 : Nat) : Int)) (114 + 8 * (a : Int)) hm1.1 hm0.1 (by omega)
    obtain ⟨X2, e2, g2, f2⟩ := s_dig (d + 1) c w hG (cPlan_fr (X' := X1) (fun a h1 h2 => f1 a (by omega) (by omega) (by omega)) hP) hO hgO hi hm1 (c1 γ hγ) w0 w1
    rw [if_pos (by omega), hr1, hr0, hm1.2.1.2.1, hm0.2.1.2.1]
    simp only [if_pos (show (0 : Int) ≤ ((a + 1 : Nat) : Int) by omega), if_pos (show ((a + 1 : Nat) : Int) < 3 by omega), if_pos (show (0 : Int) ≤ (a : Int) by omega), if_pos (show (a : Int) < 3 by omega), if_pos (show 0 ≤ 113 + 8 * ((a + 1 : Nat) : Int) by omega), if_pos (show 0 ≤ 113 + 8 * (a : Int) by omega), if_pos (show 0 ≤ 114 + 8 * ((a + 1 : Nat) : Int) by omega)]
    rw [e1]
    simp only [Option.bind_some]
    rw [gr_104_2 hG, gl_105 hG, hr1]
    simp only [if_pos (show (0 : Int) ≤ ((a + 1 : Nat) : Int) by omega), if_pos (show ((a + 1 : Nat) : Int) < 3 by omega), if_pos (show 0 ≤ 113 + 8 * ((a + 1 : Nat) : Int) by omega), Int.reduceLE, reduceIte]
    rw [e2]
    exact ⟨X2, rfl, fun _ => g2, fun k hk => by rw [f2 k (by omega) (by omega) (by omega), f1 k (by omega) (by omega) (by omega)]⟩
  · rw [if_neg (by omega)]
    exact ⟨X, rfl, fun h => absurd h q, fun _ _ => rfl⟩
