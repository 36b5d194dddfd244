theorem fbt_01 {P : aP} (hO : pOk P) {k j : Int} (k0 : 0 ≤ k) (k1 : k < pK P) (j0 : 0 ≤ j) (j1 : j < 5) : fbt P k j = 0 ∨ fbt P k j = 1 := by
  have h := pOk_k hO k k0 k1
  have e := ibit (x := (pFo P k).toNat) (c := j.toNat) (by omega) (by omega)
  rw [show (((pFo P k).toNat : Nat) : Int) = pFo P k by omega, show ((j.toNat : Nat) : Int) = j by omega] at e
  unfold fbt
  omega
theorem t_st_9 (d : Nat) {G : jG} (a : Int) (hG : GG G) : ∀ (k : Nat) (X : jX) (v : Int), k ≤ 5 → 0 ≤ v → v ≤ 100000 → ∃ X' w, jN d 270 9 [(22, 149), (0, a), (0, v), (0, (k : Int) - 1), (2, -1), (2, -1)] [] (G, X) = jN d 270 37 [(22, 149), (0, a), (0, w), (0, 0), (0, 0), (2, -1)] [] (G, X') ∧ (∀ j : Int, 0 ≤ j → j < k → X' 200 j = dgs k v j) ∧ (∀ j : Int, k ≤ j → X' 200 j = X 200 j) ∧ ∀ a, a ≠ 200 → X' a = X a
  | 0, X, v, _, _, _ => by
    refine ⟨X, v, ?_, fun j j0 j1 => by omega, fun _ _ => rfl, fun _ _ => rfl⟩
    rw [h_X12_isStored_9, if_pos (by omega)]
  | k + 1, X, v, h5, h0, h1 => by
    obtain ⟨X', w, e, c1, c2, f⟩ := t_st_9 d a hG k (jup X 200 k (v % 5)) (v / 5) (by omega) (by omega) (by omega)
    refine ⟨X', w, ?_, fun j j0 j1 => ?_, fun j hj => by rw [c2 j (by omega), jup_row _ _ _ _ _ (by omega)], fun a ha => by rw [f a ha, jup_rw _ _ _ _ _ ha]⟩
    · rw [← e, h_X12_isStored_9, show ((k + 1 : Nat) : Int) - 1 = (k : Int) by omega, if_neg (by omega), gr_149_76 hG, gl_200 hG, jdiv_id h0 (by omega) (by omega), jrem_id h0, jadd_id (by omega) (by omega)]
      simp only [Int.reduceLE, reduceIte]
      rw [if_pos (by omega), if_pos (by omega)]
      rfl
    · show _ = if j = k then v % 5 else dgs k (v / 5) j
      by_cases q : j = k
      · rw [if_pos q, q, c2 k (by omega), jup_same]
      · rw [if_neg q, c1 j j0 (by omega)]
theorem t_st_76 (d : Nat) {G : jG} {X : jX} {P : aP} {s : Int → Int} {k K : Nat} (a w v : Int) (hG : GG G) (hP : mPlan X P) (hO : pOk P) (hK : (K : Int) = pK P) (hk : k < K) (hs : ∀ j : Int, 0 ≤ j → j < K → X 200 j = s j) : ∀ (m : Nat) (i : Int), i + m = k → 0 ≤ i → ((∀ j : Int, i ≤ j → j < k → s j = s k → fbt P k j = 0) → jN d 270 76 [(22, 149), (0, a), (0, w), (0, v), (0, (k : Int)), (0, i)] [] (G, X) = jN d 270 37 [(22, 149), (0, a), (0, w), (0, v), (0, (k : Int) + 1), (0, (k : Int))] [] (G, X)) ∧ (¬ (∀ j : Int, i ≤ j → j < k → s j = s k → fbt P k j = 0) → jN d 270 76 [(22, 149), (0, a), (0, w), (0, v), (0, (k : Int)), (0, i)] [] (G, X) = some (0, (G, X))) := by
  have hn := pOk_n hO
  intro m
  induction m with
  | zero =>
    intro i h0 h1
    refine ⟨fun _ => ?_, fun q => absurd (fun j j0 j1 => by omega) q⟩
    rw [h_X12_isStored_76, if_neg (by omega), jadd_id (by omega) (by omega), show i = (k : Int) by omega]
  | succ m ih =>
    intro i h0 h1
    have e6 : X 183 (17 + 3 * (k : Int)) = pFo P k := (hP.2.2.2.2.1 k (by omega) (by omega)).2.2.1
    have hb := fbt_01 hO (k := k) (j := i) (by omega) (by omega) h1 (by omega)
    have ih' := ih (i + 1) (by omega) (by omega)
    rw [h_X12_isStored_76, if_pos (by omega), gr_149_76 hG, gl_200 hG, gr_149_42 hG, gl_183 hG, hs i h1 (by omega), hs k (by omega) (by omega), jmul_id (by omega) (by omega), jadd_id (a := 17) (by omega) (by omega), e6, jadd_id (a := i) (by omega) (by omega)]
    simp only [Int.reduceLE, reduceIte]
    rw [if_pos h1, if_pos (show i < 5 by omega), if_pos (show (0 : Int) ≤ k by omega), if_pos (show (k : Int) < 5 by omega), if_pos (show 0 ≤ 17 + 3 * (k : Int) by omega), if_pos (show 17 + 3 * (k : Int) < 30 by omega)]
    by_cases q : s i = s k
    · rw [if_pos q]
      by_cases z : fbt P k i = 0
      · rw [if_neg (show ¬ iAnd (iShr (pFo P k) i) 1 = 1 from fun y => by have y' : fbt P k i = 1 := y; omega)]
        refine ⟨fun y => ih'.1 (fun j j0 j1 => y j (by omega) j1), fun y => ih'.2 (fun y2 => y (fun j j0 j1 j2 => ?_))⟩
        by_cases z2 : j = i
        · rw [z2]; exact z
        · exact y2 j (by omega) j1 j2
      · rw [if_pos (show iAnd (iShr (pFo P k) i) 1 = 1 by show fbt P k i = 1; omega)]
        exact ⟨fun y => absurd (y i (by omega) (by omega) q) z, fun _ => rfl⟩
    · rw [if_neg q]
      refine ⟨fun y => ih'.1 (fun j j0 j1 => y j (by omega) j1), fun y => ih'.2 (fun y2 => y (fun j j0 j1 j2 => ?_))⟩
      by_cases z2 : j = i
      · rw [z2] at j2; exact absurd j2 q
      · exact y2 j (by omega) j1 j2
theorem t_st_37 (d : Nat) {G : jG} {X : jX} {P : aP} {s : Int → Int} {K : Nat} (a w : Int) (hG : GG G) (hP : mPlan X P) (hO : pOk P) (hK : (K : Int) = pK P) (hs : ∀ j : Int, 0 ≤ j → j < K → X 200 j = s j) (h04 : ∀ j : Int, 0 ≤ j → j < K → 0 ≤ s j ∧ s j ≤ 4) : ∀ (m k : Nat) (u : jV), u.1 = 2 ∨ u.1 = 0 → k + m = K → jN (d + 1) 270 37 [(22, 149), (0, a), (0, w), (0, usd s k), (0, (k : Int)), u] [] (G, X) = some (b01 (∀ j : Nat, k ≤ j → j < K → vst P s j), (G, X)) := by
  have hn := pOk_n hO
  intro m
  induction m with
  | zero =>
    intro k u hu h1
    rw [h_X12_isStored_37 _ _ _ _ _ _ _ hu, t_kindMany d hG hP]
    simp only [Option.bind_some, Int.reduceLE, reduceIte]
    rw [if_neg (by omega), b01_t (fun j j0 j1 => by omega)]
  | succ m ih =>
    intro k u hu h1
    have hsk := h04 k (by omega) (by omega)
    have hu5 := usd_le (s := s) (n := 5) (by omega) k (fun j j0 j1 => by have := h04 j j0 (by omega); omega)
    have hu0 := usd_0 (s := s) k
    rw [h_X12_isStored_37 _ _ _ _ _ _ _ hu, t_kindMany d hG hP]
    simp only [Option.bind_some, Int.reduceLE, reduceIte]
    rw [if_pos (by omega), gr_149_76 hG, gl_200 hG, hs k (by omega) (by omega), jadd_id (by omega) (by omega)]
    simp only [Int.reduceLE, reduceIte]
    simp only [if_pos (show (0 : Int) ≤ k by omega), if_pos (show (k : Int) < 5 by omega)]
    by_cases q : usd s k < s k
    · rw [if_pos q, b01_f (fun y => by have := (y k (Nat.le_refl k) (by omega)).2.1; omega)]
    · have e : (if s k = usd s k then jN (d + 1) 270 76 [(22, 149), (0, a), (0, w), (0, usd s k + 1), (0, (k : Int)), (0, 0)] [] (G, X) else jN (d + 1) 270 76 [(22, 149), (0, a), (0, w), (0, usd s k), (0, (k : Int)), (0, 0)] [] (G, X)) = jN (d + 1) 270 76 [(22, 149), (0, a), (0, w), (0, usd s (k + 1)), (0, (k : Int)), (0, 0)] [] (G, X) := by
        show _ = jN (d + 1) 270 76 [(22, 149), (0, a), (0, w), (0, if usd s k < s k + 1 then s k + 1 else usd s k), (0, (k : Int)), (0, 0)] [] (G, X)
        by_cases z : s k = usd s k
        · rw [if_pos z, if_pos (by omega), z]
        · rw [if_neg z, if_neg (by omega)]
      have t := t_st_76 (d + 1) a w (usd s (k + 1)) hG hP hO hK (show k < K by omega) hs k 0 (by omega) (by omega)
      rw [if_neg q, e]
      by_cases z : ∀ j : Int, 0 ≤ j → j < k → s j = s k → fbt P k j = 0
      · rw [t.1 z]
        have i2 := ih (k + 1) (0, (k : Int)) (Or.inr rfl) (by omega)
        rw [show ((k + 1 : Nat) : Int) = (k : Int) + 1 by omega] at i2
        rw [i2]
        congr 3
        apply propext
        constructor
        · intro y j j0 j1
          by_cases zz : j = k
          · rw [zz]; exact ⟨hsk.1, by omega, z⟩
          · exact y j (by omega) j1
        · intro y j j0 j1; exact y j (by omega) j1
      · rw [t.2 z, b01_f (fun y => z (y k (Nat.le_refl k) (by omega)).2.2)]
theorem t_isStored (d : Nat) {G : jG} {X : jX} {P : aP} {K : Nat} (c : Int) (hG : GG G) (hP : mPlan X P) (hO : pOk P) (hK : (K : Int) = pK P) (c0 : 0 ≤ c) (c1 : c ≤ 100000) : ∃ X', jD (d + 2) 270 [(22, 149), (0, c)] (G, X) = some (b01 (vld P K (dgs K c)), (G, X')) ∧ (∀ j : Int, 0 ≤ j → j < K → X' 200 j = dgs K c j) ∧ ∀ a, a ≠ 200 → X' a = X a := by
  have hn := pOk_n hO
  obtain ⟨X', w, e, c1, c2, f⟩ := t_st_9 (d + 1) c hG K X c (by omega) c0 c1
  refine ⟨X', ?_, c1, f⟩
  rw [e_X12_isStored, t_kindMany d hG hP]
  simp only [Option.bind_some, Int.reduceLE, reduceIte]
  rw [jsub_id (by omega) (by omega), ← hK, e]
  have t := t_st_37 d c w hG (mPlan_fr (fun a h1 h2 => f a (by omega)) (by rw [f 149 (by omega)]) hP) hO hK c1 (fun j _ _ => dgs_le K c j) K 0 (2, -1) (Or.inl rfl) (by omega)
  refine t.trans ?_
  congr 3
  exact propext ⟨fun y j hj => y j (Nat.zero_le j) hj, fun y j _ hj => y j hj⟩
theorem t_used_n (d : Nat) {G : jG} {X : jX} {P : aP} {s : Int → Int} {K : Nat} (hG : GG G) (hP : mPlan X P) (hO : pOk P) (hK : (K : Int) = pK P) (hs : ∀ j : Int, 0 ≤ j → j < K → X 200 j = s j) (h04 : ∀ j : Int, 0 ≤ j → j < K → 0 ≤ s j ∧ s j ≤ 4) : ∀ (m k : Nat), k + m = K → jN (d + 1) 271 4 [(22, 149), (0, usd s k), (0, (k : Int))] [] (G, X) = some (usd s K, (G, X)) := by
  have hn := pOk_n hO
  intro m
  induction m with
  | zero =>
    intro k h1
    rw [h_X12_storesUsed_4, t_kindMany d hG hP]
    simp only [Option.bind_some, Int.reduceLE, reduceIte]
    rw [if_neg (by omega), show k = K by omega]
  | succ m ih =>
    intro k h1
    have hsk := h04 k (by omega) (by omega)
    rw [h_X12_storesUsed_4, t_kindMany d hG hP]
    simp only [Option.bind_some, Int.reduceLE, reduceIte]
    rw [if_pos (by omega), gr_149_76 hG, gl_200 hG, hs k (by omega) (by omega), jadd_id (a := s k) (by omega) (by omega), jadd_id (a := (k : Int)) (by omega) (by omega)]
    simp only [Int.reduceLE, reduceIte]
    simp only [if_pos (show (0 : Int) ≤ k by omega), if_pos (show (k : Int) < 5 by omega)]
    rw [← ih (k + 1) (by omega)]
    show _ = jN (d + 1) 271 4 [(22, 149), (0, if usd s k < s k + 1 then s k + 1 else usd s k), (0, ((k + 1 : Nat) : Int))] [] (G, X)
    rw [show ((k + 1 : Nat) : Int) = (k : Int) + 1 by omega]
    by_cases q : s k < usd s k
    · rw [if_pos q, if_neg (by omega)]
    · rw [if_neg q, if_pos (by omega)]
theorem t_used (d : Nat) {G : jG} {X : jX} {P : aP} {s : Int → Int} {K : Nat} (hG : GG G) (hP : mPlan X P) (hO : pOk P) (hK : (K : Int) = pK P) (hs : ∀ j : Int, 0 ≤ j → j < K → X 200 j = s j) (h04 : ∀ j : Int, 0 ≤ j → j < K → 0 ≤ s j ∧ s j ≤ 4) : jD (d + 2) 271 [(22, 149)] (G, X) = some (usd s K, (G, X)) := by
  rw [e_X12_storesUsed]
  exact t_used_n d hG hP hO hK hs h04 K 0 (by omega)
def stU (K : Nat) (b : Int) : Int := if b = -1 then -1 else usd (dgs K b) K
def stV (K : Nat) (a b : Int) : Int := if b = -1 then -1 else if a = -1 then usd (dgs K b) K else dgs K b a
theorem t_st_45 (d : Nat) {G : jG} {P : aP} {K : Nat} (a N : Int) (hG : GG G) (hO : pOk P) (hK : (K : Int) = pK P) (ha : a = -1 ∨ (0 ≤ a ∧ a < K)) (hN : N ≤ 3125) : ∀ (m : Nat) (X : jX) (c b : Int), mPlan X P → c + m = N → 0 ≤ c → -1 ≤ b → ∃ X', jN (d + 2) 272 45 [(22, 149), (0, a), (0, N), (0, stU K b), (0, stV K a b), (0, c)] [] (G, X) = some (stV K a (stF P K m c b), (G, X')) ∧ ∀ a, a ≠ 200 → X' a = X a := by
  have hn := pOk_n hO
  intro m
  induction m with
  | zero =>
    intro X c b hP h0 h1 h2
    refine ⟨X, ?_, fun _ _ => rfl⟩
    rw [h_X12_stores_45, if_neg (by omega)]
    rfl
  | succ m ih =>
    intro X c b hP h0 h1 h2
    obtain ⟨X1, e1, c1, f1⟩ := t_isStored d c hG hP hO hK h1 (by omega)
    have hP1 : mPlan X1 P := mPlan_fr (fun a h1 h2 => f1 a (by omega)) (by rw [f1 149 (by omega)]) hP
    have d04 : ∀ j : Int, 0 ≤ j → j < K → 0 ≤ dgs K c j ∧ dgs K c j ≤ 4 := fun j _ _ => dgs_le K c j
    have eS : stF P K (m + 1) c b = stF P K m (c + 1) (@ite Int (vld P K (dgs K c) ∧ (b = -1 ∨ usd (dgs K c) K < usd (dgs K b) K)) (Classical.propDecidable _) c b) := rfl
    have hus := usd_0 (s := dgs K c) K
    have hub := usd_0 (s := dgs K b) K
    rw [h_X12_stores_45, if_pos (by omega), e1]
    simp only [Option.bind_some, Int.reduceLE, reduceIte]
    rw [jadd_id (a := c) (by omega) (by omega), t_used d hG hP1 hO hK c1 d04, eS]
    simp only [Option.bind_some, Int.reduceLE, reduceIte]
    rw [t_used d hG hP1 hO hK c1 d04]
    simp only [Option.bind_some]
    rw [gr_149_76 hG, gl_200 hG]
    simp only [Int.reduceLE, reduceIte]
    have keep : ¬ (vld P K (dgs K c) ∧ (b = -1 ∨ usd (dgs K c) K < usd (dgs K b) K)) → ∃ X', jN (d + 2) 272 45 [(22, 149), (0, a), (0, N), (0, stU K b), (0, stV K a b), (0, c + 1)] [] (G, X1) = some (stV K a (stF P K m (c + 1) b), (G, X')) ∧ ∀ a, a ≠ 200 → X' a = X a := fun _ => by
      obtain ⟨X', e', f'⟩ := ih X1 (c + 1) b hP1 (by omega) (by omega) h2
      exact ⟨X', e', fun a ha => by rw [f' a ha, f1 a ha]⟩
    have take : ∃ X', jN (d + 2) 272 45 [(22, 149), (0, a), (0, N), (0, usd (dgs K c) K), (0, if a = -1 then usd (dgs K c) K else dgs K c a), (0, c + 1)] [] (G, X1) = some (stV K a (stF P K m (c + 1) c), (G, X')) ∧ ∀ a, a ≠ 200 → X' a = X a := by
      obtain ⟨X', e', f'⟩ := ih X1 (c + 1) c hP1 (by omega) (by omega) (by omega)
      unfold stU stV at e'
      rw [if_neg (show ¬ c = -1 by omega), if_neg (show ¬ c = -1 by omega)] at e'
      exact ⟨X', e', fun a ha => by rw [f' a ha, f1 a ha]⟩
    by_cases hv : vld P K (dgs K c)
    · rw [b01_t hv, if_neg (show ¬ (1 : Int) = 0 by omega)]
      by_cases hb : b = -1
      · rw [if_pos (show stU K b = -1 by unfold stU; rw [if_pos hb]), if_pos (show vld P K (dgs K c) ∧ (b = -1 ∨ usd (dgs K c) K < usd (dgs K b) K) from ⟨hv, Or.inl hb⟩)]
        by_cases a1 : a = -1
        · rw [if_pos a1]; rw [if_pos a1] at take; exact take
        · rw [if_neg a1] at take
          rw [if_neg a1, if_pos (show 0 ≤ a by omega), if_pos (show a < 5 by omega), c1 a (by omega) (by omega)]; exact take
      · have eU : stU K b = usd (dgs K b) K := by unfold stU; rw [if_neg hb]
        rw [if_neg (show ¬ stU K b = -1 by rw [eU]; omega)]
        by_cases q : usd (dgs K c) K < usd (dgs K b) K
        · rw [if_pos (show usd (dgs K c) K < stU K b by rw [eU]; exact q), if_pos (show vld P K (dgs K c) ∧ (b = -1 ∨ usd (dgs K c) K < usd (dgs K b) K) from ⟨hv, Or.inr q⟩)]
          by_cases a1 : a = -1
          · rw [if_pos a1]; rw [if_pos a1] at take; exact take
          · rw [if_neg a1] at take
            rw [if_neg a1, if_pos (show 0 ≤ a by omega), if_pos (show a < 5 by omega), c1 a (by omega) (by omega)]; exact take
        · have hq : ¬ (vld P K (dgs K c) ∧ (b = -1 ∨ usd (dgs K c) K < usd (dgs K b) K)) := fun w => by
            rcases w.2 with h | h
            · exact hb h
            · exact q h
          rw [if_neg (show ¬ usd (dgs K c) K < stU K b by rw [eU]; exact q), if_neg hq]
          exact keep hq
    · have hq : ¬ (vld P K (dgs K c) ∧ (b = -1 ∨ usd (dgs K c) K < usd (dgs K b) K)) := fun w => hv w.1
      rw [b01_f hv, if_pos rfl, if_neg hq]
      exact keep hq
theorem p5_le : ∀ k : Nat, k < 6 → (5 : Int) ^ k ≤ 3125 := by decide
theorem t_st_19 (d : Nat) {G : jG} {X : jX} {P : aP} {K : Nat} (a : Int) (hG : GG G) (hP : mPlan X P) (hO : pOk P) (hK : (K : Int) = pK P) : ∀ (m k : Nat), k + m = K → jN (d + 1) 272 19 [(22, 149), (0, a), (0, (5 : Int) ^ k), (0, (k : Int)), (2, -1), (2, -1)] [] (G, X) = jN (d + 1) 272 45 [(22, 149), (0, a), (0, (5 : Int) ^ K), (0, -1), (0, -1), (0, 0)] [] (G, X) := by
  have hn := pOk_n hO
  intro m
  induction m with
  | zero =>
    intro k h1
    rw [h_X12_stores_19, t_kindMany d hG hP]
    simp only [Option.bind_some, Int.reduceLE, reduceIte]
    rw [if_neg (by omega), show k = K by omega]
  | succ m ih =>
    intro k h1
    have h5 := p5_le k (by omega)
    have h0 : (0 : Int) ≤ 5 ^ k := Int.pow_nonneg (by omega)
    rw [h_X12_stores_19, t_kindMany d hG hP]
    simp only [Option.bind_some, Int.reduceLE, reduceIte]
    rw [if_pos (by omega), jmul_id (by omega) (by omega), jadd_id (by omega) (by omega), ← Int.pow_succ, show (k : Int) + 1 = ((k + 1 : Nat) : Int) by omega]
    exact ih (k + 1) (by omega)
theorem call_stores (a : Int) : okB 165 272 [(0, a)] := by
  refine ⟨fun A => if a = -1 ∨ (0 ≤ a ∧ a < pK (aPl A)) then stV (pK (aPl A)).toNat a (stB (aPl A)) else -1, fun A => A, fun d G X A hG hR hV => ?_, fun d G X A hG hR hV => ?_, fun A hV => hV⟩
  · dsimp only
    obtain ⟨r1, r2, r3, r4, r5, r6, r7, r8, r9, r10, r11⟩ := id hR
    have hO := hV.2.1
    have hn := pOk_n hO
    obtain ⟨K, hK⟩ : ∃ K : Nat, (K : Int) = pK (aPl A) := ⟨(pK (aPl A)).toNat, by omega⟩
    have eK : (pK (aPl A)).toNat = K := by omega
    rw [e_X11_stores, gr_0_2 hG, gr_0_9 hG, (cPlan_at r3).2.2.2.2.2.1, eK]
    simp only [Int.reduceLE, reduceIte]
    by_cases q : a = -1 ∨ (0 ≤ a ∧ a < pK (aPl A))
    · obtain ⟨X', n, e, f, n0, n5, ⟨t, h1, h2, h3⟩, h4⟩ := s_share_n (d + 55 - K) hG hO hK 5 X 0 (by omega) (by omega) r3
      have is := stB_is hK (by omega) n0 n5 h1 (fun j j0 j1 => (h2 j j0 j1).1) h3 h4
      rw [show d + 55 - K + K + 3 = d + 58 by omega] at e
      rw [if_neg (show ¬ a < -1 by omega), if_pos (show a < pK (aPl A) by omega), e_X9_share, e, if_pos q]
      simp only [Option.bind_some, Int.reduceLE, reduceIte]
      have hR' : RC A X' := RC_same (fun k hk => by unfold sR at hk; exact f k (by omega)) hR
      unfold stV
      rw [if_neg (show ¬ stB (aPl A) = -1 by omega)]
      by_cases a1 : a = -1
      · rw [if_pos a1, if_pos a1, is.2.1]
        exact ⟨G, X', rfl, hG, hR', fun k hk => f k (by omega)⟩
      · rw [if_neg a1, if_neg a1, gr_0_9 hG, e_X9_storeOf, gr_140_2 hG, gl_141 hG, (h2 a (by omega) (by omega)).2, is.2.2 a (by omega) (by omega)]
        simp only [Option.bind_some, Int.reduceLE, reduceIte]
        rw [if_neg (show ¬ a < 0 by omega), if_pos (show a < 5 by omega), if_pos (show 0 ≤ a by omega), if_pos (show a < 5 by omega)]
        exact ⟨G, X', rfl, hG, hR', fun k hk => f k (by omega)⟩
    · rw [if_neg q]
      refine ⟨G, X, ?_, hG, hR, fun _ _ => rfl⟩
      by_cases a1 : a < -1
      · rw [if_pos a1]
      · rw [if_neg a1, if_neg (by omega)]
  · dsimp only
    obtain ⟨r1, r2, r3, r4, r5, r6, r7, r8, r9, r10, r11⟩ := id hR
    have hO := hV.2.1
    have hn := pOk_n hO
    obtain ⟨K, hK⟩ : ∃ K : Nat, (K : Int) = pK (aPl A) := ⟨(pK (aPl A)).toNat, by omega⟩
    have eK : (pK (aPl A)).toNat = K := by omega
    have main : a = -1 ∨ (0 ≤ a ∧ a < pK (aPl A)) → ∃ X', jN (d + 59) 272 19 [(22, 149), (0, a), (0, 1), (0, 0), (2, -1), (2, -1)] [] (G, X) = some (stV K a (stB (aPl A)), (G, X')) ∧ ∀ a, a ≠ 200 → X' a = X a := by
      intro q
      have t := t_st_19 (d + 58) a hG r3 hO hK K 0 (by omega)
      obtain ⟨X', e, f⟩ := t_st_45 (d + 57) a ((5 : Int) ^ K) hG hO hK (by omega) (p5_le K (by omega)) (5 ^ K) X 0 (-1) r3 (by rw [Int.zero_add]; simp) (Int.le_refl 0) (Int.le_refl _)
      refine ⟨X', ?_, f⟩
      unfold stB
      rw [eK]
      exact t.trans e
    rw [e_X12_stores, eK]
    by_cases a1 : a = -1
    · rw [if_pos a1, if_pos (Or.inl a1)]
      obtain ⟨X', e, f⟩ := main (Or.inl a1)
      exact ⟨X', e, RM_same (fun k hk => by unfold sM at hk; exact f k (by omega)) (fun j _ => by rw [f 149 (by omega)]) hR, fun k hk => f k (by omega)⟩
    · rw [if_neg a1, t_isKind (d + 57) a hG r3 hO]
      simp only [Option.bind_some, Int.reduceLE, reduceIte]
      by_cases q : 0 ≤ a ∧ a < pK (aPl A)
      · rw [if_pos q, if_neg (show ¬ (1 : Int) = 0 by omega), if_pos (Or.inr q)]
        obtain ⟨X', e, f⟩ := main (Or.inr q)
        exact ⟨X', e, RM_same (fun k hk => by unfold sM at hk; exact f k (by omega)) (fun j _ => by rw [f 149 (by omega)]) hR, fun k hk => f k (by omega)⟩
      · rw [if_neg q, if_pos rfl, if_neg (show ¬ (a = -1 ∨ (0 ≤ a ∧ a < pK (aPl A))) by omega)]
        exact ⟨X, rfl, hR, fun _ _ => rfl⟩
