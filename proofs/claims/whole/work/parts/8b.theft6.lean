theorem sol_few {R S : Int → Int} {K : Nat} {i a : Int} (hR : ∀ k, 1 ≤ R k ∧ R k ≤ 99) (hS : ∀ k, 0 ≤ S k ∧ S k ≤ 68) (i0 : 0 ≤ i) (i1 : i < K) : (∀ x, inS S x K 0 → sx R x K 0 = a → 0 ≤ few (eS R S i K) (R i) a (S i + 1).toNat 0 ∧ few (eS R S i K) (R i) a (S i + 1).toNat 0 ≤ x i) ∧ (0 ≤ few (eS R S i K) (R i) a (S i + 1).toNat 0 → ∃ x, inS S x K 0 ∧ sx R x K 0 = a ∧ x i = few (eS R S i K) (R i) a (S i + 1).toNat 0) := by
  have hsi := hS i
  have fo := few_ok (T := eS R S i K) (a := a) (hR i).1 (S i + 1).toNat 0 (Int.le_refl 0)
  have hT : ∀ x, inS S x K 0 → sx R x K 0 = a → x i * R i ≤ a ∧ 0 < eS R S i K (a - x i * R i) := fun x hx hs => by
    have h1 := px_all (R := R) (x := x) i0 K
    rw [if_pos i1, ← sx_px, hs, Int.mul_comm (R i)] at h1
    have h2 : 0 < eS R S i K (a - x i * R i) := (eS_gt (fun j _ => (hS j).1) K _).mpr ⟨x, fun j j0 j1 _ => hx j j0 (by omega), by omega⟩
    refine ⟨?_, h2⟩
    rcases Int.lt_or_le (a - x i * R i) 0 with q | q
    · rw [eS_neg (fun k => by have := hR k; omega) K _ q] at h2; omega
    · omega
  refine ⟨fun x hx hs => ?_, fun h => ?_⟩
  · have ht := hT x hx hs
    have hxi := hx i i0 (by omega)
    rcases fo with ⟨h1, h2, h3, h4, h5⟩ | ⟨h1, h2⟩
    · refine ⟨h1, ?_⟩
      rcases Int.lt_or_le (x i) (few (eS R S i K) (R i) a (S i + 1).toNat 0) with q | q
      · exact absurd ht (h5 (x i) hxi.1 q)
      · exact q
    · exact absurd ht (h2 (x i) hxi.1 (by omega))
  · rcases fo with ⟨h1, h2, h3, h4, h5⟩ | ⟨h1, h2⟩
    · obtain ⟨x, x1, x2⟩ := (eS_gt (fun j _ => (hS j).1) K _).mp h4
      generalize few (eS R S i K) (R i) a (S i + 1).toNat 0 = w at h1 h2 h3 h4 h5 x2 ⊢
      refine ⟨fun j => if j = i then w else x j, fun j j0 j1 => ?_, ?_, by dsimp only; rw [if_pos rfl]⟩
      · dsimp only
        by_cases z : j = i
        · rw [if_pos z, z]; omega
        · rw [if_neg z]; exact x1 j j0 (by omega) z
      · rw [sx_px, px_all i0 K, if_pos i1, px_cong (x := x) K (fun j j0 j1 j2 => by rw [if_neg j2]), x2]
        show a - w * R i + R i * (if i = i then w else x i) = a
        rw [if_pos rfl, Int.mul_comm (R i)]; omega
    · omega
theorem s_count (d : Nat) {G : jG} {X : jX} {P : aP} {γ : aG} {K : Nat} (a : Int) (hG : GG G) (hP : cPlan X P) (hO : pOk P) (hg : gOk P γ) (hγ : cGr X 25 γ) (hK : (K : Int) = pK P) (a0 : 0 ≤ a) (a1 : a ≤ 2147483647) : ∃ X', jD (d + 10) 138 [(19, 140), (0, a)] (G, X) = some (dT (tR P) (tS γ) dlt K 0 a, (G, X')) ∧ X' 140 6 = dT (tR P) (tS γ) dlt K 0 a ∧ finv K (fun x => inS (tS γ) x K 0 ∧ sx (tR P) x K 0 = a) X' ∧ ∀ k, ¬ (140 ≤ k ∧ k ≤ 144) → X' k = X k := by
  have hn := pOk_n hO
  have hSS : ∀ k, 0 ≤ tS γ k ∧ tS γ k ≤ 68 := fun k => tS_le hg k
  have y0 : ∀ k, k ≠ 140 → jup X 140 6 0 k = X k := fun k hk => jup_rw _ _ _ _ _ hk
  have hP0 : cPlan (jup X 140 6 0) P := cPlan_fr (fun a h1 h2 => y0 a (by omega)) hP
  have y1 : ∀ k, k ≠ 140 → k ≠ 144 → jup (jup X 140 6 0) 144 K 0 k = X k := fun k h1 h2 => by rw [jup_rw _ _ _ _ _ h2, y0 k h1]
  have hP1 : cPlan (jup (jup X 140 6 0) 144 K 0) P := cPlan_fr (fun a h1 h2 => y1 a (by omega) (by omega)) hP
  have hγ1 : cGr (jup (jup X 140 6 0) 144 K 0) 25 γ := cGr_fr (y1 _ (by omega) (by omega)) (y1 _ (by omega) (by omega)) (y1 _ (by omega) (by omega)) hγ
  obtain ⟨X2, e2, c2, f2⟩ := s_cap_n (d + 9) a hG hO hg hK K (jup (jup X 140 6 0) 144 K 0) (Nat.le_refl K) hP1 hγ1 (fun j j0 j1 => by rw [show j = K by omega, jup_same, Nat.sub_self]; rfl)
  have hub := dT_ub (R := tR P) hSS K 0 a (by omega)
  have hp := p69_le K (by omega)
  have h6 : X2 140 6 = 0 := by rw [f2 140 (by omega), jup_rw _ _ _ _ _ (by omega), jup_same]
  obtain ⟨X3, e3, g1, g2, g3, g4⟩ := s_take (γ := γ) hG hO hg hK K (d + 5 - K) 0 X2 (fun _ => False) (fun _ => 0) 0 a (by omega) (cPlan_fr (fun a h1 h2 => f2 a (by omega)) hP1) (cGr_fr (f2 _ (by omega)) (f2 _ (by omega)) (f2 _ (by omega)) hγ1) (fun j _ j1 => c2 j j1) h6 (Int.le_refl 0) (by show 0 + dT (tR P) (tS γ) dlt K 0 a ≤ _; omega) a0 a1 ⟨fun _ _ h => h, fun h => by omega⟩ (fun j j0 j1 => by omega)
  rw [show d + 5 - K + K + 4 = d + 9 by omega] at e3
  have g1' : X3 140 6 = dT (tR P) (tS γ) dlt K 0 a := by rw [g1, Int.zero_add]; rfl
  refine ⟨X3, ?_, g1', ?_, fun k hk => by rw [g3 k (by omega) (by omega) (by omega), f2 k (by omega), y1 k (by omega) (by omega)]⟩
  · rw [e_X9_countSets, s_kindsX (d + 7) hG hP0 hO]
    simp only [Option.bind_some, Int.reduceLE, reduceIte]
    rw [gr_140_5 hG, gl_144 hG, ← hK, s_kindsX (d + 7) hG hP1 hO]
    simp only [Option.bind_some, Int.reduceLE, reduceIte]
    rw [if_pos (show (0 : Int) ≤ K by omega), if_pos (show (K : Int) < 6 by omega), jsub_id (by omega) (by omega), ← hK, e2, h_X9_countSets_22, if_pos (by omega)]
    have e3' : jD (d + 9) 140 [(19, 140), (0, 0), (0, a)] (G, X2) = some (0, (G, X3)) := e3
    rw [e3']
    simp only [Option.bind_some, Int.reduceLE, reduceIte]
    rw [g1']
  · have : (fun x => False ∨ nwS (tR P) (tS γ) (fun _ => 0) 0 K a x) = fun x => inS (tS γ) x K 0 ∧ sx (tR P) x K 0 = a := by
      funext x
      refine propext ⟨fun h => ?_, fun h => Or.inr ⟨fun j j0 j1 => by omega, h.1, h.2⟩⟩
      rcases h with h | h
      · exact absurd h id
      · exact ⟨h.2.1, h.2.2⟩
    rw [this] at g2
    exact g2
noncomputable def thN (A : aA) (a : Int) : Int := eS (tR (aPl A)) (tS (aGr A)) (-1) (pK (aPl A)).toNat a
noncomputable def thF (A : aA) (i a : Int) : Int := few (eS (tR (aPl A)) (tS (aGr A)) i (pK (aPl A)).toNat) (tR (aPl A) i) a (tS (aGr A) i + 1).toNat 0
theorem call_theft (a b : Int) (ha : j32 a) (hb : j32 b) : okB 175 294 [(0, a), (0, b)] := by
  unfold j32 at ha hb
  refine ⟨fun A => if a < 0 then -1 else if b = 0 then thN A a else if 10 ≤ b ∧ b < 10 + pK (aPl A) ∧ 0 < thN A a then thF A (b - 10) a else -1, fun A => A, fun d G X A hG hR hV => ?_, fun d G X A hG hR hV => ?_, fun A hV => hV⟩
  · dsimp only
    obtain ⟨r1, r2, r3, r4, r5, r6, r7, r8, r9, r10, r11⟩ := id hR
    have hO := hV.2.1
    have hg := hV.2.2.1
    have hn := pOk_n hO
    obtain ⟨K, hK⟩ : ∃ K : Nat, (K : Int) = pK (aPl A) := ⟨(pK (aPl A)).toNat, by omega⟩
    have eK : (pK (aPl A)).toNat = K := by omega
    have hRR : ∀ k, 1 ≤ tR (aPl A) k ∧ tR (aPl A) k ≤ 99 := fun k => tR_le hO k
    have hSS : ∀ k, 0 ≤ tS (aGr A) k ∧ tS (aGr A) k ≤ 68 := fun k => tS_le hg k
    rw [e_X11_theft, gr_0_9 hG, gr_0_2 hG, (cPlan_at r3).2.2.2.2.2.1, jadd_id (by omega) (by omega)]
    by_cases an : a < 0
    · rw [if_pos an, if_pos an]; exact ⟨G, X, rfl, hG, hR, fun _ _ => rfl⟩
    · obtain ⟨X', e, g1, g2, f⟩ := s_count (d + 49) a hG r3 hO hg r4 hK (by omega) (by omega)
      have eN : dT (tR (aPl A)) (tS (aGr A)) dlt K 0 a = thN A a := by unfold thN; rw [eK, dT_eS]
      rw [eN] at e g1
      have hR' : RC A X' := RC_same (fun k hk => by unfold sR at hk; exact f k (by omega)) hR
      rw [if_neg an, if_neg an]
      simp only [Int.reduceLE, reduceIte]
      by_cases b0 : b = 0
      · rw [if_pos b0, if_pos b0, e]
        exact ⟨G, X', rfl, hG, hR', fun k hk => f k (by omega)⟩
      · rw [if_neg b0, if_neg b0]
        by_cases b1 : 10 ≤ b ∧ b < 10 + pK (aPl A)
        · rw [if_neg (show ¬ b < 10 by omega), if_pos b1.2, e]
          simp only [Option.bind_some]
          have hnn : 0 ≤ thN A a := eS_nn _ _ _ _ _
          by_cases z : thN A a = 0
          · rw [if_pos z, if_neg (show ¬ (10 ≤ b ∧ b < 10 + pK (aPl A) ∧ 0 < thN A a) from fun w => by have := w.2.2; omega)]
            exact ⟨G, X', rfl, hG, hR', fun k hk => f k (by omega)⟩
          · rw [if_neg z, if_pos (show 10 ≤ b ∧ b < 10 + pK (aPl A) ∧ 0 < thN A a from ⟨b1.1, b1.2, by omega⟩), gr_0_9 hG, jsub_id (by omega) (by omega), e_X9_fewestOf, gr_140_4 hG, gl_143 hG]
            simp only [Int.reduceLE, reduceIte]
            rw [if_neg (show ¬ b - 10 < 0 by omega), if_pos (show b - 10 < 5 by omega), if_pos (show 0 ≤ b - 10 by omega), if_pos (show b - 10 < 5 by omega)]
            have sf := sol_few (K := K) (i := b - 10) (a := a) hRR hSS (by omega) (by omega)
            obtain ⟨⟨x, x1, x2⟩, x3⟩ := (g2.2 (by omega)).2 (b - 10) (by omega) (by omega)
            have l1 := sf.1 x x1.1 x1.2
            obtain ⟨x', y1, y2, y3⟩ := sf.2 l1.1
            have l2 := x3 x' ⟨y1, y2⟩
            have ev : X' 143 (b - 10) = thF A (b - 10) a := by
              unfold thF
              rw [eK]
              omega
            rw [ev]
            exact ⟨G, X', rfl, hG, hR', fun k hk => f k (by omega)⟩
        · rw [if_neg (show ¬ (10 ≤ b ∧ b < 10 + pK (aPl A) ∧ 0 < thN A a) from fun w => b1 ⟨w.1, w.2.1⟩)]
          refine ⟨G, X, ?_, hG, hR, fun _ _ => rfl⟩
          by_cases w : b < 10
          · rw [if_pos w]
          · rw [if_neg w, if_neg (by omega)]
  · dsimp only
    obtain ⟨r1, r2, r3, r4, r5, r6, r7, r8, r9, r10, r11⟩ := id hR
    have hO := hV.2.1
    have hg := hV.2.2.1
    have hn := pOk_n hO
    obtain ⟨K, hK⟩ : ∃ K : Nat, (K : Int) = pK (aPl A) := ⟨(pK (aPl A)).toNat, by omega⟩
    have eK : (pK (aPl A)).toNat = K := by omega
    have hRR : ∀ k, 1 ≤ tR (aPl A) k ∧ tR (aPl A) k ≤ 99 := fun k => tR_le hO k
    have hSS : ∀ k, 0 ≤ tS (aGr A) k ∧ tS (aGr A) k ≤ 68 := fun k => tS_le hg k
    have hbig : 100000 < a → thN A a = 0 := fun h => by
      have h1 := dT_z hRR (fun k => (hSS k).1) K 0 a (by have := cp_le hRR hSS K 0; omega)
      unfold thN
      rw [eK, ← dT_eS]; exact h1
    have hub : 0 ≤ thN A a ∧ thN A a ≤ 1564031349 := by
      unfold thN
      rw [eK]
      have h1 := eS_ub (R := tR (aPl A)) (S := tS (aGr A)) (i := -1) K a (by omega) (fun j _ _ => hSS j)
      have h2 := p69_le K (by omega)
      exact ⟨eS_nn _ _ _ _ _, by omega⟩
    have same : ∀ X', (∀ k, k ≠ 203 → k ≠ 149 → X' k = X k) → (∀ j, j ≠ 84 → X' 149 j = X 149 j) → RM A X' := fun X' f1 f2 => RM_same (fun k hk => by unfold sM at hk; exact f1 k (by omega) (by omega)) (fun j hj => by unfold sN at hj; exact f2 j (by omega)) hR
    rw [e_X12_theft, t_kindMany (d + 58) hG r3]
    simp only [Option.bind_some, Int.reduceLE, reduceIte]
    rw [jadd_id (by omega) (by omega), t_isIn (d + 58)]
    simp only [Option.bind_some]
    by_cases an : a < 0
    · rw [if_pos an, if_pos an]; exact ⟨X, rfl, hR, fun _ _ => rfl⟩
    · rw [if_neg an, if_neg an]
      by_cases b0 : b = 0
      · simp only [if_pos b0]
        by_cases big : 100000 < a
        · rw [if_pos big, hbig big]; exact ⟨X, rfl, hR, fun _ _ => rfl⟩
        · obtain ⟨X', e, c, f1, f2⟩ := t_lw (d + 57) (γ := aGr A) a (-1) hG r3 hO hg r4 hK (by omega) (by omega)
          rw [if_neg big, if_neg (show ¬ (10 ≤ b ∧ b ≤ 9 + pK (aPl A)) by omega), if_pos rfl, e]
          simp only [Option.bind_some]
          have ev : X' 203 a = thN A a := by rw [c a (by omega) (Int.le_refl a)]; unfold thN; rw [eK]
          rw [gr_149_83 hG, gl_203 hG, ev, w32_i (by omega) (by omega)]
          simp only [Int.reduceLE, reduceIte]
          rw [if_pos (by omega), if_pos (by omega)]
          exact ⟨X', rfl, same X' f1 f2, fun k hk => f1 k (by omega) (by omega)⟩
      · simp only [if_neg b0]
        by_cases b1 : 10 ≤ b ∧ b ≤ 9 + pK (aPl A)
        · rw [if_pos b1]
          simp only [if_neg (show ¬ (1 : Int) = 0 by omega)]
          by_cases big : 100000 < a
          · rw [if_pos big, if_neg (show ¬ (10 ≤ b ∧ b < 10 + pK (aPl A) ∧ 0 < thN A a) from fun w => by have := w.2.2; have := hbig big; omega)]
            exact ⟨X, rfl, hR, fun _ _ => rfl⟩
          · have i0 : 0 ≤ b - 10 := by omega
            have i1 : b - 10 < pK (aPl A) := by omega
            obtain ⟨X', e, c, f1, f2⟩ := t_lw (d + 56) (γ := aGr A) a (b - 10) hG r3 hO hg r4 hK (by omega) (by omega)
            have hP' : mPlan X' (aPl A) := mPlan_fr (fun a h1 h2 => f1 a (by omega) (by omega)) (f2 51 (by omega)) r3
            have hγ' : mGr X' 190 0 (aGr A) := mGr_fr (f1 190 (by omega) (by omega)) r4
            have hsb := hSS (b - 10)
            have t := t_fw_n (d + 57) (T := eS (tR (aPl A)) (tS (aGr A)) (b - 10) K) (b - 10) a hG hP' hO hg hγ' i0 i1 (by omega) (by omega) c (tS (aGr A) (b - 10) + 1).toNat 0 (by omega) (Int.le_refl 0)
            rw [if_neg big, jsub_id (by omega) (by omega), e_X12_fewestOf, e]
            simp only [Option.bind_some, Int.reduceLE, reduceIte]
            rw [t]
            have sf := sol_few (K := K) (i := b - 10) (a := a) hRR hSS i0 (by omega)
            have eF : thF A (b - 10) a = few (eS (tR (aPl A)) (tS (aGr A)) (b - 10) K) (tR (aPl A) (b - 10)) a (tS (aGr A) (b - 10) + 1).toNat 0 := by unfold thF; rw [eK]
            have fo := few_ok (T := eS (tR (aPl A)) (tS (aGr A)) (b - 10) K) (a := a) (hRR (b - 10)).1 (tS (aGr A) (b - 10) + 1).toNat 0 (Int.le_refl 0)
            rw [← eF] at sf fo ⊢
            refine ⟨X', ?_, same X' f1 f2, fun k hk => f1 k (by omega) (by omega)⟩
            by_cases z : 0 < thN A a
            · rw [if_pos (show 10 ≤ b ∧ b < 10 + pK (aPl A) ∧ 0 < thN A a from ⟨b1.1, by omega, z⟩)]
              rfl
            · rw [if_neg (show ¬ (10 ≤ b ∧ b < 10 + pK (aPl A) ∧ 0 < thN A a) from fun w => z w.2.2)]
              rcases fo with ⟨h1, _⟩ | ⟨h1, _⟩
              · obtain ⟨x', y1, y2, _⟩ := sf.2 h1
                have : 0 < dT (tR (aPl A)) (tS (aGr A)) dlt K 0 a := (dT_gt (fun k => (hSS k).1) K 0 a).mpr ⟨x', y1, y2⟩
                rw [dT_eS] at this
                exact absurd (show 0 < thN A a by unfold thN; rw [eK]; exact this) z
              · rw [h1]; rfl
        · rw [if_neg b1, if_pos rfl, if_neg (show ¬ (10 ≤ b ∧ b < 10 + pK (aPl A) ∧ 0 < thN A a) by omega)]
          exact ⟨X, rfl, hR, fun _ _ => rfl⟩
