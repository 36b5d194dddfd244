theorem keepS_len {p : List Int} {w : Int} {acc : Int × Int × List Int} (h : acc.1 = acc.2.2.length) : (keepS p w acc).1 = (keepS p w acc).2.2.length := by
  unfold keepS
  split
  · rfl
  · exact h
theorem tryS_len {P : aP} : ∀ (n : Nat) (g : aG) (p : List Int) (w : Int) (acc : Int × Int × List Int), acc.1 = acc.2.2.length → (tryS P n g p w acc).1 = (tryS P n g p w acc).2.2.length
  | 0, g, p, w, acc, h => keepS_len h
  | n + 1, g, p, w, acc, h => by
    have key : ∀ (m : Nat) (i : Int) (acc : Int × Int × List Int), acc.1 = acc.2.2.length → (ovC (fun c a => if why P (gCe g) c = 0 ∧ ¬ pHo P < spn P (gCe g) c then tryS P n (cut1 P g c) (p ++ [c]) (w + wth P (gCe g) c) a else a) m i acc).1 = (ovC (fun c a => if why P (gCe g) c = 0 ∧ ¬ pHo P < spn P (gCe g) c then tryS P n (cut1 P g c) (p ++ [c]) (w + wth P (gCe g) c) a else a) m i acc).2.2.length := by
      intro m
      induction m with
      | zero => intro i acc h; exact h
      | succ m ih =>
        intro i acc h
        refine ih (i + 1) _ ?_
        dsimp only
        split
        · exact tryS_len n _ _ _ _ h
        · exact h
    exact key (pCe P).toNat 0 (keepS p w acc) (keepS_len h)
/-- what best answers -/
noncomputable def bsA (a b : Int) (A : aA) : Int := if a < 1 ∨ 3 < a then -1 else if (bestS (aPl A) a.toNat (aGr A)).1 = 0 then -1 else if b = -1 then (bestS (aPl A) a.toNat (aGr A)).2.1 else if b = 20 then (bestS (aPl A) a.toNat (aGr A)).1 else if 0 ≤ b ∧ b < (bestS (aPl A) a.toNat (aGr A)).1 ∧ b < 3 then (bestS (aPl A) a.toNat (aGr A)).2.2.getD b.toNat 0 else -1
theorem c_best (a b : Int) : okC 163 [(0, a), (0, b)] (bsA a b) (fun A => A) := by
  intro d G X A hG hR hV
  dsimp only
  obtain ⟨r1, r2, r3, r4, r5, r6, r7, r8, r9, r10, r11⟩ := id hR
  have hO := hV.2.1
  rw [e_X11_best, gr_0_7 hG]
  unfold bsA
  by_cases an : a < 1 ∨ 3 < a
  · rw [if_pos an]
    refine ⟨G, X, ?_, hG, hR, fun _ _ => rfl⟩
    by_cases z : a < 1
    · rw [if_pos z]
    · rw [if_neg z, if_pos (by omega)]
  · rw [if_neg an, if_neg (show ¬ a < 1 by omega), if_neg (show ¬ 3 < a by omega), e_X8_tellBest]
    simp only [Int.reduceLE, reduceIte]
    -- the answer, out of what is kept
    have tell : ∀ X' : jX, bRel X' (bestS (aPl A) a.toNat (aGr A)) → ∀ Z : jR, Z = (if X' 104 6 = 0 then some (-1, (G, X')) else if b = -1 then some (X' 104 7, (G, X')) else if b = 20 then some (X' 104 6, (G, X')) else if b < 0 then some (-1, (G, X')) else if b < X' 104 6 then (if b < 3 then (if 0 ≤ b then (if b < 3 then some (X' 107 b, (G, X')) else none) else none) else some (-1, (G, X'))) else some (-1, (G, X'))) → Z = some (if (bestS (aPl A) a.toNat (aGr A)).1 = 0 then -1 else if b = -1 then (bestS (aPl A) a.toNat (aGr A)).2.1 else if b = 20 then (bestS (aPl A) a.toNat (aGr A)).1 else if 0 ≤ b ∧ b < (bestS (aPl A) a.toNat (aGr A)).1 ∧ b < 3 then (bestS (aPl A) a.toNat (aGr A)).2.2.getD b.toNat 0 else -1, (G, X')) := by
      intro X' hb Z hZ
      rw [hZ, hb.1, hb.2.1]
      obtain ⟨_, _, hb3, hb4⟩ := hb
      generalize bestS (aPl A) a.toNat (aGr A) = q at hb3 hb4 ⊢
      by_cases q0 : q.1 = 0
      · rw [if_pos q0, if_pos q0]
      · rw [if_neg q0, if_neg q0]
        by_cases b1 : b = -1
        · rw [if_pos b1, if_pos b1]
        · rw [if_neg b1, if_neg b1]
          by_cases b2 : b = 20
          · rw [if_pos b2, if_pos b2]
          · rw [if_neg b2, if_neg b2]
            by_cases b3 : b < 0
            · rw [if_pos b3, if_neg (show ¬ (0 ≤ b ∧ b < q.1 ∧ b < 3) by omega)]
            · rw [if_neg b3]
              by_cases b4 : b < q.1
              · rw [if_pos b4]
                by_cases b5 : b < 3
                · have := hb4 b.toNat (by omega)
                  rw [show ((b.toNat : Nat) : Int) = b by omega] at this
                  rw [if_pos b5, if_pos (show 0 ≤ b by omega), if_pos b5, if_pos (show 0 ≤ b ∧ b < q.1 ∧ b < 3 by omega), this]
                · rw [if_neg b5, if_neg (show ¬ (0 ≤ b ∧ b < q.1 ∧ b < 3) by omega)]
              · rw [if_neg b4, if_neg (show ¬ (0 ≤ b ∧ b < q.1 ∧ b < 3) by omega)]
    have hbl : (bestS (aPl A) a.toNat (aGr A)).1 = (bestS (aPl A) a.toNat (aGr A)).2.2.length := tryS_len _ _ _ _ _ rfl
    by_cases hc : a = X 104 9
    · rw [if_pos hc, gr_104_4 hG, gl_107 hG]
      simp only [Int.reduceLE, reduceIte]
      have hb : bRel X (bestS (aPl A) a.toNat (aGr A)) := by
        rcases r11.1 with h | ⟨n, n1, n3, n9, n6, n7, nl⟩
        · omega
        · rw [show a.toNat = n by omega]
          rw [show a.toNat = n by omega] at hbl
          exact ⟨n6, n7, hbl, nl⟩
      have t := tell X hb _ rfl
      rw [t]
      exact ⟨G, X, rfl, hG, hR, fun _ _ => rfl⟩
    · have hg0 : isGr G 25 := ⟨gr_25_0 hG, gr_25_1 hG, gl_26 hG, gl_27 hG, by omega⟩
      rw [if_neg hc, gr_104_2 hG, gl_105 hG, gr_105_0 hG, gr_113_1 hG, gr_104_1 hG]
      simp only [Int.reduceLE, Int.reduceLT, reduceIte]
      obtain ⟨X1, e1, c1, f1⟩ := s_copyFrom (d + 57) (X := jup (jup X 104 6 0) 104 7 0) 114 25 (mi_1 hG).1 hg0 (by omega)
      have y0 : ∀ k, k ≠ 104 → jup (jup X 104 6 0) 104 7 0 k = X k := fun k hk => by rw [jup_rw _ _ _ _ _ hk, jup_rw _ _ _ _ _ hk]
      have y1 : ∀ k, k ≠ 104 → ¬ (114 ≤ k ∧ k ≤ 116) → X1 k = X k := fun k k0 k1 => by rw [f1 k (by omega) (by omega) (by omega), y0 k k0]
      have z1 : X1 104 = jup (jup X 104 6 0) 104 7 0 104 := f1 104 (by omega) (by omega) (by omega)
      obtain ⟨X2, e2, b2, _, f2, s2⟩ := s_try hG hO a.toNat (d + 56 - 7 * a.toNat) 0 X1 (aGr A) [] 0 (0, 0, []) (by omega) rfl (by omega) (by omega) (cPlan_fr (fun a h1 h2 => y1 a (by omega) (by omega)) r3) (fun _ => ⟨c1 _ (cGr_fr (y0 _ (by omega)) (y0 _ (by omega)) (y0 _ (by omega)) r4), hV.2.2.1⟩) ⟨by rw [z1, jup_row _ _ _ _ _ (by omega), jup_same], by rw [z1, jup_same], rfl, fun i hi => absurd hi (Nat.not_lt_zero i)⟩ (fun i hi => absurd hi (Nat.not_lt_zero i))
      rw [show d + 56 - 7 * a.toNat + 7 * a.toNat + 2 = d + 58 by omega, show ((0 + a.toNat : Nat) : Int) = a by omega] at e2
      have e2' : jD (d + 58) 126 [(18, 104), (0, 0), (0, a), (0, 0)] (G, X1) = some (0, (G, X2)) := e2
      rw [e1]
      simp only [Option.bind_some]
      rw [e2']
      simp only [Option.bind_some]
      rw [gr_104_4 hG, gl_107 hG]
      simp only [Int.reduceLE, reduceIte]
      have b3 : bRel (jup X2 104 9 a) (bestS (aPl A) a.toNat (aGr A)) := by
        obtain ⟨h1, h2, h3, h4⟩ := b2
        exact ⟨by rw [jup_row _ _ _ _ _ (by omega)]; exact h1, by rw [jup_row _ _ _ _ _ (by omega)]; exact h2, h3, fun i hi => by rw [jup_rw _ _ _ _ _ (by omega)]; exact h4 i hi⟩
      have t := tell _ b3 _ rfl
      rw [t]
      have w : ∀ k, k ≠ 104 → k ≠ 106 → k ≠ 107 → ¬ (113 ≤ k ∧ k ≤ 136) → jup X2 104 9 a k = X k := fun k k0 k1 k2 k3 => by rw [jup_rw _ _ _ _ _ k0, f2 k k0 k1 k2 (by omega), y1 k k0 (by omega)]
      have wj : ∀ j, j ≠ 6 → j ≠ 7 → j ≠ 9 → jup X2 104 9 a 104 j = X 104 j := fun j j0 j1 j2 => by rw [jup_row _ _ _ _ _ j2, s2 j j0 j1, z1, jup_row _ _ _ _ _ j1, jup_row _ _ _ _ _ j0]
      have w0 := w 0 (by omega) (by omega) (by omega) (by omega)
      have bc := b3
      obtain ⟨h1, h2, h3, h4⟩ := bc
      refine ⟨G, jup X2 104 9 a, rfl, hG, ⟨cTa_fr (w _ (by omega) (by omega) (by omega) (by omega)) (w _ (by omega) (by omega) (by omega) (by omega)) r1, by rw [w0]; exact r2, cPlan_fr (fun a h1 h2 => w a (by omega) (by omega) (by omega) (by omega)) r3, cGr_fr (w _ (by omega) (by omega) (by omega) (by omega)) (w _ (by omega) (by omega) (by omega) (by omega)) (w _ (by omega) (by omega) (by omega) (by omega)) r4, cHi_fr (fun a h1 h2 => w a (by omega) (by omega) (by omega) (by omega)) r5, cJu_fr (by rw [w0]) (w _ (by omega) (by omega) (by omega) (by omega)) r6, cBo_fr (w _ (by omega) (by omega) (by omega) (by omega)) (w _ (by omega) (by omega) (by omega) (by omega)) r7, by rw [w0]; exact r8, cPi_fr (w _ (by omega) (by omega) (by omega) (by omega)) (w _ (by omega) (by omega) (by omega) (by omega)) r9, cRf_fr (w _ (by omega) (by omega) (by omega) (by omega)) r10, ⟨Or.inr ⟨a.toNat, by omega, by omega, by rw [jup_same]; omega, h1, h2, h4⟩, ?_⟩⟩, fun k hk => w k (by omega) (by omega) (by omega) (by omega)⟩
      rw [wj 10 (by omega) (by omega) (by omega), wj 8 (by omega) (by omega) (by omega), w 109 (by omega) (by omega) (by omega) (by omega)]
      exact r11.2
