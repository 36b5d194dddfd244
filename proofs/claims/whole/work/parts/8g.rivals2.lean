theorem s_duel_S (d : Nat) {G : jG} {P : aP} {n : Nat} (hG : GG G) (hO : pOk P) (IH : duP P G n (d + 6)) : duP P G (n + 1) (d + 7) := by
  intro a X γ h3 hP hγ
  have hcc := pCe_le hO
  obtain ⟨hm, hr⟩ := lvl hG a (by omega)
  obtain ⟨ra, la⟩ := lvr hG a (by omega)
  obtain ⟨gγ, hgO⟩ := hγ (by omega)
  have y0 : ∀ k, k ≠ 109 + (a : Int) → fil X (109 + (a : Int)) 3 100 k = X k := fun k hk => fil_ne _ _ _ _ _ hk
  have P1 : cPlan (fil X (109 + (a : Int)) 3 100) P := cPlan_fr (fun a h1 h2 => y0 a (by omega)) hP
  have G1 := cGr_fr (X' := fil X (109 + (a : Int)) 3 100) (y0 _ (by omega)) (y0 _ (by omega)) (y0 _ (by omega)) gγ
  obtain ⟨X2, e2, rc2, f2⟩ := s_look (d + 2) hG P1 hO hm G1
  have P2 := cPlan_fr (X' := X2) (fun a h1 h2 => f2 a (by omega) (by omega) (by omega)) P1
  have G2 := cGr_fr (X' := X2) (f2 _ (by omega) (by omega) (by omega)) (f2 _ (by omega) (by omega) (by omega)) (f2 _ (by omega) (by omega) (by omega)) G1
  obtain ⟨X', e', c1, c2, c3, c4⟩ := s_duel_n d hG hO hgO IH h3 (pCe P).toNat X2 0 (false, 0, []) (2, -1) (2, -1) (Or.inl rfl) (Or.inl rfl) (by omega) (by omega) P2 G2 rc2 (fun j hj => by rw [f2 _ (by omega) (by omega) (by omega), fil_at, if_pos (by omega)]; rfl) (by dsimp only; omega) (by dsimp only; omega)
  have ed : duelS P (n + 1) γ = (ovC (dstep P n γ) (pCe P).toNat 0 (false, 0, [])).2 := rfl
  rw [ed]
  refine ⟨X', ?_, c1, fun k k0 k1 => by rw [c2 k k0 k1, f2 k (by omega) (by omega) (by omega), y0 k (by omega)], c3, c4⟩
  rw [e_X8_duel, if_pos (by omega), gr_104_2 hG, gl_105 hG, gr_104_5 hG, gl_108 hG, ra, hr, s_fill (d + 5) _ 100 3 (by omega) la (by omega) (by omega)]
  simp only [Option.bind_some, if_pos (show (a : Int) < 3 by omega), if_pos (show (a : Int) < 4 by omega), if_pos (show (0 : Int) ≤ a by omega), if_pos (show 0 ≤ 113 + 8 * (a : Int) by omega), Int.reduceLE, reduceIte]
  rw [e2]
  simp only [Option.bind_some]
  exact e'
theorem s_duel {G : jG} {P : aP} (hG : GG G) (hO : pOk P) : ∀ (n d : Nat), duP P G n (d + 7 * n + 1) := by
  intro n
  induction n with
  | zero => intro d; exact s_duel_0 d
  | succ n ih =>
    intro d
    have := s_duel_S (d + 7 * n + 1) hG hO (by have := ih (d + 6); rw [show d + 6 + 7 * n + 1 = d + 7 * n + 1 + 6 by omega] at this; exact this)
    rw [show d + 7 * n + 1 + 7 = d + 7 * (n + 1) + 1 by omega] at this
    exact this
/-- what rivals answers -/
noncomputable def rvA (a b : Int) (A : aA) : Int := if a < 0 ∨ 3 < a ∨ b < -1 ∨ a ≤ b then -1000000000000000 else if b = -1 then (duelS (aPl A) a.toNat (aGr A)).1 else (duelS (aPl A) a.toNat (aGr A)).2.getD b.toNat 100
theorem c_rivals (a b : Int) : okC 164 [(0, a), (0, b)] (rvA a b) (fun A => A) := by
  intro d G X A hG hR hV
  dsimp only
  obtain ⟨r1, r2, r3, r4, r5, r6, r7, r8, r9, r10, r11⟩ := id hR
  have hO := hV.2.1
  rw [e_X11_rivals, gr_0_7 hG]
  unfold rvA
  by_cases an : a < 0 ∨ 3 < a ∨ b < -1 ∨ a ≤ b
  · rw [if_pos an]
    refine ⟨G, X, ?_, hG, hR, fun _ _ => rfl⟩
    by_cases z1 : a < 0
    · rw [if_pos z1]
    · rw [if_neg z1]
      by_cases z2 : 3 < a
      · rw [if_pos z2]
      · rw [if_neg z2]
        by_cases z3 : b < -1
        · rw [if_pos z3]
        · rw [if_neg z3, if_neg (by omega)]
  · rw [if_neg an, if_neg (show ¬ a < 0 by omega), if_neg (show ¬ 3 < a by omega), if_neg (show ¬ b < -1 by omega), if_pos (show b < a by omega), e_X8_tellRivals]
    simp only [Int.reduceLE, reduceIte]
    have tell : ∀ X' : jX, X' 104 8 = (duelS (aPl A) a.toNat (aGr A)).1 → (∀ k : Nat, k < a.toNat → X' 109 k = (duelS (aPl A) a.toNat (aGr A)).2.getD k 100) → ∀ Z : jR, Z = (if b < 0 then some (X' 104 8, (G, X')) else if b < 3 then (if 0 ≤ b then (if b < 3 then some (X' 109 b, (G, X')) else none) else none) else some (X' 104 8, (G, X'))) → Z = some (if b = -1 then (duelS (aPl A) a.toNat (aGr A)).1 else (duelS (aPl A) a.toNat (aGr A)).2.getD b.toNat 100, (G, X')) := by
      intro X' h8 hl Z hZ
      rw [hZ]
      by_cases b0 : b < 0
      · rw [if_pos b0, if_pos (show b = -1 by omega), h8]
      · have := hl b.toNat (by omega)
        rw [show ((b.toNat : Nat) : Int) = b by omega] at this
        rw [if_neg b0, if_pos (show b < 3 by omega), if_pos (show 0 ≤ b by omega), if_pos (show b < 3 by omega), if_neg (show ¬ b = -1 by omega), this]
    by_cases hc : a = X 104 10
    · rw [if_pos hc, gr_104_5 hG, gl_108 hG, gr_108_0 hG, gl_109 hG]
      simp only [Int.reduceLE, Int.reduceLT, reduceIte]
      rcases r11.2 with h | ⟨n, n3, n10, n8, nl⟩
      · omega
      · have t := tell X (by rw [show a.toNat = n by omega]; exact n8) (by rw [show a.toNat = n by omega]; exact nl) _ rfl
        rw [t]
        exact ⟨G, X, rfl, hG, hR, fun _ _ => rfl⟩
    · have hg0 : isGr G 25 := ⟨gr_25_0 hG, gr_25_1 hG, gl_26 hG, gl_27 hG, by omega⟩
      rw [if_neg hc, gr_104_2 hG, gl_105 hG, gr_105_0 hG, gr_113_1 hG, gr_104_1 hG]
      simp only [Int.reduceLE, Int.reduceLT, reduceIte]
      obtain ⟨X1, e1, c1, f1⟩ := s_copyFrom (d + 57) (X := X) 114 25 (mi_1 hG).1 hg0 (by omega)
      have y1 : ∀ k, ¬ (114 ≤ k ∧ k ≤ 116) → X1 k = X k := fun k k1 => f1 k (by omega) (by omega) (by omega)
      obtain ⟨X2, e2, l2, f2, _, _⟩ := s_duel hG hO a.toNat (d + 57 - 7 * a.toNat) 0 X1 (aGr A) (by omega) (cPlan_fr (fun a h1 h2 => y1 a (by omega)) r3) (fun _ => ⟨c1 _ r4, hV.2.2.1⟩)
      rw [show d + 57 - 7 * a.toNat + 7 * a.toNat + 1 = d + 58 by omega, show ((0 + a.toNat : Nat) : Int) = a by omega] at e2
      have e2' : jD (d + 58) 130 [(18, 104), (0, 0), (0, a)] (G, X1) = some ((duelS (aPl A) a.toNat (aGr A)).1, (G, X2)) := e2
      rw [e1]
      simp only [Option.bind_some]
      rw [e2']
      simp only [Option.bind_some]
      rw [gr_104_5 hG, gl_108 hG, gr_108_0 hG, gl_109 hG]
      simp only [Int.reduceLE, Int.reduceLT, reduceIte]
      have h8 : jup (jup X2 104 8 (duelS (aPl A) a.toNat (aGr A)).1) 104 10 a 104 8 = (duelS (aPl A) a.toNat (aGr A)).1 := by rw [jup_row _ _ _ _ _ (by omega), jup_same]
      have hl : ∀ k : Nat, k < a.toNat → jup (jup X2 104 8 (duelS (aPl A) a.toNat (aGr A)).1) 104 10 a 109 k = (duelS (aPl A) a.toNat (aGr A)).2.getD k 100 := fun k hk => by
        have := l2 k hk
        rw [show (109 : Int) + ((0 : Nat) : Int) = 109 by omega, show ((0 : Nat) : Int) + (k : Int) = k by omega] at this
        rw [jup_rw _ _ _ _ _ (by omega), jup_rw _ _ _ _ _ (by omega)]; exact this
      have t := tell _ h8 hl _ rfl
      rw [t]
      have w : ∀ k, k ≠ 104 → ¬ (109 ≤ k ∧ k ≤ 112) → ¬ (113 ≤ k ∧ k ≤ 136) → jup (jup X2 104 8 (duelS (aPl A) a.toNat (aGr A)).1) 104 10 a k = X k := fun k k0 k1 k2 => by rw [jup_rw _ _ _ _ _ k0, jup_rw _ _ _ _ _ k0, f2 k (by omega) (by omega), y1 k (by omega)]
      have wj : ∀ j, j ≠ 8 → j ≠ 10 → jup (jup X2 104 8 (duelS (aPl A) a.toNat (aGr A)).1) 104 10 a 104 j = X 104 j := fun j j0 j1 => by rw [jup_row _ _ _ _ _ j1, jup_row _ _ _ _ _ j0, f2 104 (by omega) (by omega), y1 104 (by omega)]
      have w0 := w 0 (by omega) (by omega) (by omega)
      refine ⟨G, jup (jup X2 104 8 (duelS (aPl A) a.toNat (aGr A)).1) 104 10 a, rfl, hG, ⟨cTa_fr (w _ (by omega) (by omega) (by omega)) (w _ (by omega) (by omega) (by omega)) r1, by rw [w0]; exact r2, cPlan_fr (fun a h1 h2 => w a (by omega) (by omega) (by omega)) r3, cGr_fr (w _ (by omega) (by omega) (by omega)) (w _ (by omega) (by omega) (by omega)) (w _ (by omega) (by omega) (by omega)) r4, cHi_fr (fun a h1 h2 => w a (by omega) (by omega) (by omega)) r5, cJu_fr (by rw [w0]) (w _ (by omega) (by omega) (by omega)) r6, cBo_fr (w _ (by omega) (by omega) (by omega)) (w _ (by omega) (by omega) (by omega)) r7, by rw [w0]; exact r8, cPi_fr (w _ (by omega) (by omega) (by omega)) (w _ (by omega) (by omega) (by omega)) r9, cRf_fr (w _ (by omega) (by omega) (by omega)) r10, ⟨?_, Or.inr ⟨a.toNat, by omega, by rw [jup_same]; omega, h8, hl⟩⟩⟩, fun k hk => w k (by omega) (by omega) (by omega)⟩
      rw [wj 9 (by omega) (by omega), wj 6 (by omega) (by omega), wj 7 (by omega) (by omega), w 107 (by omega) (by omega) (by omega)]
      exact r11.1
