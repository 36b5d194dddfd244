/-! RIVALS: the class's search -/
theorem lvr {G : jG} (hG : GG G) (a : Nat) (h : a < 4) : gR G 108 a = 109 + (a : Int) ∧ gL G (109 + (a : Int)) = 3 := by
  have : a = 0 ∨ a = 1 ∨ a = 2 ∨ a = 3 := by omega
  rcases this with rfl | rfl | rfl | rfl
  · exact ⟨gr_108_0 hG, gl_109 hG⟩
  · exact ⟨gr_108_1 hG, gl_110 hG⟩
  · exact ⟨gr_108_2 hG, gl_111 hG⟩
  · exact ⟨gr_108_3 hG, gl_112 hG⟩
/-- what duel promises, n more to cut -/
def duP (P : aP) (G : jG) (n D : Nat) : Prop := ∀ (a : Nat) (X : jX) (γ : aG), a + n ≤ 3 → cPlan X P → (0 < n → cGr X (114 + 8 * (a : Int)) γ ∧ gOk P γ) → ∃ X', jD D 130 [(18, 104), (0, (a : Int)), (0, ((a + n : Nat) : Int))] (G, X) = some ((duelS P n γ).1, (G, X')) ∧ (∀ i : Nat, i < n → X' (109 + (a : Int)) (a + i) = (duelS P n γ).2.getD i 100) ∧ (∀ k, ¬ (109 + (a : Int) ≤ k ∧ k ≤ 112) → ¬ (113 + 8 * (a : Int) ≤ k ∧ k ≤ 136) → X' k = X k) ∧ -(999 * n) ≤ (duelS P n γ).1 ∧ (duelS P n γ).1 ≤ 999 * n
theorem s_duel_0 (d : Nat) {G : jG} {P : aP} : duP P G 0 (d + 1) := by
  intro a X γ h3 hP hγ
  refine ⟨X, ?_, fun i hi => absurd hi (Nat.not_lt_zero i), fun _ _ _ => rfl, by show (-(999 * ((0 : Nat) : Int)) ≤ 0); omega, by show (0 : Int) ≤ 999 * ((0 : Nat) : Int); omega⟩
  rw [e_X8_duel, if_neg (by omega)]
  rfl
noncomputable def dstep (P : aP) (n : Nat) (g : aG) : Int → (Bool × Int × List Int) → Bool × Int × List Int := fun c a => if why P (gCe g) c = 0 then (if a.1 = false ∨ a.2.1 < wth P (gCe g) c - (duelS P n (cut1 P g c)).1 then (true, wth P (gCe g) c - (duelS P n (cut1 P g c)).1, c :: (duelS P n (cut1 P g c)).2) else a) else a
theorem s_duel_n (d : Nat) {G : jG} {P : aP} {n a : Nat} {γ : aG} (hG : GG G) (hO : pOk P) (hgO : gOk P γ) (IH : duP P G n (d + 6)) (h3 : a + (n + 1) ≤ 3) : ∀ (m : Nat) (X : jX) (i : Int) (acc : Bool × Int × List Int) (u v : jV), u.1 = 2 ∨ u.1 = 0 → v.1 = 2 ∨ v.1 = 0 → i + m = pCe P → 0 ≤ i → cPlan X P → cGr X (114 + 8 * (a : Int)) γ → isRc P (gCe γ) (X (117 + 8 * (a : Int))) → (∀ i : Nat, i < n + 1 → X (109 + (a : Int)) (a + i) = acc.2.2.getD i 100) → -(999 * ((n + 1 : Nat) : Int)) ≤ acc.2.1 → acc.2.1 ≤ 999 * ((n + 1 : Nat) : Int) → ∃ X', jN (d + 6) 130 47 [(18, 104), (0, (a : Int)), (0, ((a + (n + 1) : Nat) : Int)), (13, 113 + 8 * (a : Int)), (0, acc.2.1), (0, if acc.1 = true then 1 else 0), (0, i), u, v] [] (G, X) = some ((ovC (dstep P n γ) m i acc).2.1, (G, X')) ∧ (∀ i' : Nat, i' < n + 1 → X' (109 + (a : Int)) (a + i') = (ovC (dstep P n γ) m i acc).2.2.getD i' 100) ∧ (∀ k, ¬ (109 + (a : Int) ≤ k ∧ k ≤ 112) → ¬ (113 + 8 * (a : Int) ≤ k ∧ k ≤ 136) → X' k = X k) ∧ -(999 * ((n + 1 : Nat) : Int)) ≤ (ovC (dstep P n γ) m i acc).2.1 ∧ (ovC (dstep P n γ) m i acc).2.1 ≤ 999 * ((n + 1 : Nat) : Int) := by
  have hcc := pCe_le hO
  obtain ⟨hm, hr⟩ := lvl hG a (by omega)
  obtain ⟨ra, la⟩ := lvr hG a (by omega)
  obtain ⟨rb, lb⟩ := lvr hG (a + 1) (by omega)
  intro m
  induction m with
  | zero =>
    intro X i acc u v hu hv h1 h2 hP hγ hrc hl b0 b1
    refine ⟨X, ?_, hl, fun _ _ _ => rfl, b0, b1⟩
    rw [h_X8_duel_47 _ _ _ _ _ _ _ _ _ hu _ hv, gr_104_0 hG, (cPlan_at hP).2.1]
    simp only [Int.reduceLE, reduceIte]
    rw [if_neg (by omega)]
    rfl
  | succ m ih =>
    intro X i acc u v hu hv h1 h2 hP hγ hrc hl b0 b1
    have hi : inP P i := ⟨h2, by omega⟩
    have hwl := wth_le (γ := γ) hO hi
    obtain ⟨X1, e1, f1⟩ := s_why (d + 1) i hG hP hO hgO hm hγ hrc
    rw [if_pos hi] at e1
    have P1 := cPlan_fr (X' := X1) (fun a h1 h2 => f1 a (by omega) (by omega)) hP
    have G1 := cGr_fr (X' := X1) (f1 _ (by omega) (by omega)) (f1 _ (by omega) (by omega)) (f1 _ (by omega) (by omega)) hγ
    have R1 : isRc P (gCe γ) (X1 (117 + 8 * (a : Int))) := by rw [f1 _ (by omega) (by omega)]; exact hrc
    have eo : ovC (dstep P n γ) (m + 1) i acc = ovC (dstep P n γ) m (i + 1) (dstep P n γ i acc) := rfl
    rw [h_X8_duel_47 _ _ _ _ _ _ _ _ _ hu _ hv, gr_104_0 hG, (cPlan_at hP).2.1]
    simp only [Int.reduceLE, reduceIte]
    rw [if_pos (show i < pCe P by omega), if_pos (show 0 ≤ 113 + 8 * (a : Int) by omega), e1, eo]
    simp only [Option.bind_some]
    rw [jadd_id (a := i) (by omega) (by omega)]
    by_cases hw : why P (gCe γ) i = 0
    · rw [if_pos hw, if_pos (show 0 ≤ 113 + 8 * (a : Int) by omega)]
      obtain ⟨X2, e2, f2⟩ := s_price (d + 1) i hG P1 hO hgO hi hm G1
      rw [e2]
      simp only [Option.bind_some]
      have y2 : ∀ k, k ≠ 117 + 8 * (a : Int) + 2 → k ≠ 117 + 8 * (a : Int) + 3 → X2 k = X k := fun k k1 k2 => by rw [f2 k k1 k2, f1 k k1 k2]
      obtain ⟨X4, e4, g4, f4⟩ := s_digB (d + 1) a (c := i) (X := X2) hG (cPlan_fr (fun a h1 h2 => y2 a (by omega) (by omega)) hP) hO hgO hi (by omega) (cGr_fr (y2 _ (by omega) (by omega)) (y2 _ (by omega) (by omega)) (y2 _ (by omega) (by omega)) hγ) hwl.1 hwl.2
      rw [e4]
      simp only [Option.bind_some]
      have y4 : ∀ k, (k < 119 + 8 * (a : Int) ∨ 136 < k) → X4 k = X k := fun k k1 => by rw [f4 k (by omega), y2 k (by omega) (by omega)]
      obtain ⟨X5, e5, l5, f5, d0, d1⟩ := IH (a + 1) X4 (cut1 P γ i) (by omega) (cPlan_fr (fun a h1 h2 => y4 a (by omega)) hP) (fun hn => ⟨g4 (by omega), (gOk_dig hO hgO hi (why_0 hw) hwl.1 hwl.2).1⟩)
      rw [show a + 1 + n = a + (n + 1) by omega, show ((a + 1 : Nat) : Int) = (a : Int) + 1 by omega] at e5
      rw [show ((a + 1 : Nat) : Int) = (a : Int) + 1 by omega] at l5 f5 rb lb
      rw [jadd_id (a := (a : Int)) (by omega) (by omega), e5]
      simp only [Option.bind_some]
      rw [jsub_id (by omega) (by omega)]
      have y5 : ∀ k, ¬ (109 + ((a : Int) + 1) ≤ k ∧ k ≤ 112) → (k < 119 + 8 * (a : Int) ∨ 136 < k) → X5 k = X k := fun k k0 k1 => by rw [f5 k k0 (by omega), y4 k k1]
      have kl : jD (d + 6) 131 [(18, 104), (0, (a : Int)), (0, i)] (G, X5) = some (0, (G, jup (jcpy X5 (109 + ((a : Int) + 1)) 0 (109 + (a : Int)) 0 3) (109 + (a : Int)) a i)) := by
        rw [e_X8_keepLine, gr_104_5 hG, gl_108 hG, jadd_id (by omega) (by omega), ra, rb, la, lb]
        simp only [if_pos (show (0 : Int) ≤ (a : Int) + 1 by omega), if_pos (show (a : Int) + 1 < 4 by omega), if_pos (show (0 : Int) ≤ (a : Int) by omega), if_pos (show (a : Int) < 4 by omega), if_pos (show (a : Int) < 3 by omega), if_pos (show 0 ≤ 109 + (a : Int) by omega), if_pos (show 0 ≤ 109 + ((a : Int) + 1) by omega), Int.reduceLE, Int.reduceAdd, reduceIte]
      have take : ∃ X', jN (d + 6) 130 47 [(18, 104), (0, (a : Int)), (0, ((a + (n + 1) : Nat) : Int)), (13, 113 + 8 * (a : Int)), (0, wth P (gCe γ) i - (duelS P n (cut1 P γ i)).1), (0, 1), (0, i + 1), (0, wth P (gCe γ) i), (0, wth P (gCe γ) i - (duelS P n (cut1 P γ i)).1)] [] (G, jup (jcpy X5 (109 + ((a : Int) + 1)) 0 (109 + (a : Int)) 0 3) (109 + (a : Int)) a i) = some ((ovC (dstep P n γ) m (i + 1) (true, wth P (gCe γ) i - (duelS P n (cut1 P γ i)).1, i :: (duelS P n (cut1 P γ i)).2)).2.1, (G, X')) ∧ (∀ i' : Nat, i' < n + 1 → X' (109 + (a : Int)) (a + i') = (ovC (dstep P n γ) m (i + 1) (true, wth P (gCe γ) i - (duelS P n (cut1 P γ i)).1, i :: (duelS P n (cut1 P γ i)).2)).2.2.getD i' 100) ∧ (∀ k, ¬ (109 + (a : Int) ≤ k ∧ k ≤ 112) → ¬ (113 + 8 * (a : Int) ≤ k ∧ k ≤ 136) → X' k = X k) ∧ -(999 * ((n + 1 : Nat) : Int)) ≤ (ovC (dstep P n γ) m (i + 1) (true, wth P (gCe γ) i - (duelS P n (cut1 P γ i)).1, i :: (duelS P n (cut1 P γ i)).2)).2.1 ∧ (ovC (dstep P n γ) m (i + 1) (true, wth P (gCe γ) i - (duelS P n (cut1 P γ i)).1, i :: (duelS P n (cut1 P γ i)).2)).2.1 ≤ 999 * ((n + 1 : Nat) : Int) := by
        have y6 : ∀ k, ¬ (109 + (a : Int) ≤ k ∧ k ≤ 112) → (k < 119 + 8 * (a : Int) ∨ 136 < k) → jup (jcpy X5 (109 + ((a : Int) + 1)) 0 (109 + (a : Int)) 0 3) (109 + (a : Int)) a i k = X k := fun k k0 k1 => by rw [jup_rw _ _ _ _ _ (by omega), jcpy_ne _ _ _ _ _ _ _ (by omega), y5 k (by omega) k1]
        obtain ⟨X', e', c1, c2, c3⟩ := ih _ (i + 1) (true, wth P (gCe γ) i - (duelS P n (cut1 P γ i)).1, i :: (duelS P n (cut1 P γ i)).2) (0, wth P (gCe γ) i) (0, wth P (gCe γ) i - (duelS P n (cut1 P γ i)).1) (Or.inr rfl) (Or.inr rfl) (by omega) (by omega) (cPlan_fr (fun a h1 h2 => y6 a (by omega) (by omega)) hP) (cGr_fr (y6 _ (by omega) (by omega)) (y6 _ (by omega) (by omega)) (y6 _ (by omega) (by omega)) hγ) (by rw [y6 _ (by omega) (by omega)]; exact hrc) (fun j hj => by
          cases j with
          | zero => rw [show (a : Int) + ((0 : Nat) : Int) = a by omega, jup_same]; rfl
          | succ j =>
            rw [jup_row _ _ _ _ _ (by omega), jcpy_at, if_pos (by omega), show (0 : Int) + ((a : Int) + ((j + 1 : Nat) : Int) - 0) = (a : Int) + 1 + j by omega]
            exact l5 j (by omega)) (by dsimp only; omega) (by dsimp only; omega)
        exact ⟨X', e', c1, fun k k0 k1 => by rw [c2 k k0 k1, y6 k k0 (by omega)], c3⟩
      have go : ∀ z : Bool × Int × List Int, z = (true, wth P (gCe γ) i - (duelS P n (cut1 P γ i)).1, i :: (duelS P n (cut1 P γ i)).2) → dstep P n γ i acc = z → dstep P n γ i acc = (true, wth P (gCe γ) i - (duelS P n (cut1 P γ i)).1, i :: (duelS P n (cut1 P γ i)).2) := fun z h1 h2 => by rw [h2, h1]
      by_cases hf : acc.1 = true
      · rw [if_pos hf, if_neg (show ¬ (1 : Int) = 0 by omega)]
        by_cases hb : acc.2.1 < wth P (gCe γ) i - (duelS P n (cut1 P γ i)).1
        · rw [if_pos hb, kl]
          simp only [Option.bind_some]
          rw [show dstep P n γ i acc = (true, wth P (gCe γ) i - (duelS P n (cut1 P γ i)).1, i :: (duelS P n (cut1 P γ i)).2) by unfold dstep; rw [if_pos hw, if_pos (Or.inr hb)]]
          exact take
        · rw [if_neg hb, show dstep P n γ i acc = acc by unfold dstep; rw [if_pos hw, if_neg (fun z => by rcases z with z | z; rw [hf] at z; exact absurd z (by decide); exact hb z)]]
          obtain ⟨X', e', c1, c2, c3⟩ := ih X5 (i + 1) acc (0, wth P (gCe γ) i) (0, wth P (gCe γ) i - (duelS P n (cut1 P γ i)).1) (Or.inr rfl) (Or.inr rfl) (by omega) (by omega) (cPlan_fr (fun a h1 h2 => y5 a (by omega) (by omega)) hP) (cGr_fr (y5 _ (by omega) (by omega)) (y5 _ (by omega) (by omega)) (y5 _ (by omega) (by omega)) hγ) (by rw [y5 _ (by omega) (by omega)]; exact hrc) (fun j hj => by rw [y5 _ (by omega) (by omega)]; exact hl j hj) b0 b1
          rw [if_pos hf] at e'
          exact ⟨X', e', c1, fun k k0 k1 => by rw [c2 k k0 k1, y5 k (by omega) (by omega)], c3⟩
      · have hf' : acc.1 = false := by cases h : acc.1 with
          | false => rfl
          | true => exact absurd h hf
        rw [if_neg hf, if_pos rfl, kl]
        simp only [Option.bind_some]
        rw [show dstep P n γ i acc = (true, wth P (gCe γ) i - (duelS P n (cut1 P γ i)).1, i :: (duelS P n (cut1 P γ i)).2) by unfold dstep; rw [if_pos hw, if_pos (Or.inl hf')]]
        exact take
    · rw [if_neg hw, show dstep P n γ i acc = acc by unfold dstep; rw [if_neg hw]]
      obtain ⟨X', e', c1, c2, c3⟩ := ih X1 (i + 1) acc u v hu hv (by omega) (by omega) P1 G1 R1 (fun j hj => by rw [f1 _ (by omega) (by omega)]; exact hl j hj) b0 b1
      exact ⟨X', e', c1, fun k k0 k1 => by rw [c2 k k0 k1, f1 k (by omega) (by omega)], c3⟩
