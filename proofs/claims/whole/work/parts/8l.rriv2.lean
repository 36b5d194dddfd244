/-- what the run does at the level l, k + 1 turns being left -/
def rvP (P : aP) (G : jG) (D N : Nat) (who : Int) (k : Nat) : Prop := ∀ (l : Nat) (γ : aG), l + k + 1 = N → gOk P γ → ∀ (m : Nat) (X : jX) (i : Int) (acc : Bool × Int × List Int) (u4 u5 : jV), u4.1 = 2 ∨ u4.1 = 0 → u5.1 = 2 ∨ u5.1 = 0 → m = (pCe P - i).toNat → 0 ≤ i → i ≤ 48 → mPlan X P → mGr X 191 (56 * (l : Int)) γ → X 193 l = cset P (gCe γ) → X 194 l = i - 1 → X 198 l = sg (l + who) * acc.2.1 → X 199 l = acc.2.2.headD (-1) → dI P k γ acc → ∃ (X' : jX) (u4' u5' : jV), (u4'.1 = 2 ∨ u4'.1 = 0) ∧ (u5'.1 = 2 ∨ u5'.1 = 0) ∧ jN D 268 8 [(22, 149), (0, (N : Int)), (0, who), (0, (l : Int)), u4, u5] [] (G, X) = jN D 268 8 [(22, 149), (0, (N : Int)), (0, who), (0, (l : Int)), u4', u5'] [] (G, X') ∧ noL X' P l ∧ X' 198 l = sg (l + who) * (ovC (dstep P k γ) m i acc).2.1 ∧ X' 199 l = (ovC (dstep P k γ) m i acc).2.2.headD (-1) ∧ (∀ j : Int, j < l → X' 193 j = X 193 j ∧ X' 194 j = X 194 j ∧ X' 195 j = X 195 j ∧ X' 198 j = X 198 j ∧ X' 199 j = X 199 j) ∧ (∀ v δ, v < (l : Int) + 1 ∨ 4 ≤ v → mGr X 191 (56 * v) δ → mGr X' 191 (56 * v) δ) ∧ mfT X X'
theorem t_riv_S (d : Nat) {G : jG} {P : aP} {N k : Nat} {who : Int} (hG : GG G) (hO : pOk P) (hN : N ≤ 3) (w0 : 0 ≤ who) (w1 : who ≤ 1) (IH : ∀ j, k = j + 1 → rvP P G (d + 10) N who j) : rvP P G (d + 10) N who k := by
  intro l γ hl hgO m
  have hcc := pCe_le hO
  induction m using Nat.strongRecOn with
  | _ m ih =>
    intro X i acc u4 u5 hu4 hu5 hm i0 i1 hP hγ h193 h194 h198 h199 hI
    by_cases hex : ∃ c, i ≤ c ∧ c < pCe P ∧ why P (gCe γ) c = 0
    · obtain ⟨c, c0, c1, c2, c3, eN⟩ := t_nextTried (d + 9) hG (l : Int) (by omega) (by omega) (ct0 P (gCe γ)) (pCe P).toNat (by omega) h193 i i0 i1 h194
      have skip : ∀ j, i ≤ j → j < c → j < pCe P → ∀ b, dstep P k γ j b = b := fun j h0 h1 h2 b => by
        have := c2 j h0 h1 (by omega)
        unfold dstep
        rw [if_neg (fun z => this (by unfold ct0; rw [if_pos z]))]
      have hc : c < 48 := by
        obtain ⟨z, z0, z1, z2⟩ := hex
        by_cases q : c < 48
        · exact q
        · exact absurd (by unfold ct0; rw [if_pos z2]) (c2 z z0 (by omega) (by omega))
      obtain ⟨c4, c5⟩ := c3 hc
      have hi : inP P c := ⟨by omega, by omega⟩
      have hw : why P (gCe γ) c = 0 := by
        unfold ct0 at c4
        by_cases z : why P (gCe γ) c = 0
        · exact z
        · rw [if_neg z] at c4; omega
      have hwl := wth_le (γ := γ) hO hi
      have em : m = (c - i).toNat + ((pCe P - (c + 1)).toNat + 1) := by omega
      have eo : ovC (dstep P k γ) m i acc = ovC (dstep P k γ) (pCe P - (c + 1)).toNat (c + 1) (dstep P k γ c acc) := by
        rw [em, ovC_skip _ _ _ _ _ (fun j h0 h1 => skip j h0 (by omega) (by omega)), show i + ((c - i).toNat : Int) = c by omega]
      rw [eo, h_X12_seeksRivals_8 _ _ _ _ _ u4 hu4 u5 hu5, if_neg (show ¬ (l : Int) < 0 by omega)]
      simp only [Int.reduceLE, reduceIte]
      rw [eN]
      simp only [Option.bind_some]
      obtain ⟨X2, e2, g2, f2⟩ := t_takesBack (d + 9) (X := jup X 194 l c) hG (l : Int) (by omega) (by omega) (mGr_fr (jup_rw _ _ _ _ _ (by omega)) hγ)
      have T2 : mfT X X2 := mfT_t (mfT_u 194 _ _ (by omega)) (mfT_1 190 (by omega) f2)
      have P2 := mfT_P T2 hP
      have y2 : ∀ k, k ≠ 190 → k ≠ 194 → X2 k = X k := fun k k0 k1 => by rw [f2 k k0, jup_rw _ _ _ _ _ k1]
      have z2 : ∀ j, j ≠ (l : Int) → X2 194 j = X 194 j := fun j hj => by rw [f2 194 (by omega), jup_row _ _ _ _ _ hj]
      have z2' : X2 194 l = c := by rw [f2 194 (by omega), jup_same]
      rw [if_pos hc, if_neg (show ¬ c = -1 by omega), e2]
      simp only [Option.bind_some]
      obtain ⟨X3, e3, g3, f3, _⟩ := t_isCut (d + 4) c hG P2 hO hgO hi g2 hwl.1 hwl.2
      obtain ⟨wv, hwv⟩ : ∃ wv, wv = wth P (gCe γ) c := ⟨_, rfl⟩
      rw [← hwv] at e3
      have hwb : 0 ≤ wv ∧ wv ≤ 999 := by rw [hwv]; exact hwl
      have y3 : ∀ k, k = 191 ∨ (193 ≤ k ∧ k ≤ 199) → X3 k = X2 k := fun k hk => f3.1 k (by omega) (by omega) (by omega) (by omega)
      have T3 := mfT_t T2 (mfT_C f3)
      rw [e3]
      simp only [Option.bind_some]
      have hj : jrem (jadd (l : Int) who) 2 = ((l : Int) + who) % 2 := by
        rw [jadd_id (by omega) (by omega)]
        unfold jrem
        rw [Int.tmod_eq_emod_of_nonneg (by omega)]
      obtain ⟨Z, hZ1, hZ2⟩ : ∃ z : Int, z = sg (l + who) * wv ∧ (if jrem (jadd (l : Int) who) 2 = 0 then jN (d + 10) 268 90 [(22, 149), (0, (N : Int)), (0, who), (0, (l : Int)), (0, c), (0, wv)] [(0, wv), (0, (l : Int)), (24, gR G 149 71)] (G, X3) else jN (d + 10) 268 90 [(22, 149), (0, (N : Int)), (0, who), (0, (l : Int)), (0, c), (0, wv)] [(0, w32 (-wv)), (0, (l : Int)), (24, gR G 149 71)] (G, X3)) = jN (d + 10) 268 90 [(22, 149), (0, (N : Int)), (0, who), (0, (l : Int)), (0, c), (0, wv)] [(0, z), (0, (l : Int)), (24, 195)] (G, X3) := by
        rw [hj, gr_149_71 hG]
        unfold sg
        by_cases q : ((l : Int) + who) % 2 = 0
        · exact ⟨wv, by rw [if_pos q, Int.one_mul], by rw [if_pos q]⟩
        · exact ⟨-wv, by rw [if_neg q]; omega, by rw [if_neg q, w32_i (by omega) (by omega)]⟩
      rw [hZ2, h_X12_seeksRivals_90, gl_195 hG, jadd_id (a := (l : Int)) (b := 1) (by omega) (by omega)]
      simp only [if_pos (show (0 : Int) ≤ l by omega), if_pos (show (l : Int) < 5 by omega), Int.reduceLE, reduceIte]
      have T4 : mfT X (jup X3 195 l Z) := mfT_t T3 (mfT_u 195 _ _ (by omega))
      obtain ⟨X5, e5, g5, f5, o5⟩ := t_putsAside (d + 9) (X := jup X3 195 l Z) hG ((l : Int) + 1) (by omega) (by omega) (mGr_fr (jup_rw _ _ _ _ _ (by omega)) g3)
      have T5 := mfT_t T4 (mfT_1 191 (by omega) f5)
      rw [e5]
      simp only [Option.bind_some, Int.reduceLE, reduceIte]
      obtain ⟨X6, e6, s6, t6, v6, c6, o6, f6, T6⟩ := t_opensRival (d + 1) (X := X5) hG (mfT_P T5 hP) hO ((l : Int) + 1) (N : Int) (by omega) (by omega) g5
      rw [e6]
      simp only [Option.bind_some]
      have T66 := mfT_t T5 T6
      have y5 : ∀ k, k = 193 ∨ k = 198 ∨ k = 199 → X5 k = X k := fun k hk => by rw [f5 k (by omega), jup_rw _ _ _ _ _ (by omega), y3 k (by omega), y2 k (by omega) (by omega)]
      have y5t : X5 194 = X2 194 := by rw [f5 194 (by omega), jup_rw _ _ _ _ _ (by omega), y3 194 (by omega)]
      have y6g : X6 195 = jup X3 195 l Z 195 := by rw [f6 195 (by omega), f5 195 (by omega)]
      have p6 : ∀ j, j < (l : Int) + 1 → X6 193 j = X 193 j ∧ X6 194 j = X2 194 j ∧ X6 198 j = X 198 j ∧ X6 199 j = X 199 j := fun j hj => by
        obtain ⟨q1, q2, q3, q4⟩ := o6 j (by omega)
        exact ⟨by rw [q1, y5 193 (by omega)], by rw [q2, y5t], by rw [q3, y5 198 (by omega)], by rw [q4, y5 199 (by omega)]⟩
      have a6 : ∀ v δ, v ≠ (l : Int) + 1 → mGr X 191 (56 * v) δ → mGr X6 191 (56 * v) δ := fun v δ hv hδ => mGr_fr (f6 191 (by omega)) (o5 v δ hv (mGr_fr (by rw [jup_rw _ _ _ _ _ (by omega), y3 191 (by omega), y2 191 (by omega) (by omega)]) hδ))
      have g6 : mGr X6 191 (56 * ((l : Int) + 1)) (cut1 P γ c) := mGr_fr (f6 191 (by omega)) g5
      -- the level below
      have below : ∃ (X8 : jX) (u4' u5' : jV), (u4'.1 = 2 ∨ u4'.1 = 0) ∧ (u5'.1 = 2 ∨ u5'.1 = 0) ∧ jN (d + 10) 268 8 [(22, 149), (0, (N : Int)), (0, who), (0, (l : Int) + 1), (0, c), (0, wv)] [] (G, X6) = jN (d + 10) 268 8 [(22, 149), (0, (N : Int)), (0, who), (0, (l : Int) + 1), u4', u5'] [] (G, X8) ∧ noL X8 P ((l : Int) + 1) ∧ X8 198 ((l : Int) + 1) = sg (l + 1 + who) * (duelS P k (cut1 P γ c)).1 ∧ (∀ j : Int, j < (l : Int) + 1 → X8 193 j = X6 193 j ∧ X8 194 j = X6 194 j ∧ X8 195 j = X6 195 j ∧ X8 198 j = X6 198 j ∧ X8 199 j = X6 199 j) ∧ (∀ v δ, v < (l : Int) + 1 + 1 ∨ 4 ≤ v → mGr X6 191 (56 * v) δ → mGr X8 191 (56 * v) δ) ∧ mfT X6 X8 := by
        by_cases hk : k = 0
        · refine ⟨X6, (0, c), (0, wv), Or.inr rfl, Or.inr rfl, rfl, ⟨fun _ => 0, 0, 0, by omega, ?_, by rw [t6]; omega, by omega, by omega, fun j h0 h1 => by omega⟩, ?_, fun _ _ => ⟨rfl, rfl, rfl, rfl, rfl⟩, fun _ _ _ h => h, mfT_r _⟩
          · rw [s6, if_pos (by omega)]; rfl
          · rw [v6, hk]; show (0 : Int) = _ * (0 : Int); omega
        · obtain ⟨j, hj⟩ : ∃ j, k = j + 1 := ⟨k - 1, by omega⟩
          have hq := IH j hj (l + 1) (cut1 P γ c) (by omega) (gOk_dig hO hgO hi (why_0 hw) hwl.1 hwl.2).1 (pCe P).toNat X6 0 (false, 0, []) (0, c) (0, wv) (Or.inr rfl) (Or.inr rfl) (by omega) (by omega) (by omega) (mfT_P T66 hP)
          rw [show (((l + 1 : Nat)) : Int) = (l : Int) + 1 by omega] at hq
          obtain ⟨X8, v4, v5, hv4, hv5, e8, n8, b8, _, b2, b3, b4⟩ := hq g6 (by rw [s6, if_neg (by omega)]) (by rw [t6]; omega) (by rw [v6]; show (0 : Int) = _ * (0 : Int); omega) (by rw [c6]; rfl) (dI_0 _ _ _)
          exact ⟨X8, v4, v5, hv4, hv5, e8, n8, by rw [b8, hj, duelS_S], b2, b3, b4⟩
      obtain ⟨X8, v4, v5, hv4, hv5, e8, n8, b8, b2, b3, T8⟩ := below
      rw [e8]
      have l8 : X8 193 l = cset P (gCe γ) ∧ X8 194 l = c ∧ X8 195 l = Z ∧ X8 198 l = sg (l + who) * acc.2.1 ∧ X8 199 l = acc.2.2.headD (-1) := by
        obtain ⟨q1, q2, q3, q4, q5⟩ := b2 l (by omega)
        obtain ⟨r1, r2, r3, r4⟩ := p6 l (by omega)
        exact ⟨by rw [q1, r1, h193], by rw [q2, r2, z2'], by rw [q3, y6g, jup_same], by rw [q4, r3, h198], by rw [q5, r4, h199]⟩
      obtain ⟨X9, e9, p1, p2, p3, p4, p5⟩ := t_pop d (X := X8) (P := P) (k := k) (l := l) (γ := γ) (acc := acc) (c := c) hG hO (N : Int) who w0 w1 (by omega) (by omega) hw hi v4 v5 hv4 hv5 n8 (by rw [l8.2.2.1, hZ1, hwv]) b8 l8.2.1 l8.2.2.2.1 l8.2.2.2.2 hI
      rw [e9]
      have T9 : mfT X X9 := mfT_t T66 (mfT_t T8 ⟨fun k _ _ _ _ k4 _ => p5 k (by omega) (by omega) (by omega), fun j _ _ _ => by rw [p5 149 (by omega) (by omega) (by omega)]⟩)
      have a9 : ∀ v δ, v < (l : Int) + 1 ∨ 4 ≤ v → mGr X 191 (56 * v) δ → mGr X9 191 (56 * v) δ := fun v δ hv hδ => mGr_fr (p5 191 (by omega) (by omega) (by omega)) (b3 v δ (by omega) (a6 v δ (by omega) hδ))
      obtain ⟨X', x4, x5, hx4, hx5, e', d0, d1, d1', d2, d3, d4⟩ := ih (pCe P - (c + 1)).toNat (by omega) X9 (c + 1) (dstep P k γ c acc) (0, -1) v5 (Or.inr rfl) hv5 rfl (by omega) (by omega) (mfT_P T9 hP) (a9 _ _ (by omega) hγ) (by rw [p5 193 (by omega) (by omega) (by omega)]; exact l8.1) (by rw [p4 l (by omega), l8.2.1]; omega) p1 p2 (dI_step hO hi (duelS_b hO k) hI)
      refine ⟨X', x4, x5, hx4, hx5, e', d0, d1, d1', fun j hj => ?_, fun v δ hv hδ => d3 v δ hv (a9 v δ hv hδ), mfT_t T9 d4⟩
      obtain ⟨q1, q2, q3, q4, q5⟩ := d2 j hj
      obtain ⟨r1, r2, r3, r4, r5⟩ := b2 j (by omega)
      obtain ⟨s1, s2, s3, s4⟩ := p6 j (by omega)
      refine ⟨by rw [q1, p5 193 (by omega) (by omega) (by omega), r1, s1], by rw [q2, p4 j (by omega), r2, s2, z2 j (by omega)], ?_, by rw [q4, (p3 j hj).1, r4, s3], by rw [q5, (p3 j hj).2, r5, s4]⟩
      rw [q3, p5 195 (by omega) (by omega) (by omega), r3, y6g, jup_row _ _ _ _ _ (by omega), y3 195 (by omega), y2 195 (by omega) (by omega)]
    · have skip : ∀ j, i ≤ j → j < pCe P → ∀ b, dstep P k γ j b = b := fun j h0 h1 b => by
        unfold dstep
        rw [if_neg (fun z => hex ⟨j, h0, h1, z⟩)]
      rw [ovC_id _ _ _ _ (fun j h0 h1 => skip j h0 (by omega))]
      refine ⟨X, u4, u5, hu4, hu5, rfl, ⟨ct0 P (gCe γ), (pCe P).toNat, i, by omega, h193, h194, i0, i1, fun j h0 h1 q => ?_⟩, h198, h199, fun _ _ => ⟨rfl, rfl, rfl, rfl, rfl⟩, fun _ _ _ h => h, mfT_r _⟩
      unfold ct0 at q
      by_cases z : why P (gCe γ) j = 0
      · exact hex ⟨j, h0, by omega, z⟩
      · rw [if_neg z] at q; omega
theorem t_riv (d : Nat) {G : jG} {P : aP} {N : Nat} {who : Int} (hG : GG G) (hO : pOk P) (hN : N ≤ 3) (w0 : 0 ≤ who) (w1 : who ≤ 1) : ∀ k : Nat, rvP P G (d + 10) N who k
  | 0 => t_riv_S d hG hO hN w0 w1 (fun j hj => by omega)
  | k + 1 => t_riv_S d hG hO hN w0 w1 (fun j hj => by rw [show j = k by omega]; exact t_riv d hG hO hN w0 w1 k)
theorem t_seeksRivals (d : Nat) {G : jG} {X : jX} {P : aP} {γ : aG} {N : Nat} (who : Int) (hG : GG G) (hO : pOk P) (hN : N ≤ 3) (w0 : 0 ≤ who) (w1 : who ≤ 1) (hP : mPlan X P) (hγ : mGr X 191 0 γ) (hgO : gOk P γ) : ∃ X', jD (d + 11) 268 [(22, 149), (0, (N : Int)), (0, who)] (G, X) = some (0, (G, X')) ∧ X' 198 0 = sg who * (duelS P N γ).1 ∧ X' 199 0 = (duelS P N γ).2.headD (-1) ∧ mGr X' 191 0 γ ∧ (∀ δ, mGr X 191 280 δ → mGr X' 191 280 δ) ∧ mfT X X' := by
  obtain ⟨X1, e1, s1, t1, v1, c1, _, f1, T1⟩ := t_opensRival (d + 1) hG hP hO 0 (N : Int) (by omega) (by omega) hγ
  have g1 : mGr X1 191 0 γ := mGr_fr (f1 191 (by omega)) hγ
  rw [e_X12_seeksRivals, e1]
  simp only [Option.bind_some, Int.reduceLE, reduceIte]
  have fin : ∀ (Y : jX) (u4 u5 : jV), (u4.1 = 2 ∨ u4.1 = 0) → (u5.1 = 2 ∨ u5.1 = 0) → noL Y P 0 → jN (d + 10) 268 8 [(22, 149), (0, (N : Int)), (0, who), (0, 0), u4, u5] [] (G, Y) = some (0, (G, jup Y 194 0 48)) := fun Y u4 u5 hu4 hu5 hno => by
    rw [h_X12_seeksRivals_8 _ _ _ _ _ u4 hu4 u5 hu5, if_neg (by omega)]
    simp only [Int.reduceLE, reduceIte]
    rw [t_next_no (d + 9) hG (by omega) (by omega) hno]
    simp only [Option.bind_some, reduceIte]
    rw [show jadd 0 (-1) = -1 by rw [jadd_id (by omega) (by omega)]; rfl, if_pos (by omega), h_X12_seeksRivals_8 _ _ _ _ _ (0, -1) (Or.inr rfl) u5 hu5, if_pos (by omega)]
  by_cases hn : N = 0
  · rw [fin X1 (2, -1) (2, -1) (Or.inl rfl) (Or.inl rfl) ⟨fun _ => 0, 0, 0, by omega, by rw [s1, if_pos (by omega)]; rfl, by rw [t1]; omega, by omega, by omega, fun j h0 h1 => by omega⟩]
    refine ⟨_, rfl, by rw [jup_rw _ _ _ _ _ (by omega), v1, hn]; show (0 : Int) = _ * (0 : Int); omega, by rw [jup_rw _ _ _ _ _ (by omega), c1, hn]; rfl, mGr_fr (jup_rw _ _ _ _ _ (by omega)) g1, fun δ hδ => mGr_fr (by rw [jup_rw _ _ _ _ _ (by omega), f1 191 (by omega)]) hδ, mfT_t T1 (mfT_u 194 _ _ (by omega))⟩
  · obtain ⟨n, hn'⟩ : ∃ n, N = n + 1 := ⟨N - 1, by omega⟩
    obtain ⟨X2, u4, u5, hu4, hu5, e2, n2, b1, b2, _, b3, T2⟩ := t_riv d hG hO hN w0 w1 n 0 γ (by omega) hgO (pCe P).toNat X1 0 (false, 0, []) (2, -1) (2, -1) (Or.inl rfl) (Or.inl rfl) (by omega) (by omega) (by omega) (mfT_P T1 hP) g1 (by rw [show ((0 : Nat) : Int) = 0 from rfl, s1, if_neg (by omega)]) (by rw [show ((0 : Nat) : Int) = 0 from rfl, t1]; omega) (by rw [show ((0 : Nat) : Int) = 0 from rfl, v1]; show (0 : Int) = _ * (0 : Int); omega) (by rw [show ((0 : Nat) : Int) = 0 from rfl, c1]; rfl) (dI_0 _ _ _)
    have e2' : jN (d + 10) 268 8 [(22, 149), (0, (N : Int)), (0, who), (0, 0), (2, -1), (2, -1)] [] (G, X1) = jN (d + 10) 268 8 [(22, 149), (0, (N : Int)), (0, who), (0, 0), u4, u5] [] (G, X2) := e2
    rw [e2', fin X2 u4 u5 hu4 hu5 n2]
    rw [show ((0 : Nat) : Int) = 0 from rfl] at b1 b2
    rw [Int.zero_add] at b1
    refine ⟨_, rfl, by rw [jup_rw _ _ _ _ _ (by omega), b1, hn', duelS_S], by rw [jup_rw _ _ _ _ _ (by omega), b2, hn', duelS_S], mGr_fr (jup_rw _ _ _ _ _ (by omega)) (b3 0 γ (by omega) g1), fun δ hδ => mGr_fr (jup_rw _ _ _ _ _ (by omega)) (b3 5 δ (by omega) (mGr_fr (f1 191 (by omega)) hδ)), mfT_t T1 (mfT_t T2 (mfT_u 194 _ _ (by omega)))⟩
/-- the line's b-th cell: the first of what is left when the first b are cut -/
theorem t_rv_n (d : Nat) {G : jG} {P : aP} {γ0 : aG} (hG : GG G) (hO : pOk P) (a b all : Int) (b1 : b < a) (a3 : a ≤ 3) : ∀ (m : Nat) (X : jX) (t : Int) (γ : aG) (u : jV), u.1 = 2 ∨ u.1 = 0 → 0 ≤ t → t + m = b → mPlan X P → gOk P γ → mGr X 191 0 γ → mGr X 191 280 γ0 → ∃ X', jN (d + 12) 269 69 [(22, 149), (0, a), (0, b), (1, all), (2, -1), (0, (duelS P (a - t).toNat γ).2.headD (-1)), (0, t), u] [] (G, X) = some ((duelS P (a - t).toNat γ).2.getD m 100, (G, X')) ∧ mGr X' 190 0 γ0 ∧ mfT X X' := by
  have cell : ∀ n g, (duelS P n g).2.headD (-1) = -1 ↔ (duelS P n g).2 = [] := fun n g => by
    rcases duelS_l hO n g with h | ⟨k, c, _, hi, _, h⟩
    · rw [h]; exact ⟨fun _ => rfl, fun _ => rfl⟩
    · rw [h]
      refine ⟨fun q => ?_, fun q => by simp at q⟩
      have hz' : 0 ≤ c ∧ c < pCe P := hi
      have q' : c = -1 := q
      omega
  intro m
  induction m with
  | zero =>
    intro X t γ u hu t0 tm hP hgO g0 g5
    obtain ⟨X1, e1, g1, f1⟩ := t_takesBack (d + 11) hG 5 (by omega) (by omega) g5
    refine ⟨X1, ?_, g1, mfT_1 190 (by omega) f1⟩
    rw [h_X12_rivals_69 _ _ _ _ _ _ _ u hu, if_neg (by omega)]
    simp only [Int.reduceLE, reduceIte]
    rw [e1]
    simp only [Option.bind_some]
    rw [if_neg (by omega)]
    by_cases q : (duelS P (a - t).toNat γ).2.headD (-1) = -1
    · rw [if_pos q, (cell _ _).1 q]; rfl
    · rw [if_neg q]
      rcases duelS_l hO (a - t).toNat γ with h | ⟨k, c, _, hi, _, h⟩
      · exact absurd ((cell _ _).2 h) q
      · rw [h]; rfl
  | succ m ih =>
    intro X t γ u hu t0 tm hP hgO g0 g5
    rw [h_X12_rivals_69 _ _ _ _ _ _ _ u hu, if_pos (by omega)]
    by_cases q : (duelS P (a - t).toNat γ).2.headD (-1) = -1
    · obtain ⟨X1, e1, g1, f1⟩ := t_takesBack (d + 11) hG 5 (by omega) (by omega) g5
      refine ⟨X1, ?_, g1, mfT_1 190 (by omega) f1⟩
      rw [if_pos q]
      simp only [Int.reduceLE, reduceIte]
      rw [e1]
      simp only [Option.bind_some]
      rw [if_neg (by omega), if_pos q, (cell _ _).1 q]
      rfl
    · rw [if_neg q]
      rcases duelS_l hO (a - t).toNat γ with h | ⟨k, c, hk, hi, hw, h⟩
      · exact absurd ((cell _ _).2 h) q
      · have hc : (duelS P (a - t).toNat γ).2.headD (-1) = c := by rw [h]; rfl
        have hwl := wth_le (γ := γ) hO hi
        rw [hc]
        simp only [Int.reduceLE, reduceIte]
        obtain ⟨X2, e2, g2, f2⟩ := t_takesBack (d + 11) hG 0 (by omega) (by omega) g0
        have T2 : mfT X X2 := mfT_1 190 (by omega) f2
        rw [e2]
        simp only [Option.bind_some]
        obtain ⟨X3, e3, g3, f3, _⟩ := t_isCut (d + 6) c hG (mfT_P T2 hP) hO hgO hi g2 hwl.1 hwl.2
        obtain ⟨wv, hwv⟩ : ∃ wv, wv = wth P (gCe γ) c := ⟨_, rfl⟩
        rw [← hwv] at e3
        have hwb : 0 ≤ wv ∧ wv ≤ 999 := by rw [hwv]; exact hwl
        have T3 := mfT_t T2 (mfT_C f3)
        rw [e3]
        simp only [Option.bind_some]
        obtain ⟨X4, e4, g4, f4, o4⟩ := t_putsAside (d + 11) hG 0 (by omega) (by omega) g3
        have T4 := mfT_t T3 (mfT_1 191 (by omega) f4)
        have g45 : mGr X4 191 280 γ0 := o4 5 γ0 (by omega) (mGr_fr (by rw [f3.1 191 (by omega) (by omega) (by omega) (by omega), f2 191 (by omega)]) g5)
        rw [e4]
        simp only [Option.bind_some]
        rw [if_neg (show ¬ wv < 0 by omega)]
        have hj : jrem (jadd t 1) 2 = (t + 1) % 2 := by
          rw [jadd_id (by omega) (by omega)]
          unfold jrem
          rw [Int.tmod_eq_emod_of_nonneg (by omega)]
        have hsb : jsub (jsub a t) 1 = (k : Int) := by rw [jsub_id (a := a) (by omega) (by omega), jsub_id (by omega) (by omega)]; omega
        obtain ⟨X5, e5, _, c5, g5', o5, T5⟩ := t_seeksRivals (d + 1) (X := X4) (P := P) (γ := cut1 P γ c) (N := k) ((t + 1) % 2) hG hO (by omega) (by omega) (by omega) (mfT_P T4 hP) g4 (gOk_dig hO hgO hi (why_0 hw) hwl.1 hwl.2).1
        rw [hj, hsb, e5]
        simp only [Option.bind_some]
        rw [gr_149_75 hG, gl_199 hG, c5, jadd_id (by omega) (by omega)]
        simp only [Int.reduceLE, Int.reduceLT, reduceIte]
        have T55 := mfT_t T4 T5
        obtain ⟨X', e', g', T'⟩ := ih X5 (t + 1) (cut1 P γ c) (0, wv) (Or.inr rfl) (by omega) (by omega) (mfT_P T55 hP) (gOk_dig hO hgO hi (why_0 hw) hwl.1 hwl.2).1 g5' (o5 _ g45)
        rw [show (a - (t + 1)).toNat = k by omega] at e'
        refine ⟨X', ?_, g', mfT_t T55 T'⟩
        rw [e', h]
        rfl
theorem m_rivals (a b : Int) : okM 269 [(0, a), (0, b)] (rvA a b) (fun A => A) := by
  intro d G X A hG hR hV
  dsimp only
  have hO := hV.2.1
  have fin : ∀ X' : jX, mGr X' 190 0 (aGr A) → mfT X X' → RM A X' ∧ ∀ k, k < 149 → X' k = X k := fun X' g1 f1 => ⟨RM_act (A := A) (γ := aGr A) (h := aHi A) (fun k hk h1 h2 => by unfold sM at hk; exact f1.1 k (by omega) (by omega) (by omega) (by omega) (by omega) (by omega)) (fun j hj _ _ => by unfold sN at hj; exact f1.2 j (by omega) (by omega) (by omega)) g1 (mHi_fr (f1.2 _ (by omega) (by omega) (by omega)) (f1.2 _ (by omega) (by omega) (by omega)) (f1.1 _ (by omega) (by omega) (by omega) (by omega) (by omega) (by omega)) hR.2.2.2.2.1) hR, fun k hk => f1.1 k (by omega) (by omega) (by omega) (by omega) (by omega) (by omega)⟩
  rw [e_X12_rivals, t_isIn]
  simp only [Option.bind_some]
  unfold rvA
  by_cases an : a < 0 ∨ 3 < a
  · rw [if_pos (show a < 0 ∨ 3 < a ∨ b < -1 ∨ a ≤ b by omega), if_neg (show ¬ (0 ≤ a ∧ a ≤ 3) by omega), if_pos rfl]
    exact ⟨X, rfl, hR, fun _ _ => rfl⟩
  · rw [if_pos (show 0 ≤ a ∧ a ≤ 3 by omega), if_neg (by omega)]
    obtain ⟨X1, e1, g1, f1, _⟩ := t_putsAside (d + 58) hG 5 (by omega) (by omega) hR.2.2.2.1
    obtain ⟨X2, e2, g2, f2, o2⟩ := t_putsAside (d + 58) (X := X1) hG 0 (by omega) (by omega) (mGr_fr (f1 190 (by omega)) hR.2.2.2.1)
    have T2 : mfT X X2 := mfT_t (mfT_1 191 (by omega) f1) (mfT_1 191 (by omega) f2)
    obtain ⟨X3, e3, v3, c3, g3, o3, T3⟩ := t_seeksRivals (d + 48) (X := X2) (P := aPl A) (γ := aGr A) (N := a.toNat) 0 hG hO (by omega) (by omega) (by omega) (mfT_P T2 hR.2.2.1) g2 hV.2.2.1
    rw [show ((a.toNat : Nat) : Int) = a by omega] at e3
    have v3' : X3 198 0 = (duelS (aPl A) a.toNat (aGr A)).1 := by rw [v3]; show 1 * _ = _; rw [Int.one_mul]
    have g35 := o3 _ (o2 5 _ (by omega) g1)
    have T33 := mfT_t T2 T3
    by_cases hb : b = -1
    · rw [if_pos hb, if_neg (show ¬ (a < 0 ∨ 3 < a ∨ b < -1 ∨ a ≤ b) by omega), if_pos hb]
      simp only [Int.reduceLE, reduceIte]
      rw [e1]
      simp only [Option.bind_some, Int.reduceLE, reduceIte]
      rw [e2]
      simp only [Option.bind_some, Int.reduceLE, reduceIte]
      rw [e3]
      simp only [Option.bind_some, Int.reduceLE, reduceIte]
      rw [gr_149_74 hG, gl_198 hG, gr_149_75 hG, gl_199 hG, v3']
      simp only [Int.reduceLE, Int.reduceLT, reduceIte]
      obtain ⟨X4, e4, g4, f4⟩ := t_takesBack (d + 58) hG 5 (by omega) (by omega) g35
      rw [h_X12_rivals_69 _ _ _ _ _ _ _ (2, -1) (Or.inl rfl), if_neg (by omega)]
      simp only [Int.reduceLE, reduceIte]
      rw [e4]
      simp only [Option.bind_some]
      rw [if_pos hb]
      obtain ⟨q1, q2⟩ := fin X4 g4 (mfT_t T33 (mfT_1 190 (by omega) f4))
      exact ⟨X4, rfl, q1, q2⟩
    · rw [if_neg hb, t_isIn, jsub_id (by omega) (by omega)]
      simp only [Option.bind_some]
      by_cases hb2 : 0 ≤ b ∧ b ≤ a - 1
      · rw [if_pos hb2, if_neg (by omega), if_neg (show ¬ (a < 0 ∨ 3 < a ∨ b < -1 ∨ a ≤ b) by omega), if_neg hb]
        simp only [Int.reduceLE, reduceIte]
        rw [e1]
        simp only [Option.bind_some, Int.reduceLE, reduceIte]
        rw [e2]
        simp only [Option.bind_some, Int.reduceLE, reduceIte]
        rw [e3]
        simp only [Option.bind_some, Int.reduceLE, reduceIte]
        rw [gr_149_74 hG, gl_198 hG, gr_149_75 hG, gl_199 hG, c3]
        simp only [Int.reduceLE, Int.reduceLT, reduceIte]
        obtain ⟨X4, e4, g4, T4⟩ := t_rv_n (d + 47) (γ0 := aGr A) hG hO a b (X3 198 0) (by omega) (by omega) b.toNat X3 0 (aGr A) (2, -1) (Or.inl rfl) (by omega) (by omega) (mfT_P T33 hR.2.2.1) hV.2.2.1 g3 g35
        rw [show (a - 0).toNat = a.toNat by omega] at e4
        obtain ⟨q1, q2⟩ := fin X4 g4 (mfT_t T33 T4)
        exact ⟨X4, e4, q1, q2⟩
      · rw [if_neg hb2, if_pos rfl, if_pos (show a < 0 ∨ 3 < a ∨ b < -1 ∨ a ≤ b by omega)]
        exact ⟨X, rfl, hR, fun _ _ => rfl⟩
theorem call_rivals (a b : Int) : okB 164 269 [(0, a), (0, b)] := ⟨rvA a b, fun A => A, c_rivals a b, m_rivals a b, fun _ h => h⟩
