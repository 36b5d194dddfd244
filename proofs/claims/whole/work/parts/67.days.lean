/-! DAYS -/
def nxs (s : Int) : Int := (1103515245 * s + 12345) % 2147483648
noncomputable def dayC (P : aP) (g : aG) (s : Int) : Int := kth (ct0 P (gCe g)) (pCe P).toNat 0 (nxs s / 64 % nct P (gCe g))
noncomputable def dayS (P : aP) (q : aG × Int) : (aG × Int) × Int :=
  if nct P (gCe q.1) = 0 then (q, 0) else
  if nxs (nxs q.2) / 64 % 100 < gsO P (pSe P (dayC P q.1 q.2)) then ((bls P (cut1 P q.1 (dayC P q.1 q.2)) (dayC P q.1 q.2) (wth P (gCe q.1) (dayC P q.1 q.2)), nxs (nxs q.2)), 1) else ((cut1 P q.1 (dayC P q.1 q.2), nxs (nxs q.2)), 0)
noncomputable def daysS (P : aP) : Nat → (aG × Int) → (aG × Int) × Int
  | 0, q => (q, 0)
  | n + 1, q => ((daysS P n (dayS P q).1).1, (dayS P q).2 + (daysS P n (dayS P q).1).2)
theorem nxs_le (s : Int) : 0 ≤ nxs s ∧ nxs s ≤ 2147483647 := by unfold nxs; omega
theorem ct0_cnt (P : aP) (st : Int → Int) (n : Nat) : 0 ≤ cnt (ct0 P st) n ∧ cnt (ct0 P st) n ≤ n := cnt_le (fun c h0 _ => ct0_01 P st c h0)
theorem dayC_ok {P : aP} {g : aG} {s : Int} (hO : pOk P) (hn : nct P (gCe g) ≠ 0) : inP P (dayC P g s) ∧ why P (gCe g) (dayC P g s) = 0 ∧ gCe g (dayC P g s) = 0 ∧ 0 ≤ nxs s / 64 % nct P (gCe g) ∧ nxs s / 64 % nct P (gCe g) < nct P (gCe g) ∧ nct P (gCe g) ≤ 48 := by
  have hcc := pCe_le hO
  have hc := ct0_cnt P (gCe g) (pCe P).toNat
  have hnc : nct P (gCe g) = cnt (ct0 P (gCe g)) (pCe P).toNat := rfl
  have k0 := Int.emod_nonneg (nxs s / 64) hn
  have k1 := Int.emod_lt_of_pos (nxs s / 64) (b := nct P (gCe g)) (by omega)
  have e : (fun j => ct0 P (gCe g) (0 + j)) = ct0 P (gCe g) := by funext j; rw [Int.zero_add]
  have h := kth_in (ct0 P (gCe g)) (ct0_01 P (gCe g)) (pCe P).toNat 0 (nxs s / 64 % nct P (gCe g)) (Int.le_refl 0) k0 (by rw [e]; exact k1)
  obtain ⟨h1, h2, h3⟩ := h
  have hw : why P (gCe g) (dayC P g s) = 0 := by
    have h3 : ct0 P (gCe g) (dayC P g s) = 1 := h3
    unfold ct0 at h3
    by_cases q : why P (gCe g) (dayC P g s) = 0
    · exact q
    · rw [if_neg q] at h3; omega
  refine ⟨⟨h1, by unfold dayC; omega⟩, hw, ?_, k0, k1, by omega⟩
  unfold why at hw
  by_cases q : gCe g (dayC P g s) = 0
  · exact q
  · rw [if_pos q] at hw; omega
theorem dayS_ok {P : aP} {q : aG × Int} (hO : pOk P) (hg : gOk P q.1) (hs : 0 ≤ q.2 ∧ q.2 ≤ 2147483647) : gOk P (dayS P q).1.1 ∧ (0 ≤ (dayS P q).1.2 ∧ (dayS P q).1.2 ≤ 2147483647) ∧ ((dayS P q).2 = 0 ∨ (dayS P q).2 = 1) := by
  unfold dayS
  by_cases hn : nct P (gCe q.1) = 0
  · rw [if_pos hn]; exact ⟨hg, hs, Or.inl rfl⟩
  · rw [if_neg hn]
    obtain ⟨hi, hw, hz, -⟩ := dayC_ok (s := q.2) hO hn
    have hwl := wth_le (γ := q.1) hO hi
    obtain ⟨d1, d2, d3, d4⟩ := gOk_dig hO hg hi hz hwl.1 hwl.2
    split
    · exact ⟨gOk_bls hO d1 hi d4 hwl.1 d3 d2, nxs_le _, Or.inr rfl⟩
    · exact ⟨d1, nxs_le _, Or.inl rfl⟩
theorem lAnd_31 {v : Int} (h0 : 0 ≤ v) (h1 : v < 9223372036854775808) : lAnd v 2147483647 = v % 2147483648 := by
  obtain ⟨n, rfl⟩ := Int.eq_ofNat_of_zero_le h0
  have h2 : n < 2 ^ 63 := by have : (2 ^ 63 : Nat) = 9223372036854775808 := by decide
                             omega
  rw [show (2147483647 : Int) = ((2147483647 : Nat) : Int) from rfl, lAnd_nat h2 (by decide), show (2147483647 : Nat) = 2 ^ 31 - 1 by decide, Nat.and_two_pow_sub_one_eq_mod]
  omega
theorem s_draw (d : Nat) {G : jG} {X : jX} (m s : Int) (hs : X 0 18 = s) (h0 : 0 ≤ s) (h1 : s ≤ 2147483647) (hm : 0 < m) (hm1 : m ≤ 100) : jD (d + 1) 184 [(21, 0), (0, m)] (G, X) = some (nxs s / 64 % m, (G, jup X 0 18 (nxs s))) := by
  have hn := nxs_le s
  have e : w32 (lAnd (ladd (lmul 1103515245 (X 0 18)) 12345) 2147483647) = nxs s := by
    rw [hs, lmul_id (by omega) (by omega), ladd_id (by omega) (by omega), lAnd_31 (by omega) (by omega)]
    exact w32_i (by omega) (by omega)
  rw [e_X11_draw, e, jup_same, jdiv_id hn.1 (by omega) hn.2, jrem_id (by omega)]
  simp only [Int.reduceLE, reduceIte]
  rw [if_pos hm, if_neg (by omega)]
theorem s_day (d : Nat) {G : jG} {X : jX} {P : aP} {q : aG × Int} (hG : GG G) (hP : cPlan X P) (hO : pOk P) (hgO : gOk P q.1) (hγ : cGr X 25 q.1) (hs : X 0 18 = q.2) (hs2 : 0 ≤ q.2 ∧ q.2 ≤ 2147483647) : ∃ X', jD (d + 8) 185 [(21, 0)] (G, X) = some ((dayS P q).2, (G, X')) ∧ cGr X' 25 (dayS P q).1.1 ∧ X' 0 18 = (dayS P q).1.2 ∧ (∀ a, a ≠ 0 → ¬ (25 ≤ a ∧ a ≤ 27) → ¬ (37 ≤ a ∧ a ≤ 41) → X' a = X a) ∧ (∀ j, j ≠ 18 → X' 0 j = X 0 j) := by
  have hm := mi_0 hG
  have hcc := pCe_le hO
  obtain ⟨X1, e1, f1⟩ := s_countCuttable (d + 1) hG hP hO hgO hm hγ
  have f1' : ∀ k, ¬ (37 ≤ k ∧ k ≤ 41) → X1 k = X k := fun k hk => f1 k (by unfold mSc; omega)
  rw [e_X11_workOneDay, gr_0_5 hG, e1]
  simp only [Option.bind_some, Int.reduceLE, reduceIte]
  unfold dayS
  by_cases hn : nct P (gCe q.1) = 0
  · rw [if_pos hn, if_pos hn]
    exact ⟨X1, rfl, cGr_fr (f1' _ (by omega)) (f1' _ (by omega)) (f1' _ (by omega)) hγ, by rw [f1' 0 (by omega)]; exact hs, fun a _ _ h => f1' a h, fun j _ => by rw [f1' 0 (by omega)]⟩
  rw [if_neg hn, if_neg hn]
  obtain ⟨hi, hw, hz, k0, k1, k2⟩ := dayC_ok (s := q.2) hO hn
  have hwl := wth_le (γ := q.1) hO hi
  obtain ⟨d1, d2, d3, d4⟩ := gOk_dig hO hgO hi hz hwl.1 hwl.2
  rw [s_draw (d + 6) (nct P (gCe q.1)) q.2 (by rw [f1' 0 (by omega)]; exact hs) hs2.1 hs2.2 (by omega) (by omega)]
  simp only [Option.bind_some]
  rw [gr_0_5 hG]
  have fA : ∀ k, k ≠ 0 → ¬ (37 ≤ k ∧ k ≤ 41) → jup X1 0 18 (nxs q.2) k = X k := fun k h0 h1 => by rw [jup_rw _ _ _ _ _ h0, f1' k h1]
  obtain ⟨X2, e2, f2⟩ := s_cuttable (d + 1) (X := jup X1 0 18 (nxs q.2)) (nxs q.2 / 64 % nct P (gCe q.1)) hG (cPlan_fr (fun a h1 h2 => fA a (by omega) (by omega)) hP) hO hgO hm (cGr_fr (fA _ (by omega) (by omega)) (fA _ (by omega) (by omega)) (fA _ (by omega) (by omega)) hγ)
  have f2' : ∀ k, ¬ (37 ≤ k ∧ k ≤ 41) → X2 k = jup X1 0 18 (nxs q.2) k := fun k hk => f2 k (by unfold mSc; omega)
  simp only [Int.reduceLE, reduceIte]
  rw [e2]
  simp only [Option.bind_some]
  change ∃ X', (if dayC P q.1 q.2 = -1 then _ else _) = _ ∧ _
  have hne : ¬ dayC P q.1 q.2 = -1 := by have := hi.1; omega
  rw [if_neg hne, gr_0_5 hG]
  have fB : ∀ k, k ≠ 0 → ¬ (37 ≤ k ∧ k ≤ 41) → X2 k = X k := fun k h0 h1 => by rw [f2' k h1, fA k h0 h1]
  have p2 := cPlan_fr (X' := X2) (fun a h1 h2 => fB a (by omega) (by omega)) hP
  have g2 := cGr_fr (g := 25) (fB _ (by omega) (by omega)) (fB _ (by omega) (by omega)) (fB _ (by omega) (by omega)) hγ
  obtain ⟨X3, e3, f3⟩ := s_price (d + 2) (dayC P q.1 q.2) hG p2 hO hgO hi hm g2
  have p3 := cPlan_fr (X' := X3) (fun a h1 h2 => f3 a (by omega) (by omega)) p2
  have g3 := cGr_fr (g := 25) (f3 _ (by omega) (by omega)) (f3 _ (by omega) (by omega)) (f3 _ (by omega) (by omega)) g2
  obtain ⟨X4, e4, g4, f4⟩ := s_dig (d + 4) (dayC P q.1 q.2) _ hG p3 hO hgO hi hm g3 hwl.1 hwl.2
  simp only [Int.reduceLE, reduceIte]
  change ∃ X', (jD (d + 7) 40 [(13, 37), (0, dayC P q.1 q.2)] (G, X2)).bind _ = _ ∧ _
  rw [e3]
  simp only [Option.bind_some]
  rw [gr_0_5 hG]
  simp only [Int.reduceLE, reduceIte]
  change ∃ X', (jD (d + 7) 41 [(13, 37), (0, dayC P q.1 q.2), (0, wth P (gCe q.1) (dayC P q.1 q.2))] (G, X3)).bind _ = _ ∧ _
  rw [e4]
  simp only [Option.bind_some]
  have x0 : X4 0 = jup X1 0 18 (nxs q.2) 0 := by rw [f4 0 (by omega) (by omega) (by omega), f3 0 (by omega) (by omega), f2' 0 (by omega)]
  have ns := nxs_le q.2
  rw [s_draw (d + 6) 100 (nxs q.2) (by rw [x0, jup_same]) ns.1 ns.2 (by omega) (by omega)]
  simp only [Option.bind_some]
  have fC : ∀ k, k ≠ 0 → ¬ (25 ≤ k ∧ k ≤ 27) → ¬ (37 ≤ k ∧ k ≤ 41) → jup X4 0 18 (nxs (nxs q.2)) k = X k := fun k h0 h1 h2 => by rw [jup_rw _ _ _ _ _ h0, f4 k (by omega) (by omega) (by omega), f3 k (by omega) (by omega), fB k h0 h2]
  have p5 := cPlan_fr (X' := jup X4 0 18 (nxs (nxs q.2))) (fun a h1 h2 => fC a (by omega) (by omega) (by omega)) hP
  have g5 : cGr (jup X4 0 18 (nxs (nxs q.2))) 25 (cut1 P q.1 (dayC P q.1 q.2)) := cGr_fr (jup_rw _ _ _ _ _ (by omega)) (jup_rw _ _ _ _ _ (by omega)) (jup_rw _ _ _ _ _ (by omega)) g4
  have h0j : ∀ j, j ≠ 18 → jup X4 0 18 (nxs (nxs q.2)) 0 j = X 0 j := fun j hj => by rw [jup_row _ _ _ _ _ hj, x0, jup_row _ _ _ _ _ hj, f1' 0 (by omega)]
  rw [gr_0_2 hG]
  simp only [Int.reduceLE, reduceIte]
  change ∃ X', (jD (d + 7) 62 [(14, 1), (0, dayC P q.1 q.2)] (G, jup X4 0 18 (nxs (nxs q.2)))).bind _ = _ ∧ _
  rw [s_gasOf (d + 4) (dayC P q.1 q.2) hG p5 hO hi]
  simp only [Option.bind_some]
  by_cases hb : nxs (nxs q.2) / 64 % 100 < gsO P (pSe P (dayC P q.1 q.2))
  · rw [if_pos hb, if_pos hb, gr_0_5 hG]
    simp only [Int.reduceLE, reduceIte]
    have hwq := d1.2.2.2.1
    have hq48 := nwh_le (gCe (cut1 P q.1 (dayC P q.1 q.2))) 48
    obtain ⟨X6, e6, g6, f6⟩ := s_blast (d + 4) (dayC P q.1 q.2) (wth P (gCe q.1) (dayC P q.1 q.2)) hG p5 hO hi hm g5 (by unfold j32 cut1; unfold cut1 at hq48; omega) (fun k k0 k1 => by have := d1.2.2.2.2.2.2.1 k k0 k1; unfold j32 cut1; unfold cut1 at hq48; omega)
    change ∃ X', (jD (d + 7) 42 [(13, 37), (0, dayC P q.1 q.2), (0, wth P (gCe q.1) (dayC P q.1 q.2))] (G, jup X4 0 18 (nxs (nxs q.2)))).bind _ = _ ∧ _
    rw [e6]
    simp only [Option.bind_some]
    exact ⟨X6, rfl, g6, by rw [f6 0 (by omega) (by omega) (by omega), jup_same], fun a h1 h2 h3 => by rw [f6 a (by omega) (by omega) (by omega), fC a h1 h2 h3], fun j hj => by rw [f6 0 (by omega) (by omega) (by omega), h0j j hj]⟩
  · rw [if_neg hb, if_neg hb]
    exact ⟨_, rfl, g5, jup_same _ _ _ _, fC, h0j⟩
theorem s_days_n (d : Nat) {G : jG} {P : aP} (hG : GG G) (hO : pOk P) (N : Int) (hN : N ≤ 30) : ∀ (n : Nat) (X : jX) (q : aG × Int) (b k : Int), cPlan X P → gOk P q.1 → cGr X 25 q.1 → X 0 18 = q.2 → (0 ≤ q.2 ∧ q.2 ≤ 2147483647) → 0 ≤ k → k + n = N → 0 ≤ b → b ≤ k → ∃ X', jN (d + 8) 169 35 [(21, 0), (0, N), (0, b), (0, k)] [] (G, X) = some (b + (daysS P n q).2, (G, X')) ∧ cGr X' 25 (daysS P n q).1.1 ∧ X' 0 18 = (daysS P n q).1.2 ∧ (∀ a, a ≠ 0 → ¬ (25 ≤ a ∧ a ≤ 27) → ¬ (37 ≤ a ∧ a ≤ 41) → X' a = X a) ∧ (∀ j, j ≠ 18 → X' 0 j = X 0 j) := by
  intro n
  induction n with
  | zero =>
    intro X q b k hP hg hγ hs hs2 h0 h1 h2 h3
    rw [h_X11_days_35, if_neg (by omega)]
    exact ⟨X, by show some (b, _) = some (b + 0, _); rw [Int.add_zero], hγ, hs, fun _ _ _ _ => rfl, fun _ _ => rfl⟩
  | succ n ih =>
    intro X q b k hP hg hγ hs hs2 h0 h1 h2 h3
    obtain ⟨X1, e1, g1, s1, f1, f2⟩ := s_day d hG hP hO hg hγ hs hs2
    obtain ⟨o1, o2, o3⟩ := dayS_ok hO hg hs2
    rw [h_X11_days_35, if_pos (by omega), if_pos (by omega), e1]
    simp only [Option.bind_some]
    rw [jadd_id (a := k) (by omega) (by omega), jadd_id (a := b) (by omega) (by omega)]
    have go : ∀ b' : Int, b' = b + (dayS P q).2 → 0 ≤ b' → b' ≤ k + 1 → ∃ X', jN (d + 8) 169 35 [(21, 0), (0, N), (0, b'), (0, k + 1)] [] (G, X1) = some (b + (daysS P (n + 1) q).2, (G, X')) ∧ cGr X' 25 (daysS P (n + 1) q).1.1 ∧ X' 0 18 = (daysS P (n + 1) q).1.2 ∧ (∀ a, a ≠ 0 → ¬ (25 ≤ a ∧ a ≤ 27) → ¬ (37 ≤ a ∧ a ≤ 41) → X' a = X a) ∧ (∀ j, j ≠ 18 → X' 0 j = X 0 j) := by
      intro b' hb' q0 q1
      obtain ⟨X', e', g', s', f', f''⟩ := ih X1 (dayS P q).1 b' (k + 1) (cPlan_fr (fun a h1 h2 => f1 a (by omega) (by omega) (by omega)) hP) o1 g1 s1 o2 (by omega) (by omega) q0 q1
      refine ⟨X', ?_, g', s', fun a a0 a1 a2 => by rw [f' a a0 a1 a2, f1 a a0 a1 a2], fun j hj => by rw [f'' j hj, f2 j hj]⟩
      rw [e', hb']
      show some (b + (dayS P q).2 + (daysS P n (dayS P q).1).2, _) = some (b + ((dayS P q).2 + (daysS P n (dayS P q).1).2), _)
      rw [Int.add_assoc]
    rcases o3 with o3 | o3
    · rw [if_pos o3]; exact go b (by omega) h2 (by omega)
    · rw [if_neg (by omega)]; exact go (b + 1) (by omega) (by omega) (by omega)
