/-! house -/
noncomputable def hop (P : aP) (st : Int → Int) (a : Int) : Int → Int := fun c => if -1 ≤ c % pC P - a ∧ c % pC P - a ≤ 1 then b01 (opn st c) else 0
def hfa (P : aP) (st : Int → Int) (a : Int) : Int → Int := fun c => if -1 ≤ c % pC P - a ∧ c % pC P - a ≤ 1 then (if st c = 3 then 1 else 0) else 0
theorem hop_01 (P : aP) (st : Int → Int) (a c : Int) : hop P st a c = 0 ∨ hop P st a c = 1 := by
  unfold hop
  rcases b01_or (opn st c) with ⟨e, -⟩ | ⟨e, -⟩ <;> rw [e] <;> split <;> simp
theorem hfa_01 (P : aP) (st : Int → Int) (a c : Int) : hfa P st a c = 0 ∨ hfa P st a c = 1 := by
  unfold hfa
  split <;> (try split) <;> simp
theorem cnF_le {f : Int → Int} (h : ∀ c, f c = 0 ∨ f c = 1) (n : Nat) (i : Int) : 0 ≤ cnF f n i ∧ cnF f n i ≤ n := by
  rw [cnF_cnt]
  exact cnt_le (fun c _ _ => h _)
noncomputable def fcH (P : aP) (st : Int → Int) (a : Int) : Int → Int := fun i => if i = 2 then a else if i = 8 then cnF (hop P st a) (pCe P).toNat 0 else if i = 9 then cnF (hfa P st a) (pCe P).toNat 0 else 0
noncomputable def tlt (P : aP) (st : Int → Int) (h : Int) : Int := match pFm P 2 with
  | none => cnF (hop P st (pHc P h)) (pCe P).toNat 0 + 2 * cnF (hfa P st (pHc P h)) (pCe P).toNat 0
  | some l => cl0 (evv (fcH P st (pHc P h)) tb0 l) 9999
theorem fcH_le {P : aP} {a : Int} (st : Int → Int) (hO : pOk P) (h0 : 0 ≤ a) (h1 : a ≤ 8) : ∀ k, 0 ≤ k → k ≤ 9 → -1000000 ≤ fcH P st a k ∧ fcH P st a k ≤ 1000000 := by
  intro k _ _
  have hcc := pCe_le hO
  have a1 := cnF_le (hop_01 P st a) (pCe P).toNat 0
  have a2 := cnF_le (hfa_01 P st a) (pCe P).toNat 0
  unfold fcH
  repeat' split
  all_goals omega
theorem s_abs (d : Nat) {G : jG} {X : jX} (a : Int) (h0 : -1000 ≤ a) (h1 : a ≤ 1000) : jD (d + 1) 336 [(0, a)] (G, X) = some (if a < 0 then -a else a, (G, X)) := by
  rw [e_J9_abs_0f7a4]
  split
  · rw [w32_i (by omega) (by omega)]
  · rfl
theorem s_house_n (d : Nat) {G : jG} {P : aP} {γ : aG} {m g r : Int} (h a : Int) (hG : GG G) (hO : pOk P) (hm : isMi G m g r) (ha0 : 0 ≤ a) (ha : a ≤ 8) : ∀ (n : Nat) (X : jX) (i : Int), cPlan X P → cGr X g γ → i + n = pCe P → 0 ≤ i → 0 ≤ X (r + 3) 8 → X (r + 3) 8 ≤ i → 0 ≤ X (r + 3) 9 → X (r + 3) 9 ≤ i → ∃ X', jN (d + 2) 46 49 [(13, m), (0, h), (0, a), (0, i)] [] (G, X) = some (0, (G, X')) ∧ (∀ k, k ≠ r + 3 → X' k = X k) ∧ (∀ j, j ≠ 8 → j ≠ 9 → X' (r + 3) j = X (r + 3) j) ∧ X' (r + 3) 8 = X (r + 3) 8 + cnF (hop P (gCe γ) a) n i ∧ X' (r + 3) 9 = X (r + 3) 9 + cnF (hfa P (gCe γ) a) n i := by
  obtain ⟨hg, ⟨m0, m1, m2, m3, m4, m5⟩, ⟨l0, l1, l2, l3⟩, h25, hor⟩ := id hm
  have g4 : 25 ≤ g := hg.2.2.2.2
  have hcc := pCe_le hO
  intro n
  induction n with
  | zero =>
    intro X i hP hγ h0 h1 x1 x2 x3 x4
    refine ⟨X, ?_, fun _ _ => rfl, fun _ _ _ => rfl, by show _ = _ + 0; omega, by show _ = _ + 0; omega⟩
    rw [h_X3_loadHouse_49, if_pos (by omega), m0, if_pos (by omega), (cPlan_at hP).2.1, if_neg (by omega)]
  | succ n ih =>
    intro X i hP hγ h0 h1 x1 x2 x3 x4
    have hmi := mod_in hO (c := i) ⟨h1, by omega⟩
    rw [h_X3_loadHouse_49, if_pos (by omega), m0, if_pos (by omega), (cPlan_at hP).2.1, if_pos (by omega), if_pos (by omega), if_pos (by omega), s_columnOf (d + 1) i hP h1 hmi.1]
    simp only [Option.bind_some]
    rw [jsub_id (by omega) (by omega), s_abs (d + 1) _ (by omega) (by omega)]
    simp only [Option.bind_some]
    by_cases hq : -1 ≤ i % pC P - a ∧ i % pC P - a ≤ 1
    · have ho : hop P (gCe γ) a i = b01 (opn (gCe γ) i) := if_pos hq
      have hf : hfa P (gCe γ) a i = (if gCe γ i = 3 then 1 else 0) := if_pos hq
      rw [if_neg (by split <;> omega), if_pos (by omega), m5, if_pos (by omega), l3, if_pos (by omega), if_pos (by omega), m1, if_pos (by omega), s_isOpen d g i hg hγ (by omega)]
      simp only [Option.bind_some]
      have hb := hop_01 P (gCe γ) a i
      rw [ho] at hb
      have e8 : ∀ (z : Int) (X1 : jX) (L : List jV) (s1 s2 s3 : jV), z = 0 ∨ z = 1 → (if z = 0 then jN (d + 2) 46 101 L [(0, 0), s1, s2, s3] (G, X1) else jN (d + 2) 46 101 L [(0, 1), s1, s2, s3] (G, X1)) = jN (d + 2) 46 101 L [(0, z), s1, s2, s3] (G, X1) := by
        intro z X1 L s1 s2 s3 hz; rcases hz with rfl | rfl <;> rfl
      have hup8 : ∀ k, k ≠ r + 3 → jup X (r + 3) 8 (X (r + 3) 8 + b01 (opn (gCe γ) i)) k = X k := fun k hk => jup_rw _ _ _ _ _ hk
      rw [e8 _ _ _ _ _ _ hb, h_X3_loadHouse_101, if_pos (by omega), if_pos (by omega), l3, if_pos (by omega), if_pos (by omega), m5, if_pos (by omega), l3, if_pos (by omega), if_pos (by omega), m1, if_pos (by omega), jadd_id (by omega) (by omega), s_is (d + 1) g i 3 hg (cGr_fr (hup8 g (by omega)) (hup8 (g + 1) (by omega)) (hup8 (g + 2) (by omega)) hγ)]
      simp only [Option.bind_some]
      have e9 : ∀ (z : Int) (X1 : jX) (L : List jV) (s1 s2 s3 : jV), z = 0 ∨ z = 1 → (if z = 0 then jN (d + 2) 46 128 L [(0, 0), s1, s2, s3] (G, X1) else jN (d + 2) 46 128 L [(0, 1), s1, s2, s3] (G, X1)) = jN (d + 2) 46 128 L [(0, z), s1, s2, s3] (G, X1) := by
        intro z X1 L s1 s2 s3 hz; rcases hz with rfl | rfl <;> rfl
      have ez : (if 0 ≤ i ∧ i < 48 ∧ gCe γ i = 3 then (1 : Int) else 0) = hfa P (gCe γ) a i := by
        rw [hf]
        by_cases q : gCe γ i = 3
        · rw [if_pos q, if_pos ⟨h1, by omega, q⟩]
        · rw [if_neg q, if_neg (fun w => q w.2.2)]
      have hz := hfa_01 P (gCe γ) a i
      rw [ez, e9 _ _ _ _ _ _ hz, h_X3_loadHouse_128, if_pos (by omega), if_pos (by omega), l3, if_pos (by omega), jup_row _ _ _ _ _ (show (9 : Int) ≠ 8 by omega), jadd_id (by omega) (by omega), h_X3_loadHouse_130, jadd_id (by omega) (by omega)]
      have x8 : jup (jup X (r + 3) 8 (X (r + 3) 8 + b01 (opn (gCe γ) i))) (r + 3) 9 (X (r + 3) 9 + hfa P (gCe γ) a i) (r + 3) 8 = X (r + 3) 8 + b01 (opn (gCe γ) i) := by rw [jup_row _ _ _ _ _ (by omega), jup_same]
      have x9 : jup (jup X (r + 3) 8 (X (r + 3) 8 + b01 (opn (gCe γ) i))) (r + 3) 9 (X (r + 3) 9 + hfa P (gCe γ) a i) (r + 3) 9 = X (r + 3) 9 + hfa P (gCe γ) a i := jup_same _ _ _ _
      have hup : ∀ k, k ≠ r + 3 → jup (jup X (r + 3) 8 (X (r + 3) 8 + b01 (opn (gCe γ) i))) (r + 3) 9 (X (r + 3) 9 + hfa P (gCe γ) a i) k = X k := fun k hk => by rw [jup_rw _ _ _ _ _ hk, jup_rw _ _ _ _ _ hk]
      obtain ⟨X', e', f1, f2, f3, f4⟩ := ih (jup (jup X (r + 3) 8 (X (r + 3) 8 + b01 (opn (gCe γ) i))) (r + 3) 9 (X (r + 3) 9 + hfa P (gCe γ) a i)) (i + 1) (cPlan_fr (fun a h1 h2 => hup a (by omega)) hP) (cGr_fr (hup g (by omega)) (hup (g + 1) (by omega)) (hup (g + 2) (by omega)) hγ) (by omega) (by omega) (by rw [x8]; omega) (by rw [x8]; omega) (by rw [x9]; omega) (by rw [x9]; omega)
      refine ⟨X', e', fun k hk => by rw [f1 k hk, hup k hk], fun j j0 j1 => by rw [f2 j j0 j1, jup_row _ _ _ _ _ j1, jup_row _ _ _ _ _ j0], ?_, ?_⟩
      · rw [f3, x8]; show _ = X (r + 3) 8 + (hop P (gCe γ) a i + cnF _ n (i + 1)); rw [ho]; omega
      · rw [f4, x9]; show _ = X (r + 3) 9 + (hfa P (gCe γ) a i + cnF _ n (i + 1)); omega
    · have ho : hop P (gCe γ) a i = 0 := if_neg hq
      have hf : hfa P (gCe γ) a i = 0 := if_neg hq
      rw [if_pos (by split <;> omega), h_X3_loadHouse_130, jadd_id (by omega) (by omega)]
      obtain ⟨X', e', f1, f2, f3, f4⟩ := ih X (i + 1) hP hγ (by omega) (by omega) x1 (by omega) x3 (by omega)
      refine ⟨X', e', f1, f2, ?_, ?_⟩
      · rw [f3]; show _ = X (r + 3) 8 + (hop P (gCe γ) a i + cnF _ n (i + 1)); rw [ho]; omega
      · rw [f4]; show _ = X (r + 3) 9 + (hfa P (gCe γ) a i + cnF _ n (i + 1)); rw [hf]; omega
theorem s_tiltOf (d : Nat) {G : jG} {X : jX} {P : aP} {γ : aG} {m g r : Int} (h : Int) (hG : GG G) (hP : cPlan X P) (hO : pOk P) (hgO : gOk P γ) (hm : isMi G m g r) (hγ : cGr X g γ) (h0 : 0 ≤ h) (h1 : h < pH P) : ∃ X', jD (d + 4) 44 [(13, m), (0, h)] (G, X) = some (tlt P (gCe γ) h, (G, X')) ∧ (∀ k, k ≠ r + 2 → k ≠ r + 3 → X' k = X k) := by
  obtain ⟨hg, ⟨m0, m1, m2, m3, m4, m5⟩, ⟨l0, l1, l2, l3⟩, h25, hor⟩ := id hm
  have g4 : 25 ≤ g := hg.2.2.2.2
  have hn := pOk_n hO
  have hcc := pCe_le hO
  have hh := pOk_h hO h h0 h1
  have up : ∀ k, k ≠ r + 3 → jup (fil X (r + 3) 10 0) (r + 3) 2 (pHc P h) k = X k := fun k hk => by rw [jup_rw _ _ _ _ _ hk, fil_ne _ _ _ _ _ hk]
  have fz : ∀ j, 0 ≤ j → j < 10 → j ≠ 2 → jup (fil X (r + 3) 10 0) (r + 3) 2 (pHc P h) (r + 3) j = 0 := fun j j0 j1 j2 => by rw [jup_row _ _ _ _ _ j2, fil_at, if_pos ⟨j0, j1⟩]
  obtain ⟨X1, e1, f1, f2, f3, f4⟩ := s_house_n d h (pHc P h) hG hO hm hh.1 (by omega) (pCe P).toNat (jup (fil X (r + 3) 10 0) (r + 3) 2 (pHc P h)) 0 (cPlan_fr (fun a h1 h2 => up a (by omega)) hP) (cGr_fr (up g (by omega)) (up (g + 1) (by omega)) (up (g + 2) (by omega)) hγ) (by omega) (by omega) (by rw [fz 8 (by omega) (by omega) (by omega)]; omega) (by rw [fz 8 (by omega) (by omega) (by omega)]; omega) (by rw [fz 9 (by omega) (by omega) (by omega)]; omega) (by rw [fz 9 (by omega) (by omega) (by omega)]; omega)
  rw [fz 8 (by omega) (by omega) (by omega), Int.zero_add] at f3
  rw [fz 9 (by omega) (by omega) (by omega), Int.zero_add] at f4
  have F1 : ∀ k, k ≠ r + 3 → X1 k = X k := fun k hk => by rw [f1 k hk, up k hk]
  have load : jD (d + 3) 46 [(13, m), (0, h)] (G, X) = some (0, (G, X1)) := by
    have p6 : fil X (r + 3) 10 0 1 6 = pH P := by rw [fil_ne _ _ _ _ _ (by omega)]; exact (cPlan_at hP).2.2.2.2.2.2.1
    have p9 : fil X (r + 3) 10 0 9 h = pHc P h := by rw [fil_ne _ _ _ _ _ (by omega)]; exact (hP.2.2.2.2.1 h h0 h1).1
    rw [e_X3_loadHouse, if_pos (by omega), m5, s_fill (d + 1) (r + 3) 0 10 (by omega) l3 (by omega) (by omega)]
    simp only [Option.bind_some]
    rw [if_neg (by omega), if_pos (by omega), m0, if_pos (by omega), p6, if_pos (by omega), if_pos (by omega), if_pos (by omega), if_pos (by omega), gr_1_15 hG, if_pos (by omega), if_pos h0, gl_9 hG, if_pos (by omega), if_pos (by omega), m5, if_pos (by omega), l3, if_pos (by omega), p9]
    exact e1
  rw [e_X3_tiltOf, if_pos (by omega), load]
  simp only [Option.bind_some]
  rw [if_pos (by omega), m0, if_pos (by omega), gr_1_9 hG, if_pos (by omega), gl_3 hG, if_pos (by omega), F1 3 (by omega)]
  have hfo := hP.2.2.1.2.2
  have hwf := (pOk_f hO).2.2
  have a1 := cnF_le (hop_01 P (gCe γ) (pHc P h)) (pCe P).toNat 0
  have a2 := cnF_le (hfa_01 P (gCe γ) (pHc P h)) (pCe P).toNat 0
  unfold tlt
  cases hl : pFm P 2 with
  | none =>
    rw [hl] at hfo
    have hfo : X 3 2 = -1 := hfo
    rw [if_pos hfo, if_pos (by omega), m5, if_pos (by omega), l3, if_pos (by omega), if_pos (by omega), if_pos (by omega), if_pos (by omega), f3, f4, jmul_id (by omega) (by omega), jadd_id (by omega) (by omega), s_min (d + 2)]
    simp only [Option.bind_some]
    rw [s_max (d + 2)]
    simp only [Option.bind_some]
    refine ⟨X1, ?_, fun k _ hk => F1 k hk⟩
    congr 2
    grind
  | some l =>
    rw [hl] at hfo hwf
    obtain ⟨o0, o1, o2, o3⟩ : 0 ≤ X 3 2 ∧ X 3 2 + l.length < 1600 ∧ (∀ i : Nat, i < l.length → X 12 (X 3 2 + i) = toC (l.getD i 0)) ∧ X 12 (X 3 2 + l.length) = 10000 := hfo
    have hwf : wfC 1 0 l := hwf
    rw [if_neg (by omega), if_pos (by omega), if_pos (by omega), if_pos (by omega), gr_1_18 hG]
    have r12 : X1 12 = X 12 := F1 12 (by omega)
    have hfc : ∀ k, 0 ≤ k → k ≤ 9 → X1 (r + 3) k = fcH P (gCe γ) (pHc P h) k := by
      intro k k0 k9
      unfold fcH
      by_cases q2 : k = 2
      · rw [if_pos q2, q2, f2 2 (by omega) (by omega), jup_same]
      rw [if_neg q2]
      by_cases q8 : k = 8
      · rw [if_pos q8, q8, f3]
      rw [if_neg q8]
      by_cases q9 : k = 9
      · rw [if_pos q9, q9, f4]
      rw [if_neg q9, f2 k q8 q9, fz k k0 (by omega) q2]
    obtain ⟨X2, e2, g2⟩ := s_value d hm (cGr_fr (F1 g (by omega)) (F1 (g + 1) (by omega)) (F1 (g + 2) (by omega)) hγ) hgO 12 (X 3 2) (by omega) (by omega) (gl_12 hG) (fcH P (gCe γ) (pHc P h)) (fcH_le _ hO hh.1 (by omega)) l hwf o0 (by rw [r12]; exact o2) (by rw [r12]; exact o3) o1 hfc
    rw [e2]
    simp only [Option.bind_some]
    rw [evv_tb (tb' := tb0) (Or.inr rfl) hwf, s_min (d + 2)]
    simp only [Option.bind_some]
    rw [s_max (d + 2)]
    simp only [Option.bind_some]
    refine ⟨X2, ?_, fun k k1 k2 => by rw [g2 k k1, F1 k k2]⟩
    congr 2
    unfold cl0
    grind
theorem t_tilt_n (d : Nat) {G : jG} {X : jX} {P : aP} {γ : aG} (h a : Int) (hG : GG G) (hP : mPlan X P) (hO : pOk P) (hγ : mGr X 190 0 γ) (h0 : 0 ≤ h) (h1 : h < pH P) (ha : a = pHc P h) : ∀ (n : Nat) (i o l : Int), i + n = pCe P → 0 ≤ i → 0 ≤ o → o ≤ i → 0 ≤ l → l ≤ i → o + cnF (hop P (gCe γ) a) n i = cnF (hop P (gCe γ) a) (pCe P).toNat 0 → l + cnF (hfa P (gCe γ) a) n i = cnF (hfa P (gCe γ) a) (pCe P).toNat 0 → ∃ X', jN (d + 4) 255 18 [(22, 149), (0, h), (0, a), (0, o), (0, l), (0, i)] [] (G, X) = some (tlt P (gCe γ) h, (G, X')) ∧ mfE X X' := by
  have hn := pOk_n hO
  have hcc := pCe_le hO
  have hh := pOk_h hO h h0 h1
  intro n
  induction n with
  | zero =>
    intro i o l z0 z1 z2 z3 z4 z5 z6 z7
    have z6 : o = cnF (hop P (gCe γ) a) (pCe P).toNat 0 := by rw [← z6]; show o = o + 0; omega
    have z7 : l = cnF (hfa P (gCe γ) a) (pCe P).toNat 0 := by rw [← z7]; show l = l + 0; omega
    rw [h_X12_tiltOf_18, t_cellMany (d + 2) hG hP hO]
    simp only [Option.bind_some, Int.reduceLE, reduceIte]
    rw [if_neg (by omega), gr_149_46 hG, gl_187 hG]
    simp only [Int.reduceLE, Int.reduceLT, reduceIte]
    have hfo := hP.2.2.2.1.2.2
    have hwf := (pOk_f hO).2.2
    unfold tlt
    cases hl : pFm P 2 with
    | none =>
      rw [hl] at hfo
      have hfo : X 187 5 = -1 := hfo
      rw [if_pos hfo, jmul_id (by omega) (by omega), jadd_id (by omega) (by omega), z6, z7, ha]
      exact ⟨X, rfl, mfE_r X⟩
    | some q =>
      rw [hl] at hfo hwf
      obtain ⟨o0, o1, o2, o3⟩ : 0 ≤ X 187 (3 + 2) ∧ X 188 (3 + 2) = X 187 (3 + 2) + q.length ∧ X 188 (3 + 2) ≤ 1600 ∧ (∀ i : Nat, i < q.length → X 189 (1600 + (X 187 (3 + 2) + i)) = toM (q.getD i 0)) := hfo
      have hwf : wfC 1 0 q := hwf
      have o0' : ¬ X 187 5 = -1 := by intro w; have : X 187 (3 + 2) = -1 := w; omega
      rw [if_neg o0']
      have fr : ∀ k, k ≠ 149 → jup (jup (jup X 149 61 o) 149 62 l) 149 56 a k = X k := fun k hk => by rw [jup_rw _ _ _ _ _ hk, jup_rw _ _ _ _ _ hk, jup_rw _ _ _ _ _ hk]
      obtain ⟨X2, e2, fr2⟩ := t_codesTell (P := P) d 2 q (X := jup (jup (jup X 149 61 o) 149 62 l) 149 56 a) hG (by omega) (by omega) (Or.inr rfl) hwf (by rw [fr 187 (by omega)]; exact o0) (by rw [fr 187 (by omega), fr 188 (by omega)]; exact o1) (by rw [fr 188 (by omega)]; exact o2) (by rw [fr 187 (by omega), fr 189 (by omega)]; exact o3) (fcH P (gCe γ) a) (fcH_le _ hO (by omega) (by omega)) (fun op hop' hge => by
        have := hwf.2.2.2 op hop'
        unfold okO at this
        simp at this
        rcases this.2 hge with rfl | rfl | rfl
        · show jup _ 149 56 a 149 56 = _; rw [jup_same]; simp [fcH]
        · show jup _ 149 56 a 149 61 = _; rw [jup_row _ _ _ _ _ (by omega), jup_row _ _ _ _ _ (by omega), jup_same, z6]; simp [fcH]
        · show jup _ 149 56 a 149 62 = _; rw [jup_row _ _ _ _ _ (by omega), jup_same, z7]; simp [fcH])
      have hv := evv_ok (fcH_le (gCe γ) hO (show 0 ≤ a by omega) (show a ≤ 8 by omega)) (tb := tb0) (fun x => by unfold tb0; omega) hwf
      rw [e2]
      simp only [Option.bind_some]
      rw [t_cut0 (d + 3) _ 9999 hv.1 hv.2.1]
      simp only [Option.bind_some]
      refine ⟨X2, by rw [ha], mfE_t ⟨fun k h1 _ => fr k h1, fun j j0 _ => ?_⟩ fr2⟩
      rw [jup_row _ _ _ _ _ (by omega), jup_row _ _ _ _ _ (by omega), jup_row _ _ _ _ _ (by omega)]
  | succ n ih =>
    intro i o l z0 z1 z2 z3 z4 z5 z6 z7
    have hmi := mod_in hO (c := i) ⟨z1, by omega⟩
    have z6 : o + (hop P (gCe γ) a i + cnF (hop P (gCe γ) a) n (i + 1)) = cnF (hop P (gCe γ) a) (pCe P).toNat 0 := z6
    have z7 : l + (hfa P (gCe γ) a i + cnF (hfa P (gCe γ) a) n (i + 1)) = cnF (hfa P (gCe γ) a) (pCe P).toNat 0 := z7
    rw [h_X12_tiltOf_18, t_cellMany (d + 2) hG hP hO]
    simp only [Option.bind_some, Int.reduceLE, reduceIte]
    rw [if_pos (by omega), t_columns (d + 3) hG hP]
    simp only [Option.bind_some]
    rw [if_neg (show ¬ pC P = 0 by omega), jrem_id z1, jsub_id (by omega) (by omega), jadd_id (a := a) (by omega) (by omega), t_isIn (d + 3)]
    simp only [Option.bind_some]
    rw [jadd_id (a := i) (by omega) (by omega), jadd_id (a := o) (by omega) (by omega), jadd_id (a := l) (by omega) (by omega)]
    by_cases hq : -1 ≤ i % pC P - a ∧ i % pC P - a ≤ 1
    · have ho : hop P (gCe γ) a i = b01 (opn (gCe γ) i) := if_pos hq
      have hf : hfa P (gCe γ) a i = (if gCe γ i = 3 then 1 else 0) := if_pos hq
      rw [if_pos (show a - 1 ≤ i % pC P ∧ i % pC P ≤ a + 1 by omega), if_neg (show ¬ (1 : Int) = 0 by omega), t_isOpen (d + 2) i hG hγ z1 (by omega)]
      simp only [Option.bind_some]
      rw [t_whatIs (d + 3) i hG hγ z1 (by omega)]
      simp only [Option.bind_some]
      rcases b01_or (opn (gCe γ) i) with ⟨e, -⟩ | ⟨e, -⟩
      · rw [if_pos e]
        by_cases q3 : gCe γ i = 3
        · rw [if_pos q3] at hf ⊢
          exact ih (i + 1) o (l + 1) (by omega) (by omega) z2 (by omega) (by omega) (by omega) (by omega) (by omega)
        · rw [if_neg q3] at hf ⊢
          exact ih (i + 1) o l (by omega) (by omega) z2 (by omega) z4 (by omega) (by omega) (by omega)
      · rw [if_neg (by omega)]
        by_cases q3 : gCe γ i = 3
        · rw [if_pos q3] at hf ⊢
          exact ih (i + 1) (o + 1) (l + 1) (by omega) (by omega) (by omega) (by omega) (by omega) (by omega) (by omega) (by omega)
        · rw [if_neg q3] at hf ⊢
          exact ih (i + 1) (o + 1) l (by omega) (by omega) (by omega) (by omega) z4 (by omega) (by omega) (by omega)
    · have ho : hop P (gCe γ) a i = 0 := if_neg hq
      have hf : hfa P (gCe γ) a i = 0 := if_neg hq
      rw [if_neg (show ¬ (a - 1 ≤ i % pC P ∧ i % pC P ≤ a + 1) by omega), if_pos rfl]
      exact ih (i + 1) o l (by omega) (by omega) z2 (by omega) z4 (by omega) (by omega) (by omega)
theorem t_tiltOf (d : Nat) {G : jG} {X : jX} {P : aP} {γ : aG} (h : Int) (hG : GG G) (hP : mPlan X P) (hO : pOk P) (hγ : mGr X 190 0 γ) (h0 : 0 ≤ h) (h1 : h < pH P) : ∃ X', jD (d + 5) 255 [(22, 149), (0, h)] (G, X) = some (tlt P (gCe γ) h, (G, X')) ∧ mfE X X' := by
  have hn := pOk_n hO
  have hcc := pCe_le hO
  rw [e_X12_tiltOf, gr_149_44 hG, gl_185 hG, jadd_id (by omega) (by omega), (hP.2.2.2.2.2.1 h h0 h1).1]
  simp only [Int.reduceLE, reduceIte]
  rw [if_pos (by omega), if_pos (by omega)]
  exact t_tilt_n d h _ hG hP hO hγ h0 h1 rfl (pCe P).toNat 0 0 0 (by omega) (by omega) (by omega) (by omega) (by omega) (by omega) (by omega) (by omega)
noncomputable def housS (h w : Int) (A : aA) : Int := if 0 ≤ h ∧ h < pH (aPl A) then (if w = 0 then pHc (aPl A) h else if w = 1 then tlt (aPl A) (gCe (aGr A)) h else if w = 2 then (if pLe (aPl A) < tlt (aPl A) (gCe (aGr A)) h then 1 else 0) else -1) else -1
theorem call_house (h w : Int) : okB 160 256 [(0, h), (0, w)] := by
  refine ⟨housS h w, fun A => A, fun d G X A hG hR hV => ?_, fun d G X A hG hR hV => ?_, fun A hV => hV⟩
  · obtain ⟨r1, r2, r3, r4, r5, r6, r7, r8, r9, r10, r11⟩ := id hR
    have hO := hV.2.1
    have hn := pOk_n hO
    have fin : ∀ (v : Int) (X1 : jX), (∀ k, k ≠ 40 → k ≠ 41 → X1 k = X k) → v = housS h w A → ∃ G' X', (some (v, (G, X1)) : jR) = some (housS h w A, (G', X')) ∧ GG G' ∧ RC A X' ∧ ∀ a, 149 ≤ a → X' a = X a := fun v X1 hf hv => ⟨G, X1, by rw [hv], hG, RC_same (fun a ha => hf a (by unfold sR at ha; omega) (by unfold sR at ha; omega)) hR, fun a ha => hf a (by omega) (by omega)⟩
    rw [e_X11_house, gr_0_2 hG, gr_0_5 hG, gr_1_15 hG, gl_9 hG, (cPlan_at r3).2.2.2.2.2.2.1]
    simp only [Int.reduceLE, reduceIte]
    by_cases hi : 0 ≤ h ∧ h < pH (aPl A)
    · have ce : housS h w A = (if w = 0 then pHc (aPl A) h else if w = 1 then tlt (aPl A) (gCe (aGr A)) h else if w = 2 then (if pLe (aPl A) < tlt (aPl A) (gCe (aGr A)) h then 1 else 0) else -1) := if_pos hi
      obtain ⟨X1, e1, f1⟩ := s_tiltOf (d + 55) h hG r3 hO hV.2.2.1 (mi_0 hG) r4 hi.1 hi.2
      rw [if_neg (by omega), if_pos hi.2, e1, if_pos hi.1, if_pos (show h < 6 by omega), (r3.2.2.2.2.1 h hi.1 hi.2).1]
      simp only [Option.bind_some]
      rw [gr_0_2 hG, gr_1_8 hG, gl_2 hG, show X1 2 2 = pLe (aPl A) by rw [f1 2 (by omega) (by omega)]; exact r3.2.1.2.2]
      simp only [Int.reduceLE, Int.reduceLT, reduceIte]
      by_cases q0 : w = 0
      · rw [if_pos q0]; exact fin _ X (fun _ _ _ => rfl) (by rw [ce, if_pos q0])
      rw [if_neg q0] at ce ⊢
      by_cases q1 : w = 1
      · rw [if_pos q1]; exact fin _ X1 f1 (by rw [ce, if_pos q1])
      rw [if_neg q1] at ce ⊢
      by_cases q2 : w = 2
      · rw [if_pos q2] at ce ⊢
        by_cases q3 : pLe (aPl A) < tlt (aPl A) (gCe (aGr A)) h
        · rw [if_pos q3] at ce ⊢; exact fin _ X1 f1 ce.symm
        · rw [if_neg q3] at ce ⊢; exact fin _ X1 f1 ce.symm
      rw [if_neg q2] at ce ⊢
      exact fin _ X (fun _ _ _ => rfl) ce.symm
    · have ce : housS h w A = -1 := if_neg hi
      by_cases q : h < 0
      · rw [if_pos q]; exact fin _ X (fun _ _ _ => rfl) ce.symm
      · rw [if_neg q, if_neg (by omega)]; exact fin _ X (fun _ _ _ => rfl) ce.symm
  · obtain ⟨r1, r2, r3, r4, r5, r6, r7, r8, r9, r10, r11⟩ := id hR
    have hO := hV.2.1
    have hn := pOk_n hO
    have fin : ∀ (v : Int) (X1 : jX), mfE X X1 → v = housS h w A → ∃ X', (some (v, (G, X1)) : jR) = some (housS h w A, (G, X')) ∧ RM A X' ∧ ∀ a, a < 149 → X' a = X a := fun v X1 hf hv => ⟨X1, by rw [hv], RM_same (fun a ha => hf.1 a (by unfold sM at ha; omega) (by unfold sM at ha; omega)) (fun j hj => hf.2 j (by unfold sN at hj; omega) (by unfold sN at hj; omega)) hR, fun a ha => hf.1 a (by omega) (by omega)⟩
    rw [e_X12_house, gr_149_40 hG, gl_181 hG, (mPlan_at r3).2.2.2.1, jsub_id (by omega) (by omega), t_isIn (d + 58)]
    simp only [Option.bind_some, Int.reduceLE, Int.reduceLT, reduceIte]
    by_cases hi : 0 ≤ h ∧ h < pH (aPl A)
    · have ce : housS h w A = (if w = 0 then pHc (aPl A) h else if w = 1 then tlt (aPl A) (gCe (aGr A)) h else if w = 2 then (if pLe (aPl A) < tlt (aPl A) (gCe (aGr A)) h then 1 else 0) else -1) := if_pos hi
      obtain ⟨X1, e1, f1⟩ := t_tiltOf (d + 54) h hG r3 hO r4 hi.1 hi.2
      rw [if_pos (show 0 ≤ h ∧ h ≤ pH (aPl A) - 1 by omega), if_neg (show ¬ (1 : Int) = 0 by omega), e1, gr_149_44 hG, gl_185 hG, jadd_id (by omega) (by omega), (r3.2.2.2.2.2.1 h hi.1 hi.2).1]
      simp only [Option.bind_some, Int.reduceLE, reduceIte]
      rw [gr_149_45 hG, gl_186 hG, show X1 186 5 = pLe (aPl A) by rw [f1.1 186 (by omega) (by omega)]; exact r3.2.2.1.2.2, if_pos (show 0 ≤ 6 + h by omega), if_pos (show 6 + h < 12 by omega)]
      simp only [Int.reduceLE, Int.reduceLT, reduceIte]
      by_cases q0 : w = 0
      · rw [if_pos q0]; exact fin _ X (mfE_r X) (by rw [ce, if_pos q0])
      rw [if_neg q0] at ce ⊢
      by_cases q1 : w = 1
      · rw [if_pos q1]; exact fin _ X1 f1 (by rw [ce, if_pos q1])
      rw [if_neg q1] at ce ⊢
      by_cases q2 : w = 2
      · rw [if_pos q2] at ce ⊢
        by_cases q3 : pLe (aPl A) < tlt (aPl A) (gCe (aGr A)) h
        · rw [if_pos q3] at ce ⊢; exact fin _ X1 f1 ce.symm
        · rw [if_neg q3] at ce ⊢; exact fin _ X1 f1 ce.symm
      rw [if_neg q2] at ce ⊢
      exact fin _ X (mfE_r X) ce.symm
    · have ce : housS h w A = -1 := if_neg hi
      rw [if_neg (show ¬ (0 ≤ h ∧ h ≤ pH (aPl A) - 1) by omega), if_pos rfl]
      exact fin _ X (mfE_r X) ce.symm
