/-! COUNTS, A CELL CUT, BLASTS, TILT: the class -/
noncomputable def ct0 (P : aP) (st : Int → Int) : Int → Int := fun c => if why P st c = 0 then 1 else 0
theorem isRc_of {P : aP} {st : Int → Int} {X X' : jX} {r : Int} (h : X' r = X r) (hr : isRc P st (X r)) : isRc P st (X' r) := by rw [h]; exact hr
theorem s_countCut_n (d : Nat) {G : jG} {P : aP} {γ : aG} {m g r : Int} (hG : GG G) (hO : pOk P) (hgO : gOk P γ) (hm : isMi G m g r) : ∀ (n : Nat) (X : jX) (i v : Int), cPlan X P → cGr X g γ → isRc P (gCe γ) (X r) → 0 ≤ i → i + n = pCe P → 0 ≤ v → v ≤ i → ∃ X', jN (d + 5) 32 8 [(13, m), (0, v), (0, i)] [] (G, X) = some (v + cnt (fun k => ct0 P (gCe γ) (i + k)) n, (G, X')) ∧ (∀ k, k ≠ r + 2 → k ≠ r + 3 → X' k = X k) := by
  obtain ⟨hg, ⟨m0, m1, m2, m3, m4, m5⟩, ⟨l0, l1, l2, l3⟩, h25, hor⟩ := id hm
  have g4 : 25 ≤ g := hg.2.2.2.2
  have hcc := pCe_le hO
  have cnt_s : ∀ (f : Int → Int) (n : Nat), cnt f (n + 1) = f 0 + cnt (fun k => f (1 + k)) n := by
    intro f n
    induction n with
    | zero => show 0 + f 0 = f 0 + 0; omega
    | succ n ih =>
      show cnt f (n + 1) + f ((n + 1 : Nat) : Int) = f 0 + (cnt (fun k => f (1 + k)) n + f (1 + (n : Int)))
      rw [ih, show ((n + 1 : Nat) : Int) = 1 + (n : Int) by omega]; omega
  intro n
  induction n with
  | zero =>
    intro X i v hP hγ hr h0 h1 h2 h3
    have ha := cPlan_at hP
    refine ⟨X, ?_, fun _ _ _ => rfl⟩
    rw [h_X3_countCuttable_8, if_pos (by omega), m0, if_pos (by omega), ha.2.1, if_neg (by omega)]
    show _ = some (v + 0, _)
    rw [Int.add_zero]
  | succ n ih =>
    intro X i v hP hγ hr h0 h1 h2 h3
    have ha := cPlan_at hP
    obtain ⟨X1, e1, f1⟩ := s_why d i hG hP hO hgO hm hγ hr
    rw [h_X3_countCuttable_8, if_pos (by omega), m0, if_pos (by omega), ha.2.1, if_pos (by omega), if_pos (by omega), e1]
    simp only [Option.bind_some]
    rw [if_pos (show 0 ≤ i ∧ i < pCe P by omega), jadd_id (a := i) (by omega) (by omega), jadd_id (a := v) (by omega) (by omega), cnt_s]
    have hP1 := cPlan_fr (X' := X1) (fun a h1 h2 => f1 a (by omega) (by omega)) hP
    have hγ1 := cGr_fr (f1 g (by omega) (by omega)) (f1 (g + 1) (by omega) (by omega)) (f1 (g + 2) (by omega) (by omega)) hγ
    have hr1 := isRc_of (f1 r (by omega) (by omega)) hr
    have e2 : (fun k => (fun k => ct0 P (gCe γ) (i + k)) (1 + k)) = (fun k => ct0 P (gCe γ) (i + 1 + k)) := by funext k; dsimp only; rw [Int.add_assoc]
    rw [e2]
    try dsimp only
    rw [Int.add_zero]
    by_cases hw : why P (gCe γ) i = 0
    · rw [if_pos hw]
      obtain ⟨X', e', f'⟩ := ih X1 (i + 1) (v + 1) hP1 hγ1 hr1 (by omega) (by omega) (by omega) (by omega)
      refine ⟨X', ?_, fun k k0 k1 => by rw [f' k k0 k1, f1 k k0 k1]⟩
      rw [e']
      unfold ct0
      rw [if_pos hw, Int.add_assoc]
    · rw [if_neg hw]
      obtain ⟨X', e', f'⟩ := ih X1 (i + 1) v hP1 hγ1 hr1 (by omega) (by omega) (by omega) (by omega)
      refine ⟨X', ?_, fun k k0 k1 => by rw [f' k k0 k1, f1 k k0 k1]⟩
      rw [e']
      unfold ct0
      rw [if_neg hw, Int.zero_add]
/-- how many can be cut -/
noncomputable def nct (P : aP) (st : Int → Int) : Int := cnt (ct0 P st) (pCe P).toNat
theorem s_countCuttable (d : Nat) {G : jG} {X : jX} {P : aP} {γ : aG} {m g r : Int} (hG : GG G) (hP : cPlan X P) (hO : pOk P) (hgO : gOk P γ) (hm : isMi G m g r) (hγ : cGr X g γ) : ∃ X', jD (d + 6) 32 [(13, m)] (G, X) = some (nct P (gCe γ), (G, X')) ∧ (∀ k, mSc m r k → X' k = X k) := by
  obtain ⟨hg, ⟨m0, m1, m2, m3, m4, m5⟩, ⟨l0, l1, l2, l3⟩, h25, hor⟩ := id hm
  have g4 : 25 ≤ g := hg.2.2.2.2
  have hcc := pCe_le hO
  obtain ⟨X1, e1, r1, f1⟩ := s_look (d + 1) hG hP hO hm hγ
  rw [e_X3_countCuttable, if_pos (by omega), e1]
  simp only [Option.bind_some]
  obtain ⟨X2, e2, f2⟩ := s_countCut_n d hG hO hgO hm (pCe P).toNat X1 0 0 (cPlan_fr (fun a h1 h2 => f1 a (by omega) (by omega) (by omega)) hP) (cGr_fr (f1 g (by omega) (by omega) (by omega)) (f1 (g + 1) (by omega) (by omega) (by omega)) (f1 (g + 2) (by omega) (by omega) (by omega)) hγ) r1 (by omega) (by omega) (by omega) (by omega)
  refine ⟨X2, ?_, fun k hk => by rw [f2 k hk.2.2.2.1 hk.2.2.2.2, f1 k hk.1 hk.2.1 hk.2.2.1]⟩
  rw [e2]
  unfold nct
  simp only [Int.zero_add]
/-- of those that are 1 the one with k ahead of it -/
def kth (f : Int → Int) : Nat → Int → Int → Int
  | 0, _, _ => -1
  | n + 1, i, k => if f i = 1 then (if k = 0 then i else kth f n (i + 1) (k - 1)) else kth f n (i + 1) k
theorem s_cuttable_n (d : Nat) {G : jG} {P : aP} {γ : aG} {m g r : Int} (hG : GG G) (hO : pOk P) (hgO : gOk P γ) (hm : isMi G m g r) (a : Int) : ∀ (n : Nat) (X : jX) (i v : Int), cPlan X P → cGr X g γ → isRc P (gCe γ) (X r) → 0 ≤ i → i + n = pCe P → 0 ≤ v → v ≤ i → ∃ X', jN (d + 5) 33 8 [(13, m), (0, a), (0, v), (0, i)] [] (G, X) = some (kth (ct0 P (gCe γ)) n i (a - v), (G, X')) ∧ (∀ k, k ≠ r + 2 → k ≠ r + 3 → X' k = X k) := by
  obtain ⟨hg, ⟨m0, m1, m2, m3, m4, m5⟩, ⟨l0, l1, l2, l3⟩, h25, hor⟩ := id hm
  have g4 : 25 ≤ g := hg.2.2.2.2
  have hcc := pCe_le hO
  intro n
  induction n with
  | zero =>
    intro X i v hP hγ hr h0 h1 h2 h3
    have ha := cPlan_at hP
    refine ⟨X, ?_, fun _ _ _ => rfl⟩
    rw [h_X3_cuttable_8, if_pos (by omega), m0, if_pos (by omega), ha.2.1, if_neg (by omega)]
    rfl
  | succ n ih =>
    intro X i v hP hγ hr h0 h1 h2 h3
    have ha := cPlan_at hP
    obtain ⟨X1, e1, f1⟩ := s_why d i hG hP hO hgO hm hγ hr
    rw [h_X3_cuttable_8, if_pos (by omega), m0, if_pos (by omega), ha.2.1, if_pos (by omega), if_pos (by omega), e1]
    simp only [Option.bind_some]
    rw [if_pos (show 0 ≤ i ∧ i < pCe P by omega), jadd_id (a := i) (by omega) (by omega), jadd_id (a := v) (by omega) (by omega)]
    have hP1 := cPlan_fr (X' := X1) (fun a h1 h2 => f1 a (by omega) (by omega)) hP
    have hγ1 := cGr_fr (f1 g (by omega) (by omega)) (f1 (g + 1) (by omega) (by omega)) (f1 (g + 2) (by omega) (by omega)) hγ
    have hr1 := isRc_of (f1 r (by omega) (by omega)) hr
    show ∃ X', _ = some (if ct0 P (gCe γ) i = 1 then (if a - v = 0 then i else kth (ct0 P (gCe γ)) n (i + 1) (a - v - 1)) else kth (ct0 P (gCe γ)) n (i + 1) (a - v), (G, X')) ∧ _
    by_cases hw : why P (gCe γ) i = 0
    · have hc1 : ct0 P (gCe γ) i = 1 := by unfold ct0; rw [if_pos hw]
      rw [if_pos hw, if_pos hc1]
      by_cases hv : v = a
      · rw [if_pos hv, if_pos (by omega)]
        exact ⟨X1, rfl, f1⟩
      · rw [if_neg hv, if_neg (by omega)]
        obtain ⟨X', e', f'⟩ := ih X1 (i + 1) (v + 1) hP1 hγ1 hr1 (by omega) (by omega) (by omega) (by omega)
        refine ⟨X', ?_, fun k k0 k1 => by rw [f' k k0 k1, f1 k k0 k1]⟩
        rw [e', show a - (v + 1) = a - v - 1 by omega]
    · have hc1 : ¬ ct0 P (gCe γ) i = 1 := by unfold ct0; rw [if_neg hw]; omega
      rw [if_neg hw, if_neg hc1]
      obtain ⟨X', e', f'⟩ := ih X1 (i + 1) v hP1 hγ1 hr1 (by omega) (by omega) (by omega) (by omega)
      exact ⟨X', e', fun k k0 k1 => by rw [f' k k0 k1, f1 k k0 k1]⟩
theorem s_cuttable (d : Nat) {G : jG} {X : jX} {P : aP} {γ : aG} {m g r : Int} (a : Int) (hG : GG G) (hP : cPlan X P) (hO : pOk P) (hgO : gOk P γ) (hm : isMi G m g r) (hγ : cGr X g γ) : ∃ X', jD (d + 6) 33 [(13, m), (0, a)] (G, X) = some (kth (ct0 P (gCe γ)) (pCe P).toNat 0 a, (G, X')) ∧ (∀ k, mSc m r k → X' k = X k) := by
  obtain ⟨hg, ⟨m0, m1, m2, m3, m4, m5⟩, ⟨l0, l1, l2, l3⟩, h25, hor⟩ := id hm
  have g4 : 25 ≤ g := hg.2.2.2.2
  have hcc := pCe_le hO
  obtain ⟨X1, e1, r1, f1⟩ := s_look (d + 1) hG hP hO hm hγ
  rw [e_X3_cuttable, if_pos (by omega), e1]
  simp only [Option.bind_some]
  obtain ⟨X2, e2, f2⟩ := s_cuttable_n d hG hO hgO hm a (pCe P).toNat X1 0 0 (cPlan_fr (fun a h1 h2 => f1 a (by omega) (by omega) (by omega)) hP) (cGr_fr (f1 g (by omega) (by omega) (by omega)) (f1 (g + 1) (by omega) (by omega) (by omega)) (f1 (g + 2) (by omega) (by omega) (by omega)) hγ) r1 (by omega) (by omega) (by omega) (by omega)
  refine ⟨X2, ?_, fun k hk => by rw [f2 k hk.2.2.2.1 hk.2.2.2.2, f1 k hk.1 hk.2.1 hk.2.2.1]⟩
  rw [e2, Int.sub_zero]
/-! cut -/
theorem s_fell (d : Nat) {G : jG} {X : jX} {P : aP} {m g r : Int} (c : Int) (hP : cPlan X P) (hO : pOk P) (hi : inP P c) (hm : isMi G m g r) : jD (d + 2) 43 [(13, m), (0, c)] (G, X) = some (0, (G, jup X (g + 1) c 3)) := by
  obtain ⟨⟨g0, g1, g2, g3, g4⟩, ⟨m0, m1, m2, m3, m4, m5⟩, ⟨l0, l1, l2, l3⟩, h25, hor⟩ := id hm
  have hcc := pCe_le hO
  have hi' : 0 ≤ c ∧ c < pCe P := hi
  rw [e_X3_fell, if_pos (by omega), m0, if_pos (by omega), s_isCell d c hP]
  simp only [Option.bind_some]
  rw [if_pos hi', if_neg (by omega), if_pos (by omega), m1, if_pos (by omega), g0, if_pos (by omega), if_pos (by omega), g2, if_pos (by omega)]
theorem s_dig_n (d : Nat) {G : jG} {P : aP} {m g r : Int} (a b k0 f t : Int) (hO : pOk P) (hm : isMi G m g r) (hf : 0 ≤ f) (ht : t < pCe P) : ∀ (n : Nat) (X : jX) (i : Int), cPlan X P → f ≤ i → i + n = t + 1 → ∃ X', jN (d + 2) 41 103 [(13, m), (0, a), (0, b), (0, k0), (0, f), (0, t), (0, i)] [] (G, X) = some (0, (G, X')) ∧ (∀ k, k ≠ g + 1 → X' k = X k) ∧ ∀ c, X' (g + 1) c = if i ≤ c ∧ c ≤ t then 3 else X (g + 1) c := by
  obtain ⟨⟨g0, g1, g2, g3, g4⟩, ⟨m0, m1, m2, m3, m4, m5⟩, ⟨l0, l1, l2, l3⟩, h25, hor⟩ := id hm
  have hcc := pCe_le hO
  intro n
  induction n with
  | zero =>
    intro X i hP h0 h1
    refine ⟨X, ?_, fun _ _ => rfl, fun c => by rw [if_neg (by omega)]⟩
    rw [h_X3_dig_103, if_pos (by omega), h_X3_dig_122 _ _ _ _ _ _ _ _ (Or.inr rfl)]
  | succ n ih =>
    intro X i hP h0 h1
    rw [h_X3_dig_103, if_neg (by omega), if_pos (by omega), s_fell d i hP hO ⟨by omega, by omega⟩ hm]
    simp only [Option.bind_some]
    rw [jadd_id (by omega) (by omega)]
    obtain ⟨X', e, f1, c1⟩ := ih (jup X (g + 1) i 3) (i + 1) (cPlan_fr (fun a h1 h2 => jup_rw _ _ _ _ _ (by omega)) hP) (by omega) (by omega)
    refine ⟨X', e, fun k hk => by rw [f1 k hk, jup_rw _ _ _ _ _ hk], fun c => ?_⟩
    rw [c1 c]
    by_cases q : c = i
    · rw [if_neg (by omega), if_pos (by omega), q, jup_same]
    · rw [jup_row _ _ _ _ _ q]
      by_cases q2 : i + 1 ≤ c ∧ c ≤ t
      · rw [if_pos q2, if_pos (by omega)]
      · rw [if_neg q2, if_neg (by omega)]
theorem nwh_le (st : Int → Int) (n : Nat) : 0 ≤ nwh st n ∧ nwh st n ≤ n := by
  induction n with
  | zero => exact ⟨Int.le_refl 0, Int.le_refl 0⟩
  | succ n ih =>
    show 0 ≤ nwh st n + (if st n = 0 then 0 else 1) ∧ nwh st n + (if st n = 0 then 0 else 1) ≤ _
    split <;> omega
theorem s_dig (d : Nat) {G : jG} {X : jX} {P : aP} {γ : aG} {m g r : Int} (c w : Int) (hG : GG G) (hP : cPlan X P) (hO : pOk P) (hgO : gOk P γ) (hi : inP P c) (hm : isMi G m g r) (hγ : cGr X g γ) (hw0 : 0 ≤ w) (hw1 : w ≤ 999) : ∃ X', jD (d + 3) 41 [(13, m), (0, c), (0, w)] (G, X) = some (0, (G, X')) ∧ cGr X' g (dig P γ c w) ∧ (∀ k, k ≠ g → k ≠ g + 1 → k ≠ g + 2 → X' k = X k) := by
  obtain ⟨⟨g0, g1, g2, g3, g4⟩, ⟨m0, m1, m2, m3, m4, m5⟩, ⟨l0, l1, l2, l3⟩, h25, hor⟩ := id hm
  have hcc := pCe_le hO
  have hi' : 0 ≤ c ∧ c < pCe P := hi
  have hs := sp_in (gCe γ) hO hi
  have hk := pOk_c hO c hi.1 hi.2
  have hn := pOk_n hO
  have hq := nwh_le (gCe γ) 48
  obtain ⟨o1, o2, o3, o4, o5, o6, o7, o8⟩ := id hgO
  obtain ⟨⟨c1, c2, c3⟩, c4, c5⟩ := id hγ
  have hsp := spn_le (gCe γ) hO hi
  rw [e_X3_dig, if_pos (by omega), m0, if_pos (by omega), s_isCell (d + 1) c hP]
  simp only [Option.bind_some]
  rw [if_pos hi', if_neg (by omega), if_pos (by omega), m0, if_pos (by omega), s_kindOf d c hG hP hO, if_pos hi']
  simp only [Option.bind_some]
  rw [if_pos (by omega), s_spanStart d c hP hO hi hm hγ]
  simp only [Option.bind_some]
  rw [if_pos (by omega), s_spanEnd d c hP hO hi hm hγ]
  simp only [Option.bind_some]
  -- behind the store
  have tail : ∀ X1 : jX, (∀ k, k ≠ g + 2 → X1 k = X k) → (∀ k, 0 ≤ k → k < 5 → X1 (g + 2) k = if k = pSe P c then gSt γ k + 1 else gSt γ k) → ∃ X', jN (d + 2) 41 57 [(13, m), (0, c), (0, w), (0, pSe P c), (0, c - spL P (gCe γ) c), (0, c + spR P (gCe γ) c), (2, (-1))] [] (G, X1) = some (0, (G, X')) ∧ cGr X' g (dig P γ c w) ∧ (∀ k, k ≠ g → k ≠ g + 1 → k ≠ g + 2 → X' k = X k) := by
    intro X1 f1 t1
    have x3 : X1 g 3 = gWo γ := by rw [f1 g (by omega)]; exact c2
    rw [h_X3_dig_57, if_pos (by omega), m1, if_pos (by omega), if_pos (by omega), if_pos (by omega), if_pos (by omega), g0, if_pos (by omega), if_pos (by omega), g2, if_pos (by omega), if_pos (by omega), m0, if_pos (by omega), gr_1_8 hG, if_pos (by omega), gl_2 hG, if_pos (by omega), x3, jadd_id (by omega) (by omega)]
    have e2 : (jup (jup X1 g 3 (gWo γ + w)) (g + 1) c 1) 2 0 = pHo P := by
      rw [jup_cell _ _ _ _ _ _ (by omega), jup_cell _ _ _ _ _ _ (by omega), f1 2 (by omega)]; exact hP.2.1.1
    have e3 : jadd (jsub (c + spR P (gCe γ) c) (c - spL P (gCe γ) c)) 1 = spn P (gCe γ) c := by
      rw [jsub_id (by omega) (by omega), jadd_id (by omega) (by omega)]; unfold spn; omega
    rw [e2, e3]
    have base : ∀ X2 : jX, X2 g = jup X1 g 3 (gWo γ + w) g → X2 (g + 2) = X1 (g + 2) → (∀ i, 0 ≤ i → i < 48 → X2 (g + 1) i = gCe (dig P γ c w) i) → cGr X2 g (dig P γ c w) := by
      intro X2 a1 a2 a3
      refine ⟨⟨?_, ?_, ?_⟩, a3, fun k k0 k1 => ?_⟩
      · rw [a1, jup_row _ _ _ _ _ (by omega), f1 g (by omega)]; exact c1
      · rw [a1, jup_same]; rfl
      · rw [a1, jup_row _ _ _ _ _ (by omega), f1 g (by omega)]; exact c3
      · rw [a2]; exact t1 k k0 k1
    by_cases hf : pHo P < spn P (gCe γ) c
    · rw [if_pos hf]
      obtain ⟨X', e', f', c'⟩ := s_dig_n d c w (pSe P c) (c - spL P (gCe γ) c) (c + spR P (gCe γ) c) hO hm (by have := hs.2.2.2.2.1.1; omega) (by have := hs.2.2.2.2.2.2; omega) (spL P (gCe γ) c + spR P (gCe γ) c + 1).toNat (jup (jup X1 g 3 (gWo γ + w)) (g + 1) c 1) (c - spL P (gCe γ) c) (cPlan_fr (fun a h1 h2 => by rw [jup_rw _ _ _ _ _ (by omega), jup_rw _ _ _ _ _ (by omega), f1 a (by omega)]) hP) (Int.le_refl _) (by omega)
      refine ⟨X', e', base X' ?_ ?_ ?_, fun k k0 k1 k2 => ?_⟩
      · rw [f' g (by omega), jup_rw _ _ _ _ _ (by omega)]
      · rw [f' (g + 2) (by omega), jup_rw _ _ _ _ _ (by omega), jup_rw _ _ _ _ _ (by omega)]
      · intro i i0 i1
        rw [c' i]
        show _ = if pHo P < spn P (gCe γ) c then (if c - spL P (gCe γ) c ≤ i ∧ i ≤ c + spR P (gCe γ) c then 3 else gCe γ i) else if i = c then 1 else gCe γ i
        rw [if_pos hf]
        by_cases q : c - spL P (gCe γ) c ≤ i ∧ i ≤ c + spR P (gCe γ) c
        · rw [if_pos q, if_pos q]
        · rw [if_neg q, if_neg q, jup_row _ _ _ _ _ (by omega), jup_rw _ _ _ _ _ (by omega), f1 (g + 1) (by omega), c4 i i0 i1]
      · rw [f' k k1, jup_rw _ _ _ _ _ k1, jup_rw _ _ _ _ _ k0, f1 k k2]
    · rw [if_neg hf, h_X3_dig_122 _ _ _ _ _ _ _ _ (Or.inl rfl)]
      refine ⟨_, rfl, base _ ?_ ?_ ?_, fun k k0 k1 k2 => ?_⟩
      · rw [jup_rw _ _ _ _ _ (by omega)]
      · rw [jup_rw _ _ _ _ _ (by omega), jup_rw _ _ _ _ _ (by omega)]
      · intro i i0 i1
        show _ = if pHo P < spn P (gCe γ) c then (if c - spL P (gCe γ) c ≤ i ∧ i ≤ c + spR P (gCe γ) c then 3 else gCe γ i) else if i = c then 1 else gCe γ i
        rw [if_neg hf]
        by_cases q : i = c
        · rw [if_pos q, q, jup_same]
        · rw [if_neg q, jup_row _ _ _ _ _ q, jup_rw _ _ _ _ _ (by omega), f1 (g + 1) (by omega), c4 i i0 i1]
      · rw [jup_rw _ _ _ _ _ k1, jup_rw _ _ _ _ _ k0, f1 k k2]
  by_cases hr : pSe P c < 0
  · rw [if_pos hr]
    exact tail X (fun _ _ => rfl) (fun k k0 k1 => by rw [if_neg (by omega)]; exact c5 k k0 k1)
  · have hst := o7 (pSe P c) (by omega) (by omega)
    rw [if_neg hr, if_pos (by omega), if_pos (by omega), m1, if_pos (by omega), g1, if_pos (by omega), if_pos (by omega), g3, if_pos (by omega), if_pos (by omega), if_pos (by omega), if_pos (by omega), c5 _ (by omega) (by omega), jadd_id (by omega) (by omega)]
    refine tail _ (fun k hk => jup_rw _ _ _ _ _ hk) (fun k k0 k1 => ?_)
    by_cases q : k = pSe P c
    · rw [if_pos q, q, jup_same]
    · rw [if_neg q, jup_row _ _ _ _ _ q]; exact c5 k k0 k1
