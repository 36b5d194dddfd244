/-! WHAT IS REACHED: the class goes from the shaft on -/
def cnt (f : Int → Int) : Nat → Int
  | 0 => 0
  | n + 1 => cnt f n + f n
theorem cnt_le {f : Int → Int} : ∀ {n : Nat}, (∀ c : Int, 0 ≤ c → c < n → f c = 0 ∨ f c = 1) → 0 ≤ cnt f n ∧ cnt f n ≤ n := by
  intro n
  induction n with
  | zero => intro _; exact ⟨Int.le_refl 0, Int.le_refl 0⟩
  | succ n ih =>
    intro h
    have h1 := ih (fun c h0 h1 => h c h0 (by omega))
    have h2 := h n (by omega) (by omega)
    show 0 ≤ cnt f n + f n ∧ cnt f n + f n ≤ _
    omega
theorem cnt_lt {f : Int → Int} : ∀ {n : Nat}, (∀ c : Int, 0 ≤ c → c < n → f c = 0 ∨ f c = 1) → ∀ a : Int, 0 ≤ a → a < n → f a = 0 → cnt f n < n := by
  intro n
  induction n with
  | zero => intro _ a h0 h1; omega
  | succ n ih =>
    intro h a h0 h1 h2
    show cnt f n + f n < _
    have h3 := h n (by omega) (by omega)
    by_cases e : a = n
    · subst e
      have := (cnt_le (f := f) (n := n) (fun c h0 h1 => h c h0 (by omega))).2
      omega
    · have := ih (fun c h0 h1 => h c h0 (by omega)) a h0 (by omega) h2
      omega
theorem cnt_up {f f' : Int → Int} {a : Int} (hn : ∀ c, c ≠ a → f' c = f c) (ha : f' a = f a + 1) : ∀ {n : Nat}, 0 ≤ a → cnt f' n = cnt f n + (if a < n then 1 else 0) := by
  intro n
  induction n with
  | zero => intro h0; rw [if_neg (by omega)]; rfl
  | succ n ih =>
    intro h0
    show cnt f' n + f' n = cnt f n + f n + _
    rw [ih h0]
    by_cases e : a = n
    · rw [← e, ha, if_neg (by omega), if_pos (by omega)]; omega
    · rw [hn n (fun q => e q.symm)]
      by_cases e2 : a < n
      · rw [if_pos e2, if_pos (by omega)]; omega
      · rw [if_neg e2, if_neg (by omega)]; omega
/-- the search, under way: w are waiting in all -/
def BF (P : aP) (st : Int → Int) (m r : Int) (X : jX) (w : Int) : Prop := (∀ c, 0 ≤ c → c < 48 → X r c = 0 ∨ X r c = 1) ∧ X m 6 = w ∧ 0 ≤ w ∧ w ≤ 48 ∧ w = cnt (X r) 48 ∧ (∀ j, 0 ≤ j → j < w → inP P (X (r + 1) j) ∧ X r (X (r + 1) j) = 1) ∧ (∀ c, 0 ≤ c → c < 48 → X r c = 1 → (∃ j, 0 ≤ j ∧ j < w ∧ X (r + 1) j = c) ∧ rch P st c ∧ opn st c)
theorem s_reach (d : Nat) {G : jG} {X : jX} {P : aP} {γ : aG} {m g r : Int} (a w : Int) (hO : pOk P) (hm : isMi G m g r) (hγ : cGr X g γ) (hb : BF P (gCe γ) m r X w) (h1 : a < pCe P) (hr : opn (gCe γ) a → rch P (gCe γ) a) : ∃ X' w', jD (d + 3) 28 [(13, m), (0, a)] (G, X) = some (0, (G, X')) ∧ BF P (gCe γ) m r X' w' ∧ w ≤ w' ∧ (∀ j, 0 ≤ j → j < w → X' (r + 1) j = X (r + 1) j) ∧ (∀ c, X r c = 1 → X' r c = 1) ∧ (opn (gCe γ) a → X' r a = 1) ∧ (∀ k, k ≠ m → k ≠ r → k ≠ r + 1 → X' k = X k) := by
  obtain ⟨hg, ⟨m0, m1, m2, m3, m4, m5⟩, ⟨l0, l1, l2, l3⟩, h25, hor⟩ := id hm
  have g4 : 25 ≤ g := hg.2.2.2.2
  have hc := pCe_le hO
  obtain ⟨b1, b2, b3, b4, b5, b6, b7⟩ := id hb
  rw [e_X3_reach, if_pos (by omega), m1, if_pos (by omega), s_isOpen d g a hg hγ (by omega)]
  simp only [Option.bind_some]
  rcases b01_or (opn (gCe γ) a) with ⟨e, ho⟩ | ⟨e, ho⟩
  · rw [if_pos e]
    exact ⟨X, w, rfl, hb, Int.le_refl w, fun _ _ _ => rfl, fun _ h => h, fun h => absurd h ho, fun _ _ _ _ => rfl⟩
  · have ha0 : 0 ≤ a := ho.1
    rw [if_neg (by omega), if_pos (by omega), m2, if_pos (by omega), if_pos ha0, l0, if_pos (by omega)]
    rcases b1 a ha0 (by omega) with h0 | h0
    · rw [if_pos h0, if_pos (by omega), if_pos (by omega), m3, if_pos (by omega), l1, b2]
      have hw : w < 48 := by
        rw [b5]; exact cnt_lt (n := 48) b1 a ha0 (by omega) h0
      have e6 : (jup X r a 1) m 6 = w := by rw [jup_cell _ _ _ _ _ _ (by omega)]; exact b2
      rw [if_pos hw, if_pos (by omega), if_pos (by omega), if_pos ha0, if_pos (by omega), if_pos (by omega), if_pos (by omega), if_pos (by omega), e6, if_pos (by omega), if_pos (by omega), if_pos (by omega), if_pos (by omega), jup_cell (jup X r a 1) (r + 1) w a m 6 (by omega), e6, jadd_id (by omega) (by omega)]
      have er : jup (jup (jup X r a 1) (r + 1) w a) m 6 (w + 1) r = jup X r a 1 r := by rw [jup_rw _ _ _ _ _ (by omega), jup_rw _ _ _ _ _ (by omega)]
      have eq : jup (jup (jup X r a 1) (r + 1) w a) m 6 (w + 1) (r + 1) = jup (jup X r a 1) (r + 1) w a (r + 1) := by rw [jup_rw _ _ _ _ _ (by omega)]
      have eqj : ∀ j, j ≠ w → jup (jup (jup X r a 1) (r + 1) w a) m 6 (w + 1) (r + 1) j = X (r + 1) j := fun j hj => by rw [eq, jup_row _ _ _ _ _ hj, jup_rw _ _ _ _ _ (by omega)]
      have eqw : jup (jup (jup X r a 1) (r + 1) w a) m 6 (w + 1) (r + 1) w = a := by rw [eq, jup_same]
      have erc : ∀ c, c ≠ a → jup X r a 1 r c = X r c := fun c hca => jup_row _ _ _ _ _ hca
      have era : jup X r a 1 r a = 1 := jup_same _ _ _ _
      refine ⟨_, w + 1, rfl, ⟨?_, jup_same _ _ _ _, by omega, by omega, ?_, ?_, ?_⟩, by omega, ?_, ?_, ?_, ?_⟩
      · intro c h2 h3
        rw [er]
        by_cases q : c = a
        · rw [q, era]; exact Or.inr rfl
        · rw [erc c q]; exact b1 c h2 h3
      · rw [er, cnt_up (f := X r) (f' := jup X r a 1 r) (a := a) erc (by rw [era, h0]; rfl) ha0, if_pos (by show a < 48; omega), ← b5]
      · intro j h2 h3
        rw [er]
        by_cases q : j = w
        · rw [q, eqw]; exact ⟨⟨ha0, h1⟩, era⟩
        · rw [eqj j q]
          have := b6 j h2 (by omega)
          refine ⟨this.1, ?_⟩
          by_cases q2 : X (r + 1) j = a
          · rw [q2, era]
          · rw [erc _ q2]; exact this.2
      · intro c h2 h3 h4
        rw [er] at h4
        by_cases q : c = a
        · exact ⟨⟨w, by omega, by omega, by rw [eqw, q]⟩, by rw [q]; exact hr ho, by rw [q]; exact ho⟩
        · rw [erc c q] at h4
          obtain ⟨⟨j, j0, j1, j2⟩, q2⟩ := b7 c h2 h3 h4
          exact ⟨⟨j, j0, by omega, by rw [eqj j (by omega)]; exact j2⟩, q2⟩
      · intro j h2 h3; exact eqj j (by omega)
      · intro c h2
        rw [er]
        by_cases q : c = a
        · rw [q, era]
        · rw [erc c q]; exact h2
      · intro _; rw [er]; exact era
      · intro k k0 k1 k2
        rw [jup_rw _ _ _ _ _ k0, jup_rw _ _ _ _ _ k2, jup_rw _ _ _ _ _ k1]
    · rw [if_neg (by omega)]
      exact ⟨X, w, rfl, hb, Int.le_refl w, fun _ _ _ => rfl, fun _ h => h, fun _ => h0, fun _ _ _ _ => rfl⟩
theorem rch_go {P : aP} {st : Int → Int} {a b : Int} (hi : inP P a) (h : rch P st a) (hb : bsd P a b) (ho : opn st b) : rch P st b := ⟨h.1, fun Z h1 h2 => h2 a b hi (h.2 Z h1 h2) hb ho⟩
theorem nW_bsd {P : aP} {c w : Int} (hw0 : 0 ≤ w) (hw : w < 4) (h : 0 ≤ nW P c w) : bsd P c (nW P c w) := by
  refine ⟨h, ?_⟩
  unfold nW
  grind
theorem s_look_in (d : Nat) {G : jG} {P : aP} {γ : aG} {m g r : Int} (hG : GG G) (hO : pOk P) (hm : isMi G m g r) : ∀ (n : Nat) (X : jX) (w i v : Int), cPlan X P → cGr X g γ → BF P (gCe γ) m r X w → 0 ≤ i → i < w → v + n = 4 → 0 ≤ v → ∃ X' w', jN (d + 3) 27 55 [(13, m), (0, i), (0, v)] [] (G, X) = jN (d + 3) 27 36 [(13, m), (0, i + 1), (0, 4)] [] (G, X') ∧ BF P (gCe γ) m r X' w' ∧ w ≤ w' ∧ (∀ j, 0 ≤ j → j < w → X' (r + 1) j = X (r + 1) j) ∧ (∀ c, X r c = 1 → X' r c = 1) ∧ (∀ u, v ≤ u → u < 4 → opn (gCe γ) (nW P (X (r + 1) i) u) → X' r (nW P (X (r + 1) i) u) = 1) ∧ (∀ k, k ≠ m → k ≠ r → k ≠ r + 1 → X' k = X k) := by
  obtain ⟨hg, ⟨m0, m1, m2, m3, m4, m5⟩, ⟨l0, l1, l2, l3⟩, h25, hor⟩ := id hm
  have g4 : 25 ≤ g := hg.2.2.2.2
  intro n
  induction n with
  | zero =>
    intro X w i v hP hγ hb hi0 hi1 hv hv0
    have hw := hb.2.2.2.1
    refine ⟨X, w, ?_, hb, Int.le_refl w, fun _ _ _ => rfl, fun _ h => h, fun u h1 h2 => by omega, fun _ _ _ _ => rfl⟩
    rw [h_X3_look_55, if_neg (by omega), jadd_id (by omega) (by omega), show v = 4 by omega]
  | succ n ih =>
    intro X w i v hP hγ hb hi0 hi1 hv hv0
    have hw := hb.2.2.2.1
    have hq := (hb.2.2.2.2.2.1 i hi0 hi1)
    have hn := nW_le hO hq.1 hv0 (show v < 4 by omega)
    have hcc := pCe_le hO
    have hrq := (hb.2.2.2.2.2.2 _ hq.1.1 (by have := hq.1.2; omega) hq.2).2.1
    rw [h_X3_look_55, if_pos (by omega), if_pos (by omega), if_pos (by omega), m3, if_pos (by omega), if_pos hi0, l1, if_pos (by omega), m0, if_pos (by omega), s_beside (d + 1) _ v hG hP hO hq.1 hv0 (by omega)]
    simp only [Option.bind_some]
    obtain ⟨X1, w1, e1, b1, c1, c2, c3, c4, c5⟩ := s_reach d (nW P (X (r + 1) i) v) w hO hm hγ hb hn.2 (fun ho => rch_go hq.1 hrq (nW_bsd hv0 (by omega) ho.1) ho)
    rw [if_pos (by omega), e1]
    simp only [Option.bind_some]
    rw [jadd_id (by omega) (by omega)]
    obtain ⟨X', w', e', b', d1, d2, d3, d4, d5⟩ := ih X1 w1 i (v + 1) (cPlan_fr (fun a h1 h2 => c5 a (by omega) (by omega) (by omega)) hP) (cGr_fr (c5 g (by omega) (by omega) (by omega)) (c5 (g + 1) (by omega) (by omega) (by omega)) (c5 (g + 2) (by omega) (by omega) (by omega)) hγ) b1 hi0 (by omega) (by omega) (by omega)
    rw [c2 i hi0 hi1] at d4
    refine ⟨X', w', e', b', by omega, fun j h1 h2 => by rw [d2 j h1 (by omega), c2 j h1 h2], fun c h => d3 c (c3 c h), fun u h1 h2 h3 => ?_, fun k k0 k1 k2 => by rw [d5 k k0 k1 k2, c5 k k0 k1 k2]⟩
    by_cases q : u = v
    · rw [q] at h3 ⊢; exact d3 _ (c4 h3)
    · exact d4 u (by omega) h2 h3
theorem s_look_out (d : Nat) {G : jG} {P : aP} {γ : aG} {m g r : Int} (hG : GG G) (hO : pOk P) (hm : isMi G m g r) : ∀ (n : Nat) (X : jX) (w i : Int) (u2 : jV), u2.1 = 2 ∨ u2.1 = 0 → cPlan X P → cGr X g γ → BF P (gCe γ) m r X w → 0 ≤ i → i ≤ w → i + n = 48 → (∀ j, 0 ≤ j → j < i → ∀ u, 0 ≤ u → u < 4 → opn (gCe γ) (nW P (X (r + 1) j) u) → X r (nW P (X (r + 1) j) u) = 1) → ∃ X' w', jN (d + 3) 27 36 [(13, m), (0, i), u2] [] (G, X) = some (0, (G, X')) ∧ BF P (gCe γ) m r X' w' ∧ (∀ c, X r c = 1 → X' r c = 1) ∧ (∀ j, 0 ≤ j → j < w' → ∀ u, 0 ≤ u → u < 4 → opn (gCe γ) (nW P (X' (r + 1) j) u) → X' r (nW P (X' (r + 1) j) u) = 1) ∧ (∀ k, k ≠ m → k ≠ r → k ≠ r + 1 → X' k = X k) := by
  obtain ⟨hg, ⟨m0, m1, m2, m3, m4, m5⟩, ⟨l0, l1, l2, l3⟩, h25, hor⟩ := id hm
  have g4 : 25 ≤ g := hg.2.2.2.2
  intro n
  induction n with
  | zero =>
    intro X w i u2 hu2 hP hγ hb hi0 hi1 hn hcl
    have hw := hb.2.2.2.1
    refine ⟨X, w, ?_, hb, fun _ h => h, fun j h1 h2 => hcl j h1 (by omega), fun _ _ _ _ => rfl⟩
    rw [h_X3_look_36 _ _ _ _ hu2, if_pos (by omega), hb.2.1, if_neg (by omega)]
  | succ n ih =>
    intro X w i u2 hu2 hP hγ hb hi0 hi1 hn hcl
    have hw := hb.2.2.2.1
    rw [h_X3_look_36 _ _ _ _ hu2, if_pos (by omega), hb.2.1]
    by_cases hiw : i < w
    · rw [if_pos hiw, if_pos (by omega), m3, if_pos (by omega), l1, if_pos (by omega)]
      obtain ⟨X1, w1, e1, b1, c1, c2, c3, c4, c5⟩ := s_look_in d hG hO hm 4 X w i 0 hP hγ hb hi0 hiw rfl (by omega)
      rw [e1]
      obtain ⟨X', w', e', b', d1, d2, d3⟩ := ih X1 w1 (i + 1) (0, 4) (Or.inr rfl) (cPlan_fr (fun a h1 h2 => c5 a (by omega) (by omega) (by omega)) hP) (cGr_fr (c5 g (by omega) (by omega) (by omega)) (c5 (g + 1) (by omega) (by omega) (by omega)) (c5 (g + 2) (by omega) (by omega) (by omega)) hγ) b1 (by omega) (by omega) (by omega) (fun j h1 h2 u h3 h4 h5 => by
        rw [c2 j h1 (by omega)] at h5 ⊢
        by_cases q : j = i
        · rw [q] at h5 ⊢; exact c4 u h3 h4 h5
        · exact c3 _ (hcl j h1 (by omega) u h3 h4 h5))
      exact ⟨X', w', e', b', fun c h => d1 c (c3 c h), d2, fun k k0 k1 k2 => by rw [d3 k k0 k1 k2, c5 k k0 k1 k2]⟩
    · rw [if_neg hiw]
      exact ⟨X, w, rfl, hb, fun _ h => h, fun j h1 h2 => hcl j h1 (by omega), fun _ _ _ _ => rfl⟩
/-- the row of what is reached -/
def isRc (P : aP) (st row : Int → Int) : Prop := ∀ c, 0 ≤ c → c < 48 → (row c = 0 ∧ ¬ rch P st c ∨ row c = 1 ∧ rch P st c)
theorem bsd_nW {P : aP} {c b : Int} (h : bsd P c b) : ∃ u, 0 ≤ u ∧ u < 4 ∧ b = nW P c u := by
  obtain ⟨h0, h1⟩ := h
  rcases h1 with h | h | h | h
  · exact ⟨0, by omega, by omega, h⟩
  · exact ⟨1, by omega, by omega, h⟩
  · exact ⟨2, by omega, by omega, h⟩
  · exact ⟨3, by omega, by omega, h⟩
theorem cnt_0 {f : Int → Int} : ∀ {n : Nat}, (∀ c : Int, 0 ≤ c → c < n → f c = 0) → cnt f n = 0 := by
  intro n
  induction n with
  | zero => intro _; rfl
  | succ n ih =>
    intro h
    show cnt f n + f n = 0
    rw [ih (fun c h0 h1 => h c h0 (by omega)), h n (by omega) (by omega)]; rfl
theorem s_look (d : Nat) {G : jG} {X : jX} {P : aP} {γ : aG} {m g r : Int} (hG : GG G) (hP : cPlan X P) (hO : pOk P) (hm : isMi G m g r) (hγ : cGr X g γ) : ∃ X', jD (d + 4) 27 [(13, m)] (G, X) = some (0, (G, X')) ∧ isRc P (gCe γ) (X' r) ∧ (∀ k, k ≠ m → k ≠ r → k ≠ r + 1 → X' k = X k) := by
  obtain ⟨hg, ⟨m0, m1, m2, m3, m4, m5⟩, ⟨l0, l1, l2, l3⟩, h25, hor⟩ := id hm
  have g4 : 25 ≤ g := hg.2.2.2.2
  have hcc := pCe_le hO
  have hpn := pOk_n hO
  have ha := cPlan_at hP
  rw [e_X3_look, if_pos (by omega), m2, s_fill (d + 2) r 0 48 (by omega) l0 (by omega) (by omega)]
  simp only [Option.bind_some]
  have f0 : ∀ k, k ≠ m → k ≠ r → k ≠ r + 1 → jup (fil X r 48 0) m 6 0 k = X k := fun k k0 k1 k2 => by rw [jup_rw _ _ _ _ _ k0, fil_ne _ _ _ _ _ k1]
  have fr : ∀ X1 : jX, (∀ k, k ≠ m → k ≠ r → k ≠ r + 1 → X1 k = X k) → cPlan X1 P ∧ cGr X1 g γ := fun X1 h => ⟨cPlan_fr (fun a h1 h2 => h a (by omega) (by omega) (by omega)) hP, cGr_fr (h g (by omega) (by omega) (by omega)) (h (g + 1) (by omega) (by omega) (by omega)) (h (g + 2) (by omega) (by omega) (by omega)) hγ⟩
  have er : ∀ c, 0 ≤ c → c < 48 → jup (fil X r 48 0) m 6 0 r c = 0 := fun c h0 h1 => by rw [jup_rw _ _ _ _ _ (by omega), fil_at, if_pos ⟨h0, h1⟩]
  have b0 : BF P (gCe γ) m r (jup (fil X r 48 0) m 6 0) 0 := ⟨fun c h0 h1 => Or.inl (er c h0 h1), jup_same _ _ _ _, by omega, by omega, (cnt_0 (n := 48) er).symm, fun j h0 h1 => by omega, fun c h0 h1 h2 => by rw [er c h0 h1] at h2; omega⟩
  have h1 := cPlan_at (fr _ f0).1
  rw [if_pos (by omega), if_pos (by omega), m0, if_pos (by omega), h1.2.1]
  -- the end of it
  have fin : ∀ (X1 : jX) (w1 : Int), (∀ k, k ≠ m → k ≠ r → k ≠ r + 1 → X1 k = X k) → BF P (gCe γ) m r X1 w1 → (0 < pCe P → opn (gCe γ) (pS P) → X1 r (pS P) = 1) → ∃ X', jN (d + 3) 27 36 [(13, m), (0, 0), (2, (-1))] [] (G, X1) = some (0, (G, X')) ∧ isRc P (gCe γ) (X' r) ∧ (∀ k, k ≠ m → k ≠ r → k ≠ r + 1 → X' k = X k) := by
    intro X1 w1 hf hb hs
    obtain ⟨X', w', e', b', d1, d2, d3⟩ := s_look_out d hG hO hm 48 X1 w1 0 (2, -1) (Or.inl rfl) (fr _ hf).1 (fr _ hf).2 hb (by omega) hb.2.2.1 (by omega) (fun j h0 h1 => by omega)
    refine ⟨X', e', fun c h0 h1 => ?_, fun k k0 k1 k2 => by rw [d3 k k0 k1 k2, hf k k0 k1 k2]⟩
    rcases b'.1 c h0 h1 with h | h
    · left
      refine ⟨h, fun hr => ?_⟩
      have := hr.2 (fun z => 0 ≤ z ∧ z < 48 ∧ X' r z = 1) (fun ho => ⟨hpn.2.1, by omega, d1 _ (hs hr.1 ho)⟩) (fun a b hia hz hbs hob => by
        obtain ⟨⟨j, j0, j1, j2⟩, -⟩ := b'.2.2.2.2.2.2 a hz.1 hz.2.1 hz.2.2
        obtain ⟨u, u0, u1, u2⟩ := bsd_nW hbs
        have hle := nW_le hO hia u0 u1
        have := d2 j j0 j1 u u0 u1 (by rw [j2, ← u2]; exact hob)
        rw [j2, ← u2] at this
        exact ⟨hbs.1, by omega, this⟩)
      omega
    · exact Or.inr ⟨h, (b'.2.2.2.2.2.2 c h0 h1 h).2.1⟩
  by_cases hp : 0 < pCe P
  · rw [if_pos hp, if_pos (by omega), if_pos (by omega), if_pos (by omega), h1.2.2.2.1]
    have hsC : pS P < pCe P := by
      have hz := mod_in hO (c := 0) ⟨Int.le_refl 0, hp⟩
      rw [Int.zero_emod] at hz
      omega
    obtain ⟨X1, w1, e1, b1, c1, c2, c3, c4, c5⟩ := s_reach d (pS P) 0 hO hm (fr _ f0).2 b0 hsC (fun ho => ⟨hp, fun Z h1 h2 => h1 ho⟩)
    rw [e1]
    simp only [Option.bind_some]
    exact fin X1 w1 (fun k k0 k1 k2 => by rw [c5 k k0 k1 k2, f0 k k0 k1 k2]) b1 (fun _ ho => c4 ho)
  · rw [if_neg hp]
    exact fin _ 0 f0 b0 (fun h => absurd h hp)
