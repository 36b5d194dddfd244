/-- what tryAll promises, n more to cut -/
def tyP (P : aP) (G : jG) (n D : Nat) : Prop := ∀ (a : Nat) (X : jX) (γ : aG) (p : List Int) (w : Int) (acc : Int × Int × List Int), a + n ≤ 3 → p.length = a → 0 ≤ w → w ≤ 999 * a → cPlan X P → (0 < n → cGr X (114 + 8 * (a : Int)) γ ∧ gOk P γ) → bRel X acc → (∀ i : Nat, i < a → X 106 i = p.getD i 0) → ∃ X', jD D 126 [(18, 104), (0, (a : Int)), (0, ((a + n : Nat) : Int)), (0, w)] (G, X) = some (0, (G, X')) ∧ bRel X' (tryS P n γ p w acc) ∧ (∀ i : Nat, i < a → X' 106 i = X 106 i) ∧ (∀ k, k ≠ 104 → k ≠ 106 → k ≠ 107 → ¬ (113 + 8 * (a : Int) ≤ k ∧ k ≤ 136) → X' k = X k) ∧ ∀ j, j ≠ 6 → j ≠ 7 → X' 104 j = X 104 j
theorem s_try_0 (d : Nat) {G : jG} {P : aP} (hG : GG G) : tyP P G 0 (d + 2) := by
  intro a X γ p w acc h3 hp w0 w1 hP hγ hb hq
  obtain ⟨X', e, b', f1, f2⟩ := s_keepIf d (w := w) hG (by omega) hb (fun i hi => hq i (by omega))
  rw [hp] at e
  refine ⟨X', ?_, b', fun i hi => by rw [f1 106 (by omega) (by omega)], fun k k0 k1 k2 _ => f1 k k0 k2, f2⟩
  rw [e_X8_tryAll, e]
  simp only [Option.bind_some, Int.reduceLE, reduceIte]
  rw [if_neg (by omega)]
theorem s_try_n (d : Nat) {G : jG} {P : aP} {n a : Nat} {γ : aG} {p : List Int} {w : Int} (hG : GG G) (hO : pOk P) (hgO : gOk P γ) (IH : tyP P G n (d + 6)) (h3 : a + (n + 1) ≤ 3) (hp : p.length = a) (w0 : 0 ≤ w) (w1 : w ≤ 999 * a) : ∀ (m : Nat) (X : jX) (i : Int) (acc : Int × Int × List Int) (u : jV), u.1 = 2 ∨ u.1 = 0 → i + m = pCe P → 0 ≤ i → cPlan X P → cGr X (114 + 8 * (a : Int)) γ → isRc P (gCe γ) (X (117 + 8 * (a : Int))) → bRel X acc → (∀ i : Nat, i < a → X 106 i = p.getD i 0) → ∃ X', jN (d + 6) 126 37 [(18, 104), (0, (a : Int)), (0, ((a + (n + 1) : Nat) : Int)), (0, w), (13, 113 + 8 * (a : Int)), (0, i), u] [] (G, X) = some (0, (G, X')) ∧ bRel X' (ovC (fun c a => if why P (gCe γ) c = 0 ∧ ¬ pHo P < spn P (gCe γ) c then tryS P n (cut1 P γ c) (p ++ [c]) (w + wth P (gCe γ) c) a else a) m i acc) ∧ (∀ i : Nat, i < a → X' 106 i = X 106 i) ∧ (∀ k, k ≠ 104 → k ≠ 106 → k ≠ 107 → ¬ (113 + 8 * (a : Int) ≤ k ∧ k ≤ 136) → X' k = X k) ∧ ∀ j, j ≠ 6 → j ≠ 7 → X' 104 j = X 104 j := by
  have hcc := pCe_le hO
  obtain ⟨hm, hr⟩ := lvl hG a (by omega)
  intro m
  induction m with
  | zero =>
    intro X i acc u hu h1 h2 hP hγ hrc hb hq
    refine ⟨X, ?_, hb, fun _ _ => rfl, fun _ _ _ _ _ => rfl, fun _ _ _ => rfl⟩
    rw [h_X8_tryAll_37 _ _ _ _ _ _ _ _ hu, gr_104_0 hG, (cPlan_at hP).2.1]
    simp only [Int.reduceLE, reduceIte]
    rw [if_neg (by omega)]
  | succ m ih =>
    intro X i acc u hu h1 h2 hP hγ hrc hb hq
    have hi : inP P i := ⟨h2, by omega⟩
    have hwl := wth_le (γ := γ) hO hi
    obtain ⟨X1, e1, f1⟩ := s_why (d + 1) i hG hP hO hgO hm hγ hrc
    rw [if_pos hi] at e1
    have P1 := cPlan_fr (X' := X1) (fun a h1 h2 => f1 a (by omega) (by omega)) hP
    have G1 := cGr_fr (X' := X1) (f1 _ (by omega) (by omega)) (f1 _ (by omega) (by omega)) (f1 _ (by omega) (by omega)) hγ
    have R1 : isRc P (gCe γ) (X1 (117 + 8 * (a : Int))) := by rw [f1 _ (by omega) (by omega)]; exact hrc
    have B1 : bRel X1 acc := by unfold bRel at hb ⊢; rw [f1 104 (by omega) (by omega), f1 107 (by omega) (by omega)]; exact hb
    have Q1 : ∀ i : Nat, i < a → X1 106 i = p.getD i 0 := fun j hj => by rw [f1 106 (by omega) (by omega)]; exact hq j hj
    have eo : ∀ (f : Int → (Int × Int × List Int) → Int × Int × List Int), ovC f (m + 1) i acc = ovC f m (i + 1) (f i acc) := fun _ => rfl
    rw [h_X8_tryAll_37 _ _ _ _ _ _ _ _ hu, gr_104_0 hG, (cPlan_at hP).2.1]
    simp only [Int.reduceLE, reduceIte]
    rw [if_pos (by omega), if_pos (show 0 ≤ 113 + 8 * (a : Int) by omega), e1, eo]
    simp only [Option.bind_some]
    rw [jadd_id (a := i) (by omega) (by omega)]
    by_cases hw : why P (gCe γ) i = 0
    · rw [if_pos hw, if_pos (show 0 ≤ 113 + 8 * (a : Int) by omega), s_wouldFall (d + 2) i hG P1 hO hi hm G1]
      simp only [Option.bind_some]
      by_cases hf : pHo P < spn P (gCe γ) i
      · rw [if_pos hf, if_neg (show ¬ (1 : Int) = 0 by omega), if_neg (show ¬ (why P (gCe γ) i = 0 ∧ ¬ pHo P < spn P (gCe γ) i) from fun z => z.2 hf)]
        obtain ⟨X', e', b1, b2, b3, b4⟩ := ih X1 (i + 1) acc u hu (by omega) (by omega) P1 G1 R1 B1 Q1
        exact ⟨X', e', b1, fun j hj => by rw [b2 j hj, f1 106 (by omega) (by omega)], fun k k0 k1 k2 k3 => by rw [b3 k k0 k1 k2 k3, f1 k (by omega) (by omega)], fun j j0 j1 => by rw [b4 j j0 j1, f1 104 (by omega) (by omega)]⟩
      · rw [if_neg hf, if_pos rfl, if_pos (show why P (gCe γ) i = 0 ∧ ¬ pHo P < spn P (gCe γ) i from ⟨hw, hf⟩), if_pos (show 0 ≤ 113 + 8 * (a : Int) by omega)]
        obtain ⟨X2, e2, f2⟩ := s_price (d + 1) i hG P1 hO hgO hi hm G1
        rw [e2]
        simp only [Option.bind_some]
        rw [gr_104_3 hG, gl_106 hG]
        simp only [Int.reduceLE, reduceIte]
        rw [if_pos (show (0 : Int) ≤ a by omega), if_pos (show (a : Int) < 3 by omega)]
        have y3 : ∀ k, k ≠ 106 → k ≠ 117 + 8 * (a : Int) + 2 → k ≠ 117 + 8 * (a : Int) + 3 → jup X2 106 a i k = X k := fun k k0 k1 k2 => by rw [jup_rw _ _ _ _ _ k0, f2 k k1 k2, f1 k k1 k2]
        have q3 : ∀ j : Nat, j < a → jup X2 106 a i 106 j = X 106 j := fun j hj => by rw [jup_row _ _ _ _ _ (by omega), f2 106 (by omega) (by omega), f1 106 (by omega) (by omega)]
        obtain ⟨X4, e4, g4, f4⟩ := s_digB (d + 1) a (c := i) (X := jup X2 106 a i) hG (cPlan_fr (fun a h1 h2 => y3 a (by omega) (by omega) (by omega)) hP) hO hgO hi (by omega) (cGr_fr (y3 _ (by omega) (by omega) (by omega)) (y3 _ (by omega) (by omega) (by omega)) (y3 _ (by omega) (by omega) (by omega)) hγ) hwl.1 hwl.2
        rw [e4]
        simp only [Option.bind_some]
        have y4 : ∀ k, k ≠ 106 → (k < 119 + 8 * (a : Int) ∨ 136 < k) → X4 k = X k := fun k k0 k1 => by rw [f4 k (by omega), y3 k k0 (by omega) (by omega)]
        have n6 : X4 106 = jup X2 106 a i 106 := f4 106 (by omega)
        obtain ⟨X5, e5, b5, p5, f5, s5⟩ := IH (a + 1) X4 (cut1 P γ i) (p ++ [i]) (w + wth P (gCe γ) i) acc (by omega) (by rw [List.length_append, hp]; rfl) (by omega) (by omega) (cPlan_fr (fun a h1 h2 => y4 a (by omega) (by omega)) hP) (fun hn => ⟨g4 (by omega), (gOk_dig hO hgO hi (why_0 hw) hwl.1 hwl.2).1⟩) (by unfold bRel at hb ⊢; rw [y4 104 (by omega) (by omega), y4 107 (by omega) (by omega)]; exact hb) (fun j hj => by
          rw [n6]
          by_cases z : j = a
          · rw [z, jup_same, List.getD_eq_getElem?_getD, List.getElem?_append_right (by omega), hp, Nat.sub_self]; rfl
          · rw [q3 j (by omega), hq j (by omega), List.getD_eq_getElem?_getD, List.getD_eq_getElem?_getD, List.getElem?_append_left (by omega)])
        rw [show a + 1 + n = a + (n + 1) by omega, show ((a + 1 : Nat) : Int) = (a : Int) + 1 by omega] at e5
        rw [jadd_id (a := (a : Int)) (by omega) (by omega), jadd_id (a := w) (by omega) (by omega), e5]
        simp only [Option.bind_some]
        have y5 : ∀ k, k ≠ 104 → k ≠ 106 → k ≠ 107 → (k < 119 + 8 * (a : Int) ∨ 136 < k) → X5 k = X k := fun k k0 k1 k2 k3 => by rw [f5 k k0 k1 k2 (by omega), y4 k k1 k3]
        have q5 : ∀ j : Nat, j < a → X5 106 j = X 106 j := fun j hj => by rw [p5 j (by omega), n6, q3 j hj]
        obtain ⟨X', e', b1, b2, b3, b4⟩ := ih X5 (i + 1) _ (0, wth P (gCe γ) i) (Or.inr rfl) (by omega) (by omega) (cPlan_fr (fun a h1 h2 => y5 a (by omega) (by omega) (by omega) (by omega)) hP) (cGr_fr (y5 _ (by omega) (by omega) (by omega) (by omega)) (y5 _ (by omega) (by omega) (by omega) (by omega)) (y5 _ (by omega) (by omega) (by omega) (by omega)) hγ) (by rw [y5 _ (by omega) (by omega) (by omega) (by omega)]; exact hrc) b5 (fun j hj => by rw [q5 j hj]; exact hq j hj)
        exact ⟨X', e', b1, fun j hj => by rw [b2 j hj, q5 j hj], fun k k0 k1 k2 k3 => by rw [b3 k k0 k1 k2 k3, y5 k k0 k1 k2 (by omega)], fun j j0 j1 => by rw [b4 j j0 j1, s5 j j0 j1, y4 104 (by omega) (by omega)]⟩
    · rw [if_neg hw, if_neg (show ¬ (why P (gCe γ) i = 0 ∧ ¬ pHo P < spn P (gCe γ) i) from fun z => hw z.1)]
      obtain ⟨X', e', b1, b2, b3, b4⟩ := ih X1 (i + 1) acc u hu (by omega) (by omega) P1 G1 R1 B1 Q1
      exact ⟨X', e', b1, fun j hj => by rw [b2 j hj, f1 106 (by omega) (by omega)], fun k k0 k1 k2 k3 => by rw [b3 k k0 k1 k2 k3, f1 k (by omega) (by omega)], fun j j0 j1 => by rw [b4 j j0 j1, f1 104 (by omega) (by omega)]⟩
theorem s_try_S (d : Nat) {G : jG} {P : aP} {n : Nat} (hG : GG G) (hO : pOk P) (IH : tyP P G n (d + 6)) : tyP P G (n + 1) (d + 7) := by
  intro a X γ p w acc h3 hp w0 w1 hP hγ hb hq
  have hcc := pCe_le hO
  obtain ⟨hm, hr⟩ := lvl hG a (by omega)
  obtain ⟨gγ, hgO⟩ := hγ (by omega)
  obtain ⟨X1, e1, b1, f1, s1⟩ := s_keepIf (d + 5) (w := w) hG (by omega) hb (fun i hi => hq i (by omega))
  rw [hp] at e1
  have P1 := cPlan_fr (X' := X1) (fun a h1 h2 => f1 a (by omega) (by omega)) hP
  have G1 := cGr_fr (X' := X1) (f1 _ (by omega) (by omega)) (f1 _ (by omega) (by omega)) (f1 _ (by omega) (by omega)) gγ
  obtain ⟨X2, e2, rc2, f2⟩ := s_look (d + 2) hG P1 hO hm G1
  have P2 := cPlan_fr (X' := X2) (fun a h1 h2 => f2 a (by omega) (by omega) (by omega)) P1
  have G2 := cGr_fr (X' := X2) (f2 _ (by omega) (by omega) (by omega)) (f2 _ (by omega) (by omega) (by omega)) (f2 _ (by omega) (by omega) (by omega)) G1
  have B2 : bRel X2 (keepS p w acc) := by unfold bRel at b1 ⊢; rw [f2 104 (by omega) (by omega) (by omega), f2 107 (by omega) (by omega) (by omega)]; exact b1
  obtain ⟨X', e', c1, c2, c3, c4⟩ := s_try_n d hG hO hgO IH h3 hp w0 w1 (pCe P).toNat X2 0 (keepS p w acc) (2, -1) (Or.inl rfl) (by omega) (by omega) P2 G2 rc2 B2 (fun j hj => by rw [f2 106 (by omega) (by omega) (by omega), f1 106 (by omega) (by omega)]; exact hq j hj)
  refine ⟨X', ?_, c1, fun j hj => by rw [c2 j hj, f2 106 (by omega) (by omega) (by omega), f1 106 (by omega) (by omega)], fun k k0 k1 k2 k3 => by rw [c3 k k0 k1 k2 k3, f2 k (by omega) (by omega) (by omega), f1 k k0 k2], fun j j0 j1 => by rw [c4 j j0 j1, f2 104 (by omega) (by omega) (by omega), s1 j j0 j1]⟩
  rw [e_X8_tryAll, e1]
  simp only [Option.bind_some, Int.reduceLE, reduceIte]
  rw [if_pos (by omega), gr_104_2 hG, gl_105 hG, hr]
  simp only [if_pos (show (a : Int) < 3 by omega), if_pos (show (0 : Int) ≤ a by omega), if_pos (show 0 ≤ 113 + 8 * (a : Int) by omega), Int.reduceLE, reduceIte]
  rw [e2]
  simp only [Option.bind_some]
  exact e'
theorem s_try {G : jG} {P : aP} (hG : GG G) (hO : pOk P) : ∀ (n d : Nat), tyP P G n (d + 7 * n + 2) := by
  intro n
  induction n with
  | zero => intro d; exact s_try_0 d hG
  | succ n ih =>
    intro d
    have := s_try_S (d + 7 * n + 2) hG hO (by have := ih (d + 6); rw [show d + 6 + 7 * n + 2 = d + 7 * n + 2 + 6 by omega] at this; exact this)
    rw [show d + 7 * n + 2 + 7 = d + 7 * (n + 1) + 2 by omega] at this
    exact this
