/-- one cell tried at a level with n levels below it -/
noncomputable def stM (P : aP) (n : Nat) (g : aG) (p : List Int) (w : Int) : Int → bT → bT := fun c T => if why P (gCe g) c = 0 ∧ ¬ pHo P < spn P (gCe g) c then tryM P n (cut1 P g c) (p ++ [c]) (w + wth P (gCe g) c) (brT T (p ++ [c]) (w + wth P (gCe g) c)) else T
theorem tryM_0 (P : aP) (g : aG) (p : List Int) (w : Int) (T : bT) : tryM P 0 g p w T = T := rfl
theorem tryM_S (P : aP) (n : Nat) (g : aG) (p : List Int) (w : Int) (T : bT) : tryM P (n + 1) g p w T = ovC (stM P n g p w) (pCe P).toNat 0 T := rfl
/-- what the run does at the level l, n levels being below -/
def skP (P : aP) (G : jG) (D N n : Nat) : Prop := ∀ (l : Nat) (γ : aG) (p : List Int) (w : Int), l + n + 1 = N → p.length = l → 0 ≤ w → w ≤ 999 * l → gOk P γ → ∀ (m : Nat) (X : jX) (i : Int) (T : bT) (u3 u4 : jV), u3.1 = 2 ∨ u3.1 = 0 → u4.1 = 2 ∨ u4.1 = 0 → m = (pCe P - i).toNat → 0 ≤ i → i ≤ 48 → mPlan X P → mGr X 191 (56 * (l : Int)) γ → X 193 l = cset P (gCe γ) → X 194 l = i - 1 → X 195 l = w → (∀ j : Nat, j < l → X 194 j = p.getD j 0) → mT X T → ∃ (X' : jX) (u3' u4' : jV), (u3'.1 = 2 ∨ u3'.1 = 0) ∧ (u4'.1 = 2 ∨ u4'.1 = 0) ∧ jN D 264 39 [(22, 149), (0, (N : Int)), (0, (l : Int)), u3, u4] [] (G, X) = jN D 264 39 [(22, 149), (0, (N : Int)), (0, (l : Int) - 1), u3', u4'] [] (G, X') ∧ mT X' (ovC (stM P n γ p w) m i T) ∧ (∀ j : Int, j < l → X' 193 j = X 193 j ∧ X' 194 j = X 194 j ∧ X' 195 j = X 195 j) ∧ (∀ v δ, v < (l : Int) + 1 → mGr X 191 (56 * v) δ → mGr X' 191 (56 * v) δ) ∧ mfT X X'
theorem mT_fr {X Y : jX} {T : bT} (h1 : Y 196 = X 196) (h2 : Y 197 = X 197) (h : mT X T) : mT Y T := by unfold mT at *; rw [h1, h2]; exact h
/-- the run's steps -/
theorem sb_none {D : Nat} {G : jG} {X X1 : jX} {N l : Int} {u3 u4 : jV} (hu3 : u3.1 = 2 ∨ u3.1 = 0) (hu4 : u4.1 = 2 ∨ u4.1 = 0) (l0 : 0 ≤ l) (l1 : l < 5) (eN : jD D 262 [(22, 149), (0, l)] (G, X) = some (-1, (G, X1))) : jN D 264 39 [(22, 149), (0, N), (0, l), u3, u4] [] (G, X) = jN D 264 39 [(22, 149), (0, N), (0, l - 1), (0, -1), u4] [] (G, X1) := by
  rw [h_X12_seeksBest_39 _ _ _ _ u3 hu3 u4 hu4, if_neg (show ¬ l < 0 by omega)]
  simp only [Int.reduceLE, reduceIte]
  rw [eN]
  simp only [Option.bind_some, reduceIte]
  rw [jadd_id (by omega) (by omega), show l + -1 = l - 1 by omega]
theorem sb_fall {D : Nat} {G : jG} {X X1 X2 : jX} {N l c sp ho : Int} {u3 u4 : jV} (hu3 : u3.1 = 2 ∨ u3.1 = 0) (hu4 : u4.1 = 2 ∨ u4.1 = 0) (l0 : 0 ≤ l) (c0 : 0 ≤ c) (eN : jD D 262 [(22, 149), (0, l)] (G, X) = some (c, (G, X1))) (e2 : jD D 258 [(22, 149), (0, l)] (G, X1) = some (0, (G, X2))) (e3 : jD D 233 [(22, 149), (0, c)] (G, X2) = some (sp, (G, X2))) (e4 : jD D 223 [(22, 149)] (G, X2) = some (ho, (G, X2))) (h : ho < sp) : jN D 264 39 [(22, 149), (0, N), (0, l), u3, u4] [] (G, X) = jN D 264 39 [(22, 149), (0, N), (0, l), (0, c), u4] [] (G, X2) := by
  rw [h_X12_seeksBest_39 _ _ _ _ u3 hu3 u4 hu4, if_neg (show ¬ l < 0 by omega)]
  simp only [Int.reduceLE, reduceIte]
  rw [eN]
  simp only [Option.bind_some]
  rw [if_neg (show ¬ c = -1 by omega), e2]
  simp only [Option.bind_some]
  rw [e3]
  simp only [Option.bind_some]
  rw [e4]
  simp only [Option.bind_some]
  rw [if_pos h]
theorem sb_cut {D : Nat} {G : jG} {X X1 X2 X3 X4 : jX} {N l c sp ho w wv : Int} {u3 u4 : jV} (hG : GG G) (hu3 : u3.1 = 2 ∨ u3.1 = 0) (hu4 : u4.1 = 2 ∨ u4.1 = 0) (l0 : 0 ≤ l) (l1 : l < 5) (c0 : 0 ≤ c) (w0 : 0 ≤ w) (w1 : w ≤ 9999) (v0 : 0 ≤ wv) (v1 : wv ≤ 999) (eN : jD D 262 [(22, 149), (0, l)] (G, X) = some (c, (G, X1))) (e2 : jD D 258 [(22, 149), (0, l)] (G, X1) = some (0, (G, X2))) (e3 : jD D 233 [(22, 149), (0, c)] (G, X2) = some (sp, (G, X2))) (e4 : jD D 223 [(22, 149)] (G, X2) = some (ho, (G, X2))) (h : ¬ ho < sp) (hw : X2 195 l = w) (e5 : jD D 247 [(22, 149), (0, c)] (G, X2) = some (wv, (G, X3))) (e6 : jD D 263 [(22, 149), (0, l + 1), (0, w + wv)] (G, X3) = some (0, (G, X4))) : jN D 264 39 [(22, 149), (0, N), (0, l), u3, u4] [] (G, X) = if l + 1 = N then jN D 264 39 [(22, 149), (0, N), (0, l), (0, c), (0, w + wv)] [] (G, X4) else ((jD D 257 [(22, 149), (0, l + 1)] (G, X4)).bind fun q8 => if 0 ≤ gR q8.2.1 149 71 then (if 0 ≤ l + 1 then (if l + 1 < gL q8.2.1 (gR q8.2.1 149 71) then ((jD D 261 [(22, 149), (0, l + 1)] (q8.2.1, jup q8.2.2 (gR q8.2.1 149 71) (l + 1) (w + wv))).bind fun q9 => jN D 264 39 [(22, 149), (0, N), (0, l + 1), (0, c), (0, w + wv)] [] (q9.2.1, q9.2.2)) else none) else none) else none) := by
  rw [h_X12_seeksBest_39 _ _ _ _ u3 hu3 u4 hu4, if_neg (show ¬ l < 0 by omega)]
  simp only [Int.reduceLE, reduceIte]
  rw [eN]
  simp only [Option.bind_some]
  rw [if_neg (show ¬ c = -1 by omega), e2]
  simp only [Option.bind_some]
  rw [e3]
  simp only [Option.bind_some]
  rw [e4]
  simp only [Option.bind_some]
  rw [if_neg h, gr_149_71 hG, gl_195 hG, hw]
  simp only [if_pos l0, if_pos l1, Int.reduceLE, reduceIte]
  rw [e5]
  simp only [Option.bind_some]
  rw [jadd_id (a := l) (b := 1) (by omega) (by omega), jadd_id (a := w) (by omega) (by omega), e6]
  simp only [Option.bind_some]
theorem t_seek_S (d : Nat) {G : jG} {P : aP} {N n : Nat} (hG : GG G) (hO : pOk P) (hN : N ≤ 3) (IH : ∀ k, n = k + 1 → skP P G (d + 10) N k) : skP P G (d + 10) N n := by
  intro l γ p w hl hp w0 w1 hgO m
  have hcc := pCe_le hO
  induction m using Nat.strongRecOn with
  | _ m ih =>
    intro X i T u3 u4 hu3 hu4 hm i0 i1 hP hγ h193 h194 h195 hpp hT
    obtain ⟨c, c0, c1, c2, c3, eN⟩ := t_nextTried (d + 9) hG (l : Int) (by omega) (by omega) (ct0 P (gCe γ)) (pCe P).toNat (by omega) h193 i i0 i1 h194
    have skip : ∀ j, i ≤ j → j < c → j < pCe P → ∀ b, stM P n γ p w j b = b := fun j h0 h1 h2 b => by
      have := c2 j h0 h1 (by omega)
      unfold stM
      rw [if_neg (fun z => this (by unfold ct0; rw [if_pos z.1]))]
    by_cases hc : c < 48
    · obtain ⟨c4, c5⟩ := c3 hc
      have hi : inP P c := ⟨by omega, by omega⟩
      have hw : why P (gCe γ) c = 0 := by
        unfold ct0 at c4
        by_cases z : why P (gCe γ) c = 0
        · exact z
        · rw [if_neg z] at c4; omega
      have hwl := wth_le (γ := γ) hO hi
      obtain ⟨X2, e2, g2, f2⟩ := t_takesBack (d + 9) (X := jup X 194 l c) hG (l : Int) (by omega) (by omega) (mGr_fr (jup_rw _ _ _ _ _ (by omega)) hγ)
      have T2 : mfT X X2 := mfT_t (mfT_u 194 _ _ (by omega)) (mfT_1 190 (by omega) f2)
      have P2 := mfT_P T2 hP
      have y2 : ∀ k, k ≠ 190 → k ≠ 194 → X2 k = X k := fun k k0 k1 => by rw [f2 k k0, jup_rw _ _ _ _ _ k1]
      have z2 : ∀ j, j ≠ (l : Int) → X2 194 j = X 194 j := fun j hj => by rw [f2 194 (by omega), jup_row _ _ _ _ _ hj]
      have z2' : X2 194 l = c := by rw [f2 194 (by omega), jup_same]
      rw [if_pos hc] at eN
      have esp : jD (d + 10) 233 [(22, 149), (0, c)] (G, X2) = some (spn P (gCe γ) c, (G, X2)) := t_spanOf (d + 7) c hG P2 hO hi g2
      have eho : jD (d + 10) 223 [(22, 149)] (G, X2) = some (pHo P, (G, X2)) := t_holdsUp (d + 9) hG P2
      have em : m = (c - i).toNat + ((pCe P - (c + 1)).toNat + 1) := by omega
      have eo : ∀ T, ovC (stM P n γ p w) m i T = ovC (stM P n γ p w) (pCe P - (c + 1)).toNat (c + 1) (stM P n γ p w c T) := fun T => by
        rw [em, ovC_skip _ _ _ _ _ (fun j h0 h1 => skip j h0 (by omega) (by omega)), show i + ((c - i).toNat : Int) = c by omega]
      rw [eo]
      by_cases hsp : pHo P < spn P (gCe γ) c
      · rw [sb_fall hu3 hu4 (by omega) (by omega) eN e2 esp eho hsp]
        obtain ⟨X', v3, v4, hv3, hv4, e', b1, b2, b3, b4⟩ := ih (pCe P - (c + 1)).toNat (by omega) X2 (c + 1) T (0, c) u4 (Or.inr rfl) hu4 rfl (by omega) (by omega) P2 (mGr_fr (y2 191 (by omega) (by omega)) hγ) (by rw [y2 193 (by omega) (by omega)]; exact h193) (by rw [z2']; omega) (by rw [y2 195 (by omega) (by omega)]; exact h195) (fun j hj => by rw [z2 j (by omega)]; exact hpp j hj) (mT_fr (y2 _ (by omega) (by omega)) (y2 _ (by omega) (by omega)) hT)
        refine ⟨X', v3, v4, hv3, hv4, e', ?_, fun j hj => ?_, fun v δ hv hδ => b3 v δ hv (mGr_fr (y2 191 (by omega) (by omega)) hδ), mfT_t T2 b4⟩
        · rw [show stM P n γ p w c T = T from if_neg (fun z => z.2 hsp)]; exact b1
        · obtain ⟨q1, q2, q3⟩ := b2 j hj
          exact ⟨by rw [q1, y2 193 (by omega) (by omega)], by rw [q2, z2 j (by omega)], by rw [q3, y2 195 (by omega) (by omega)]⟩
      · obtain ⟨X3, e3, g3, f3, _⟩ := t_isCut (d + 4) c hG P2 hO hgO hi g2 hwl.1 hwl.2
        obtain ⟨wv, hwv⟩ : ∃ wv, wv = wth P (gCe γ) c := ⟨_, rfl⟩
        rw [← hwv] at e3
        have hwb : 0 ≤ wv ∧ wv ≤ 999 := by rw [hwv]; exact hwl
        have y3 : ∀ k, k = 191 ∨ (193 ≤ k ∧ k ≤ 199) → X3 k = X2 k := fun k hk => f3.1 k (by omega) (by omega) (by omega) (by omega)
        have T3 := mfT_t T2 (mfT_C f3)
        have hpl : (p ++ [c]).length = l + 1 := by rw [List.length_append, hp]; rfl
        obtain ⟨X4, e4, t4, f4⟩ := t_isBest (d + 9) (X := X3) (T := T) (p := p ++ [c]) (w := w + wv) hG (l + 1) hpl (by omega) (by omega) (mT_fr (by rw [y3 _ (by omega), y2 _ (by omega) (by omega)]) (by rw [y3 _ (by omega), y2 _ (by omega) (by omega)]) hT) (fun j hj => by
          rw [y3 194 (by omega)]
          by_cases z : j = l
          · rw [z, z2', List.getD_eq_getElem?_getD, List.getElem?_append_right (by omega), hp, Nat.sub_self]; rfl
          · rw [z2 j (by omega), hpp j (by omega), List.getD_eq_getElem?_getD, List.getD_eq_getElem?_getD, List.getElem?_append_left (by omega)])
        rw [show (((l + 1 : Nat)) : Int) = (l : Int) + 1 by omega] at e4
        rw [sb_cut (w := w) (wv := wv) hG hu3 hu4 (by omega) (by omega) (by omega) w0 (by omega) hwb.1 hwb.2 eN e2 esp eho hsp (by rw [y2 195 (by omega) (by omega)]; exact h195) e3 e4]
        have T4' : mfT X X4 := mfT_t T3 ⟨fun k k0 k1 k2 k3 k4 k5 => f4 k (by omega) (by omega), fun j _ _ _ => by rw [f4 149 (by omega) (by omega)]⟩
        have y4 : ∀ k, k = 191 ∨ k = 193 ∨ k = 195 ∨ k = 198 ∨ k = 199 → X4 k = X k := fun k hk => by rw [f4 k (by omega) (by omega), y3 k (by omega), y2 k (by omega) (by omega)]
        have z4 : ∀ j, j ≠ (l : Int) → X4 194 j = X 194 j := fun j hj => by rw [f4 194 (by omega) (by omega), y3 194 (by omega), z2 j hj]
        have z4' : X4 194 l = c := by rw [f4 194 (by omega) (by omega), y3 194 (by omega), z2']
        have g4 : mGr X4 190 0 (cut1 P γ c) := mGr_fr (f4 190 (by omega) (by omega)) g3
        have hst : stM P n γ p w c T = tryM P n (cut1 P γ c) (p ++ [c]) (w + wv) (brT T (p ++ [c]) (w + wv)) := by rw [hwv]; exact if_pos ⟨hw, hsp⟩
        rw [hst]
        by_cases hn : n = 0
        · rw [if_pos (show (l : Int) + 1 = N by omega)]
          obtain ⟨X', v3, v4, hv3, hv4, e', b1, b2, b3, b4⟩ := ih (pCe P - (c + 1)).toNat (by omega) X4 (c + 1) (brT T (p ++ [c]) (w + wv)) (0, c) (0, w + wv) (Or.inr rfl) (Or.inr rfl) rfl (by omega) (by omega) (mfT_P T4' hP) (mGr_fr (y4 191 (by omega)) hγ) (by rw [y4 193 (by omega)]; exact h193) (by rw [z4']; omega) (by rw [y4 195 (by omega)]; exact h195) (fun j hj => by rw [z4 j (by omega)]; exact hpp j hj) t4
          refine ⟨X', v3, v4, hv3, hv4, e', ?_, fun j hj => ?_, fun v δ hv hδ => b3 v δ hv (mGr_fr (y4 191 (by omega)) hδ), mfT_t T4' b4⟩
          · rw [hn] at b1 ⊢; rw [tryM_0]; exact b1
          · obtain ⟨q1, q2, q3⟩ := b2 j hj
            exact ⟨by rw [q1, y4 193 (by omega)], by rw [q2, z4 j (by omega)], by rw [q3, y4 195 (by omega)]⟩
        · rw [if_neg (show ¬ (l : Int) + 1 = N by omega)]
          obtain ⟨k, hk⟩ : ∃ k, n = k + 1 := ⟨n - 1, by omega⟩
          obtain ⟨X5, e5, g5, f5, o5⟩ := t_putsAside (d + 9) hG ((l : Int) + 1) (by omega) (by omega) g4
          rw [e5]
          simp only [Option.bind_some]
          rw [gr_149_71 hG, gl_195 hG]
          simp only [if_pos (show (0 : Int) ≤ (l : Int) + 1 by omega), if_pos (show (l : Int) + 1 < 5 by omega), Int.reduceLE, reduceIte]
          have T6 : mfT X (jup X5 195 ((l : Int) + 1) (w + wv)) := mfT_t T4' (mfT_t (mfT_1 191 (by omega) f5) (mfT_u 195 _ _ (by omega)))
          obtain ⟨X7, e7, s7, t7, os7, ot7, f7, T7⟩ := t_opens (d + 2) (X := jup X5 195 ((l : Int) + 1) (w + wv)) hG (mfT_P T6 hP) hO ((l : Int) + 1) (by omega) (by omega) (mGr_fr (jup_rw _ _ _ _ _ (by omega)) g5)
          rw [e7]
          simp only [Option.bind_some]
          have r7 : ∀ k, k = 196 ∨ k = 197 → X7 k = X4 k := fun k hk => by rw [f7 k (by omega), jup_rw _ _ _ _ _ (by omega), f5 k (by omega)]
          have a7 : ∀ v δ, v ≠ (l : Int) + 1 → mGr X 191 (56 * v) δ → mGr X7 191 (56 * v) δ := fun v δ hv hδ => mGr_fr (by rw [f7 191 (by omega), jup_rw _ _ _ _ _ (by omega)]) (o5 v δ hv (mGr_fr (y4 191 (by omega)) hδ))
          have g7 : mGr X7 191 (56 * ((l : Int) + 1)) (cut1 P γ c) := mGr_fr (by rw [f7 191 (by omega), jup_rw _ _ _ _ _ (by omega)]) g5
          have p7 : ∀ j, j ≠ (l : Int) + 1 → X7 193 j = X 193 j ∧ X7 194 j = X4 194 j ∧ X7 195 j = X 195 j := fun j hj => ⟨by rw [os7 j hj, jup_rw _ _ _ _ _ (by omega), f5 193 (by omega), y4 193 (by omega)], by rw [ot7 j hj, jup_rw _ _ _ _ _ (by omega), f5 194 (by omega)], by rw [f7 195 (by omega), jup_row _ _ _ _ _ hj, f5 195 (by omega), y4 195 (by omega)]⟩
          have w7 : X7 195 ((l : Int) + 1) = w + wv := by rw [f7 195 (by omega), jup_same]
          have pl : (((l + 1 : Nat)) : Int) = (l : Int) + 1 := by omega
          have T77 := mfT_t T6 T7
          have hq := IH k hk (l + 1) (cut1 P γ c) (p ++ [c]) (w + wv) (by omega) hpl (by omega) (by omega) (gOk_dig hO hgO hi (why_0 hw) hwl.1 hwl.2).1 (pCe P).toNat X7 0 (brT T (p ++ [c]) (w + wv)) (0, c) (0, w + wv) (Or.inr rfl) (Or.inr rfl) (by omega) (by omega) (by omega) (mfT_P T77 hP)
          rw [pl] at hq
          obtain ⟨X8, v3, v4, hv3, hv4, e8, b1, b2, b3, b4⟩ := hq g7 s7 (by rw [t7]; omega) w7 (fun j hj => by
            rw [(p7 j (by omega)).2.1]
            by_cases z : j = l
            · rw [z, z4', List.getD_eq_getElem?_getD, List.getElem?_append_right (by omega), hp, Nat.sub_self]; rfl
            · rw [z4 j (by omega), hpp j (by omega), List.getD_eq_getElem?_getD, List.getD_eq_getElem?_getD, List.getElem?_append_left (by omega)]) (mT_fr (r7 _ (by omega)) (r7 _ (by omega)) t4)
          have q8 : ∀ j, j < (l : Int) + 1 → X8 193 j = X 193 j ∧ X8 194 j = X4 194 j ∧ X8 195 j = X 195 j := fun j hj => by
            obtain ⟨q1, q2, q3⟩ := b2 j hj
            obtain ⟨w1, w2, w3⟩ := p7 j (by omega)
            exact ⟨by rw [q1, w1], by rw [q2, w2], by rw [q3, w3]⟩
          have T8 := mfT_t T77 b4
          obtain ⟨X', x3, x4, hx3, hx4, e', d1, d2, d3, d4⟩ := ih (pCe P - (c + 1)).toNat (by omega) X8 (c + 1) _ v3 v4 hv3 hv4 rfl (by omega) (by omega) (mfT_P T8 hP) (b3 _ _ (by omega) (a7 _ _ (by omega) hγ)) (by rw [(q8 l (by omega)).1]; exact h193) (by rw [(q8 l (by omega)).2.1, z4']; omega) (by rw [(q8 l (by omega)).2.2]; exact h195) (fun j hj => by rw [(q8 j (by omega)).2.1, z4 j (by omega)]; exact hpp j hj) b1
          refine ⟨X', x3, x4, hx3, hx4, ?_, ?_, fun j hj => ?_, fun v δ hv hδ => d3 v δ hv (b3 v δ (by omega) (a7 v δ (by omega) hδ)), mfT_t T8 d4⟩
          · rw [e8, show (l : Int) + 1 - 1 = l by omega]; exact e'
          · rw [hk] at d1 ⊢; rw [tryM_S]; exact d1
          · obtain ⟨q1, q2, q3⟩ := d2 j hj
            obtain ⟨w1, w2, w3⟩ := q8 j (by omega)
            exact ⟨by rw [q1, w1], by rw [q2, w2, z4 j (by omega)], by rw [q3, w3]⟩
    · rw [if_neg hc] at eN
      rw [sb_none hu3 hu4 (by omega) (by omega) eN]
      refine ⟨jup X 194 l c, (0, -1), u4, Or.inr rfl, hu4, rfl, ?_, fun j hj => ⟨by rw [jup_rw _ _ _ _ _ (by omega)], by rw [jup_row _ _ _ _ _ (by omega)], by rw [jup_rw _ _ _ _ _ (by omega)]⟩, fun v δ _ hδ => mGr_fr (jup_rw _ _ _ _ _ (by omega)) hδ, mfT_u 194 _ _ (by omega)⟩
      rw [ovC_id _ _ _ _ (fun j h0 h1 => skip j h0 (by omega) (by omega))]
      exact mT_fr (jup_rw _ _ _ _ _ (by omega)) (jup_rw _ _ _ _ _ (by omega)) hT
theorem t_seek (d : Nat) {G : jG} {P : aP} {N : Nat} (hG : GG G) (hO : pOk P) (hN : N ≤ 3) : ∀ n : Nat, skP P G (d + 10) N n
  | 0 => t_seek_S d hG hO hN (fun k hk => by omega)
  | n + 1 => t_seek_S d hG hO hN (fun k hk => by rw [show k = n by omega]; exact t_seek d hG hO hN n)
