/-! A CELL CUT, BLASTS: the reference -/
def mfC (X X' : jX) : Prop := (∀ k, k ≠ 149 → k ≠ 190 → k ≠ 192 → k ≠ 229 → X' k = X k) ∧ (∀ j, ¬ (55 ≤ j ∧ j ≤ 62) → j ≠ 115 → j ≠ 64 → X' 149 j = X 149 j)
theorem mfC_r (X : jX) : mfC X X := ⟨fun _ _ _ _ _ => rfl, fun _ _ _ _ => rfl⟩
theorem mfC_t {X Y Z : jX} (h1 : mfC X Y) (h2 : mfC Y Z) : mfC X Z := ⟨fun k a b c e => by rw [h2.1 k a b c e, h1.1 k a b c e], fun j a b c => by rw [h2.2 j a b c, h1.2 j a b c]⟩
theorem mfC_R {X Y : jX} (h : mfR X Y) : mfC X Y := ⟨fun k a _ b c => h.1 k a b c, fun j a b _ => h.2 j a b⟩
theorem mfC_P {X X' : jX} {P : aP} (h : mfC X X') (hP : mPlan X P) : mPlan X' P := mPlan_fr (fun a h1 h2 => h.1 a (by omega) (by omega) (by omega) (by omega)) (h.2 51 (by omega) (by omega) (by omega)) hP
theorem mfC_G {X X' : jX} {a o : Int} {γ : aG} (h : mfC X X') (h0 : a ≠ 190) (h1 : a ≠ 149) (h2 : a ≠ 192) (h3 : a ≠ 229) (hg : mGr X a o γ) : mGr X' a o γ := mGr_fr (h.1 a h1 h0 h2 h3) hg
theorem mfC_N {X : jX} (j z : Int) : mfC X (jup X 190 j z) := ⟨fun k _ a _ _ => jup_rw _ _ _ _ _ a, fun i _ _ _ => by rw [jup_rw _ _ _ _ _ (by omega)]⟩
theorem t_isCut_n (d : Nat) {G : jG} (hG : GG G) (a w k0 f t : Int) (hf : 0 ≤ f) (ht : t < 48) : ∀ (n : Nat) (X : jX) (i : Int), f ≤ i → i + n = t + 1 → ∃ X', jN d 247 87 [(22, 149), (0, a), (0, w), (0, k0), (0, f), (0, t), (0, i)] [] (G, X) = some (w, (G, jup X' 149 64 (jadd (X' 149 64) (jadd (jsub t f) 1)))) ∧ (∀ k, k ≠ 190 → X' k = X k) ∧ ∀ j, X' 190 j = if 8 + i ≤ j ∧ j ≤ 8 + t then 3 else X 190 j := by
  intro n
  induction n with
  | zero =>
    intro X i h0 h1
    refine ⟨X, ?_, fun _ _ => rfl, fun j => by rw [if_neg (by omega)]⟩
    rw [h_X12_isCut_87, if_pos (by omega), if_pos (by omega), if_pos (by omega)]
  | succ n ih =>
    intro X i h0 h1
    obtain ⟨X', e, f1, c1⟩ := ih (jup X 190 (8 + i) 3) (i + 1) (by omega) (by omega)
    refine ⟨X', ?_, fun k hk => by rw [f1 k hk, jup_rw _ _ _ _ _ hk], fun j => ?_⟩
    · rw [h_X12_isCut_87, if_neg (by omega), gr_149_53 hG, gl_190 hG, jadd_id (a := 8) (by omega) (by omega), jadd_id (a := i) (by omega) (by omega), if_pos (by omega), if_pos (by omega), if_pos (by omega), if_pos (by omega)]
      exact e
    · rw [c1 j]
      by_cases q : j = 8 + i
      · rw [if_neg (by omega), if_pos (by omega), q, jup_same]
      · rw [jup_row _ _ _ _ _ q]
        by_cases q2 : 8 + (i + 1) ≤ j ∧ j ≤ 8 + t
        · rw [if_pos q2, if_pos (by omega)]
        · rw [if_neg q2, if_neg (by omega)]
theorem t_isCut (d : Nat) {G : jG} {X : jX} {P : aP} {γ : aG} (c : Int) (hG : GG G) (hP : mPlan X P) (hO : pOk P) (hgO : gOk P γ) (hi : inP P c) (hγ : mGr X 190 0 γ) (hw0 : 0 ≤ wth P (gCe γ) c) (hw1 : wth P (gCe γ) c ≤ 999) : ∃ X', jD (d + 6) 247 [(22, 149), (0, c)] (G, X) = some (wth P (gCe γ) c, (G, X')) ∧ mGr X' 190 0 (cut1 P γ c) ∧ mfC X X' ∧ X' 149 64 = (if pHo P < spn P (gCe γ) c then jadd (X 149 64) (spn P (gCe γ) c) else X 149 64) := by
  have hcc := pCe_le hO
  have hi' : 0 ≤ c ∧ c < pCe P := hi
  have hs := sp_in (gCe γ) hO hi
  have hk := pOk_c hO c hi.1 hi.2
  have hn := pOk_n hO
  have hq := nwh_le (gCe γ) 48
  have hsp := spn_le (gCe γ) hO hi
  obtain ⟨o1, o2, o3, o4, o5, o6, o7, o8⟩ := id hgO
  obtain ⟨X1, e1, f1⟩ := t_worthOf d c hG hP hO hi hγ
  have hP1 := mfE_P f1 hP
  have hγ1 := mfE_G f1 (a := 190) (by omega) (by omega) hγ
  obtain ⟨⟨c1, c2, c3⟩, c4, c5⟩ := id hγ1
  have x64 : X1 149 64 = X 149 64 := f1.2 64 (by omega) (by omega)
  have hf1 : mfC X X1 := mfC_R (mfR_E f1)
  unfold cut1
  generalize hW : wth P (gCe γ) c = w at hw0 hw1 e1 ⊢
  rw [e_X12_isCut, e1]
  simp only [Option.bind_some, Int.reduceLE, reduceIte]
  rw [t_kindAt (d + 2) c hG hP1 hO hi]
  simp only [Option.bind_some]
  have tail : ∀ X2 : jX, mPlan X2 P → mfC X1 X2 → X2 149 = X1 149 → (∀ j, j < 3 ∨ 8 ≤ j → X2 190 j = X1 190 j) → (∀ k, 0 ≤ k → k < 5 → X2 190 (0 + 3 + k) = if k = pSe P c then gSt γ k + 1 else gSt γ k) → ∃ X', jN (d + 5) 247 29 [(22, 149), (0, c), (0, w), (0, pSe P c), (2, (-1)), (2, (-1)), (2, (-1))] [] (G, X2) = some (w, (G, X')) ∧ mGr X' 190 0 (dig P γ c w) ∧ mfC X X' ∧ X' 149 64 = (if pHo P < spn P (gCe γ) c then jadd (X 149 64) (spn P (gCe γ) c) else X 149 64) := by
    intro X2 hP2 hf2 hx149 h190 hst
    have e190 : X2 190 1 = gWo γ := by rw [h190 1 (by omega)]; exact c2
    have hf3 : mfC X2 (jup X2 190 1 (gWo γ + w)) := mfC_N _ _
    have hP3 := mfC_P hf3 hP2
    have hγ3 : mGr (jup X2 190 1 (gWo γ + w)) 190 0 ((gPr γ, gWo γ + w, gRe γ), (fun k => if k = pSe P c then gSt γ k + 1 else gSt γ k), gCe γ) := by
      refine ⟨⟨?_, ?_, ?_⟩, fun i i0 i1 => ?_, fun k k0 k1 => ?_⟩
      · rw [jup_row _ _ _ _ _ (by omega), h190 0 (by omega)]; exact c1
      · exact jup_same _ _ _ _
      · rw [jup_row _ _ _ _ _ (by omega), h190 (0 + 2) (by omega)]; exact c3
      · rw [jup_row _ _ _ _ _ (by omega), h190 _ (by omega)]; exact c4 i i0 i1
      · rw [jup_row _ _ _ _ _ (by omega)]; exact hst k k0 k1
    rw [h_X12_isCut_29, gr_149_53 hG, gl_190 hG, e190, jadd_id (a := gWo γ) (by omega) (by omega)]
    simp only [Int.reduceLE, Int.reduceLT, reduceIte]
    rw [t_spanLeft (d + 3) c hG hP3 hO hi hγ3]
    simp only [Option.bind_some]
    rw [t_spanRight (d + 3) c hG hP3 hO hi hγ3]
    simp only [Option.bind_some]
    rw [gr_149_53 hG, gl_190 hG, jadd_id (a := 8) (by omega) (by omega)]
    simp only [Int.reduceLE, reduceIte]
    rw [if_pos (by omega), if_pos (by omega)]
    have hf4 : mfC X2 (jup (jup X2 190 1 (gWo γ + w)) 190 (8 + c) 1) := mfC_t hf3 (mfC_N _ _)
    rw [t_holdsUp (d + 4) hG (mfC_P hf4 hP2)]
    simp only [Option.bind_some]
    show ∃ X', (if pHo P < jadd (jsub (jadd c (spR P (gCe γ) c)) (jsub c (spL P (gCe γ) c))) 1 then _ else _) = _ ∧ _
    have e3 : jadd (jsub (jadd c (spR P (gCe γ) c)) (jsub c (spL P (gCe γ) c))) 1 = spn P (gCe γ) c := by
      rw [jadd_id (a := c) (by omega) (by omega), jsub_id (a := c) (by omega) (by omega), jsub_id (by omega) (by omega), jadd_id (by omega) (by omega)]; unfold spn; omega
    have e4 : jsub c (spL P (gCe γ) c) = c - spL P (gCe γ) c := jsub_id (by omega) (by omega)
    have e5 : jadd c (spR P (gCe γ) c) = c + spR P (gCe γ) c := jadd_id (by omega) (by omega)
    rw [e3]
    change ∃ X', (if pHo P < spn P (gCe γ) c then jN (d + 5) 247 87 [(22, 149), (0, c), (0, w), (0, pSe P c), (0, jsub c (spL P (gCe γ) c)), (0, jadd c (spR P (gCe γ) c)), (0, jsub c (spL P (gCe γ) c))] [] (G, jup (jup X2 190 1 (gWo γ + w)) 190 (8 + c) 1) else some (w, (G, jup (jup X2 190 1 (gWo γ + w)) 190 (8 + c) 1))) = _ ∧ _
    rw [e4, e5]
    -- the ground in the end
    have base : ∀ X3 : jX, (∀ j, j < 8 → X3 190 j = jup X2 190 1 (gWo γ + w) 190 j) → (∀ i, 0 ≤ i → i < 48 → X3 190 (0 + 8 + i) = gCe (dig P γ c w) i) → mGr X3 190 0 (dig P γ c w) := by
      intro X3 a1 a2
      refine ⟨⟨?_, ?_, ?_⟩, a2, fun k k0 k1 => ?_⟩
      · rw [a1 0 (by omega)]; exact hγ3.1.1
      · rw [a1 (0 + 1) (by omega)]; exact hγ3.1.2.1
      · rw [a1 (0 + 2) (by omega)]; exact hγ3.1.2.2
      · rw [a1 _ (by omega)]; exact hγ3.2.2 k k0 k1
    by_cases hf : pHo P < spn P (gCe γ) c
    · rw [if_pos hf, if_pos hf]
      obtain ⟨X', e', f', c'⟩ := t_isCut_n (d + 5) hG c w (pSe P c) (c - spL P (gCe γ) c) (c + spR P (gCe γ) c) (by have := hs.2.2.2.2.1.1; omega) (by have := hs.2.2.2.2.2.2; omega) (spL P (gCe γ) c + spR P (gCe γ) c + 1).toNat (jup (jup X2 190 1 (gWo γ + w)) 190 (8 + c) 1) (c - spL P (gCe γ) c) (Int.le_refl _) (by omega)
      have x149 : X' 149 = X1 149 := by rw [f' 149 (by omega), jup_rw _ _ _ _ _ (by omega), jup_rw _ _ _ _ _ (by omega), hx149]
      refine ⟨_, e', base _ (fun j hj => ?_) (fun i i0 i1 => ?_), mfC_t hf1 (mfC_t hf2 ⟨fun k k0 k1 k2 k3 => ?_, fun j j0 j1 j2 => ?_⟩), ?_⟩
      · rw [jup_rw _ _ _ _ _ (by omega), c' j, if_neg (by omega), jup_row _ _ _ _ _ (by omega)]
      · rw [jup_rw _ _ _ _ _ (by omega), c' _]
        show _ = if pHo P < spn P (gCe γ) c then (if c - spL P (gCe γ) c ≤ i ∧ i ≤ c + spR P (gCe γ) c then 3 else gCe γ i) else if i = c then 1 else gCe γ i
        rw [if_pos hf]
        by_cases q : c - spL P (gCe γ) c ≤ i ∧ i ≤ c + spR P (gCe γ) c
        · rw [if_pos q, if_pos (by omega)]
        · rw [if_neg q, if_neg (by omega), jup_row _ _ _ _ _ (by omega)]; exact hγ3.2.1 i i0 i1
      · rw [jup_rw _ _ _ _ _ k0, f' k k1, jup_rw _ _ _ _ _ k1, jup_rw _ _ _ _ _ k1]
      · rw [jup_row _ _ _ _ _ j2, f' 149 (by omega), jup_rw _ _ _ _ _ (by omega), jup_rw _ _ _ _ _ (by omega)]
      · rw [jup_same, x149, x64, show jadd (jsub (c + spR P (gCe γ) c) (c - spL P (gCe γ) c)) 1 = spn P (gCe γ) c by rw [← e3, e4, e5]]
    · rw [if_neg hf, if_neg hf]
      refine ⟨_, rfl, base _ (fun j hj => ?_) (fun i i0 i1 => ?_), mfC_t hf1 (mfC_t hf2 hf4), ?_⟩
      · rw [jup_row _ _ _ _ _ (by omega)]
      · show _ = if pHo P < spn P (gCe γ) c then (if c - spL P (gCe γ) c ≤ i ∧ i ≤ c + spR P (gCe γ) c then 3 else gCe γ i) else if i = c then 1 else gCe γ i
        rw [if_neg hf]
        by_cases q : i = c
        · rw [if_pos q, q, show (0 : Int) + 8 + c = 8 + c by omega, jup_same]
        · rw [if_neg q, jup_row _ _ _ _ _ (by omega)]; exact hγ3.2.1 i i0 i1
      · rw [jup_rw _ _ _ _ _ (by omega), jup_rw _ _ _ _ _ (by omega), hx149, x64]
  by_cases hr : pSe P c = -1
  · rw [if_pos hr]
    exact tail X1 hP1 (mfC_r _) rfl (fun _ _ => rfl) (fun k k0 k1 => by rw [if_neg (by omega)]; exact c5 k k0 k1)
  · have hst := o7 (pSe P c) (by omega) (by omega)
    have e6 : X1 190 (3 + pSe P c) = gSt γ (pSe P c) := by rw [show 3 + pSe P c = 0 + 3 + pSe P c by omega]; exact c5 _ (by omega) (by omega)
    rw [if_neg hr, gr_149_53 hG, gl_190 hG, jadd_id (a := 3) (by omega) (by omega), e6, jadd_id (by omega) (by omega)]
    simp only [Int.reduceLE, reduceIte]
    rw [if_pos (by omega), if_pos (by omega), if_pos (by omega), if_pos (by omega)]
    refine tail _ (mfC_P (mfC_N _ _) hP1) (mfC_N _ _) (jup_rw _ _ _ _ _ (by omega)) (fun j hj => jup_row _ _ _ _ _ (by omega)) (fun k k0 k1 => ?_)
    by_cases q : k = pSe P c
    · rw [if_pos q, q, show (0 : Int) + 3 + pSe P c = 3 + pSe P c by omega, jup_same]
    · rw [if_neg q, jup_row _ _ _ _ _ (by omega)]; exact c5 k k0 k1
theorem wth_le {P : aP} {γ : aG} {c : Int} (hO : pOk P) (hi : inP P c) : 0 ≤ wth P (gCe γ) c ∧ wth P (gCe γ) c ≤ 999 := by
  have hk := pOk_c hO c hi.1 hi.2
  unfold wth
  split
  · omega
  · cases hl : pFm P 1 with
    | none =>
      have := pOk_k hO (pSe P c) (by omega) hk.2
      dsimp only
      omega
    | some l =>
      dsimp only
      unfold cl0
      split
      · omega
      · split <;> omega
