/-! WHAT IS REACHED, WHY, WORTH: the reference -/
theorem t_cut0 (d : Nat) {G : jG} {X : jX} (v m : Int) (h1 : -1000000 ≤ v) (h2 : v ≤ 1000000) : jD (d + 1) 238 [(1, v), (0, m)] (G, X) = some (cl0 v m, (G, X)) := by
  rw [e_X12_cut0, w32_i (by omega) (by omega)]
  unfold lCmp cl0
  grind
theorem t_asksCell (d : Nat) {G : jG} {X : jX} {P : aP} {γ : aG} (c : Int) (hG : GG G) (hP : mPlan X P) (hO : pOk P) (hi : inP P c) (hγ : mGr X 190 0 γ) : ∃ X', jD (d + 4) 234 [(22, 149), (0, c)] (G, X) = some (0, (G, X')) ∧ (∀ k, k ≠ 149 → X' k = X k) ∧ (∀ j, ¬ (55 ≤ j ∧ j ≤ 60) → X' 149 j = X 149 j) ∧ (∀ j, 1 ≤ j → j ≤ 6 → X' 149 (j + 54) = fcC P (gCe γ) c j) := by
  have hc := pCe_le hO
  have hm := mod_in hO hi
  have hk := pOk_c hO c hi.1 hi.2
  obtain ⟨h0, h1⟩ := id hi
  have fr : ∀ X1 : jX, ((∀ k, k ≠ 149 → X1 k = X k) ∧ (∀ j, ¬ (55 ≤ j ∧ j ≤ 60) → X1 149 j = X 149 j)) → mPlan X1 P ∧ mGr X1 190 0 γ := fun X1 h => ⟨mPlan_fr (fun a h1 h2 => h.1 a (by omega)) (h.2 51 (by omega)) hP, mGr_fr (h.1 190 (by omega)) hγ⟩
  have up : ∀ (X1 : jX) (j z : Int), 55 ≤ j → j ≤ 60 → ((∀ k, k ≠ 149 → X1 k = X k) ∧ (∀ j, ¬ (55 ≤ j ∧ j ≤ 60) → X1 149 j = X 149 j)) → ((∀ k, k ≠ 149 → jup X1 149 j z k = X k) ∧ (∀ i, ¬ (55 ≤ i ∧ i ≤ 60) → jup X1 149 j z 149 i = X 149 i)) := fun X1 j z q1 q2 h => ⟨fun k hk => by rw [jup_rw _ _ _ _ _ hk]; exact h.1 k hk, fun i hi => by rw [jup_row _ _ _ _ _ (by omega)]; exact h.2 i hi⟩
  have f0 := up X 55 (c / pC P) (by omega) (by omega) ⟨fun _ _ => rfl, fun _ _ => rfl⟩
  rw [e_X12_asksCell, t_columns (d + 2) hG hP]
  simp only [Option.bind_some, Int.reduceLE, reduceIte]
  rw [if_neg (show ¬ pC P = 0 by omega), jdiv_id h0 (by omega) (by omega), t_columns (d + 2) hG (fr _ f0).1]
  simp only [Option.bind_some, Int.reduceLE, reduceIte]
  have f1 := up _ 56 (c % pC P) (by omega) (by omega) f0
  rw [if_neg (show ¬ pC P = 0 by omega), jrem_id h0, t_kindAt d c hG (fr _ f1).1 hO hi]
  simp only [Option.bind_some]
  rw [t_restOf (d + 2) _ hG (fr _ f1).1 hO hk.1 hk.2]
  simp only [Option.bind_some]
  have f2 := up _ 57 (rsO P (pSe P c)) (by omega) (by omega) f1
  rw [t_kindAt d c hG (fr _ f2).1 hO hi]
  simp only [Option.bind_some]
  rw [t_gasOf (d + 2) _ hG (fr _ f2).1 hO hk.1 hk.2]
  simp only [Option.bind_some]
  have f3 := up _ 58 (gsO P (pSe P c)) (by omega) (by omega) f2
  rw [t_nearOf d c hG (fr _ f3).1 hO hi (fr _ f3).2]
  simp only [Option.bind_some]
  have f4 := up _ 59 (ner P (gCe γ) c) (by omega) (by omega) f3
  rw [t_spanOf d c hG (fr _ f4).1 hO hi (fr _ f4).2]
  simp only [Option.bind_some]
  have f5 := up _ 60 (spn P (gCe γ) c) (by omega) (by omega) f4
  refine ⟨_, rfl, f5.1, f5.2, fun j j0 j1 => ?_⟩
  rcases (show j = 1 ∨ j = 2 ∨ j = 3 ∨ j = 4 ∨ j = 5 ∨ j = 6 by omega) with rfl | rfl | rfl | rfl | rfl | rfl <;> simp [jup, fcC]
/-- a formula of a cell -/
theorem t_codesTell (d : Nat) {G : jG} {X : jX} {P : aP} (w : Int) (l : List Int) {u : Int} {t : Nat} (hG : GG G) (hw0 : 0 ≤ w) (hw : w < 3) (hu : u = 0 ∨ u = 1) (hwf : wfC u t l) (h1 : 0 ≤ X 187 (3 + w)) (h2 : X 188 (3 + w) = X 187 (3 + w) + l.length) (h3 : X 188 (3 + w) ≤ 1600) (h4 : ∀ i : Nat, i < l.length → X 189 (1600 + (X 187 (3 + w) + i)) = toM (l.getD i 0)) (f : Int → Int) (hf : ∀ k, 0 ≤ k → k ≤ 9 → -1000000 ≤ f k ∧ f k ≤ 1000000) (hfa : ∀ op ∈ l, 20000 ≤ op → X 149 (fsl op) = f (op - 20000)) : ∃ X', jD (d + 4) 237 [(22, 149), (0, w)] (G, X) = some (evv f tb0 l, (G, X')) ∧ mfE X X' := by
  have hf0 : mfE X (jup X 149 115 0) := ⟨fun k h1 _ => jup_rw _ _ _ _ _ h1, fun j _ h2 => jup_row _ _ _ _ _ h2⟩
  have fslb : ∀ op ∈ l, 20000 ≤ op → fsl op ≠ 115 := fun op hop h => by
    have := hwf.2.2.2 op hop
    unfold okO at this
    unfold fsl
    rcases hu with rfl | rfl <;> simp at this <;> split <;> omega
  obtain ⟨X', e, fr⟩ := t_codes_n d hG w (X 188 (3 + w)) hw0 hw u hu f tb0 hf (fun x => by unfold tb0; omega) l (jup X 149 115 0) (X 187 (3 + w)) [] [] [t] (2, -1) (Or.inl rfl) h1 (by rw [jup_rw _ _ _ _ _ (by omega)]; exact h4) (by rw [jup_rw _ _ _ _ _ (by omega)]) h2.symm h3 hwf.2.2.2 (fun op hop h => by rw [jup_row _ _ _ _ _ (fslb op hop h)]; exact hfa op hop h) (by rw [jup_same]; rfl) trivial trivial (by simp) hwf.2.1 hwf.2.2.1
  refine ⟨X', ?_, mfE_t hf0 fr⟩
  rw [e_X12_codesTell, gr_149_46 hG, gl_187 hG, jadd_id (by omega) (by omega), jup_rw _ _ _ _ _ (by omega)]
  simp only [Int.reduceLE, reduceIte]
  rw [if_pos (by omega), if_pos (by omega)]
  exact e
theorem fcC_sl {P : aP} {st : Int → Int} {c : Int} {X : jX} {l : List Int} (h : ∀ j, 1 ≤ j → j ≤ 6 → X 149 (j + 54) = fcC P st c j) (hok : ∀ op ∈ l, okO 0 op) : ∀ op ∈ l, 20000 ≤ op → X 149 (fsl op) = fcC P st c (op - 20000) := by
  intro op hop h2
  have := hok op hop
  unfold okO at this
  simp at this
  have h3 := this.2 h2
  unfold fsl
  rw [if_pos (by omega)]
  exact h (op - 20000) (by omega) (by omega)
theorem t_worthOf (d : Nat) {G : jG} {X : jX} {P : aP} {γ : aG} (c : Int) (hG : GG G) (hP : mPlan X P) (hO : pOk P) (hi : inP P c) (hγ : mGr X 190 0 γ) : ∃ X', jD (d + 5) 239 [(22, 149), (0, c)] (G, X) = some (wth P (gCe γ) c, (G, X')) ∧ mfE X X' := by
  have hk := pOk_c hO c hi.1 hi.2
  rw [e_X12_worthOf, t_kindAt (d + 1) c hG hP hO hi]
  simp only [Option.bind_some, Int.reduceLE, reduceIte]
  unfold wth
  by_cases hkk : pSe P c = -1
  · rw [if_pos hkk, if_pos hkk]
    exact ⟨X, rfl, mfE_r X⟩
  rw [if_neg hkk, if_neg hkk, gr_149_46 hG, gl_187 hG]
  simp only [Int.reduceLE, Int.reduceLT, reduceIte]
  have hfo := hP.2.2.2.1.2.1
  have hwf := (pOk_f hO).2.1
  cases hl : pFm P 1 with
  | none =>
    rw [hl] at hfo
    have hfo : X 187 4 = -1 := hfo
    rw [if_pos hfo, t_kindAt (d + 1) c hG hP hO hi]
    simp only [Option.bind_some]
    rw [t_restOf (d + 3) _ hG hP hO hk.1 hk.2]
    simp only [Option.bind_some]
    unfold rsO
    rw [if_neg hkk]
    exact ⟨X, rfl, mfE_r X⟩
  | some l =>
    rw [hl] at hfo hwf
    obtain ⟨o0, o1, o2, o3⟩ : 0 ≤ X 187 (3 + 1) ∧ X 188 (3 + 1) = X 187 (3 + 1) + l.length ∧ X 188 (3 + 1) ≤ 1600 ∧ (∀ i : Nat, i < l.length → X 189 (1600 + (X 187 (3 + 1) + i)) = toM (l.getD i 0)) := hfo
    have hwf : wfC 0 0 l := hwf
    have o0' : ¬ X 187 4 = -1 := by intro q; have : X 187 (3 + 1) = -1 := q; omega
    obtain ⟨X1, e1, f1, f2, c1⟩ := t_asksCell d c hG hP hO hi hγ
    rw [if_neg o0', e1]
    simp only [Option.bind_some]
    obtain ⟨X2, e2, fr2⟩ := t_codesTell (P := P) d 1 l (X := X1) hG (by omega) (by omega) (Or.inl rfl) hwf (by rw [f1 187 (by omega)]; exact o0) (by rw [f1 187 (by omega), f1 188 (by omega)]; exact o1) (by rw [f1 188 (by omega)]; exact o2) (by rw [f1 187 (by omega), f1 189 (by omega)]; exact o3) (fcC P (gCe γ) c) (fcC_le _ hO hi) (fcC_sl c1 hwf.2.2.2)
    have hv := evv_ok (fcC_le (gCe γ) hO hi) (tb := tb0) (fun x => by unfold tb0; omega) hwf
    rw [e2]
    simp only [Option.bind_some]
    rw [t_cut0 (d + 3) _ 999 hv.1 hv.2.1]
    simp only [Option.bind_some]
    exact ⟨X2, rfl, mfE_t ⟨fun k h1 _ => f1 k h1, fun j h1 _ => f2 j (by omega)⟩ fr2⟩
theorem t_mayBe (d : Nat) {G : jG} {X : jX} {P : aP} {γ : aG} (c : Int) (hG : GG G) (hP : mPlan X P) (hO : pOk P) (hi : inP P c) (hγ : mGr X 190 0 γ) : ∃ X', jD (d + 5) 240 [(22, 149), (0, c)] (G, X) = some (b01 (may P (gCe γ) c), (G, X')) ∧ mfE X X' := by
  rw [e_X12_mayBe, gr_149_46 hG, gl_187 hG]
  simp only [Int.reduceLE, Int.reduceLT, reduceIte]
  have hfo := hP.2.2.2.1.1
  have hwf := (pOk_f hO).1
  cases hl : pFm P 0 with
  | none =>
    rw [hl] at hfo
    have hfo : X 187 3 = -1 := hfo
    have hmay : may P (gCe γ) c := by unfold may; rw [hl]; trivial
    rw [if_pos hfo, b01_t hmay]
    exact ⟨X, rfl, mfE_r X⟩
  | some l =>
    rw [hl] at hfo hwf
    obtain ⟨o0, o1, o2, o3⟩ : 0 ≤ X 187 (3 + 0) ∧ X 188 (3 + 0) = X 187 (3 + 0) + l.length ∧ X 188 (3 + 0) ≤ 1600 ∧ (∀ i : Nat, i < l.length → X 189 (1600 + (X 187 (3 + 0) + i)) = toM (l.getD i 0)) := hfo
    have hwf : wfC 0 1 l := hwf
    have o0' : ¬ X 187 3 = -1 := by intro q; have : X 187 (3 + 0) = -1 := q; omega
    obtain ⟨X1, e1, f1, f2, c1⟩ := t_asksCell d c hG hP hO hi hγ
    rw [if_neg o0', e1]
    simp only [Option.bind_some]
    obtain ⟨X2, e2, fr2⟩ := t_codesTell (P := P) d 0 l (X := X1) hG (by omega) (by omega) (Or.inl rfl) hwf (by rw [f1 187 (by omega)]; exact o0) (by rw [f1 187 (by omega), f1 188 (by omega)]; exact o1) (by rw [f1 188 (by omega)]; exact o2) (by rw [f1 187 (by omega), f1 189 (by omega)]; exact o3) (fcC P (gCe γ) c) (fcC_le _ hO hi) (fcC_sl c1 hwf.2.2.2)
    have hm : may P (gCe γ) c ↔ evv (fcC P (gCe γ) c) tb0 l = 1 := by unfold may; rw [hl]
    rw [e2]
    simp only [Option.bind_some]
    refine ⟨X2, ?_, mfE_t ⟨fun k h1 _ => f1 k h1, fun j h1 _ => f2 j (by omega)⟩ fr2⟩
    unfold lCmp
    by_cases q : evv (fcC P (gCe γ) c) tb0 l = 1
    · rw [b01_t (hm.mpr q), q]; rfl
    · rw [b01_f (fun h => q (hm.mp h)), if_neg (by split <;> simp_all)]
/-! reached: rounds over all cells until nothing is added -/
theorem t_isBeside_n (d : Nat) {G : jG} {X : jX} {P : aP} (c : Int) (hG : GG G) (hP : mPlan X P) (hO : pOk P) (hi : inP P c) : ∀ (n : Nat) (v : Int), v + n = 4 → 0 ≤ v → jN (d + 2) 241 2 [(22, 149), (0, c), (0, v)] [] (G, X) = some (b01 (∃ u, v ≤ u ∧ u < 4 ∧ 0 ≤ nV P c u ∧ X 192 (nV P c u) ≠ 0), (G, X)) := by
  have hcc := pCe_le hO
  intro n
  induction n with
  | zero =>
    intro v h0 h1
    rw [h_X12_isBesideReached_2, if_neg (by omega), b01_f (by rintro ⟨u, q1, q2, -⟩; omega)]
  | succ n ih =>
    intro v h0 h1
    have hn := nV_le (w := v) hO hi
    rw [h_X12_isBesideReached_2, if_pos (by omega), t_beside d c v hG hP hO hi h1 (by omega)]
    simp only [Option.bind_some, Int.reduceLE, reduceIte]
    rw [jadd_id (by omega) (by omega), ih (v + 1) (by omega) (by omega)]
    have key : ∀ hq : ¬ (0 ≤ nV P c v ∧ X 192 (nV P c v) ≠ 0), b01 (∃ u, v + 1 ≤ u ∧ u < 4 ∧ 0 ≤ nV P c u ∧ X 192 (nV P c u) ≠ 0) = b01 (∃ u, v ≤ u ∧ u < 4 ∧ 0 ≤ nV P c u ∧ X 192 (nV P c u) ≠ 0) := by
      intro hq
      have : (∃ u, v + 1 ≤ u ∧ u < 4 ∧ 0 ≤ nV P c u ∧ X 192 (nV P c u) ≠ 0) ↔ (∃ u, v ≤ u ∧ u < 4 ∧ 0 ≤ nV P c u ∧ X 192 (nV P c u) ≠ 0) := by
        constructor
        · rintro ⟨u, q1, q2⟩; exact ⟨u, by omega, q2⟩
        · rintro ⟨u, q1, q2⟩
          by_cases q : u = v
          · subst q; exact absurd q2.2 hq
          · exact ⟨u, by omega, q2⟩
      rw [propext this]
    by_cases hq : nV P c v = -1
    · rw [if_pos hq, key (by omega)]
    · rw [if_neg hq, t_beside d c v hG hP hO hi h1 (by omega)]
      simp only [Option.bind_some]
      rw [gr_149_63 hG, gl_192 hG]
      simp only [Int.reduceLE, reduceIte]
      rw [if_pos (by omega), if_pos (by omega), ih (v + 1) (by omega) (by omega)]
      by_cases hx : X 192 (nV P c v) = 0
      · rw [if_pos hx, key (fun q => q.2 hx)]
      · rw [if_neg hx, b01_t ⟨v, by omega, by omega, by omega, hx⟩]
theorem t_isBeside (d : Nat) {G : jG} {X : jX} {P : aP} (c : Int) (hG : GG G) (hP : mPlan X P) (hO : pOk P) (hi : inP P c) : jD (d + 3) 241 [(22, 149), (0, c)] (G, X) = some (b01 (∃ b, bsd P c b ∧ X 192 b ≠ 0), (G, X)) := by
  rw [e_X12_isBesideReached, t_isBeside_n d c hG hP hO hi 4 0 rfl (by omega)]
  have : (∃ u, 0 ≤ u ∧ u < 4 ∧ 0 ≤ nV P c u ∧ X 192 (nV P c u) ≠ 0) ↔ (∃ b, bsd P c b ∧ X 192 b ≠ 0) := by
    constructor
    · rintro ⟨u, u0, u1, u2, u3⟩
      refine ⟨nV P c u, ?_, u3⟩
      rw [nV_nW] at u2 ⊢
      exact nW_bsd (by repeat' split <;> omega) (by repeat' split <;> omega) u2
    · rintro ⟨b, hb, hx⟩
      obtain ⟨h0, h1⟩ := hb
      rcases h1 with h | h | h | h
      · exact ⟨2, by omega, by omega, by show 0 ≤ nUp P c; omega, by show X 192 (nUp P c) ≠ 0; rw [← h]; exact hx⟩
      · exact ⟨0, by omega, by omega, by show 0 ≤ nLf P c; omega, by show X 192 (nLf P c) ≠ 0; rw [← h]; exact hx⟩
      · exact ⟨1, by omega, by omega, by show 0 ≤ nRt P c; omega, by show X 192 (nRt P c) ≠ 0; rw [← h]; exact hx⟩
      · exact ⟨3, by omega, by omega, by show 0 ≤ nDn P c; omega, by show X 192 (nDn P c) ≠ 0; rw [← h]; exact hx⟩
  rw [propext this]
