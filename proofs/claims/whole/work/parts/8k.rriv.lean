/-! RIVALS: the reference's search -/
def sg (z : Int) : Int := if z % 2 = 0 then 1 else -1
theorem sg_1 (z : Int) : sg z = 1 ∨ sg z = -1 := by unfold sg; split <;> omega
theorem sg_s (z : Int) : sg (z + 1) = - sg z := by unfold sg; split <;> split <;> omega
/-- what is kept while a level's cells are tried -/
def dI (P : aP) (n : Nat) (g : aG) (a : Bool × Int × List Int) : Prop := ((a.1 = false ∧ a.2.2 = []) ∨ (a.1 = true ∧ ∃ c, inP P c ∧ why P (gCe g) c = 0 ∧ a.2.2 = c :: (duelS P n (cut1 P g c)).2)) ∧ -(999 * ((n + 1 : Nat) : Int)) ≤ a.2.1 ∧ a.2.1 ≤ 999 * ((n + 1 : Nat) : Int)
theorem dI_0 (P : aP) (n : Nat) (g : aG) : dI P n g (false, 0, []) := ⟨Or.inl ⟨rfl, rfl⟩, by show -(999 * ((n + 1 : Nat) : Int)) ≤ 0; omega, by show (0 : Int) ≤ 999 * ((n + 1 : Nat) : Int); omega⟩
theorem dI_step {P : aP} {n : Nat} {g : aG} {a : Bool × Int × List Int} {c : Int} (hO : pOk P) (hi : inP P c) (hb : ∀ γ, -(999 * (n : Int)) ≤ (duelS P n γ).1 ∧ (duelS P n γ).1 ≤ 999 * (n : Int)) (h : dI P n g a) : dI P n g (dstep P n g c a) := by
  unfold dstep
  have hw := wth_le (γ := g) hO hi
  have := hb (cut1 P g c)
  by_cases q : why P (gCe g) c = 0
  · rw [if_pos q]
    split
    · exact ⟨Or.inr ⟨rfl, c, hi, q, rfl⟩, by dsimp only; omega, by dsimp only; omega⟩
    · exact h
  · rw [if_neg q]; exact h
theorem dI_ov {P : aP} {n : Nat} {g : aG} (hO : pOk P) (hb : ∀ γ, -(999 * (n : Int)) ≤ (duelS P n γ).1 ∧ (duelS P n γ).1 ≤ 999 * (n : Int)) : ∀ (m : Nat) (i : Int) (a : Bool × Int × List Int), 0 ≤ i → i + m ≤ pCe P → dI P n g a → dI P n g (ovC (dstep P n g) m i a)
  | 0, _, _, _, _, h => h
  | m + 1, i, a, i0, i1, h => dI_ov hO hb m (i + 1) _ (by omega) (by omega) (dI_step hO ⟨i0, by omega⟩ hb h)
theorem duelS_S (P : aP) (n : Nat) (g : aG) : duelS P (n + 1) g = (ovC (dstep P n g) (pCe P).toNat 0 (false, 0, [])).2 := rfl
theorem duelS_b {P : aP} (hO : pOk P) : ∀ (n : Nat) (γ : aG), -(999 * (n : Int)) ≤ (duelS P n γ).1 ∧ (duelS P n γ).1 ≤ 999 * (n : Int)
  | 0, _ => ⟨by show -(999 * ((0 : Nat) : Int)) ≤ 0; omega, by show (0 : Int) ≤ 999 * ((0 : Nat) : Int); omega⟩
  | n + 1, γ => by
    have hcc := pCe_le hO
    rw [duelS_S]
    exact (dI_ov hO (duelS_b hO n) (pCe P).toNat 0 _ (by omega) (by omega) (dI_0 P n γ)).2
theorem duelS_l {P : aP} (hO : pOk P) (n : Nat) (γ : aG) : (duelS P n γ).2 = [] ∨ ∃ (k : Nat) (c : Int), n = k + 1 ∧ inP P c ∧ why P (gCe γ) c = 0 ∧ (duelS P n γ).2 = c :: (duelS P k (cut1 P γ c)).2 := by
  have hcc := pCe_le hO
  cases n with
  | zero => exact Or.inl rfl
  | succ n =>
    rw [duelS_S]
    rcases (dI_ov hO (duelS_b hO n) (pCe P).toNat 0 _ (by omega) (by omega) (dI_0 P n γ)).1 with h | ⟨_, c, h1, h2, h3⟩
    · exact Or.inl h.2
    · exact Or.inr ⟨n, c, rfl, h1, h2, h3⟩
theorem t_answers (d : Nat) {G : jG} {X : jX} (hG : GG G) (l who b v c : Int) (l0 : 0 ≤ l) (l1 : l < 5) (w0 : 0 ≤ who) (w1 : who ≤ 5) (h198 : X 198 l = sg (l + who) * b) (h194 : X 194 l = c) : jD (d + 1) 267 [(22, 149), (0, l), (0, who), (0, sg (l + who) * v)] (G, X) = some (0, (G, if X 199 l = -1 ∨ b < v then jup (jup X 199 l c) 198 l (sg (l + who) * v) else X)) := by
  have e54 : ∀ s, jN d 267 54 [(22, 149), (0, l), (0, who), (0, sg (l + who) * v), (0, s)] [] (G, X) = some (0, (G, jup (jup X 199 l c) 198 l (sg (l + who) * v))) := fun s => by
    rw [h_X12_answers_54, gr_149_70 hG, gl_194 hG, gr_149_75 hG, gl_199 hG, gr_149_74 hG, gl_198 hG, h194]
    simp only [if_pos l0, if_pos l1, Int.reduceLE, reduceIte]
  have hj : jrem (jadd l who) 2 = (l + who) % 2 := by
    rw [jadd_id (by omega) (by omega)]
    unfold jrem
    rw [Int.tmod_eq_emod_of_nonneg (by omega)]
  rw [e_X12_answers, hj]
  unfold sg at *
  by_cases q : (l + who) % 2 = 0
  · simp only [if_pos q, Int.one_mul] at *
    rw [h_X12_answers_13, gr_149_75 hG, gl_199 hG, gr_149_74 hG, gl_198 hG, h198]
    simp only [if_pos l0, if_pos l1, Int.reduceLE, reduceIte]
    by_cases q1 : X 199 l = -1
    · rw [if_pos q1, if_pos (Or.inl q1), e54]
    · rw [if_neg q1, if_neg (by omega)]
      by_cases q2 : b < v
      · rw [if_pos q2, if_pos (Or.inr q2), e54]
      · rw [if_neg q2, if_neg (by omega), h_X12_answers_53]
  · simp only [if_neg q] at *
    rw [h_X12_answers_13, gr_149_75 hG, gl_199 hG, gr_149_74 hG, gl_198 hG, h198]
    simp only [if_pos l0, if_pos l1, Int.reduceLE, reduceIte]
    by_cases q1 : X 199 l = -1
    · rw [if_pos q1, if_pos (Or.inl q1), e54]
    · rw [if_neg q1]
      by_cases q2 : b < v
      · rw [if_pos (show -1 * v < -1 * b by omega), if_pos (Or.inr q2), e54]
      · rw [if_neg (show ¬ -1 * v < -1 * b by omega), if_neg (by omega), h_X12_answers_53]
theorem t_opensRival (d : Nat) {G : jG} {X : jX} {P : aP} {γ : aG} (hG : GG G) (hP : mPlan X P) (hO : pOk P) (l N : Int) (l0 : 0 ≤ l) (l1 : l < 5) (hγ : mGr X 191 (56 * l) γ) : ∃ X', jD (d + 9) 266 [(22, 149), (0, l), (0, N)] (G, X) = some (0, (G, X')) ∧ X' 193 l = (if l = N then 0 else cset P (gCe γ)) ∧ X' 194 l = -1 ∧ X' 198 l = 0 ∧ X' 199 l = -1 ∧ (∀ j, j ≠ l → X' 193 j = X 193 j ∧ X' 194 j = X 194 j ∧ X' 198 j = X 198 j ∧ X' 199 j = X 199 j) ∧ (∀ k, k = 191 ∨ (195 ≤ k ∧ k ≤ 197) → X' k = X k) ∧ mfT X X' := by
  obtain ⟨X1, e1, s1, t1, os, ot, f1, T1⟩ := t_opens d hG hP hO l l0 l1 hγ
  rw [e_X12_opensRival, e1]
  simp only [Option.bind_some, Int.reduceLE, reduceIte]
  rw [gr_149_69 hG, gl_193 hG, gr_149_75 hG, gl_199 hG, gr_149_74 hG, gl_198 hG]
  simp only [if_pos l0, if_pos l1, Int.reduceLE, reduceIte]
  by_cases q : l = N
  · rw [if_pos q, if_pos q]
    refine ⟨_, rfl, ?_, ?_, ?_, ?_, fun j hj => ⟨?_, ?_, ?_, ?_⟩, fun k hk => ?_, mfT_t T1 (mfT_t (mfT_u 193 _ _ (by omega)) (mfT_t (mfT_u 199 _ _ (by omega)) (mfT_u 198 _ _ (by omega))))⟩
    · rw [jup_rw _ _ _ _ _ (by omega), jup_rw _ _ _ _ _ (by omega), jup_same]
    · rw [jup_rw _ _ _ _ _ (by omega), jup_rw _ _ _ _ _ (by omega), jup_rw _ _ _ _ _ (by omega), t1]
    · rw [jup_same]
    · rw [jup_rw _ _ _ _ _ (by omega), jup_same]
    · rw [jup_rw _ _ _ _ _ (by omega), jup_rw _ _ _ _ _ (by omega), jup_row _ _ _ _ _ hj, os j hj]
    · rw [jup_rw _ _ _ _ _ (by omega), jup_rw _ _ _ _ _ (by omega), jup_rw _ _ _ _ _ (by omega), ot j hj]
    · rw [jup_row _ _ _ _ _ hj, jup_rw _ _ _ _ _ (by omega), jup_rw _ _ _ _ _ (by omega), f1 198 (by omega)]
    · rw [jup_rw _ _ _ _ _ (by omega), jup_row _ _ _ _ _ hj, jup_rw _ _ _ _ _ (by omega), f1 199 (by omega)]
    · rw [jup_rw _ _ _ _ _ (by omega), jup_rw _ _ _ _ _ (by omega), jup_rw _ _ _ _ _ (by omega), f1 k (by omega)]
  · rw [if_neg q, if_neg q]
    refine ⟨_, rfl, ?_, ?_, ?_, ?_, fun j hj => ⟨?_, ?_, ?_, ?_⟩, fun k hk => ?_, mfT_t T1 (mfT_t (mfT_u 199 _ _ (by omega)) (mfT_u 198 _ _ (by omega)))⟩
    · rw [jup_rw _ _ _ _ _ (by omega), jup_rw _ _ _ _ _ (by omega), s1]
    · rw [jup_rw _ _ _ _ _ (by omega), jup_rw _ _ _ _ _ (by omega), t1]
    · rw [jup_same]
    · rw [jup_rw _ _ _ _ _ (by omega), jup_same]
    · rw [jup_rw _ _ _ _ _ (by omega), jup_rw _ _ _ _ _ (by omega), os j hj]
    · rw [jup_rw _ _ _ _ _ (by omega), jup_rw _ _ _ _ _ (by omega), ot j hj]
    · rw [jup_row _ _ _ _ _ hj, jup_rw _ _ _ _ _ (by omega), f1 198 (by omega)]
    · rw [jup_rw _ _ _ _ _ (by omega), jup_row _ _ _ _ _ hj, f1 199 (by omega)]
    · rw [jup_rw _ _ _ _ _ (by omega), jup_rw _ _ _ _ _ (by omega), f1 k (by omega)]
/-- a level at which nothing is left -/
def noL (X : jX) (P : aP) (l : Int) : Prop := ∃ (f : Int → Int) (N : Nat) (i : Int), N ≤ 48 ∧ X 193 l = (bsN f N : Int) ∧ X 194 l = i - 1 ∧ 0 ≤ i ∧ i ≤ 48 ∧ ∀ j, i ≤ j → j < N → f j ≠ 1
theorem t_next_no (d : Nat) {G : jG} {X : jX} {P : aP} {l : Int} (hG : GG G) (l0 : 0 ≤ l) (l1 : l < 5) (h : noL X P l) : jD (d + 1) 262 [(22, 149), (0, l)] (G, X) = some (-1, (G, jup X 194 l 48)) := by
  obtain ⟨f, N, i, hN, h1, h2, h3, h4, h5⟩ := h
  obtain ⟨c, c0, c1, c2, c3, e⟩ := t_nextTried d hG l l0 l1 f N hN h1 i h3 h4 h2
  by_cases hc : c < 48
  · exact absurd (c3 hc).1 (h5 c c0 (c3 hc).2)
  · rw [e, if_neg hc, show c = 48 by omega]
/-- a level is left: what lies above gets its answer -/
theorem t_pop (d : Nat) {G : jG} {X : jX} {P : aP} {k l : Nat} {γ : aG} {acc : Bool × Int × List Int} {c : Int} (hG : GG G) (hO : pOk P) (N who : Int) (w0 : 0 ≤ who) (w1 : who ≤ 1) (l1 : l + 1 < 5) (k3 : k ≤ 3) (hc : why P (gCe γ) c = 0) (hi : inP P c) (u4 u5 : jV) (hu4 : u4.1 = 2 ∨ u4.1 = 0) (hu5 : u5.1 = 2 ∨ u5.1 = 0) (hno : noL X P ((l : Int) + 1)) (h195 : X 195 l = sg (l + who) * wth P (gCe γ) c) (h198 : X 198 ((l : Int) + 1) = sg (l + 1 + who) * (duelS P k (cut1 P γ c)).1) (h194 : X 194 l = c) (hb : X 198 l = sg (l + who) * acc.2.1) (hcl : X 199 l = acc.2.2.headD (-1)) (hI : dI P k γ acc) : ∃ X', jN (d + 10) 268 8 [(22, 149), (0, N), (0, who), (0, (l : Int) + 1), u4, u5] [] (G, X) = jN (d + 10) 268 8 [(22, 149), (0, N), (0, who), (0, (l : Int)), (0, -1), u5] [] (G, X') ∧ X' 198 l = sg (l + who) * (dstep P k γ c acc).2.1 ∧ X' 199 l = (dstep P k γ c acc).2.2.headD (-1) ∧ (∀ j, j < (l : Int) → X' 198 j = X 198 j ∧ X' 199 j = X 199 j) ∧ (∀ j, j < (l : Int) + 1 → X' 194 j = X 194 j) ∧ ∀ a, a ≠ 194 → a ≠ 198 → a ≠ 199 → X' a = X a := by
  have hw := wth_le (γ := γ) hO hi
  have hd := duelS_b hO k (cut1 P γ c)
  rw [h_X12_seeksRivals_8 _ _ _ _ _ u4 hu4 u5 hu5, if_neg (by omega)]
  simp only [Int.reduceLE, reduceIte]
  rw [t_next_no (d + 9) hG (by omega) (by omega) hno]
  simp only [Option.bind_some, reduceIte]
  rw [jadd_id (a := (l : Int) + 1) (b := -1) (by omega) (by omega), show (l : Int) + 1 + -1 = l by omega, jadd_id (a := (l : Int)) (b := 1) (by omega) (by omega), if_neg (show ¬ (l : Int) < 0 by omega), gr_149_71 hG, gl_195 hG, gr_149_74 hG, gl_198 hG]
  simp only [if_pos (show (0 : Int) ≤ l by omega), if_pos (show (l : Int) < 5 by omega), if_pos (show (0 : Int) ≤ (l : Int) + 1 by omega), if_pos (show (l : Int) + 1 < 5 by omega), Int.reduceLE, reduceIte]
  rw [jup_rw _ _ _ _ _ (by omega), jup_rw _ _ _ _ _ (by omega), h195, h198]
  have es : sg ((l : Int) + 1 + who) = - sg (l + who) := by rw [show (l : Int) + 1 + who = l + who + 1 by omega]; exact sg_s _
  have ev : jadd (sg (l + who) * wth P (gCe γ) c) (sg ((l : Int) + 1 + who) * (duelS P k (cut1 P γ c)).1) = sg (l + who) * (wth P (gCe γ) c - (duelS P k (cut1 P γ c)).1) := by
    rw [es]
    rcases sg_1 (l + who) with h | h
    · rw [h, jadd_id (by omega) (by omega)]; omega
    · rw [h, jadd_id (by omega) (by omega)]; omega
  rw [ev, t_answers (d + 9) (X := jup X 194 ((l : Int) + 1) 48) hG (l : Int) who acc.2.1 _ c (by omega) (by omega) w0 (by omega) (by rw [jup_rw _ _ _ _ _ (by omega)]; exact hb) (by rw [jup_row _ _ _ _ _ (by omega)]; exact h194), jup_rw X 194 _ _ 199 (by omega), hcl]
  simp only [Option.bind_some]
  have hds : dstep P k γ c acc = if acc.1 = false ∨ acc.2.1 < wth P (gCe γ) c - (duelS P k (cut1 P γ c)).1 then (true, wth P (gCe γ) c - (duelS P k (cut1 P γ c)).1, c :: (duelS P k (cut1 P γ c)).2) else acc := if_pos hc
  have hh : acc.2.2.headD (-1) = -1 ↔ acc.1 = false := by
    rcases hI.1 with ⟨h1, h2⟩ | ⟨h1, z, hz, _, h2⟩
    · rw [h1, h2]; exact ⟨fun _ => rfl, fun _ => rfl⟩
    · rw [h1, h2]
      refine ⟨fun q => ?_, fun q => by simp at q⟩
      have hz' : 0 ≤ z ∧ z < pCe P := hz
      have q' : z = -1 := q
      omega
  by_cases q : acc.1 = false ∨ acc.2.1 < wth P (gCe γ) c - (duelS P k (cut1 P γ c)).1
  · rw [hds, if_pos q, if_pos (show acc.2.2.headD (-1) = -1 ∨ acc.2.1 < wth P (gCe γ) c - (duelS P k (cut1 P γ c)).1 from q.imp hh.2 id)]
    refine ⟨_, rfl, by rw [jup_same], by rw [jup_rw _ _ _ _ _ (by omega), jup_same]; rfl, fun j hj => ⟨by rw [jup_row _ _ _ _ _ (by omega), jup_rw _ _ _ _ _ (by omega), jup_rw _ _ _ _ _ (by omega)], by rw [jup_rw _ _ _ _ _ (by omega), jup_row _ _ _ _ _ (by omega), jup_rw _ _ _ _ _ (by omega)]⟩, fun j hj => by rw [jup_rw _ _ _ _ _ (by omega), jup_rw _ _ _ _ _ (by omega), jup_row _ _ _ _ _ (by omega)], fun a a1 a2 a3 => by rw [jup_rw _ _ _ _ _ a2, jup_rw _ _ _ _ _ a3, jup_rw _ _ _ _ _ a1]⟩
  · rw [hds, if_neg q, if_neg (show ¬ (acc.2.2.headD (-1) = -1 ∨ acc.2.1 < wth P (gCe γ) c - (duelS P k (cut1 P γ c)).1) from fun z => q (z.imp hh.1 id))]
    exact ⟨_, rfl, by rw [jup_rw _ _ _ _ _ (by omega)]; exact hb, by rw [jup_rw _ _ _ _ _ (by omega)]; exact hcl, fun j hj => ⟨by rw [jup_rw _ _ _ _ _ (by omega)], by rw [jup_rw _ _ _ _ _ (by omega)]⟩, fun j hj => by rw [jup_row _ _ _ _ _ (by omega)], fun a a1 a2 a3 => by rw [jup_rw _ _ _ _ _ a1]⟩
