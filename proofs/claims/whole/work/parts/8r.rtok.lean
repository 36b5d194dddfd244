/-! READING: the reference's tokens -/
def mTp (X : jX) (T : aT) : Prop := X 149 3 = T.1 ∧ ∀ i, 0 ≤ i → i < T.1 → X 150 i = T.2 i
def mK (X : jX) (T : aT) (κ : aK) : Prop := (0 ≤ X 149 2 ∧ X 149 2 ≤ T.1 ∧ rn bB T (X 149 2) = κ.1) ∧ (X 149 4 = κ.1 ↔ κ.2 = true) ∧ X 149 4 ≤ κ.1
def mf0 (X X' : jX) : Prop := (∀ k, k ≠ 149 → X' k = X k) ∧ ∀ j, j ≠ 2 → ¬ (4 ≤ j ∧ j ≤ 6) → X' 149 j = X 149 j
theorem mf0_r (X : jX) : mf0 X X := ⟨fun _ _ => rfl, fun _ _ _ => rfl⟩
theorem mf0_t {X Y Z : jX} (h1 : mf0 X Y) (h2 : mf0 Y Z) : mf0 X Z := ⟨fun k a => by rw [h2.1 k a, h1.1 k a], fun j a b => by rw [h2.2 j a b, h1.2 j a b]⟩
theorem mf0_u {X : jX} {j v : Int} (h : j = 2 ∨ (4 ≤ j ∧ j ≤ 6)) : mf0 X (jup X 149 j v) := ⟨fun k a => jup_rw _ _ _ _ _ a, fun i a b => jup_row _ _ _ _ _ (by omega)⟩
/-- what does not change while a text is read -/
def mB (X : jX) (T : aT) : Prop := mTp X T ∧ mWd X
theorem mB_0 {X X' : jX} {T : aT} (h : mf0 X X') (hB : mB X T) : mB X' T := by
  refine ⟨?_, mWd_fr (fun a ha => h.1 a (by omega)) hB.2⟩
  have := hB.1
  unfold mTp at *
  rw [h.2 3 (by omega) (by omega), h.1 150 (by omega)]
  exact this
theorem mK_in {X : jX} {T : aT} {κ : aK} (h : mK X T κ) : inT T κ := by
  have h1 := rn_ge bB T (X 149 2)
  have h2 := rn_up bB T h.1.2.1
  rw [h.1.2.2] at h1 h2
  exact ⟨by have := h.1.1; omega, h2⟩
/-- looked at: the blanks are passed -/
def lk (X : jX) (κ : aK) : jX := jup X 149 2 κ.1
theorem lk_K {X : jX} {T : aT} {κ : aK} (h : mK X T κ) : mK (lk X κ) T κ := by
  have hi := mK_in h
  refine ⟨⟨by unfold lk; rw [jup_same]; exact hi.1, by unfold lk; rw [jup_same]; exact hi.2, ?_⟩, ?_, ?_⟩
  · unfold lk; rw [jup_same, ← h.1.2.2, rn_rn]
  · unfold lk; rw [jup_row _ _ _ _ _ (by omega)]; exact h.2.1
  · unfold lk; rw [jup_row _ _ _ _ _ (by omega)]; exact h.2.2
theorem lk_0 (X : jX) (κ : aK) : mf0 X (lk X κ) := mf0_u (Or.inl rfl)
theorem lk_at (X : jX) (κ : aK) : lk X κ 149 2 = κ.1 := jup_same _ _ _ _
theorem lk_lk (X : jX) (κ : aK) : lk (lk X κ) κ = lk X κ := jup_id _ _ _ _ (lk_at X κ)
theorem lk_j (X : jX) (κ : aK) (j : Int) (h : j ≠ 2) : lk X κ 149 j = X 149 j := jup_row _ _ _ _ _ h
theorem t_look_n (d : Nat) {G : jG} {T : aT} (hG : GG G) (hT : okT T) : ∀ (m : Nat) (X : jX) (i : Int), (T.1 - i).toNat = m → mTp X T → X 149 2 = i → 0 ≤ i → i ≤ T.1 → jN d 193 0 [(22, 149)] [] (G, X) = some (tat T (rn bB T i), (G, jup X 149 2 (rn bB T i))) := by
  have hT1 := hT.2.1
  have stop : ∀ (X : jX) (i : Int), mTp X T → X 149 2 = i → 0 ≤ i → i ≤ T.1 → (if X 149 2 < X 149 3 then (if 0 ≤ (149 : Int) then (if 0 ≤ (149 : Int) then (if 0 ≤ gR G 149 0 then (if 0 ≤ X 149 2 then (if X 149 2 < gL G (gR G 149 0) then some (X (gR G 149 0) (X 149 2), (G, X)) else none) else none) else none) else none) else none) else some ((-1), (G, X))) = some (tat T i, (G, jup X 149 2 i)) := fun X i hp h2 i0 i1 => by
    rw [h2, hp.1, gr_149_0 hG, gl_150 hG, jup_id _ _ _ _ h2]
    simp only [Int.reduceLE, reduceIte]
    unfold tat
    by_cases q : i < T.1
    · rw [if_pos q, if_pos i0, if_pos (by omega), if_pos ⟨i0, q⟩, hp.2 i i0 q]
    · rw [if_neg q, if_neg (fun y => q y.2)]
  intro m
  induction m with
  | zero =>
    intro X i hm hp h2 i0 i1
    rw [rn_neg (fun q => by omega), h_X12_look_0, if_pos (by omega), if_pos (by omega), if_neg (by rw [h2, hp.1]; omega), if_pos (by omega), if_pos (by omega)]
    exact stop X i hp h2 i0 i1
  | succ m ih =>
    intro X i hm hp h2 i0 i1
    have hi : i < T.1 := by omega
    rw [h_X12_look_0, if_pos (by omega), if_pos (by omega), if_pos (by rw [h2, hp.1]; exact hi), if_pos (by omega), if_pos (by omega)]
    have hg : (0 : Int) ≤ gR G 149 0 ∧ X 149 2 < gL G (gR G 149 0) := by rw [gr_149_0 hG, gl_150 hG, h2]; omega
    have hr : X (gR G 149 0) (X 149 2) = T.2 i := by rw [gr_149_0 hG, h2]; exact hp.2 i i0 hi
    simp only [if_pos hg.1, if_pos hg.2, if_pos (show 0 ≤ X 149 2 by omega), Int.reduceLE, reduceIte]
    rw [hr]
    have next : jN d 193 0 [(22, 149)] [] (G, jup X 149 2 (jadd (X 149 2) 1)) = some (tat T (rn bB T (i + 1)), (G, jup X 149 2 (rn bB T (i + 1)))) := by
      rw [h2, jadd_id (by omega) (by omega), ih (jup X 149 2 (i + 1)) (i + 1) (by omega) ⟨by rw [jup_row _ _ _ _ _ (by omega)]; exact hp.1, fun j a b => by rw [jup_rw _ _ _ _ _ (by omega)]; exact hp.2 j a b⟩ (jup_same _ _ _ _) (by omega) (by omega)]
      congr 3
      funext a b
      unfold jup
      by_cases ha : a = 149
      · simp only [if_pos ha]; by_cases hb : b = 2
        · simp only [if_pos hb]
        · simp only [if_neg hb]
      · simp only [if_neg ha]
    by_cases q1 : T.2 i = 10
    · rw [if_pos q1, rn_pos ⟨hi, (bB_iff _).2 (Or.inl q1)⟩]; exact next
    · rw [if_neg q1]
      by_cases q2 : T.2 i = 32
      · rw [if_pos q2, rn_pos ⟨hi, (bB_iff _).2 (Or.inr q2)⟩]; exact next
      · rw [if_neg q2, rn_neg (fun y => by have := (bB_iff _).1 y.2; omega)]
        have := stop X i hp h2 i0 i1
        rw [if_pos (show (0 : Int) ≤ 149 by omega), if_pos (show (0 : Int) ≤ 149 by omega)] at this
        simp only [if_pos hg.1, if_pos hg.2, if_pos (show 0 ≤ X 149 2 by omega)] at this
        rw [hr] at this
        exact this
theorem t_look (d : Nat) {G : jG} {X : jX} {T : aT} {κ : aK} (hG : GG G) (hT : okT T) (hB : mB X T) (hk : mK X T κ) : jD (d + 1) 193 [(22, 149)] (G, X) = some (tat T κ.1, (G, lk X κ)) := by
  rw [e_X12_look, t_look_n d hG hT _ X (X 149 2) rfl hB.1 rfl hk.1.1 hk.1.2.1, hk.1.2.2]
  rfl
theorem t_fail (d : Nat) {G : jG} {X : jX} (h : X 149 5 = 0) (w s : Int) : jD (d + 1) 190 [(22, 149), (0, w), (0, s)] (G, X) = some (0, (G, jup (jup X 149 5 w) 149 6 s)) := by
  rw [e_X12_fail, h]
  simp only [Int.reduceLE, reduceIte]
theorem t_isLetter (d : Nat) {G : jG} {X : jX} {T : aT} {i : Int} (h0 : 0 ≤ i) : jD (d + 1) 191 [(0, tat T i)] (G, X) = some (if srt T i = 1 then 1 else 0, (G, X)) := by
  rw [e_X12_isLetter]
  by_cases q : i < T.1
  · rw [show tat T i = T.2 i from if_pos ⟨h0, q⟩]
    by_cases q1 : srt T i = 1
    · have := (bL_iff _).1 (srt_1.1 q1).2
      rw [if_pos q1, if_neg (by omega), if_neg (by omega)]
    · have : ¬ bL (T.2 i) = true := fun y => q1 (srt_1.2 ⟨q, y⟩)
      rw [bL_iff] at this
      rw [if_neg q1]
      by_cases q2 : T.2 i < 97
      · rw [if_pos q2]
      · rw [if_neg q2, if_pos (by omega)]
  · have : srt T i = 0 := srt_0.2 (by omega)
    rw [show tat T i = -1 from if_neg (fun y => q y.2), if_pos (by omega), if_neg (by omega)]
theorem t_isDigit (d : Nat) {G : jG} {X : jX} {T : aT} {i : Int} (h0 : 0 ≤ i) : jD (d + 1) 192 [(0, tat T i)] (G, X) = some (if srt T i = 2 then 1 else 0, (G, X)) := by
  rw [e_X12_isDigit]
  by_cases q : i < T.1
  · rw [show tat T i = T.2 i from if_pos ⟨h0, q⟩]
    by_cases q1 : srt T i = 2
    · have := (bD_iff _).1 (srt_2.1 q1).2
      rw [if_pos q1, if_neg (by omega), if_neg (by omega)]
    · have : ¬ bD (T.2 i) = true := fun y => q1 (srt_2.2 ⟨q, y⟩)
      rw [bD_iff] at this
      rw [if_neg q1]
      by_cases q2 : T.2 i < 48
      · rw [if_pos q2]
      · rw [if_neg q2, if_pos (by omega)]
  · have : srt T i = 0 := srt_0.2 (by omega)
    rw [show tat T i = -1 from if_neg (fun y => q y.2), if_pos (by omega), if_neg (by omega)]
theorem tat_in {T : aT} {i : Int} (h0 : 0 ≤ i) (h : i < T.1) : tat T i = T.2 i := if_pos ⟨h0, h⟩
theorem t_here_2 (d : Nat) {G : jG} {X : jX} {T : aT} (hG : GG G) (hT : okT T) (hp : mTp X T) (c k s : Int) (c0 : 0 ≤ c) (hs : X 149 2 = s) (s0 : 0 ≤ s) (v : List Int) (hl : gL G c = v.length) (hsv : s + v.length ≤ T.1) (hv : ∀ i : Nat, i < v.length → X c i = v.getD i 0) : ∀ (w : List Int) (j : Nat), v.drop j = w → j ≤ v.length → jN d 194 76 [(22, 149), (23, c), (0, k), (0, (j : Int))] [] (G, X) = some (if mtc T (s + j) w = true then 1 else 0, (G, X)) := by
  have hT1 := hT.2.1
  intro w
  induction w with
  | nil =>
    intro j hj hjl
    have : v.length ≤ j := by have := congrArg List.length hj; rw [List.length_drop] at this; simp at this; omega
    rw [h_X12_isHere_76, if_pos c0, hl, if_neg (by omega)]
    rfl
  | cons x w ih =>
    intro j hj hjl
    have hlen := congrArg List.length hj
    rw [List.length_drop, List.length_cons] at hlen
    have hx : v.getD j 0 = x := by
      have := congrArg (fun l => l.getD 0 0) hj
      simp only [List.getD_eq_getElem?_getD, List.getElem?_drop, Nat.add_zero] at this ⊢
      rw [this]; rfl
    have hj' : v.drop (j + 1) = w := by
      have := congrArg List.tail hj
      rw [List.tail_drop, List.tail_cons] at this
      exact this
    rw [h_X12_isHere_76, if_pos c0, hl, hs, gr_149_0 hG, gl_150 hG, jadd_id (a := s) (by omega) (by omega), jadd_id (a := (j : Int)) (by omega) (by omega)]
    simp only [if_pos c0, if_pos (show (j : Int) < (v.length : Int) by omega), if_pos (show (0 : Int) ≤ j by omega), if_pos (show 0 ≤ s + (j : Int) by omega), if_pos (show s + (j : Int) < 1600 by omega), Int.reduceLE, reduceIte]
    rw [hp.2 (s + j) (by omega) (by omega), hv j (by omega), hx]
    unfold mtc
    by_cases q : T.2 (s + j) = x
    · rw [if_pos q, show (j : Int) + 1 = ((j + 1 : Nat) : Int) by omega, ih (j + 1) hj' (by omega), decide_eq_true q, Bool.true_and, show s + ((j + 1 : Nat) : Int) = s + j + 1 by omega]
    · rw [if_neg q, decide_eq_false q, Bool.false_and, if_neg (by simp)]
theorem t_here_1 (d : Nat) {G : jG} {X : jX} {T : aT} (hG : GG G) (hT : okT T) (hp : mTp X T) (c s : Int) (c0 : 0 ≤ c) (hs : X 149 2 = s) (s0 : 0 ≤ s) (v : List Int) (hl : gL G c = v.length) (hv : ∀ i : Nat, i < v.length → X c i = v.getD i 0) (hlen : v.length ≤ 10) : ∀ (m : Nat) (k : Int), (T.1 - k).toNat = m → s ≤ k → k ≤ T.1 → jN (d + 1) 194 35 [(22, 149), (23, c), (0, k), (2, (-1))] [] (G, X) = some (if rn bL T k - s = v.length ∧ mtc T s v = true then 1 else 0, (G, X)) := by
  have hT1 := hT.2.1
  have fin : ∀ k, s ≤ k → k ≤ T.1 → (if jsub k s = gL G c then (jN (d + 1) 194 76 [(22, 149), (23, c), (0, k), (0, 0)] [] (G, X)) else some (0, (G, X))) = some (if k - s = v.length ∧ mtc T s v = true then 1 else 0, (G, X)) := fun k k0 k1 => by
    rw [hl, jsub_id (by omega) (by omega)]
    by_cases q : k - s = v.length
    · have := t_here_2 (d + 1) hG hT hp c k s c0 hs s0 v hl (by omega) hv v 0 List.drop_zero (by omega)
      rw [show s + ((0 : Nat) : Int) = s by omega, show ((0 : Nat) : Int) = 0 from rfl] at this
      rw [if_pos q, this]
      by_cases q2 : mtc T s v = true
      · rw [if_pos q2, if_pos ⟨q, q2⟩]
      · rw [if_neg q2, if_neg (fun y => q2 y.2)]
    · rw [if_neg q, if_neg (fun y => q y.1)]
  intro m
  induction m with
  | zero =>
    intro k hm k0 k1
    rw [rn_neg (fun q => by omega), h_X12_isHere_35, hp.1, hs]
    simp only [if_pos c0, Int.reduceLE, reduceIte]
    rw [if_neg (by omega)]
    exact fin k k0 k1
  | succ m ih =>
    intro k hm k0 k1
    have hk : k < T.1 := by omega
    rw [h_X12_isHere_35, hp.1, hs, gr_149_0 hG, gl_150 hG]
    simp only [if_pos c0, if_pos hk, if_pos (show 0 ≤ k by omega), if_pos (show k < 1600 by omega), Int.reduceLE, reduceIte]
    rw [hp.2 k (by omega) hk, ← tat_in (T := T) (i := k) (by omega) hk, t_isLetter d (by omega)]
    simp only [Option.bind_some]
    by_cases q : srt T k = 1
    · rw [if_pos q, if_neg (by omega), rn_pos (srt_1.1 q), jadd_id (by omega) (by omega)]
      exact ih (k + 1) (by omega) (by omega) (by omega)
    · rw [if_neg q, if_pos rfl, rn_neg (fun y => q (srt_1.2 y))]
      rw [hs]
      exact fin k k0 k1
theorem t_isHere (d : Nat) {G : jG} {X : jX} {T : aT} {κ : aK} (hG : GG G) (hT : okT T) (hB : mB X T) (hk : mK X T κ) (h5 : X 149 5 = 0) (c : Int) (v : List Int) (c0 : 0 ≤ c) (c1 : c ≠ 149) (hl : gL G c = v.length) (hv : wRo X c v) (hlen : v.length ≤ 10) : jD (d + 2) 194 [(22, 149), (23, c)] (G, X) = some (if isW T κ v = true then 1 else 0, (G, lk X κ)) := by
  have hi := mK_in hk
  have hB' := mB_0 (lk_0 X κ) hB
  rw [e_X12_isHere, h5]
  simp only [Int.reduceLE, reduceIte]
  rw [t_look d hG hT hB hk]
  simp only [Option.bind_some]
  rw [t_isLetter d hi.1]
  simp only [Option.bind_some]
  by_cases q : srt T κ.1 = 1
  · rw [if_pos q, if_neg (by omega), lk_at, lk_j X κ 4 (by omega)]
    by_cases q2 : κ.2 = true
    · rw [if_pos (hk.2.1.2 q2).symm, if_neg (fun y => by have := (isW_iff.1 y).1.1; unfold so at this; rw [if_pos ⟨q2, Or.inl q⟩] at this; omega)]
    · rw [if_neg (fun y => q2 (hk.2.1.1 y.symm))]
      have := t_here_1 d (X := lk X κ) hG hT hB'.1 c κ.1 c0 (lk_at X κ) hi.1 v hl (fun i hi => by rw [(lk_0 X κ).1 c c1]; exact hv i hi) hlen _ κ.1 rfl (by omega) hi.2
      rw [this]
      have hso : so T κ = 1 := by unfold so; rw [if_neg (fun y => q2 y.1)]; exact q
      have hte : tE T κ.1 = rn bL T κ.1 := by unfold tE; rw [if_pos q]
      by_cases q3 : isW T κ v = true
      · have := isW_iff.1 q3
        rw [if_pos q3, if_pos ⟨by rw [← hte]; exact this.1.2, this.2⟩]
      · rw [if_neg q3, if_neg (fun y => q3 (isW_iff.2 ⟨⟨hso, by rw [hte]; exact y.1⟩, y.2⟩))]
  · rw [if_neg q, if_pos rfl, if_neg (fun y => q (by have := (isW_iff.1 y).1.1; rcases so_b T κ with z | z <;> omega))]
/-- the reference's words, and which they are -/
def wcl : List (Int × Nat) := [(152, 0), (153, 1), (154, 2), (155, 3), (156, 4), (157, 5), (158, 6), (159, 7), (160, 8), (161, 9), (162, 10), (163, 11), (164, 12), (165, 13), (166, 14), (167, 15), (168, 16), (169, 17), (170, 18), (171, 19), (172, 20), (173, 21), (174, 22), (175, 23), (176, 24), (177, 25), (178, 26), (179, 27), (180, 28), (204, 29), (205, 30), (206, 31), (207, 32), (208, 33), (209, 34), (210, 25), (211, 24), (212, 23), (213, 26), (214, 27), (215, 28), (216, 14), (217, 15), (218, 3), (219, 4), (220, 16), (221, 17), (222, 18), (223, 19), (224, 21), (225, 20), (226, 22)]
theorem wcl_1 : ∀ p ∈ wcl, (p.1, wds.getD p.2 []) ∈ mWds ∧ p.2 < 35 ∧ 150 ≤ p.1 ∧ (wds.getD p.2 []).length ≤ 10 := by decide +kernel
theorem wcl_2 : ∀ p ∈ wcl, (p.1, ((wds.getD p.2 []).length : Int)) ∈ kLn := by decide +kernel
theorem t_isW (d : Nat) {G : jG} {X : jX} {T : aT} {κ : aK} (hG : GG G) (hT : okT T) (hB : mB X T) (hk : mK X T κ) (h5 : X 149 5 = 0) (c : Int) (j : Nat) (hc : (c, j) ∈ wcl) : jD (d + 2) 194 [(22, 149), (23, c)] (G, X) = some (if wd T κ = j then 1 else 0, (G, lk X κ)) := by
  obtain ⟨a1, a2, a3, a4⟩ := wcl_1 _ hc
  dsimp only at a1 a2 a3 a4
  rw [t_isHere d hG hT hB hk h5 c (wds.getD j []) (by omega) (by omega) (hG.1 _ (wcl_2 _ hc)) (hB.2 _ a1) a4]
  by_cases q : wd T κ = j
  · rw [if_pos q, if_pos ((wd_iff j a2).1 q)]
  · rw [if_neg q, if_neg (fun y => q ((wd_iff j a2).2 y))]
/-- a token is passed -/
def tk (X : jX) (T : aT) (κ : aK) : jX := if srt T κ.1 = 3 then jup (lk X κ) 149 2 (κ.1 + 1) else jup (jup (lk X κ) 149 2 (tE T κ.1)) 149 4 (tE T κ.1)
theorem tk_0 (X : jX) (T : aT) (κ : aK) : mf0 X (tk X T κ) := by
  unfold tk
  split
  · exact mf0_t (lk_0 X κ) (mf0_u (Or.inl rfl))
  · exact mf0_t (lk_0 X κ) (mf0_t (mf0_u (Or.inl rfl)) (mf0_u (Or.inr (by omega))))
theorem tk_5 (X : jX) (T : aT) (κ : aK) (j : Int) (h1 : j ≠ 2) (h2 : j ≠ 4) : tk X T κ 149 j = X 149 j := by
  unfold tk
  split
  · rw [jup_row _ _ _ _ _ h1, lk_j X κ j h1]
  · rw [jup_row _ _ _ _ _ h2, jup_row _ _ _ _ _ h1, lk_j X κ j h1]
theorem tk_K {X : jX} {T : aT} {κ : aK} (hk : mK X T κ) (h0 : srt T κ.1 ≠ 0) : mK (tk X T κ) T (nx T κ) := by
  have hi := mK_in hk
  have ht := tE_le hi.2
  have htl := ht.2.2 h0
  have hi0 := hi.1
  have hg := rn_ge bB T (tE T κ.1)
  unfold tk nx
  by_cases q : srt T κ.1 = 3
  · have hte : tE T κ.1 = κ.1 + 1 := by unfold tE; rw [if_neg (by omega), if_neg (by omega), if_pos q]
    rw [if_pos q]
    have h4 := hk.2.2
    refine ⟨⟨by rw [jup_same]; omega, by rw [jup_same]; omega, by rw [jup_same, hte]⟩, ?_, ?_⟩
    · rw [jup_row _ _ _ _ _ (by omega), lk_j X κ 4 (by omega)]
      dsimp only
      rw [decide_eq_true_iff]
      exact ⟨fun y => by omega, fun y => by omega⟩
    · rw [jup_row _ _ _ _ _ (by omega), lk_j X κ 4 (by omega)]
      dsimp only
      omega
  · rw [if_neg q]
    have hl : srt T κ.1 = 1 ∨ srt T κ.1 = 2 := by have := srt_b T κ.1; omega
    refine ⟨⟨by rw [jup_row _ _ _ _ _ (by omega), jup_same]; omega, by rw [jup_row _ _ _ _ _ (by omega), jup_same]; omega, by rw [jup_row _ _ _ _ _ (by omega), jup_same]⟩, ?_, ?_⟩
    · rw [jup_same]
      dsimp only
      rw [decide_eq_true_iff]
      exact ⟨fun y => ⟨hl, y.symm⟩, fun y => y.2.symm⟩
    · rw [jup_same]
      exact hg
theorem t_takes (d : Nat) {G : jG} {X : jX} {T : aT} {κ : aK} (hG : GG G) (hT : okT T) (hB : mB X T) (hk : mK X T κ) (h5 : X 149 5 = 0) (c : Int) (j : Nat) (hc : (c, j) ∈ wcl) : jD (d + 3) 195 [(22, 149), (23, c)] (G, X) = if wd T κ = j then some (1, (G, tk X T κ)) else some (0, (G, lk X κ)) := by
  obtain ⟨a1, a2, a3, a4⟩ := wcl_1 _ hc
  dsimp only at a1 a2 a3 a4
  have hi := mK_in hk
  have ht := tE_le hi.2
  have hi0 := hi.1
  have hT1 := hT.2.1
  rw [e_X12_takes, t_isW d hG hT hB hk h5 c j hc]
  simp only [Option.bind_some, Int.reduceLE, reduceIte]
  by_cases q : wd T κ = j
  · rw [if_pos q, if_pos q, if_neg (by omega), if_pos (by omega), lk_at, jup_same]
    have hw := isW_iff.1 ((wd_iff j a2).1 q)
    have hgl : gL G c = (wds.getD j []).length := hG.1 _ (wcl_2 _ hc)
    have hsr : srt T κ.1 = 1 := by rcases so_b T κ with z | z <;> omega
    rw [hgl, ← hw.1.2, jadd_id (by omega) (by omega), show κ.1 + (tE T κ.1 - κ.1) = tE T κ.1 by omega]
    unfold tk
    rw [if_neg (by omega)]
  · rw [if_neg q, if_neg q, if_pos rfl]
/-- a fault, told at the token -/
def fl (X : jX) (κ : aK) (w s : Int) : jX := jup (jup (lk X κ) 149 5 w) 149 6 s
theorem fl_0 (X : jX) (κ : aK) (w s : Int) : mf0 X (fl X κ w s) := mf0_t (lk_0 X κ) (mf0_t (mf0_u (Or.inr (by omega))) (mf0_u (Or.inr (by omega))))
theorem fl_5 (X : jX) (κ : aK) (w s : Int) : fl X κ w s 149 5 = w ∧ fl X κ w s 149 6 = s := ⟨by unfold fl; rw [jup_row _ _ _ _ _ (by omega), jup_same], by unfold fl; rw [jup_same]⟩
theorem t_asks (d : Nat) {G : jG} {X : jX} {T : aT} {κ : aK} (hG : GG G) (hT : okT T) (hB : mB X T) (hk : mK X T κ) (h5 : X 149 5 = 0) (c : Int) (j : Nat) (hc : (c, j) ∈ wcl) : jD (d + 4) 196 [(22, 149), (23, c)] (G, X) = if wd T κ = j then some (0, (G, tk X T κ)) else some (0, (G, fl X κ 1 κ.1)) := by
  rw [e_X12_asks, h5]
  simp only [Int.reduceLE, reduceIte]
  rw [t_takes d hG hT hB hk h5 c j hc]
  by_cases q : wd T κ = j
  · rw [if_pos q, if_pos q]
    simp only [Option.bind_some]
    rw [if_neg (by omega)]
  · rw [if_neg q, if_neg q]
    simp only [Option.bind_some, reduceIte]
    rw [lk_at, t_fail (d + 2) (by rw [lk_j X κ 5 (by omega)]; exact h5)]
    rfl
theorem t_takesSign (d : Nat) {G : jG} {X : jX} {T : aT} {κ : aK} (hG : GG G) (hT : okT T) (hB : mB X T) (hk : mK X T κ) (h5 : X 149 5 = 0) {c : Int} (hc : 0 ≤ c) (hc2 : c < 48 ∨ (57 < c ∧ c < 97) ∨ 122 < c) : jD (d + 2) 197 [(22, 149), (0, c)] (G, X) = if mk T κ c = true then some (1, (G, tk X T κ)) else some (0, (G, lk X κ)) := by
  have hi := mK_in hk
  have hi0 := hi.1
  have hi1 := hi.2
  have hT1 := hT.2.1
  rw [e_X12_takesSign, h5]
  simp only [Int.reduceLE, reduceIte]
  rw [t_look d hG hT hB hk]
  simp only [Option.bind_some]
  by_cases q : mk T κ c = true
  · have h3 := (mk_so hc2).1 q
    have h4 := mk_iff.1 q
    have hs : srt T κ.1 = 3 := by rcases so_b T κ with z | z <;> omega
    rw [if_pos q, tat_in hi.1 h4.1, if_pos h4.2, lk_at, jadd_id (by omega) (by omega)]
    unfold tk
    rw [if_pos hs]
  · rw [if_neg q, if_neg]
    intro y
    unfold tat at y
    by_cases z : 0 ≤ κ.1 ∧ κ.1 < T.1
    · rw [if_pos z] at y; exact q (mk_iff.2 ⟨z.2, y⟩)
    · rw [if_neg z] at y; omega
theorem t_asksSign (d : Nat) {G : jG} {X : jX} {T : aT} {κ : aK} (hG : GG G) (hT : okT T) (hB : mB X T) (hk : mK X T κ) (h5 : X 149 5 = 0) {c : Int} (hc : 0 ≤ c) (hc2 : c < 48 ∨ (57 < c ∧ c < 97) ∨ 122 < c) : jD (d + 3) 198 [(22, 149), (0, c)] (G, X) = if mk T κ c = true then some (0, (G, tk X T κ)) else some (0, (G, fl X κ 1 κ.1)) := by
  rw [e_X12_asksSign, h5]
  simp only [Int.reduceLE, reduceIte]
  rw [t_takesSign d hG hT hB hk h5 hc hc2]
  by_cases q : mk T κ c = true
  · rw [if_pos q, if_pos q]
    simp only [Option.bind_some]
    rw [if_neg (by omega)]
  · rw [if_neg q, if_neg q]
    simp only [Option.bind_some, reduceIte]
    rw [lk_at, t_fail (d + 1) (by rw [lk_j X κ 5 (by omega)]; exact h5)]
    rfl
/-! numbers -/
theorem t_num_n (d : Nat) {G : jG} {T : aT} {κ : aK} (hG : GG G) (hT : okT T) (lo hi b : Int) (b0 : 0 ≤ b) (hE : ∀ j, b ≤ j → j < rn bD T b → True) : ∀ (m : Nat) (X : jX) (i v : Int), (T.1 - i).toNat = m → mTp X T → X 149 2 = i → X 149 5 = 0 → b ≤ i → i ≤ T.1 → i - b ≤ 4 → 0 ≤ v → v < 10 ^ (i - b).toNat → ∃ X' w, jN (d + 1) 199 49 [(22, 149), (0, lo), (0, hi), (0, b), (0, v)] [] (G, X) = some (w, (G, X')) ∧ (if 4 < rn bD T i - b then X' = jup (jup (jup X 149 2 (b + 4)) 149 5 1) 149 6 (b + 4) else w = nvN T (rn bD T i - i).toNat i v ∧ X' = if lo ≤ w ∧ w ≤ hi then jup (jup X 149 2 (rn bD T i)) 149 4 (rn bD T i) else jup (jup (jup (jup X 149 2 (rn bD T i)) 149 4 (rn bD T i)) 149 5 2) 149 6 b) := by
  have hT1 := hT.2.1
  have fin : ∀ (X : jX) (i v : Int), X 149 2 = i → X 149 5 = 0 → i - b ≤ 4 → ∃ X' w, ((jD (d + 1) 187 [(1, v), (1, lo), (1, hi)] (G, jup X 149 4 (X 149 2))).bind fun q5 => if q5.1 = 0 then (if 0 ≤ (149 : Int) then ((jD (d + 1) 190 [(22, 149), (0, 2), (0, b)] (q5.2.1, q5.2.2)).bind fun q6 => some (v, (q6.2.1, q6.2.2))) else none) else some (v, (q5.2.1, q5.2.2))) = some (w, (G, X')) ∧ w = v ∧ X' = if lo ≤ w ∧ w ≤ hi then jup (jup X 149 2 i) 149 4 i else jup (jup (jup (jup X 149 2 i) 149 4 i) 149 5 2) 149 6 b := fun X i v h2 h5 hb => by
    rw [t_isIn, h2, jup_id _ _ _ _ h2]
    simp only [Option.bind_some, Int.reduceLE, reduceIte]
    by_cases q : lo ≤ v ∧ v ≤ hi
    · rw [if_pos q, if_neg (by omega)]
      exact ⟨_, v, rfl, rfl, by rw [if_pos q]⟩
    · rw [if_neg q, if_pos rfl, t_fail d (by rw [jup_row _ _ _ _ _ (by omega)]; exact h5)]
      exact ⟨_, v, rfl, rfl, by rw [if_neg q]⟩
  intro m
  induction m with
  | zero =>
    intro X i v hm hp h2 h5 i0 i1 i4 v0 v1
    obtain ⟨X', w, e, ew, eX⟩ := fin X i v h2 h5 i4
    rw [rn_neg (fun q => by omega)]
    refine ⟨X', w, ?_, ?_⟩
    · rw [h_X12_number_49, if_pos (by omega), if_pos (by omega), if_neg (by rw [h2, hp.1]; omega), if_pos (by omega), if_pos (by omega)]
      exact e
    · rw [if_neg (by omega), show (i - i).toNat = 0 by omega]
      exact ⟨ew, eX⟩
  | succ m ih =>
    intro X i v hm hp h2 h5 i0 i1 i4 v0 v1
    have hi' : i < T.1 := by omega
    have hr : X (gR G 149 0) (X 149 2) = T.2 i := by rw [gr_149_0 hG, h2]; exact hp.2 i (by omega) hi'
    have hg : (0 : Int) ≤ gR G 149 0 ∧ X 149 2 < gL G (gR G 149 0) := by rw [gr_149_0 hG, gl_150 hG, h2]; omega
    rw [h_X12_number_49, if_pos (by omega), if_pos (by omega), if_pos (by rw [h2, hp.1]; exact hi'), if_pos (by omega), if_pos (by omega)]
    simp only [if_pos hg.1, if_pos hg.2, if_pos (show 0 ≤ X 149 2 by omega), Int.reduceLE, reduceIte]
    rw [hr, ← tat_in (T := T) (i := i) (by omega) hi', t_isDigit d (by omega)]
    simp only [Option.bind_some]
    by_cases q : srt T i = 2
    · rw [if_pos q, if_neg (by omega), h2, jsub_id (by omega) (by omega), rn_pos (srt_2.1 q)]
      have hdg := (bD_iff _).1 (srt_2.1 q).2
      have hge := rn_ge bD T (i + 1)
      by_cases q4 : i - b = 4
      · rw [if_pos q4, t_fail d h5]
        simp only [Option.bind_some]
        refine ⟨_, 0, rfl, ?_⟩
        rw [if_pos (by omega), show b + 4 = i by omega, jup_id X 149 2 i h2]
      · rw [if_neg q4]
        simp only [if_pos (show 0 ≤ i by omega), if_pos hg.1]
        rw [if_pos (show i < gL G (gR G 149 0) by rw [← h2]; exact hg.2)]
        rw [show X (gR G 149 0) i = T.2 i by rw [← h2]; rw [h2]; rw [h2] at hr; exact hr]
        have hp10 : (10 : Int) ^ (i - b).toNat ≤ 1000 := by
          have : (i - b).toNat = 0 ∨ (i - b).toNat = 1 ∨ (i - b).toNat = 2 ∨ (i - b).toNat = 3 := by omega
          rcases this with h | h | h | h <;> rw [h] <;> decide
        rw [jmul_id (by omega) (by omega), jadd_id (a := 10 * v) (by omega) (by omega), jsub_id (by omega) (by omega), jadd_id (a := i) (by omega) (by omega)]
        obtain ⟨X', w, e, c⟩ := ih (jup X 149 2 (i + 1)) (i + 1) (10 * v + T.2 i - 48) (by omega) ⟨by rw [jup_row _ _ _ _ _ (by omega)]; exact hp.1, fun j a b => by rw [jup_rw _ _ _ _ _ (by omega)]; exact hp.2 j a b⟩ (jup_same _ _ _ _) (by rw [jup_row _ _ _ _ _ (by omega)]; exact h5) (by omega) (by omega) (by omega) (by omega) (by
          rw [show (i + 1 - b).toNat = (i - b).toNat + 1 by omega, Int.pow_succ]; omega)
        refine ⟨X', w, e, ?_⟩
        have hjj : ∀ z, jup (jup X 149 2 (i + 1)) 149 2 z = jup X 149 2 z := fun z => by
          funext a b
          unfold jup
          by_cases ha : a = 149
          · simp only [if_pos ha]; by_cases hb : b = 2
            · simp only [if_pos hb]
            · simp only [if_neg hb]
          · simp only [if_neg ha]
        simp only [hjj] at c
        rw [show (rn bD T (i + 1) - i).toNat = (rn bD T (i + 1) - (i + 1)).toNat + 1 by omega]
        exact c
    · rw [if_neg q, if_pos rfl]
      obtain ⟨X', w, e, ew, eX⟩ := fin X i v h2 h5 i4
      refine ⟨X', w, e, ?_⟩
      rw [rn_neg (fun y => q (srt_2.2 y)), if_neg (by omega), show (i - i).toNat = 0 by omega]
      exact ⟨ew, eX⟩
