/-! READING: the class's tokens -/
def RG (G : jG) : Prop := GG G ∧ gR G 28 0 = 33 ∧ gR G 28 1 = 24
def cTp (X : jX) (T : aT) : Prop := X 33 1 = T.1 ∧ ∀ i, 0 ≤ i → i < T.1 → X 34 i = T.2 i
def tat (T : aT) (i : Int) : Int := if 0 ≤ i ∧ i < T.1 then T.2 i else -1
def cK (X : jX) (T : aT) (κ : aK) : Prop := X 28 6 = so T κ ∧ X 28 7 = κ.1 ∧ X 28 8 = tE T κ.1
/-- what a step changes -/
def cfK (X X' : jX) : Prop := (∀ k, k ≠ 28 → X' k = X k) ∧ ∀ j, ¬ (6 ≤ j ∧ j ≤ 8) → X' 28 j = X 28 j
theorem cfK_t {X Y Z : jX} (h1 : cfK X Y) (h2 : cfK Y Z) : cfK X Z := ⟨fun k hk => by rw [h2.1 k hk, h1.1 k hk], fun j hj => by rw [h2.2 j hj, h1.2 j hj]⟩
theorem cTp_fr {X X' : jX} {T : aT} (h1 : X' 33 = X 33) (h2 : X' 34 = X 34) (h : cTp X T) : cTp X' T := by unfold cTp at *; rw [h1, h2]; exact h
theorem s_tat (d : Nat) {G : jG} {X : jX} {T : aT} (hG : GG G) (hT : okT T) (hp : cTp X T) (i : Int) : jD (d + 1) 144 [(20, 33), (0, i)] (G, X) = some (tat T i, (G, X)) := by
  rw [e_X10_at, hp.1, gr_33_0 hG, gl_34 hG]
  unfold tat
  by_cases h : i < 0
  · rw [if_pos h, if_neg (fun q => by omega)]
  · rw [if_neg h]
    simp only [Int.reduceLE, reduceIte]
    by_cases h2 : i < T.1
    · rw [if_pos h2, if_pos (by omega), if_pos (by have := hT.2.1; omega), if_pos ⟨by omega, h2⟩, hp.2 i (by omega) h2]
    · rw [if_neg h2, if_neg (fun q => h2 q.2)]
theorem s_len (d : Nat) {G : jG} {X : jX} {T : aT} (hp : cTp X T) : jD (d + 1) 143 [(20, 33)] (G, X) = some (T.1, (G, X)) := by
  rw [e_X10_length, hp.1, if_pos (by omega)]
theorem s_sortOf (d : Nat) {G : jG} {X : jX} {T : aT} (hT : okT T) {i : Int} (h0 : 0 ≤ i) : jD (d + 1) 88 [(0, tat T i)] (G, X) = some (srt T i, (G, X)) := by
  rw [e_X7_sortOf]
  unfold srt
  by_cases h : T.1 ≤ i
  · rw [show tat T i = -1 from if_neg (fun q => by omega), if_pos rfl, if_pos h]
  · have hb := hT.2.2 i h0 (by omega)
    rw [show tat T i = T.2 i from if_pos ⟨h0, by omega⟩, if_neg (show ¬ T.2 i = -1 by omega), if_neg h]
    by_cases h1 : bL (T.2 i) = true
    · rw [if_pos h1]
      rw [bL_iff] at h1
      rw [if_neg (by omega), if_neg (by omega)]
    · rw [if_neg h1]
      rw [bL_iff] at h1
      by_cases h2 : bD (T.2 i) = true
      · rw [if_pos h2]
        rw [bD_iff] at h2
        rw [if_pos (by omega), if_neg (by omega), if_neg (by omega)]
      · rw [if_neg h2]
        rw [bD_iff] at h2
        by_cases q1 : T.2 i < 97
        · rw [if_pos q1]
          by_cases q2 : T.2 i < 48
          · rw [if_pos q2]
          · rw [if_neg q2, if_pos (by omega)]
        · rw [if_neg q1, if_pos (by omega), if_neg (by omega), if_pos (by omega)]
theorem s_step_b (d : Nat) {G : jG} {X : jX} {T : aT} (hR : RG G) (hT : okT T) (hp : cTp X T) (w : Int) : ∀ (m : Nat) (i : Int), (T.1 - i).toNat = m → 0 ≤ i → i ≤ T.1 → jN (d + 1) 90 32 [(17, 28), (0, w), (0, i), (0, i), (2, (-1))] [] (G, X) = jN (d + 1) 90 67 [(17, 28), (0, w), (0, rn bB T i), (0, rn bB T i), (2, (-1))] [] (G, X) := by
  intro m
  have hT1 := hT.2.1
  induction m with
  | zero =>
    intro i hm i0 i1
    rw [rn_neg (fun q => by omega), h_X7_step_32, hR.2.1]
    simp only [Int.reduceLE, reduceIte]
    rw [s_len d hp]
    simp only [Option.bind_some]
    rw [if_neg (by omega)]
  | succ m ih =>
    intro i hm i0 i1
    rw [h_X7_step_32, hR.2.1]
    simp only [Int.reduceLE, reduceIte]
    rw [s_len d hp]
    simp only [Option.bind_some]
    rw [if_pos (by omega), hR.2.1]
    simp only [Int.reduceLE, reduceIte]
    rw [s_tat d hR.1 hT hp i]
    simp only [Option.bind_some]
    rw [show tat T i = T.2 i from if_pos ⟨i0, by omega⟩, e_X7_isBlank, jadd_id (by omega) (by omega)]
    by_cases h : bB (T.2 i) = true
    · rw [rn_pos ⟨by omega, h⟩]
      rw [bB_iff] at h
      have hi := ih (i + 1) (by omega) (by omega) (by omega)
      by_cases q : T.2 i = 10
      · rw [if_pos q]; simp only [Option.bind_some]; rw [if_neg (by omega), hi]
      · rw [if_neg q, if_pos (by omega)]; simp only [Option.bind_some]; rw [if_neg (by omega), hi]
    · rw [rn_neg (fun q => h q.2)]
      rw [bB_iff] at h
      rw [if_neg (by omega), if_neg (by omega)]
      simp only [Option.bind_some, reduceIte]
theorem s_step_r (d : Nat) {G : jG} {T : aT} (hR : RG G) (hT : okT T) (w s t σ : Int) (p : Int → Bool) (hσ : σ = 1 ∧ p = bL ∨ σ = 2 ∧ p = bD) : ∀ (m : Nat) (X : jX) (i : Int), (T.1 - i).toNat = m → 0 ≤ i → i ≤ T.1 → cTp X T → X 28 6 = σ → X 28 8 = i → jN (d + 1) 90 144 [(17, 28), (0, w), (0, s), (0, t), (0, i)] [] (G, X) = jN (d + 1) 90 189 [(17, 28), (0, w), (0, s), (0, t), (0, rn p T i)] [] (G, jup X 28 8 (rn p T i)) := by
  have hs : ∀ i, i < T.1 → (srt T i = σ ↔ p (T.2 i) = true) := fun i hi => by
    rcases hσ with ⟨rfl, rfl⟩ | ⟨rfl, rfl⟩
    · rw [srt_1]; exact ⟨fun q => q.2, fun q => ⟨hi, q⟩⟩
    · rw [srt_2]; exact ⟨fun q => q.2, fun q => ⟨hi, q⟩⟩
  intro m
  have hT1 := hT.2.1
  induction m with
  | zero =>
    intro X i hm i0 i1 hp h6 h8
    rw [rn_neg (fun q => by omega), h_X7_step_144, hR.2.1, jup_id _ _ _ _ h8]
    simp only [Int.reduceLE, reduceIte]
    rw [s_len d hp]
    simp only [Option.bind_some]
    rw [if_neg (by omega)]
  | succ m ih =>
    intro X i hm i0 i1 hp h6 h8
    rw [h_X7_step_144, hR.2.1]
    simp only [Int.reduceLE, reduceIte]
    rw [s_len d hp]
    simp only [Option.bind_some]
    rw [if_pos (by omega), hR.2.1]
    simp only [Int.reduceLE, reduceIte]
    rw [s_tat d hR.1 hT hp i]
    simp only [Option.bind_some]
    rw [s_sortOf d hT i0]
    simp only [Option.bind_some]
    rw [h6, jadd_id (by omega) (by omega)]
    by_cases h : p (T.2 i) = true
    · rw [if_pos ((hs i (by omega)).2 h), rn_pos ⟨by omega, h⟩, ih (jup X 28 8 (i + 1)) (i + 1) (by omega) (by omega) (by omega) (cTp_fr (jup_rw _ _ _ _ _ (by omega)) (jup_rw _ _ _ _ _ (by omega)) hp) (by rw [jup_row _ _ _ _ _ (by omega)]; exact h6) (jup_same _ _ _ _)]
      congr 2
      funext a b
      unfold jup
      by_cases ha : a = 28
      · simp only [if_pos ha]; by_cases hb : b = 8
        · simp only [if_pos hb]
        · simp only [if_neg hb]
      · simp only [if_neg ha]
    · rw [if_neg (fun q => h ((hs i (by omega)).1 q)), rn_neg (fun q => h q.2), jup_id _ _ _ _ h8]
/-- a step, from whatever stood there -/
theorem s_step0 (d : Nat) {G : jG} {X : jX} {T : aT} (hR : RG G) (hT : okT T) (hp : cTp X T) (v e : Int) (h6 : X 28 6 = v) (h8 : X 28 8 = e) (e0 : 0 ≤ e) (e1 : e ≤ T.1) : ∃ X', jD (d + 2) 90 [(17, 28)] (G, X) = some (0, (G, X')) ∧ cK X' T (rn bB T e, decide ((v = 1 ∨ v = 2) ∧ rn bB T e = e)) ∧ cfK X X' := by
  have s0 := rn_ge bB T e
  have s1 := rn_up bB T e1
  have hT1 := hT.2.1
  have b1 := s_step_b d (X := X) hR hT hp (if v = 1 ∨ v = 2 then 1 else 0) _ e rfl e0 e1
  have a1 : jD (d + 2) 90 [(17, 28)] (G, X) = jN (d + 1) 90 67 [(17, 28), (0, if v = 1 ∨ v = 2 then 1 else 0), (0, rn bB T e), (0, rn bB T e), (2, (-1))] [] (G, X) := by
    rw [e_X7_step, h6]
    simp only [Int.reduceLE, reduceIte]
    rw [← b1]
    by_cases q1 : v = 1
    · rw [if_pos q1, if_pos (Or.inl q1), h_X7_step_16, h_X7_step_21, h8]; simp only [Int.reduceLE, reduceIte]
    · rw [if_neg q1]
      by_cases q2 : v = 2
      · rw [if_pos q2, if_pos (Or.inr q2), h_X7_step_16, h_X7_step_21, h8]; simp only [Int.reduceLE, reduceIte]
      · rw [if_neg q2, if_neg (by omega), h_X7_step_21, h8]; simp only [Int.reduceLE, reduceIte]
  have a2 : jD (d + 2) 90 [(17, 28)] (G, X) = jN (d + 1) 90 84 [(17, 28), (0, if v = 1 ∨ v = 2 then 1 else 0), (0, rn bB T e), (0, rn bB T e), (2, (-1))] [(0, if (v = 1 ∨ v = 2) ∧ rn bB T e = e then 1 else 0)] (G, X) := by
    rw [a1, h_X7_step_67, h8]
    by_cases q1 : v = 1 ∨ v = 2
    · rw [if_pos q1, if_neg (by omega)]
      simp only [Int.reduceLE, reduceIte]
      by_cases q2 : rn bB T e = e
      · rw [if_pos q2, if_pos ⟨q1, q2⟩]
      · rw [if_neg q2, if_neg (fun z => q2 z.2), h_X7_step_83]
    · rw [if_neg q1, if_pos rfl, if_neg (fun z => q1 z.1), h_X7_step_83]
  rw [a2, h_X7_step_84, hR.2.1]
  generalize ht : (if (v = 1 ∨ v = 2) ∧ rn bB T e = e then (1 : Int) else 0) = t
  generalize hw : (if v = 1 ∨ v = 2 then (1 : Int) else 0) = w
  have hκ : (decide ((v = 1 ∨ v = 2) ∧ rn bB T e = e) = true ↔ t = 1) ∧ (t = 0 ∨ t = 1) := by
    rw [decide_eq_true_iff, ← ht]
    by_cases q : (v = 1 ∨ v = 2) ∧ rn bB T e = e
    · rw [if_pos q]; exact ⟨⟨fun _ => rfl, fun _ => q⟩, Or.inr rfl⟩
    · rw [if_neg q]; exact ⟨⟨fun z => absurd z q, fun z => by omega⟩, Or.inl rfl⟩
  generalize hs : rn bB T e = s at *
  generalize decide ((v = 1 ∨ v = 2) ∧ s = e) = δ at *
  simp only [Int.reduceLE, reduceIte]
  have p1 : cTp (jup (jup X 28 7 s) 28 8 s) T := cTp_fr (by rw [jup_rw _ _ _ _ _ (by omega), jup_rw _ _ _ _ _ (by omega)]) (by rw [jup_rw _ _ _ _ _ (by omega), jup_rw _ _ _ _ _ (by omega)]) hp
  rw [s_tat d hR.1 hT p1 s]
  simp only [Option.bind_some]
  rw [s_sortOf d hT (by omega)]
  simp only [Option.bind_some]
  have fr : ∀ Y : jX, (∀ k, k ≠ 28 → Y k = X k) → (∀ j, ¬ (6 ≤ j ∧ j ≤ 8) → Y 28 j = X 28 j) → cfK X Y := fun Y h1 h2 => ⟨h1, h2⟩
  rw [jup_same]
  rcases srt_b T s with q | q | q | q
  · rw [q, if_neg (by omega), h_X7_step_125, jup_same]
    simp only [Int.reduceLE, Int.reduceEq, reduceIte]
    rw [h_X7_step_205 _ _ _ _ _ _ (Or.inl rfl)]
    refine ⟨_, rfl, ⟨?_, ?_, ?_⟩, fun k hk => by rw [jup_rw _ _ _ _ _ hk, jup_rw _ _ _ _ _ hk, jup_rw _ _ _ _ _ hk], fun j hj => by rw [jup_row _ _ _ _ _ (by omega), jup_row _ _ _ _ _ (by omega), jup_row _ _ _ _ _ (by omega)]⟩
    · rw [jup_same]; unfold so; rw [if_neg (fun z => by have := z.2; dsimp only at this; omega)]; exact q.symm
    · rw [jup_row _ _ _ _ _ (by omega), jup_row _ _ _ _ _ (by omega), jup_same]
    · rw [jup_row _ _ _ _ _ (by omega), jup_same]; unfold tE; dsimp only; rw [if_neg (by omega), if_neg (by omega), if_neg (by omega)]
  · have e5 := s_step_r d (G := G) hR hT w s t 1 bL (Or.inl ⟨rfl, rfl⟩) _ (jup (jup (jup X 28 7 s) 28 8 s) 28 6 1) s rfl (by omega) (by omega) (cTp_fr (jup_rw _ _ _ _ _ (by omega)) (jup_rw _ _ _ _ _ (by omega)) p1) (jup_same _ _ _ _) (by rw [jup_row _ _ _ _ _ (by omega), jup_same])
    rw [q, if_neg (by omega), h_X7_step_125, jup_same]
    simp only [Int.reduceLE, Int.reduceEq, reduceIte]
    rw [h_X7_step_141, e5, h_X7_step_189, jup_row _ _ _ _ _ (by omega), jup_same]
    simp only [Int.reduceLE, reduceIte]
    have fin : ∀ z, (z = if t = 0 then 1 else 4) → ∃ X', jN (d + 1) 90 202 [(17, 28), (0, w), (0, s), (0, t), (0, rn bL T s)] [(0, z), (17, 28)] (G, jup (jup (jup (jup X 28 7 s) 28 8 s) 28 6 1) 28 8 (rn bL T s)) = some (0, (G, X')) ∧ cK X' T (s, δ) ∧ cfK X X' := fun z hz => by
      rw [h_X7_step_202, if_pos (by omega), h_X7_step_205 _ _ _ _ _ _ (Or.inr rfl)]
      refine ⟨_, rfl, ⟨?_, ?_, ?_⟩, fun k hk => by rw [jup_rw _ _ _ _ _ hk, jup_rw _ _ _ _ _ hk, jup_rw _ _ _ _ _ hk, jup_rw _ _ _ _ _ hk, jup_rw _ _ _ _ _ hk], fun j hj => by rw [jup_row _ _ _ _ _ (by omega), jup_row _ _ _ _ _ (by omega), jup_row _ _ _ _ _ (by omega), jup_row _ _ _ _ _ (by omega), jup_row _ _ _ _ _ (by omega)]⟩
      · rw [jup_same, hz]
        unfold so
        dsimp only
        by_cases q2 : t = 0
        · rw [if_pos q2, if_neg (fun z => by have := hκ.1.1 z.1; omega)]; exact q.symm
        · rw [if_neg q2, if_pos ⟨hκ.1.2 (by omega), Or.inl q⟩]
      · rw [jup_row _ _ _ _ _ (by omega), jup_row _ _ _ _ _ (by omega), jup_row _ _ _ _ _ (by omega), jup_row _ _ _ _ _ (by omega), jup_same]
      · rw [jup_row _ _ _ _ _ (by omega), jup_same]; unfold tE; dsimp only; rw [if_pos q]
    by_cases q2 : t = 0
    · rw [if_pos q2]; exact fin 1 (by rw [if_pos q2])
    · rw [if_neg q2]; exact fin 4 (by rw [if_neg q2])
  · have e5 := s_step_r d (G := G) hR hT w s t 2 bD (Or.inr ⟨rfl, rfl⟩) _ (jup (jup (jup X 28 7 s) 28 8 s) 28 6 2) s rfl (by omega) (by omega) (cTp_fr (jup_rw _ _ _ _ _ (by omega)) (jup_rw _ _ _ _ _ (by omega)) p1) (jup_same _ _ _ _) (by rw [jup_row _ _ _ _ _ (by omega), jup_same])
    rw [q, if_neg (by omega), h_X7_step_125, jup_same]
    simp only [Int.reduceLE, Int.reduceEq, reduceIte]
    rw [h_X7_step_141, e5, h_X7_step_189, jup_row _ _ _ _ _ (by omega), jup_same]
    simp only [Int.reduceLE, reduceIte]
    have fin : ∀ z, (z = if t = 0 then 2 else 4) → ∃ X', jN (d + 1) 90 202 [(17, 28), (0, w), (0, s), (0, t), (0, rn bD T s)] [(0, z), (17, 28)] (G, jup (jup (jup (jup X 28 7 s) 28 8 s) 28 6 2) 28 8 (rn bD T s)) = some (0, (G, X')) ∧ cK X' T (s, δ) ∧ cfK X X' := fun z hz => by
      rw [h_X7_step_202, if_pos (by omega), h_X7_step_205 _ _ _ _ _ _ (Or.inr rfl)]
      refine ⟨_, rfl, ⟨?_, ?_, ?_⟩, fun k hk => by rw [jup_rw _ _ _ _ _ hk, jup_rw _ _ _ _ _ hk, jup_rw _ _ _ _ _ hk, jup_rw _ _ _ _ _ hk, jup_rw _ _ _ _ _ hk], fun j hj => by rw [jup_row _ _ _ _ _ (by omega), jup_row _ _ _ _ _ (by omega), jup_row _ _ _ _ _ (by omega), jup_row _ _ _ _ _ (by omega), jup_row _ _ _ _ _ (by omega)]⟩
      · rw [jup_same, hz]
        unfold so
        dsimp only
        by_cases q2 : t = 0
        · rw [if_pos q2, if_neg (fun z => by have := hκ.1.1 z.1; omega)]; exact q.symm
        · rw [if_neg q2, if_pos ⟨hκ.1.2 (by omega), Or.inr q⟩]
      · rw [jup_row _ _ _ _ _ (by omega), jup_row _ _ _ _ _ (by omega), jup_row _ _ _ _ _ (by omega), jup_row _ _ _ _ _ (by omega), jup_same]
      · rw [jup_row _ _ _ _ _ (by omega), jup_same]; unfold tE; dsimp only; rw [if_neg (by omega), if_pos q]
    by_cases q2 : t = 0
    · rw [if_pos q2]; exact fin 2 (by rw [if_pos q2])
    · rw [if_neg q2]; exact fin 4 (by rw [if_neg q2])
  · rw [q, if_pos rfl, h_X7_step_125, jup_row _ _ _ _ _ (by omega), jup_same]
    simp only [Int.reduceLE, Int.reduceEq, reduceIte]
    rw [h_X7_step_205 _ _ _ _ _ _ (Or.inl rfl), jadd_id (by omega) (by omega)]
    refine ⟨_, rfl, ⟨?_, ?_, ?_⟩, fun k hk => by rw [jup_rw _ _ _ _ _ hk, jup_rw _ _ _ _ _ hk, jup_rw _ _ _ _ _ hk, jup_rw _ _ _ _ _ hk], fun j hj => by rw [jup_row _ _ _ _ _ (by omega), jup_row _ _ _ _ _ (by omega), jup_row _ _ _ _ _ (by omega), jup_row _ _ _ _ _ (by omega)]⟩
    · rw [jup_row _ _ _ _ _ (by omega), jup_same]; unfold so; rw [if_neg (fun z => by have := z.2; dsimp only at this; omega)]; exact q.symm
    · rw [jup_row _ _ _ _ _ (by omega), jup_row _ _ _ _ _ (by omega), jup_row _ _ _ _ _ (by omega), jup_same]
    · rw [jup_same]; unfold tE; dsimp only; rw [if_neg (by omega), if_neg (by omega), if_pos q]
theorem s_step (d : Nat) {G : jG} {X : jX} {T : aT} {κ : aK} (hR : RG G) (hT : okT T) (hp : cTp X T) (hk : cK X T κ) (hi : inT T κ) (h4 : so T κ ≠ 4) : ∃ X', jD (d + 2) 90 [(17, 28)] (G, X) = some (0, (G, X')) ∧ cK X' T (nx T κ) ∧ cfK X X' := by
  have ht := tE_le hi.2
  have h0 := hi.1
  obtain ⟨X', e, k, f⟩ := s_step0 d hR hT hp (so T κ) (tE T κ.1) hk.1 hk.2.2 (by omega) (by omega)
  have hs : so T κ = srt T κ.1 := by rcases so_b T κ with z | z <;> omega
  rw [hs] at k
  exact ⟨X', e, k, f⟩
theorem s_isMark (d : Nat) {G : jG} {X : jX} {T : aT} {κ : aK} (hR : RG G) (hT : okT T) (hp : cTp X T) (hk : cK X T κ) (hi : inT T κ) {c : Int} (hc : c < 48 ∨ (57 < c ∧ c < 97) ∨ 122 < c) : jD (d + 2) 92 [(17, 28), (0, c)] (G, X) = some (if mk T κ c = true then 1 else 0, (G, X)) := by
  rw [e_X7_isMark, hk.1, hk.2.1, hR.2.1]
  simp only [Int.reduceLE, reduceIte]
  by_cases h : so T κ = 3
  · rw [if_pos h, s_tat d hR.1 hT hp]
    simp only [Option.bind_some]
    have h3 : κ.1 < T.1 := by
      rcases so_b T κ with z | z
      · omega
      · have : srt T κ.1 ≠ 0 := by omega
        rw [ne_eq, srt_0] at this
        omega
    rw [show tat T κ.1 = T.2 κ.1 from if_pos ⟨hi.1, h3⟩]
    by_cases q : T.2 κ.1 = c
    · rw [if_pos q, if_pos (mk_iff.2 ⟨h3, q⟩)]
    · rw [if_neg q, if_neg (fun z => q (mk_iff.1 z).2)]
  · rw [if_neg h, if_neg (fun z => h ((mk_so hc).1 z).1)]
/-- the letters of a word, one by one -/
def mt2 (T : aT) (s e : Int) : Int → List Int → Int
  | j, [] => j
  | j, c :: u => if j ≠ -1 ∧ s + j < e ∧ tat T (s + j) = c then mt2 T s e (j + 1) u else mt2 T s e (-1) u
theorem mt2_n (T : aT) (s e : Int) : ∀ u : List Int, mt2 T s e (-1) u = -1
  | [] => rfl
  | c :: u => by unfold mt2; rw [if_neg (fun q => q.1 rfl)]; exact mt2_n T s e u
theorem mt2_is (T : aT) (s e : Int) (h0 : 0 ≤ s) (he : e ≤ T.1) : ∀ (u : List Int) (j : Int), 0 ≤ j → s + j ≤ e → (mt2 T s e j u = e - s ↔ (s + j + u.length = e ∧ mtc T (s + j) u = true) ∨ (e - s = -1))
  | [], j, hj, hl => by
    show j = e - s ↔ (s + j + ((0 : Nat) : Int) = e ∧ true = true) ∨ e - s = -1
    constructor
    · intro h; exact Or.inl ⟨by omega, rfl⟩
    · rintro (h | h) <;> omega
  | c :: u, j, hj, hl => by
    unfold mt2 mtc
    rw [Bool.and_eq_true, decide_eq_true_iff, List.length_cons]
    by_cases h : j ≠ -1 ∧ s + j < e ∧ tat T (s + j) = c
    · have ht : tat T (s + j) = T.2 (s + j) := if_pos ⟨by omega, by omega⟩
      rw [if_pos h, mt2_is T s e h0 he u (j + 1) (by omega) (by omega), show s + j + 1 = s + (j + 1) by omega]
      rw [ht] at h
      constructor
      · rintro (q | q)
        · exact Or.inl ⟨by omega, h.2.2, q.2⟩
        · omega
      · rintro (q | q)
        · exact Or.inl ⟨by omega, q.2.2⟩
        · omega
    · rw [if_neg h, mt2_n]
      constructor
      · intro q; omega
      · rintro (q | q)
        · exfalso
          have ht : tat T (s + j) = T.2 (s + j) := if_pos ⟨by omega, by omega⟩
          exact h ⟨by omega, by omega, by rw [ht]; exact q.2.1⟩
        · omega
theorem jW_len : jWords.length = 178 := by decide +kernel
theorem s_word_in (d : Nat) {G : jG} {X : jX} {T : aT} {κ : aK} (hR : RG G) (hT : okT T) (hp : cTp X T) (hk : cK X T κ) (hi : inT T κ) (k : Int) (rest : List Int) : ∀ (u : List Int) (v2 v3 : Int) (u4 : jV), u4.1 = 2 ∨ u4.1 = 0 → (∀ c ∈ u, c ≠ 32) → 0 ≤ v3 → jWords.drop v3.toNat = u ++ 32 :: rest → -1 ≤ v2 → v2 ≤ v3 → ∃ u4' : jV, (u4'.1 = 2 ∨ u4'.1 = 0) ∧ jN (d + 1) 93 16 [(17, 28), (0, k), (0, v2), (0, v3), u4] [] (G, X) = jN (d + 1) 93 16 [(17, 28), (0, k), (0, mt2 T κ.1 (tE T κ.1) v2 u), (0, v3 + u.length), u4'] [] (G, X) ∧ mt2 T κ.1 (tE T κ.1) v2 u ≤ v3 + u.length := by
  have hT1 := hT.2.1
  have ht := tE_le hi.2
  intro u
  induction u with
  | nil =>
    intro v2 v3 u4 hu4 hc h3 hd hv hv3
    exact ⟨u4, hu4, by show _ = jN (d + 1) 93 16 [(17, 28), (0, k), (0, v2), (0, v3 + ((0 : Nat) : Int)), u4] [] (G, X); rw [show v3 + ((0 : Nat) : Int) = v3 by omega], by show v2 ≤ v3 + ((0 : Nat) : Int); omega⟩
  | cons c u ih =>
    intro v2 v3 u4 hu4 hc h3 hd hv hv3
    have hlt : v3.toNat < 178 := by
      have := congrArg List.length hd
      rw [List.length_drop, jW_len, List.length_append, List.length_cons] at this
      omega
    have hg : jWords.getD v3.toNat 0 = c := by
      have := congrArg (fun l => l.getD 0 0) hd
      rw [List.cons_append] at this
      simp only [List.getD_eq_getElem?_getD, List.getElem?_drop, Nat.add_zero] at this ⊢
      rw [this]; rfl
    have hd' : jWords.drop (v3 + 1).toNat = u ++ 32 :: rest := by
      have := congrArg List.tail hd
      rw [List.tail_drop, List.cons_append, List.tail_cons] at this
      rw [show (v3 + 1).toNat = v3.toNat + 1 by omega]
      exact this
    have hc32 : c ≠ 32 := hc c List.mem_cons_self
    have hcu : ∀ x ∈ u, x ≠ 32 := fun x hx => hc x (List.mem_cons_of_mem _ hx)
    have fin : ∀ v2' : Int, -1 ≤ v2' → v2' ≤ v3 + 1 → ∃ u4' : jV, (u4'.1 = 2 ∨ u4'.1 = 0) ∧ jN (d + 1) 93 16 [(17, 28), (0, k), (0, v2'), (0, v3 + 1), (0, c)] [] (G, X) = jN (d + 1) 93 16 [(17, 28), (0, k), (0, mt2 T κ.1 (tE T κ.1) v2' u), (0, v3 + ((c :: u).length : Int)), u4'] [] (G, X) ∧ mt2 T κ.1 (tE T κ.1) v2' u ≤ v3 + ((c :: u).length : Int) := fun v2' h1 h2 => by
      obtain ⟨u', h1, h2, h3⟩ := ih v2' (v3 + 1) (0, c) (Or.inr rfl) hcu (by omega) hd' h1 h2
      rw [List.length_cons]
      rw [show v3 + 1 + (u.length : Int) = v3 + ((u.length + 1 : Nat) : Int) by omega] at h2 h3
      exact ⟨u', h1, h2, h3⟩
    rw [h_X7_wordHere_16 _ _ _ _ _ u4 hu4, hg, hk.2.1, hk.2.2, hR.2.1, if_pos (by omega), if_pos h3, if_pos (by omega), if_neg hc32, jadd_id (a := v3) (by omega) (by omega)]
    unfold mt2
    by_cases q1 : v2 = -1
    · rw [if_pos q1, if_neg (fun z => z.1 q1)]
      exact fin (-1) (by omega) (by omega)
    · rw [if_neg q1, jadd_id (a := κ.1) (by have := hi.1; omega) (by have := hi.2; omega), jadd_id (a := v2) (by omega) (by omega)]
      simp only [Int.reduceLE, reduceIte]
      by_cases q2 : κ.1 + v2 < tE T κ.1
      · rw [if_pos q2, s_tat d hR.1 hT hp]
        simp only [Option.bind_some]
        by_cases q3 : tat T (κ.1 + v2) = c
        · rw [if_pos q3, if_pos ⟨q1, q2, q3⟩]
          exact fin (v2 + 1) (by omega) (by omega)
        · rw [if_neg q3, if_neg (fun z => q3 z.2.2)]
          exact fin (-1) (by omega) (by omega)
      · rw [if_neg q2, if_neg (fun z => q2 z.2.1)]
        exact fin (-1) (by omega) (by omega)
theorem s_word_n (d : Nat) {G : jG} {X : jX} {T : aT} {κ : aK} (hR : RG G) (hT : okT T) (hp : cTp X T) (hk : cK X T κ) (hi : inT T κ) (h1 : so T κ = 1) : ∀ (ws : List (List Int)) (k v3 : Int) (u4 : jV), u4.1 = 2 ∨ u4.1 = 0 → (∀ w ∈ ws, ∀ c ∈ w, c ≠ 32) → 0 ≤ k → k ≤ v3 → jWords.drop v3.toNat = ws.flatMap (fun w => w ++ [32]) → jN (d + 1) 93 16 [(17, 28), (0, k), (0, 0), (0, v3), u4] [] (G, X) = some (fw T κ ws k, (G, X)) := by
  have hT1 := hT.2.1
  have ht := tE_le hi.2
  have h01 := hi.1
  intro ws
  induction ws with
  | nil =>
    intro k v3 u4 hu4 hc k0 k1 hd
    have : ¬ v3 < 178 := by
      have := congrArg List.length hd
      rw [List.length_drop, jW_len] at this
      simp only [List.flatMap_nil, List.length_nil] at this
      omega
    rw [h_X7_wordHere_16 _ _ _ _ _ u4 hu4, if_neg this]
    rfl
  | cons w ws ih =>
    intro k v3 u4 hu4 hc k0 k1 hd
    rw [List.flatMap_cons, List.append_assoc, List.singleton_append] at hd
    obtain ⟨u', hu', e, hle⟩ := s_word_in d hR hT hp hk hi k (ws.flatMap (fun w => w ++ [32])) w 0 v3 u4 hu4 (hc w List.mem_cons_self) (by omega) hd (by omega) (by omega)
    have hl := congrArg List.length hd
    rw [List.length_drop, jW_len, List.length_append, List.length_cons] at hl
    have hd2 : jWords.drop (v3 + w.length).toNat = 32 :: ws.flatMap (fun w => w ++ [32]) := by
      rw [show (v3 + (w.length : Int)).toNat = v3.toNat + w.length by omega, ← List.drop_drop, hd, List.drop_left]
    have hg : jWords.getD (v3 + w.length).toNat 0 = 32 := by
      have := congrArg (fun l => l.getD 0 0) hd2
      simp only [List.getD_eq_getElem?_getD, List.getElem?_drop, Nat.add_zero] at this ⊢
      rw [this]; rfl
    rw [e, h_X7_wordHere_16 _ _ _ _ _ u' hu', hg, hk.2.1, hk.2.2, if_pos (by omega), if_pos (by omega), if_pos (by omega), if_pos rfl, jsub_id (by omega) (by omega), jadd_id (a := k) (by omega) (by omega), jadd_id (a := v3 + (w.length : Int)) (by omega) (by omega)]
    simp only [Int.reduceLE, reduceIte]
    unfold fw
    have hm := mt2_is T κ.1 (tE T κ.1) hi.1 ht.2.1 w 0 (by omega) (by omega)
    rw [Int.add_zero] at hm
    by_cases q : isW T κ w = true
    · have := isW_iff.1 q
      rw [if_pos q, if_pos (hm.2 (Or.inl ⟨by omega, this.2⟩))]
    · rw [if_neg q, if_neg (fun z => q (isW_iff.2 (by rcases hm.1 z with y | y; exact ⟨⟨h1, by omega⟩, y.2⟩; omega)))]
      refine ih (k + 1) (v3 + w.length + 1) (0, 32) (Or.inr rfl) (fun v hv => hc v (List.mem_cons_of_mem _ hv)) (by omega) (by omega) ?_
      have := congrArg List.tail hd2
      rw [List.tail_drop, List.tail_cons] at this
      rw [show (v3 + (w.length : Int) + 1).toNat = (v3 + (w.length : Int)).toNat + 1 by omega]
      exact this
theorem jW_is : jWords = wds.flatMap (fun w => w ++ [32]) := by decide +kernel
theorem wds_32 : ∀ w ∈ wds, ∀ c ∈ w, c ≠ 32 := by decide +kernel
theorem fw_no {T : aT} {κ : aK} (h : so T κ ≠ 1) : ∀ (ws : List (List Int)) (k : Int), fw T κ ws k = -1
  | [], _ => rfl
  | w :: ws, k => by unfold fw; rw [if_neg (fun q => h (isW_iff.1 q).1.1)]; exact fw_no h ws (k + 1)
theorem s_wordHere (d : Nat) {G : jG} {X : jX} {T : aT} {κ : aK} (hR : RG G) (hT : okT T) (hp : cTp X T) (hk : cK X T κ) (hi : inT T κ) : jD (d + 2) 93 [(17, 28)] (G, X) = some (wd T κ, (G, X)) := by
  rw [e_X7_wordHere, hk.1]
  simp only [Int.reduceLE, reduceIte]
  by_cases h : so T κ = 1
  · rw [if_pos h]
    exact s_word_n d hR hT hp hk hi h wds 0 0 (2, -1) (Or.inl rfl) wds_32 (by omega) (by omega) jW_is
  · rw [if_neg h, show wd T κ = -1 from fw_no h wds 0]
