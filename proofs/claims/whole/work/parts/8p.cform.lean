/-! READING: the class's formulas -/
def cS (X : jX) (T : aT) (u : Int) (κ : aK) (r : Nat) (z : Int) (C : List Int) : Prop := cTp X T ∧ cK X T κ ∧ inT T κ ∧ (X 28 4 = u ∧ X 28 9 = 0 ∧ X 28 10 = -1) ∧ (X 28 5 = 6 - r ∧ r ≤ 6) ∧ X 28 3 = z + C.length ∧ (∀ i : Nat, i < C.length → X 24 (z + i) = toC (C.getD i 0)) ∧ 0 ≤ z
def cfF (z : Int) (X X' : jX) : Prop := (∀ k, k ≠ 28 → k ≠ 24 → X' k = X k) ∧ ∀ j, j < z → X' 24 j = X 24 j
theorem cfF_r (z : Int) (X : jX) : cfF z X X := ⟨fun _ _ _ => rfl, fun _ _ => rfl⟩
theorem cfF_t {z : Int} {X Y Z : jX} (h1 : cfF z X Y) (h2 : cfF z Y Z) : cfF z X Z := ⟨fun k a b => by rw [h2.1 k a b, h1.1 k a b], fun j a => by rw [h2.2 j a, h1.2 j a]⟩
theorem cfF_8 {z : Int} {X : jX} (j v : Int) : cfF z X (jup X 28 j v) := ⟨fun k a _ => jup_rw _ _ _ _ _ a, fun i _ => by rw [jup_rw _ _ _ _ _ (by omega)]⟩
theorem cfF_K {z : Int} {X Y : jX} (h : cfK X Y) : cfF z X Y := ⟨fun k a _ => h.1 k a, fun i _ => by rw [h.1 24 (by omega)]⟩
/-- an answer of a reading method: 0 with a fault, 1 with what is read behind C -/
def cRs (G : jG) (X : jX) (T : aT) (u : Int) (r : Nat) (z : Int) (C : List Int) (L : jR) (R : rs) : Prop := match R with
  | .inl e => ∃ X', L = some (0, (G, X')) ∧ X' 28 9 = e.1 ∧ X' 28 10 = e.2 ∧ z ≤ X' 28 3 ∧ cfF z X X'
  | .inr q => ∃ X', L = some (1, (G, X')) ∧ cS X' T u q.1 r z (C ++ q.2) ∧ cfF z X X'
def pcP (T : aT) (u : Int) (G : jG) (z : Int) (m D r : Nat) (pt : aK → rs) : Prop := ∀ (X : jX) (κ : aK) (C : List Int), cS X T u κ r z C → z + C.length ≤ κ.1 → cRs G X T u r z C (jD D m [(17, 28)] (G, X)) (pt κ)
theorem cS_step (d : Nat) {G : jG} {X : jX} {T : aT} {u z : Int} {κ : aK} {r : Nat} {C : List Int} (hR : RG G) (hT : okT T) (h : cS X T u κ r z C) (h4 : so T κ ≠ 4) : ∃ X', jD (d + 2) 90 [(17, 28)] (G, X) = some (0, (G, X')) ∧ cS X' T u (nx T κ) r z C ∧ cfF z X X' := by
  obtain ⟨a1, a2, a3, a4, a5, a6, a7, a8⟩ := h
  obtain ⟨X', e, k, f⟩ := s_step d hR hT a1 a2 a3 h4
  refine ⟨X', e, ⟨cTp_fr (f.1 _ (by omega)) (f.1 _ (by omega)) a1, k, (nx_in a3).1, ⟨by rw [f.2 4 (by omega)]; exact a4.1, by rw [f.2 9 (by omega)]; exact a4.2.1, by rw [f.2 10 (by omega)]; exact a4.2.2⟩, by rw [f.2 5 (by omega)]; exact a5, by rw [f.2 3 (by omega)]; exact a6, fun i hi => by rw [f.1 24 (by omega)]; exact a7 i hi, a8⟩, cfF_K f⟩
theorem s_failHere (d : Nat) {G : jG} {X : jX} {T : aT} {κ : aK} (hk : cK X T κ) (w : Int) : jD (d + 1) 87 [(17, 28), (0, w)] (G, X) = some (0, (G, jup (jup X 28 9 w) 28 10 κ.1)) := by
  rw [e_X7_failHere, jup_row _ _ _ _ _ (by omega), hk.2.1]
  simp only [Int.reduceLE, reduceIte]
theorem cRs_f {G : jG} {X Y : jX} {T : aT} {u : Int} {r : Nat} {z : Int} {C : List Int} {L : jR} {w s : Int} (hL : L = some (0, (G, jup (jup Y 28 9 w) 28 10 s))) (hz : z ≤ Y 28 3) (hf : cfF z X Y) : cRs G X T u r z C L (.inl (w, s)) := by
  refine ⟨_, hL, by rw [jup_row _ _ _ _ _ (by omega), jup_same], by rw [jup_same], by rw [jup_row _ _ _ _ _ (by omega), jup_row _ _ _ _ _ (by omega)]; exact hz, cfF_t hf (cfF_t (cfF_8 _ _) (cfF_8 _ _))⟩
theorem cS_z {X : jX} {T : aT} {u z : Int} {κ : aK} {r : Nat} {C : List Int} (h : cS X T u κ r z C) : z ≤ X 28 3 := by
  rw [h.2.2.2.2.2.1]; omega
theorem s_emit (d : Nat) {G : jG} {X : jX} (hR : RG G) (a y : Int) (hy : X 28 3 = y) (y0 : 0 ≤ y) : ∃ X', jD (d + 1) 102 [(17, 28), (0, a)] (G, X) = some (0, (G, X')) ∧ (y < 1600 → X' = jup (jup X 24 y a) 28 3 (y + 1)) ∧ (∀ j, j ≠ 3 → X' 28 j = X 28 j) ∧ y ≤ X' 28 3 ∧ ∀ z, z ≤ y → cfF z X X' := by
  rw [e_X7_emit, hR.2.2, gl_24 hR.1, hy]
  simp only [Int.reduceLE, reduceIte]
  by_cases h : y < 1600
  · rw [if_pos h, if_pos y0, if_pos h, jup_rw _ _ _ _ _ (by omega), hy, jadd_id (by omega) (by omega)]
    refine ⟨_, rfl, fun _ => rfl, fun j hj => by rw [jup_row _ _ _ _ _ hj, jup_rw _ _ _ _ _ (by omega)], by rw [jup_same]; omega, fun z hz => cfF_t (Y := jup X 24 y a) ⟨fun k _ h2 => jup_rw _ _ _ _ _ h2, fun j hj => jup_row _ _ _ _ _ (by omega)⟩ (cfF_8 _ _)⟩
  · rw [if_neg h]
    exact ⟨X, rfl, fun q => absurd q h, fun _ _ => rfl, by omega, fun z _ => cfF_r z X⟩
theorem snoc_getD (C : List Int) (x : Int) (i : Nat) (h : i < (C ++ [x]).length) : (C ++ [x]).getD i 0 = if i = C.length then x else C.getD i 0 := by
  rw [List.length_append, List.length_singleton] at h
  rw [List.getD_eq_getElem?_getD, List.getD_eq_getElem?_getD]
  by_cases q : i = C.length
  · rw [if_pos q, q, List.getElem?_append_right (by omega), Nat.sub_self]; rfl
  · rw [if_neg q, List.getElem?_append_left (by omega)]
theorem cS_emit (d : Nat) {G : jG} {X : jX} {T : aT} {u z : Int} {κ : aK} {r : Nat} {C : List Int} (hR : RG G) (op a : Int) (ha : toC op = a) (h : cS X T u κ r z C) (hl : z + C.length < 1600) : ∃ X', jD (d + 1) 102 [(17, 28), (0, a)] (G, X) = some (0, (G, X')) ∧ cS X' T u κ r z (C ++ [op]) ∧ cfF z X X' := by
  obtain ⟨a1, a2, a3, a4, a5, a6, a7, a8⟩ := h
  obtain ⟨X', e, e1, f1, _, f2⟩ := s_emit d hR a (z + C.length) a6 (by omega)
  have e1 := e1 hl
  have f := f2 z (by omega)
  refine ⟨X', e, ⟨cTp_fr (f.1 _ (by omega) (by omega)) (f.1 _ (by omega) (by omega)) a1, ⟨by rw [f1 6 (by omega)]; exact a2.1, by rw [f1 7 (by omega)]; exact a2.2.1, by rw [f1 8 (by omega)]; exact a2.2.2⟩, a3, ⟨by rw [f1 4 (by omega)]; exact a4.1, by rw [f1 9 (by omega)]; exact a4.2.1, by rw [f1 10 (by omega)]; exact a4.2.2⟩, by rw [f1 5 (by omega)]; exact a5, ?_, fun i hi => ?_, a8⟩, f⟩
  · rw [e1, jup_same, List.length_append, List.length_singleton]; omega
  · rw [snoc_getD C op i hi, e1, jup_rw _ _ _ _ _ (by omega)]
    rw [List.length_append, List.length_singleton] at hi
    by_cases q : i = C.length
    · rw [if_pos q, q, jup_same, ha]
    · rw [if_neg q, jup_row _ _ _ _ _ (by omega)]; exact a7 i (by omega)
theorem toC_id {op : Int} (h : op ≠ 10014) : toC op = op := if_neg h
theorem s_takeMark (d : Nat) {G : jG} {X : jX} {T : aT} {u z : Int} {κ : aK} {r : Nat} {C : List Int} (hR : RG G) (hT : okT T) (h : cS X T u κ r z C) {c : Int} (hc : c < 48 ∨ (57 < c ∧ c < 97) ∨ 122 < c) : (mk T κ c = true → ∃ X', jD (d + 3) 94 [(17, 28), (0, c)] (G, X) = some (1, (G, X')) ∧ cS X' T u (nx T κ) r z C ∧ cfF z X X') ∧ (¬ mk T κ c = true → jD (d + 3) 94 [(17, 28), (0, c)] (G, X) = some (0, (G, jup (jup X 28 9 1) 28 10 κ.1))) := by
  have e := s_isMark d (c := c) hR hT h.1 h.2.1 h.2.2.1 hc
  constructor
  · intro q
    have := ((mk_so hc).1 q).1
    obtain ⟨X', e', k, f⟩ := cS_step d hR hT h (by omega)
    refine ⟨X', ?_, k, f⟩
    rw [e_X7_takeMark, e, if_pos q]
    simp only [Option.bind_some, Int.reduceLE, reduceIte]
    rw [if_neg (by omega), e']
    rfl
  · intro q
    rw [e_X7_takeMark, e, if_neg q]
    simp only [Option.bind_some, Int.reduceLE, reduceIte]
    rw [s_failHere (d + 1) h.2.1]
    simp only [Option.bind_some, reduceIte]
theorem s_takeWord (d : Nat) {G : jG} {X : jX} {T : aT} {u z : Int} {κ : aK} {r : Nat} {C : List Int} (hR : RG G) (hT : okT T) (h : cS X T u κ r z C) (w : Int) (hw : w ≠ -1) : (wd T κ = w → ∃ X', jD (d + 3) 95 [(17, 28), (0, w)] (G, X) = some (1, (G, X')) ∧ cS X' T u (nx T κ) r z C ∧ cfF z X X') ∧ (wd T κ ≠ w → jD (d + 3) 95 [(17, 28), (0, w)] (G, X) = some (0, (G, jup (jup X 28 9 1) 28 10 κ.1))) := by
  have e := s_wordHere d hR hT h.1 h.2.1 h.2.2.1
  constructor
  · intro q
    have := wd_so (T := T) (κ := κ) (by omega)
    obtain ⟨X', e', k, f⟩ := cS_step d hR hT h (by omega)
    refine ⟨X', ?_, k, f⟩
    rw [e_X7_takeWord, e]
    simp only [Option.bind_some, Int.reduceLE, reduceIte]
    rw [if_pos q, e']
    rfl
  · intro q
    rw [e_X7_takeWord, e]
    simp only [Option.bind_some, Int.reduceLE, reduceIte]
    rw [if_neg q, s_failHere (d + 1) h.2.1]
    simp only [Option.bind_some, reduceIte]
theorem s_openOne (d : Nat) {G : jG} {X : jX} {T : aT} {u z : Int} {κ : aK} {r : Nat} {C : List Int} (h : cS X T u κ r z C) : (∀ r', r = r' + 1 → ∃ X', jD (d + 2) 105 [(17, 28)] (G, X) = some (1, (G, X')) ∧ cS X' T u κ r' z C ∧ cfF z X X') ∧ (r = 0 → jD (d + 2) 105 [(17, 28)] (G, X) = some (0, (G, jup (jup X 28 9 4) 28 10 κ.1))) := by
  obtain ⟨a1, a2, a3, a4, a5, a6, a7, a8⟩ := h
  constructor
  · intro r' hr
    refine ⟨jup X 28 5 (6 - r'), ?_, ⟨cTp_fr (jup_rw _ _ _ _ _ (by omega)) (jup_rw _ _ _ _ _ (by omega)) a1, ⟨by rw [jup_row _ _ _ _ _ (by omega)]; exact a2.1, by rw [jup_row _ _ _ _ _ (by omega)]; exact a2.2.1, by rw [jup_row _ _ _ _ _ (by omega)]; exact a2.2.2⟩, a3, ⟨by rw [jup_row _ _ _ _ _ (by omega)]; exact a4.1, by rw [jup_row _ _ _ _ _ (by omega)]; exact a4.2.1, by rw [jup_row _ _ _ _ _ (by omega)]; exact a4.2.2⟩, ⟨by rw [jup_same], by omega⟩, by rw [jup_row _ _ _ _ _ (by omega)]; exact a6, fun i hi => by rw [jup_rw _ _ _ _ _ (by omega)]; exact a7 i hi, a8⟩, cfF_8 _ _⟩
    rw [e_X7_openOne, a5.1, if_pos (by omega), if_pos (by omega), jadd_id (by omega) (by omega), show 6 - (r : Int) + 1 = 6 - r' by omega]
    simp only [Int.reduceLE, reduceIte]
  · intro hr
    rw [e_X7_openOne, a5.1, if_pos (by omega), if_neg (by omega)]
    simp only [Int.reduceLE, reduceIte]
    rw [s_failHere d a2]
    simp only [Option.bind_some, reduceIte]
theorem s_closeOne (d : Nat) {G : jG} {X : jX} {T : aT} {u z : Int} {κ : aK} {r : Nat} {C : List Int} (h : cS X T u κ r z C) (hr : r + 1 ≤ 6) : ∃ X', jD (d + 1) 106 [(17, 28)] (G, X) = some (1, (G, X')) ∧ cS X' T u κ (r + 1) z C ∧ cfF z X X' := by
  obtain ⟨a1, a2, a3, a4, a5, a6, a7, a8⟩ := h
  refine ⟨jup X 28 5 (6 - ((r + 1 : Nat) : Int)), ?_, ⟨cTp_fr (jup_rw _ _ _ _ _ (by omega)) (jup_rw _ _ _ _ _ (by omega)) a1, ⟨by rw [jup_row _ _ _ _ _ (by omega)]; exact a2.1, by rw [jup_row _ _ _ _ _ (by omega)]; exact a2.2.1, by rw [jup_row _ _ _ _ _ (by omega)]; exact a2.2.2⟩, a3, ⟨by rw [jup_row _ _ _ _ _ (by omega)]; exact a4.1, by rw [jup_row _ _ _ _ _ (by omega)]; exact a4.2.1, by rw [jup_row _ _ _ _ _ (by omega)]; exact a4.2.2⟩, ⟨by rw [jup_same], hr⟩, by rw [jup_row _ _ _ _ _ (by omega)]; exact a6, fun i hi => by rw [jup_rw _ _ _ _ _ (by omega)]; exact a7 i hi, a8⟩, cfF_8 _ _⟩
  rw [e_X7_closeOne, a5.1, jsub_id (by omega) (by omega), show 6 - (r : Int) - 1 = 6 - ((r + 1 : Nat) : Int) by omega]
  simp only [Int.reduceLE, reduceIte]
theorem s_num_n (d : Nat) {G : jG} {X : jX} {T : aT} {κ : aK} (hR : RG G) (hT : okT T) (hp : cTp X T) (hk : cK X T κ) (hi : inT T κ) : ∀ (m : Nat) (i v : Int), i + m = tE T κ.1 → κ.1 ≤ i → 0 ≤ v → v < 10 ^ (4 - m) → m ≤ 4 → (∀ j, i ≤ j → j < tE T κ.1 → 48 ≤ T.2 j ∧ T.2 j ≤ 57) → jN (d + 1) 97 50 [(17, 28), (0, v), (0, i)] [] (G, X) = some (nvN T m i v, (G, X)) := by
  have ht := tE_le hi.2
  have h0 := hi.1
  have hT1 := hT.2.1
  intro m
  induction m with
  | zero =>
    intro i v h1 h2 v0 v1 m4 hd
    rw [h_X7_numberHere_50, hk.2.2]
    simp only [Int.reduceLE, reduceIte]
    rw [if_neg (by omega)]
    rfl
  | succ m ih =>
    intro i v h1 h2 v0 v1 m4 hd
    have hdi := hd i (by omega) (by omega)
    have hp10 : (10 : Int) ^ (4 - (m + 1)) ≤ 1000 ∧ (10 : Int) ^ (4 - m) = 10 * 10 ^ (4 - (m + 1)) := by
      have : m = 0 ∨ m = 1 ∨ m = 2 ∨ m = 3 := by omega
      rcases this with rfl | rfl | rfl | rfl <;> decide
    rw [h_X7_numberHere_50, hk.2.2, hR.2.1]
    simp only [Int.reduceLE, reduceIte]
    rw [if_pos (by omega), s_tat d hR.1 hT hp, show tat T i = T.2 i from if_pos ⟨by omega, by omega⟩]
    simp only [Option.bind_some]
    rw [jmul_id (by omega) (by omega), jadd_id (a := 10 * v) (by omega) (by omega), jsub_id (by omega) (by omega), jadd_id (a := i) (by omega) (by omega)]
    exact ih (i + 1) (10 * v + T.2 i - 48) (by omega) (by omega) (by omega) (by omega) (by omega) (fun j h1 h2 => hd j (by omega) h2)
theorem s_numberHere (d : Nat) {G : jG} {X : jX} {T : aT} {κ : aK} (hR : RG G) (hT : okT T) (hp : cTp X T) (hk : cK X T κ) (hi : inT T κ) : jD (d + 2) 97 [(17, 28)] (G, X) = if so T κ = 2 then (if 4 < tE T κ.1 - κ.1 then some (-1, (G, jup (jup X 28 9 1) 28 10 (κ.1 + 4))) else some (nuV T κ.1, (G, X))) else some (-1, (G, jup (jup X 28 9 1) 28 10 κ.1)) := by
  have ht := tE_le hi.2
  have h0 := hi.1
  have hT1 := hT.2.1
  rw [e_X7_numberHere, hk.1, hk.2.1, hk.2.2, jsub_id (by omega) (by omega)]
  simp only [Int.reduceLE, reduceIte]
  by_cases h : so T κ = 2
  · rw [if_pos h, if_pos h]
    by_cases h2 : 4 < tE T κ.1 - κ.1
    · rw [if_pos h2, if_pos h2, e_X7_fail, jadd_id (by omega) (by omega)]
      simp only [Option.bind_some, Int.reduceLE, reduceIte]
    · rw [if_neg h2, if_neg h2]
      have hs : srt T κ.1 = 2 := by rcases so_b T κ with z | z <;> omega
      have e : tE T κ.1 = rn bD T κ.1 := by unfold tE; rw [if_neg (by omega), if_pos hs]
      exact s_num_n d hR hT hp hk hi (tE T κ.1 - κ.1).toNat κ.1 0 (by omega) (by omega) (by omega) (Int.pow_pos (by omega)) (by omega) (fun j h1 h2 => (bD_iff _).1 (rn_in bD T h1 (by rw [← e]; omega)).2)
  · rw [if_neg h, if_neg h, s_failHere d hk]
    simp only [Option.bind_some]
theorem s_factFor (d : Nat) {G : jG} {X : jX} {T : aT} {κ : aK} (hk : cK X T κ) (u w : Int) (hu : X 28 4 = u) (hu3 : u = 0 ∨ u = 1 ∨ u = 2) : jD (d + 2) 117 [(17, 28), (0, w)] (G, X) = if fct u w = -1 then some (-1, (G, jup (jup X 28 9 1) 28 10 κ.1)) else some (20000 + fct u w, (G, X)) := by
  have hf : ∀ Y : jX, jD (d + 1) 118 [(0, w)] (G, Y) = some (fct 1 w, (G, Y)) := fun Y => by
    rw [e_X7_houseFact]; unfold fct; rw [if_pos rfl]; repeat' split
    all_goals first | rfl | (exfalso; omega)
  have hc : ∀ Y : jX, jD (d + 1) 119 [(0, w)] (G, Y) = some (fct 0 w, (G, Y)) := fun Y => by
    rw [e_X7_cellFact]; unfold fct; rw [if_neg (show ¬ (0 : Int) = 1 by omega), if_neg (show ¬ (0 : Int) = 2 by omega)]
    by_cases h : 3 ≤ w ∧ w ≤ 17
    · have : w = 3 ∨ w = 4 ∨ w = 5 ∨ w = 6 ∨ w = 7 ∨ w = 8 ∨ w = 9 ∨ w = 10 ∨ w = 11 ∨ w = 12 ∨ w = 13 ∨ w = 14 ∨ w = 15 ∨ w = 16 ∨ w = 17 := by omega
      rcases this with rfl | rfl | rfl | rfl | rfl | rfl | rfl | rfl | rfl | rfl | rfl | rfl | rfl | rfl | rfl <;> rfl
    · simp only [if_neg (show ¬ w = 3 by omega), if_neg (show ¬ w = 4 by omega), if_neg (show ¬ w = 5 by omega), if_neg (show ¬ w = 6 by omega), if_neg (show ¬ w = 7 by omega), if_neg (show ¬ w = 8 by omega), if_neg (show ¬ w = 9 by omega), if_neg (show ¬ w = 10 by omega), if_neg (show ¬ w = 11 by omega), if_neg (show ¬ w = 12 by omega), if_neg (show ¬ w = 13 by omega), if_neg (show ¬ w = 14 by omega), if_neg (show ¬ w = 15 by omega), if_neg (show ¬ w = 16 by omega), if_neg (show ¬ w = 17 by omega)]
  have hq : ∀ Y : jX, jD (d + 1) 120 [(0, w)] (G, Y) = some (if w = 21 then 0 else if w = 20 then 7 else if w = 18 then 8 else if w = 19 then 9 else -1, (G, Y)) := fun Y => by
    rw [e_X7_questionFact]; repeat' split
    all_goals first | rfl | (exfalso; omega)
  have b := fct_b u w
  rw [e_X7_factFor, hu]
  simp only [Int.reduceLE, reduceIte]
  rcases hu3 with rfl | rfl | rfl
  · rw [if_neg (by omega), hc]
    simp only [Option.bind_some]
    rw [hu, if_neg (show ¬ (0 : Int) = 2 by omega)]
    by_cases q : fct 0 w = -1
    · simp only [if_pos q]; rw [s_failHere d hk]; rfl
    · simp only [if_neg q]; rw [jadd_id (by omega) (by omega)]
  · rw [if_pos rfl, hf]
    simp only [Option.bind_some]
    rw [hu, if_neg (show ¬ (1 : Int) = 2 by omega)]
    by_cases q : fct 1 w = -1
    · simp only [if_pos q]; rw [s_failHere d hk]; rfl
    · simp only [if_neg q]; rw [jadd_id (by omega) (by omega)]
  · rw [if_neg (by omega), hc]
    simp only [Option.bind_some]
    rw [hu, if_pos rfl, hq]
    simp only [Option.bind_some]
    have b0 := fct_b 0 w
    by_cases q : fct 0 w = -1
    · have e2 : fct 2 w = (if w = 21 then 0 else if w = 20 then 7 else if w = 18 then 8 else if w = 19 then 9 else -1) := by unfold fct at q ⊢; grind
      rw [if_pos q, ← e2]
      by_cases q2 : fct 2 w = -1
      · rw [if_pos q2, if_pos q2, s_failHere d hk]; rfl
      · rw [if_neg q2, if_neg q2, jadd_id (by omega) (by omega)]
    · have e2 : fct 2 w = fct 0 w := by unfold fct at q ⊢; grind
      rw [e2]
      simp only [if_neg q]; rw [jadd_id (by omega) (by omega)]
theorem s_atom (d : Nat) {G : jG} {X : jX} {T : aT} {u z : Int} {κ : aK} {r : Nat} {C : List Int} (hR : RG G) (hT : okT T) (hu3 : u = 0 ∨ u = 1 ∨ u = 2) (h : cS X T u κ r z C) (hl : z + C.length ≤ κ.1) : cRs G X T u r z C (jN (d + 2) 114 96 [(17, 28), (0, wd T κ), (2, (-1))] [] (G, X)) (atm T u κ) := by
  have hT1 := hT.2.1
  have hz := cS_z h
  have put : ∀ op : Int, op ≠ -1 → op ≠ 10014 → so T κ ≠ 0 → so T κ ≠ 4 → cRs G X T u r z C (jN (d + 2) 114 116 [(17, 28), (0, wd T κ), (2, (-1))] [(0, op)] (G, X)) (.inr (nx T κ, [op])) := fun op h1 h2 h3 h4 => by
    have hlt : κ.1 < T.1 := by
      rcases so_b T κ with y | y
      · omega
      · have : srt T κ.1 ≠ 0 := by omega
        rw [ne_eq, srt_0] at this; omega
    obtain ⟨X1, e1, k1, f1⟩ := cS_emit (d + 1) hR op op (toC_id h2) h (by omega)
    obtain ⟨X2, e2, k2, f2⟩ := cS_step d hR hT k1 h4
    refine ⟨X2, ?_, k2, cfF_t f1 f2⟩
    rw [h_X7_readPart_116, if_neg h1]
    simp only [Int.reduceLE, reduceIte]
    rw [e1]
    simp only [Option.bind_some]
    rw [e2]
    rfl
  rw [h_X7_readPart_96, h.2.1.1]
  simp only [Int.reduceLE, reduceIte]
  unfold atm
  by_cases q : so T κ = 2
  · rw [if_pos q, if_pos q, s_numberHere d hR hT h.1 h.2.1 h.2.2.1, if_pos q]
    by_cases q2 : 4 < tE T κ.1 - κ.1
    · rw [if_pos q2, if_pos q2]
      simp only [Option.bind_some]
      exact cRs_f (by rw [h_X7_readPart_116, if_pos rfl]) hz (cfF_r z X)
    · rw [if_neg q2, if_neg q2]
      simp only [Option.bind_some]
      have hs : srt T κ.1 = 2 := by rcases so_b T κ with y | y <;> omega
      have := nuV_b hs (by omega)
      exact put _ (by omega) (by omega) (by omega) (by omega)
  · rw [if_neg q, if_neg q, s_factFor d h.2.1 u (wd T κ) h.2.2.2.1.1 hu3]
    by_cases q2 : fct u (wd T κ) = -1
    · rw [if_pos q2, if_pos q2]
      simp only [Option.bind_some]
      exact cRs_f (by rw [h_X7_readPart_116, if_pos rfl]) hz (cfF_r z X)
    · rw [if_neg q2, if_neg q2]
      simp only [Option.bind_some]
      have hb := fct_b u (wd T κ)
      have hw : wd T κ ≠ -1 := fun y => q2 (by
        rw [y]
        unfold fct
        rcases hu3 with rfl | rfl | rfl <;> rfl)
      have := wd_so hw
      exact put _ (by omega) (by omega) (by omega) (by omega)
theorem s_readProduct_n (d : Nat) {G : jG} {T : aT} {u z : Int} {r H : Nat} {pt : aK → rs} (hR : RG G) (hT : okT T) (hp : ∀ κ, inT T κ → gdR T u H 0 κ (pt κ)) (IH : pcP T u G z 114 (d + 3) r pt) : ∀ (m : Nat) (X : jX) (κ κ0 : aK) (C c : List Int) (v2 : Int) (u3 : jV), u3.1 = 2 ∨ u3.1 = 0 → 0 ≤ v2 → v2 + m = 1600 → cS X T u κ r z (C ++ c) → z + C.length ≤ κ0.1 → gdR T u (H + 1) 0 κ0 (.inr (κ, c)) → cRs G X T u r z C (jN (d + 3) 113 7 [(17, 28), (0, 1), (0, v2), u3] [] (G, X)) (lp (sgP T) T pt m κ c) := by
  intro m
  have hT1 := hT.2.1
  induction m with
  | zero =>
    intro X κ κ0 C c v2 u3 hu3 h0 hv h hl hg
    exact ⟨X, by rw [h_X7_readProduct_7 _ _ _ _ u3 hu3, if_neg (by omega), h_X7_readProduct_75 _ _ _ _ u3 hu3, if_neg (by omega), if_pos rfl], h, cfF_r z X⟩
  | succ m ih =>
    intro X κ κ0 C c v2 u3 hu3 h0 hv h hl hg
    have m1 := s_isMark (d + 1) (c := 42) hR hT h.1 h.2.1 h.2.2.1 (by omega)
    have m2 := s_isMark (d + 1) (c := 47) hR hT h.1 h.2.1 h.2.2.1 (by omega)
    have hg2 : κ0.1 + c.length ≤ κ.1 := hg.2.1
    -- where there is a sign
    have go : ∀ op : Int, sgP T κ = op → op ≠ -1 → cRs G X T u r z C (jN (d + 3) 113 54 [(17, 28), (0, 1), (0, v2), u3] [(0, op)] (G, X)) (lp (sgP T) T pt (m + 1) κ c) := fun op hop hn => by
      obtain ⟨s1, s2⟩ := sgO_P T κ (by rw [hop]; exact hn)
      have h4 : so T κ ≠ 4 := fun q => by
        have : ∀ c : Int, (c < 48 ∨ (57 < c ∧ c < 97) ∨ 122 < c) → mk T κ c ≠ true := fun c hc y => by have := ((mk_so hc).1 y).1; omega
        unfold sgP at hop
        rw [if_neg (this 42 (by omega)), if_neg (this 47 (by omega))] at hop
        exact hn hop.symm
      have hn1 := nx_in h.2.2.1
      have hn2 := hn1.2.1 s1
      obtain ⟨X1, e1, k1, f1⟩ := cS_step (d + 1) hR hT h h4
      have hI := IH X1 (nx T κ) (C ++ c) k1 (by rw [List.length_append]; omega)
      have hgp := hp (nx T κ) hn1.1
      unfold lp
      rw [hop, if_neg hn, h_X7_readProduct_54 _ _ _ _ _ u3 hu3]
      simp only [Int.reduceLE, reduceIte]
      rw [e1]
      simp only [Option.bind_some]
      cases e : pt (nx T κ) with
      | inl e' =>
        rw [e] at hI
        obtain ⟨X2, e2, b1, b2, b3, f2⟩ := hI
        obtain ⟨X3, e3, _, g3, g4, f3⟩ := s_emit (d + 2) hR op (X2 28 3) rfl (by have := h.2.2.2.2.2.2.2; omega)
        rw [e2]
        simp only [Option.bind_some]
        rw [e3]
        simp only [Option.bind_some]
        refine ⟨X3, ?_, by rw [g3 9 (by omega)]; exact b1, by rw [g3 10 (by omega)]; exact b2, by omega, cfF_t f1 (cfF_t f2 (f3 z (by omega)))⟩
        rw [h_X7_readProduct_7 _ _ _ _ (0, op) (Or.inr rfl)]
        by_cases y : jadd v2 1 < 1600
        · rw [if_pos y, if_pos rfl, h_X7_readProduct_75 _ _ _ _ (0, op) (Or.inr rfl), if_pos rfl]
        · rw [if_neg y, h_X7_readProduct_75 _ _ _ _ (0, op) (Or.inr rfl), if_pos rfl]
      | inr q =>
        rw [e] at hI hgp
        obtain ⟨X2, e2, k2, f2⟩ := hI
        have hq : (nx T κ).1 + q.2.length ≤ q.1.1 := hgp.2.1
        have hqT : q.1.1 ≤ T.1 := hgp.1.2
        have hj := gd_join (op := op) (by rw [← hop]; exact s2) hg hn2 hgp
        obtain ⟨X3, e3, k3, f3⟩ := cS_emit (d + 2) hR op op (toC_id (by rw [hop] at s2; unfold jnO at s2; omega)) k2 (by rw [List.length_append, List.length_append]; omega)
        rw [e2]
        simp only [Option.bind_some]
        rw [e3]
        simp only [Option.bind_some]
        rw [jadd_id (by omega) (by omega)]
        rw [show C ++ c ++ q.2 ++ [op] = C ++ (c ++ q.2 ++ [op]) by simp only [List.append_assoc]] at k3
        have := ih X3 q.1 κ0 C (c ++ q.2 ++ [op]) (v2 + 1) (0, op) (Or.inr rfl) (by omega) (by omega) k3 hl hj
        rw [bnd_r]
        revert this
        cases lp (sgP T) T pt m q.1 (c ++ q.2 ++ [op]) with
        | inl e' => rintro ⟨X', a1, a2, a3, a4, a5⟩; exact ⟨X', a1, a2, a3, a4, cfF_t f1 (cfF_t f2 (cfF_t f3 a5))⟩
        | inr q' => rintro ⟨X', a1, a2, a3⟩; exact ⟨X', a1, a2, cfF_t f1 (cfF_t f2 (cfF_t f3 a3))⟩
    rw [h_X7_readProduct_7 _ _ _ _ u3 hu3, if_pos (by omega), if_neg (by omega)]
    simp only [Int.reduceLE, reduceIte]
    rw [m1]
    simp only [Option.bind_some]
    by_cases q1 : mk T κ 42 = true
    · rw [if_pos q1, if_neg (by omega), h_X7_readProduct_36 _ _ _ _ u3 hu3]
      simp only [Int.reduceLE, reduceIte]
      rw [m1]
      simp only [Option.bind_some]
      rw [if_pos q1, if_neg (by omega)]
      exact go 10010 (by unfold sgP; rw [if_pos q1]) (by omega)
    · rw [if_neg q1, if_pos rfl, m2]
      simp only [Option.bind_some]
      by_cases q2 : mk T κ 47 = true
      · rw [if_pos q2, if_neg (by omega), h_X7_readProduct_36 _ _ _ _ u3 hu3]
        simp only [Int.reduceLE, reduceIte]
        rw [m1]
        simp only [Option.bind_some]
        rw [if_neg q1, if_pos rfl]
        exact go 10011 (by unfold sgP; rw [if_neg q1, if_pos q2]) (by omega)
      · rw [if_neg q2, if_pos rfl, h_X7_readProduct_75 _ _ _ _ u3 hu3, if_neg (by omega), if_pos rfl]
        have : sgP T κ = -1 := by unfold sgP; rw [if_neg q1, if_neg q2]
        unfold lp
        rw [if_pos this]
        exact ⟨X, rfl, h, cfF_r z X⟩
theorem s_readProduct (d : Nat) {G : jG} {T : aT} {u z : Int} {r H : Nat} {pt : aK → rs} (hR : RG G) (hT : okT T) (hp : ∀ κ, inT T κ → gdR T u H 0 κ (pt κ)) (IH : pcP T u G z 114 (d + 3) r pt) : pcP T u G z 113 (d + 4) r (lev (sgP T) T pt) := by
  intro X κ C h hl
  have hI := IH X κ C h hl
  have hgp := hp κ h.2.2.1
  unfold lev
  rw [e_X7_readProduct]
  simp only [Int.reduceLE, reduceIte]
  cases e : pt κ with
  | inl e' =>
    rw [e] at hI
    obtain ⟨X2, e2, b1, b2, b3, f2⟩ := hI
    rw [e2]
    simp only [Option.bind_some]
    exact ⟨X2, by rw [h_X7_readProduct_7 _ _ _ _ (2, -1) (Or.inl rfl), if_pos (by omega), if_pos rfl, h_X7_readProduct_75 _ _ _ _ (2, -1) (Or.inl rfl), if_pos rfl], b1, b2, b3, f2⟩
  | inr q =>
    rw [e] at hI hgp
    obtain ⟨X2, e2, k2, f2⟩ := hI
    rw [e2, bnd_r]
    simp only [Option.bind_some]
    have := s_readProduct_n d hR hT hp IH 1600 X2 q.1 κ C q.2 0 (2, -1) (Or.inl rfl) (by omega) (by omega) k2 hl (gd_H (by omega) hgp)
    revert this
    cases lp (sgP T) T pt 1600 q.1 q.2 with
    | inl e' => rintro ⟨X', a1, a2, a3, a4, a5⟩; exact ⟨X', a1, a2, a3, a4, cfF_t f2 a5⟩
    | inr q' => rintro ⟨X', a1, a2, a3⟩; exact ⟨X', a1, a2, cfF_t f2 a3⟩
theorem s_readSum_n (d : Nat) {G : jG} {T : aT} {u z : Int} {r H : Nat} {pt : aK → rs} (hR : RG G) (hT : okT T) (hp : ∀ κ, inT T κ → gdR T u H 0 κ (pt κ)) (IH : pcP T u G z 113 (d + 3) r pt) : ∀ (m : Nat) (X : jX) (κ κ0 : aK) (C c : List Int) (v2 : Int) (u3 : jV), u3.1 = 2 ∨ u3.1 = 0 → 0 ≤ v2 → v2 + m = 1600 → cS X T u κ r z (C ++ c) → z + C.length ≤ κ0.1 → gdR T u (H + 1) 0 κ0 (.inr (κ, c)) → cRs G X T u r z C (jN (d + 3) 112 7 [(17, 28), (0, 1), (0, v2), u3] [] (G, X)) (lp (sgS T) T pt m κ c) := by
  intro m
  have hT1 := hT.2.1
  induction m with
  | zero =>
    intro X κ κ0 C c v2 u3 hu3 h0 hv h hl hg
    exact ⟨X, by rw [h_X7_readSum_7 _ _ _ _ u3 hu3, if_neg (by omega), h_X7_readSum_75 _ _ _ _ u3 hu3, if_neg (by omega), if_pos rfl], h, cfF_r z X⟩
  | succ m ih =>
    intro X κ κ0 C c v2 u3 hu3 h0 hv h hl hg
    have m1 := s_isMark (d + 1) (c := 43) hR hT h.1 h.2.1 h.2.2.1 (by omega)
    have m2 := s_isMark (d + 1) (c := 45) hR hT h.1 h.2.1 h.2.2.1 (by omega)
    have hg2 : κ0.1 + c.length ≤ κ.1 := hg.2.1
    -- where there is a sign
    have go : ∀ op : Int, sgS T κ = op → op ≠ -1 → cRs G X T u r z C (jN (d + 3) 112 54 [(17, 28), (0, 1), (0, v2), u3] [(0, op)] (G, X)) (lp (sgS T) T pt (m + 1) κ c) := fun op hop hn => by
      obtain ⟨s1, s2⟩ := sgO_S T κ (by rw [hop]; exact hn)
      have h4 : so T κ ≠ 4 := fun q => by
        have : ∀ c : Int, (c < 48 ∨ (57 < c ∧ c < 97) ∨ 122 < c) → mk T κ c ≠ true := fun c hc y => by have := ((mk_so hc).1 y).1; omega
        unfold sgS at hop
        rw [if_neg (this 43 (by omega)), if_neg (this 45 (by omega))] at hop
        exact hn hop.symm
      have hn1 := nx_in h.2.2.1
      have hn2 := hn1.2.1 s1
      obtain ⟨X1, e1, k1, f1⟩ := cS_step (d + 1) hR hT h h4
      have hI := IH X1 (nx T κ) (C ++ c) k1 (by rw [List.length_append]; omega)
      have hgp := hp (nx T κ) hn1.1
      unfold lp
      rw [hop, if_neg hn, h_X7_readSum_54 _ _ _ _ _ u3 hu3]
      simp only [Int.reduceLE, reduceIte]
      rw [e1]
      simp only [Option.bind_some]
      cases e : pt (nx T κ) with
      | inl e' =>
        rw [e] at hI
        obtain ⟨X2, e2, b1, b2, b3, f2⟩ := hI
        obtain ⟨X3, e3, _, g3, g4, f3⟩ := s_emit (d + 2) hR op (X2 28 3) rfl (by have := h.2.2.2.2.2.2.2; omega)
        rw [e2]
        simp only [Option.bind_some]
        rw [e3]
        simp only [Option.bind_some]
        refine ⟨X3, ?_, by rw [g3 9 (by omega)]; exact b1, by rw [g3 10 (by omega)]; exact b2, by omega, cfF_t f1 (cfF_t f2 (f3 z (by omega)))⟩
        rw [h_X7_readSum_7 _ _ _ _ (0, op) (Or.inr rfl)]
        by_cases y : jadd v2 1 < 1600
        · rw [if_pos y, if_pos rfl, h_X7_readSum_75 _ _ _ _ (0, op) (Or.inr rfl), if_pos rfl]
        · rw [if_neg y, h_X7_readSum_75 _ _ _ _ (0, op) (Or.inr rfl), if_pos rfl]
      | inr q =>
        rw [e] at hI hgp
        obtain ⟨X2, e2, k2, f2⟩ := hI
        have hq : (nx T κ).1 + q.2.length ≤ q.1.1 := hgp.2.1
        have hqT : q.1.1 ≤ T.1 := hgp.1.2
        have hj := gd_join (op := op) (by rw [← hop]; exact s2) hg hn2 hgp
        obtain ⟨X3, e3, k3, f3⟩ := cS_emit (d + 2) hR op op (toC_id (by rw [hop] at s2; unfold jnO at s2; omega)) k2 (by rw [List.length_append, List.length_append]; omega)
        rw [e2]
        simp only [Option.bind_some]
        rw [e3]
        simp only [Option.bind_some]
        rw [jadd_id (by omega) (by omega)]
        rw [show C ++ c ++ q.2 ++ [op] = C ++ (c ++ q.2 ++ [op]) by simp only [List.append_assoc]] at k3
        have := ih X3 q.1 κ0 C (c ++ q.2 ++ [op]) (v2 + 1) (0, op) (Or.inr rfl) (by omega) (by omega) k3 hl hj
        rw [bnd_r]
        revert this
        cases lp (sgS T) T pt m q.1 (c ++ q.2 ++ [op]) with
        | inl e' => rintro ⟨X', a1, a2, a3, a4, a5⟩; exact ⟨X', a1, a2, a3, a4, cfF_t f1 (cfF_t f2 (cfF_t f3 a5))⟩
        | inr q' => rintro ⟨X', a1, a2, a3⟩; exact ⟨X', a1, a2, cfF_t f1 (cfF_t f2 (cfF_t f3 a3))⟩
    rw [h_X7_readSum_7 _ _ _ _ u3 hu3, if_pos (by omega), if_neg (by omega)]
    simp only [Int.reduceLE, reduceIte]
    rw [m1]
    simp only [Option.bind_some]
    by_cases q1 : mk T κ 43 = true
    · rw [if_pos q1, if_neg (by omega), h_X7_readSum_36 _ _ _ _ u3 hu3]
      simp only [Int.reduceLE, reduceIte]
      rw [m1]
      simp only [Option.bind_some]
      rw [if_pos q1, if_neg (by omega)]
      exact go 10008 (by unfold sgS; rw [if_pos q1]) (by omega)
    · rw [if_neg q1, if_pos rfl, m2]
      simp only [Option.bind_some]
      by_cases q2 : mk T κ 45 = true
      · rw [if_pos q2, if_neg (by omega), h_X7_readSum_36 _ _ _ _ u3 hu3]
        simp only [Int.reduceLE, reduceIte]
        rw [m1]
        simp only [Option.bind_some]
        rw [if_neg q1, if_pos rfl]
        exact go 10009 (by unfold sgS; rw [if_neg q1, if_pos q2]) (by omega)
      · rw [if_neg q2, if_pos rfl, h_X7_readSum_75 _ _ _ _ u3 hu3, if_neg (by omega), if_pos rfl]
        have : sgS T κ = -1 := by unfold sgS; rw [if_neg q1, if_neg q2]
        unfold lp
        rw [if_pos this]
        exact ⟨X, rfl, h, cfF_r z X⟩
theorem s_readSum (d : Nat) {G : jG} {T : aT} {u z : Int} {r H : Nat} {pt : aK → rs} (hR : RG G) (hT : okT T) (hp : ∀ κ, inT T κ → gdR T u H 0 κ (pt κ)) (IH : pcP T u G z 113 (d + 3) r pt) : pcP T u G z 112 (d + 4) r (lev (sgS T) T pt) := by
  intro X κ C h hl
  have hI := IH X κ C h hl
  have hgp := hp κ h.2.2.1
  unfold lev
  rw [e_X7_readSum]
  simp only [Int.reduceLE, reduceIte]
  cases e : pt κ with
  | inl e' =>
    rw [e] at hI
    obtain ⟨X2, e2, b1, b2, b3, f2⟩ := hI
    rw [e2]
    simp only [Option.bind_some]
    exact ⟨X2, by rw [h_X7_readSum_7 _ _ _ _ (2, -1) (Or.inl rfl), if_pos (by omega), if_pos rfl, h_X7_readSum_75 _ _ _ _ (2, -1) (Or.inl rfl), if_pos rfl], b1, b2, b3, f2⟩
  | inr q =>
    rw [e] at hI hgp
    obtain ⟨X2, e2, k2, f2⟩ := hI
    rw [e2, bnd_r]
    simp only [Option.bind_some]
    have := s_readSum_n d hR hT hp IH 1600 X2 q.1 κ C q.2 0 (2, -1) (Or.inl rfl) (by omega) (by omega) k2 hl (gd_H (by omega) hgp)
    revert this
    cases lp (sgS T) T pt 1600 q.1 q.2 with
    | inl e' => rintro ⟨X', a1, a2, a3, a4, a5⟩; exact ⟨X', a1, a2, a3, a4, cfF_t f2 a5⟩
    | inr q' => rintro ⟨X', a1, a2, a3⟩; exact ⟨X', a1, a2, cfF_t f2 a3⟩
theorem s_readBoth_n (d : Nat) {G : jG} {T : aT} {u z : Int} {r H : Nat} {pt : aK → rs} (hR : RG G) (hT : okT T) (hp : ∀ κ, inT T κ → gdR T u H 1 κ (pt κ)) (IH : pcP T u G z 109 (d + 3) r pt) : ∀ (m : Nat) (X : jX) (κ κ0 : aK) (C c : List Int) (v2 : Int), 0 ≤ v2 → v2 + m = 1600 → cS X T u κ r z (C ++ c) → z + C.length ≤ κ0.1 → gdR T u (H + 1) 1 κ0 (.inr (κ, c)) → cRs G X T u r z C (jN (d + 3) 108 7 [(17, 28), (0, 1), (0, v2)] [] (G, X)) (lp (sgB T) T pt m κ c) := by
  intro m
  have hT1 := hT.2.1
  induction m with
  | zero =>
    intro X κ κ0 C c v2 h0 hv h hl hg
    exact ⟨X, by rw [h_X7_readBoth_7, if_neg (by omega), if_neg (by omega), if_pos rfl], h, cfF_r z X⟩
  | succ m ih =>
    intro X κ κ0 C c v2 h0 hv h hl hg
    have m1 := s_wordHere (d + 1) hR hT h.1 h.2.1 h.2.2.1
    have hg2 : κ0.1 + c.length ≤ κ.1 := hg.2.1
    rw [h_X7_readBoth_7, if_pos (by omega), if_neg (by omega)]
    simp only [Int.reduceLE, reduceIte]
    rw [m1]
    simp only [Option.bind_some]
    unfold lp
    by_cases q1 : wd T κ = 24
    · have hop : sgB T κ = 10004 := if_pos q1
      have h1 := wd_so (T := T) (κ := κ) (by omega)
      obtain ⟨s1, s2⟩ := sgO_B T κ (by rw [hop]; omega)
      have hn1 := nx_in h.2.2.1
      have hn2 := hn1.2.1 s1
      obtain ⟨X1, e1, k1, f1⟩ := cS_step (d + 1) hR hT h (by omega)
      have hI := IH X1 (nx T κ) (C ++ c) k1 (by rw [List.length_append]; omega)
      have hgp := hp (nx T κ) hn1.1
      rw [if_pos q1, hop, if_neg (by omega), e1]
      simp only [Option.bind_some]
      cases e : pt (nx T κ) with
      | inl e' =>
        rw [e] at hI
        obtain ⟨X2, e2, b1, b2, b3, f2⟩ := hI
        obtain ⟨X3, e3, _, g3, g4, f3⟩ := s_emit (d + 2) hR 10004 (X2 28 3) rfl (by have := h.2.2.2.2.2.2.2; omega)
        rw [e2]
        simp only [Option.bind_some]
        rw [e3]
        simp only [Option.bind_some]
        refine ⟨X3, ?_, by rw [g3 9 (by omega)]; exact b1, by rw [g3 10 (by omega)]; exact b2, by omega, cfF_t f1 (cfF_t f2 (f3 z (by omega)))⟩
        rw [h_X7_readBoth_7]
        by_cases y : jadd v2 1 < 1600
        · rw [if_pos y, if_pos rfl, if_pos rfl]
        · rw [if_neg y, if_pos rfl]
      | inr q =>
        rw [e] at hI hgp
        obtain ⟨X2, e2, k2, f2⟩ := hI
        have hq : (nx T κ).1 + q.2.length ≤ q.1.1 := hgp.2.1
        have hqT : q.1.1 ≤ T.1 := hgp.1.2
        have hj := gd_join (op := 10004) (by rw [← hop]; exact s2) hg hn2 hgp
        obtain ⟨X3, e3, k3, f3⟩ := cS_emit (d + 2) hR 10004 10004 (toC_id (by omega)) k2 (by rw [List.length_append, List.length_append]; omega)
        rw [e2]
        simp only [Option.bind_some]
        rw [e3]
        simp only [Option.bind_some]
        rw [jadd_id (by omega) (by omega)]
        rw [show C ++ c ++ q.2 ++ [10004] = C ++ (c ++ q.2 ++ [10004]) by simp only [List.append_assoc]] at k3
        have := ih X3 q.1 κ0 C (c ++ q.2 ++ [10004]) (v2 + 1) (by omega) (by omega) k3 hl hj
        rw [bnd_r]
        revert this
        cases lp (sgB T) T pt m q.1 (c ++ q.2 ++ [10004]) with
        | inl e' => rintro ⟨X', a1, a2, a3, a4, a5⟩; exact ⟨X', a1, a2, a3, a4, cfF_t f1 (cfF_t f2 (cfF_t f3 a5))⟩
        | inr q' => rintro ⟨X', a1, a2, a3⟩; exact ⟨X', a1, a2, cfF_t f1 (cfF_t f2 (cfF_t f3 a3))⟩
    · have hop : sgB T κ = -1 := if_neg q1
      rw [if_neg q1, if_neg (show ¬ (1 : Int) = 0 by omega), if_pos hop]
      exact ⟨X, rfl, h, cfF_r z X⟩
theorem s_readBoth (d : Nat) {G : jG} {T : aT} {u z : Int} {r H : Nat} {pt : aK → rs} (hR : RG G) (hT : okT T) (hp : ∀ κ, inT T κ → gdR T u H 1 κ (pt κ)) (IH : pcP T u G z 109 (d + 3) r pt) : pcP T u G z 108 (d + 4) r (lev (sgB T) T pt) := by
  intro X κ C h hl
  have hI := IH X κ C h hl
  have hgp := hp κ h.2.2.1
  unfold lev
  rw [e_X7_readBoth]
  simp only [Int.reduceLE, reduceIte]
  cases e : pt κ with
  | inl e' =>
    rw [e] at hI
    obtain ⟨X2, e2, b1, b2, b3, f2⟩ := hI
    rw [e2]
    simp only [Option.bind_some]
    exact ⟨X2, by rw [h_X7_readBoth_7, if_pos (by omega), if_pos rfl, if_pos rfl], b1, b2, b3, f2⟩
  | inr q =>
    rw [e] at hI hgp
    obtain ⟨X2, e2, k2, f2⟩ := hI
    rw [e2, bnd_r]
    simp only [Option.bind_some]
    have := s_readBoth_n d hR hT hp IH 1600 X2 q.1 κ C q.2 0 (by omega) (by omega) k2 hl (gd_H (by omega) hgp)
    revert this
    cases lp (sgB T) T pt 1600 q.1 q.2 with
    | inl e' => rintro ⟨X', a1, a2, a3, a4, a5⟩; exact ⟨X', a1, a2, a3, a4, cfF_t f2 a5⟩
    | inr q' => rintro ⟨X', a1, a2, a3⟩; exact ⟨X', a1, a2, cfF_t f2 a3⟩
theorem s_readTest_n (d : Nat) {G : jG} {T : aT} {u z : Int} {r H : Nat} {pt : aK → rs} (hR : RG G) (hT : okT T) (hp : ∀ κ, inT T κ → gdR T u H 1 κ (pt κ)) (IH : pcP T u G z 108 (d + 3) r pt) : ∀ (m : Nat) (X : jX) (κ κ0 : aK) (C c : List Int) (v2 : Int), 0 ≤ v2 → v2 + m = 1600 → cS X T u κ r z (C ++ c) → z + C.length ≤ κ0.1 → gdR T u (H + 1) 1 κ0 (.inr (κ, c)) → cRs G X T u r z C (jN (d + 3) 107 7 [(17, 28), (0, 1), (0, v2)] [] (G, X)) (lp (sgT T) T pt m κ c) := by
  intro m
  have hT1 := hT.2.1
  induction m with
  | zero =>
    intro X κ κ0 C c v2 h0 hv h hl hg
    exact ⟨X, by rw [h_X7_readTest_7, if_neg (by omega), if_neg (by omega), if_pos rfl], h, cfF_r z X⟩
  | succ m ih =>
    intro X κ κ0 C c v2 h0 hv h hl hg
    have m1 := s_wordHere (d + 1) hR hT h.1 h.2.1 h.2.2.1
    have hg2 : κ0.1 + c.length ≤ κ.1 := hg.2.1
    rw [h_X7_readTest_7, if_pos (by omega), if_neg (by omega)]
    simp only [Int.reduceLE, reduceIte]
    rw [m1]
    simp only [Option.bind_some]
    unfold lp
    by_cases q1 : wd T κ = 23
    · have hop : sgT T κ = 10003 := if_pos q1
      have h1 := wd_so (T := T) (κ := κ) (by omega)
      obtain ⟨s1, s2⟩ := sgO_T T κ (by rw [hop]; omega)
      have hn1 := nx_in h.2.2.1
      have hn2 := hn1.2.1 s1
      obtain ⟨X1, e1, k1, f1⟩ := cS_step (d + 1) hR hT h (by omega)
      have hI := IH X1 (nx T κ) (C ++ c) k1 (by rw [List.length_append]; omega)
      have hgp := hp (nx T κ) hn1.1
      rw [if_pos q1, hop, if_neg (by omega), e1]
      simp only [Option.bind_some]
      cases e : pt (nx T κ) with
      | inl e' =>
        rw [e] at hI
        obtain ⟨X2, e2, b1, b2, b3, f2⟩ := hI
        obtain ⟨X3, e3, _, g3, g4, f3⟩ := s_emit (d + 2) hR 10003 (X2 28 3) rfl (by have := h.2.2.2.2.2.2.2; omega)
        rw [e2]
        simp only [Option.bind_some]
        rw [e3]
        simp only [Option.bind_some]
        refine ⟨X3, ?_, by rw [g3 9 (by omega)]; exact b1, by rw [g3 10 (by omega)]; exact b2, by omega, cfF_t f1 (cfF_t f2 (f3 z (by omega)))⟩
        rw [h_X7_readTest_7]
        by_cases y : jadd v2 1 < 1600
        · rw [if_pos y, if_pos rfl, if_pos rfl]
        · rw [if_neg y, if_pos rfl]
      | inr q =>
        rw [e] at hI hgp
        obtain ⟨X2, e2, k2, f2⟩ := hI
        have hq : (nx T κ).1 + q.2.length ≤ q.1.1 := hgp.2.1
        have hqT : q.1.1 ≤ T.1 := hgp.1.2
        have hj := gd_join (op := 10003) (by rw [← hop]; exact s2) hg hn2 hgp
        obtain ⟨X3, e3, k3, f3⟩ := cS_emit (d + 2) hR 10003 10003 (toC_id (by omega)) k2 (by rw [List.length_append, List.length_append]; omega)
        rw [e2]
        simp only [Option.bind_some]
        rw [e3]
        simp only [Option.bind_some]
        rw [jadd_id (by omega) (by omega)]
        rw [show C ++ c ++ q.2 ++ [10003] = C ++ (c ++ q.2 ++ [10003]) by simp only [List.append_assoc]] at k3
        have := ih X3 q.1 κ0 C (c ++ q.2 ++ [10003]) (v2 + 1) (by omega) (by omega) k3 hl hj
        rw [bnd_r]
        revert this
        cases lp (sgT T) T pt m q.1 (c ++ q.2 ++ [10003]) with
        | inl e' => rintro ⟨X', a1, a2, a3, a4, a5⟩; exact ⟨X', a1, a2, a3, a4, cfF_t f1 (cfF_t f2 (cfF_t f3 a5))⟩
        | inr q' => rintro ⟨X', a1, a2, a3⟩; exact ⟨X', a1, a2, cfF_t f1 (cfF_t f2 (cfF_t f3 a3))⟩
    · have hop : sgT T κ = -1 := if_neg q1
      rw [if_neg q1, if_neg (show ¬ (1 : Int) = 0 by omega), if_pos hop]
      exact ⟨X, rfl, h, cfF_r z X⟩
theorem s_readTest (d : Nat) {G : jG} {T : aT} {u z : Int} {r H : Nat} {pt : aK → rs} (hR : RG G) (hT : okT T) (hp : ∀ κ, inT T κ → gdR T u H 1 κ (pt κ)) (IH : pcP T u G z 108 (d + 3) r pt) : pcP T u G z 107 (d + 4) r (lev (sgT T) T pt) := by
  intro X κ C h hl
  have hI := IH X κ C h hl
  have hgp := hp κ h.2.2.1
  unfold lev
  rw [e_X7_readTest]
  simp only [Int.reduceLE, reduceIte]
  cases e : pt κ with
  | inl e' =>
    rw [e] at hI
    obtain ⟨X2, e2, b1, b2, b3, f2⟩ := hI
    rw [e2]
    simp only [Option.bind_some]
    exact ⟨X2, by rw [h_X7_readTest_7, if_pos (by omega), if_pos rfl, if_pos rfl], b1, b2, b3, f2⟩
  | inr q =>
    rw [e] at hI hgp
    obtain ⟨X2, e2, k2, f2⟩ := hI
    rw [e2, bnd_r]
    simp only [Option.bind_some]
    have := s_readTest_n d hR hT hp IH 1600 X2 q.1 κ C q.2 0 (by omega) (by omega) k2 hl (gd_H (by omega) hgp)
    revert this
    cases lp (sgT T) T pt 1600 q.1 q.2 with
    | inl e' => rintro ⟨X', a1, a2, a3, a4, a5⟩; exact ⟨X', a1, a2, a3, a4, cfF_t f2 a5⟩
    | inr q' => rintro ⟨X', a1, a2, a3⟩; exact ⟨X', a1, a2, cfF_t f2 a3⟩
