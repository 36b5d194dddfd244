theorem QE_go {d : Nat} {w : Int} {G : jG} {X Y : jX} (h : jD (d + 5) 305 [(22, 149)] (G, X) = jD (d + 5) 305 [(22, 149)] (G, Y)) : QE d w G X = QE d w G Y := by unfold QE; rw [h]
theorem QE_st {d : Nat} {w : Int} {G : jG} {X : jX} (h : jD (d + 5) 305 [(22, 149)] (G, X) = some (0, (G, X))) : QE d w G X = QG d w G X := by unfold QE; rw [h]; rfl
/-- what may lie on top while a part is read: tubs, then something else -/
def stk (b : Int) (r : Nat) (W : List Int) : Prop := ∃ (k : Nat) (V : List Int), W = List.replicate k 60 ++ V ∧ b ≤ V.length ∧ (V.length = b ∨ V.headD 0 < 60) ∧ r + k ≤ 6
theorem stk_60 {b : Int} {r : Nat} {W : List Int} (h : stk b (r + 1) W) : stk b r (60 :: W) := by
  obtain ⟨k, V, e, h1, h2, h3⟩ := h
  exact ⟨k + 1, V, by rw [e]; rfl, h1, h2, by omega⟩
theorem stk_c {b x : Int} {r : Nat} {W : List Int} (hb : b ≤ W.length) (hx : x < 60) (hr : r ≤ 6) : stk b r (x :: W) := ⟨0, x :: W, rfl, by rw [List.length_cons]; omega, Or.inr hx, by omega⟩
theorem stk_b {b : Int} {r : Nat} {W : List Int} (hb : W.length = b) (hr : r ≤ 6) : stk b r W := ⟨0, W, rfl, by omega, Or.inl hb, by omega⟩
theorem stk_l {b : Int} {r : Nat} {W : List Int} (h : stk b r W) : b ≤ W.length := by
  obtain ⟨k, V, e, h1, h2, h3⟩ := h
  rw [e, List.length_append]; omega
theorem t_ends (d : Nat) {G : jG} {T : aT} {u : Int} {κ : aK} {b : Int} (hG : GG G) (b0 : 0 ≤ b) : ∀ (k : Nat) (X : jX) (r : Nat) (V C : List Int), mS X T u κ r (List.replicate k 60 ++ V) b C → b ≤ V.length → (V.length = b ∨ V.headD 0 < 60) → r + k ≤ 6 → C.length + k < 1690 → k + V.length < 1590 → ∃ Y, jD (d + 5) 305 [(22, 149)] (G, X) = some (0, (G, Y)) ∧ Y 149 5 = 0 := by
  intro k
  induction k with
  | zero =>
    intro X r V C h h1 h2 hr hc hw
    have h' : mS X T u κ r V b C := h
    exact ⟨X, QE_stop d hG h' (by omega) b0 h2, h.2.2.1.1⟩
  | succ k ih =>
    intro X r V C h h1 h2 hr hc hw
    have h' : mS X T u κ r (60 :: (List.replicate k 60 ++ V)) b C := h
    have hl : (List.replicate k 60 ++ V).length = k + V.length := by rw [List.length_append, List.length_replicate]
    obtain ⟨Y, e, m, _⟩ := QE_pop d hG h' (by omega) (by omega) (by omega) (by omega)
    obtain ⟨Z, e2, z⟩ := ih Y (r + 1) V (C ++ [10002]) m h1 h2 (by omega) (by rw [List.length_append, List.length_singleton]; omega) (by omega)
    exact ⟨Z, by rw [e, e2], z⟩
/-- behind a part that a word or number is -/
theorem QE_eq (d : Nat) {w : Int} {G : jG} {X : jX} {T : aT} {u : Int} {κ : aK} {r : Nat} {W : List Int} {b : Int} {C : List Int} (hG : GG G) (h : mS X T u κ r W b C) (b0 : 0 ≤ b) (hs : stk b r W) (hc : C.length < 1670) (hw : W.length < 1500) : ((jD (d + 5) 305 [(22, 149)] (G, X)).bind fun q2 => some ((0 : Int), (q2.2.1, q2.2.2))).bind (KP d w) = QE d w G X := by
  obtain ⟨k, V, e, h1, h2, hk'⟩ := hs
  rw [e] at h hw
  rw [List.length_append, List.length_replicate] at hw
  obtain ⟨Y, e1, h5⟩ := t_ends d hG b0 k X r V C h h1 h2 hk' (by omega) (by omega)
  unfold QE KP QG
  rw [e1]
  simp only [Option.bind_some]
  rw [if_pos h5, e_X12_qGoesOn]
theorem tk_lk (X : jX) (T : aT) (κ : aK) : tk (lk X κ) T κ = tk X T κ := by unfold tk; rw [lk_lk]
theorem fl_lk (X : jX) (κ : aK) (v s : Int) : fl (lk X κ) κ v s = fl X κ v s := by unfold fl; rw [lk_lk]
theorem tk_sign {X : jX} {T : aT} {κ : aK} {c : Int} (hT : okT T) (hB : mB X T) (hi : inT T κ) (hc : c < 48 ∨ (57 < c ∧ c < 97) ∨ 122 < c) (h : mk T κ c = true) : jsub (tk X T κ 149 2) 1 = κ.1 ∧ 0 ≤ κ.1 ∧ κ.1 < 1600 ∧ tk X T κ 150 κ.1 = c := by
  have h3 := mk_s3 hc h
  have h4 := mk_iff.1 h
  have := hi.1
  have := hT.2.1
  refine ⟨?_, hi.1, by omega, ?_⟩
  · rw [tk_2 h3, jsub_id (by omega) (by omega)]; omega
  · rw [(tk_0 X T κ).1 150 (by omega), hB.1.2 κ.1 hi.1 h4.1]; exact h4.2
/-- times, by -/
theorem g_mul (d : Nat) {G : jG} {X : jX} {T : aT} {u : Int} {κ : aK} {r : Nat} {W l : List Int} {b op : Int} {C : List Int} (hG : GG G) (hT : okT T) (h : mS X T u κ r (l.map toM ++ W) b C) (hl : ∀ o ∈ l, o = 10010 ∨ o = 10011) (hW : W.headD 0 ≠ 3 ∧ W.headD 0 ≠ 4) (hop : sgP T κ = op) (hop1 : op ≠ -1) (hc : C.length + l.length ≤ 1700) (hw : l.length + W.length ≤ 1599) : ∃ Y, jN (d + 5) 307 122 [(22, 149), (2, (-1))] [] (G, lk X κ) = some (1, (G, Y)) ∧ mS Y T u (nx T κ) r (toM op :: W) b (C ++ l) ∧ mfQ X Y := by
  have hk := mS_lk h
  have hi := mS_in h
  have e42 := t_takesSign (d + 3) (c := 42) hG hT hk.1 hk.2.1 hk.2.2.1.1 (by omega) (by omega)
  have e47 := t_takesSign (d + 3) (c := 47) hG hT hk.1 hk.2.1 hk.2.2.1.1 (by omega) (by omega)
  rw [tk_lk, lk_lk] at e42 e47
  have fin : ∀ c v : Int, (c = 42 ∧ v = 3 ∨ c = 47 ∧ v = 4) → mk T κ c = true → toM op = v → ∃ Y, jN (d + 5) 307 140 [(22, 149), (2, (-1))] [] (G, tk X T κ) = some (1, (G, Y)) ∧ mS Y T u (nx T κ) r (toM op :: W) b (C ++ l) ∧ mfQ X Y := fun c v hcv hm hv => by
    have hs3 := mk_s3 (by omega) hm
    obtain ⟨s1, s2, s3, s4⟩ := tk_sign (X := X) hT h.1 hi (by omega) hm
    obtain ⟨Y, e, k, f⟩ := g_162 (d + 3) (κ := nx T κ) hG v hW l (tk X T κ) C hl (mS_tk (by omega) h) hc hw
    rw [hv]
    refine ⟨Y, ?_, k, mfQ_t (mfQ_0 (tk_0 X T κ)) f⟩
    rw [h_X12_qGoesOn_140, s1, gr_149_0 hG, gl_150 hG, s4]
    simp only [if_pos s2, if_pos s3, Int.reduceLE, reduceIte]
    rcases hcv with ⟨rfl, rfl⟩ | ⟨rfl, rfl⟩
    · rw [if_pos rfl, h_X12_qGoesOn_161]; exact e
    · rw [if_neg (by omega), h_X12_qGoesOn_161]; exact e
  rw [h_X12_qGoesOn_122]
  simp only [Int.reduceLE, reduceIte]
  unfold sgP at hop
  by_cases q1 : mk T κ 42 = true
  · rw [if_pos q1] at hop e42
    rw [e42]
    simp only [Option.bind_some]
    rw [if_neg (by omega)]
    exact fin 42 3 (Or.inl ⟨rfl, rfl⟩) q1 (by rw [← hop]; rfl)
  · rw [if_neg q1] at hop e42
    by_cases q2 : mk T κ 47 = true
    · rw [if_pos q2] at hop e47
      rw [e42]
      simp only [Option.bind_some, reduceIte]
      rw [e47]
      simp only [Option.bind_some]
      rw [if_neg (by omega)]
      exact fin 47 4 (Or.inr ⟨rfl, rfl⟩) q2 (by rw [← hop]; rfl)
    · rw [if_neg q2] at hop
      exact absurd hop.symm hop1
theorem sgP_n {T : aT} {κ : aK} (h : sgP T κ = -1) : ¬ mk T κ 42 = true ∧ ¬ mk T κ 47 = true := by
  unfold sgP at h
  constructor
  · intro q; rw [if_pos q] at h; omega
  · intro q
    by_cases q1 : mk T κ 42 = true
    · rw [if_pos q1] at h; omega
    · rw [if_neg q1, if_pos q] at h; omega
theorem sgS_n {T : aT} {κ : aK} (h : sgS T κ = -1) : ¬ mk T κ 43 = true ∧ ¬ mk T κ 45 = true := by
  unfold sgS at h
  constructor
  · intro q; rw [if_pos q] at h; omega
  · intro q
    by_cases q1 : mk T κ 43 = true
    · rw [if_pos q1] at h; omega
    · rw [if_neg q1, if_pos q] at h; omega
/-- plus, minus -/
theorem g_add (d : Nat) {G : jG} {X : jX} {T : aT} {u : Int} {κ : aK} {r : Nat} {W l : List Int} {b op : Int} {C : List Int} (hG : GG G) (hT : okT T) (h : mS X T u κ r (l.map toM ++ W) b C) (hl : ∀ o ∈ l, 10008 ≤ o ∧ o ≤ 10011) (hW : W.headD 0 ≠ 3 ∧ W.headD 0 ≠ 4 ∧ W.headD 0 ≠ 1 ∧ W.headD 0 ≠ 2) (hP : sgP T κ = -1) (hop : sgS T κ = op) (hop1 : op ≠ -1) (hc : C.length + l.length ≤ 1700) (hw : l.length + W.length ≤ 1599) : ∃ Y, jN (d + 5) 307 122 [(22, 149), (2, (-1))] [] (G, lk X κ) = some (1, (G, Y)) ∧ mS Y T u (nx T κ) r (toM op :: W) b (C ++ l) ∧ mfQ X Y := by
  have hk := mS_lk h
  have hi := mS_in h
  obtain ⟨p1, p2⟩ := sgP_n hP
  have e42 := t_takesSign (d + 3) (c := 42) hG hT hk.1 hk.2.1 hk.2.2.1.1 (by omega) (by omega)
  have e47 := t_takesSign (d + 3) (c := 47) hG hT hk.1 hk.2.1 hk.2.2.1.1 (by omega) (by omega)
  have e43 := t_takesSign (d + 3) (c := 43) hG hT hk.1 hk.2.1 hk.2.2.1.1 (by omega) (by omega)
  have e45 := t_takesSign (d + 3) (c := 45) hG hT hk.1 hk.2.1 hk.2.2.1.1 (by omega) (by omega)
  rw [tk_lk, lk_lk] at e42 e47 e43 e45
  rw [if_neg p1] at e42
  rw [if_neg p2] at e47
  have fin : ∀ c v : Int, (c = 43 ∧ v = 1 ∨ c = 45 ∧ v = 2) → mk T κ c = true → toM op = v → ∃ Y, jN (d + 5) 307 225 [(22, 149), (2, (-1))] [] (G, tk X T κ) = some (1, (G, Y)) ∧ mS Y T u (nx T κ) r (toM op :: W) b (C ++ l) ∧ mfQ X Y := fun c v hcv hm hv => by
    have hs3 := mk_s3 (by omega) hm
    obtain ⟨s1, s2, s3, s4⟩ := tk_sign (X := X) hT h.1 hi (by omega) hm
    obtain ⟨Y, e, k, f⟩ := g_247 (d + 3) (κ := nx T κ) hG v hW l (tk X T κ) C hl (mS_tk (by omega) h) hc hw
    rw [hv]
    refine ⟨Y, ?_, k, mfQ_t (mfQ_0 (tk_0 X T κ)) f⟩
    rw [h_X12_qGoesOn_225, s1, gr_149_0 hG, gl_150 hG, s4]
    simp only [if_pos s2, if_pos s3, Int.reduceLE, reduceIte]
    rcases hcv with ⟨rfl, rfl⟩ | ⟨rfl, rfl⟩
    · rw [if_pos rfl, h_X12_qGoesOn_246]; exact e
    · rw [if_neg (by omega), h_X12_qGoesOn_246]; exact e
  rw [h_X12_qGoesOn_122]
  simp only [Int.reduceLE, reduceIte]
  rw [e42]
  simp only [Option.bind_some, reduceIte]
  rw [e47]
  simp only [Option.bind_some, reduceIte]
  unfold sgS at hop
  by_cases q1 : mk T κ 43 = true
  · rw [if_pos q1] at hop e43
    rw [e43]
    simp only [Option.bind_some]
    rw [if_neg (by omega)]
    exact fin 43 1 (Or.inl ⟨rfl, rfl⟩) q1 (by rw [← hop]; rfl)
  · rw [if_neg q1] at hop e43
    by_cases q2 : mk T κ 45 = true
    · rw [if_pos q2] at hop e45
      rw [e43]
      simp only [Option.bind_some, reduceIte]
      rw [e45]
      simp only [Option.bind_some]
      rw [if_neg (by omega)]
      exact fin 45 2 (Or.inr ⟨rfl, rfl⟩) q2 (by rw [← hop]; rfl)
    · rw [if_neg q2] at hop
      exact absurd hop.symm hop1
/-- no sign -/
theorem g_none (d : Nat) {G : jG} {X : jX} {T : aT} {u : Int} {κ : aK} {r : Nat} {W : List Int} {b : Int} {C : List Int} (hG : GG G) (hT : okT T) (h : mS X T u κ r W b C) (hP : sgP T κ = -1) (hS : sgS T κ = -1) (b0 : 0 ≤ b) (hw : W.length < 1600) : jN (d + 5) 307 122 [(22, 149), (2, (-1))] [] (G, lk X κ) = if brk b W = 21 ∨ brk b W = 22 then jN (d + 5) 307 326 [(22, 149), (2, (-1))] [] (G, lk X κ) else if brk b W = -1 then some (0, (G, lk X κ)) else some (0, (G, fl X κ 1 κ.1)) := by
  have hk := mS_lk h
  obtain ⟨p1, p2⟩ := sgP_n hP
  obtain ⟨p3, p4⟩ := sgS_n hS
  have e42 := t_takesSign (d + 3) (c := 42) hG hT hk.1 hk.2.1 hk.2.2.1.1 (by omega) (by omega)
  have e47 := t_takesSign (d + 3) (c := 47) hG hT hk.1 hk.2.1 hk.2.2.1.1 (by omega) (by omega)
  have e43 := t_takesSign (d + 3) (c := 43) hG hT hk.1 hk.2.1 hk.2.2.1.1 (by omega) (by omega)
  have e45 := t_takesSign (d + 3) (c := 45) hG hT hk.1 hk.2.1 hk.2.2.1.1 (by omega) (by omega)
  rw [lk_lk] at e42 e47 e43 e45
  rw [if_neg p1] at e42
  rw [if_neg p2] at e47
  rw [if_neg p3] at e43
  rw [if_neg p4] at e45
  have ebr := t_qBracket (d + 3) hG hk b0 (by omega)
  rw [h_X12_qGoesOn_122]
  simp only [Int.reduceLE, reduceIte]
  rw [e42]
  simp only [Option.bind_some, reduceIte]
  rw [e47]
  simp only [Option.bind_some, reduceIte]
  rw [e43]
  simp only [Option.bind_some, reduceIte]
  rw [e45]
  simp only [Option.bind_some, reduceIte]
  rw [ebr]
  simp only [Option.bind_some]
  by_cases q1 : brk b W = 21
  · rw [if_pos q1, if_pos (Or.inl q1)]
  · rw [if_neg q1, ebr]
    simp only [Option.bind_some]
    by_cases q2 : brk b W = 22
    · rw [if_pos q2, if_pos (Or.inr q2)]
    · rw [if_neg q2, if_neg (show ¬ (brk b W = 21 ∨ brk b W = 22) by omega), ebr]
      simp only [Option.bind_some]
      by_cases q3 : brk b W = -1
      · rw [if_pos q3, if_pos q3, h_X12_qGoesOn_386]
      · rw [if_neg q3, if_neg q3, hk.2.2.1.1, lk_at, if_pos rfl, t_fail (d + 4) hk.2.2.1.1]
        simp only [Option.bind_some]
        rw [h_X12_qGoesOn_386]
        rfl
theorem g_comma (d : Nat) {G : jG} {X : jX} {T : aT} {u : Int} {κ : aK} {r : Nat} {W l : List Int} {b x : Int} {C : List Int} (hG : GG G) (hT : okT T) (h : mS X T u κ r (l.map toM ++ x :: W) b C) (ho : opL l) (b0 : 0 ≤ b) (hb : b ≤ W.length) (hx : x = 21 ∨ x = 22) (hc : C.length + l.length + 1 ≤ 1700) (hw : l.length + W.length + 1 ≤ 1599) : (mk T κ 44 = true → ∃ Y, jN (d + 5) 307 326 [(22, 149), (2, (-1))] [] (G, lk X κ) = some (1, (G, Y)) ∧ mS Y T u (nx T κ) r ((x + 2) :: W) b (C ++ l) ∧ mfQ X Y) ∧ (¬ mk T κ 44 = true → jN (d + 5) 307 326 [(22, 149), (2, (-1))] [] (G, lk X κ) = some (0, (G, fl X κ 1 κ.1))) := by
  have hk := mS_lk h
  have e := t_asksSign (d + 2) (c := 44) hG hT hk.1 hk.2.1 hk.2.2.1.1 (by omega) (by omega)
  rw [tk_lk, fl_lk] at e
  constructor
  · intro q
    rw [if_pos q] at e
    have hs3 := mk_s3 (c := 44) (by omega) q
    have htk := mS_tk (X := X) (by omega) h
    obtain ⟨Y1, e1, k1, f1, _⟩ := t_drB (d + 2) hG (W := x :: W) (Or.inr ⟨x, W, rfl, by omega, by omega⟩) b0 (by rw [List.length_cons]; omega) ho htk (by omega) (by rw [List.length_cons]; omega)
    obtain ⟨a1, a2, a3, a4, a5, a6, a7⟩ := id k1
    refine ⟨jup Y1 228 W.length (x + 2), ?_, ⟨mB_Q (mfQ_c (Or.inr rfl)) a1, mK_e (by rw [jup_rw _ _ _ _ _ (by omega)]) (by rw [jup_rw _ _ _ _ _ (by omega)]) a2, by rw [jup_rw _ _ _ _ _ (by omega)]; exact a3, ⟨by rw [jup_rw _ _ _ _ _ (by omega)]; exact a4.1, fun i hi => by rw [jup_rw _ _ _ _ _ (by omega)]; exact a4.2 i hi⟩, ⟨by rw [jup_rw _ _ _ _ _ (by omega)]; exact a5.1, jup_same _ _ _ _, pil_up (fun i i0 i1 => jup_row _ _ _ _ _ (by omega)) a5.2.2⟩, by rw [jup_rw _ _ _ _ _ (by omega)]; exact a6, by rw [jup_rw _ _ _ _ _ (by omega)]; exact a7⟩, mfQ_t (mfQ_0 (tk_0 X T κ)) (mfQ_t f1 (mfQ_c (Or.inr rfl)))⟩
    rw [h_X12_qGoesOn_326]
    simp only [Int.reduceLE, reduceIte]
    rw [e]
    simp only [Option.bind_some]
    rw [htk.2.2.1.1, if_pos rfl, e1]
    simp only [Option.bind_some]
    rw [gr_149_110 hG, gl_228 hG, a5.1, List.length_cons, jsub_id (by omega) (by omega), show ((W.length + 1 : Nat) : Int) - 1 = W.length by omega, a5.2.1, jadd_id (by omega) (by omega)]
    simp only [if_pos (show (0 : Int) ≤ (W.length : Int) by omega), if_pos (show (W.length : Int) < 1700 by omega), Int.reduceLE, reduceIte]
  · intro q
    rw [if_neg q] at e
    rw [h_X12_qGoesOn_326]
    simp only [Int.reduceLE, reduceIte]
    rw [e]
    simp only [Option.bind_some]
    rw [(fl_5 X κ 1 κ.1).1, if_neg (by omega)]
