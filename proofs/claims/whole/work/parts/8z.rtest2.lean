theorem t_nots_n (d : Nat) {G : jG} {T : aT} {u : Int} {κ : aK} {V : List Int} {b : Int} (hG : GG G) (hV : V.headD 0 ≠ 12) : ∀ (k : Nat) (X : jX) (r : Nat) (C : List Int), mS X T u κ r (List.replicate k 12 ++ V) b C → r + k ≤ 6 → C.length + k ≤ 1690 → k + V.length ≤ 1590 → ∃ Y, jN (d + 2) 311 0 [(22, 149)] [] (G, X) = some (0, (G, Y)) ∧ mS Y T u κ (r + k) V b (C ++ List.replicate k 10001) ∧ mfQ X Y := by
  intro k
  induction k with
  | zero =>
    intro X r C h hr hc hw
    have h' : mS X T u κ r V b C := h
    have e := t_qIsOn (d + 1) hG 12 h' (by omega)
    rw [if_neg (fun y => hV y.2)] at e
    refine ⟨X, ?_, by rw [Nat.add_zero]; show mS X T u κ r V b (C ++ []); rw [List.append_nil]; exact h', mfQ_r X⟩
    rw [h_X12_qDropsNots_0, h'.2.2.1.1]
    simp only [Int.reduceLE, reduceIte]
    rw [e]
    simp only [Option.bind_some, reduceIte]
  | succ k ih =>
    intro X r C h hr hc hw
    have h' : mS X T u κ r (toM 10001 :: (List.replicate k 12 ++ V)) b C := h
    have hl : (List.replicate k 12 ++ V).length = k + V.length := by rw [List.length_append, List.length_replicate]
    obtain ⟨a1, a2, a3, a4, a5, a6, a7⟩ := id h'
    have h2 : mS (jup X 149 112 (6 - ((r + 1 : Nat) : Int))) T u κ (r + 1) (toM 10001 :: (List.replicate k 12 ++ V)) b C := ⟨mB_Q (mfQ_u (by omega)) a1, mK_e (jup_row _ _ _ _ _ (by omega)) (jup_row _ _ _ _ _ (by omega)) a2, ⟨by rw [jup_row _ _ _ _ _ (by omega)]; exact a3.1, by rw [jup_row _ _ _ _ _ (by omega)]; exact a3.2.1, by rw [jup_row _ _ _ _ _ (by omega)]; exact a3.2.2⟩, ⟨by rw [jup_row _ _ _ _ _ (by omega)]; exact a4.1, fun i hi => by rw [jup_rw _ _ _ _ _ (by omega)]; exact a4.2 i hi⟩, ⟨by rw [jup_row _ _ _ _ _ (by omega)]; exact a5.1, by rw [jup_rw _ _ _ _ _ (by omega)]; exact a5.2⟩, ⟨by rw [jup_same], by omega⟩, by rw [jup_row _ _ _ _ _ (by omega)]; exact a7⟩
    have e := (t_qOnC (d + 1) hG 12 h' (by omega)).1 rfl
    obtain ⟨Y1, e1, k1, f1, _⟩ := t_qDrops d hG 10001 h2 (by omega) (by omega)
    obtain ⟨Y, e2, k2, f2⟩ := ih Y1 (r + 1) (C ++ [10001]) k1 (by omega) (by rw [List.length_append, List.length_singleton]; omega) (by omega)
    refine ⟨Y, ?_, ?_, mfQ_t (mfQ_u (by omega)) (mfQ_t f1 f2)⟩
    · rw [h_X12_qDropsNots_0, a3.1]
      simp only [Int.reduceLE, reduceIte]
      rw [e]
      simp only [Option.bind_some]
      rw [if_neg (by omega), a6.1, jsub_id (by omega) (by omega), show 6 - (r : Int) - 1 = 6 - ((r + 1 : Nat) : Int) by omega, e1]
      simp only [Option.bind_some]
      exact e2
    · rw [show r + 1 + k = r + (k + 1) by omega, show C ++ [10001] ++ List.replicate k 10001 = C ++ List.replicate (k + 1) 10001 by rw [List.append_assoc]; rfl] at k2
      exact k2
theorem t_nots (d : Nat) {G : jG} {X : jX} {T : aT} {u : Int} {κ : aK} {k r : Nat} {V : List Int} {b : Int} {C : List Int} (hG : GG G) (hV : V.headD 0 ≠ 12) (h : mS X T u κ r (List.replicate k 12 ++ V) b C) (hr : r + k ≤ 6) (hc : C.length + k ≤ 1690) (hw : k + V.length ≤ 1590) : ∃ Y, jD (d + 3) 311 [(22, 149)] (G, X) = some (0, (G, Y)) ∧ mS Y T u κ (r + k) V b (C ++ List.replicate k 10001) ∧ mfQ X Y := by
  rw [e_X12_qDropsNots]
  exact t_nots_n d hG hV k X r C h hr hc hw
theorem pil_mem {row : Int → Int} {x : Int} : ∀ {W : List Int}, pil row W → ((∃ j : Nat, j < W.length ∧ row j = x) ↔ x ∈ W)
  | [], _ => ⟨fun ⟨j, h, _⟩ => absurd h (Nat.not_lt_zero j), fun h => absurd h List.not_mem_nil⟩
  | y :: W, h => by
    rw [List.mem_cons, ← pil_mem h.2]
    constructor
    · rintro ⟨j, hj, e⟩
      rw [List.length_cons] at hj
      by_cases q : j = W.length
      · rw [q, h.1] at e; exact Or.inl e.symm
      · exact Or.inr ⟨j, by omega, e⟩
    · rintro (e | ⟨j, hj, e⟩)
      · exact ⟨W.length, by rw [List.length_cons]; omega, by rw [h.1]; exact e.symm⟩
      · exact ⟨j, by rw [List.length_cons]; omega, e⟩
theorem t_sq_n (d : Nat) {G : jG} {X : jX} (hG : GG G) (n : Nat) (hn : X 149 111 = n) (h7 : n < 1700) : ∀ (m i : Nat), i + m = n → ((∃ j : Nat, i ≤ j ∧ j < n ∧ X 228 j = 25) → jN d 310 2 [(22, 149), (0, (i : Int))] [] (G, X) = some (1, (G, X))) ∧ (¬ (∃ j : Nat, i ≤ j ∧ j < n ∧ X 228 j = 25) → jN d 310 2 [(22, 149), (0, (i : Int))] [] (G, X) = some (0, (G, X))) := by
  intro m
  induction m with
  | zero =>
    intro i hi
    refine ⟨fun ⟨j, h1, h2, _⟩ => by omega, fun _ => ?_⟩
    rw [h_X12_qHasSquare_2, hn]
    simp only [Int.reduceLE, reduceIte]
    rw [if_neg (by omega)]
  | succ m ih =>
    intro i hi
    have ih' := ih (i + 1) (by omega)
    have st : jN d 310 2 [(22, 149), (0, (i : Int))] [] (G, X) = if X 228 i = 25 then some (1, (G, X)) else jN d 310 2 [(22, 149), (0, ((i + 1 : Nat) : Int))] [] (G, X) := by
      rw [h_X12_qHasSquare_2, hn, gr_149_110 hG, gl_228 hG, jadd_id (by omega) (by omega), show (i : Int) + 1 = ((i + 1 : Nat) : Int) by omega]
      simp only [if_pos (show (i : Int) < (n : Int) by omega), if_pos (show (0 : Int) ≤ (i : Int) by omega), if_pos (show (i : Int) < 1700 by omega), Int.reduceLE, reduceIte]
    rw [st]
    by_cases q : X 228 i = 25
    · rw [if_pos q]
      exact ⟨fun _ => rfl, fun y => absurd ⟨i, Nat.le_refl i, by omega, q⟩ y⟩
    · rw [if_neg q]
      constructor
      · rintro ⟨j, h1, h2, h3⟩
        refine ih'.1 ⟨j, ?_, h2, h3⟩
        by_cases y : j = i
        · rw [y] at h3; exact absurd h3 q
        · omega
      · intro y
        exact ih'.2 (fun ⟨j, h1, h2, h3⟩ => y ⟨j, by omega, h2, h3⟩)
theorem t_sq (d : Nat) {G : jG} {X : jX} {T : aT} {u : Int} {κ : aK} {r : Nat} {W : List Int} {b : Int} {C : List Int} (hG : GG G) (h : mS X T u κ r W b C) (hw : W.length < 1600) : (25 ∈ W → jD (d + 1) 310 [(22, 149)] (G, X) = some (1, (G, X))) ∧ (25 ∉ W → jD (d + 1) 310 [(22, 149)] (G, X) = some (0, (G, X))) := by
  have e := t_sq_n d (X := X) hG W.length h.2.2.2.2.1.1 (by omega) W.length 0 (by omega)
  have hm := pil_mem (x := 25) h.2.2.2.2.1.2
  rw [e_X12_qHasSquare]
  constructor
  · intro q
    obtain ⟨j, h1, h2⟩ := hm.2 q
    exact e.1 ⟨j, Nat.zero_le j, h1, h2⟩
  · intro q
    exact e.2 (fun ⟨j, h1, h2, h3⟩ => q (hm.1 ⟨j, h2, h3⟩))
noncomputable def KT (d : Nat) (c : Int) (q : Int × jS) : jR := if q.1 = 0 then jN (d + 8) 312 2 [(22, 149), (0, 0), (0, c)] [] (q.2.1, q.2.2) else jN (d + 8) 312 2 [(22, 149), (0, 1), (0, c)] [] (q.2.1, q.2.2)
noncomputable def TG (d : Nat) (c : Int) (G : jG) (X : jX) : jR := (jN (d + 7) 313 0 [(22, 149)] [] (G, X)).bind (KT d c)
noncomputable def QT (d : Nat) (G : jG) (u2 : jV) (X : jX) : jR := jN (d + 8) 312 2 [(22, 149), (0, 1), u2] [] (G, X)
theorem QT_bad (d : Nat) {G : jG} {X : jX} (h5 : X 149 5 ≠ 0) (v : Int) {u2 : jV} (hu2 : u2.1 = 2 ∨ u2.1 = 0) : jN (d + 8) 312 2 [(22, 149), (0, v), u2] [] (G, X) = some (0, (G, X)) := by
  have e : jN (d + 8) 312 110 [(22, 149), (0, v), u2] [] (G, X) = some (0, (G, X)) := by
    rw [h_X12_qTest_110 _ _ _ u2 hu2]
    simp only [if_neg h5, Int.reduceLE, reduceIte]
  rw [h_X12_qTest_2 _ _ _ u2 hu2]
  by_cases q : v = 0
  · rw [if_pos q]; exact e
  · rw [if_neg q]
    simp only [if_neg h5, Int.reduceLE, reduceIte]
    exact e
theorem TG_1 {d : Nat} {c : Int} {G : jG} {X Y : jX} (h : jN (d + 7) 313 0 [(22, 149)] [] (G, X) = some (1, (G, Y))) : TG d c G X = QT d G (0, c) Y := by
  unfold TG KT QT
  rw [h]
  simp only [Option.bind_some]
  rw [if_neg (by omega)]
theorem TG_f {d : Nat} {c : Int} {G : jG} {X Y : jX} (h : jN (d + 7) 313 0 [(22, 149)] [] (G, X) = some (0, (G, Y))) (h5 : Y 149 5 ≠ 0) : TG d c G X = some (0, (G, Y)) := by
  unfold TG KT
  rw [h]
  simp only [Option.bind_some, reduceIte]
  exact QT_bad d h5 0 (Or.inr rfl)
/-- no closing: on to and, or -/
theorem k_76 (d : Nat) {G : jG} {X : jX} {T : aT} {u : Int} {κ : aK} {r : Nat} {W : List Int} {b : Int} {C : List Int} (hG : GG G) (hT : okT T) (h : mS X T u κ r W b C) (hw : W.length < 1600) (hn : mk T κ 93 = true → 25 ∉ W) : jN (d + 7) 313 0 [(22, 149)] [] (G, X) = jN (d + 7) 313 76 [(22, 149)] [] (G, lk X κ) := by
  rw [h_X12_qGoesOnTest_0, h.2.2.1.1]
  simp only [Int.reduceLE, reduceIte]
  rw [t_look (d + 6) hG hT h.1 h.2.1]
  simp only [Option.bind_some]
  by_cases q : mk T κ 93 = true
  · rw [if_pos ((tat_mk (mS_in h) (by omega)).2 q), (t_sq (d + 6) hG (mS_lk h) hw).2 (hn q)]
    simp only [Option.bind_some, reduceIte]
  · rw [if_neg (fun y => q ((tat_mk (mS_in h) (by omega)).1 y))]
theorem k_87 (d : Nat) {G : jG} {T : aT} {u : Int} {κ : aK} {r : Nat} {W : List Int} {b : Int} (hG : GG G) (hW : W.headD 0 ≠ 10) : ∀ (l : List Int) (X : jX) (C : List Int), (∀ o ∈ l, o = 10004) → mS X T u κ r (l.map toM ++ W) b C → C.length + l.length ≤ 1690 → l.length + W.length ≤ 1599 → ∃ Y, jN (d + 2) 313 87 [(22, 149)] [] (G, X) = some (1, (G, Y)) ∧ mS Y T u κ r (10 :: W) b (C ++ l) ∧ mfQ X Y := by
  intro l
  induction l with
  | nil =>
    intro X C ho h hc hw
    rw [List.length_nil, Nat.zero_add] at hw
    have h' : mS X T u κ r W b C := h
    have e := t_qIsOn (d + 1) hG 10 h' (by omega)
    rw [if_neg (fun y => hW y.2)] at e
    refine ⟨_, ?_, by rw [List.append_nil]; exact mS_pushS 10 h', mfQ_t (mfQ_c (Or.inr rfl)) (mfQ_u (by omega))⟩
    rw [h_X12_qGoesOnTest_87]
    simp only [Int.reduceLE, reduceIte]
    rw [e]
    simp only [Option.bind_some, reduceIte]
    rw [gr_149_110 hG, gl_228 hG, h'.2.2.2.2.1.1, jup_rw _ _ _ _ _ (by omega), h'.2.2.2.2.1.1, jadd_id (by omega) (by omega)]
    simp only [if_pos (show (0 : Int) ≤ (W.length : Int) by omega), if_pos (show (W.length : Int) < 1700 by omega), Int.reduceLE, reduceIte]
  | cons o l ih =>
    intro X C ho h hc hw
    rw [List.length_cons] at hc hw
    have hml : (l.map toM ++ W).length = l.length + W.length := by rw [List.length_append, List.length_map]
    have h' : mS X T u κ r (toM o :: (l.map toM ++ W)) b C := h
    have ho' := ho o List.mem_cons_self
    have e := (t_qOnC (d + 1) hG 10 h' (by omega)).1 (by rw [ho']; rfl)
    obtain ⟨Y1, e1, k1, f1, _⟩ := t_qDrops d hG o h' (by omega) (by omega)
    obtain ⟨Y, e2, k, f⟩ := ih Y1 (C ++ [o]) (fun x hx => ho x (List.mem_cons_of_mem _ hx)) k1 (by rw [List.length_append, List.length_singleton]; omega) (by omega)
    refine ⟨Y, ?_, by rw [show C ++ o :: l = C ++ [o] ++ l by simp only [List.append_assoc, List.singleton_append]]; exact k, mfQ_t f1 f⟩
    rw [h_X12_qGoesOnTest_87]
    simp only [Int.reduceLE, reduceIte]
    rw [e]
    simp only [Option.bind_some]
    rw [if_neg (by omega), e1]
    simp only [Option.bind_some]
    exact e2
theorem k_137 (d : Nat) {G : jG} {T : aT} {u : Int} {κ : aK} {r : Nat} {W : List Int} {b : Int} (hG : GG G) (hW : W.headD 0 ≠ 10 ∧ W.headD 0 ≠ 11) : ∀ (l : List Int) (X : jX) (C : List Int), (∀ o ∈ l, 10003 ≤ o ∧ o ≤ 10004) → mS X T u κ r (l.map toM ++ W) b C → C.length + l.length ≤ 1690 → l.length + W.length ≤ 1599 → ∃ Y, jN (d + 2) 313 137 [(22, 149)] [] (G, X) = some (1, (G, Y)) ∧ mS Y T u κ r (11 :: W) b (C ++ l) ∧ mfQ X Y := by
  intro l
  induction l with
  | nil =>
    intro X C ho h hc hw
    rw [List.length_nil, Nat.zero_add] at hw
    have h' : mS X T u κ r W b C := h
    have e := t_qIsOn (d + 1) hG 10 h' (by omega)
    have e' := t_qIsOn (d + 1) hG 11 h' (by omega)
    rw [if_neg (fun y => hW.1 y.2)] at e
    rw [if_neg (fun y => hW.2 y.2)] at e'
    refine ⟨_, ?_, by rw [List.append_nil]; exact mS_pushS 11 h', mfQ_t (mfQ_c (Or.inr rfl)) (mfQ_u (by omega))⟩
    rw [h_X12_qGoesOnTest_137]
    simp only [Int.reduceLE, reduceIte]
    rw [e]
    simp only [Option.bind_some, reduceIte]
    rw [e']
    simp only [Option.bind_some, reduceIte]
    rw [gr_149_110 hG, gl_228 hG, h'.2.2.2.2.1.1, jup_rw _ _ _ _ _ (by omega), h'.2.2.2.2.1.1, jadd_id (by omega) (by omega)]
    simp only [if_pos (show (0 : Int) ≤ (W.length : Int) by omega), if_pos (show (W.length : Int) < 1700 by omega), Int.reduceLE, reduceIte]
  | cons o l ih =>
    intro X C ho h hc hw
    rw [List.length_cons] at hc hw
    have hml : (l.map toM ++ W).length = l.length + W.length := by rw [List.length_append, List.length_map]
    have h' : mS X T u κ r (toM o :: (l.map toM ++ W)) b C := h
    obtain ⟨Y1, e1, k1, f1, _⟩ := t_qDrops d hG o h' (by omega) (by omega)
    obtain ⟨Y, e2, k, f⟩ := ih Y1 (C ++ [o]) (fun x hx => ho x (List.mem_cons_of_mem _ hx)) k1 (by rw [List.length_append, List.length_singleton]; omega) (by omega)
    have e155 : jN (d + 2) 313 155 [(22, 149)] [] (G, X) = some (1, (G, Y)) := by
      rw [h_X12_qGoesOnTest_155]
      simp only [Int.reduceLE, reduceIte]
      rw [e1]
      simp only [Option.bind_some]
      exact e2
    refine ⟨Y, ?_, by rw [show C ++ o :: l = C ++ [o] ++ l by simp only [List.append_assoc, List.singleton_append]]; exact k, mfQ_t f1 f⟩
    have e10 := t_qOnC (d + 1) hG 10 h' (by omega)
    have e11 := t_qOnC (d + 1) hG 11 h' (by omega)
    rw [h_X12_qGoesOnTest_137]
    simp only [Int.reduceLE, reduceIte]
    have ho' : o = 10004 ∨ o = 10003 := by have := ho o List.mem_cons_self; omega
    rcases ho' with rfl | rfl
    · rw [e10.1 rfl]
      simp only [Option.bind_some]
      rw [if_neg (by omega)]; exact e155
    · rw [e10.2 (by decide)]
      simp only [Option.bind_some, reduceIte]
      rw [e11.1 rfl]
      simp only [Option.bind_some]
      rw [if_neg (by omega)]; exact e155
/-- and -/
theorem k_and (d : Nat) {G : jG} {X : jX} {T : aT} {u : Int} {κ : aK} {r : Nat} {W l : List Int} {b : Int} {C : List Int} (hG : GG G) (hT : okT T) (h : mS X T u κ r (l.map toM ++ W) b C) (hl : ∀ o ∈ l, o = 10004) (hW : W.headD 0 ≠ 10) (hq : wd T κ = 24) (hc : C.length + l.length ≤ 1690) (hw : l.length + W.length ≤ 1599) : ∃ Y, jN (d + 7) 313 76 [(22, 149)] [] (G, lk X κ) = some (1, (G, Y)) ∧ mS Y T u (nx T κ) r (10 :: W) b (C ++ l) ∧ mfQ X Y := by
  have hk := mS_lk h
  have hso := wd_so (T := T) (κ := κ) (by omega)
  have hsr : srt T κ.1 ≠ 0 := by rcases so_b T κ with z | z <;> omega
  have e := t_takes (d + 4) hG hT hk.1 hk.2.1 hk.2.2.1.1 211 24 (by decide)
  rw [tk_lk, if_pos (show wd T κ = ((24 : Nat) : Int) from hq)] at e
  obtain ⟨Y, e1, k1, f1⟩ := k_87 (d + 5) (κ := nx T κ) hG hW l (tk X T κ) C hl (mS_tk hsr h) hc hw
  refine ⟨Y, ?_, k1, mfQ_t (mfQ_0 (tk_0 X T κ)) f1⟩
  rw [h_X12_qGoesOnTest_76, gr_149_92 hG]
  simp only [Int.reduceLE, reduceIte]
  rw [e]
  simp only [Option.bind_some]
  rw [if_neg (by omega)]
  exact e1
/-- or -/
theorem k_or (d : Nat) {G : jG} {X : jX} {T : aT} {u : Int} {κ : aK} {r : Nat} {W l : List Int} {b : Int} {C : List Int} (hG : GG G) (hT : okT T) (h : mS X T u κ r (l.map toM ++ W) b C) (hl : ∀ o ∈ l, 10003 ≤ o ∧ o ≤ 10004) (hW : W.headD 0 ≠ 10 ∧ W.headD 0 ≠ 11) (hq : wd T κ = 23) (hc : C.length + l.length ≤ 1690) (hw : l.length + W.length ≤ 1599) : ∃ Y, jN (d + 7) 313 76 [(22, 149)] [] (G, lk X κ) = some (1, (G, Y)) ∧ mS Y T u (nx T κ) r (11 :: W) b (C ++ l) ∧ mfQ X Y := by
  have hk := mS_lk h
  have hso := wd_so (T := T) (κ := κ) (by omega)
  have hsr : srt T κ.1 ≠ 0 := by rcases so_b T κ with z | z <;> omega
  have e0 := t_takes (d + 4) hG hT hk.1 hk.2.1 hk.2.2.1.1 211 24 (by decide)
  have e := t_takes (d + 4) hG hT hk.1 hk.2.1 hk.2.2.1.1 212 23 (by decide)
  rw [lk_lk, if_neg (show ¬ wd T κ = ((24 : Nat) : Int) by omega)] at e0
  rw [tk_lk, if_pos (show wd T κ = ((23 : Nat) : Int) from hq)] at e
  obtain ⟨Y, e1, k1, f1⟩ := k_137 (d + 5) (κ := nx T κ) hG hW l (tk X T κ) C hl (mS_tk hsr h) hc hw
  refine ⟨Y, ?_, k1, mfQ_t (mfQ_0 (tk_0 X T κ)) f1⟩
  rw [h_X12_qGoesOnTest_76, gr_149_92 hG]
  simp only [Int.reduceLE, reduceIte]
  rw [e0]
  simp only [Option.bind_some, reduceIte]
  rw [gr_149_93 hG, e]
  simp only [Option.bind_some]
  rw [if_neg (by omega)]
  exact e1
/-- neither -/
theorem k_none (d : Nat) {G : jG} {X : jX} {T : aT} {u : Int} {κ : aK} {r : Nat} {W : List Int} {b : Int} {C : List Int} (hG : GG G) (hT : okT T) (h : mS X T u κ r W b C) (h1 : wd T κ ≠ 24) (h2 : wd T κ ≠ 23) (hw : W.length < 1600) : (25 ∈ W → jN (d + 7) 313 76 [(22, 149)] [] (G, lk X κ) = some (0, (G, fl X κ 1 κ.1))) ∧ (25 ∉ W → jN (d + 7) 313 76 [(22, 149)] [] (G, lk X κ) = some (0, (G, lk X κ))) := by
  have hk := mS_lk h
  have e0 := t_takes (d + 4) hG hT hk.1 hk.2.1 hk.2.2.1.1 211 24 (by decide)
  have e := t_takes (d + 4) hG hT hk.1 hk.2.1 hk.2.2.1.1 212 23 (by decide)
  rw [lk_lk, if_neg (show ¬ wd T κ = ((24 : Nat) : Int) from h1)] at e0
  rw [lk_lk, if_neg (show ¬ wd T κ = ((23 : Nat) : Int) from h2)] at e
  obtain ⟨s1, s2⟩ := t_sq (d + 6) hG hk hw
  rw [h_X12_qGoesOnTest_76, gr_149_92 hG]
  simp only [Int.reduceLE, reduceIte]
  rw [e0]
  simp only [Option.bind_some, reduceIte]
  rw [gr_149_93 hG, e]
  simp only [Option.bind_some, reduceIte]
  rw [hk.2.2.1.1, if_pos rfl]
  constructor
  · intro q
    rw [s1 q]
    simp only [Option.bind_some]
    rw [if_neg (by omega), lk_at, t_fail (d + 6) hk.2.2.1.1]
    simp only [Option.bind_some]
    rw [h_X12_qGoesOnTest_208]
    rfl
  · intro q
    rw [s2 q]
    simp only [Option.bind_some, reduceIte]
    rw [h_X12_qGoesOnTest_208]
/-- a bracket is closed, and the nots before it are told -/
theorem k_33 (d : Nat) {G : jG} {T : aT} {u : Int} {κ : aK} {k r : Nat} {V : List Int} {b : Int} (hG : GG G) (hV : V.headD 0 ≠ 12) (hr : r + 1 + k ≤ 6) : ∀ (l : List Int) (X : jX) (C : List Int), opL l → mS X T u κ r (l.map toM ++ 25 :: (List.replicate k 12 ++ V)) b C → C.length + l.length + k ≤ 1690 → l.length + k + V.length ≤ 1580 → ∃ Y, jN (d + 7) 313 33 [(22, 149)] [] (G, X) = jN (d + 7) 313 0 [(22, 149)] [] (G, Y) ∧ mS Y T u κ (r + 1 + k) V b (C ++ l ++ List.replicate k 10001) ∧ mfQ X Y := by
  intro l
  induction l with
  | nil =>
    intro X C ho h hc hw
    rw [List.length_nil] at hc hw
    have hrl : (List.replicate k 12 ++ V).length = k + V.length := by rw [List.length_append, List.length_replicate]
    have h' : mS X T u κ r (25 :: (List.replicate k 12 ++ V)) b C := h
    have e := (t_qOnC (d + 6) hG 25 h' (by omega)).1 rfl
    obtain ⟨a1, a2, a3, a4, a5, a6, a7⟩ := id h'
    have h2 : mS (jup (jup X 149 111 ((List.replicate k 12 ++ V).length : Int)) 149 112 (6 - ((r + 1 : Nat) : Int))) T u κ (r + 1) (List.replicate k 12 ++ V) b C := by
      have f : mfQ X (jup (jup X 149 111 ((List.replicate k 12 ++ V).length : Int)) 149 112 (6 - ((r + 1 : Nat) : Int))) := mfQ_t (mfQ_u (by omega)) (mfQ_u (by omega))
      have e : ∀ j, j ≠ 111 → j ≠ 112 → jup (jup X 149 111 ((List.replicate k 12 ++ V).length : Int)) 149 112 (6 - ((r + 1 : Nat) : Int)) 149 j = X 149 j := fun j j1 j2 => by rw [jup_row _ _ _ _ _ j2, jup_row _ _ _ _ _ j1]
      exact ⟨mB_Q f a1, mK_e (e 2 (by omega) (by omega)) (e 4 (by omega) (by omega)) a2, ⟨by rw [e 5 (by omega) (by omega)]; exact a3.1, by rw [e 52 (by omega) (by omega)]; exact a3.2.1, by rw [e 6 (by omega) (by omega)]; exact a3.2.2⟩, ⟨by rw [e 109 (by omega) (by omega)]; exact a4.1, fun i hi => by rw [jup_rw _ _ _ _ _ (by omega), jup_rw _ _ _ _ _ (by omega)]; exact a4.2 i hi⟩, ⟨by rw [jup_row _ _ _ _ _ (by omega), jup_same], by rw [jup_rw _ _ _ _ _ (by omega), jup_rw _ _ _ _ _ (by omega)]; exact a5.2.2⟩, ⟨by rw [jup_same], by omega⟩, by rw [e 113 (by omega) (by omega)]; exact a7⟩
    obtain ⟨Y, e2, k2, f2⟩ := t_nots (d + 4) hG hV h2 hr (by omega) (by omega)
    have hj1 : jsub (X 149 111) 1 = ((List.replicate k (12 : Int) ++ V).length : Int) := by
      rw [a5.1, List.length_cons, jsub_id (by omega) (by omega)]; omega
    have hj2 : jsub (X 149 112) 1 = 6 - ((r + 1 : Nat) : Int) := by
      rw [a6.1, jsub_id (by omega) (by omega)]; omega
    refine ⟨Y, ?_, by rw [List.append_nil]; exact k2, mfQ_t (mfQ_u (by omega)) (mfQ_t (mfQ_u (by omega)) f2)⟩
    rw [h_X12_qGoesOnTest_33]
    simp only [Int.reduceLE, reduceIte]
    rw [e]
    simp only [Option.bind_some]
    rw [if_neg (by omega), jup_row X _ _ _ 112 (by omega), hj1, hj2, e2]
    simp only [Option.bind_some]
  | cons o l ih =>
    intro X C ho h hc hw
    rw [List.length_cons] at hc hw
    have hrl : (List.replicate k 12 ++ V).length = k + V.length := by rw [List.length_append, List.length_replicate]
    have hml : (l.map toM ++ 25 :: (List.replicate k 12 ++ V)).length = l.length + (k + V.length + 1) := by rw [List.length_append, List.length_map, List.length_cons, hrl]
    have h' : mS X T u κ r (toM o :: (l.map toM ++ 25 :: (List.replicate k 12 ++ V))) b C := h
    have hop := opL_h (ho o List.mem_cons_self)
    have e := (t_qOnC (d + 6) hG 25 h' (by omega)).2 (by omega)
    obtain ⟨Y1, e1, k1, f1, _⟩ := t_qDrops (d + 5) hG o h' (by omega) (by omega)
    obtain ⟨Y, e2, k2, f⟩ := ih Y1 (C ++ [o]) (fun x hx => ho x (List.mem_cons_of_mem _ hx)) k1 (by rw [List.length_append, List.length_singleton]; omega) (by omega)
    refine ⟨Y, ?_, by rw [show C ++ o :: l = C ++ [o] ++ l by simp only [List.append_assoc, List.singleton_append]]; exact k2, mfQ_t f1 f⟩
    rw [h_X12_qGoesOnTest_33]
    simp only [Int.reduceLE, reduceIte]
    rw [e]
    simp only [Option.bind_some, reduceIte]
    rw [e1]
    simp only [Option.bind_some]
    exact e2
theorem k_close (d : Nat) {c : Int} {G : jG} {X : jX} {T : aT} {u : Int} {κ : aK} {k r : Nat} {V l : List Int} {b : Int} {C : List Int} (hG : GG G) (hT : okT T) (hV : V.headD 0 ≠ 12) (hr : r + 1 + k ≤ 6) (ho : opL l) (h : mS X T u κ r (l.map toM ++ 25 :: (List.replicate k 12 ++ V)) b C) (hq : mk T κ 93 = true) (hc : C.length + l.length + k ≤ 1690) (hw : l.length + k + V.length ≤ 1580) : ∃ Y, TG d c G X = TG d c G Y ∧ mS Y T u (nx T κ) (r + 1 + k) V b (C ++ l ++ List.replicate k 10001) ∧ mfQ X Y := by
  have hs3 := mk_s3 (c := 93) (by omega) hq
  have hrl : (List.replicate k 12 ++ V).length = k + V.length := by rw [List.length_append, List.length_replicate]
  have hml : (l.map toM ++ 25 :: (List.replicate k 12 ++ V)).length = l.length + (k + V.length + 1) := by rw [List.length_append, List.length_map, List.length_cons, hrl]
  have htk : jup (lk X κ) 149 2 (jadd (lk X κ 149 2) 1) = tk X T κ := by
    have hi := mS_in h
    have := hi.1
    have := hi.2
    have := hT.2.1
    unfold tk
    rw [if_pos hs3, lk_at, jadd_id (by omega) (by omega)]
  obtain ⟨Y, e, k1, f1⟩ := k_33 d hG hV hr l (tk X T κ) C ho (mS_tk (by omega) h) hc hw
  refine ⟨Y, ?_, k1, mfQ_t (mfQ_0 (tk_0 X T κ)) f1⟩
  unfold TG
  rw [← e, h_X12_qGoesOnTest_0, h.2.2.1.1]
  simp only [Int.reduceLE, reduceIte]
  rw [t_look (d + 6) hG hT h.1 h.2.1]
  simp only [Option.bind_some]
  rw [if_pos ((tat_mk (mS_in h) (by omega)).2 hq), (t_sq (d + 6) hG (mS_lk h) (by omega)).1 (List.mem_append_right _ List.mem_cons_self)]
  simp only [Option.bind_some]
  rw [if_neg (by omega), htk]
