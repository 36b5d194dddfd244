/-! READING: the reference's sums, the steps of the run -/
noncomputable def KG (d : Nat) (w : Int) (q : Int × jS) : jR := if q.1 = 0 then jN (d + 6) 308 15 [(22, 149), (0, w), (0, 0)] [] (q.2.1, q.2.2) else jN (d + 6) 308 15 [(22, 149), (0, w), (0, 1)] [] (q.2.1, q.2.2)
noncomputable def QG (d : Nat) (w : Int) (G : jG) (X : jX) : jR := (jN (d + 5) 307 0 [(22, 149), (2, (-1))] [] (G, X)).bind (KG d w)
noncomputable def KP (d : Nat) (w : Int) (q : Int × jS) : jR := if q.2.2 149 5 = 0 then ((jD (d + 6) 307 [(22, 149)] (q.2.1, q.2.2)).bind (KG d w)) else jN (d + 6) 308 15 [(22, 149), (0, w), (0, 0)] [] (q.2.1, q.2.2)
noncomputable def QP (d : Nat) (w : Int) (G : jG) (u2 u3 u4 u5 : jV) (X : jX) : jR := (jN (d + 5) 306 2 [(22, 149), (0, 1), u2, u3, u4, u5] [] (G, X)).bind (KP d w)
noncomputable def QE (d : Nat) (w : Int) (G : jG) (X : jX) : jR := (jD (d + 5) 305 [(22, 149)] (G, X)).bind (fun q => QG d w q.2.1 q.2.2)
theorem QS_P (d : Nat) (w : Int) (G : jG) (X : jX) (h5 : X 149 5 = 0) : jN (d + 6) 308 15 [(22, 149), (0, w), (0, 1)] [] (G, X) = QP d w G (2, -1) (2, -1) (2, -1) (2, -1) X := by
  rw [h_X12_qSums_15, if_neg (by omega), h5]
  simp only [Int.reduceLE, reduceIte]
  rw [e_X12_qPartTold]
  rfl
theorem QS_0 (d : Nat) (w : Int) (G : jG) (X : jX) (h5 : X 149 5 ≠ 0) : jN (d + 6) 308 15 [(22, 149), (0, w), (0, 0)] [] (G, X) = some (0, (G, jup X 149 113 w)) := by
  rw [h_X12_qSums_15, if_pos rfl, h_X12_qSums_53]
  simp only [if_neg h5, Int.reduceLE, reduceIte]
theorem QP_f {d : Nat} {w : Int} {G : jG} {X Y : jX} {u2 u3 u4 u5 : jV} {z : Int} (h : jN (d + 5) 306 2 [(22, 149), (0, 1), u2, u3, u4, u5] [] (G, X) = some (z, (G, Y))) (h5 : Y 149 5 ≠ 0) : QP d w G u2 u3 u4 u5 X = some (0, (G, jup Y 149 113 w)) := by
  unfold QP KP
  rw [h]
  simp only [Option.bind_some]
  rw [if_neg h5, QS_0 d w G Y h5]
theorem QG_f {d : Nat} {w : Int} {G : jG} {X Y : jX} (h : jN (d + 5) 307 0 [(22, 149), (2, (-1))] [] (G, X) = some (0, (G, Y))) (h5 : Y 149 5 ≠ 0) : QG d w G X = some (0, (G, jup Y 149 113 w)) := by
  unfold QG KG
  rw [h]
  simp only [Option.bind_some, reduceIte]
  rw [QS_0 d w G Y h5]
theorem QG_1 {d : Nat} {w : Int} {G : jG} {X Y : jX} (h : jN (d + 5) 307 0 [(22, 149), (2, (-1))] [] (G, X) = some (1, (G, Y))) (h5 : Y 149 5 = 0) : QG d w G X = QP d w G (2, -1) (2, -1) (2, -1) (2, -1) Y := by
  unfold QG KG
  rw [h]
  simp only [Option.bind_some]
  rw [if_neg (by omega), QS_P d w G Y h5]
/-- .. and few codes are told -/
def mfB (X Y : jX) : Prop := mfQ X Y ∧ 0 ≤ Y 149 109 ∧ Y 149 109 ≤ 1690
theorem mfB_t {X Y Z : jX} (h1 : mfQ X Y) (h2 : mfB Y Z) : mfB X Z := ⟨mfQ_t h1 h2.1, h2.2⟩
theorem mfB_0 {X Y : jX} {T : aT} {u : Int} {κ : aK} {r : Nat} {W : List Int} {b : Int} {C : List Int} {w : Int} (h : mS X T u κ r W b C) (hc : C.length ≤ 1690) (f : mf0 X Y) : mfB X (jup Y 149 113 w) := ⟨mfQ_t (mfQ_0 f) (mfQ_u (by omega)), by rw [jup_row _ _ _ _ _ (by omega), f.2 109 (by omega) (by omega), h.2.2.2.1.1]; omega⟩
/-- how a part of a sum ends -/
def endQ (G : jG) (X : jX) (T : aT) (u : Int) (r : Nat) (W : List Int) (b : Int) (C : List Int) (Qn : jX → jR) (L : jR) (R : rs) : Prop := match R with
  | .inl e => ∃ Y, L = some (0, (G, Y)) ∧ Y 149 5 = e.1 ∧ Y 149 6 = e.2 ∧ mfB X Y
  | .inr q => ∃ Y, L = Qn Y ∧ mS Y T u q.1 r W b (C ++ q.2) ∧ mfQ X Y
theorem endQ_f {G : jG} {X Y : jX} {T : aT} {u : Int} {r : Nat} {W : List Int} {b : Int} {C : List Int} {Qn : jX → jR} {L : jR} {e : Int × Int} {w : Int} (hL : L = some (0, (G, jup Y 149 113 w))) (h5 : Y 149 5 = e.1) (h6 : Y 149 6 = e.2) (hf : mfB X Y) : endQ G X T u r W b C Qn L (.inl e) := ⟨_, hL, by rw [jup_row _ _ _ _ _ (by omega)]; exact h5, by rw [jup_row _ _ _ _ _ (by omega)]; exact h6, mfQ_t hf.1 (mfQ_u (by omega)), by rw [jup_row _ _ _ _ _ (by omega)]; exact hf.2⟩
theorem QE_pop (d : Nat) {G : jG} {X : jX} {T : aT} {u : Int} {κ : aK} {r : Nat} {W : List Int} {b : Int} {C : List Int} (hG : GG G) (h : mS X T u κ r (60 :: W) b C) (hr : r + 1 ≤ 6) (hb : b ≤ W.length) (hc : C.length < 1700) (hw : W.length < 1600) : ∃ Y, jD (d + 5) 305 [(22, 149)] (G, X) = jD (d + 5) 305 [(22, 149)] (G, Y) ∧ mS Y T u κ (r + 1) W b (C ++ [10002]) ∧ mfQ X Y := by
  obtain ⟨a1, a2, a3, a4, a5, a6, a7⟩ := id h
  have h' : mS (jup X 149 112 (6 - ((r + 1 : Nat) : Int))) T u κ (r + 1) (toM 10002 :: W) b C := ⟨mB_Q (mfQ_u (by omega)) a1, mK_e (jup_row _ _ _ _ _ (by omega)) (jup_row _ _ _ _ _ (by omega)) a2, ⟨by rw [jup_row _ _ _ _ _ (by omega)]; exact a3.1, by rw [jup_row _ _ _ _ _ (by omega)]; exact a3.2.1, by rw [jup_row _ _ _ _ _ (by omega)]; exact a3.2.2⟩, ⟨by rw [jup_row _ _ _ _ _ (by omega)]; exact a4.1, fun i hi => by rw [jup_rw _ _ _ _ _ (by omega)]; exact a4.2 i hi⟩, ⟨by rw [jup_row _ _ _ _ _ (by omega)]; exact a5.1, by rw [jup_rw _ _ _ _ _ (by omega)]; exact a5.2⟩, ⟨by rw [jup_same], hr⟩, by rw [jup_row _ _ _ _ _ (by omega)]; exact a7⟩
  obtain ⟨Y, e, k, f, _⟩ := t_qDrops (d + 2) hG 10002 h' hc (by omega)
  refine ⟨Y, ?_, k, mfQ_t (mfQ_u (by omega)) f⟩
  rw [e_X12_qEndsPart, e_X12_qEndsPart, h_X12_qEndsPart_0 (d + 4) 149 G X, a3.1, a5.1, a6.1, a7, gr_149_110 hG, gl_228 hG, List.length_cons, jsub_id (a := ((W.length + 1 : Nat) : Int)) (by omega) (by omega), show ((W.length + 1 : Nat) : Int) - 1 = W.length by omega, a5.2.1, jsub_id (a := 6 - (r : Int)) (by omega) (by omega), show 6 - (r : Int) - 1 = 6 - ((r + 1 : Nat) : Int) by omega]
  simp only [if_pos (show b < ((W.length + 1 : Nat) : Int) by omega), if_pos (show (0 : Int) ≤ (W.length : Int) by omega), if_pos (show (W.length : Int) < 1700 by omega), Int.reduceLE, Int.reduceLT, reduceIte]
  rw [e]
  rfl
theorem QE_stop (d : Nat) {G : jG} {X : jX} {T : aT} {u : Int} {κ : aK} {r : Nat} {W : List Int} {b : Int} {C : List Int} (hG : GG G) (h : mS X T u κ r W b C) (hw : W.length < 1600) (b0 : 0 ≤ b) (hs : W.length = b ∨ W.headD 0 < 60) : jD (d + 5) 305 [(22, 149)] (G, X) = some (0, (G, X)) := by
  obtain ⟨a1, a2, a3, a4, a5, a6, a7⟩ := id h
  rw [e_X12_qEndsPart, h_X12_qEndsPart_0, a3.1, a5.1, a7, gr_149_110 hG, gl_228 hG]
  simp only [Int.reduceLE, reduceIte]
  by_cases q : b < (W.length : Int)
  · cases W with
    | nil =>
      have h0 : ((List.length ([] : List Int) : Nat) : Int) = 0 := rfl
      rw [h0] at q
      omega
    | cons x W =>
      rw [List.length_cons] at *
      have hx : x < 60 := by
        rcases hs with hs | hs
        · omega
        · exact hs
      rw [if_pos q, jsub_id (by omega) (by omega), show ((W.length + 1 : Nat) : Int) - 1 = W.length by omega, if_pos (by omega), if_pos (by omega), a5.2.1, if_pos hx]
  · rw [if_neg q]
theorem tk_2 {X : jX} {T : aT} {κ : aK} (h : srt T κ.1 = 3) : tk X T κ 149 2 = κ.1 + 1 := by unfold tk; rw [if_pos h, jup_same]
theorem mk_s3 {T : aT} {κ : aK} {c : Int} (hc : c < 48 ∨ (57 < c ∧ c < 97) ∨ 122 < c) (h : mk T κ c = true) : srt T κ.1 = 3 := by
  have := ((mk_so hc).1 h).1
  rcases so_b T κ with z | z <;> omega
theorem tat_mk {T : aT} {κ : aK} {c : Int} (hi : inT T κ) (hc : 0 ≤ c) : tat T κ.1 = c ↔ mk T κ c = true := by
  rw [mk_iff]
  unfold tat
  by_cases q : κ.1 < T.1
  · rw [if_pos ⟨hi.1, q⟩]; exact ⟨fun y => ⟨q, y⟩, fun y => y.2⟩
  · rw [if_neg (fun y => q y.2)]; exact ⟨fun y => by omega, fun y => absurd y.1 q⟩
/-- no closing: on to the signs -/
theorem g_122 (d : Nat) {G : jG} {X : jX} {T : aT} {u : Int} {κ : aK} {r : Nat} {W : List Int} {b : Int} {C : List Int} (hG : GG G) (hT : okT T) (h : mS X T u κ r W b C) (b0 : 0 ≤ b) (hw : W.length < 1600) (hn : mk T κ 41 = true → brk b W ≠ 20 ∧ brk b W ≠ 23 ∧ brk b W ≠ 24) : jN (d + 5) 307 0 [(22, 149), (2, (-1))] [] (G, X) = jN (d + 5) 307 122 [(22, 149), (2, (-1))] [] (G, lk X κ) := by
  have hb := t_qBracket (d + 3) hG (mS_lk h) b0 (by omega)
  rw [h_X12_qGoesOn_0, h.2.2.1.1]
  simp only [Int.reduceLE, reduceIte]
  rw [t_look (d + 4) hG hT h.1 h.2.1]
  simp only [Option.bind_some]
  by_cases q : mk T κ 41 = true
  · obtain ⟨n1, n2, n3⟩ := hn q
    rw [if_pos ((tat_mk (mS_in h) (by omega)).2 q), hb]
    simp only [Option.bind_some]
    rw [if_neg n1, hb]
    simp only [Option.bind_some]
    rw [if_neg n2, hb]
    simp only [Option.bind_some]
    rw [if_neg n3]
  · rw [if_neg (fun y => q ((tat_mk (mS_in h) (by omega)).1 y))]
/-- a bracket is closed -/
theorem g_close (d : Nat) {w : Int} {G : jG} {X : jX} {T : aT} {u : Int} {κ : aK} {r : Nat} {W l : List Int} {b x : Int} {C : List Int} (hG : GG G) (hT : okT T) (h : mS X T u κ r (l.map toM ++ x :: W) b C) (ho : opL l) (b0 : 0 ≤ b) (hb : b ≤ W.length) (hx : x = 20 ∨ x = 23 ∨ x = 24) (hr : r + 1 ≤ 6) (hq : mk T κ 41 = true) (hc : C.length + l.length + 1 ≤ 1700) (hw : l.length + W.length + 1 ≤ 1599) : ∃ Y, QG d w G X = QE d w G Y ∧ mS Y T u (nx T κ) (r + 1) W b (C ++ l ++ (if x = 20 then [] else if x = 23 then [10012] else [10013])) ∧ mfQ X Y := by
  have hlen : (l.map toM ++ x :: W).length = l.length + W.length + 1 := by rw [List.length_append, List.length_map, List.length_cons]; omega
  have hbr : brk b (l.map toM ++ x :: W) = x := by
    rw [brk_ops ho (by rw [List.length_cons]; omega)]
    unfold brk
    rw [if_neg (by omega), if_pos (by omega)]
  have hs3 := mk_s3 (c := 41) (by omega) hq
  have ebr := t_qBracket (d + 3) hG (mS_lk h) b0 (by omega)
  rw [hbr] at ebr
  have hlkm : jup (lk X κ) 149 2 (jadd (lk X κ 149 2) 1) = tk X T κ := by
    unfold tk
    have hi := mS_in h
    have := hi.1
    have := hi.2
    have := hT.2.1
    rw [if_pos hs3, lk_at, jadd_id (by omega) (by omega)]
  have htk := mS_tk (X := X) (by omega) h
  obtain ⟨Y1, e1, k1, f1, _⟩ := t_drB (d + 2) hG (W := x :: W) (Or.inr ⟨x, W, rfl, by omega, by omega⟩) b0 (by rw [List.length_cons]; omega) ho htk (by omega) (by rw [List.length_cons]; omega)
  have to43 : jN (d + 5) 307 0 [(22, 149), (2, (-1))] [] (G, X) = jN (d + 5) 307 43 [(22, 149), (2, (-1))] [] (G, lk X κ) := by
    rw [h_X12_qGoesOn_0, h.2.2.1.1]
    simp only [Int.reduceLE, reduceIte]
    rw [t_look (d + 4) hG hT h.1 h.2.1]
    simp only [Option.bind_some]
    rw [if_pos ((tat_mk (mS_in h) (by omega)).2 hq), ebr]
    simp only [Option.bind_some]
    rcases hx with rfl | rfl | rfl
    · rw [if_pos rfl]
    · rw [if_neg (by omega), ebr]
      simp only [Option.bind_some, reduceIte]
    · rw [if_neg (by omega), ebr]
      simp only [Option.bind_some]
      rw [if_neg (by omega), ebr]
      simp only [Option.bind_some, reduceIte]
  obtain ⟨a1, a2, a3, a4, a5, a6, a7⟩ := id k1
  have hY2 : mS (jup (jup Y1 149 111 W.length) 149 112 (6 - ((r + 1 : Nat) : Int))) T u (nx T κ) (r + 1) W b (C ++ l) := by
    have f : mfQ Y1 (jup (jup Y1 149 111 W.length) 149 112 (6 - ((r + 1 : Nat) : Int))) := mfQ_t (mfQ_u (by omega)) (mfQ_u (by omega))
    have e : ∀ j, j ≠ 111 → j ≠ 112 → jup (jup Y1 149 111 W.length) 149 112 (6 - ((r + 1 : Nat) : Int)) 149 j = Y1 149 j := fun j j1 j2 => by rw [jup_row _ _ _ _ _ j2, jup_row _ _ _ _ _ j1]
    exact ⟨mB_Q f a1, mK_e (e 2 (by omega) (by omega)) (e 4 (by omega) (by omega)) a2, ⟨by rw [e 5 (by omega) (by omega)]; exact a3.1, by rw [e 52 (by omega) (by omega)]; exact a3.2.1, by rw [e 6 (by omega) (by omega)]; exact a3.2.2⟩, ⟨by rw [e 109 (by omega) (by omega)]; exact a4.1, fun i hi => by rw [jup_rw _ _ _ _ _ (by omega), jup_rw _ _ _ _ _ (by omega)]; exact a4.2 i hi⟩, ⟨by rw [jup_row _ _ _ _ _ (by omega), jup_same], by rw [jup_rw _ _ _ _ _ (by omega), jup_rw _ _ _ _ _ (by omega)]; exact a5.2.2⟩, ⟨by rw [jup_same], hr⟩, by rw [e 113 (by omega) (by omega)]; exact a7⟩
  have F2 : mfQ X (jup (jup Y1 149 111 W.length) 149 112 (6 - ((r + 1 : Nat) : Int))) := mfQ_t (mfQ_0 (tk_0 X T κ)) (mfQ_t f1 (mfQ_t (mfQ_u (by omega)) (mfQ_u (by omega))))
  have e43 : jN (d + 5) 307 43 [(22, 149), (2, (-1))] [] (G, lk X κ) = if x = 20 then jN (d + 5) 307 115 [(22, 149), (2, (-1))] [] (G, jup (jup Y1 149 111 W.length) 149 112 (6 - ((r + 1 : Nat) : Int))) else if x = 23 then jN (d + 5) 307 112 [(22, 149), (2, (-1))] [(0, 5), (22, 149)] (G, jup (jup Y1 149 111 W.length) 149 112 (6 - ((r + 1 : Nat) : Int))) else jN (d + 5) 307 112 [(22, 149), (2, (-1))] [(0, 6), (22, 149)] (G, jup (jup Y1 149 111 W.length) 149 112 (6 - ((r + 1 : Nat) : Int))) := by
    have hX2 : jup (jup Y1 149 111 (jsub (Y1 149 111) 1)) 149 112 (jsub (jup Y1 149 111 (jsub (Y1 149 111) 1) 149 112) 1) = jup (jup Y1 149 111 W.length) 149 112 (6 - ((r + 1 : Nat) : Int)) := by
      rw [jup_row _ _ _ _ 112 (by omega), a5.1, a6.1, List.length_cons, jsub_id (a := ((W.length + 1 : Nat) : Int)) (by omega) (by omega), jsub_id (by omega) (by omega), show ((W.length + 1 : Nat) : Int) - 1 = W.length by omega, show 6 - (r : Int) - 1 = 6 - ((r + 1 : Nat) : Int) by omega]
    have h111 : jup (jup Y1 149 111 W.length) 149 112 (6 - ((r + 1 : Nat) : Int)) 149 111 = W.length := by rw [jup_row _ _ _ _ _ (by omega), jup_same]
    have h228 : jup (jup Y1 149 111 W.length) 149 112 (6 - ((r + 1 : Nat) : Int)) 228 W.length = x := by rw [jup_rw _ _ _ _ _ (by omega), jup_rw _ _ _ _ _ (by omega)]; exact a5.2.1
    rw [h_X12_qGoesOn_43, hlkm]
    simp only [Int.reduceLE, reduceIte]
    rw [e1]
    simp only [Option.bind_some]
    rw [hX2, h111, gr_149_110 hG, gl_228 hG, h228]
    simp only [if_pos (show (0 : Int) ≤ (W.length : Int) by omega), if_pos (show (W.length : Int) < 1700 by omega), Int.reduceLE, reduceIte]
  have e115 : ∀ Y : jX, (jN (d + 5) 307 115 [(22, 149), (2, (-1))] [] (G, Y)).bind (KG d w) = QE d w G Y := fun Y => by
    rw [h_X12_qGoesOn_115]
    simp only [Int.reduceLE, reduceIte]
    unfold QE QG
    cases jD (d + 5) 305 [(22, 149)] (G, Y) with
    | none => rfl
    | some q => rfl
  have emm : ∀ (v op : Int), toM op = v → ∃ Y, (jN (d + 5) 307 112 [(22, 149), (2, (-1))] [(0, v), (22, 149)] (G, jup (jup Y1 149 111 W.length) 149 112 (6 - ((r + 1 : Nat) : Int)))).bind (KG d w) = QE d w G Y ∧ mS Y T u (nx T κ) (r + 1) W b (C ++ l ++ [op]) ∧ mfQ X Y := fun v op hv => by
    obtain ⟨Y, e, k, f, _⟩ := t_qCode (d + 4) hG op v hv hY2 (by rw [List.length_append]; omega)
    refine ⟨Y, ?_, k, mfQ_t F2 f⟩
    rw [h_X12_qGoesOn_112]
    simp only [Int.reduceLE, reduceIte]
    rw [e]
    simp only [Option.bind_some]
    exact e115 Y
  unfold QG
  rw [to43, e43]
  by_cases x20 : x = 20
  · rw [if_pos x20, if_pos x20, List.append_nil]
    exact ⟨_, e115 _, hY2, F2⟩
  · rw [if_neg x20, if_neg x20]
    by_cases x23 : x = 23
    · rw [if_pos x23, if_pos x23]; exact emm 5 10012 rfl
    · rw [if_neg x23, if_neg x23]; exact emm 6 10013 rfl
/-- a sign is pushed, what binds as strongly being dropped first -/
theorem mS_pushS {X : jX} {T : aT} {u : Int} {κ : aK} {r : Nat} {W : List Int} {b : Int} {C : List Int} (v : Int) (h : mS X T u κ r W b C) : mS (jup (jup X 228 W.length v) 149 111 (W.length + 1)) T u κ r (v :: W) b C := by
  have := mS_push v h.2.2.2.2.2.1.2 h
  rw [jup_id X 149 112 _ h.2.2.2.2.2.1.1] at this
  exact this
theorem t_qOnC (d : Nat) {G : jG} {X : jX} {T : aT} {u : Int} {κ : aK} {r : Nat} {W : List Int} {b x : Int} {C : List Int} (hG : GG G) (v : Int) (h : mS X T u κ r (x :: W) b C) (hw : W.length < 1699) : (x = v → jD (d + 1) 297 [(22, 149), (0, v)] (G, X) = some (1, (G, X))) ∧ (x ≠ v → jD (d + 1) 297 [(22, 149), (0, v)] (G, X) = some (0, (G, X))) := by
  have e := t_qIsOn d hG v h (by rw [List.length_cons]; omega)
  exact ⟨fun q => by rw [e, if_pos ⟨List.cons_ne_nil _ _, q⟩], fun q => by rw [e, if_neg (fun y => q y.2)]⟩
theorem g_162 (d : Nat) {G : jG} {T : aT} {u : Int} {κ : aK} {r : Nat} {W : List Int} {b : Int} (hG : GG G) (v : Int) (hW : W.headD 0 ≠ 3 ∧ W.headD 0 ≠ 4) : ∀ (l : List Int) (X : jX) (C : List Int), (∀ o ∈ l, o = 10010 ∨ o = 10011) → mS X T u κ r (l.map toM ++ W) b C → C.length + l.length ≤ 1700 → l.length + W.length ≤ 1599 → ∃ Y, jN (d + 2) 307 162 [(22, 149), (0, v)] [] (G, X) = some (1, (G, Y)) ∧ mS Y T u κ r (v :: W) b (C ++ l) ∧ mfQ X Y := by
  intro l
  induction l with
  | nil =>
    intro X C ho h hc hw
    rw [List.length_nil, Nat.zero_add] at hw
    have h' : mS X T u κ r W b C := h
    have e3 := t_qIsOn (d + 1) hG 3 h' (by omega)
    have e4 := t_qIsOn (d + 1) hG 4 h' (by omega)
    rw [if_neg (fun y => hW.1 y.2)] at e3
    rw [if_neg (fun y => hW.2 y.2)] at e4
    refine ⟨_, ?_, by rw [List.append_nil]; exact mS_pushS v h', mfQ_t (mfQ_c (Or.inr rfl)) (mfQ_u (by omega))⟩
    rw [h_X12_qGoesOn_162]
    simp only [Int.reduceLE, reduceIte]
    rw [e3]
    simp only [Option.bind_some, reduceIte]
    rw [e4]
    simp only [Option.bind_some, reduceIte]
    rw [gr_149_110 hG, gl_228 hG, h'.2.2.2.2.1.1, jup_rw _ _ _ _ _ (by omega), h'.2.2.2.2.1.1, jadd_id (by omega) (by omega)]
    simp only [if_pos (show (0 : Int) ≤ (W.length : Int) by omega), if_pos (show (W.length : Int) < 1700 by omega), Int.reduceLE, reduceIte]
  | cons o l ih =>
    intro X C ho h hc hw
    rw [List.length_cons] at hc hw
    have hml : (l.map toM ++ W).length = l.length + W.length := by rw [List.length_append, List.length_map]
    have h' : mS X T u κ r (toM o :: (l.map toM ++ W)) b C := h
    have e3 := t_qOnC (d + 1) hG 3 h' (by omega)
    have e4 := t_qOnC (d + 1) hG 4 h' (by omega)
    obtain ⟨Y1, e1, k1, f1, _⟩ := t_qDrops d hG o h' (by omega) (by omega)
    obtain ⟨Y, e, k, f⟩ := ih Y1 (C ++ [o]) (fun x hx => ho x (List.mem_cons_of_mem _ hx)) k1 (by rw [List.length_append, List.length_singleton]; omega) (by omega)
    have e178 : jN (d + 2) 307 178 [(22, 149), (0, v)] [] (G, X) = some (1, (G, Y)) := by
      rw [h_X12_qGoesOn_178]
      simp only [Int.reduceLE, reduceIte]
      rw [e1]
      simp only [Option.bind_some]
      exact e
    refine ⟨Y, ?_, by rw [show C ++ o :: l = C ++ [o] ++ l by simp only [List.append_assoc, List.singleton_append]]; exact k, mfQ_t f1 f⟩
    rw [h_X12_qGoesOn_162]
    simp only [Int.reduceLE, reduceIte]
    rcases ho o List.mem_cons_self with rfl | rfl
    · rw [e3.1 rfl]
      simp only [Option.bind_some]
      rw [if_neg (by omega)]; exact e178
    · rw [e3.2 (by decide)]
      simp only [Option.bind_some, reduceIte]
      rw [e4.1 rfl]
      simp only [Option.bind_some]
      rw [if_neg (by omega)]; exact e178
theorem g_247 (d : Nat) {G : jG} {T : aT} {u : Int} {κ : aK} {r : Nat} {W : List Int} {b : Int} (hG : GG G) (v : Int) (hW : W.headD 0 ≠ 3 ∧ W.headD 0 ≠ 4 ∧ W.headD 0 ≠ 1 ∧ W.headD 0 ≠ 2) : ∀ (l : List Int) (X : jX) (C : List Int), (∀ o ∈ l, 10008 ≤ o ∧ o ≤ 10011) → mS X T u κ r (l.map toM ++ W) b C → C.length + l.length ≤ 1700 → l.length + W.length ≤ 1599 → ∃ Y, jN (d + 2) 307 247 [(22, 149), (0, v)] [] (G, X) = some (1, (G, Y)) ∧ mS Y T u κ r (v :: W) b (C ++ l) ∧ mfQ X Y := by
  intro l
  induction l with
  | nil =>
    intro X C ho h hc hw
    rw [List.length_nil, Nat.zero_add] at hw
    have h' : mS X T u κ r W b C := h
    have e3 := t_qIsOn (d + 1) hG 3 h' (by omega)
    have e4 := t_qIsOn (d + 1) hG 4 h' (by omega)
    have e1 := t_qIsOn (d + 1) hG 1 h' (by omega)
    have e2 := t_qIsOn (d + 1) hG 2 h' (by omega)
    rw [if_neg (fun y => hW.1 y.2)] at e3
    rw [if_neg (fun y => hW.2.1 y.2)] at e4
    rw [if_neg (fun y => hW.2.2.1 y.2)] at e1
    rw [if_neg (fun y => hW.2.2.2 y.2)] at e2
    refine ⟨_, ?_, by rw [List.append_nil]; exact mS_pushS v h', mfQ_t (mfQ_c (Or.inr rfl)) (mfQ_u (by omega))⟩
    rw [h_X12_qGoesOn_247]
    simp only [Int.reduceLE, reduceIte]
    rw [e3]
    simp only [Option.bind_some, reduceIte]
    rw [e4]
    simp only [Option.bind_some, reduceIte]
    rw [e1]
    simp only [Option.bind_some, reduceIte]
    rw [e2]
    simp only [Option.bind_some, reduceIte]
    rw [gr_149_110 hG, gl_228 hG, h'.2.2.2.2.1.1, jup_rw _ _ _ _ _ (by omega), h'.2.2.2.2.1.1, jadd_id (by omega) (by omega)]
    simp only [if_pos (show (0 : Int) ≤ (W.length : Int) by omega), if_pos (show (W.length : Int) < 1700 by omega), Int.reduceLE, reduceIte]
  | cons o l ih =>
    intro X C ho h hc hw
    rw [List.length_cons] at hc hw
    have hml : (l.map toM ++ W).length = l.length + W.length := by rw [List.length_append, List.length_map]
    have h' : mS X T u κ r (toM o :: (l.map toM ++ W)) b C := h
    have e3 := t_qOnC (d + 1) hG 3 h' (by omega)
    have e4 := t_qOnC (d + 1) hG 4 h' (by omega)
    have e1' := t_qOnC (d + 1) hG 1 h' (by omega)
    have e2' := t_qOnC (d + 1) hG 2 h' (by omega)
    obtain ⟨Y1, e1, k1, f1, _⟩ := t_qDrops d hG o h' (by omega) (by omega)
    obtain ⟨Y, e, k, f⟩ := ih Y1 (C ++ [o]) (fun x hx => ho x (List.mem_cons_of_mem _ hx)) k1 (by rw [List.length_append, List.length_singleton]; omega) (by omega)
    have e279 : jN (d + 2) 307 279 [(22, 149), (0, v)] [] (G, X) = some (1, (G, Y)) := by
      rw [h_X12_qGoesOn_279]
      simp only [Int.reduceLE, reduceIte]
      rw [e1]
      simp only [Option.bind_some]
      exact e
    refine ⟨Y, ?_, by rw [show C ++ o :: l = C ++ [o] ++ l by simp only [List.append_assoc, List.singleton_append]]; exact k, mfQ_t f1 f⟩
    rw [h_X12_qGoesOn_247]
    simp only [Int.reduceLE, reduceIte]
    have hoo : o = 10010 ∨ o = 10011 ∨ o = 10008 ∨ o = 10009 := by have := ho o List.mem_cons_self; omega
    rcases hoo with rfl | rfl | rfl | rfl
    · rw [e3.1 rfl]
      simp only [Option.bind_some]
      rw [if_neg (by omega)]; exact e279
    · rw [e3.2 (by decide)]
      simp only [Option.bind_some, reduceIte]
      rw [e4.1 rfl]
      simp only [Option.bind_some]
      rw [if_neg (by omega)]; exact e279
    · rw [e3.2 (by decide)]
      simp only [Option.bind_some, reduceIte]
      rw [e4.2 (by decide)]
      simp only [Option.bind_some, reduceIte]
      rw [e1'.1 rfl]
      simp only [Option.bind_some]
      rw [if_neg (by omega)]; exact e279
    · rw [e3.2 (by decide)]
      simp only [Option.bind_some, reduceIte]
      rw [e4.2 (by decide)]
      simp only [Option.bind_some, reduceIte]
      rw [e1'.2 (by decide)]
      simp only [Option.bind_some, reduceIte]
      rw [e2'.1 rfl]
      simp only [Option.bind_some]
      rw [if_neg (by omega)]; exact e279
