/-! READING: the reference's parts -/
theorem p_bad (d : Nat) {G : jG} {Y : jX} (h5 : Y 149 5 ≠ 0) (v1 v2 v3 : Int) {u4 u5 : jV} (hu4 : u4.1 = 2 ∨ u4.1 = 0) (hu5 : u5.1 = 2 ∨ u5.1 = 0) : jN (d + 5) 306 183 [(22, 149), (0, v1), (0, v2), (0, v3), u4, u5] [] (G, Y) = some (0, (G, Y)) := by
  have e186 : ∀ v1, jN (d + 5) 306 186 [(22, 149), (0, v1), (0, v2), (0, v3), u4, u5] [] (G, Y) = some (0, (G, Y)) := fun v1 => by
    rw [h_X12_qPartTold_186 _ _ _ (0, v2) (Or.inr rfl) (0, v3) (Or.inr rfl) u4 hu4 u5 hu5]
    simp only [if_neg h5, Int.reduceLE, reduceIte]
  rw [h_X12_qPartTold_183 _ _ _ _ _ u4 hu4 u5 hu5, h_X12_qPartTold_2 _ _ _ (0, v2) (Or.inr rfl) (0, v3) (Or.inr rfl) u4 hu4 u5 hu5]
  by_cases q : v1 = 0
  · rw [if_pos q]; exact e186 v1
  · rw [if_neg q]
    simp only [if_neg h5, Int.reduceLE, reduceIte]
    exact e186 v1
theorem p_go (d : Nat) {w : Int} {G : jG} {Y : jX} (v2 v3 : Int) {u4 u5 : jV} (hu4 : u4.1 = 2 ∨ u4.1 = 0) (hu5 : u5.1 = 2 ∨ u5.1 = 0) : (jN (d + 5) 306 183 [(22, 149), (0, 1), (0, v2), (0, v3), u4, u5] [] (G, Y)).bind (KP d w) = QP d w G (0, v2) (0, v3) u4 u5 Y := by
  rw [h_X12_qPartTold_183 _ _ _ _ _ u4 hu4 u5 hu5]
  rfl
theorem qw_22 : ∀ w : Nat, w < 35 → ((10 ≤ qw w ∧ qw w < 11) ↔ w = 22) := by decide +kernel
theorem of_is {T : aT} {κ : aK} {u : Int} (hu : u = 0 ∨ u = 1 ∨ u = 2) : (if 10 ≤ qw (wd T κ) ∧ qw (wd T κ) < 11 ∧ alw u (qw (wd T κ)) = true then qw (wd T κ) else -1) = if wd T κ = 22 ∧ u = 2 then 10 else -1 := by
  have key : (10 ≤ qw (wd T κ) ∧ qw (wd T κ) < 11) ↔ wd T κ = 22 := by
    rcases wd_b T κ with h | h
    · rw [h, qw_n.1]; exact ⟨fun y => by omega, fun y => by omega⟩
    · have := qw_22 (wd T κ).toNat (by omega)
      rw [show (((wd T κ).toNat : Nat) : Int) = wd T κ by omega] at this
      rw [this]
      exact ⟨fun y => by omega, fun y => by omega⟩
  by_cases q : wd T κ = 22
  · rw [q, show qw 22 = 10 from rfl]
    rcases hu with rfl | rfl | rfl <;> rfl
  · rw [if_neg (fun y => q (key.1 ⟨y.1, y.2.1⟩)), if_neg (fun y => q y.1)]
theorem p_head (d : Nat) {G : jG} {X : jX} {T : aT} {u : Int} {κ : aK} {r : Nat} {W : List Int} {b : Int} {C : List Int} (hG : GG G) (hT : okT T) (hu : u = 0 ∨ u = 1 ∨ u = 2) (h : mS X T u κ r W b C) {u2 u3 u4 u5 : jV} (hu2 : u2.1 = 2 ∨ u2.1 = 0) (hu3 : u3.1 = 2 ∨ u3.1 = 0) (hu4 : u4.1 = 2 ∨ u4.1 = 0) (hu5 : u5.1 = 2 ∨ u5.1 = 0) : ∃ v2 v3 : Int, (v3 = if wd T κ = 22 ∧ u = 2 then 10 else -1) ∧ jN (d + 5) 306 2 [(22, 149), (0, 1), u2, u3, u4, u5] [] (G, X) = if mk T κ 40 = true then ((jD (d + 5) 296 [(22, 149), (0, 20), (0, κ.1)] (G, lk X κ)).bind fun q3 => jN (d + 5) 306 183 [(22, 149), (0, 1), (0, v2), (0, v3), u4, u5] [] (q3.2.1, jup q3.2.2 149 2 (jadd (q3.2.2 149 2) 1))) else if wd T κ = 27 ∨ wd T κ = 28 then jN (d + 5) 306 78 [(22, 149), (0, 1), (0, v2), (0, v3), u4, u5] [] (G, lk X κ) else if v3 = -1 then jN (d + 5) 306 183 [(22, 149), (0, 0), (0, v2), (0, v3), u4, u5] [] (G, lk X κ) else ((jD (d + 5) 296 [(22, 149), (0, jsub (jadd 60 v3) 10), (0, κ.1)] (G, lk X κ)).bind fun q6 => (jD (d + 5) 304 [(22, 149), (0, v3)] (q6.2.1, q6.2.2)).bind fun q7 => jN (d + 5) 306 183 [(22, 149), (0, 1), (0, v2), (0, v3), u4, u5] [] (q7.2.1, q7.2.2)) := by
  have hk := mS_lk h
  have e1 := t_look (d + 4) hG hT h.1 h.2.1
  have e2 := t_qWordOf (d + 1) hG hT hk.1 hk.2.1 hk.2.2.1.1 u 10 11 hk.2.2.1.2.1
  rw [lk_lk, of_is hu] at e2
  have e3 := t_isW (d + 3) hG hT hk.1 hk.2.1 hk.2.2.1.1 214 27 (by decide)
  have e4 := t_isW (d + 3) hG hT hk.1 hk.2.1 hk.2.2.1.1 215 28 (by decide)
  rw [lk_lk] at e3 e4
  refine ⟨tat T κ.1, _, rfl, ?_⟩
  rw [h_X12_qPartTold_2 _ _ _ u2 hu2 u3 hu3 u4 hu4 u5 hu5, if_neg (by omega), h.2.2.1.1]
  simp only [Int.reduceLE, reduceIte]
  rw [e1]
  simp only [Option.bind_some]
  rw [e2]
  simp only [Option.bind_some]
  generalize (if wd T κ = 22 ∧ u = 2 then (10 : Int) else -1) = v3
  by_cases q : mk T κ 40 = true
  · rw [if_pos q, if_pos ((tat_mk (mS_in h) (by omega)).2 q), lk_at]
  · rw [if_neg q, if_neg (fun y => q ((tat_mk (mS_in h) (by omega)).1 y)), gr_149_95 hG, e3]
    simp only [Option.bind_some]
    by_cases q1 : wd T κ = 27
    · rw [if_pos (show wd T κ = ((27 : Nat) : Int) from q1), if_neg (by omega), if_pos (Or.inl q1)]
    · rw [if_neg (show ¬ wd T κ = ((27 : Nat) : Int) from q1), if_pos rfl, gr_149_96 hG, e4]
      simp only [Option.bind_some]
      by_cases q2 : wd T κ = 28
      · rw [if_pos (show wd T κ = ((28 : Nat) : Int) from q2), if_neg (by omega), if_pos (Or.inr q2)]
      · rw [if_neg (show ¬ wd T κ = ((28 : Nat) : Int) from q2), if_pos rfl, if_neg (show ¬ (wd T κ = 27 ∨ wd T κ = 28) by omega), lk_at]
/-- passing a sign, where the place is already there -/
theorem mS_at {Y : jX} {T : aT} {u : Int} {κ : aK} {r : Nat} {W : List Int} {b : Int} {C : List Int} (hT : okT T) (h : mS Y T u κ r W b C) (ha : Y 149 2 = κ.1) (h3 : srt T κ.1 = 3) : mS (jup Y 149 2 (jadd (Y 149 2) 1)) T u (nx T κ) r W b C := by
  have hi := mS_in h
  have := hi.1
  have := hi.2
  have := hT.2.1
  have e : tk Y T κ = jup Y 149 2 (jadd (Y 149 2) 1) := by
    unfold tk lk
    rw [if_pos h3, jup_id Y 149 2 κ.1 ha, ha, jadd_id (by omega) (by omega)]
  rw [← e]
  exact mS_tk (by omega) h
theorem QP_open (d : Nat) {w : Int} {G : jG} {X : jX} {T : aT} {u : Int} {κ : aK} {r : Nat} {W : List Int} {b : Int} {C : List Int} (hG : GG G) (hT : okT T) (hu : u = 0 ∨ u = 1 ∨ u = 2) (h : mS X T u κ r W b C) {u2 u3 u4 u5 : jV} (hu2 : u2.1 = 2 ∨ u2.1 = 0) (hu3 : u3.1 = 2 ∨ u3.1 = 0) (hu4 : u4.1 = 2 ∨ u4.1 = 0) (hu5 : u5.1 = 2 ∨ u5.1 = 0) (hw : W.length < 1600) (hc : C.length ≤ 1690) (q : mk T κ 40 = true) : (∀ r', r = r' + 1 → ∃ (Y : jX) (v2 v3 : Int), QP d w G u2 u3 u4 u5 X = QP d w G (0, v2) (0, v3) u4 u5 Y ∧ mS Y T u (nx T κ) r' (20 :: W) b C ∧ mfQ X Y) ∧ (r = 0 → ∃ Y, QP d w G u2 u3 u4 u5 X = some (0, (G, Y)) ∧ Y 149 5 = 4 ∧ Y 149 6 = κ.1 ∧ mfB X Y) := by
  have hk := mS_lk h
  have h3 := mk_s3 (c := 40) (by omega) q
  obtain ⟨v2, v3, _, e⟩ := p_head d hG hT hu h hu2 hu3 hu4 hu5
  rw [if_pos q] at e
  obtain ⟨o1, o2⟩ := t_qOpens (d + 3) hG 20 κ.1 hk (by omega)
  constructor
  · intro r' hr
    obtain ⟨Y, e1, k1, f1, p1⟩ := o1 r' hr
    rw [e1] at e
    simp only [Option.bind_some] at e
    refine ⟨jup Y 149 2 (jadd (Y 149 2) 1), v2, v3, ?_, mS_at hT k1 (by rw [p1, lk_at]) h3, mfQ_t (mfQ_0 (lk_0 X κ)) (mfQ_t f1 (mfQ_u (by omega)))⟩
    rw [← p_go d v2 v3 hu4 hu5]
    unfold QP
    rw [e]
  · intro hr
    rw [o2 hr] at e
    simp only [Option.bind_some] at e
    generalize hY : jup (jup (lk X κ) 149 5 4) 149 6 κ.1 = Y at e
    have y5 : Y 149 5 = 4 := by rw [← hY, jup_row _ _ _ _ _ (by omega), jup_same]
    have y6 : Y 149 6 = κ.1 := by rw [← hY, jup_same]
    have z5 : jup Y 149 2 (jadd (Y 149 2) 1) 149 5 = 4 := by rw [jup_row _ _ _ _ _ (by omega)]; exact y5
    rw [p_bad d (by rw [z5]; omega) 1 v2 v3 hu4 hu5] at e
    refine ⟨_, QP_f e (by rw [z5]; omega), by rw [jup_row _ _ _ _ _ (by omega)]; exact z5, by rw [jup_row _ _ _ _ _ (by omega), jup_row _ _ _ _ _ (by omega)]; exact y6, ?_⟩
    rw [← hY]
    exact mfB_0 h hc (mf0_t (lk_0 X κ) (mf0_t (mf0_u (Or.inr (by omega))) (mf0_t (mf0_u (Or.inr (by omega))) (mf0_u (Or.inl rfl)))))
theorem QP_tubs (d : Nat) {w : Int} {G : jG} {X : jX} {T : aT} {u : Int} {κ : aK} {r : Nat} {W : List Int} {b : Int} {C : List Int} (hG : GG G) (hT : okT T) (hu : u = 0 ∨ u = 1 ∨ u = 2) (h : mS X T u κ r W b C) {u2 u3 u4 u5 : jV} (hu2 : u2.1 = 2 ∨ u2.1 = 0) (hu3 : u3.1 = 2 ∨ u3.1 = 0) (hu4 : u4.1 = 2 ∨ u4.1 = 0) (hu5 : u5.1 = 2 ∨ u5.1 = 0) (hw : W.length < 1600) (hc : C.length ≤ 1690) (q : wd T κ = 22 ∧ u = 2) : (∀ r', r = r' + 1 → ∃ (Y : jX) (v2 v3 : Int), QP d w G u2 u3 u4 u5 X = QP d w G (0, v2) (0, v3) u4 u5 Y ∧ mS Y T u (nx T κ) r' (60 :: W) b C ∧ mfQ X Y) ∧ (r = 0 → ∃ Y, QP d w G u2 u3 u4 u5 X = some (0, (G, Y)) ∧ Y 149 5 = 4 ∧ Y 149 6 = κ.1 ∧ mfB X Y) := by
  have hk := mS_lk h
  have hso := wd_so (T := T) (κ := κ) (by omega)
  have hsr : srt T κ.1 = 1 := by rcases so_b T κ with z | z <;> omega
  have hm40 : ¬ mk T κ 40 = true := fun q => by have := ((mk_so (by omega)).1 q).1; omega
  have hqw : qw (wd T κ) = 10 := by rw [q.1]; rfl
  obtain ⟨v2, v3, hv3, e⟩ := p_head d hG hT hu h hu2 hu3 hu4 hu5
  rw [if_pos q] at hv3
  rw [if_neg hm40, if_neg (show ¬ (wd T κ = 27 ∨ wd T κ = 28) by omega), hv3, if_neg (show ¬ (10 : Int) = -1 by omega), show jsub (jadd 60 10) 10 = 60 by rw [jadd_id (by omega) (by omega), jsub_id (by omega) (by omega)]; rfl] at e
  obtain ⟨o1, o2⟩ := t_qOpens (d + 3) hG 60 κ.1 hk (by omega)
  constructor
  · intro r' hr
    obtain ⟨Y, e1, k1, f1, p1⟩ := o1 r' hr
    have ea := t_qAsksWord d hG hT k1.1 k1.2.1 k1.2.2.1.1 (by omega)
    rw [hqw] at ea
    rw [e1] at e
    simp only [Option.bind_some] at e
    rw [ea] at e
    simp only [Option.bind_some] at e
    refine ⟨tk Y T κ, v2, 10, ?_, mS_tk (by omega) k1, mfQ_t (mfQ_0 (lk_0 X κ)) (mfQ_t f1 (mfQ_0 (tk_0 Y T κ)))⟩
    rw [← p_go d v2 10 hu4 hu5]
    unfold QP
    rw [e]
  · intro hr
    rw [o2 hr] at e
    simp only [Option.bind_some] at e
    generalize hY : jup (jup (lk X κ) 149 5 4) 149 6 κ.1 = Y at e
    have y5 : Y 149 5 = 4 := by rw [← hY, jup_row _ _ _ _ _ (by omega), jup_same]
    have y6 : Y 149 6 = κ.1 := by rw [← hY, jup_same]
    have ea : jD (d + 5) 304 [(22, 149), (0, 10)] (G, Y) = some (0, (G, Y)) := by
      rw [e_X12_qAsksWord]
      simp only [Int.reduceEq, Int.reduceLE, reduceIte]
      rw [e_X12_asks, y5]
      simp only [Int.reduceEq, Int.reduceLE, reduceIte, Option.bind_some]
    rw [ea] at e
    simp only [Option.bind_some] at e
    rw [p_bad d (by rw [y5]; omega) 1 v2 10 hu4 hu5] at e
    refine ⟨_, QP_f e (by rw [y5]; omega), by rw [jup_row _ _ _ _ _ (by omega)]; exact y5, by rw [jup_row _ _ _ _ _ (by omega)]; exact y6, ?_⟩
    rw [← hY]
    exact mfB_0 h hc (mf0_t (lk_0 X κ) (mf0_t (mf0_u (Or.inr (by omega))) (mf0_u (Or.inr (by omega)))))
theorem QP_choice (d : Nat) {w : Int} {G : jG} {X : jX} {T : aT} {u : Int} {κ : aK} {r : Nat} {W : List Int} {b : Int} {C : List Int} (hG : GG G) (hT : okT T) (hu : u = 0 ∨ u = 1 ∨ u = 2) (h : mS X T u κ r W b C) {u2 u3 u4 u5 : jV} (hu2 : u2.1 = 2 ∨ u2.1 = 0) (hu3 : u3.1 = 2 ∨ u3.1 = 0) (hu4 : u4.1 = 2 ∨ u4.1 = 0) (hu5 : u5.1 = 2 ∨ u5.1 = 0) (hw : W.length < 1600) (hc : C.length ≤ 1690) (q : wd T κ = 27 ∨ wd T κ = 28) : (mk T (nx T κ) 40 = true → (∀ r', r = r' + 1 → ∃ (Y : jX) (v2 v3 v4 v5 : Int), QP d w G u2 u3 u4 u5 X = QP d w G (0, v2) (0, v3) (0, v4) (0, v5) Y ∧ mS Y T u (nx T (nx T κ)) r' ((if wd T κ = 27 then 21 else 22) :: W) b C ∧ mfQ X Y) ∧ (r = 0 → ∃ Y, QP d w G u2 u3 u4 u5 X = some (0, (G, Y)) ∧ Y 149 5 = 4 ∧ Y 149 6 = (nx T κ).1 ∧ mfB X Y)) ∧ (¬ mk T (nx T κ) 40 = true → ∃ Y, QP d w G u2 u3 u4 u5 X = some (0, (G, Y)) ∧ Y 149 5 = 1 ∧ Y 149 6 = (nx T κ).1 ∧ mfB X Y) := by
  have hk := mS_lk h
  have hso := wd_so (T := T) (κ := κ) (by omega)
  have hsr : srt T κ.1 = 1 := by rcases so_b T κ with z | z <;> omega
  have hm40 : ¬ mk T κ 40 = true := fun q => by have := ((mk_so (by omega)).1 q).1; omega
  obtain ⟨v2, v3, hv3, e⟩ := p_head d hG hT hu h hu2 hu3 hu4 hu5
  rw [if_neg hm40, if_pos q] at e
  have k1 := mS_tk (X := X) (by omega) h
  have hin := mS_in k1
  -- behind the word
  obtain ⟨v4, hv4, e78⟩ : ∃ v4 : Int, v4 = (if wd T κ = 27 then 1 else 0) ∧ jN (d + 5) 306 78 [(22, 149), (0, 1), (0, v2), (0, v3), u4, u5] [] (G, lk X κ) = jN (d + 5) 306 101 [(22, 149), (0, 1), (0, v2), (0, v3), (0, v4), u5] [] (G, tk X T κ) := by
    have et := t_takes (d + 2) hG hT hk.1 hk.2.1 hk.2.2.1.1 214 27 (by decide)
    have ea := t_asks (d + 1) hG hT hk.1 hk.2.1 hk.2.2.1.1 215 28 (by decide)
    rw [tk_lk, lk_lk] at et
    rw [tk_lk, fl_lk] at ea
    refine ⟨_, rfl, ?_⟩
    rw [h_X12_qPartTold_78 _ _ _ _ _ u4 hu4 u5 hu5, gr_149_95 hG]
    simp only [Int.reduceLE, reduceIte]
    rw [et]
    by_cases q1 : wd T κ = 27
    · rw [if_pos (show wd T κ = ((27 : Nat) : Int) from q1), if_pos q1]
      simp only [Option.bind_some]
      rw [if_neg (by omega)]
    · rw [if_neg (show ¬ wd T κ = ((27 : Nat) : Int) from q1), if_neg q1]
      simp only [Option.bind_some, reduceIte]
      have q28 : wd T κ = ((28 : Nat) : Int) := by omega
      rw [gr_149_96 hG, ea, if_pos q28]
      rfl
  have F1 : mfQ X (lk (tk X T κ) (nx T κ)) := mfQ_0 (mf0_t (tk_0 X T κ) (lk_0 _ _))
  have k2 := mS_lk k1
  have el := t_look (d + 4) hG hT k1.1 k1.2.1
  rw [e78, h_X12_qPartTold_101 _ _ _ _ _ _ u5 hu5] at e
  simp only [Int.reduceLE, reduceIte] at e
  rw [el] at e
  simp only [Option.bind_some] at e
  rw [lk_at] at e
  constructor
  · intro q1
    rw [if_pos ((tat_mk hin (by omega)).2 q1), h_X12_qPartTold_118 _ _ _ _ _ _ _ u5 hu5, if_neg (show ¬ (nx T κ).1 = -1 by have := hin.1; omega)] at e
    obtain ⟨x, hx, e139⟩ : ∃ x : Int, x = (if wd T κ = 27 then 21 else 22) ∧ jN (d + 5) 306 2 [(22, 149), (0, 1), u2, u3, u4, u5] [] (G, X) = ((jD (d + 5) 296 [(22, 149), (0, x), (0, (nx T κ).1)] (G, lk (tk X T κ) (nx T κ))).bind fun q1 => jN (d + 5) 306 144 [(22, 149), (0, 1), (0, v2), (0, v3), (0, v4), (0, (nx T κ).1)] [] (q1.2.1, q1.2.2)) := by
      refine ⟨_, rfl, ?_⟩
      rw [e, hv4]
      by_cases q2 : wd T κ = 27
      · rw [if_pos q2, if_pos q2, if_neg (by omega), h_X12_qPartTold_139]
        simp only [Int.reduceLE, reduceIte]
      · rw [if_neg q2, if_neg q2, if_pos rfl, h_X12_qPartTold_139]
        simp only [Int.reduceLE, reduceIte]
    obtain ⟨o1, o2⟩ := t_qOpens (d + 3) hG x (nx T κ).1 k2 (by omega)
    rw [← hx]
    constructor
    · intro r' hr
      obtain ⟨Y, e1, k3, f3, p3⟩ := o1 r' hr
      have ea := t_asksSign (d + 2) (c := 40) hG hT k3.1 k3.2.1 k3.2.2.1.1 (by omega) (by omega)
      rw [if_pos q1] at ea
      rw [e1] at e139
      simp only [Option.bind_some] at e139
      rw [h_X12_qPartTold_144] at e139
      simp only [Int.reduceLE, reduceIte] at e139
      rw [ea] at e139
      simp only [Option.bind_some] at e139
      refine ⟨tk Y T (nx T κ), v2, v3, v4, (nx T κ).1, ?_, mS_tk (by have := mk_s3 (c := 40) (by omega) q1; omega) k3, mfQ_t F1 (mfQ_t f3 (mfQ_0 (tk_0 _ _ _)))⟩
      rw [← p_go d v2 v3 (Or.inr rfl) (Or.inr rfl)]
      unfold QP
      rw [e139]
    · intro hr
      rw [o2 hr] at e139
      simp only [Option.bind_some] at e139
      generalize hY : jup (jup (lk (tk X T κ) (nx T κ)) 149 5 4) 149 6 (nx T κ).1 = Y at e139
      have y5 : Y 149 5 = 4 := by rw [← hY, jup_row _ _ _ _ _ (by omega), jup_same]
      have y6 : Y 149 6 = (nx T κ).1 := by rw [← hY, jup_same]
      rw [h_X12_qPartTold_144, e_X12_asksSign, y5] at e139
      simp only [Int.reduceEq, Int.reduceLE, reduceIte, Option.bind_some] at e139
      rw [p_bad d (by rw [y5]; omega) 1 v2 v3 (Or.inr rfl) (Or.inr rfl)] at e139
      refine ⟨_, QP_f e139 (by rw [y5]; omega), by rw [jup_row _ _ _ _ _ (by omega)]; exact y5, by rw [jup_row _ _ _ _ _ (by omega)]; exact y6, ?_⟩
      rw [← hY]
      exact mfB_0 h hc (mf0_t (mf0_t (tk_0 X T κ) (lk_0 _ _)) (mf0_t (mf0_u (Or.inr (by omega))) (mf0_u (Or.inr (by omega)))))
  · intro q1
    have ea := t_asksSign (d + 2) (c := 40) hG hT k2.1 k2.2.1 k2.2.2.1.1 (by omega) (by omega)
    rw [if_neg q1, fl_lk] at ea
    rw [if_neg (fun y => q1 ((tat_mk hin (by omega)).1 y)), h_X12_qPartTold_118 _ _ _ _ _ _ _ u5 hu5, if_pos rfl, h_X12_qPartTold_144] at e
    simp only [Int.reduceLE, reduceIte] at e
    rw [ea] at e
    simp only [Option.bind_some] at e
    have z := fl_5 (tk X T κ) (nx T κ) 1 (nx T κ).1
    rw [p_bad d (by rw [z.1]; omega) 1 v2 v3 (Or.inr rfl) (Or.inr rfl)] at e
    exact ⟨_, QP_f e (by rw [z.1]; omega), by rw [jup_row _ _ _ _ _ (by omega)]; exact z.1, by rw [jup_row _ _ _ _ _ (by omega)]; exact z.2, mfB_0 h hc (mf0_t (tk_0 X T κ) (fl_0 _ _ _ _))⟩
