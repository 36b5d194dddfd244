theorem r_part (d : Nat) {w : Int} {G : jG} {T : aT} {u b : Int} (hG : GG G) (hT : okT T) (hu : u = 0 ∨ u = 1 ∨ u = 2) (b0 : 0 ≤ b) : ∀ r : Nat, PT d w G T u b r
  | 0 => r_part_0 d hG hT hu b0
  | r + 1 => r_part_S d hG hT hu b0 (r_part d hG hT hu b0 r)
/-- how a method that reads ends -/
def endS (G : jG) (X : jX) (T : aT) (u : Int) (r : Nat) (W : List Int) (b : Int) (C : List Int) (L : jR) (R : rs) : Prop := match R with
  | .inl e => ∃ Y, L = some (0, (G, Y)) ∧ Y 149 5 = e.1 ∧ Y 149 6 = e.2 ∧ mfB X Y
  | .inr q => ∃ Y, L = some (0, (G, Y)) ∧ mS Y T u q.1 r W b (C ++ q.2) ∧ mfQ X Y
theorem mS_base {X : jX} {T : aT} {u : Int} {κ : aK} {r : Nat} {W : List Int} {b : Int} {C : List Int} (v : Int) (h : mS X T u κ r W b C) : mS (jup X 149 113 v) T u κ r W v C := by
  obtain ⟨a1, a2, a3, a4, a5, a6, a7⟩ := h
  have e : ∀ j, j ≠ 113 → jup X 149 113 v 149 j = X 149 j := fun j hj => jup_row _ _ _ _ _ hj
  exact ⟨mB_Q (mfQ_u (by omega)) a1, mK_e (e 2 (by omega)) (e 4 (by omega)) a2, ⟨by rw [e 5 (by omega)]; exact a3.1, by rw [e 52 (by omega)]; exact a3.2.1, by rw [e 6 (by omega)]; exact a3.2.2⟩, ⟨by rw [e 109 (by omega)]; exact a4.1, fun i hi => by rw [jup_rw _ _ _ _ _ (by omega)]; exact a4.2 i hi⟩, ⟨by rw [e 111 (by omega)]; exact a5.1, by rw [jup_rw _ _ _ _ _ (by omega)]; exact a5.2⟩, by rw [e 112 (by omega)]; exact a6, jup_same _ _ _ _⟩
theorem t_sum_n (d : Nat) {G : jG} {T : aT} {u : Int} {κ : aK} {r : Nat} {W : List Int} {was v2 : Int} (hG : GG G) : ∀ (l : List Int) (X : jX) (C : List Int), mS X T u κ r (l.map toM ++ W) (W.length : Int) C → C.length + l.length ≤ 1690 → l.length + W.length ≤ 1599 → ∃ Y, jN (d + 6) 308 53 [(22, 149), (0, was), (0, v2)] [] (G, X) = some (0, (G, Y)) ∧ mS Y T u κ r W was (C ++ l) ∧ mfQ X Y := by
  intro l
  induction l with
  | nil =>
    intro X C h hc hw
    have h' : mS X T u κ r W (W.length : Int) C := h
    refine ⟨jup X 149 113 was, ?_, by rw [List.append_nil]; exact mS_base was h', mfQ_u (by omega)⟩
    rw [h_X12_qSums_53, h'.2.2.1.1, h'.2.2.2.2.1.1, h'.2.2.2.2.2.2, if_neg (show ¬ (W.length : Int) < W.length by omega)]
    simp only [Int.reduceLE, reduceIte]
  | cons o l ih =>
    intro X C h hc hw
    rw [List.length_cons] at hc hw
    have hml : (l.map toM ++ W).length = l.length + W.length := by rw [List.length_append, List.length_map]
    have h' : mS X T u κ r (toM o :: (l.map toM ++ W)) (W.length : Int) C := h
    obtain ⟨Y1, e1, k1, f1, _⟩ := t_qDrops (d + 4) hG o h' (by omega) (by omega)
    obtain ⟨Y, e, k, f⟩ := ih Y1 (C ++ [o]) k1 (by rw [List.length_append, List.length_singleton]; omega) (by omega)
    refine ⟨Y, ?_, by rw [show C ++ o :: l = C ++ [o] ++ l by simp only [List.append_assoc, List.singleton_append]]; exact k, mfQ_t f1 f⟩
    rw [h_X12_qSums_53, h'.2.2.1.1, h'.2.2.2.2.1.1, h'.2.2.2.2.2.2, if_pos (show (W.length : Int) < ((toM o :: (l.map toM ++ W)).length : Int) by rw [List.length_cons]; omega)]
    simp only [Int.reduceLE, reduceIte]
    rw [e1]
    simp only [Option.bind_some]
    exact e
theorem brk_b {W : List Int} : brk (W.length : Int) W = -1 := by
  cases W with
  | nil => rfl
  | cons x W => unfold brk; rw [if_pos (by rw [List.length_cons]; omega)]
theorem t_qSums (d : Nat) {G : jG} {X : jX} {T : aT} {u : Int} {κ : aK} {r : Nat} {W : List Int} {b : Int} {C : List Int} (hG : GG G) (hT : okT T) (hu : u = 0 ∨ u = 1 ∨ u = 2) (h : mS X T u κ r W b C) (hW : W.headD 0 ≠ 3 ∧ W.headD 0 ≠ 4 ∧ W.headD 0 ≠ 1 ∧ W.headD 0 ≠ 2) (hw : W.length + 3 * r + 3 ≤ 1000) (hc : C.length ≤ κ.1) : endS G X T u r W b C (jD (d + 7) 308 [(22, 149)] (G, X)) (sms T (prt T u r) κ) := by
  have hT1 := hT.2.1
  have h' := mS_base (W.length : Int) h
  have f0 : mfQ X (jup X 149 113 (W.length : Int)) := mfQ_u (by omega)
  have hS := r_sum d (w := b) hG hT hu (by omega) (r_part d hG hT hu (by omega) r) (u2 := (2, -1)) (u3 := (2, -1)) (u4 := (2, -1)) (u5 := (2, -1)) (Or.inl rfl) (Or.inl rfl) (Or.inl rfl) (Or.inl rfl) h' (by omega) (Or.inl rfl) hW hw hc
  have hg := sms_gd hT1 (prt_gd hT1 hu r) κ (mS_in h)
  have he := sms_end hT1 (prt_gd hT1 hu r) κ (mS_in h)
  have e0 : jD (d + 7) 308 [(22, 149)] (G, X) = QP d b G (2, -1) (2, -1) (2, -1) (2, -1) (jup X 149 113 (W.length : Int)) := by
    rw [e_X12_qSums, h.2.2.2.2.1.1, h.2.2.2.2.2.2]
    simp only [Int.reduceLE, reduceIte]
    exact QS_P d b G _ h'.2.2.1.1
  rw [e0]
  cases e1 : sms T (prt T u r) κ with
  | inl e' =>
    rw [e1] at hS
    obtain ⟨Z, z1, z2, z3, z4⟩ := hS
    exact ⟨Z, z1, z2, z3, mfB_t f0 z4⟩
  | inr p =>
    rw [e1] at hS hg he
    obtain ⟨Z, c0, l, z1, z2, z3, z4, z5, z6⟩ := hS
    have hp1 : κ.1 + p.2.length ≤ p.1.1 := hg.2.1
    have hpT : p.1.1 ≤ T.1 := hg.1.2
    have hpl : p.2.length = c0.length + l.length := by rw [z2, List.length_append]
    have hlm : (l.map toM ++ W).length = l.length + W.length := by rw [List.length_append, List.length_map]
    have hbr : brk (W.length : Int) (l.map toM ++ W) = -1 := by rw [brk_ops (opL_s z4) (by omega), brk_b]
    have e2 := g_122 d hG hT z3 (by omega) (by omega) (fun _ => by rw [hbr]; omega)
    rw [g_none d hG hT z3 he.1 he.2 (by omega) (by omega), hbr, if_neg (by omega), if_pos rfl] at e2
    obtain ⟨V, e3, k3, f3⟩ := t_sum_n d (was := b) (v2 := 0) hG l (lk Z p.1) (C ++ c0) (mS_lk z3) (by rw [List.length_append]; omega) (by omega)
    rw [List.append_assoc, ← z2] at k3
    refine ⟨V, ?_, k3, mfQ_t f0 (mfQ_t z6 (mfQ_t (mfQ_0 (lk_0 Z p.1)) f3))⟩
    rw [z1]
    unfold QG KG
    rw [e2]
    simp only [Option.bind_some, reduceIte]
    rw [h_X12_qSums_15, if_pos rfl]
    exact e3
/-! READING: the reference's tests -/
theorem t_raw_code (d : Nat) {G : jG} {Y : jX} (hG : GG G) (h1 : 0 ≤ Y 149 109) (h2 : Y 149 109 ≤ 1690) (v : Int) : ∃ Z, jD (d + 1) 295 [(22, 149), (0, v)] (G, Y) = some (0, (G, Z)) ∧ (∀ j, j ≠ 109 → Z 149 j = Y 149 j) ∧ mfQ Y Z := by
  refine ⟨jup (jup Y 227 (Y 149 109) v) 149 109 (jadd (jup Y 227 (Y 149 109) v 149 109) 1), ?_, fun j hj => by rw [jup_row _ _ _ _ _ hj, jup_rw _ _ _ _ _ (by omega)], mfQ_t (mfQ_c (Or.inl rfl)) (mfQ_u (by omega))⟩
  rw [e_X12_qCode, gr_149_108 hG, gl_227 hG]
  simp only [if_pos h1, if_pos (show Y 149 109 < 1700 by omega), Int.reduceLE, reduceIte]
/-- a fact that begins with no bracket and no not -/
theorem t_qFact (d : Nat) {G : jG} {X : jX} {T : aT} {u : Int} {κ : aK} {r : Nat} {W : List Int} {b : Int} {C : List Int} (hG : GG G) (hT : okT T) (hu : u = 0 ∨ u = 1 ∨ u = 2) (h : mS X T u κ r W b C) (hW : W.headD 0 ≠ 3 ∧ W.headD 0 ≠ 4 ∧ W.headD 0 ≠ 1 ∧ W.headD 0 ≠ 2) (hw : W.length + 3 * r + 3 ≤ 1000) (hc : C.length ≤ κ.1) : (wd T κ = 26 → ∃ Y, jD (d + 8) 309 [(22, 149)] (G, X) = some (0, (G, Y)) ∧ mS Y T u (nx T κ) r W b (C ++ [10014]) ∧ mfQ X Y) ∧ (wd T κ ≠ 26 → match cmp T (sms T (prt T u r)) κ with
  | .inl e => ∃ Y, jD (d + 8) 309 [(22, 149)] (G, X) = some (0, (G, Y)) ∧ Y 149 5 = e.1 ∧ Y 149 6 = e.2 ∧ mfQ X Y
  | .inr q => ∃ Y, jD (d + 8) 309 [(22, 149)] (G, X) = some (0, (G, Y)) ∧ mS Y T u q.1 r W b (C ++ q.2) ∧ mfQ X Y) := by
  have hT1 := hT.2.1
  have hin := mS_in h
  have et := t_takes (d + 4) hG hT h.1 h.2.1 h.2.2.1.1 213 26 (by decide)
  have hin1 := hin.2
  constructor
  · intro q
    have hso := wd_so (T := T) (κ := κ) (by omega)
    have hsr : srt T κ.1 ≠ 0 := by rcases so_b T κ with z | z <;> omega
    rw [if_pos (show wd T κ = ((26 : Nat) : Int) from q)] at et
    obtain ⟨Y, e1, k1, f1, _⟩ := t_qCode (d + 6) hG 10014 13 rfl (mS_tk (X := X) hsr h) (by omega)
    refine ⟨Y, ?_, k1, mfQ_t (mfQ_0 (tk_0 X T κ)) f1⟩
    rw [e_X12_qFact, gr_149_94 hG]
    simp only [Int.reduceLE, reduceIte]
    rw [et]
    simp only [Option.bind_some]
    rw [if_neg (by omega), e1]
    rfl
  · intro q
    rw [if_neg (show ¬ wd T κ = ((26 : Nat) : Int) from q)] at et
    have hk := mS_lk h
    have h1 := t_qSums d hG hT hu hk hW hw hc
    have hg := sms_gd hT1 (prt_gd hT1 hu r) κ hin
    unfold cmp
    have st : jD (d + 8) 309 [(22, 149)] (G, X) = ((jD (d + 7) 308 [(22, 149)] (G, lk X κ)).bind fun q2 => if q2.2.2 149 5 = 0 then ((jD (d + 7) 193 [(22, 149)] (q2.2.1, q2.2.2)).bind fun q3 => if q3.1 = 60 then (jN (d + 7) 309 63 [(22, 149), (0, q3.1)] [] (q3.2.1, q3.2.2)) else (if q3.1 = 62 then (jN (d + 7) 309 63 [(22, 149), (0, q3.1)] [] (q3.2.1, q3.2.2)) else (if q3.1 = 61 then (jN (d + 7) 309 63 [(22, 149), (0, q3.1)] [] (q3.2.1, q3.2.2)) else ((jD (d + 7) 190 [(22, 149), (0, 1), (0, q3.2.2 149 2)] (q3.2.1, q3.2.2)).bind fun q4 => some (0, (q4.2.1, q4.2.2)))))) else some (0, (q2.2.1, q2.2.2))) := by
      rw [e_X12_qFact, gr_149_94 hG]
      simp only [Int.reduceLE, reduceIte]
      rw [et]
      simp only [Option.bind_some, reduceIte]
    rw [st]
    cases e1 : sms T (prt T u r) κ with
    | inl e' =>
      rw [e1] at h1 hg
      obtain ⟨Z, z1, z2, z3, z4⟩ := h1
      have hne : e'.1 ≠ 0 := hg
      rw [z1]
      simp only [Option.bind_some]
      rw [if_neg (by rw [z2]; exact hne)]
      exact ⟨Z, rfl, z2, z3, mfQ_t (mfQ_0 (lk_0 X κ)) z4.1⟩
    | inr p =>
      rw [e1] at h1 hg
      obtain ⟨Z, z1, z2, z3⟩ := h1
      have hp1 : κ.1 + p.2.length ≤ p.1.1 := hg.2.1
      have hpT : p.1.1 ≤ T.1 := hg.1.2
      have F3 := mfQ_t (mfQ_0 (lk_0 X κ)) z3
      have hpin := mS_in z2
      rw [z1, bnd_r]
      simp only [Option.bind_some]
      rw [if_pos z2.2.2.1.1, t_look (d + 6) hG hT z2.1 z2.2.1]
      simp only [Option.bind_some]
      by_cases q5 : sgC T p.1 = -1
      · rw [if_pos q5]
        have hn : ¬ mk T p.1 60 = true ∧ ¬ mk T p.1 62 = true ∧ ¬ mk T p.1 61 = true := by
          unfold sgC at q5
          refine ⟨fun y => ?_, fun y => ?_, fun y => ?_⟩
          · rw [if_pos y] at q5; omega
          · by_cases y1 : mk T p.1 60 = true
            · rw [if_pos y1] at q5; omega
            · rw [if_neg y1, if_pos y] at q5; omega
          · by_cases y1 : mk T p.1 60 = true
            · rw [if_pos y1] at q5; omega
            · by_cases y2 : mk T p.1 62 = true
              · rw [if_neg y1, if_pos y2] at q5; omega
              · rw [if_neg y1, if_neg y2, if_pos y] at q5; omega
        have hk2 := mS_lk z2
        rw [if_neg (fun y => hn.1 ((tat_mk hpin (by omega)).1 y)), if_neg (fun y => hn.2.1 ((tat_mk hpin (by omega)).1 y)), if_neg (fun y => hn.2.2 ((tat_mk hpin (by omega)).1 y)), lk_at, t_fail (d + 6) hk2.2.2.1.1]
        have z := fl_5 Z p.1 1 p.1.1
        exact ⟨_, rfl, z.1, z.2, mfQ_t F3 (mfQ_0 (fl_0 Z p.1 1 p.1.1))⟩
      · rw [if_neg q5]
        obtain ⟨s1, s2⟩ := sgC_so q5
        have hn3 := nx_in hpin
        have hn4 := hn3.2.1 s1
        -- the sign
        obtain ⟨c, hc1, hc2, hc3⟩ : ∃ c : Int, mk T p.1 c = true ∧ (c = 60 ∧ sgC T p.1 = 10005 ∨ c = 62 ∧ sgC T p.1 = 10006 ∨ c = 61 ∧ sgC T p.1 = 10007) ∧ (c = 60 ∨ c = 62 ∨ c = 61) := by
          unfold sgC at q5 ⊢
          by_cases y1 : mk T p.1 60 = true
          · exact ⟨60, y1, Or.inl ⟨rfl, by rw [if_pos y1]⟩, Or.inl rfl⟩
          · by_cases y2 : mk T p.1 62 = true
            · exact ⟨62, y2, Or.inr (Or.inl ⟨rfl, by rw [if_neg y1, if_pos y2]⟩), Or.inr (Or.inl rfl)⟩
            · by_cases y3 : mk T p.1 61 = true
              · exact ⟨61, y3, Or.inr (Or.inr ⟨rfl, by rw [if_neg y1, if_neg y2, if_pos y3]⟩), Or.inr (Or.inr rfl)⟩
              · rw [if_neg y1, if_neg y2, if_neg y3] at q5; exact absurd rfl q5
        have htat := (tat_mk hpin (by omega)).2 hc1
        have hs3 := mk_s3 (by omega) hc1
        have htk : jup (lk Z p.1) 149 2 (jadd (lk Z p.1 149 2) 1) = tk Z T p.1 := by
          unfold tk
          have := hpin.1
          rw [if_pos hs3, lk_at, jadd_id (by omega) (by omega)]
        have k4 := mS_tk (X := Z) (by omega) z2
        have h2 := t_qSums d hG hT hu k4 hW hw (by rw [List.length_append]; omega)
        have hg2 := sms_gd hT1 (prt_gd hT1 hu r) (nx T p.1) hn3.1
        have to63 : ∀ L : jR, L = (if tat T p.1.1 = 60 then (jN (d + 7) 309 63 [(22, 149), (0, tat T p.1.1)] [] (G, lk Z p.1)) else (if tat T p.1.1 = 62 then (jN (d + 7) 309 63 [(22, 149), (0, tat T p.1.1)] [] (G, lk Z p.1)) else (if tat T p.1.1 = 61 then (jN (d + 7) 309 63 [(22, 149), (0, tat T p.1.1)] [] (G, lk Z p.1)) else ((jD (d + 7) 190 [(22, 149), (0, 1), (0, lk Z p.1 149 2)] (G, lk Z p.1)).bind fun q4 => some (0, (q4.2.1, q4.2.2)))))) → L = ((jD (d + 7) 308 [(22, 149)] (G, tk Z T p.1)).bind fun q1 => (jD (d + 7) 295 [(22, 149), (0, toM (sgC T p.1))] (q1.2.1, q1.2.2)).bind fun q2 => some (0, (q2.2.1, q2.2.2))) := fun L hL => by
          rw [hL, htat]
          rcases hc2 with ⟨rfl, y⟩ | ⟨rfl, y⟩ | ⟨rfl, y⟩
          · rw [if_pos rfl, h_X12_qFact_63, htk, y]
            simp only [Int.reduceLE, reduceIte]
            congr 1
            funext q1
            rw [h_X12_qFact_102]
            simp only [Int.reduceLE, reduceIte]
            rfl
          · rw [if_neg (by omega), if_pos rfl, h_X12_qFact_63, htk, y]
            simp only [Int.reduceLE, Int.reduceEq, reduceIte]
            congr 1
            funext q1
            rw [h_X12_qFact_102]
            simp only [Int.reduceLE, reduceIte]
            rfl
          · rw [if_neg (by omega), if_neg (by omega), if_pos rfl, h_X12_qFact_63, htk, y]
            simp only [Int.reduceLE, Int.reduceEq, reduceIte]
            congr 1
            funext q1
            rw [h_X12_qFact_102]
            simp only [Int.reduceLE, reduceIte]
            rfl
        rw [to63 _ rfl]
        have F4 := mfQ_t F3 (mfQ_0 (tk_0 Z T p.1))
        cases e2 : sms T (prt T u r) (nx T p.1) with
        | inl e' =>
          rw [e2] at h2
          obtain ⟨V, y1, y2, y3, y4⟩ := h2
          obtain ⟨V2, w1, w2, w3⟩ := t_raw_code (d + 6) hG y4.2.1 y4.2.2 (toM (sgC T p.1))
          rw [y1]
          simp only [Option.bind_some]
          rw [w1]
          exact ⟨V2, rfl, by rw [w2 5 (by omega)]; exact y2, by rw [w2 6 (by omega)]; exact y3, mfQ_t F4 (mfQ_t y4.1 w3)⟩
        | inr p' =>
          rw [e2] at h2 hg2
          obtain ⟨V, y1, y2, y3⟩ := h2
          have hp1' : (nx T p.1).1 + p'.2.length ≤ p'.1.1 := hg2.2.1
          have hpT' : p'.1.1 ≤ T.1 := hg2.1.2
          obtain ⟨V2, w1, w2, w3, _⟩ := t_qCode (d + 6) hG (sgC T p.1) _ rfl y2 (by rw [List.length_append, List.length_append]; omega)
          rw [y1, bnd_r]
          simp only [Option.bind_some]
          rw [w1]
          refine ⟨V2, rfl, ?_, mfQ_t F4 (mfQ_t y3 w3)⟩
          rw [show C ++ (p.2 ++ p'.2 ++ [sgC T p.1]) = C ++ p.2 ++ p'.2 ++ [sgC T p.1] by simp only [List.append_assoc]]
          exact w2
