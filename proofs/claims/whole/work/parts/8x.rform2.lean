theorem lp_P {T : aT} {u : Int} {H : Nat} {pt : aK → rs} (hp : ∀ κ, inT T κ → gdR T u H 0 κ (pt κ) ∧ gdL (sgP T) (pt κ)) : ∀ (m : Nat) (κ0 κ : aK) (c : List Int), gdR T u (H + 1) 0 κ0 (.inr (κ, c)) → sgP T κ = -1 → gdL (sgP T) (lp (sgS T) T pt m κ c) := by
  intro m
  induction m with
  | zero => intro κ0 κ c h hs; exact hs
  | succ m ih =>
    intro κ0 κ c h hs
    unfold lp
    by_cases q : sgS T κ = -1
    · rw [if_pos q]; exact hs
    · rw [if_neg q]
      obtain ⟨s1, s2⟩ := sgO_S T κ q
      have hin : inT T κ := h.1
      have hn := nx_in hin
      have hp' := hp (nx T κ) hn.1
      cases e : pt (nx T κ) with
      | inl e' => trivial
      | inr p =>
        rw [e] at hp'
        rw [bnd_r]
        exact ih κ0 p.1 _ (gd_join s2 h (hn.2.1 s1) hp'.1) hp'.2
theorem sms_end {T : aT} {u : Int} {H : Nat} {pt : aK → rs} (hT : T.1 ≤ 1600) (hp : ∀ κ, inT T κ → gdR T u H 0 κ (pt κ)) (κ : aK) (hin : inT T κ) : gdL (sgP T) (sms T pt κ) ∧ gdL (sgS T) (sms T pt κ) := by
  have hq := lev_gd hT (sgO_P T) hp
  refine ⟨?_, (lev_gd hT (sgO_S T) (fun κ h => (hq κ h).1) κ hin).2⟩
  have h1 := hq κ hin
  show gdL (sgP T) (bnd (lev (sgP T) T pt κ) (lp (sgS T) T (lev (sgP T) T pt) 1600))
  cases e : lev (sgP T) T pt κ with
  | inl e' => trivial
  | inr p =>
    rw [e] at h1
    exact lp_P hq 1600 κ p.1 p.2 (gd_H (by omega) h1.1) h1.2
/-- behind a sum in a bracket that must be closed, where it is not -/
theorem g_unclosed (d : Nat) {w : Int} {G : jG} {X : jX} {T : aT} {u : Int} {κ : aK} {r : Nat} {W l : List Int} {b x : Int} {C : List Int} (hG : GG G) (hT : okT T) (h : mS X T u κ r (l.map toM ++ x :: W) b C) (ho : opL l) (b0 : 0 ≤ b) (hb : b ≤ W.length) (hx : x = 20 ∨ x = 23 ∨ x = 24) (hP : sgP T κ = -1) (hS : sgS T κ = -1) (hq : ¬ mk T κ 41 = true) (hc : C.length ≤ 1690) (hw : l.length + W.length + 1 ≤ 1599) : ∃ Y, QG d w G X = some (0, (G, Y)) ∧ Y 149 5 = 1 ∧ Y 149 6 = κ.1 ∧ mfB X Y := by
  have hlen : (l.map toM ++ x :: W).length = l.length + W.length + 1 := by rw [List.length_append, List.length_map, List.length_cons]; omega
  have hbr : brk b (l.map toM ++ x :: W) = x := by
    rw [brk_ops ho (by rw [List.length_cons]; omega)]
    unfold brk
    rw [if_neg (by omega), if_pos (by omega)]
  have e0 := g_122 d hG hT h b0 (by omega) (fun y => absurd y hq)
  rw [g_none d hG hT h hP hS b0 (by omega), hbr, if_neg (by omega), if_neg (by omega)] at e0
  have z := fl_5 X κ 1 κ.1
  exact ⟨_, QG_f e0 (by rw [z.1]; omega), by rw [jup_row _ _ _ _ _ (by omega)]; exact z.1, by rw [jup_row _ _ _ _ _ (by omega)]; exact z.2, mfB_0 h hc (fl_0 X κ 1 κ.1)⟩
theorem opL_s {l : List Int} (h : ∀ o ∈ l, 10008 ≤ o ∧ o ≤ 10011) : opL l := fun o ho => Or.inr (h o ho)
theorem r_part_S (d : Nat) {w : Int} {G : jG} {T : aT} {u b : Int} {r : Nat} (hG : GG G) (hT : okT T) (hu : u = 0 ∨ u = 1 ∨ u = 2) (b0 : 0 ≤ b) (IH : PT d w G T u b r) : PT d w G T u b (r + 1) := by
  intro X κ W C u2 u3 u4 u5 hu2 hu3 hu4 hu5 h hs hw hc
  have hT1 := hT.2.1
  have hin := mS_in h
  have hn := nx_in hin
  have hb := stk_l hs
  have hr6 := h.2.2.2.2.2.1.2
  have hgs : ∀ κ, inT T κ → gdR T u (3 * r + 1 + 2) 0 κ (sms T (prt T u r) κ) := sms_gd hT1 (prt_gd hT1 hu r)
  have hge := sms_end hT1 (prt_gd hT1 hu r)
  unfold prt
  by_cases q1 : mk T κ 40 = true
  · rw [if_pos q1]
    obtain ⟨Y, v2, v3, e1, k1, f1⟩ := (QP_open d (w := w) hG hT hu h hu2 hu3 hu4 hu5 (by omega) (by have := hin.2; have := hT.2.1; omega) q1).1 r rfl
    rw [e1]
    have hS := r_sum d hG hT hu b0 IH (u2 := (0, v2)) (u3 := (0, v3)) (Or.inr rfl) (Or.inr rfl) hu4 hu5 k1 (by rw [List.length_cons]; omega) (Or.inr (by show (20 : Int) < 60; omega)) (by show (20 : Int) ≠ 3 ∧ (20 : Int) ≠ 4 ∧ (20 : Int) ≠ 1 ∧ (20 : Int) ≠ 2; omega) (by rw [List.length_cons]; omega) (by omega)
    have hg := hgs (nx T κ) hn.1
    have he := hge (nx T κ) hn.1
    cases e2 : sms T (prt T u r) (nx T κ) with
    | inl e' =>
      rw [e2] at hS
      obtain ⟨Z, z1, z2, z3, z4⟩ := hS
      exact ⟨Z, z1, z2, z3, mfB_t f1 z4⟩
    | inr p =>
      rw [e2] at hS hg he
      obtain ⟨Z, c0, l, z1, z2, z3, z4, z5, z6⟩ := hS
      have hp1 : (nx T κ).1 + p.2.length ≤ p.1.1 := hg.2.1
      have hpT : p.1.1 ≤ T.1 := hg.1.2
      have hpl : p.2.length = c0.length + l.length := by rw [z2, List.length_append]
      rw [z1, bnd_r]
      by_cases q2 : mk T p.1 41 = true
      · rw [wmk_pos q2]
        obtain ⟨V, e3, k3, f3⟩ := g_close d (w := w) hG hT z3 (opL_s z4) b0 hb (Or.inl rfl) (by omega) q2 (by rw [List.length_append]; omega) (by omega)
        refine ⟨V, e3, ?_, mfQ_t f1 (mfQ_t z6 f3)⟩
        rw [if_pos rfl, List.append_nil, List.append_assoc, ← z2] at k3
        exact k3
      · rw [wmk_neg q2]
        obtain ⟨V, e3, k3, k4, f3⟩ := g_unclosed d (w := w) hG hT z3 (opL_s z4) b0 hb (Or.inl rfl) he.1 he.2 q2 (by rw [List.length_append]; omega) (by omega)
        exact ⟨V, e3, k3, k4, mfB_t f1 (mfB_t z6 f3)⟩
  · rw [if_neg q1]
    by_cases q2 : wd T κ = 27 ∨ wd T κ = 28
    · rw [if_pos q2]
      have hch := QP_choice d (w := w) hG hT hu h hu2 hu3 hu4 hu5 (by omega) (by have := hin.2; have := hT.2.1; omega) q2
      by_cases q3 : mk T (nx T κ) 40 = true
      · rw [if_pos q3]
        obtain ⟨Y, v2, v3, v4, v5, e1, k1, f1⟩ := (hch.1 q3).1 r rfl
        rw [e1]
        have hnn := nx_in hn.1
        have hx : ∃ x : Int, x = (if wd T κ = 27 then 21 else 22) ∧ (x = 21 ∨ x = 22) ∧ (wd T κ = 27 ↔ x = 21) := by
          refine ⟨_, rfl, ?_, ?_⟩
          · split <;> omega
          · by_cases y : wd T κ = 27
            · rw [if_pos y]; exact ⟨fun _ => rfl, fun _ => y⟩
            · rw [if_neg y]; exact ⟨fun z => absurd z y, fun z => by omega⟩
        obtain ⟨x, hx1, hx2, hx3⟩ := hx
        rw [← hx1] at k1
        have hS := r_sum d hG hT hu b0 IH (u2 := (0, v2)) (u3 := (0, v3)) (u4 := (0, v4)) (u5 := (0, v5)) (Or.inr rfl) (Or.inr rfl) (Or.inr rfl) (Or.inr rfl) k1 (by rw [List.length_cons]; omega) (Or.inr (by show x < 60; omega)) (by show x ≠ 3 ∧ x ≠ 4 ∧ x ≠ 1 ∧ x ≠ 2; omega) (by rw [List.length_cons]; omega) (by omega)
        have hg := hgs (nx T (nx T κ)) hnn.1
        have he := hge (nx T (nx T κ)) hnn.1
        cases e2 : sms T (prt T u r) (nx T (nx T κ)) with
        | inl e' =>
          rw [e2] at hS
          obtain ⟨Z, z1, z2, z3, z4⟩ := hS
          exact ⟨Z, z1, z2, z3, mfB_t f1 z4⟩
        | inr p =>
          rw [e2] at hS hg he
          obtain ⟨Z, c0, l, z1, z2, z3, z4, z5, z6⟩ := hS
          have hp1 : (nx T (nx T κ)).1 + p.2.length ≤ p.1.1 := hg.2.1
          have hpT : p.1.1 ≤ T.1 := hg.1.2
          have hpl : p.2.length = c0.length + l.length := by rw [z2, List.length_append]
          have hlen : (l.map toM ++ x :: W).length = l.length + W.length + 1 := by rw [List.length_append, List.length_map, List.length_cons]; omega
          have hbr : brk b (l.map toM ++ x :: W) = x := by
            rw [brk_ops (opL_s z4) (by rw [List.length_cons]; omega)]
            unfold brk
            rw [if_neg (by omega), if_pos (by omega)]
          have e0 := g_122 d hG hT z3 b0 (by omega) (fun _ => by rw [hbr]; omega)
          rw [g_none d hG hT z3 he.1 he.2 b0 (by omega), hbr, if_pos hx2] at e0
          obtain ⟨c1, c2⟩ := g_comma d hG hT z3 (opL_s z4) b0 hb hx2 (by rw [List.length_append]; omega) (by omega)
          have F6 := mfQ_t f1 z6
          rw [z1, bnd_r]
          by_cases q4 : mk T p.1 44 = true
          · rw [wmk_pos q4]
            obtain ⟨V, e3, k3, f3⟩ := c1 q4
            rw [List.append_assoc, ← z2] at k3
            rw [e3] at e0
            rw [QG_1 e0 k3.2.2.1.1]
            have hn3 := nx_in (T := T) (κ := p.1) hg.1
            have hn4 := mk_nx (c := 44) (T := T) (κ := p.1) hg.1 (by omega) q4
            have hS2 := r_sum d hG hT hu b0 IH (u2 := (2, -1)) (u3 := (2, -1)) (u4 := (2, -1)) (u5 := (2, -1)) (Or.inl rfl) (Or.inl rfl) (Or.inl rfl) (Or.inl rfl) k3 (by rw [List.length_cons]; omega) (Or.inr (by show x + 2 < 60; omega)) (by show x + 2 ≠ 3 ∧ x + 2 ≠ 4 ∧ x + 2 ≠ 1 ∧ x + 2 ≠ 2; omega) (by rw [List.length_cons]; omega) (by rw [List.length_append]; omega)
            have hg2 := hgs (nx T p.1) hn3.1
            have he2 := hge (nx T p.1) hn3.1
            have F7 := mfQ_t F6 f3
            cases e4 : sms T (prt T u r) (nx T p.1) with
            | inl e' =>
              rw [e4] at hS2
              obtain ⟨Z, y1, y2, y3, y4⟩ := hS2
              exact ⟨Z, y1, y2, y3, mfB_t F7 y4⟩
            | inr p' =>
              rw [e4] at hS2 hg2 he2
              obtain ⟨Z', c0', l', y1, y2, y3, y4, y5, y6⟩ := hS2
              have hp1' : (nx T p.1).1 + p'.2.length ≤ p'.1.1 := hg2.2.1
              have hpT' : p'.1.1 ≤ T.1 := hg2.1.2
              have hpl' : p'.2.length = c0'.length + l'.length := by rw [y2, List.length_append]
              rw [y1, bnd_r]
              by_cases q5 : mk T p'.1 41 = true
              · rw [wmk_pos q5]
                obtain ⟨V', e5, k5, f5⟩ := g_close d (w := w) hG hT y3 (opL_s y4) b0 hb (by omega) (by omega) q5 (by rw [List.length_append, List.length_append]; omega) (by omega)
                refine ⟨V', e5, ?_, mfQ_t F7 (mfQ_t y6 f5)⟩
                have : (if x + 2 = 20 then ([] : List Int) else if x + 2 = 23 then [10012] else [10013]) = [if wd T κ = 27 then 10012 else 10013] := by
                  rw [if_neg (show ¬ x + 2 = 20 by omega)]
                  by_cases y : x = 21
                  · rw [if_pos (show x + 2 = 23 by omega), if_pos (hx3.2 y)]
                  · rw [if_neg (show ¬ x + 2 = 23 by omega), if_neg (fun z => y (hx3.1 z))]
                rw [this, List.append_assoc (C ++ p.2) c0' l', ← y2] at k5
                rw [show C ++ (p.2 ++ p'.2 ++ [if wd T κ = 27 then 10012 else 10013]) = C ++ p.2 ++ p'.2 ++ [if wd T κ = 27 then 10012 else 10013] by simp only [List.append_assoc]]
                exact k5
              · rw [wmk_neg q5]
                obtain ⟨V', e5, k5, k6, f5⟩ := g_unclosed d (w := w) hG hT y3 (opL_s y4) b0 hb (by omega) he2.1 he2.2 q5 (by rw [List.length_append, List.length_append]; omega) (by omega)
                exact ⟨V', e5, k5, k6, mfB_t F7 (mfB_t y6 f5)⟩
          · rw [wmk_neg q4]
            rw [c2 q4] at e0
            have z := fl_5 Z p.1 1 p.1.1
            exact ⟨_, QG_f e0 (by rw [z.1]; omega), by rw [jup_row _ _ _ _ _ (by omega)]; exact z.1, by rw [jup_row _ _ _ _ _ (by omega)]; exact z.2, mfB_t F6 (mfB_0 z3 (by rw [List.length_append]; omega) (fl_0 Z p.1 1 p.1.1))⟩
      · rw [if_neg q3]
        exact hch.2 q3
    · rw [if_neg q2]
      by_cases q3 : wd T κ = 22 ∧ u = 2
      · rw [if_pos q3]
        obtain ⟨Y, v2, v3, e1, k1, f1⟩ := (QP_tubs d (w := w) hG hT hu h hu2 hu3 hu4 hu5 (by omega) (by have := hin.2; have := hT.2.1; omega) q3).1 r rfl
        rw [e1]
        have hI := IH Y (nx T κ) (60 :: W) C (0, v2) (0, v3) u4 u5 (Or.inr rfl) (Or.inr rfl) hu4 hu5 k1 (stk_60 hs) (by rw [List.length_cons]; omega) (by omega)
        have hg := prt_gd hT1 hu r (nx T κ) hn.1
        cases e2 : prt T u r (nx T κ) with
        | inl e' =>
          rw [e2] at hI
          obtain ⟨Z, z1, z2, z3, z4⟩ := hI
          exact ⟨Z, z1, z2, z3, mfB_t f1 z4⟩
        | inr p =>
          rw [e2] at hI hg
          obtain ⟨Z, z1, z2, z3⟩ := hI
          have hp1 : (nx T κ).1 + p.2.length ≤ p.1.1 := hg.2.1
          have hpT : p.1.1 ≤ T.1 := hg.1.2
          obtain ⟨V, e3, k3, f3⟩ := QE_pop d hG z2 (by omega) hb (by rw [List.length_append]; omega) (by omega)
          rw [z1, QE_go e3, bnd_r]
          refine ⟨V, rfl, ?_, mfQ_t f1 (mfQ_t z3 f3)⟩
          rw [← List.append_assoc]; exact k3
      · rw [if_neg q3]
        exact QP_atom d hG hT hu h hu2 hu3 hu4 hu5 b0 hs (by have := hin.2; have := hT.2.1; omega) (by omega) q1 q2 q3
theorem r_part_0 (d : Nat) {w : Int} {G : jG} {T : aT} {u b : Int} (hG : GG G) (hT : okT T) (hu : u = 0 ∨ u = 1 ∨ u = 2) (b0 : 0 ≤ b) : PT d w G T u b 0 := by
  intro X κ W C u2 u3 u4 u5 hu2 hu3 hu4 hu5 h hs hw hc
  have hin := mS_in h
  unfold prt
  by_cases q1 : mk T κ 40 = true
  · rw [if_pos q1]
    exact (QP_open d (w := w) hG hT hu h hu2 hu3 hu4 hu5 (by omega) (by have := hin.2; have := hT.2.1; omega) q1).2 rfl
  · rw [if_neg q1]
    by_cases q2 : wd T κ = 27 ∨ wd T κ = 28
    · rw [if_pos q2]
      have hch := QP_choice d (w := w) hG hT hu h hu2 hu3 hu4 hu5 (by omega) (by have := hin.2; have := hT.2.1; omega) q2
      by_cases q3 : mk T (nx T κ) 40 = true
      · rw [if_pos q3]; exact (hch.1 q3).2 rfl
      · rw [if_neg q3]; exact hch.2 q3
    · rw [if_neg q2]
      by_cases q3 : wd T κ = 22 ∧ u = 2
      · rw [if_pos q3]
        exact (QP_tubs d (w := w) hG hT hu h hu2 hu3 hu4 hu5 (by omega) (by have := hin.2; have := hT.2.1; omega) q3).2 rfl
      · rw [if_neg q3]
        exact QP_atom d hG hT hu h hu2 hu3 hu4 hu5 b0 hs (by have := hin.2; have := hT.2.1; omega) (by omega) q1 q2 q3
