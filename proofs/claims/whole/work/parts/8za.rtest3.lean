theorem lp_E {sg1 sg2 : aK → Int} {T : aT} {u : Int} {H t : Nat} {pt : aK → rs} (hsg : sgO sg2 T t) (hp : ∀ κ, inT T κ → gdR T u H t κ (pt κ) ∧ gdL sg1 (pt κ)) : ∀ (m : Nat) (κ0 κ : aK) (c : List Int), gdR T u (H + 1) t κ0 (.inr (κ, c)) → sg1 κ = -1 → gdL sg1 (lp sg2 T pt m κ c) := by
  intro m
  induction m with
  | zero => intro κ0 κ c h hs; exact hs
  | succ m ih =>
    intro κ0 κ c h hs
    unfold lp
    by_cases q : sg2 κ = -1
    · rw [if_pos q]; exact hs
    · rw [if_neg q]
      obtain ⟨s1, s2⟩ := hsg κ q
      have hin : inT T κ := h.1
      have hn := nx_in hin
      have hp' := hp (nx T κ) hn.1
      cases e : pt (nx T κ) with
      | inl e' => trivial
      | inr p =>
        rw [e] at hp'
        rw [bnd_r]
        exact ih κ0 p.1 _ (gd_join s2 h (hn.2.1 s1) hp'.1) hp'.2
theorem tst_end {T : aT} {u : Int} {H : Nat} {pt : aK → rs} (hT : T.1 ≤ 1600) (hp : ∀ κ, inT T κ → gdR T u H 1 κ (pt κ)) (κ : aK) (hin : inT T κ) : gdL (sgB T) (tst T pt κ) ∧ gdL (sgT T) (tst T pt κ) := by
  have hq := lev_gd hT (sgO_B T) hp
  refine ⟨?_, (lev_gd hT (sgO_T T) (fun κ h => (hq κ h).1) κ hin).2⟩
  have h1 := hq κ hin
  show gdL (sgB T) (bnd (lev (sgB T) T pt κ) (lp (sgT T) T (lev (sgB T) T pt) 1600))
  cases e : lev (sgB T) T pt κ with
  | inl e' => trivial
  | inr p =>
    rw [e] at h1
    exact lp_E (sgO_T T) hq 1600 κ p.1 p.2 (gd_H (by omega) h1.1) h1.2
theorem sgB_n {T : aT} {κ : aK} (h : sgB T κ = -1) : wd T κ ≠ 24 := fun q => by unfold sgB at h; rw [if_pos q] at h; omega
theorem sgT_n {T : aT} {κ : aK} (h : sgT T κ = -1) : wd T κ ≠ 23 := fun q => by unfold sgT at h; rw [if_pos q] at h; omega
/-- a fact: with it the k nots before it are told -/
def FT (d : Nat) (G : jG) (T : aT) (u : Int) (r : Nat) : Prop := ∀ (X : jX) (κ : aK) (k : Nat) (V C : List Int) (u2 : jV), u2.1 = 2 ∨ u2.1 = 0 → mS X T u κ r (List.replicate k 12 ++ V) 0 C → V.headD 0 ≠ 12 → (V.headD 0 ≠ 3 ∧ V.headD 0 ≠ 4 ∧ V.headD 0 ≠ 1 ∧ V.headD 0 ≠ 2) → r + k ≤ 6 → k + V.length + 3 * r + 3 ≤ 1000 → C.length ≤ κ.1 → match fac T u r κ with
  | .inl e => ∃ Y, QT d G u2 X = some (0, (G, Y)) ∧ Y 149 5 = e.1 ∧ Y 149 6 = e.2 ∧ mfQ X Y
  | .inr q => ∃ Y c, QT d G u2 X = TG d c G Y ∧ mS Y T u q.1 (r + k) V 0 (C ++ q.2 ++ List.replicate k 10001) ∧ mfQ X Y
def endM (G : jG) (d : Nat) (X : jX) (T : aT) (u : Int) (r : Nat) (W : List Int) (C : List Int) (lo : Int) (n : Nat) (L : jR) (R : rs) : Prop := match R with
  | .inl e => ∃ Y, L = some (0, (G, Y)) ∧ Y 149 5 = e.1 ∧ Y 149 6 = e.2 ∧ mfQ X Y
  | .inr q => ∃ Y c c0 l, L = TG d c G Y ∧ q.2 = c0 ++ l ∧ mS Y T u q.1 r (l.map toM ++ W) 0 (C ++ c0) ∧ (∀ o ∈ l, lo ≤ o ∧ o ≤ 10004) ∧ l.length ≤ n ∧ mfQ X Y
theorem r_both (d : Nat) {G : jG} {T : aT} {u : Int} {r : Nat} (hG : GG G) (hT : okT T) (hu : u = 0 ∨ u = 1 ∨ u = 2) (hF : FT d G T u r) {X : jX} {κ : aK} {W C : List Int} {u2 : jV} (hu2 : u2.1 = 2 ∨ u2.1 = 0) (h : mS X T u κ r W 0 C) (hW : W.headD 0 ≠ 12 ∧ W.headD 0 ≠ 10) (hW2 : W.headD 0 ≠ 3 ∧ W.headD 0 ≠ 4 ∧ W.headD 0 ≠ 1 ∧ W.headD 0 ≠ 2) (hw : W.length + 3 * r + 4 ≤ 1000) (hc : C.length ≤ κ.1) : endM G d X T u r W C 10004 1 (QT d G u2 X) (lev (sgB T) T (fac T u r) κ) := by
  have hT1 := hT.2.1
  have hgp := fac_gd hT1 hu r
  have hr6 := h.2.2.2.2.2.1.2
  have loop : ∀ (m : Nat) (Y : jX) (κ1 : aK) (cc : Int) (c c0 l : List Int), c = c0 ++ l → mS Y T u κ1 r (l.map toM ++ W) 0 (C ++ c0) → (∀ o ∈ l, 10004 ≤ o ∧ o ≤ 10004) → l.length ≤ 1 → gdR T u (3 * r + 4 + 1) 1 κ (.inr (κ1, c)) → T.1 - κ1.1 ≤ m → mfQ X Y → endM G d X T u r W C 10004 1 (TG d cc G Y) (lp (sgB T) T (fac T u r) m κ1 c) := by
    intro m
    induction m with
    | zero =>
      intro Y κ1 cc c c0 l ec hY hl hl1 hg hm hf
      exact ⟨Y, cc, c0, l, rfl, ec, hY, hl, hl1, hf⟩
    | succ m ih =>
      intro Y κ1 cc c c0 l ec hY hl hl1 hg hm hf
      unfold lp
      by_cases q : sgB T κ1 = -1
      · rw [if_pos q]
        exact ⟨Y, cc, c0, l, rfl, ec, hY, hl, hl1, hf⟩
      · rw [if_neg q]
        obtain ⟨s1, s2⟩ := sgO_B T κ1 q
        have hwd : wd T κ1 = 24 := by
          by_cases y : wd T κ1 = 24
          · exact y
          · exact absurd (if_neg y) q
        have hop : sgB T κ1 = 10004 := if_pos hwd
        have hso := wd_so (T := T) (κ := κ1) (by omega)
        have hin : inT T κ1 := mS_in hY
        have hn := nx_in hin
        have hn2 := hn.2.1 s1
        have hg2 : κ.1 + c.length ≤ κ1.1 := hg.2.1
        have hlc : c.length = c0.length + l.length := by rw [ec, List.length_append]
        have hi1 := hin.2
        have hlm : (l.map toM ++ W).length = l.length + W.length := by rw [List.length_append, List.length_map]
        have hm93 : ¬ mk T κ1 93 = true := fun y => by have := ((mk_so (by omega)).1 y).1; omega
        have e0 := k_76 d hG hT hY (by omega) (fun y => absurd y hm93)
        obtain ⟨Y1, e1, k1, f1⟩ := k_and d hG hT hY (fun o ho => by have := hl o ho; omega) hW.2 hwd (by rw [List.length_append]; omega) (by omega)
        rw [e1] at e0
        rw [show C ++ c0 ++ l = C ++ c by rw [ec, List.append_assoc]] at k1
        rw [TG_1 e0]
        have hI := hF Y1 (nx T κ1) 0 (10 :: W) (C ++ c) (0, cc) (Or.inr rfl) k1 (by show (10 : Int) ≠ 12; omega) (by show (10 : Int) ≠ 3 ∧ (10 : Int) ≠ 4 ∧ (10 : Int) ≠ 1 ∧ (10 : Int) ≠ 2; omega) (by omega) (by rw [List.length_cons]; omega) (by rw [List.length_append]; omega)
        have hgn := hgp (nx T κ1) hn.1
        have F1 := mfQ_t hf f1
        cases e2 : fac T u r (nx T κ1) with
        | inl e' =>
          rw [e2] at hI
          obtain ⟨Z, z1, z2, z3, z4⟩ := hI
          exact ⟨Z, z1, z2, z3, mfQ_t F1 z4⟩
        | inr p =>
          rw [e2] at hI hgn
          obtain ⟨Z, cz, z1, z2, z3⟩ := hI
          have hj := gd_join s2 hg hn2 hgn
          have hp1 : (nx T κ1).1 + p.2.length ≤ p.1.1 := hgn.2.1
          rw [z1, bnd_r]
          have z2' : mS Z T u p.1 r (10 :: W) 0 (C ++ c ++ p.2) := by
            have z2a : mS Z T u p.1 r (10 :: W) 0 (C ++ c ++ p.2 ++ []) := z2
            rw [List.append_nil] at z2a
            exact z2a
          refine ih Z p.1 cz (c ++ p.2 ++ [sgB T κ1]) (c ++ p.2) [sgB T κ1] rfl ?_ (fun o ho => ?_) (Nat.le_refl 1) hj (by omega) (mfQ_t F1 z3)
          · rw [← List.append_assoc, hop]; exact z2'
          · rw [List.mem_singleton] at ho; omega
  have hI := hF X κ 0 W C u2 hu2 h hW.1 hW2 (by omega) (by omega) hc
  have hgn := hgp κ (mS_in h)
  unfold lev
  cases e2 : fac T u r κ with
  | inl e' =>
    rw [e2] at hI
    exact hI
  | inr p =>
    rw [e2] at hI hgn
    obtain ⟨Z, cz, z1, z2, z3⟩ := hI
    have hp1 : κ.1 + p.2.length ≤ p.1.1 := hgn.2.1
    have h00 := (mS_in h).1
    have z2' : mS Z T u p.1 r W 0 (C ++ p.2) := by
      have z2a : mS Z T u p.1 r W 0 (C ++ p.2 ++ []) := z2
      rw [List.append_nil] at z2a
      exact z2a
    rw [z1, bnd_r]
    exact loop 1600 Z p.1 cz p.2 p.2 [] (by rw [List.append_nil]) z2' (fun o ho => absurd ho List.not_mem_nil) (by show 0 ≤ 1; omega) (gd_H (by omega) hgn) (by omega) z3
theorem r_test (d : Nat) {G : jG} {T : aT} {u : Int} {r : Nat} (hG : GG G) (hT : okT T) (hu : u = 0 ∨ u = 1 ∨ u = 2) (hF : FT d G T u r) {X : jX} {κ : aK} {W C : List Int} {u2 : jV} (hu2 : u2.1 = 2 ∨ u2.1 = 0) (h : mS X T u κ r W 0 C) (hW : W.headD 0 ≠ 12 ∧ W.headD 0 ≠ 10 ∧ W.headD 0 ≠ 11) (hW2 : W.headD 0 ≠ 3 ∧ W.headD 0 ≠ 4 ∧ W.headD 0 ≠ 1 ∧ W.headD 0 ≠ 2) (hw : W.length + 3 * r + 5 ≤ 1000) (hc : C.length ≤ κ.1) : endM G d X T u r W C 10003 2 (QT d G u2 X) (tst T (fac T u r) κ) := by
  have hT1 := hT.2.1
  have hgp : ∀ κ, inT T κ → gdR T u (3 * r + 4 + 1) 1 κ (lev (sgB T) T (fac T u r) κ) ∧ gdL (sgB T) (lev (sgB T) T (fac T u r) κ) := lev_gd hT1 (sgO_B T) (fac_gd hT1 hu r)
  have loop : ∀ (m : Nat) (Y : jX) (κ1 : aK) (cc : Int) (c c0 l : List Int), c = c0 ++ l → mS Y T u κ1 r (l.map toM ++ W) 0 (C ++ c0) → (∀ o ∈ l, 10003 ≤ o ∧ o ≤ 10004) → l.length ≤ 2 → gdR T u (3 * r + 4 + 1 + 1) 1 κ (.inr (κ1, c)) → T.1 - κ1.1 ≤ m → mfQ X Y → endM G d X T u r W C 10003 2 (TG d cc G Y) (lp (sgT T) T (lev (sgB T) T (fac T u r)) m κ1 c) := by
    intro m
    induction m with
    | zero =>
      intro Y κ1 cc c c0 l ec hY hl hl1 hg hm hf
      exact ⟨Y, cc, c0, l, rfl, ec, hY, hl, hl1, hf⟩
    | succ m ih =>
      intro Y κ1 cc c c0 l ec hY hl hl1 hg hm hf
      unfold lp
      by_cases q : sgT T κ1 = -1
      · rw [if_pos q]
        exact ⟨Y, cc, c0, l, rfl, ec, hY, hl, hl1, hf⟩
      · rw [if_neg q]
        obtain ⟨s1, s2⟩ := sgO_T T κ1 q
        have hwd : wd T κ1 = 23 := by
          by_cases y : wd T κ1 = 23
          · exact y
          · exact absurd (if_neg y) q
        have hop : sgT T κ1 = 10003 := if_pos hwd
        have hso := wd_so (T := T) (κ := κ1) (by omega)
        have hin : inT T κ1 := mS_in hY
        have hn := nx_in hin
        have hn2 := hn.2.1 s1
        have hg2 : κ.1 + c.length ≤ κ1.1 := hg.2.1
        have hlc : c.length = c0.length + l.length := by rw [ec, List.length_append]
        have hi1 := hin.2
        have hlm : (l.map toM ++ W).length = l.length + W.length := by rw [List.length_append, List.length_map]
        have hm93 : ¬ mk T κ1 93 = true := fun y => by have := ((mk_so (by omega)).1 y).1; omega
        have e0 := k_76 d hG hT hY (by omega) (fun y => absurd y hm93)
        obtain ⟨Y1, e1, k1, f1⟩ := k_or d hG hT hY hl ⟨hW.2.1, hW.2.2⟩ hwd (by rw [List.length_append]; omega) (by omega)
        rw [e1] at e0
        rw [show C ++ c0 ++ l = C ++ c by rw [ec, List.append_assoc]] at k1
        rw [TG_1 e0]
        have hI := r_both d hG hT hu hF (W := 11 :: W) (C := C ++ c) (u2 := (0, cc)) (Or.inr rfl) k1 (by show (11 : Int) ≠ 12 ∧ (11 : Int) ≠ 10; omega) (by show (11 : Int) ≠ 3 ∧ (11 : Int) ≠ 4 ∧ (11 : Int) ≠ 1 ∧ (11 : Int) ≠ 2; omega) (by rw [List.length_cons]; omega) (by rw [List.length_append]; omega)
        have hgn := hgp (nx T κ1) hn.1
        have F1 := mfQ_t hf f1
        cases e2 : lev (sgB T) T (fac T u r) (nx T κ1) with
        | inl e' =>
          rw [e2] at hI
          obtain ⟨Z, z1, z2, z3, z4⟩ := hI
          exact ⟨Z, z1, z2, z3, mfQ_t F1 z4⟩
        | inr p =>
          rw [e2] at hI hgn
          obtain ⟨Z, cz, d0, dl, z1, z2, z3, z4, z5, z6⟩ := hI
          have hj := gd_join s2 hg hn2 hgn.1
          have hp1 : (nx T κ1).1 + p.2.length ≤ p.1.1 := hgn.1.2.1
          rw [z1, bnd_r]
          refine ih Z p.1 cz (c ++ p.2 ++ [sgT T κ1]) (c ++ d0) (dl ++ [sgT T κ1]) (by rw [z2]; simp only [List.append_assoc]) ?_ (fun o ho => ?_) (by rw [List.length_append, List.length_singleton]; omega) hj (by omega) (mfQ_t F1 z6)
          · rw [List.map_append, List.append_assoc, ← List.append_assoc C c d0, hop]; exact z3
          · rw [List.mem_append, List.mem_singleton] at ho
            rcases ho with ho | ho
            · have := z4 o ho; omega
            · omega
  have hI := r_both d hG hT hu hF hu2 h ⟨hW.1, hW.2.1⟩ hW2 (by omega) hc
  have hgn := hgp κ (mS_in h)
  unfold tst
  rw [show lev (sgT T) T (lev (sgB T) T (fac T u r)) κ = bnd (lev (sgB T) T (fac T u r) κ) (lp (sgT T) T (lev (sgB T) T (fac T u r)) 1600) from rfl]
  cases e2 : lev (sgB T) T (fac T u r) κ with
  | inl e' =>
    rw [e2] at hI
    exact hI
  | inr p =>
    rw [e2] at hI hgn
    obtain ⟨Z, cz, d0, dl, z1, z2, z3, z4, z5, z6⟩ := hI
    have hp1 : κ.1 + p.2.length ≤ p.1.1 := hgn.1.2.1
    have h00 := (mS_in h).1
    rw [z1, bnd_r]
    exact loop 1600 Z p.1 cz p.2 d0 dl z2 z3 (fun o ho => by have := z4 o ho; omega) (by omega) (gd_H (by omega) hgn.1) (by omega) z6
/-- the run's head, a fact expected -/
theorem QT_head (d : Nat) {G : jG} {X : jX} {T : aT} {u : Int} {κ : aK} {r : Nat} {W : List Int} {b : Int} {C : List Int} (hG : GG G) (hT : okT T) (h : mS X T u κ r W b C) {u2 : jV} (hu2 : u2.1 = 2 ∨ u2.1 = 0) : QT d G u2 X = if mk T κ 91 = true then ((jD (d + 8) 296 [(22, 149), (0, 25), (0, κ.1)] (G, lk X κ)).bind fun q2 => jN (d + 8) 312 2 [(22, 149), (0, 1), (0, tat T κ.1)] [] (q2.2.1, jup q2.2.2 149 2 (jadd (q2.2.2 149 2) 1))) else if wd T κ = 25 then ((jD (d + 8) 296 [(22, 149), (0, 12), (0, κ.1)] (G, lk X κ)).bind fun q7 => (jD (d + 8) 196 [(22, 149), (23, gR q7.2.1 149 91)] (q7.2.1, q7.2.2)).bind fun q8 => jN (d + 8) 312 2 [(22, 149), (0, 1), (0, tat T κ.1)] [] (q8.2.1, q8.2.2)) else ((jD (d + 8) 309 [(22, 149)] (G, lk X κ)).bind fun q4 => (jD (d + 8) 311 [(22, 149)] (q4.2.1, q4.2.2)).bind fun q5 => if q5.2.2 149 5 = 0 then ((jD (d + 8) 313 [(22, 149)] (q5.2.1, q5.2.2)).bind (KT d (tat T κ.1))) else jN (d + 8) 312 2 [(22, 149), (0, 0), (0, tat T κ.1)] [] (q5.2.1, q5.2.2)) := by
  have hk := mS_lk h
  have e := t_isW (d + 6) hG hT hk.1 hk.2.1 hk.2.2.1.1 210 25 (by decide)
  rw [lk_lk] at e
  unfold QT
  rw [h_X12_qTest_2 _ _ _ u2 hu2, if_neg (by omega), h.2.2.1.1]
  simp only [Int.reduceLE, reduceIte]
  rw [t_look (d + 7) hG hT h.1 h.2.1]
  simp only [Option.bind_some]
  by_cases q : mk T κ 91 = true
  · rw [if_pos q, if_pos ((tat_mk (mS_in h) (by omega)).2 q), lk_at]
  · rw [if_neg q, if_neg (fun y => q ((tat_mk (mS_in h) (by omega)).1 y)), gr_149_91 hG, e]
    simp only [Option.bind_some]
    by_cases q1 : wd T κ = 25
    · rw [if_pos (show wd T κ = ((25 : Nat) : Int) from q1), if_neg (by omega), if_pos q1, lk_at]
    · rw [if_neg (show ¬ wd T κ = ((25 : Nat) : Int) from q1), if_pos rfl, if_neg q1]
      rfl
theorem QT_open0 (d : Nat) {G : jG} {X : jX} {T : aT} {u : Int} {κ : aK} {W : List Int} {b : Int} {C : List Int} (hG : GG G) (hT : okT T) (h : mS X T u κ 0 W b C) {u2 : jV} (hu2 : u2.1 = 2 ∨ u2.1 = 0) (hw : W.length < 1600) (hq : mk T κ 91 = true ∨ wd T κ = 25) : ∃ Y, QT d G u2 X = some (0, (G, Y)) ∧ Y 149 5 = 4 ∧ Y 149 6 = κ.1 ∧ mfQ X Y := by
  have hk := mS_lk h
  rw [QT_head d hG hT h hu2]
  have o := fun v => (t_qOpens (d + 6) hG v κ.1 hk (by omega)).2 rfl
  generalize hY : jup (jup (lk X κ) 149 5 4) 149 6 κ.1 = Y at o
  have y5 : Y 149 5 = 4 := by rw [← hY, jup_row _ _ _ _ _ (by omega), jup_same]
  have y6 : Y 149 6 = κ.1 := by rw [← hY, jup_same]
  have F : mfQ X Y := by rw [← hY]; exact mfQ_t (mfQ_0 (lk_0 X κ)) (mfQ_t (mfQ_u (by omega)) (mfQ_u (by omega)))
  by_cases q : mk T κ 91 = true
  · rw [if_pos q, o 25]
    simp only [Option.bind_some]
    have z5 : jup Y 149 2 (jadd (Y 149 2) 1) 149 5 = 4 := by rw [jup_row _ _ _ _ _ (by omega)]; exact y5
    exact ⟨_, QT_bad d (by rw [z5]; omega) 1 (Or.inr rfl), z5, by rw [jup_row _ _ _ _ _ (by omega)]; exact y6, mfQ_t F (mfQ_u (by omega))⟩
  · rw [if_neg q, if_pos (hq.resolve_left q), o 12]
    simp only [Option.bind_some]
    rw [e_X12_asks, y5]
    simp only [Int.reduceEq, Int.reduceLE, reduceIte, Option.bind_some]
    exact ⟨_, QT_bad d (by rw [y5]; omega) 1 (Or.inr rfl), y5, y6, F⟩
theorem r_fact_plain (d : Nat) {G : jG} {T : aT} {u : Int} {r : Nat} (hG : GG G) (hT : okT T) (hu : u = 0 ∨ u = 1 ∨ u = 2) {X : jX} {κ : aK} {k : Nat} {V C : List Int} {u2 : jV} (hu2 : u2.1 = 2 ∨ u2.1 = 0) (h : mS X T u κ r (List.replicate k 12 ++ V) 0 C) (hV : V.headD 0 ≠ 12) (hV2 : V.headD 0 ≠ 3 ∧ V.headD 0 ≠ 4 ∧ V.headD 0 ≠ 1 ∧ V.headD 0 ≠ 2) (hr : r + k ≤ 6) (hw : k + V.length + 3 * r + 3 ≤ 1000) (hc : C.length ≤ κ.1) (q1 : wd T κ ≠ 25) (q2 : ¬ mk T κ 91 = true) : match (if wd T κ = 26 then (Sum.inr (nx T κ, [10014]) : rs) else cmp T (sms T (prt T u r)) κ) with
  | .inl e => ∃ Y, QT d G u2 X = some (0, (G, Y)) ∧ Y 149 5 = e.1 ∧ Y 149 6 = e.2 ∧ mfQ X Y
  | .inr q => ∃ Y c, QT d G u2 X = TG d c G Y ∧ mS Y T u q.1 (r + k) V 0 (C ++ q.2 ++ List.replicate k 10001) ∧ mfQ X Y := by
  have hT1 := hT.2.1
  have hk := mS_lk h
  have hin := mS_in h
  have hi1 := hin.2
  have hl : (List.replicate k (12 : Int) ++ V).length = k + V.length := by rw [List.length_append, List.length_replicate]
  have hhd : (List.replicate k (12 : Int) ++ V).headD 0 ≠ 3 ∧ (List.replicate k (12 : Int) ++ V).headD 0 ≠ 4 ∧ (List.replicate k (12 : Int) ++ V).headD 0 ≠ 1 ∧ (List.replicate k (12 : Int) ++ V).headD 0 ≠ 2 := by
    cases k with
    | zero => exact hV2
    | succ k => show (12 : Int) ≠ 3 ∧ (12 : Int) ≠ 4 ∧ (12 : Int) ≠ 1 ∧ (12 : Int) ≠ 2; omega
  obtain ⟨f1, f2⟩ := t_qFact d hG hT hu hk hhd (by omega) hc
  rw [QT_head d hG hT h hu2, if_neg q2, if_neg q1]
  have F0 : mfQ X (lk X κ) := mfQ_0 (lk_0 X κ)
  -- told well
  have good : ∀ (p : aK × List Int), (∃ Y, jD (d + 8) 309 [(22, 149)] (G, lk X κ) = some (0, (G, Y)) ∧ mS Y T u p.1 r (List.replicate k 12 ++ V) 0 (C ++ p.2) ∧ mfQ (lk X κ) Y) → C.length + p.2.length ≤ 1601 → ∃ Y c, ((jD (d + 8) 309 [(22, 149)] (G, lk X κ)).bind fun q4 => (jD (d + 8) 311 [(22, 149)] (q4.2.1, q4.2.2)).bind fun q5 => if q5.2.2 149 5 = 0 then ((jD (d + 8) 313 [(22, 149)] (q5.2.1, q5.2.2)).bind (KT d (tat T κ.1))) else jN (d + 8) 312 2 [(22, 149), (0, 0), (0, tat T κ.1)] [] (q5.2.1, q5.2.2)) = TG d c G Y ∧ mS Y T u p.1 (r + k) V 0 (C ++ p.2 ++ List.replicate k 10001) ∧ mfQ X Y := fun p hp hlen => by
    obtain ⟨Y, e, m, f⟩ := hp
    obtain ⟨Z, e2, m2, g2⟩ := t_nots (d + 5) hG hV m hr (by rw [List.length_append]; omega) (by omega)
    refine ⟨Z, tat T κ.1, ?_, m2, mfQ_t F0 (mfQ_t f g2)⟩
    rw [e]
    simp only [Option.bind_some]
    rw [e2]
    simp only [Option.bind_some]
    rw [if_pos m2.2.2.1.1, e_X12_qGoesOnTest]
    rfl
  by_cases q3 : wd T κ = 26
  · rw [if_pos q3]
    exact good (nx T κ, [10014]) (f1 q3) (by show C.length + 1 ≤ 1601; omega)
  · rw [if_neg q3]
    have f2 := f2 q3
    have hg := cmp_gd (sms_gd hT1 (prt_gd hT1 hu r)) κ hin
    cases e : cmp T (sms T (prt T u r)) κ with
    | inl e' =>
      rw [e] at f2 hg
      obtain ⟨Y, y1, y2, y3, y4⟩ := f2
      have hne : Y 149 5 ≠ 0 := by rw [y2]; exact hg
      have e5 : jD (d + 8) 311 [(22, 149)] (G, Y) = some (0, (G, Y)) := by
        rw [e_X12_qDropsNots, h_X12_qDropsNots_0]
        simp only [if_neg hne, Int.reduceLE, reduceIte]
      rw [y1]
      simp only [Option.bind_some]
      rw [e5]
      simp only [Option.bind_some]
      rw [if_neg hne]
      exact ⟨Y, QT_bad d hne 0 (Or.inr rfl), y2, y3, mfQ_t F0 y4⟩
    | inr p =>
      rw [e] at f2 hg
      have hp1 : κ.1 + p.2.length ≤ p.1.1 := hg.2.1
      have hp2 : p.1.1 ≤ T.1 := hg.1.2
      exact good p f2 (by omega)
theorem r_fact_0 (d : Nat) {G : jG} {T : aT} {u : Int} (hG : GG G) (hT : okT T) (hu : u = 0 ∨ u = 1 ∨ u = 2) : FT d G T u 0 := by
  intro X κ k V C u2 hu2 h hV hV2 hr hw hc
  have hl : (List.replicate k (12 : Int) ++ V).length = k + V.length := by rw [List.length_append, List.length_replicate]
  unfold fac
  by_cases q1 : wd T κ = 25
  · rw [if_pos q1]; exact QT_open0 d hG hT h hu2 (by omega) (Or.inr q1)
  · rw [if_neg q1]
    by_cases q2 : mk T κ 91 = true
    · rw [if_pos q2]; exact QT_open0 d hG hT h hu2 (by omega) (Or.inl q2)
    · rw [if_neg q2]
      exact r_fact_plain d hG hT hu hu2 h hV hV2 hr hw hc q1 q2
theorem r_fact_S (d : Nat) {G : jG} {T : aT} {u : Int} {r : Nat} (hG : GG G) (hT : okT T) (hu : u = 0 ∨ u = 1 ∨ u = 2) (IH : FT d G T u r) : FT d G T u (r + 1) := by
  intro X κ k V C u2 hu2 h hV hV2 hr hw hc
  have hT1 := hT.2.1
  have hl : (List.replicate k (12 : Int) ++ V).length = k + V.length := by rw [List.length_append, List.length_replicate]
  have hk := mS_lk h
  have hin := mS_in h
  have hn := nx_in hin
  have F0 : mfQ X (lk X κ) := mfQ_0 (lk_0 X κ)
  unfold fac
  by_cases q1 : wd T κ = 25
  · rw [if_pos q1]
    have hso := wd_so (T := T) (κ := κ) (by omega)
    have hsr : srt T κ.1 ≠ 0 := by rcases so_b T κ with z | z <;> omega
    have hm : ¬ mk T κ 91 = true := fun y => by have := ((mk_so (by omega)).1 y).1; omega
    have hw1 := wd_nx hin (by omega)
    obtain ⟨Y, e1, k1, f1, p1⟩ := (t_qOpens (d + 6) hG 12 κ.1 hk (by omega)).1 r rfl
    have ea := t_asks (d + 4) hG hT k1.1 k1.2.1 k1.2.2.1.1 210 25 (by decide)
    rw [if_pos (show wd T κ = ((25 : Nat) : Int) from q1)] at ea
    have eq : QT d G u2 X = QT d G (0, tat T κ.1) (tk Y T κ) := by
      rw [QT_head d hG hT h hu2, if_neg hm, if_pos q1, e1]
      simp only [Option.bind_some]
      rw [gr_149_91 hG, ea]
      rfl
    rw [eq]
    have hI := IH (tk Y T κ) (nx T κ) (k + 1) V C (0, tat T κ.1) (Or.inr rfl) (mS_tk hsr k1) hV hV2 (by omega) (by omega) (by omega)
    have F1 := mfQ_t F0 (mfQ_t f1 (mfQ_0 (tk_0 Y T κ)))
    cases e2 : fac T u r (nx T κ) with
    | inl e' =>
      rw [e2] at hI
      obtain ⟨Z, z1, z2, z3, z4⟩ := hI
      exact ⟨Z, z1, z2, z3, mfQ_t F1 z4⟩
    | inr p =>
      rw [e2] at hI
      obtain ⟨Z, cz, z1, z2, z3⟩ := hI
      rw [bnd_r]
      refine ⟨Z, cz, z1, ?_, mfQ_t F1 z3⟩
      rw [show r + 1 + k = r + (k + 1) by omega, show C ++ (p.2 ++ [10001]) ++ List.replicate k 10001 = C ++ p.2 ++ List.replicate (k + 1) 10001 by rw [List.replicate_succ]; simp only [List.append_assoc, List.singleton_append]]
      exact z2
  · rw [if_neg q1]
    by_cases q2 : mk T κ 91 = true
    · rw [if_pos q2]
      have hs3 := mk_s3 (c := 91) (by omega) q2
      obtain ⟨Y, e1, k1, f1, p1⟩ := (t_qOpens (d + 6) hG 25 κ.1 hk (by omega)).1 r rfl
      have eq : QT d G u2 X = QT d G (0, tat T κ.1) (jup Y 149 2 (jadd (Y 149 2) 1)) := by
        rw [QT_head d hG hT h hu2, if_pos q2, e1]
        rfl
      have k2 := mS_at hT k1 (by rw [p1, lk_at]) hs3
      rw [eq]
      have hI := r_test d hG hT hu IH (u2 := (0, tat T κ.1)) (Or.inr rfl) k2 (by show (25 : Int) ≠ 12 ∧ (25 : Int) ≠ 10 ∧ (25 : Int) ≠ 11; omega) (by show (25 : Int) ≠ 3 ∧ (25 : Int) ≠ 4 ∧ (25 : Int) ≠ 1 ∧ (25 : Int) ≠ 2; omega) (by rw [List.length_cons]; omega) (by omega)
      have hg := tst_gd hT1 (fac_gd hT1 hu r) (nx T κ) hn.1
      have he := tst_end hT1 (fac_gd hT1 hu r) (nx T κ) hn.1
      have F1 := mfQ_t F0 (mfQ_t f1 (mfQ_u (j := 2) (v := jadd (Y 149 2) 1) (Or.inl rfl)))
      cases e2 : tst T (fac T u r) (nx T κ) with
      | inl e' =>
        rw [e2] at hI
        obtain ⟨Z, z1, z2, z3, z4⟩ := hI
        exact ⟨Z, z1, z2, z3, mfQ_t F1 z4⟩
      | inr p =>
        rw [e2] at hI hg he
        obtain ⟨Z, cz, c0, l, z1, z2, z3, z4, z5, z6⟩ := hI
        have hp1 : (nx T κ).1 + p.2.length ≤ p.1.1 := hg.2.1
        have hpT : p.1.1 ≤ T.1 := hg.1.2
        have hpl : p.2.length = c0.length + l.length := by rw [z2, List.length_append]
        have ho : opL l := fun o ho => Or.inl (z4 o ho)
        have F6 := mfQ_t F1 z6
        rw [bnd_r, z1]
        by_cases q3 : mk T p.1 93 = true
        · rw [wmk_pos q3]
          obtain ⟨V', e3, k3, f3⟩ := k_close d (c := cz) hG hT hV (by omega) ho z3 q3 (by rw [List.length_append]; omega) (by omega)
          refine ⟨V', cz, e3, ?_, mfQ_t F6 f3⟩
          rw [List.append_assoc C c0 l, ← z2] at k3
          exact k3
        · rw [wmk_neg q3]
          have hlen : (l.map toM ++ 25 :: (List.replicate k 12 ++ V)).length = l.length + (k + V.length + 1) := by rw [List.length_append, List.length_map, List.length_cons, hl]
          have e0 := k_76 d hG hT z3 (by omega) (fun y => absurd y q3)
          rw [(k_none d hG hT z3 (sgB_n he.1) (sgT_n he.2) (by omega)).1 (List.mem_append_right _ List.mem_cons_self)] at e0
          have z := fl_5 Z p.1 1 p.1.1
          exact ⟨_, TG_f e0 (by rw [z.1]; omega), z.1, z.2, mfQ_t F6 (mfQ_0 (fl_0 Z p.1 1 p.1.1))⟩
    · rw [if_neg q2]
      exact r_fact_plain d hG hT hu hu2 h hV hV2 hr hw hc q1 q2
theorem r_fact (d : Nat) {G : jG} {T : aT} {u : Int} (hG : GG G) (hT : okT T) (hu : u = 0 ∨ u = 1 ∨ u = 2) : ∀ r : Nat, FT d G T u r
  | 0 => r_fact_0 d hG hT hu
  | r + 1 => r_fact_S d hG hT hu (r_fact d hG hT hu r)
theorem t_tst_n (d : Nat) {G : jG} {T : aT} {u : Int} {κ : aK} {r : Nat} {b v : Int} {u2 : jV} (hu2 : u2.1 = 2 ∨ u2.1 = 0) (hG : GG G) : ∀ (l : List Int) (X : jX) (C : List Int), mS X T u κ r (l.map toM ++ []) b C → C.length + l.length ≤ 1690 → l.length ≤ 1599 → ∃ Y, jN (d + 8) 312 110 [(22, 149), (0, v), u2] [] (G, X) = some (0, (G, Y)) ∧ mS Y T u κ r [] b (C ++ l) ∧ mfQ X Y := by
  intro l
  induction l with
  | nil =>
    intro X C h hc hw
    have h' : mS X T u κ r [] b C := h
    refine ⟨X, ?_, by rw [List.append_nil]; exact h', mfQ_r X⟩
    rw [h_X12_qTest_110 _ _ _ u2 hu2, h'.2.2.1.1, h'.2.2.2.2.1.1, if_neg (show ¬ (0 : Int) < ((List.length ([] : List Int) : Nat) : Int) by show ¬ (0 : Int) < ((0 : Nat) : Int); omega)]
    simp only [Int.reduceLE, reduceIte]
  | cons o l ih =>
    intro X C h hc hw
    rw [List.length_cons] at hc hw
    have hml : (l.map toM ++ ([] : List Int)).length = l.length := by rw [List.append_nil, List.length_map]
    have h' : mS X T u κ r (toM o :: (l.map toM ++ [])) b C := h
    obtain ⟨Y1, e1, k1, f1, _⟩ := t_qDrops (d + 6) hG o h' (by omega) (by omega)
    obtain ⟨Y, e, k, f⟩ := ih Y1 (C ++ [o]) k1 (by rw [List.length_append, List.length_singleton]; omega) (by omega)
    refine ⟨Y, ?_, by rw [show C ++ o :: l = C ++ [o] ++ l by simp only [List.append_assoc, List.singleton_append]]; exact k, mfQ_t f1 f⟩
    rw [h_X12_qTest_110 _ _ _ u2 hu2, h'.2.2.1.1, h'.2.2.2.2.1.1, if_pos (show (0 : Int) < ((toM o :: (l.map toM ++ [])).length : Int) by rw [List.length_cons]; omega)]
    simp only [Int.reduceLE, reduceIte]
    rw [e1]
    simp only [Option.bind_some]
    exact e
theorem t_qTest (d : Nat) {G : jG} {X : jX} {T : aT} {u : Int} {κ : aK} {r : Nat} {C : List Int} (hG : GG G) (hT : okT T) (hu : u = 0 ∨ u = 1 ∨ u = 2) (h : mS X T u κ r [] 0 C) (hc : C.length ≤ κ.1) : match tst T (fac T u r) κ with
  | .inl e => ∃ Y, jD (d + 9) 312 [(22, 149)] (G, X) = some (0, (G, Y)) ∧ Y 149 5 = e.1 ∧ Y 149 6 = e.2 ∧ mfQ X Y
  | .inr q => ∃ Y, jD (d + 9) 312 [(22, 149)] (G, X) = some (0, (G, Y)) ∧ mS Y T u q.1 r [] 0 (C ++ q.2) ∧ mfQ X Y := by
  have hT1 := hT.2.1
  have hin := mS_in h
  have hr6 := h.2.2.2.2.2.1.2
  have hI := r_test d hG hT hu (r_fact d hG hT hu r) (u2 := (2, -1)) (Or.inl rfl) h (by show (0 : Int) ≠ 12 ∧ (0 : Int) ≠ 10 ∧ (0 : Int) ≠ 11; omega) (by show (0 : Int) ≠ 3 ∧ (0 : Int) ≠ 4 ∧ (0 : Int) ≠ 1 ∧ (0 : Int) ≠ 2; omega) (by show 0 + 3 * r + 5 ≤ 1000; omega) hc
  have hg := tst_gd hT1 (fac_gd hT1 hu r) κ hin
  have he := tst_end hT1 (fac_gd hT1 hu r) κ hin
  rw [e_X12_qTest]
  have eq : jN (d + 8) 312 2 [(22, 149), (0, 1), (2, (-1))] [] (G, X) = QT d G (2, -1) X := rfl
  rw [eq]
  cases e2 : tst T (fac T u r) κ with
  | inl e' =>
    rw [e2] at hI
    exact hI
  | inr p =>
    rw [e2] at hI hg he
    obtain ⟨Z, cz, c0, l, z1, z2, z3, z4, z5, z6⟩ := hI
    have hp1 : κ.1 + p.2.length ≤ p.1.1 := hg.2.1
    have hpT : p.1.1 ≤ T.1 := hg.1.2
    have hpl : p.2.length = c0.length + l.length := by rw [z2, List.length_append]
    have hlen : (l.map toM ++ ([] : List Int)).length = l.length := by rw [List.append_nil, List.length_map]
    have hno : 25 ∉ l.map toM ++ ([] : List Int) := by
      rw [List.append_nil, List.mem_map]
      rintro ⟨o, ho1, ho2⟩
      have := opL_h (Or.inl (z4 o ho1))
      omega
    have e0 := k_76 d hG hT z3 (by omega) (fun _ => hno)
    rw [(k_none d hG hT z3 (sgB_n he.1) (sgT_n he.2) (by omega)).2 hno] at e0
    obtain ⟨V, e3, k3, f3⟩ := t_tst_n d (v := 0) (u2 := (0, cz)) (Or.inr rfl) hG l (lk Z p.1) (C ++ c0) (mS_lk z3) (by rw [List.length_append]; omega) (by omega)
    rw [List.append_assoc, ← z2] at k3
    refine ⟨V, ?_, k3, mfQ_t z6 (mfQ_t (mfQ_0 (lk_0 Z p.1)) f3)⟩
    rw [z1]
    unfold TG KT
    rw [e0]
    simp only [Option.bind_some, reduceIte]
    rw [h_X12_qTest_2 _ _ _ (0, cz) (Or.inr rfl), if_pos rfl]
    exact e3
