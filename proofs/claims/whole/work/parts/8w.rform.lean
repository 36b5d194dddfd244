theorem QP_atom (d : Nat) {w : Int} {G : jG} {X : jX} {T : aT} {u : Int} {κ : aK} {r : Nat} {W : List Int} {b : Int} {C : List Int} (hG : GG G) (hT : okT T) (hu : u = 0 ∨ u = 1 ∨ u = 2) (h : mS X T u κ r W b C) {u2 u3 u4 u5 : jV} (hu2 : u2.1 = 2 ∨ u2.1 = 0) (hu3 : u3.1 = 2 ∨ u3.1 = 0) (hu4 : u4.1 = 2 ∨ u4.1 = 0) (hu5 : u5.1 = 2 ∨ u5.1 = 0) (b0 : 0 ≤ b) (hs : stk b r W) (hc : C.length < 1650) (hw : W.length < 1500) (q1 : ¬ mk T κ 40 = true) (q2 : ¬ (wd T κ = 27 ∨ wd T κ = 28)) (q3 : ¬ (wd T κ = 22 ∧ u = 2)) : endQ G X T u r W b C (QE d w G) (QP d w G u2 u3 u4 u5 X) (atm T u κ) := by
  have hk := mS_lk h
  obtain ⟨v2, v3, hv3, e⟩ := p_head d hG hT hu h hu2 hu3 hu4 hu5
  rw [if_neg q3] at hv3
  rw [if_neg q1, if_neg q2, if_pos hv3, h_X12_qPartTold_183 _ _ _ _ _ u4 hu4 u5 hu5, h_X12_qPartTold_2 _ _ _ (0, v2) (Or.inr rfl) (0, v3) (Or.inr rfl) u4 hu4 u5 hu5, if_pos rfl, h_X12_qPartTold_186 _ _ _ (0, v2) (Or.inr rfl) (0, v3) (Or.inr rfl) u4 hu4 u5 hu5, hk.2.2.1.1] at e
  simp only [Int.reduceLE, reduceIte] at e
  have ew := t_qWordOf (d + 1) hG hT hk.1 hk.2.1 hk.2.2.1.1 u 0 10 hk.2.2.1.2.1
  rw [lk_lk] at ew
  rw [ew] at e
  simp only [Option.bind_some] at e
  have hqf := qw_of (T := T) (κ := κ) hu
  -- a code is put, and the part ends
  have put : ∀ (op s0 : Int) (vv : Int), toM op = s0 → srt T κ.1 ≠ 0 → jN (d + 5) 306 2 [(22, 149), (0, 1), u2, u3, u4, u5] [] (G, X) = jN (d + 5) 306 237 [(22, 149), (0, 0), (0, vv), (0, v3), u4, u5] [(0, s0), (22, 149)] (G, tk X T κ) → endQ G X T u r W b C (QE d w G) (QP d w G u2 u3 u4 u5 X) (.inr (nx T κ, [op])) := fun op s0 vv hop h0 e' => by
    obtain ⟨Y, e1, k1, f1, _⟩ := t_qCode (d + 4) hG op s0 hop (mS_tk (X := X) h0 h) (by omega)
    refine ⟨Y, ?_, k1, mfQ_t (mfQ_0 (tk_0 X T κ)) f1⟩
    rw [← QE_eq d (w := w) hG k1 b0 hs (by rw [List.length_append, List.length_singleton]; omega) hw]
    unfold QP
    rw [e', h_X12_qPartTold_237 _ _ _ _ _ _ (0, v3) (Or.inr rfl) u4 hu4 u5 hu5]
    simp only [Int.reduceLE, reduceIte]
    rw [e1]
    simp only [Option.bind_some]
  by_cases qf : fct u (wd T κ) = -1
  · have hn : ¬ (0 ≤ qw (wd T κ) ∧ qw (wd T κ) < 10 ∧ alw u (qw (wd T κ)) = true) := fun y => hqf.1.1 y qf
    rw [if_neg hn, if_pos rfl, h_X12_qPartTold_212 _ _ _ _ (0, v3) (Or.inr rfl) u4 hu4 u5 hu5, if_pos rfl] at e
    simp only [Int.reduceLE, reduceIte] at e
    have en := t_number (d + 3) hG hT hk.1 hk.2.1 hk.2.2.1.1 0 9999
    have bad : ∀ (z : Int) (Y : jX) (ee : Int × Int), jD (d + 5) 199 [(22, 149), (0, 0), (0, 9999)] (G, lk X κ) = some (z, (G, Y)) → Y 149 5 = ee.1 → Y 149 6 = ee.2 → ee.1 ≠ 0 → mf0 (lk X κ) Y → endQ G X T u r W b C (QE d w G) (QP d w G u2 u3 u4 u5 X) (.inl ee) := fun z Y ee e1 h5 h6 hne hf => by
      have h109 : Y 149 109 = C.length := by rw [hf.2 109 (by omega) (by omega)]; exact hk.2.2.2.1.1
      rw [e1] at e
      simp only [Option.bind_some] at e
      rw [h_X12_qPartTold_237 _ _ _ _ _ _ (0, v3) (Or.inr rfl) u4 hu4 u5 hu5] at e
      simp only [Int.reduceLE, reduceIte] at e
      rw [e_X12_qCode, gr_149_108 hG, gl_227 hG, h109] at e
      simp only [if_pos (show (0 : Int) ≤ (C.length : Int) by omega), if_pos (show (C.length : Int) < 1700 by omega), Int.reduceLE, reduceIte, Option.bind_some] at e
      generalize hZ : jup (jup Y 227 (C.length : Int) (jadd 1000 z)) 149 109 (jadd (jup Y 227 (C.length : Int) (jadd 1000 z) 149 109) 1) = Z at e
      have z5 : Z 149 5 = ee.1 := by rw [← hZ, jup_row _ _ _ _ _ (by omega), jup_rw _ _ _ _ _ (by omega)]; exact h5
      have z6 : Z 149 6 = ee.2 := by rw [← hZ, jup_row _ _ _ _ _ (by omega), jup_rw _ _ _ _ _ (by omega)]; exact h6
      have hz : Z 149 5 ≠ 0 := by rw [z5]; exact hne
      have ee5 : jD (d + 5) 305 [(22, 149)] (G, Z) = some (0, (G, Z)) := by
        rw [e_X12_qEndsPart, h_X12_qEndsPart_0]
        simp only [if_neg hz, Int.reduceLE, reduceIte]
      rw [ee5] at e
      simp only [Option.bind_some] at e
      have z9 : Z 149 109 = (C.length : Int) + 1 := by rw [← hZ, jup_same, jup_rw _ _ _ _ _ (by omega), h109, jadd_id (by omega) (by omega)]
      refine endQ_f (QP_f e hz) z5 z6 ⟨mfQ_t (mfQ_0 (mf0_t (lk_0 X κ) hf)) ?_, by omega⟩
      rw [← hZ]
      exact mfQ_t (mfQ_c (Or.inl rfl)) (mfQ_u (by omega))
    unfold atm
    unfold nmR at en
    by_cases q : so T κ = 2
    · rw [if_pos q] at en ⊢
      have hs2 : srt T κ.1 = 2 := by rcases so_b T κ with y | y <;> omega
      by_cases q4 : 4 < tE T κ.1 - κ.1
      · rw [if_pos q4] at en ⊢
        obtain ⟨z, Y, e1, e5, e6, e7, e8⟩ := en
        exact bad z Y _ e1 e5 e6 e7 e8
      · rw [if_neg q4] at en ⊢
        have hb := nuV_b hs2 (by omega)
        rw [if_pos (by omega)] at en
        have en' : jD (d + 5) 199 [(22, 149), (0, 0), (0, 9999)] (G, lk X κ) = some (nuV T κ.1, (G, tk (lk X κ) T κ)) := en
        rw [tk_lk] at en'
        rw [en'] at e
        simp only [Option.bind_some] at e
        refine put (nuV T κ.1) (jadd 1000 (nuV T κ.1)) (-1) ?_ (by omega) e
        rw [jadd_id (by omega) (by omega)]
        unfold toM
        rw [if_pos (by omega)]
    · rw [if_neg q] at en ⊢
      rw [if_pos qf]
      obtain ⟨z, Y, e1, e5, e6, e7, e8⟩ := en
      exact bad z Y _ e1 e5 e6 e7 e8
  · have hp := hqf.1.2 qf
    have hw' : wd T κ ≠ -1 := fun y => by rw [y, qw_n.1] at hp; omega
    have hso := wd_so hw'
    have hsr : srt T κ.1 = 1 := by rcases so_b T κ with z | z <;> omega
    have ea := t_qAsksWord d hG hT hk.1 hk.2.1 hk.2.2.1.1 (by omega)
    rw [tk_lk] at ea
    rw [if_pos hp, if_neg (show ¬ qw (wd T κ) = -1 by omega), ea] at e
    simp only [Option.bind_some] at e
    rw [h_X12_qPartTold_212 _ _ _ _ (0, v3) (Or.inr rfl) u4 hu4 u5 hu5, if_neg (show ¬ qw (wd T κ) = -1 by omega)] at e
    unfold atm
    rw [if_neg (show ¬ so T κ = 2 by omega), if_neg qf]
    refine put (20000 + fct u (wd T κ)) (jadd 40 (qw (wd T κ))) (qw (wd T κ)) ?_ (by omega) e
    rw [jadd_id (by omega) (by omega)]
    exact hqf.2 hp
/-! a part, a product, a sum -/
def PT (d : Nat) (w : Int) (G : jG) (T : aT) (u b : Int) (r : Nat) : Prop := ∀ (X : jX) (κ : aK) (W C : List Int) (u2 u3 u4 u5 : jV), u2.1 = 2 ∨ u2.1 = 0 → u3.1 = 2 ∨ u3.1 = 0 → u4.1 = 2 ∨ u4.1 = 0 → u5.1 = 2 ∨ u5.1 = 0 → mS X T u κ r W b C → stk b r W → W.length + 3 * r + 1 ≤ 1000 → C.length ≤ κ.1 → endQ G X T u r W b C (QE d w G) (QP d w G u2 u3 u4 u5 X) (prt T u r κ)
/-- a row of parts: what waits of it lies on the stack still -/
def endL (G : jG) (d : Nat) (w : Int) (X : jX) (T : aT) (u : Int) (r : Nat) (W : List Int) (b : Int) (C : List Int) (lo : Int) (n : Nat) (L : jR) (R : rs) : Prop := match R with
  | .inl e => ∃ Y, L = some (0, (G, Y)) ∧ Y 149 5 = e.1 ∧ Y 149 6 = e.2 ∧ mfB X Y
  | .inr q => ∃ Y c0 l, L = QG d w G Y ∧ q.2 = c0 ++ l ∧ mS Y T u q.1 r (l.map toM ++ W) b (C ++ c0) ∧ (∀ o ∈ l, lo ≤ o ∧ o ≤ 10011) ∧ l.length ≤ n ∧ mfQ X Y
theorem r_prod (d : Nat) {w : Int} {G : jG} {T : aT} {u b : Int} {r : Nat} (hG : GG G) (hT : okT T) (hu : u = 0 ∨ u = 1 ∨ u = 2) (b0 : 0 ≤ b) (hP : PT d w G T u b r) {X : jX} {κ : aK} {W C : List Int} {u2 u3 u4 u5 : jV} (hu2 : u2.1 = 2 ∨ u2.1 = 0) (hu3 : u3.1 = 2 ∨ u3.1 = 0) (hu4 : u4.1 = 2 ∨ u4.1 = 0) (hu5 : u5.1 = 2 ∨ u5.1 = 0) (h : mS X T u κ r W b C) (hb : b ≤ W.length) (hW : W.length = b ∨ W.headD 0 < 60) (hW2 : W.headD 0 ≠ 3 ∧ W.headD 0 ≠ 4) (hw : W.length + 3 * r + 2 ≤ 1000) (hc : C.length ≤ κ.1) : endL G d w X T u r W b C 10010 1 (QP d w G u2 u3 u4 u5 X) (lev (sgP T) T (prt T u r) κ) := by
  have hT1 := hT.2.1
  have hgp := prt_gd hT1 hu r
  -- the loop
  have loop : ∀ (m : Nat) (Y : jX) (κ1 : aK) (c c0 l : List Int), c = c0 ++ l → mS Y T u κ1 r (l.map toM ++ W) b (C ++ c0) → (∀ o ∈ l, 10010 ≤ o ∧ o ≤ 10011) → l.length ≤ 1 → gdR T u (3 * r + 1 + 1) 0 κ (.inr (κ1, c)) → T.1 - κ1.1 ≤ m → mfQ X Y → endL G d w X T u r W b C 10010 1 (QG d w G Y) (lp (sgP T) T (prt T u r) m κ1 c) := by
    intro m
    induction m with
    | zero =>
      intro Y κ1 c c0 l ec hY hl hl1 hg hm hf
      exact ⟨Y, c0, l, rfl, ec, hY, hl, hl1, hf⟩
    | succ m ih =>
      intro Y κ1 c c0 l ec hY hl hl1 hg hm hf
      unfold lp
      by_cases q : sgP T κ1 = -1
      · rw [if_pos q]
        exact ⟨Y, c0, l, rfl, ec, hY, hl, hl1, hf⟩
      · rw [if_neg q]
        obtain ⟨s1, s2⟩ := sgO_P T κ1 q
        have hin : inT T κ1 := mS_in hY
        have hn := nx_in hin
        have hn2 := hn.2.1 s1
        have hg2 : κ.1 + c.length ≤ κ1.1 := hg.2.1
        have hlc : c.length = c0.length + l.length := by rw [ec, List.length_append]
        have hi1 := hin.2
        have hlm : (l.map toM ++ W).length = l.length + W.length := by rw [List.length_append, List.length_map]
        have hm41 : ¬ mk T κ1 41 = true := fun y => by
          have y1 := (mk_iff.1 y).2
          unfold sgP at q
          rw [if_neg (fun z => by have := (mk_iff.1 z).2; omega), if_neg (fun z => by have := (mk_iff.1 z).2; omega)] at q
          exact q rfl
        have e0 := g_122 d hG hT hY b0 (by omega) (fun y => absurd y hm41)
        obtain ⟨Y1, e1, k1, f1⟩ := g_mul d hG hT hY (fun o ho => by have := hl o ho; omega) hW2 rfl q (by rw [List.length_append]; omega) (by omega)
        rw [e1] at e0
        rw [show C ++ c0 ++ l = C ++ c by rw [ec, List.append_assoc]] at k1
        rw [QG_1 e0 k1.2.2.1.1]
        have hop : sgP T κ1 = 10010 ∨ sgP T κ1 = 10011 := by unfold sgP at q ⊢; split at q <;> split <;> omega
        have h34 : toM (sgP T κ1) = 3 ∨ toM (sgP T κ1) = 4 := by rcases hop with y | y <;> rw [y] <;> decide
        have hI := hP Y1 (nx T κ1) (toM (sgP T κ1) :: W) (C ++ c) (2, -1) (2, -1) (2, -1) (2, -1) (Or.inl rfl) (Or.inl rfl) (Or.inl rfl) (Or.inl rfl) k1 (stk_c hb (by omega) h.2.2.2.2.2.1.2) (by rw [List.length_cons]; omega) (by rw [List.length_append]; omega)
        have hgn := hgp (nx T κ1) hn.1
        have F1 := mfQ_t hf f1
        cases e2 : prt T u r (nx T κ1) with
        | inl e' =>
          rw [e2] at hI
          obtain ⟨Z, z1, z2, z3, z4⟩ := hI
          exact ⟨Z, z1, z2, z3, mfB_t F1 z4⟩
        | inr p =>
          rw [e2] at hI hgn
          obtain ⟨Z, z1, z2, z3⟩ := hI
          have hj := gd_join s2 hg hn2 hgn
          have hp1 : (nx T κ1).1 + p.2.length ≤ p.1.1 := hgn.2.1
          have zst := QE_stop d hG z2 (by rw [List.length_cons]; omega) b0 (Or.inr (by show toM (sgP T κ1) < 60; omega))
          rw [z1, QE_st zst, bnd_r]
          refine ih Z p.1 (c ++ p.2 ++ [sgP T κ1]) (c ++ p.2) [sgP T κ1] rfl ?_ (fun o ho => ?_) (Nat.le_refl 1) hj (by omega) (mfQ_t F1 z3)
          · rw [← List.append_assoc]; exact z2
          · rw [List.mem_singleton] at ho; omega
  have hI := hP X κ W C u2 u3 u4 u5 hu2 hu3 hu4 hu5 h ⟨0, W, rfl, hb, hW, by have := h.2.2.2.2.2.1.2; omega⟩ (by omega) hc
  have hgn := hgp κ (mS_in h)
  unfold lev
  cases e2 : prt T u r κ with
  | inl e' =>
    rw [e2] at hI
    exact hI
  | inr p =>
    rw [e2] at hI hgn
    obtain ⟨Z, z1, z2, z3⟩ := hI
    have hp1 : κ.1 + p.2.length ≤ p.1.1 := hgn.2.1
    have h00 := (mS_in h).1
    have zst := QE_stop d hG z2 (by omega) b0 hW
    rw [z1, QE_st zst, bnd_r]
    exact loop 1600 Z p.1 p.2 p.2 [] (by rw [List.append_nil]) z2 (fun o ho => absurd ho List.not_mem_nil) (by show 0 ≤ 1; omega) (gd_H (by omega) hgn) (by omega) z3
theorem r_sum (d : Nat) {w : Int} {G : jG} {T : aT} {u b : Int} {r : Nat} (hG : GG G) (hT : okT T) (hu : u = 0 ∨ u = 1 ∨ u = 2) (b0 : 0 ≤ b) (hP : PT d w G T u b r) {X : jX} {κ : aK} {W C : List Int} {u2 u3 u4 u5 : jV} (hu2 : u2.1 = 2 ∨ u2.1 = 0) (hu3 : u3.1 = 2 ∨ u3.1 = 0) (hu4 : u4.1 = 2 ∨ u4.1 = 0) (hu5 : u5.1 = 2 ∨ u5.1 = 0) (h : mS X T u κ r W b C) (hb : b ≤ W.length) (hW : W.length = b ∨ W.headD 0 < 60) (hW2 : W.headD 0 ≠ 3 ∧ W.headD 0 ≠ 4 ∧ W.headD 0 ≠ 1 ∧ W.headD 0 ≠ 2) (hw : W.length + 3 * r + 3 ≤ 1000) (hc : C.length ≤ κ.1) : endL G d w X T u r W b C 10008 2 (QP d w G u2 u3 u4 u5 X) (sms T (prt T u r) κ) := by
  have hT1 := hT.2.1
  have hgp : ∀ κ, inT T κ → gdR T u (3 * r + 2) 0 κ (lev (sgP T) T (prt T u r) κ) ∧ gdL (sgP T) (lev (sgP T) T (prt T u r) κ) := lev_gd hT1 (sgO_P T) (prt_gd hT1 hu r)
  have loop : ∀ (m : Nat) (Y : jX) (κ1 : aK) (c c0 l : List Int), c = c0 ++ l → mS Y T u κ1 r (l.map toM ++ W) b (C ++ c0) → (∀ o ∈ l, 10008 ≤ o ∧ o ≤ 10011) → l.length ≤ 2 → sgP T κ1 = -1 → gdR T u (3 * r + 2 + 1) 0 κ (.inr (κ1, c)) → T.1 - κ1.1 ≤ m → mfQ X Y → endL G d w X T u r W b C 10008 2 (QG d w G Y) (lp (sgS T) T (lev (sgP T) T (prt T u r)) m κ1 c) := by
    intro m
    induction m with
    | zero =>
      intro Y κ1 c c0 l ec hY hl hl1 hsp hg hm hf
      exact ⟨Y, c0, l, rfl, ec, hY, hl, hl1, hf⟩
    | succ m ih =>
      intro Y κ1 c c0 l ec hY hl hl1 hsp hg hm hf
      unfold lp
      by_cases q : sgS T κ1 = -1
      · rw [if_pos q]
        exact ⟨Y, c0, l, rfl, ec, hY, hl, hl1, hf⟩
      · rw [if_neg q]
        obtain ⟨s1, s2⟩ := sgO_S T κ1 q
        have hin : inT T κ1 := mS_in hY
        have hn := nx_in hin
        have hn2 := hn.2.1 s1
        have hg2 : κ.1 + c.length ≤ κ1.1 := hg.2.1
        have hlc : c.length = c0.length + l.length := by rw [ec, List.length_append]
        have hi1 := hin.2
        have hlm : (l.map toM ++ W).length = l.length + W.length := by rw [List.length_append, List.length_map]
        have hm41 : ¬ mk T κ1 41 = true := fun y => by
          have y1 := (mk_iff.1 y).2
          unfold sgS at q
          rw [if_neg (fun z => by have := (mk_iff.1 z).2; omega), if_neg (fun z => by have := (mk_iff.1 z).2; omega)] at q
          exact q rfl
        have e0 := g_122 d hG hT hY b0 (by omega) (fun y => absurd y hm41)
        obtain ⟨Y1, e1, k1, f1⟩ := g_add d hG hT hY hl hW2 hsp rfl q (by rw [List.length_append]; omega) (by omega)
        rw [e1] at e0
        rw [show C ++ c0 ++ l = C ++ c by rw [ec, List.append_assoc]] at k1
        rw [QG_1 e0 k1.2.2.1.1]
        have hop : sgS T κ1 = 10008 ∨ sgS T κ1 = 10009 := by unfold sgS at q ⊢; split at q <;> split <;> omega
        have h34 : toM (sgS T κ1) = 1 ∨ toM (sgS T κ1) = 2 := by rcases hop with y | y <;> rw [y] <;> decide
        have hI := r_prod d hG hT hu b0 hP (W := toM (sgS T κ1) :: W) (C := C ++ c) (u2 := (2, -1)) (u3 := (2, -1)) (u4 := (2, -1)) (u5 := (2, -1)) (Or.inl rfl) (Or.inl rfl) (Or.inl rfl) (Or.inl rfl) k1 (by rw [List.length_cons]; omega) (Or.inr (by show toM (sgS T κ1) < 60; omega)) (by show toM (sgS T κ1) ≠ 3 ∧ toM (sgS T κ1) ≠ 4; omega) (by rw [List.length_cons]; omega) (by rw [List.length_append]; omega)
        have hgn := hgp (nx T κ1) hn.1
        have F1 := mfQ_t hf f1
        cases e2 : lev (sgP T) T (prt T u r) (nx T κ1) with
        | inl e' =>
          rw [e2] at hI
          obtain ⟨Z, z1, z2, z3, z4⟩ := hI
          exact ⟨Z, z1, z2, z3, mfB_t F1 z4⟩
        | inr p =>
          rw [e2] at hI hgn
          obtain ⟨Z, d0, dl, z1, z2, z3, z4, z5, z6⟩ := hI
          have hj := gd_join s2 hg hn2 hgn.1
          have hp1 : (nx T κ1).1 + p.2.length ≤ p.1.1 := hgn.1.2.1
          rw [z1, bnd_r]
          refine ih Z p.1 (c ++ p.2 ++ [sgS T κ1]) (c ++ d0) (dl ++ [sgS T κ1]) (by rw [z2]; simp only [List.append_assoc]) ?_ (fun o ho => ?_) (by rw [List.length_append, List.length_singleton]; omega) hgn.2 hj (by omega) (mfQ_t F1 z6)
          · rw [List.map_append, List.append_assoc, ← List.append_assoc C c d0]; exact z3
          · rw [List.mem_append, List.mem_singleton] at ho
            rcases ho with ho | ho
            · have := z4 o ho; omega
            · omega
  have hI := r_prod d hG hT hu b0 hP hu2 hu3 hu4 hu5 h hb hW ⟨hW2.1, hW2.2.1⟩ (by omega) hc
  have hgn := hgp κ (mS_in h)
  unfold sms
  rw [show lev (sgS T) T (lev (sgP T) T (prt T u r)) κ = bnd (lev (sgP T) T (prt T u r) κ) (lp (sgS T) T (lev (sgP T) T (prt T u r)) 1600) from rfl]
  cases e2 : lev (sgP T) T (prt T u r) κ with
  | inl e' =>
    rw [e2] at hI
    exact hI
  | inr p =>
    rw [e2] at hI hgn
    obtain ⟨Z, d0, dl, z1, z2, z3, z4, z5, z6⟩ := hI
    have hp1 : κ.1 + p.2.length ≤ p.1.1 := hgn.1.2.1
    have h00 := (mS_in h).1
    rw [z1, bnd_r]
    exact loop 1600 Z p.1 p.2 d0 dl z2 z3 (fun o ho => by have := z4 o ho; omega) (by omega) hgn.2 (gd_H (by omega) hgn.1) (by omega) z6
