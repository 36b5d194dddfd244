/-! READING: the reference's number, stacks, codes -/
def nmR (T : aT) (lo hi : Int) (κ : aK) : (Int × Int) ⊕ Int := if so T κ = 2 then (if 4 < tE T κ.1 - κ.1 then .inl (1, κ.1 + 4) else if lo ≤ nuV T κ.1 ∧ nuV T κ.1 ≤ hi then .inr (nuV T κ.1) else .inl (2, κ.1)) else .inl (1, κ.1)
def nmP (G : jG) (X : jX) (T : aT) (κ : aK) (L : jR) (R : (Int × Int) ⊕ Int) : Prop := match R with
  | .inl e => ∃ w Y, L = some (w, (G, Y)) ∧ Y 149 5 = e.1 ∧ Y 149 6 = e.2 ∧ e.1 ≠ 0 ∧ mf0 X Y
  | .inr v => L = some (v, (G, tk X T κ))
theorem t_number (d : Nat) {G : jG} {X : jX} {T : aT} {κ : aK} (hG : GG G) (hT : okT T) (hB : mB X T) (hk : mK X T κ) (h5 : X 149 5 = 0) (lo hi : Int) : nmP G X T κ (jD (d + 2) 199 [(22, 149), (0, lo), (0, hi)] (G, X)) (nmR T lo hi κ) := by
  have hin := mK_in hk
  have hB' := mB_0 (lk_0 X κ) hB
  have h5' : lk X κ 149 5 = 0 := by rw [lk_j X κ 5 (by omega)]; exact h5
  rw [e_X12_number, h5]
  simp only [Int.reduceLE, reduceIte]
  rw [t_look d hG hT hB hk]
  simp only [Option.bind_some]
  rw [t_isDigit d hin.1]
  simp only [Option.bind_some]
  unfold nmR
  by_cases q : srt T κ.1 = 2
  · rw [if_pos q, if_neg (by omega), lk_at, lk_j X κ 4 (by omega)]
    by_cases q2 : κ.2 = true
    · have hs : so T κ = 4 := if_pos ⟨q2, Or.inr q⟩
      rw [if_pos (hk.2.1.2 q2).symm, if_neg (show ¬ so T κ = 2 by omega), t_fail d h5']
      simp only [Option.bind_some]
      exact ⟨_, _, rfl, (fl_5 X κ 1 κ.1).1, (fl_5 X κ 1 κ.1).2, by show (1 : Int) ≠ 0; omega, fl_0 X κ 1 κ.1⟩
    · have hs : so T κ = 2 := by unfold so; rw [if_neg (fun y => q2 y.1)]; exact q
      rw [if_neg (fun y => q2 (hk.2.1.1 y.symm)), if_pos hs]
      have hte : tE T κ.1 = rn bD T κ.1 := by unfold tE; rw [if_neg (by omega), if_pos q]
      obtain ⟨Y, w, e, c⟩ := t_num_n d (κ := κ) hG hT lo hi κ.1 hin.1 (fun _ _ _ => trivial) _ (lk X κ) κ.1 0 rfl hB'.1 (lk_at X κ) h5' (by omega) hin.2 (by omega) (by omega) (by rw [show (κ.1 - κ.1).toNat = 0 by omega]; decide)
      rw [← hte] at c
      rw [e]
      by_cases q4 : 4 < tE T κ.1 - κ.1
      · rw [if_pos q4] at c ⊢
        refine ⟨w, Y, rfl, ?_, ?_, by show (1 : Int) ≠ 0; omega, ?_⟩
        · rw [c, jup_row _ _ _ _ _ (by omega), jup_same]
        · rw [c, jup_same]
        · rw [c]; exact mf0_t (lk_0 X κ) (mf0_t (mf0_u (Or.inl rfl)) (mf0_t (mf0_u (Or.inr (by omega))) (mf0_u (Or.inr (by omega)))))
      · rw [if_neg q4] at c ⊢
        obtain ⟨c1, c2⟩ := c
        have c1' : w = nuV T κ.1 := c1
        rw [c1'] at c2
        by_cases q5 : lo ≤ nuV T κ.1 ∧ nuV T κ.1 ≤ hi
        · rw [if_pos q5] at c2 ⊢
          show some (w, (G, Y)) = some (nuV T κ.1, (G, tk X T κ))
          rw [c1', c2]
          unfold tk
          rw [if_neg (by omega)]
        · rw [if_neg q5] at c2 ⊢
          refine ⟨w, Y, rfl, ?_, ?_, by show (2 : Int) ≠ 0; omega, ?_⟩
          · rw [c2, jup_row _ _ _ _ _ (by omega), jup_same]
          · rw [c2, jup_same]
          · rw [c2]; exact mf0_t (lk_0 X κ) (mf0_t (mf0_u (Or.inl rfl)) (mf0_t (mf0_u (Or.inr (by omega))) (mf0_t (mf0_u (Or.inr (by omega))) (mf0_u (Or.inr (by omega))))))
  · have hs : so T κ ≠ 2 := by rcases so_b T κ with y | y <;> omega
    rw [if_neg q, if_pos rfl, if_neg hs, lk_at, t_fail d h5']
    simp only [Option.bind_some]
    exact ⟨_, _, rfl, (fl_5 X κ 1 κ.1).1, (fl_5 X κ 1 κ.1).2, by show (1 : Int) ≠ 0; omega, fl_0 X κ 1 κ.1⟩
/-- a text is being read: where, what waits (W, its top ahead), what is told so far (C) -/
def mS (X : jX) (T : aT) (u : Int) (κ : aK) (r : Nat) (W : List Int) (b : Int) (C : List Int) : Prop := mB X T ∧ mK X T κ ∧ (X 149 5 = 0 ∧ X 149 52 = u ∧ X 149 6 = -1) ∧ (X 149 109 = C.length ∧ ∀ i : Nat, i < C.length → X 227 i = toM (C.getD i 0)) ∧ (X 149 111 = W.length ∧ pil (X 228) W) ∧ (X 149 112 = 6 - r ∧ r ≤ 6) ∧ X 149 113 = b
def mfQ (X X' : jX) : Prop := (∀ k, k ≠ 149 → k ≠ 227 → k ≠ 228 → X' k = X k) ∧ ∀ j, j ≠ 2 → ¬ (4 ≤ j ∧ j ≤ 6) → j ≠ 109 → ¬ (111 ≤ j ∧ j ≤ 113) → X' 149 j = X 149 j
theorem mfQ_r (X : jX) : mfQ X X := ⟨fun _ _ _ _ => rfl, fun _ _ _ _ _ => rfl⟩
theorem mfQ_t {X Y Z : jX} (h1 : mfQ X Y) (h2 : mfQ Y Z) : mfQ X Z := ⟨fun k a b c => by rw [h2.1 k a b c, h1.1 k a b c], fun j a b c e => by rw [h2.2 j a b c e, h1.2 j a b c e]⟩
theorem mfQ_0 {X Y : jX} (h : mf0 X Y) : mfQ X Y := ⟨fun k a _ _ => h.1 k a, fun j a b _ _ => h.2 j a b⟩
theorem mfQ_u {X : jX} {j v : Int} (h : j = 2 ∨ (4 ≤ j ∧ j ≤ 6) ∨ j = 109 ∨ (111 ≤ j ∧ j ≤ 113)) : mfQ X (jup X 149 j v) := ⟨fun k a _ _ => jup_rw _ _ _ _ _ a, fun i a b c e => jup_row _ _ _ _ _ (by omega)⟩
theorem mfQ_c {X : jX} {a j v : Int} (h : a = 227 ∨ a = 228) : mfQ X (jup X a j v) := ⟨fun k _ b c => jup_rw _ _ _ _ _ (by omega), fun i _ _ _ _ => by rw [jup_rw _ _ _ _ _ (by omega)]⟩
theorem mB_Q {X X' : jX} {T : aT} (h : mfQ X X') (hB : mB X T) : mB X' T := by
  refine ⟨?_, mWd_fr (fun a ha => h.1 a (by omega) (by omega) (by omega)) hB.2⟩
  have := hB.1
  unfold mTp at *
  rw [h.2 3 (by omega) (by omega) (by omega) (by omega), h.1 150 (by omega) (by omega) (by omega)]
  exact this
theorem mK_e {X X' : jX} {T : aT} {κ : aK} (h2 : X' 149 2 = X 149 2) (h4 : X' 149 4 = X 149 4) (h : mK X T κ) : mK X' T κ := by unfold mK at *; rw [h2, h4]; exact h
/-- only the place goes on -/
theorem mS_0 {X Y : jX} {T : aT} {u : Int} {κ κ' : aK} {r : Nat} {W : List Int} {b : Int} {C : List Int} (f : mf0 X Y) (hk : mK Y T κ') (h5 : Y 149 5 = 0) (h6 : Y 149 6 = -1) (h : mS X T u κ r W b C) : mS Y T u κ' r W b C := by
  obtain ⟨a1, a2, a3, a4, a5, a6, a7⟩ := h
  exact ⟨mB_0 f a1, hk, ⟨h5, by rw [f.2 52 (by omega) (by omega)]; exact a3.2.1, h6⟩, ⟨by rw [f.2 109 (by omega) (by omega)]; exact a4.1, fun i hi => by rw [f.1 227 (by omega)]; exact a4.2 i hi⟩, ⟨by rw [f.2 111 (by omega) (by omega)]; exact a5.1, by rw [f.1 228 (by omega)]; exact a5.2⟩, by rw [f.2 112 (by omega) (by omega)]; exact a6, by rw [f.2 113 (by omega) (by omega)]; exact a7⟩
theorem mS_lk {X : jX} {T : aT} {u : Int} {κ : aK} {r : Nat} {W : List Int} {b : Int} {C : List Int} (h : mS X T u κ r W b C) : mS (lk X κ) T u κ r W b C := mS_0 (lk_0 X κ) (lk_K h.2.1) (by rw [lk_j X κ 5 (by omega)]; exact h.2.2.1.1) (by rw [lk_j X κ 6 (by omega)]; exact h.2.2.1.2.2) h
theorem mS_tk {X : jX} {T : aT} {u : Int} {κ : aK} {r : Nat} {W : List Int} {b : Int} {C : List Int} (h0 : srt T κ.1 ≠ 0) (h : mS X T u κ r W b C) : mS (tk X T κ) T u (nx T κ) r W b C := mS_0 (tk_0 X T κ) (tk_K h.2.1 h0) (by rw [tk_5 X T κ 5 (by omega) (by omega)]; exact h.2.2.1.1) (by rw [tk_5 X T κ 6 (by omega) (by omega)]; exact h.2.2.1.2.2) h
theorem mS_in {X : jX} {T : aT} {u : Int} {κ : aK} {r : Nat} {W : List Int} {b : Int} {C : List Int} (h : mS X T u κ r W b C) : inT T κ := mK_in h.2.1
theorem t_qCode (d : Nat) {G : jG} {X : jX} {T : aT} {u : Int} {κ : aK} {r : Nat} {W : List Int} {b : Int} {C : List Int} (hG : GG G) (op v : Int) (hv : toM op = v) (h : mS X T u κ r W b C) (hl : C.length < 1700) : ∃ Y, jD (d + 1) 295 [(22, 149), (0, v)] (G, X) = some (0, (G, Y)) ∧ mS Y T u κ r W b (C ++ [op]) ∧ mfQ X Y ∧ Y 149 2 = X 149 2 := by
  obtain ⟨a1, a2, a3, a4, a5, a6, a7⟩ := h
  refine ⟨jup (jup X 227 C.length v) 149 109 (C.length + 1), ?_, ⟨mB_Q (mfQ_t (mfQ_c (Or.inl rfl)) (mfQ_u (by omega))) a1, mK_e (by rw [jup_row _ _ _ _ _ (by omega), jup_rw _ _ _ _ _ (by omega)]) (by rw [jup_row _ _ _ _ _ (by omega), jup_rw _ _ _ _ _ (by omega)]) a2, ⟨by rw [jup_row _ _ _ _ _ (by omega), jup_rw _ _ _ _ _ (by omega)]; exact a3.1, by rw [jup_row _ _ _ _ _ (by omega), jup_rw _ _ _ _ _ (by omega)]; exact a3.2.1, by rw [jup_row _ _ _ _ _ (by omega), jup_rw _ _ _ _ _ (by omega)]; exact a3.2.2⟩, ⟨by rw [jup_same, List.length_append, List.length_singleton]; omega, fun i hi => ?_⟩, ⟨by rw [jup_row _ _ _ _ _ (by omega), jup_rw _ _ _ _ _ (by omega)]; exact a5.1, by rw [jup_rw _ _ _ _ _ (by omega), jup_rw _ _ _ _ _ (by omega)]; exact a5.2⟩, by rw [jup_row _ _ _ _ _ (by omega), jup_rw _ _ _ _ _ (by omega)]; exact a6, by rw [jup_row _ _ _ _ _ (by omega), jup_rw _ _ _ _ _ (by omega)]; exact a7⟩, mfQ_t (mfQ_c (Or.inl rfl)) (mfQ_u (by omega)), by rw [jup_row _ _ _ _ _ (by omega), jup_rw _ _ _ _ _ (by omega)]⟩
  · rw [e_X12_qCode, gr_149_108 hG, gl_227 hG, a4.1, jup_rw _ _ _ _ _ (by omega), a4.1, jadd_id (by omega) (by omega)]
    simp only [if_pos (show (0 : Int) ≤ (C.length : Int) by omega), if_pos (show (C.length : Int) < 1700 by omega), Int.reduceLE, reduceIte]
  · rw [snoc_getD C op i hi, jup_rw _ _ _ _ _ (by omega)]
    rw [List.length_append, List.length_singleton] at hi
    by_cases q : i = C.length
    · rw [if_pos q, q, jup_same, hv]
    · rw [if_neg q, jup_row _ _ _ _ _ (by omega)]; exact a4.2 i (by omega)
theorem t_qDrops (d : Nat) {G : jG} {X : jX} {T : aT} {u : Int} {κ : aK} {r : Nat} {W : List Int} {b : Int} {C : List Int} (hG : GG G) (op : Int) (h : mS X T u κ r (toM op :: W) b C) (hl : C.length < 1700) (hw : W.length < 1700) : ∃ Y, jD (d + 2) 298 [(22, 149)] (G, X) = some (0, (G, Y)) ∧ mS Y T u κ r W b (C ++ [op]) ∧ mfQ X Y ∧ Y 149 2 = X 149 2 := by
  obtain ⟨a1, a2, a3, a4, a5, a6, a7⟩ := h
  have hn : X 149 111 = (W.length : Int) + 1 := by rw [a5.1, List.length_cons]; omega
  have h' : mS (jup X 149 111 W.length) T u κ r W b C := ⟨mB_Q (mfQ_u (by omega)) a1, mK_e (jup_row _ _ _ _ _ (by omega)) (jup_row _ _ _ _ _ (by omega)) a2, ⟨by rw [jup_row _ _ _ _ _ (by omega)]; exact a3.1, by rw [jup_row _ _ _ _ _ (by omega)]; exact a3.2.1, by rw [jup_row _ _ _ _ _ (by omega)]; exact a3.2.2⟩, ⟨by rw [jup_row _ _ _ _ _ (by omega)]; exact a4.1, fun i hi => by rw [jup_rw _ _ _ _ _ (by omega)]; exact a4.2 i hi⟩, ⟨by rw [jup_same], by rw [jup_rw _ _ _ _ _ (by omega)]; exact a5.2.2⟩, by rw [jup_row _ _ _ _ _ (by omega)]; exact a6, by rw [jup_row _ _ _ _ _ (by omega)]; exact a7⟩
  obtain ⟨Y, e, k, f, p⟩ := t_qCode d hG op (toM op) rfl h' hl
  refine ⟨Y, ?_, k, mfQ_t (mfQ_u (by omega)) f, by rw [p, jup_row _ _ _ _ _ (by omega)]⟩
  rw [e_X12_qDrops, gr_149_110 hG, gl_228 hG, hn, jsub_id (by omega) (by omega), show (W.length : Int) + 1 - 1 = W.length by omega, jup_same, jup_rw _ _ _ _ _ (by omega), a5.2.1]
  simp only [if_pos (show (0 : Int) ≤ (W.length : Int) by omega), if_pos (show (W.length : Int) < 1700 by omega), Int.reduceLE, reduceIte]
  rw [e]
  rfl
theorem mS_push {X : jX} {T : aT} {u : Int} {κ : aK} {r r' : Nat} {W : List Int} {b : Int} {C : List Int} (v : Int) (hr : r' ≤ 6) (h : mS X T u κ r W b C) : mS (jup (jup (jup X 149 112 (6 - r')) 228 W.length v) 149 111 (W.length + 1)) T u κ r' (v :: W) b C := by
  obtain ⟨a1, a2, a3, a4, a5, a6, a7⟩ := h
  have f : mfQ X (jup (jup (jup X 149 112 (6 - r')) 228 W.length v) 149 111 (W.length + 1)) := mfQ_t (mfQ_u (by omega)) (mfQ_t (mfQ_c (Or.inr rfl)) (mfQ_u (by omega)))
  have e : ∀ j, j ≠ 111 → j ≠ 112 → jup (jup (jup X 149 112 (6 - r')) 228 W.length v) 149 111 (W.length + 1) 149 j = X 149 j := fun j j1 j2 => by rw [jup_row _ _ _ _ _ j1, jup_rw _ _ _ _ _ (by omega), jup_row _ _ _ _ _ j2]
  refine ⟨mB_Q f a1, mK_e (e 2 (by omega) (by omega)) (e 4 (by omega) (by omega)) a2, ⟨by rw [e 5 (by omega) (by omega)]; exact a3.1, by rw [e 52 (by omega) (by omega)]; exact a3.2.1, by rw [e 6 (by omega) (by omega)]; exact a3.2.2⟩, ⟨by rw [e 109 (by omega) (by omega)]; exact a4.1, fun i hi => by rw [jup_rw _ _ _ _ _ (by omega), jup_rw _ _ _ _ _ (by omega), jup_rw _ _ _ _ _ (by omega)]; exact a4.2 i hi⟩, ⟨by rw [jup_same, List.length_cons]; omega, ?_⟩, ⟨by rw [jup_row _ _ _ _ _ (by omega), jup_rw _ _ _ _ _ (by omega), jup_same], hr⟩, by rw [e 113 (by omega) (by omega)]; exact a7⟩
  rw [jup_rw _ _ _ _ _ (by omega)]
  refine ⟨by rw [jup_same], pil_up (fun i i0 i1 => ?_) a5.2⟩
  rw [jup_row _ _ _ _ _ (by omega), jup_rw _ _ _ _ _ (by omega)]
theorem t_qOpens (d : Nat) {G : jG} {X : jX} {T : aT} {u : Int} {κ : aK} {r : Nat} {W : List Int} {b : Int} {C : List Int} (hG : GG G) (v s : Int) (h : mS X T u κ r W b C) (hw : W.length < 1700) : (∀ r', r = r' + 1 → ∃ Y, jD (d + 2) 296 [(22, 149), (0, v), (0, s)] (G, X) = some (0, (G, Y)) ∧ mS Y T u κ r' (v :: W) b C ∧ mfQ X Y ∧ Y 149 2 = X 149 2) ∧ (r = 0 → jD (d + 2) 296 [(22, 149), (0, v), (0, s)] (G, X) = some (0, (G, jup (jup X 149 5 4) 149 6 s))) := by
  obtain ⟨a1, a2, a3, a4, a5, a6, a7⟩ := id h
  constructor
  · intro r' hr
    refine ⟨_, ?_, mS_push v (by omega) h, mfQ_t (mfQ_u (by omega)) (mfQ_t (mfQ_c (Or.inr rfl)) (mfQ_u (by omega))), by rw [jup_row _ _ _ _ _ (by omega), jup_rw _ _ _ _ _ (by omega), jup_row _ _ _ _ _ (by omega)]⟩
    rw [e_X12_qOpens, a3.1, a6.1, gr_149_110 hG, gl_228 hG, if_neg (show ¬ 6 - (r : Int) = 6 by omega), jadd_id (a := 6 - (r : Int)) (by omega) (by omega), show 6 - (r : Int) + 1 = 6 - r' by omega, jup_row X _ _ _ _ (by omega), a5.1]
    simp only [if_pos (show (0 : Int) ≤ (W.length : Int) by omega), if_pos (show (W.length : Int) < 1700 by omega), Int.reduceLE, reduceIte]
    rw [jup_rw _ _ _ _ _ (by omega), jup_row X _ _ _ _ (by omega), a5.1, jadd_id (by omega) (by omega)]
  · intro hr
    rw [e_X12_qOpens, a3.1, a6.1, if_pos (show 6 - (r : Int) = 6 by omega)]
    simp only [Int.reduceLE, reduceIte]
    rw [t_fail d a3.1]
    rfl
theorem t_qIsOn (d : Nat) {G : jG} {X : jX} {T : aT} {u : Int} {κ : aK} {r : Nat} {W : List Int} {b : Int} {C : List Int} (hG : GG G) (v : Int) (h : mS X T u κ r W b C) (hw : W.length < 1700) : jD (d + 1) 297 [(22, 149), (0, v)] (G, X) = some (if W ≠ [] ∧ W.headD 0 = v then 1 else 0, (G, X)) := by
  have a5 := h.2.2.2.2.1
  rw [e_X12_qIsOn, a5.1, gr_149_110 hG, gl_228 hG]
  simp only [Int.reduceLE, reduceIte]
  cases W with
  | nil => rw [if_neg (by show ¬ (0 : Int) < ((0 : Nat) : Int); omega), if_neg (fun y => y.1 rfl)]
  | cons x W =>
    rw [List.length_cons] at *
    rw [if_pos (by omega), jsub_id (by omega) (by omega), show ((W.length + 1 : Nat) : Int) - 1 = W.length by omega, if_pos (by omega), if_pos (by omega), a5.2.1]
    show _ = some (if x :: W ≠ [] ∧ x = v then 1 else 0, (G, X))
    by_cases q : x = v
    · rw [if_pos q, if_pos ⟨List.cons_ne_nil x W, q⟩]
    · rw [if_neg q, if_neg (fun y => q y.2)]
/-- the nearest bracket above the base -/
def brk (b : Int) : List Int → Int
  | [] => -1
  | x :: W => if W.length < b then -1 else if 20 ≤ x ∧ x ≤ 24 then x else brk b W
theorem t_qBr_n (d : Nat) {G : jG} {X : jX} (hG : GG G) (b : Int) (hb : X 149 113 = b) (b0 : 0 ≤ b) : ∀ (W : List Int), pil (X 228) W → W.length < 1700 → jN (d + 1) 300 7 [(22, 149), (0, (W.length : Int) - 1)] [] (G, X) = some (brk b W, (G, X)) := by
  intro W
  induction W with
  | nil =>
    intro hp hl
    rw [h_X12_qBracket_7, hb]
    simp only [Int.reduceLE, reduceIte]
    rw [if_pos (by show ((0 : Nat) : Int) - 1 < b; omega), if_pos (by show ((0 : Nat) : Int) - 1 < b; omega)]
    rfl
  | cons x W ih =>
    intro hp hl
    rw [List.length_cons] at hl
    rw [List.length_cons, show ((W.length + 1 : Nat) : Int) - 1 = W.length by omega, h_X12_qBracket_7, hb, gr_149_110 hG, gl_228 hG]
    simp only [Int.reduceLE, reduceIte]
    unfold brk
    by_cases q : (W.length : Int) < b
    · rw [if_pos q, if_pos q, if_pos q]
    · rw [if_neg q, if_neg q, if_pos (show (0 : Int) ≤ W.length by omega), if_pos (show (W.length : Int) < 1700 by omega), hp.1, e_X12_qIsBracket]
      by_cases q1 : x < 20
      · rw [if_pos q1, if_neg (show ¬ (20 ≤ x ∧ x ≤ 24) by omega)]
        simp only [Option.bind_some, reduceIte]
        rw [jadd_id (by omega) (by omega), show (W.length : Int) + -1 = W.length - 1 by omega]
        exact ih hp.2 (by omega)
      · rw [if_neg q1]
        by_cases q2 : 24 < x
        · rw [if_pos q2, if_neg (show ¬ (20 ≤ x ∧ x ≤ 24) by omega)]
          simp only [Option.bind_some, reduceIte]
          rw [jadd_id (by omega) (by omega), show (W.length : Int) + -1 = W.length - 1 by omega]
          exact ih hp.2 (by omega)
        · rw [if_neg q2, if_pos (show 20 ≤ x ∧ x ≤ 24 by omega)]
          simp only [Option.bind_some]
          rw [if_neg (show ¬ (1 : Int) = 0 by omega), hb, if_neg q, gr_149_110 hG, gl_228 hG]
          simp only [Int.reduceLE, reduceIte]
          rw [if_pos (show (0 : Int) ≤ W.length by omega), if_pos (show (W.length : Int) < 1700 by omega), hp.1]
theorem t_qBracket (d : Nat) {G : jG} {X : jX} {T : aT} {u : Int} {κ : aK} {r : Nat} {W : List Int} {b : Int} {C : List Int} (hG : GG G) (h : mS X T u κ r W b C) (b0 : 0 ≤ b) (hw : W.length < 1700) : jD (d + 2) 300 [(22, 149)] (G, X) = some (brk b W, (G, X)) := by
  rw [e_X12_qBracket, h.2.2.2.2.1.1, jsub_id (by omega) (by omega), if_pos (by omega)]
  exact t_qBr_n d hG b h.2.2.2.2.2.2 b0 W h.2.2.2.2.1.2 hw
/-- signs that wait: joining steps -/
def opL (l : List Int) : Prop := ∀ o ∈ l, (10003 ≤ o ∧ o ≤ 10004) ∨ (10008 ≤ o ∧ o ≤ 10011)
theorem opL_h {o : Int} (h : (10003 ≤ o ∧ o ≤ 10004) ∨ (10008 ≤ o ∧ o ≤ 10011)) : 1 ≤ toM o ∧ toM o ≤ 11 := by
  have : o = 10003 ∨ o = 10004 ∨ o = 10008 ∨ o = 10009 ∨ o = 10010 ∨ o = 10011 := by omega
  rcases this with rfl | rfl | rfl | rfl | rfl | rfl <;> decide
theorem brk_ops {b : Int} : ∀ {l W : List Int}, opL l → b ≤ W.length → brk b (l.map toM ++ W) = brk b W
  | [], _, _, _ => rfl
  | o :: l, W, h, hb => by
    have := opL_h (h o List.mem_cons_self)
    show brk b (toM o :: (l.map toM ++ W)) = brk b W
    conv => lhs; unfold brk
    rw [if_neg (by rw [List.length_append]; omega), if_neg (by omega)]
    exact brk_ops (l := l) (W := W) (fun o ho => h o (List.mem_cons_of_mem _ ho)) hb
theorem t_drB_n (d : Nat) {G : jG} {T : aT} {u : Int} {κ : aK} {r : Nat} {W : List Int} {b : Int} (hG : GG G) (hs : W.length = b ∨ ∃ x W', W = x :: W' ∧ 20 ≤ x ∧ x ≤ 24) (b0 : 0 ≤ b) (hb : b ≤ W.length) : ∀ (l : List Int) (X : jX) (C : List Int), opL l → mS X T u κ r (l.map toM ++ W) b C → C.length + l.length ≤ 1700 → l.length + W.length ≤ 1600 → ∃ Y, jN (d + 2) 301 0 [(22, 149)] [] (G, X) = some (0, (G, Y)) ∧ mS Y T u κ r W b (C ++ l) ∧ mfQ X Y ∧ Y 149 2 = X 149 2 := by
  intro l
  induction l with
  | nil =>
    intro X C ho h hc hw
    have a5 := h.2.2.2.2.1
    refine ⟨X, ?_, by rw [List.append_nil]; exact h, mfQ_r X, rfl⟩
    rw [h_X12_qDropsToBracket_0, a5.1, h.2.2.2.2.2.2, gr_149_110 hG, gl_228 hG]
    simp only [Int.reduceLE, reduceIte]
    by_cases q : b < ((List.map toM [] ++ W).length : Int)
    · have q' : b < W.length := q
      rcases hs with hs | ⟨x, W', rfl, x0, x1⟩
      · omega
      · rw [List.length_nil, Nat.zero_add, List.length_cons] at hw
        have hl : ((List.map toM [] ++ x :: W').length : Int) = (W'.length : Int) + 1 := by show (((x :: W').length : Nat) : Int) = _; rw [List.length_cons]; omega
        rw [if_pos q, hl, jsub_id (by omega) (by omega), show (W'.length : Int) + 1 - 1 = W'.length by omega, if_pos (by omega), if_pos (by omega), a5.2.1, e_X12_qIsBracket, if_neg (show ¬ x < 20 by omega), if_neg (show ¬ 24 < x by omega)]
        simp only [Option.bind_some]
        rw [if_neg (by omega)]
    · rw [if_neg q]
  | cons o l ih =>
    intro X C ho h hc hw
    have a5 := h.2.2.2.2.1
    have hop := opL_h (ho o List.mem_cons_self)
    rw [List.length_cons] at hc hw
    have h' : mS X T u κ r (toM o :: (l.map toM ++ W)) b C := h
    have hml : (l.map toM ++ W).length = l.length + W.length := by rw [List.length_append, List.length_map]
    obtain ⟨Y1, e1, k1, f1, p1⟩ := t_qDrops d hG o h' (by omega) (by omega)
    obtain ⟨Y, e, k, f, p⟩ := ih Y1 (C ++ [o]) (fun x hx => ho x (List.mem_cons_of_mem _ hx)) k1 (by rw [List.length_append, List.length_singleton]; omega) (by omega)
    refine ⟨Y, ?_, by rw [show C ++ o :: l = C ++ [o] ++ l by simp only [List.append_assoc, List.singleton_append]]; exact k, mfQ_t f1 f, by rw [p, p1]⟩
    have hl : ((List.map toM (o :: l) ++ W).length : Int) = (l.length : Int) + W.length + 1 := by rw [List.length_append, List.length_map, List.length_cons]; omega
    rw [h_X12_qDropsToBracket_0, a5.1, h.2.2.2.2.2.2, gr_149_110 hG, gl_228 hG, hl, jsub_id (by omega) (by omega), show (l.length : Int) + W.length + 1 - 1 = ((l.map toM ++ W).length : Int) by rw [hml]; omega]
    simp only [Int.reduceLE, reduceIte]
    rw [if_pos (show b < (l.length : Int) + W.length + 1 by omega), if_pos (show (0 : Int) ≤ ((l.map toM ++ W).length : Int) by omega), if_pos (show ((l.map toM ++ W).length : Int) < 1700 by omega), h'.2.2.2.2.1.2.1, e_X12_qIsBracket, if_pos (show toM o < 20 by omega)]
    simp only [Option.bind_some, reduceIte]
    rw [e1]
    simp only [Option.bind_some]
    exact e
theorem t_drB (d : Nat) {G : jG} {X : jX} {T : aT} {u : Int} {κ : aK} {r : Nat} {W l C : List Int} {b : Int} (hG : GG G) (hs : W.length = b ∨ ∃ x W', W = x :: W' ∧ 20 ≤ x ∧ x ≤ 24) (b0 : 0 ≤ b) (hb : b ≤ W.length) (ho : opL l) (h : mS X T u κ r (l.map toM ++ W) b C) (hc : C.length + l.length ≤ 1700) (hw : l.length + W.length ≤ 1600) : ∃ Y, jD (d + 3) 301 [(22, 149)] (G, X) = some (0, (G, Y)) ∧ mS Y T u κ r W b (C ++ l) ∧ mfQ X Y ∧ Y 149 2 = X 149 2 := by
  rw [e_X12_qDropsToBracket]
  exact t_drB_n d hG hs b0 hb l X C ho h hc hw
/-! which words ask for a part -/
def qw (w : Int) : Int := if w = 14 then 0 else if w = 15 then 1 else if w = 3 then 2 else if w = 4 then 3 else if w = 16 then 4 else if w = 17 then 5 else if w = 18 then 6 else if w = 19 then 7 else if w = 21 then 8 else if w = 20 then 9 else if w = 22 then 10 else -1
def alw (u k : Int) : Bool := decide (u = 2) || (if u = 0 then decide (k < 6) else decide (k = 1) || decide (k = 6) || decide (k = 7))
theorem t_qWordHere (d : Nat) {G : jG} {X : jX} {T : aT} {κ : aK} (hG : GG G) (hT : okT T) (hB : mB X T) (hk : mK X T κ) (h5 : X 149 5 = 0) : jD (d + 3) 302 [(22, 149)] (G, X) = some (qw (wd T κ), (G, lk X κ)) := by
  have hB' := mB_0 (lk_0 X κ) hB
  have hk' := lk_K hk
  have h5' : lk X κ 149 5 = 0 := by rw [lk_j X κ 5 (by omega)]; exact h5
  have e0 := t_isW d hG hT hB hk h5 216 14 (by decide)
  have e : ∀ (c : Int) (j : Nat), (c, j) ∈ wcl → jD (d + 2) 194 [(22, 149), (23, c)] (G, lk X κ) = some (if wd T κ = j then 1 else 0, (G, lk X κ)) := fun c j hc => by
    have := t_isW d hG hT hB' hk' h5' c j hc
    rw [lk_lk] at this
    exact this
  rw [e_X12_qWordHere, gr_149_97 hG]
  simp only [Int.reduceLE, reduceIte]
  rw [e0]
  simp only [Option.bind_some]
  unfold qw
  by_cases q : wd T κ = 14
  · rw [if_pos q, if_pos (show wd T κ = ((14 : Nat) : Int) from q), if_neg (by omega)]
  · rw [if_neg q, if_neg (show ¬ wd T κ = ((14 : Nat) : Int) from q), if_pos rfl, gr_149_98 hG, e 217 15 (by decide)]
    simp only [Option.bind_some]
    by_cases q : wd T κ = 15
    · rw [if_pos q, if_pos (show wd T κ = ((15 : Nat) : Int) from q), if_neg (by omega)]
    · rw [if_neg q, if_neg (show ¬ wd T κ = ((15 : Nat) : Int) from q), if_pos rfl, gr_149_99 hG, e 218 3 (by decide)]
      simp only [Option.bind_some]
      by_cases q : wd T κ = 3
      · rw [if_pos q, if_pos (show wd T κ = ((3 : Nat) : Int) from q), if_neg (by omega)]
      · rw [if_neg q, if_neg (show ¬ wd T κ = ((3 : Nat) : Int) from q), if_pos rfl, gr_149_100 hG, e 219 4 (by decide)]
        simp only [Option.bind_some]
        by_cases q : wd T κ = 4
        · rw [if_pos q, if_pos (show wd T κ = ((4 : Nat) : Int) from q), if_neg (by omega)]
        · rw [if_neg q, if_neg (show ¬ wd T κ = ((4 : Nat) : Int) from q), if_pos rfl, gr_149_101 hG, e 220 16 (by decide)]
          simp only [Option.bind_some]
          by_cases q : wd T κ = 16
          · rw [if_pos q, if_pos (show wd T κ = ((16 : Nat) : Int) from q), if_neg (by omega)]
          · rw [if_neg q, if_neg (show ¬ wd T κ = ((16 : Nat) : Int) from q), if_pos rfl, gr_149_102 hG, e 221 17 (by decide)]
            simp only [Option.bind_some]
            by_cases q : wd T κ = 17
            · rw [if_pos q, if_pos (show wd T κ = ((17 : Nat) : Int) from q), if_neg (by omega)]
            · rw [if_neg q, if_neg (show ¬ wd T κ = ((17 : Nat) : Int) from q), if_pos rfl, gr_149_103 hG, e 222 18 (by decide)]
              simp only [Option.bind_some]
              by_cases q : wd T κ = 18
              · rw [if_pos q, if_pos (show wd T κ = ((18 : Nat) : Int) from q), if_neg (by omega)]
              · rw [if_neg q, if_neg (show ¬ wd T κ = ((18 : Nat) : Int) from q), if_pos rfl, gr_149_104 hG, e 223 19 (by decide)]
                simp only [Option.bind_some]
                by_cases q : wd T κ = 19
                · rw [if_pos q, if_pos (show wd T κ = ((19 : Nat) : Int) from q), if_neg (by omega)]
                · rw [if_neg q, if_neg (show ¬ wd T κ = ((19 : Nat) : Int) from q), if_pos rfl, gr_149_105 hG, e 224 21 (by decide)]
                  simp only [Option.bind_some]
                  by_cases q : wd T κ = 21
                  · rw [if_pos q, if_pos (show wd T κ = ((21 : Nat) : Int) from q), if_neg (by omega)]
                  · rw [if_neg q, if_neg (show ¬ wd T κ = ((21 : Nat) : Int) from q), if_pos rfl, gr_149_106 hG, e 225 20 (by decide)]
                    simp only [Option.bind_some]
                    by_cases q : wd T κ = 20
                    · rw [if_pos q, if_pos (show wd T κ = ((20 : Nat) : Int) from q), if_neg (by omega)]
                    · rw [if_neg q, if_neg (show ¬ wd T κ = ((20 : Nat) : Int) from q), if_pos rfl, gr_149_107 hG, e 226 22 (by decide)]
                      simp only [Option.bind_some]
                      by_cases q : wd T κ = 22
                      · rw [if_pos q, if_pos (show wd T κ = ((22 : Nat) : Int) from q), if_neg (by omega)]
                      · rw [if_neg q, if_neg (show ¬ wd T κ = ((22 : Nat) : Int) from q), if_pos rfl]
theorem t_qWordOf (d : Nat) {G : jG} {X : jX} {T : aT} {κ : aK} (hG : GG G) (hT : okT T) (hB : mB X T) (hk : mK X T κ) (h5 : X 149 5 = 0) (u a b : Int) (hu : X 149 52 = u) : jD (d + 4) 303 [(22, 149), (0, a), (0, b)] (G, X) = some (if a ≤ qw (wd T κ) ∧ qw (wd T κ) < b ∧ alw u (qw (wd T κ)) = true then qw (wd T κ) else -1, (G, lk X κ)) := by
  have hu' : lk X κ 149 52 = u := by rw [lk_j X κ 52 (by omega)]; exact hu
  rw [e_X12_qWordOf]
  simp only [Int.reduceLE, reduceIte]
  rw [t_qWordHere d hG hT hB hk h5]
  simp only [Option.bind_some]
  generalize qw (wd T κ) = k
  by_cases q1 : k < a
  · rw [if_pos q1, if_neg (fun y => by omega)]
  · rw [if_neg q1]
    by_cases q2 : k < b
    · rw [if_pos q2, e_X12_isAllowed, hu']
      simp only [Int.reduceLE, reduceIte]
      unfold alw
      by_cases u2 : u = 2
      · rw [if_pos u2, if_pos ⟨by omega, q2, by rw [decide_eq_true u2]; rfl⟩]
        simp only [Option.bind_some]
        rw [if_neg (by omega)]
      · rw [if_neg u2, decide_eq_false u2, Bool.false_or]
        by_cases u0 : u = 0
        · rw [if_pos u0, if_pos u0]
          by_cases k6 : k < 6
          · rw [if_pos k6, if_pos ⟨by omega, q2, decide_eq_true k6⟩]
            simp only [Option.bind_some]
            rw [if_neg (by omega)]
          · rw [if_neg k6, if_neg (fun y => k6 (of_decide_eq_true y.2.2))]
            simp only [Option.bind_some, reduceIte]
        · rw [if_neg u0, if_neg u0]
          by_cases k1 : k = 1
          · rw [if_pos k1, if_pos ⟨by omega, q2, by rw [decide_eq_true k1]; rfl⟩]
            simp only [Option.bind_some]
            rw [if_neg (by omega)]
          · rw [if_neg k1, decide_eq_false k1, Bool.false_or]
            by_cases k6 : k = 6
            · rw [if_pos k6, if_pos ⟨by omega, q2, by rw [decide_eq_true k6]; rfl⟩]
              simp only [Option.bind_some]
              rw [if_neg (by omega)]
            · rw [if_neg k6, decide_eq_false k6, Bool.false_or]
              by_cases k7 : k = 7
              · rw [if_pos k7, if_pos ⟨by omega, q2, decide_eq_true k7⟩]
                simp only [Option.bind_some]
                rw [if_neg (by omega)]
              · rw [if_neg k7, if_neg (fun y => k7 (of_decide_eq_true y.2.2))]
                simp only [Option.bind_some, reduceIte]
    · rw [if_neg q2, if_neg (fun y => q2 y.2.1)]
theorem qw_c : ∀ w : Nat, w < 35 → qw w ≠ -1 → (216 + qw w, w) ∈ wcl ∧ 0 ≤ qw w ∧ qw w ≤ 10 := by decide +kernel
theorem qw_f : ∀ u : Nat, u < 3 → ∀ w : Nat, w < 35 → ((0 ≤ qw w ∧ qw w < 10 ∧ alw u (qw w) = true) ↔ fct u w ≠ -1) ∧ ((0 ≤ qw w ∧ qw w < 10 ∧ alw u (qw w) = true) → toM (20000 + fct u w) = 40 + qw w) := by decide +kernel
theorem qw_n : qw (-1) = -1 ∧ fct 0 (-1) = -1 ∧ fct 1 (-1) = -1 ∧ fct 2 (-1) = -1 := by decide
theorem qw_of {T : aT} {κ : aK} {u : Int} (hu : u = 0 ∨ u = 1 ∨ u = 2) : ((0 ≤ qw (wd T κ) ∧ qw (wd T κ) < 10 ∧ alw u (qw (wd T κ)) = true) ↔ fct u (wd T κ) ≠ -1) ∧ ((0 ≤ qw (wd T κ) ∧ qw (wd T κ) < 10 ∧ alw u (qw (wd T κ)) = true) → toM (20000 + fct u (wd T κ)) = 40 + qw (wd T κ)) := by
  rcases wd_b T κ with h | h
  · rw [h, qw_n.1]
    refine ⟨⟨fun y => by omega, fun y => ?_⟩, fun y => by omega⟩
    exfalso
    rcases hu with rfl | rfl | rfl
    · exact y qw_n.2.1
    · exact y qw_n.2.2.1
    · exact y qw_n.2.2.2
  · have := qw_f u.toNat (by omega) (wd T κ).toNat (by omega)
    rw [show ((u.toNat : Nat) : Int) = u by omega, show (((wd T κ).toNat : Nat) : Int) = wd T κ by omega] at this
    exact this
theorem t_qAsksWord (d : Nat) {G : jG} {X : jX} {T : aT} {κ : aK} (hG : GG G) (hT : okT T) (hB : mB X T) (hk : mK X T κ) (h5 : X 149 5 = 0) (hq : qw (wd T κ) ≠ -1) : jD (d + 5) 304 [(22, 149), (0, qw (wd T κ))] (G, X) = some (0, (G, tk X T κ)) := by
  have hw : 0 ≤ wd T κ ∧ wd T κ < 35 := by
    rcases wd_b T κ with h | h
    · exact absurd (by rw [h]; exact qw_n.1) hq
    · exact h
  have hc := qw_c (wd T κ).toNat (by omega) (by rw [show (((wd T κ).toNat : Nat) : Int) = wd T κ by omega]; exact hq)
  rw [show (((wd T κ).toNat : Nat) : Int) = wd T κ by omega] at hc
  have e := t_asks d hG hT hB hk h5 _ _ hc.1
  rw [if_pos (by omega)] at e
  rw [e_X12_qAsksWord, gr_149_97 hG, gr_149_98 hG, gr_149_99 hG, gr_149_100 hG, gr_149_101 hG, gr_149_102 hG, gr_149_103 hG, gr_149_104 hG, gr_149_105 hG, gr_149_106 hG, gr_149_107 hG]
  simp only [Int.reduceLE, reduceIte]
  generalize qw (wd T κ) = k at hc e
  have hk' : k = 0 ∨ k = 1 ∨ k = 2 ∨ k = 3 ∨ k = 4 ∨ k = 5 ∨ k = 6 ∨ k = 7 ∨ k = 8 ∨ k = 9 ∨ k = 10 := by omega
  rcases hk' with rfl | rfl | rfl | rfl | rfl | rfl | rfl | rfl | rfl | rfl | rfl
  all_goals
    simp only [Int.reduceAdd] at e
    simp only [Int.reduceEq, reduceIte]
    rw [e]
    rfl
