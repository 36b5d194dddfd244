/-! THE REFERENCE: the plan and the ground, asked -/
theorem t_isIn (d : Nat) {G : jG} {X : jX} (a b c : Int) : jD (d + 1) 187 [(1, a), (1, b), (1, c)] (G, X) = some (if b ≤ a ∧ a ≤ c then 1 else 0, (G, X)) := by
  rw [e_X12_isIn]
  unfold lCmp
  grind
theorem t_columns (d : Nat) {G : jG} {X : jX} {P : aP} (hG : GG G) (hP : mPlan X P) : jD (d + 1) 217 [(22, 149)] (G, X) = some (pC P, (G, X)) := by
  have h := mPlan_at hP
  rw [e_X12_columns, gr_149_40 hG, gl_181 hG, h.1]
  rfl
theorem t_rowsMany (d : Nat) {G : jG} {X : jX} {P : aP} (hG : GG G) (hP : mPlan X P) : jD (d + 1) 218 [(22, 149)] (G, X) = some (pR P, (G, X)) := by
  have h := mPlan_at hP
  rw [e_X12_rowsMany, gr_149_40 hG, gl_181 hG, h.2.1]
  rfl
theorem t_kindMany (d : Nat) {G : jG} {X : jX} {P : aP} (hG : GG G) (hP : mPlan X P) : jD (d + 1) 219 [(22, 149)] (G, X) = some (pK P, (G, X)) := by
  have h := mPlan_at hP
  rw [e_X12_kindMany, gr_149_40 hG, gl_181 hG, h.2.2.1]
  rfl
theorem t_cellMany (d : Nat) {G : jG} {X : jX} {P : aP} (hG : GG G) (hP : mPlan X P) (hO : pOk P) : jD (d + 2) 220 [(22, 149)] (G, X) = some (pCe P, (G, X)) := by
  have hc := pCe_le hO
  rw [e_X12_cellMany, t_columns d hG hP]
  simp only [Option.bind_some, Int.reduceLE, reduceIte]
  rw [t_rowsMany d hG hP]
  simp only [Option.bind_some, Int.reduceLE, reduceIte]
  rw [jmul_id (by omega) (by omega)]
  rfl
theorem t_isCell (d : Nat) {G : jG} {X : jX} {P : aP} (c : Int) (hG : GG G) (hP : mPlan X P) (hO : pOk P) : jD (d + 3) 221 [(22, 149), (0, c)] (G, X) = some (if 0 ≤ c ∧ c < pCe P then 1 else 0, (G, X)) := by
  have hc := pCe_le hO
  rw [e_X12_isCell, t_cellMany d hG hP hO]
  simp only [Option.bind_some, Int.reduceLE, reduceIte]
  rw [jsub_id (by omega) (by omega), t_isIn (d + 1)]
  simp only [Option.bind_some, Int.reduceLE, reduceIte]
  grind
theorem t_isKind (d : Nat) {G : jG} {X : jX} {P : aP} (c : Int) (hG : GG G) (hP : mPlan X P) (hO : pOk P) : jD (d + 2) 222 [(22, 149), (0, c)] (G, X) = some (if 0 ≤ c ∧ c < pK P then 1 else 0, (G, X)) := by
  have hn := pOk_n hO
  rw [e_X12_isKind, t_kindMany d hG hP]
  simp only [Option.bind_some, Int.reduceLE, reduceIte]
  rw [jsub_id (by omega) (by omega), t_isIn d]
  simp only [Option.bind_some, Int.reduceLE, reduceIte]
  grind
theorem t_holdsUp (d : Nat) {G : jG} {X : jX} {P : aP} (hG : GG G) (hP : mPlan X P) : jD (d + 1) 223 [(22, 149)] (G, X) = some (pHo P, (G, X)) := by
  rw [e_X12_holdsUp, gr_149_45 hG, gl_186 hG, hP.2.2.1.1]
  rfl
theorem t_seamAt (d : Nat) {G : jG} {X : jX} {P : aP} (c r : Int) (hG : GG G) (hP : mPlan X P) (hO : pOk P) : jD (d + 2) 224 [(22, 149), (0, c), (0, r)] (G, X) = some (if 0 ≤ c ∧ c < pC P ∧ 0 ≤ r ∧ r < pR P then pSe P (r * pC P + c) else -1, (G, X)) := by
  have hc := pCe_le hO
  rw [e_X12_seamAt, t_columns d hG hP]
  simp only [Option.bind_some, Int.reduceLE, reduceIte]
  rw [jsub_id (by omega) (by omega), t_isIn d]
  simp only [Option.bind_some, Int.reduceLE, reduceIte]
  by_cases h1 : 0 ≤ c ∧ c ≤ pC P - 1
  · rw [if_pos h1, if_neg (show ¬ (1 : Int) = 0 by omega), t_rowsMany d hG hP]
    simp only [Option.bind_some, Int.reduceLE, reduceIte]
    rw [jsub_id (by omega) (by omega), t_isIn d]
    simp only [Option.bind_some, Int.reduceLE, reduceIte]
    by_cases h2 : 0 ≤ r ∧ r ≤ pR P - 1
    · rw [if_pos h2, if_neg (show ¬ (1 : Int) = 0 by omega), gr_149_43 hG, gl_184 hG, jmul_id (by omega) (by omega), jadd_id (a := 48) (by omega) (by omega), jadd_id (by omega) (by omega), hP.2.2.2.2.2.2 r c h2.1 (by omega) h1.1 (by omega)]
      grind
    · rw [if_neg h2]
      grind
  · rw [if_neg h1]
    grind
theorem t_kindAt (d : Nat) {G : jG} {X : jX} {P : aP} (c : Int) (hG : GG G) (hP : mPlan X P) (hO : pOk P) (hi : inP P c) : jD (d + 3) 225 [(22, 149), (0, c)] (G, X) = some (pSe P c, (G, X)) := by
  have hc := pCe_le hO
  have hm := mod_in hO hi
  obtain ⟨h0, h1⟩ := id hi
  rw [e_X12_kindAt, t_columns (d + 1) hG hP]
  simp only [Option.bind_some, Int.reduceLE, reduceIte]
  rw [if_neg (show ¬ pC P = 0 by omega), t_columns (d + 1) hG hP]
  simp only [Option.bind_some, Int.reduceLE, reduceIte]
  rw [if_neg (show ¬ pC P = 0 by omega), jrem_id h0, jdiv_id h0 (by omega) (by omega), t_seamAt d _ _ hG hP hO]
  simp only [Option.bind_some, Int.reduceLE, reduceIte]
  rw [if_pos (show 0 ≤ c % pC P ∧ c % pC P < pC P ∧ 0 ≤ c / pC P ∧ c / pC P < pR P by omega), Int.mul_comm, ← hm.2.2.2.2.2.2.2]
theorem t_whatIs (d : Nat) {G : jG} {X : jX} {γ : aG} (c : Int) (hG : GG G) (hγ : mGr X 190 0 γ) (h0 : 0 ≤ c) (h1 : c < 48) : jD (d + 1) 226 [(22, 149), (0, c)] (G, X) = some (gCe γ c, (G, X)) := by
  have h := hγ.2.1 c h0 h1
  rw [e_X12_whatIs, gr_149_53 hG, gl_190 hG, jadd_id (by omega) (by omega), show 8 + c = 0 + 8 + c by omega, h]
  grind
theorem t_isOpen (d : Nat) {G : jG} {X : jX} {γ : aG} (c : Int) (hG : GG G) (hγ : mGr X 190 0 γ) (h0 : 0 ≤ c) (h1 : c < 48) : jD (d + 2) 227 [(22, 149), (0, c)] (G, X) = some (b01 (opn (gCe γ) c), (G, X)) := by
  rw [e_X12_isOpen, t_whatIs d c hG hγ h0 h1]
  simp only [Option.bind_some, Int.reduceLE, reduceIte]
  rw [t_whatIs d c hG hγ h0 h1]
  simp only [Option.bind_some, Int.reduceLE, reduceIte]
  rcases b01_or (opn (gCe γ) c) with ⟨e, h⟩ | ⟨e, h⟩ <;> rw [e] <;> unfold opn at h <;> grind
theorem t_tubsOf (d : Nat) {G : jG} {X : jX} {γ : aG} (c : Int) (hG : GG G) (hγ : mGr X 190 0 γ) (h0 : 0 ≤ c) (h1 : c < 5) : jD (d + 1) 228 [(22, 149), (0, c)] (G, X) = some (gSt γ c, (G, X)) := by
  have h := hγ.2.2 c h0 h1
  rw [e_X12_tubsOf, gr_149_53 hG, gl_190 hG, jadd_id (by omega) (by omega), show 3 + c = 0 + 3 + c by omega, h]
  grind
/-- the one beside, in the reference's order -/
def nV (P : aP) (c w : Int) : Int := if w = 0 then nLf P c else if w = 1 then nRt P c else if w = 2 then nUp P c else nDn P c
theorem nV_nW (P : aP) (c w : Int) : nV P c w = nW P c (if w = 0 then 1 else if w = 1 then 2 else if w = 2 then 0 else 3) := by
  unfold nV nW
  grind
theorem nV_le {P : aP} {c w : Int} (hO : pOk P) (hi : inP P c) : -1 ≤ nV P c w ∧ nV P c w < pCe P := by
  rw [nV_nW]
  exact nW_le hO hi (by repeat' split <;> omega) (by repeat' split <;> omega)
theorem div_up {P : aP} {c : Int} (hO : pOk P) (hi : inP P c) : (0 < c / pC P ↔ pC P ≤ c) ∧ (c / pC P + 1 < pR P ↔ c + pC P < pCe P) := by
  have hc := pCe_le hO
  have hm := mod_in hO hi
  obtain ⟨hC, h2, h3, h4, h5, h6, h7, h8⟩ := hm
  constructor
  · constructor
    · intro h
      have : pC P * 1 ≤ pC P * (c / pC P) := Int.mul_le_mul_of_nonneg_left (by omega) (by omega)
      omega
    · intro h
      rcases Int.lt_or_le 0 (c / pC P) with q | q
      · exact q
      · have : c / pC P = 0 := by omega
        rw [this, Int.mul_zero] at h8
        omega
  · have e : pCe P = pC P * pR P := rfl
    constructor
    · intro h
      have : pC P * (c / pC P + 2) ≤ pC P * pR P := Int.mul_le_mul_of_nonneg_left (by omega) (by omega)
      rw [Int.mul_add] at this
      omega
    · intro h
      rcases Int.lt_or_le (c / pC P + 1) (pR P) with q | q
      · exact q
      · have : pC P * pR P ≤ pC P * (c / pC P + 1) := Int.mul_le_mul_of_nonneg_left (by omega) (by omega)
        rw [Int.mul_add] at this
        omega
theorem t_beside (d : Nat) {G : jG} {X : jX} {P : aP} (c w : Int) (hG : GG G) (hP : mPlan X P) (hO : pOk P) (hi : inP P c) (hw0 : 0 ≤ w) (hw : w < 4) : jD (d + 2) 229 [(22, 149), (0, c), (0, w)] (G, X) = some (nV P c w, (G, X)) := by
  have hc := pCe_le hO
  have hm := mod_in hO hi
  have hu := div_up hO hi
  obtain ⟨h0, h1⟩ := id hi
  rw [e_X12_beside, t_columns d hG hP]
  simp only [Option.bind_some, Int.reduceLE, reduceIte]
  rw [if_neg (show ¬ pC P = 0 by omega), t_columns d hG hP]
  simp only [Option.bind_some, Int.reduceLE, reduceIte]
  rw [if_neg (show ¬ pC P = 0 by omega), jrem_id h0, jdiv_id h0 (by omega) (by omega)]
  rcases (show w = 0 ∨ w = 1 ∨ w = 2 ∨ w = 3 by omega) with rfl | rfl | rfl | rfl
  · rw [if_pos rfl, jsub_id (by omega) (by omega)]
    simp only [nV, nLf, reduceIte]
    split <;> rfl
  · rw [if_neg (by omega), if_pos rfl, t_columns d hG hP]
    simp only [Option.bind_some, Int.reduceLE, reduceIte]
    rw [jadd_id (by omega) (by omega), jadd_id (by omega) (by omega)]
    simp only [nV, nRt, Int.reduceEq, reduceIte]
    by_cases q : c % pC P + 1 < pC P
    · rw [if_pos q, if_pos (by omega)]
    · rw [if_neg q, if_neg (by omega)]
  · rw [if_neg (by omega), if_neg (by omega), if_pos rfl, t_columns d hG hP]
    simp only [Option.bind_some, Int.reduceLE, reduceIte]
    rw [jsub_id (by omega) (by omega)]
    simp only [nV, nUp, Int.reduceEq, reduceIte]
    by_cases q : 0 < c / pC P
    · rw [if_pos q, if_pos (hu.1.mp q)]
    · rw [if_neg q, if_neg (fun h => q (hu.1.mpr h))]
  · rw [if_neg (by omega), if_neg (by omega), if_neg (by omega), t_rowsMany d hG hP]
    simp only [Option.bind_some, Int.reduceLE, reduceIte]
    rw [t_columns d hG hP, jadd_id (by omega) (by omega)]
    simp only [Option.bind_some, Int.reduceLE, reduceIte]
    rw [jadd_id (by omega) (by omega)]
    simp only [nV, nDn, Int.reduceEq, reduceIte]
    by_cases q : c / pC P + 1 < pR P
    · rw [if_pos q, if_pos (hu.2.mp q)]
    · rw [if_neg q, if_neg (fun h => q (hu.2.mpr h))]
theorem t_near_n (d : Nat) {G : jG} {X : jX} {P : aP} {γ : aG} (c : Int) (hG : GG G) (hP : mPlan X P) (hO : pOk P) (hi : inP P c) (hγ : mGr X 190 0 γ) : ∀ (n : Nat) (w v : Int), w + n = 4 → 0 ≤ w → 0 ≤ v → v ≤ 100 - n → jN (d + 2) 230 4 [(22, 149), (0, c), (0, v), (0, w)] [] (G, X) = some (v + (if w ≤ 0 then b01 (opn (gCe γ) (nLf P c)) else 0) + (if w ≤ 1 then b01 (opn (gCe γ) (nRt P c)) else 0) + (if w ≤ 2 then b01 (opn (gCe γ) (nUp P c)) else 0) + (if w ≤ 3 then b01 (opn (gCe γ) (nDn P c)) else 0), (G, X)) := by
  intro n
  have hc := pCe_le hO
  induction n with
  | zero =>
    intro w v h0 h1 h2 h3
    rw [h_X12_nearOf_4, if_neg (by omega)]
    grind
  | succ n ih =>
    intro w v h0 h1 h2 h3
    have hb := nV_le (w := w) hO hi
    rw [h_X12_nearOf_4, if_pos (by omega), if_pos (by omega), t_beside d c w hG hP hO hi h1 (by omega)]
    simp only [Option.bind_some, Int.reduceLE, reduceIte]
    rw [jadd_id (a := w) (by omega) (by omega), jadd_id (a := v) (by omega) (by omega), ih (w + 1) v (by omega) (by omega) (by omega) (by omega)]
    have key : ∀ z : Int, nV P c w = z → (if nV P c w = -1 then some (v + (if w + 1 ≤ 0 then b01 (opn (gCe γ) (nLf P c)) else 0) + (if w + 1 ≤ 1 then b01 (opn (gCe γ) (nRt P c)) else 0) + (if w + 1 ≤ 2 then b01 (opn (gCe γ) (nUp P c)) else 0) + (if w + 1 ≤ 3 then b01 (opn (gCe γ) (nDn P c)) else 0), (G, X)) else ((jD (d + 2) 229 [(22, 149), (0, c), (0, w)] (G, X)).bind fun q2 => ((jD (d + 2) 227 [(22, 149), (0, q2.1)] (q2.2.1, q2.2.2)).bind fun q3 => if q3.1 = 0 then (jN (d + 2) 230 4 [(22, 149), (0, c), (0, v), (0, w + 1)] [] (q3.2.1, q3.2.2)) else (jN (d + 2) 230 4 [(22, 149), (0, c), (0, v + 1), (0, w + 1)] [] (q3.2.1, q3.2.2))))) = some (v + b01 (opn (gCe γ) (nV P c w)) + (if w + 1 ≤ 0 then b01 (opn (gCe γ) (nLf P c)) else 0) + (if w + 1 ≤ 1 then b01 (opn (gCe γ) (nRt P c)) else 0) + (if w + 1 ≤ 2 then b01 (opn (gCe γ) (nUp P c)) else 0) + (if w + 1 ≤ 3 then b01 (opn (gCe γ) (nDn P c)) else 0), (G, X)) := by
      intro z hz
      by_cases q : nV P c w = -1
      · rw [if_pos q, q, b01_f (p := opn (gCe γ) (-1)) (by unfold opn; omega), Int.add_zero]
      · rw [if_neg q, t_beside d c w hG hP hO hi h1 (by omega)]
        simp only [Option.bind_some, Int.reduceLE, reduceIte]
        rw [t_isOpen d _ hG hγ (by omega) (by omega)]
        simp only [Option.bind_some, Int.reduceLE, reduceIte]
        rw [ih (w + 1) v (by omega) (by omega) (by omega) (by omega), ih (w + 1) (v + 1) (by omega) (by omega) (by omega) (by omega)]
        rcases b01_or (opn (gCe γ) (nV P c w)) with ⟨e1, -⟩ | ⟨e1, -⟩ <;> simp [e1]
    rw [key _ rfl]
    congr 2
    rcases (show w = 0 ∨ w = 1 ∨ w = 2 ∨ w = 3 by omega) with rfl | rfl | rfl | rfl <;> simp [nV]
theorem t_nearOf (d : Nat) {G : jG} {X : jX} {P : aP} {γ : aG} (c : Int) (hG : GG G) (hP : mPlan X P) (hO : pOk P) (hi : inP P c) (hγ : mGr X 190 0 γ) : jD (d + 3) 230 [(22, 149), (0, c)] (G, X) = some (ner P (gCe γ) c, (G, X)) := by
  rw [e_X12_nearOf, t_near_n d c hG hP hO hi hγ 4 0 0 rfl (by omega) (by omega) (by omega)]
  unfold ner
  simp
  omega
theorem t_spanL_n (d : Nat) {G : jG} {X : jX} {P : aP} {γ : aG} (c : Int) (hG : GG G) (hP : mPlan X P) (hO : pOk P) (hi : inP P c) (hγ : mGr X 190 0 γ) : ∀ (n : Nat) (v : Int), v + n = c % pC P → 0 ≤ v → jN (d + 1) 231 2 [(22, 149), (0, c), (0, v)] [] (G, X) = some (v + lrn (gCe γ) n (c - v), (G, X)) := by
  have hc := pCe_le hO
  have hm := mod_in hO hi
  obtain ⟨h0, h1⟩ := id hi
  intro n
  induction n with
  | zero =>
    intro v q0 q1
    rw [h_X12_spanLeft_2, if_pos (by omega), t_columns d hG hP]
    simp only [Option.bind_some, Int.reduceLE, reduceIte]
    rw [if_neg (show ¬ pC P = 0 by omega), jrem_id h0, if_neg (by omega)]
    simp [lrn]
  | succ n ih =>
    intro v q0 q1
    rw [h_X12_spanLeft_2, if_pos (by omega), t_columns d hG hP]
    simp only [Option.bind_some, Int.reduceLE, reduceIte]
    rw [if_neg (show ¬ pC P = 0 by omega), jrem_id h0, if_pos (by omega), jsub_id (a := c) (by omega) (by omega), jsub_id (by omega) (by omega), t_whatIs d _ hG hγ (by omega) (by omega)]
    simp only [Option.bind_some, Int.reduceLE, reduceIte]
    rw [jadd_id (by omega) (by omega), ih (v + 1) (by omega) (by omega)]
    show _ = some (v + (if gCe γ (c - v - 1) = 1 then 1 + lrn (gCe γ) n (c - v - 1) else 0), (G, X))
    split
    · rw [show c - (v + 1) = c - v - 1 by omega, Int.add_assoc]
    · rw [Int.add_zero]
theorem t_spanLeft (d : Nat) {G : jG} {X : jX} {P : aP} {γ : aG} (c : Int) (hG : GG G) (hP : mPlan X P) (hO : pOk P) (hi : inP P c) (hγ : mGr X 190 0 γ) : jD (d + 2) 231 [(22, 149), (0, c)] (G, X) = some (spL P (gCe γ) c, (G, X)) := by
  have hm := mod_in hO hi
  rw [e_X12_spanLeft, t_spanL_n d c hG hP hO hi hγ (c % pC P).toNat 0 (by omega) (by omega), Int.zero_add, Int.sub_zero]
  rfl
theorem t_spanR_n (d : Nat) {G : jG} {X : jX} {P : aP} {γ : aG} (c : Int) (hG : GG G) (hP : mPlan X P) (hO : pOk P) (hi : inP P c) (hγ : mGr X 190 0 γ) : ∀ (n : Nat) (v : Int), v + n = pC P - 1 - c % pC P → 0 ≤ v → jN (d + 1) 232 2 [(22, 149), (0, c), (0, v)] [] (G, X) = some (v + rrn (gCe γ) n (c + v), (G, X)) := by
  have hc := pCe_le hO
  have hm := mod_in hO hi
  obtain ⟨h0, h1⟩ := id hi
  intro n
  induction n with
  | zero =>
    intro v q0 q1
    rw [h_X12_spanRight_2, if_pos (by omega), t_columns d hG hP]
    simp only [Option.bind_some, Int.reduceLE, reduceIte]
    rw [if_neg (show ¬ pC P = 0 by omega), t_columns d hG hP]
    simp only [Option.bind_some, Int.reduceLE, reduceIte]
    rw [jrem_id h0, jadd_id (a := c % pC P) (by omega) (by omega), jadd_id (by omega) (by omega), if_neg (by omega)]
    simp [rrn]
  | succ n ih =>
    intro v q0 q1
    rw [h_X12_spanRight_2, if_pos (by omega), t_columns d hG hP]
    simp only [Option.bind_some, Int.reduceLE, reduceIte]
    rw [if_neg (show ¬ pC P = 0 by omega), t_columns d hG hP]
    simp only [Option.bind_some, Int.reduceLE, reduceIte]
    rw [jrem_id h0, jadd_id (a := c % pC P) (by omega) (by omega), jadd_id (a := c % pC P + v) (by omega) (by omega), if_pos (by omega), jadd_id (a := c) (by omega) (by omega), jadd_id (a := c + v) (by omega) (by omega), t_whatIs d _ hG hγ (by omega) (by omega)]
    simp only [Option.bind_some, Int.reduceLE, reduceIte]
    rw [jadd_id (by omega) (by omega), ih (v + 1) (by omega) (by omega)]
    show _ = some (v + (if gCe γ (c + v + 1) = 1 then 1 + rrn (gCe γ) n (c + v + 1) else 0), (G, X))
    split
    · rw [show c + (v + 1) = c + v + 1 by omega, Int.add_assoc]
    · rw [Int.add_zero]
theorem t_spanRight (d : Nat) {G : jG} {X : jX} {P : aP} {γ : aG} (c : Int) (hG : GG G) (hP : mPlan X P) (hO : pOk P) (hi : inP P c) (hγ : mGr X 190 0 γ) : jD (d + 2) 232 [(22, 149), (0, c)] (G, X) = some (spR P (gCe γ) c, (G, X)) := by
  have hm := mod_in hO hi
  rw [e_X12_spanRight, t_spanR_n d c hG hP hO hi hγ (pC P - 1 - c % pC P).toNat 0 (by omega) (by omega), Int.zero_add, Int.add_zero]
  rfl
theorem t_spanOf (d : Nat) {G : jG} {X : jX} {P : aP} {γ : aG} (c : Int) (hG : GG G) (hP : mPlan X P) (hO : pOk P) (hi : inP P c) (hγ : mGr X 190 0 γ) : jD (d + 3) 233 [(22, 149), (0, c)] (G, X) = some (spn P (gCe γ) c, (G, X)) := by
  have hs := sp_in (gCe γ) hO hi
  have hc := pCe_le hO
  rw [e_X12_spanOf, if_pos (by omega), t_spanLeft d c hG hP hO hi hγ]
  simp only [Option.bind_some, Int.reduceLE, reduceIte]
  rw [t_spanRight d c hG hP hO hi hγ]
  simp only [Option.bind_some, Int.reduceLE, reduceIte]
  rw [jadd_id (a := spL P (gCe γ) c) (by omega) (by omega), jadd_id (by omega) (by omega)]
  rfl
theorem t_restOf (d : Nat) {G : jG} {X : jX} {P : aP} (k : Int) (hG : GG G) (hP : mPlan X P) (hO : pOk P) (h0 : -1 ≤ k) (h1 : k < pK P) : jD (d + 1) 235 [(22, 149), (0, k)] (G, X) = some (rsO P k, (G, X)) := by
  have hn := pOk_n hO
  have h := hP.2.2.2.2.1 k
  rw [e_X12_restOf, gr_149_42 hG, gl_183 hG]
  unfold rsO
  by_cases q : k = -1
  · rw [if_pos q, if_pos q]
  · rw [if_neg q, if_neg q, jmul_id (by omega) (by omega), jadd_id (by omega) (by omega), (h (by omega) h1).1]
    grind
theorem t_gasOf (d : Nat) {G : jG} {X : jX} {P : aP} (k : Int) (hG : GG G) (hP : mPlan X P) (hO : pOk P) (h0 : -1 ≤ k) (h1 : k < pK P) : jD (d + 1) 236 [(22, 149), (0, k)] (G, X) = some (gsO P k, (G, X)) := by
  have hn := pOk_n hO
  have h := hP.2.2.2.2.1 k
  rw [e_X12_gasOf, gr_149_42 hG, gl_183 hG]
  unfold gsO
  by_cases q : k = -1
  · rw [if_pos q, if_pos q]
  · rw [if_neg q, if_neg q, jmul_id (by omega) (by omega), jadd_id (by omega) (by omega), (h (by omega) h1).2.1]
    grind
