/-! THE CLASS'S GROUND AND MINE, asked: near, span -/
theorem s_max (d : Nat) {G : jG} {X : jX} (a b : Int) : jD (d + 1) 337 [(0, a), (0, b)] (G, X) = some (if a < b then b else a, (G, X)) := by rw [e_J9_max_7cf53]; split <;> rfl
theorem s_min (d : Nat) {G : jG} {X : jX} (a b : Int) : jD (d + 1) 339 [(0, a), (0, b)] (G, X) = some (if b < a then b else a, (G, X)) := by rw [e_J9_min_7cf53]; split <;> rfl
theorem s_lmax (d : Nat) {G : jG} {X : jX} (a b : Int) : jD (d + 1) 338 [(1, a), (1, b)] (G, X) = some (if a < b then b else a, (G, X)) := by
  rw [e_J9_max_f86c9]; unfold lCmp; grind
theorem s_lmin (d : Nat) {G : jG} {X : jX} (a b : Int) : jD (d + 1) 340 [(1, a), (1, b)] (G, X) = some (if b < a then b else a, (G, X)) := by
  rw [e_J9_min_f86c9]; unfold lCmp; grind
/-- a row filled -/
def fil (X : jX) (a n z : Int) : jX := fun k j => if k = a ∧ 0 ≤ j ∧ j < n then z else X k j
theorem fil_ne (X : jX) (a n z k : Int) (h : k ≠ a) : fil X a n z k = X k := by funext j; unfold fil; rw [if_neg (fun q => h q.1)]
theorem fil_at (X : jX) (a n z j : Int) : fil X a n z a j = if 0 ≤ j ∧ j < n then z else X a j := by unfold fil; grind
theorem s_fill_n (d : Nat) {G : jG} (a z L : Int) (ha : 0 ≤ a) (hL : gL G a = L) (hb : L ≤ 200000) : ∀ (n : Nat) (X : jX) (i : Int), 0 ≤ i → i + n = L → ∃ X', jN d 341 5 [(24, a), (0, z), (0, i), (0, L)] [] (G, X) = some (0, (G, X')) ∧ (∀ k, k ≠ a → X' k = X k) ∧ ∀ j, X' a j = if i ≤ j ∧ j < L then z else X a j := by
  intro n
  induction n with
  | zero =>
    intro X i h0 h1
    refine ⟨X, ?_, fun k _ => rfl, fun j => ?_⟩
    · rw [h_J7_fill_53178_5, if_neg (by omega)]
    · rw [if_neg (by omega)]
  | succ n ih =>
    intro X i h0 h1
    obtain ⟨X', e, f, g⟩ := ih (jup X a i z) (i + 1) (by omega) (by omega)
    refine ⟨X', ?_, fun k hk => ?_, fun j => ?_⟩
    · rw [h_J7_fill_53178_5, if_pos (by omega), if_pos ha, if_pos h0, if_pos (by omega), jadd_id (by omega) (by omega)]
      exact e
    · rw [f k hk]; exact jup_rw _ _ _ _ _ hk
    · rw [g j]
      by_cases e1 : j = i
      · subst e1
        rw [if_neg (by omega), if_pos (by omega), jup_same]
      · rw [jup_row _ _ _ _ _ e1]
        by_cases e2 : i + 1 ≤ j ∧ j < L
        · rw [if_pos e2, if_pos (by omega)]
        · rw [if_neg e2, if_neg (by omega)]
theorem s_fill (d : Nat) {G : jG} {X : jX} (a z L : Int) (ha : 0 ≤ a) (hL : gL G a = L) (h0 : 0 ≤ L) (hb : L ≤ 200000) : jD (d + 1) 341 [(24, a), (0, z)] (G, X) = some (0, (G, fil X a L z)) := by
  obtain ⟨X', e, f, g⟩ := s_fill_n d a z L ha hL hb L.toNat X 0 (by omega) (by omega)
  rw [e_J7_fill_53178, if_pos ha, hL, e]
  have : X' = fil X a L z := by
    funext k j
    unfold fil
    by_cases hk : k = a
    · subst hk; rw [g j]; grind
    · rw [f k hk, if_neg (fun q => hk q.1)]
  rw [this]
theorem b01_t {p : Prop} (h : p) : b01 p = 1 := by unfold b01; rw [if_pos h]
theorem b01_f {p : Prop} (h : ¬ p) : b01 p = 0 := by unfold b01; rw [if_neg h]
theorem b01_or (p : Prop) : b01 p = 0 ∧ ¬ p ∨ b01 p = 1 ∧ p := by
  by_cases h : p
  · exact Or.inr ⟨b01_t h, h⟩
  · exact Or.inl ⟨b01_f h, h⟩
theorem s_is (d : Nat) {G : jG} {X : jX} {γ : aG} (g c w : Int) (hg : isGr G g) (hγ : cGr X g γ) : jD (d + 1) 13 [(11, g), (0, c), (0, w)] (G, X) = some (if 0 ≤ c ∧ c < 48 ∧ gCe γ c = w then 1 else 0, (G, X)) := by
  obtain ⟨g0, g1, g2, g3, g4⟩ := hg
  have hc := hγ.2.1 c
  rw [e_X1_is, g0, g2]
  grind
theorem s_isOpen (d : Nat) {G : jG} {X : jX} {γ : aG} (g c : Int) (hg : isGr G g) (hγ : cGr X g γ) (hc : c < 48) : jD (d + 2) 14 [(11, g), (0, c)] (G, X) = some (b01 (opn (gCe γ) c), (G, X)) := by
  have g4 : 25 ≤ g := hg.2.2.2.2
  rw [e_X1_isOpen, s_is d g c 1 hg hγ]
  simp only [Option.bind_some]
  rw [s_is d g c 2 hg hγ]
  simp only [Option.bind_some]
  rcases b01_or (opn (gCe γ) c) with ⟨e, h⟩ | ⟨e, h⟩ <;> rw [e] <;> unfold opn at h <;> grind
theorem s_tubs (d : Nat) {G : jG} {X : jX} {γ : aG} (g k : Int) (hg : isGr G g) (hγ : cGr X g γ) : jD (d + 1) 16 [(11, g), (0, k)] (G, X) = some (if 0 ≤ k ∧ k < 5 then gSt γ k else 0, (G, X)) := by
  obtain ⟨g0, g1, g2, g3, g4⟩ := hg
  have hc := hγ.2.2 k
  rw [e_X1_tubs, g1, g3]
  grind
theorem nW_le {P : aP} {c w : Int} (hO : pOk P) (hi : inP P c) (hw0 : 0 ≤ w) (hw : w < 4) : -1 ≤ nW P c w ∧ nW P c w < pCe P := by
  have hc := pCe_le hO
  obtain ⟨h0, h1⟩ := hi
  have hC : 0 < pC P := by
    rcases Int.lt_or_eq_of_le hc.2.2.2.1 with h | h
    · exact h
    · rw [← h, Int.zero_mul] at hc; omega
  have h2 := Int.emod_nonneg c (Int.ne_of_gt hC)
  have h3 := Int.emod_lt_of_pos c hC
  have h4 : c = pC P * (c / pC P) + c % pC P := (Int.mul_ediv_add_emod c (pC P)).symm
  have h5 : c / pC P < pR P := Int.ediv_lt_of_lt_mul hC (by rw [Int.mul_comm]; omega)
  have h6 : pC P * (c / pC P) + pC P ≤ pCe P := by
    have : pC P * (c / pC P + 1) ≤ pC P * pR P := Int.mul_le_mul_of_nonneg_left (by omega) hc.2.2.2.1
    rw [Int.mul_add, Int.mul_one] at this
    omega
  unfold nW nUp nLf nRt nDn
  grind
theorem s_near_n (d : Nat) {G : jG} {X : jX} {P : aP} {γ : aG} {m g r : Int} (c : Int) (hG : GG G) (hP : cPlan X P) (hO : pOk P) (hi : inP P c) (hm : isMi G m g r) (hγ : cGr X g γ) : ∀ (n : Nat) (w v : Int), w + n = 4 → 0 ≤ w → 0 ≤ v → v ≤ 100 - n → jN (d + 2) 35 4 [(13, m), (0, c), (0, v), (0, w)] [] (G, X) = some (v + (if w ≤ 0 then b01 (opn (gCe γ) (nUp P c)) else 0) + (if w ≤ 1 then b01 (opn (gCe γ) (nLf P c)) else 0) + (if w ≤ 2 then b01 (opn (gCe γ) (nRt P c)) else 0) + (if w ≤ 3 then b01 (opn (gCe γ) (nDn P c)) else 0), (G, X)) := by
  intro n
  obtain ⟨hg, ⟨m0, m1, m2, m3, m4, m5⟩, -, h25, -⟩ := id hm
  have g4 : 25 ≤ g := hg.2.2.2.2
  have hc := pCe_le hO
  induction n with
  | zero =>
    intro w v h0 h1 h2 h3
    rw [h_X3_near_4, if_neg (by omega)]
    grind
  | succ n ih =>
    intro w v h0 h1 h2 h3
    have hb := nW_le hO hi h1 (show w < 4 by omega)
    rw [h_X3_near_4, m0, m1, if_pos (by omega), if_pos (by omega), if_pos (by omega), if_pos (by omega), s_beside d c w hG hP hO hi h1 (by omega)]
    simp only [Option.bind_some]
    rw [if_pos (by omega), s_isOpen d g _ hg hγ (by omega)]
    simp only [Option.bind_some]
    rw [jadd_id (a := w) (by omega) (by omega), jadd_id (a := v) (by omega) (by omega), ih (w + 1) v (by omega) (by omega) (by omega) (by omega), ih (w + 1) (v + 1) (by omega) (by omega) (by omega) (by omega)]
    rcases (show w = 0 ∨ w = 1 ∨ w = 2 ∨ w = 3 by omega) with rfl | rfl | rfl | rfl <;> simp only [nW] <;> rcases b01_or (opn (gCe γ) (nUp P c)) with ⟨e1, -⟩ | ⟨e1, -⟩ <;> rcases b01_or (opn (gCe γ) (nLf P c)) with ⟨e2, -⟩ | ⟨e2, -⟩ <;> rcases b01_or (opn (gCe γ) (nRt P c)) with ⟨e3, -⟩ | ⟨e3, -⟩ <;> rcases b01_or (opn (gCe γ) (nDn P c)) with ⟨e4, -⟩ | ⟨e4, -⟩ <;> simp [e1, e2, e3, e4] <;> omega
theorem s_near (d : Nat) {G : jG} {X : jX} {P : aP} {γ : aG} {m g r : Int} (c : Int) (hG : GG G) (hP : cPlan X P) (hO : pOk P) (hi : inP P c) (hm : isMi G m g r) (hγ : cGr X g γ) : jD (d + 3) 35 [(13, m), (0, c)] (G, X) = some (ner P (gCe γ) c, (G, X)) := by
  rw [e_X3_near, s_near_n d c hG hP hO hi hm hγ 4 0 0 rfl (by omega) (by omega) (by omega)]
  unfold ner
  simp
