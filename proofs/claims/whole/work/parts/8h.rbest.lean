/-! BEST: the reference's search -/
theorem ovC_id {β : Type} (f : Int → β → β) : ∀ (m : Nat) (i : Int) (b : β), (∀ c, i ≤ c → c < i + m → ∀ b, f c b = b) → ovC f m i b = b
  | 0, _, _, _ => rfl
  | m + 1, i, b, h => by
    show ovC f m (i + 1) (f i b) = b
    rw [h i (by omega) (by omega), ovC_id f m (i + 1) b (fun c h0 h1 => h c (by omega) (by omega))]
theorem ovC_skip {β : Type} (f : Int → β → β) : ∀ (k m : Nat) (i : Int) (b : β), (∀ c, i ≤ c → c < i + k → ∀ b, f c b = b) → ovC f (k + (m + 1)) i b = ovC f m (i + k + 1) (f (i + k) b)
  | 0, m, i, b, _ => by
    rw [Nat.zero_add, show i + ((0 : Nat) : Int) = i by omega]
    rfl
  | k + 1, m, i, b, h => by
    rw [show k + 1 + (m + 1) = (k + (m + 1)) + 1 by omega]
    show ovC f (k + (m + 1)) (i + 1) (f i b) = _
    rw [h i (by omega) (by omega), ovC_skip f k m (i + 1) b (fun c h0 h1 => h c (by omega) (by omega)), show i + 1 + (k : Int) = i + ((k + 1 : Nat) : Int) by omega]
theorem t_next_n (d : Nat) {G : jG} {X : jX} (hG : GG G) (l : Int) (l0 : 0 ≤ l) (l1 : l < 5) (f : Int → Int) (N : Nat) (hN : N ≤ 48) (hs : X 193 l = (bsN f N : Int)) : ∀ (m : Nat) (i : Int), 0 ≤ i → i + m = 48 → ∃ c, i ≤ c ∧ c ≤ 48 ∧ (∀ j, i ≤ j → j < c → j < N → f j ≠ 1) ∧ (c < 48 → f c = 1 ∧ c < N) ∧ jN d 262 9 [(22, 149), (0, l), (0, i)] [] (G, X) = some (if c < 48 then c else -1, (G, jup X 194 l c)) := by
  intro m
  induction m with
  | zero =>
    intro i i0 i1
    refine ⟨i, by omega, by omega, fun j h1 h2 _ => by omega, fun h => by omega, ?_⟩
    rw [h_X12_nextTried_9, if_neg (by omega), gr_149_70 hG, gl_194 hG]
    simp only [if_pos l0, if_pos l1, Int.reduceLE, reduceIte]
    rw [if_neg (show ¬ i < 48 by omega), if_neg (show ¬ i < 48 by omega)]
  | succ m ih =>
    intro i i0 i1
    have e := h_X12_nextTried_9 d 149 l i G X
    have hb := lbit (x := bsN f N) (c := i.toNat) (Nat.lt_of_lt_of_le (bsN_63 f hN) (by omega)) (by omega)
    rw [show ((i.toNat : Nat) : Int) = i by omega] at hb
    rw [if_pos (show i < 48 by omega), gr_149_69 hG, gl_193 hG, gr_149_70 hG, gl_194 hG, hs, hb] at e
    simp only [if_pos l0, if_pos l1, Int.reduceLE, reduceIte, if_pos (show i < 48 by omega)] at e
    by_cases h : i < N ∧ f i = 1
    · have := bsN_at f N i.toNat (by omega)
      rw [show ((i.toNat : Nat) : Int) = i by omega, if_pos h.2] at this
      rw [this, if_neg (show ¬ lCmp ((1 : Nat) : Int) 0 = 0 by decide)] at e
      refine ⟨i, by omega, by omega, fun j h1 h2 _ => by omega, fun _ => ⟨h.2, h.1⟩, ?_⟩
      rw [e, if_pos (show i < 48 by omega)]
    · have : bsN f N / 2 ^ i.toNat % 2 = 0 := by
        by_cases z : i < N
        · have := bsN_at f N i.toNat (by omega)
          rw [show ((i.toNat : Nat) : Int) = i by omega, if_neg (fun q => h ⟨z, q⟩)] at this
          exact this
        · exact bsN_0 f N i.toNat (by omega)
      rw [this, if_pos (show lCmp ((0 : Nat) : Int) 0 = 0 by decide), jadd_id (by omega) (by omega)] at e
      obtain ⟨c, c0, c1, c2, c3, c4⟩ := ih (i + 1) (by omega) (by omega)
      refine ⟨c, by omega, c1, fun j h1 h2 h3 => ?_, c3, by rw [e]; exact c4⟩
      by_cases z : j = i
      · intro q; rw [z] at q h3; exact h ⟨h3, q⟩
      · exact c2 j (by omega) h2 h3
theorem t_nextTried (d : Nat) {G : jG} {X : jX} (hG : GG G) (l : Int) (l0 : 0 ≤ l) (l1 : l < 5) (f : Int → Int) (N : Nat) (hN : N ≤ 48) (hs : X 193 l = (bsN f N : Int)) (i : Int) (i0 : 0 ≤ i) (i1 : i ≤ 48) (ht : X 194 l = i - 1) : ∃ c, i ≤ c ∧ c ≤ 48 ∧ (∀ j, i ≤ j → j < c → j < N → f j ≠ 1) ∧ (c < 48 → f c = 1 ∧ c < N) ∧ jD (d + 1) 262 [(22, 149), (0, l)] (G, X) = some (if c < 48 then c else -1, (G, jup X 194 l c)) := by
  obtain ⟨c, c0, c1, c2, c3, c4⟩ := t_next_n d hG l l0 l1 f N hN hs (48 - i).toNat i i0 (by omega)
  refine ⟨c, c0, c1, c2, c3, ?_⟩
  rw [e_X12_nextTried, gr_149_70 hG, gl_194 hG, ht]
  simp only [if_pos l0, if_pos l1, Int.reduceLE, reduceIte]
  rw [jadd_id (by omega) (by omega), show i - 1 + 1 = i by omega]
  exact c4
/-- what the searches write -/
def mfT (X X' : jX) : Prop := (∀ k, k ≠ 149 → k ≠ 190 → k ≠ 191 → k ≠ 192 → ¬ (193 ≤ k ∧ k ≤ 199) → k ≠ 229 → X' k = X k) ∧ (∀ j, ¬ (55 ≤ j ∧ j ≤ 62) → j ≠ 115 → j ≠ 64 → X' 149 j = X 149 j)
theorem mfT_r (X : jX) : mfT X X := ⟨fun _ _ _ _ _ _ _ => rfl, fun _ _ _ _ => rfl⟩
theorem mfT_t {X Y Z : jX} (h1 : mfT X Y) (h2 : mfT Y Z) : mfT X Z := ⟨fun k a b c e f g => by rw [h2.1 k a b c e f g, h1.1 k a b c e f g], fun j a b c => by rw [h2.2 j a b c, h1.2 j a b c]⟩
theorem mfT_C {X Y : jX} (h : mfC X Y) : mfT X Y := ⟨fun k a b _ c _ e => h.1 k a b c e, h.2⟩
theorem mfT_1 {X Y : jX} (a : Int) (ha : a = 190 ∨ a = 191 ∨ (193 ≤ a ∧ a ≤ 199)) (h : ∀ k, k ≠ a → Y k = X k) : mfT X Y := ⟨fun k _ _ _ _ _ _ => h k (by omega), fun j _ _ _ => by rw [h 149 (by omega)]⟩
theorem mfT_u {X : jX} (a j z : Int) (ha : a = 190 ∨ a = 191 ∨ (193 ≤ a ∧ a ≤ 199)) : mfT X (jup X a j z) := mfT_1 a ha (fun _ h => jup_rw _ _ _ _ _ h)
theorem mfT_P {X X' : jX} {P : aP} (h : mfT X X') (hP : mPlan X P) : mPlan X' P := mPlan_fr (fun a h1 h2 => h.1 a (by omega) (by omega) (by omega) (by omega) (by omega) (by omega)) (h.2 51 (by omega) (by omega) (by omega)) hP
/-- opens: the level's ground is back, its set told, nothing tried -/
theorem t_opens (d : Nat) {G : jG} {X : jX} {P : aP} {γ : aG} (hG : GG G) (hP : mPlan X P) (hO : pOk P) (l : Int) (l0 : 0 ≤ l) (l1 : l < 5) (hγ : mGr X 191 (56 * l) γ) : ∃ X', jD (d + 8) 261 [(22, 149), (0, l)] (G, X) = some (0, (G, X')) ∧ X' 193 l = cset P (gCe γ) ∧ X' 194 l = -1 ∧ (∀ j, j ≠ l → X' 193 j = X 193 j) ∧ (∀ j, j ≠ l → X' 194 j = X 194 j) ∧ (∀ k, k = 191 ∨ (195 ≤ k ∧ k ≤ 199) → X' k = X k) ∧ mfT X X' := by
  obtain ⟨X1, e1, g1, f1⟩ := t_takesBack (d + 6) hG l l0 (by omega) hγ
  have P1 := mPlan_fr (X' := X1) (fun a h1 h2 => f1 a (by omega)) (by rw [f1 149 (by omega)]) hP
  obtain ⟨X2, e2, f2⟩ := t_cuttable d hG P1 hO g1
  have T2 : mfT X X2 := mfT_t (mfT_1 190 (by omega) f1) (mfT_C (mfC_R f2))
  have y2 : ∀ k, 193 ≤ k ∧ k ≤ 199 ∨ k = 191 → X2 k = X k := fun k hk => by rw [f2.1 k (by omega) (by omega) (by omega), f1 k (by omega)]
  rw [e_X12_opens, e1]
  simp only [Option.bind_some, Int.reduceLE, reduceIte]
  rw [e2]
  simp only [Option.bind_some, Int.reduceLE, reduceIte]
  rw [gr_149_69 hG, gl_193 hG, gr_149_70 hG, gl_194 hG]
  simp only [if_pos l0, if_pos l1, Int.reduceLE, reduceIte]
  refine ⟨_, rfl, by rw [jup_rw _ _ _ _ _ (by omega), jup_same], by rw [jup_same], fun j hj => by rw [jup_rw _ _ _ _ _ (by omega), jup_row _ _ _ _ _ hj, y2 193 (by omega)], fun j hj => by rw [jup_row _ _ _ _ _ hj, jup_rw _ _ _ _ _ (by omega), y2 194 (by omega)], fun k hk => by rw [jup_rw _ _ _ _ _ (by omega), jup_rw _ _ _ _ _ (by omega), y2 k (by omega)], ?_⟩
  exact mfT_t T2 (mfT_t (mfT_u 193 _ _ (by omega)) (mfT_u 194 _ _ (by omega)))
/-! each length's best -/
abbrev bT : Type := Nat → Int × List Int
def brT (T : bT) (p : List Int) (w : Int) : bT := fun k => if k = p.length ∧ (T k).1 < w then (w, p) else T k
noncomputable def tryM (P : aP) : Nat → aG → List Int → Int → bT → bT
  | 0, _, _, _, T => T
  | n + 1, g, p, w, T => ovC (fun c T => if why P (gCe g) c = 0 ∧ ¬ pHo P < spn P (gCe g) c then tryM P n (cut1 P g c) (p ++ [c]) (w + wth P (gCe g) c) (brT T (p ++ [c]) (w + wth P (gCe g) c)) else T) (pCe P).toNat 0 T
def mT (X : jX) (T : bT) : Prop := ∀ k : Nat, 1 ≤ k → k ≤ 3 → X 196 k = (T k).1 ∧ ((T k).1 ≠ -1 → ∀ i : Nat, i < k → X 197 (5 * k + i) = (T k).2.getD i 0)
theorem t_isB_n (d : Nat) {G : jG} (hG : GG G) (k : Nat) (h1 : 1 ≤ k) (h3 : k ≤ 3) (w : Int) : ∀ (m : Nat) (X : jX) (i : Int), 0 ≤ i → i + m = k → ∃ X', jN d 263 20 [(22, 149), (0, (k : Int)), (0, w), (0, i)] [] (G, X) = some (0, (G, X')) ∧ (∀ a, a ≠ 197 → X' a = X a) ∧ ∀ j, X' 197 j = if 5 * k + i ≤ j ∧ j < 5 * k + k then X 194 (j - 5 * k) else X 197 j := by
  intro m
  induction m with
  | zero =>
    intro X i i0 i1
    refine ⟨X, ?_, fun _ _ => rfl, fun j => by rw [if_neg (by omega)]⟩
    rw [h_X12_isBest_20, if_neg (by omega)]
  | succ m ih =>
    intro X i i0 i1
    obtain ⟨X', e, a1, a2⟩ := ih (jup X 197 (5 * k + i) (X 194 i)) (i + 1) (by omega) (by omega)
    refine ⟨X', ?_, fun a ha => by rw [a1 a ha, jup_rw _ _ _ _ _ ha], fun j => ?_⟩
    · rw [h_X12_isBest_20, if_pos (by omega), gr_149_70 hG, gl_194 hG, gr_149_73 hG, gl_197 hG, jmul_id (by omega) (by omega), jadd_id (a := 5 * (k : Int)) (by omega) (by omega), jadd_id (a := i) (by omega) (by omega)]
      simp only [Int.reduceLE, reduceIte]
      rw [if_pos i0, if_pos (by omega), if_pos (by omega), if_pos (by omega)]
      exact e
    · rw [a2 j, jup_rw X 197 _ _ 194 (by omega)]
      by_cases q : j = 5 * k + i
      · rw [if_neg (by omega), if_pos (by omega), q, jup_same, show 5 * (k : Int) + i - 5 * k = i by omega]
      · rw [jup_row _ _ _ _ _ q]
        by_cases q2 : 5 * k + (i + 1) ≤ j ∧ j < 5 * k + k
        · rw [if_pos q2, if_pos (by omega)]
        · rw [if_neg q2, if_neg (by omega)]
theorem t_isBest (d : Nat) {G : jG} {X : jX} {T : bT} {p : List Int} {w : Int} (hG : GG G) (k : Nat) (hk : p.length = k) (h1 : 1 ≤ k) (h3 : k ≤ 3) (hT : mT X T) (hp : ∀ i : Nat, i < k → X 194 i = p.getD i 0) : ∃ X', jD (d + 1) 263 [(22, 149), (0, (k : Int)), (0, w)] (G, X) = some (0, (G, X')) ∧ mT X' (brT T p w) ∧ ∀ a, a ≠ 196 → a ≠ 197 → X' a = X a := by
  rw [e_X12_isBest, gr_149_72 hG, gl_196 hG, (hT k h1 h3).1]
  simp only [if_pos (show (0 : Int) ≤ k by omega), if_pos (show (k : Int) < 5 by omega), Int.reduceLE, reduceIte]
  by_cases q : (T k).1 < w
  · rw [if_pos q]
    obtain ⟨X', e, a1, a2⟩ := t_isB_n d hG k h1 h3 w k (jup X 196 k w) 0 (by omega) (by omega)
    refine ⟨X', e, fun j j1 j3 => ?_, fun a ha hb => by rw [a1 a hb, jup_rw _ _ _ _ _ ha]⟩
    unfold brT
    by_cases z : j = k
    · rw [if_pos ⟨by omega, by rw [z]; exact q⟩]
      refine ⟨by rw [a1 196 (by omega), z, jup_same], fun _ i hi => ?_⟩
      rw [a2, if_pos (by omega), z, jup_rw _ _ _ _ _ (by omega), show 5 * (k : Int) + i - 5 * k = i by omega]
      exact hp i (by omega)
    · rw [if_neg (by omega)]
      refine ⟨by rw [a1 196 (by omega), jup_row _ _ _ _ _ (by omega)]; exact (hT j j1 j3).1, fun h i hi => ?_⟩
      rw [a2, if_neg (by omega), jup_rw _ _ _ _ _ (by omega)]
      exact (hT j j1 j3).2 h i hi
  · rw [if_neg q]
    refine ⟨X, rfl, fun j j1 j3 => ?_, fun _ _ _ => rfl⟩
    unfold brT
    by_cases z : j = k
    · rw [if_neg (fun h => q (by rw [← z]; exact h.2))]; exact hT j j1 j3
    · rw [if_neg (by omega)]; exact hT j j1 j3
