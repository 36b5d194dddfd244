/-! GROUNDS PUT ASIDE: the reference -/
theorem t_put_n (d : Nat) {G : jG} (hG : GG G) (w : Int) (h0 : 0 ≤ w) (h1 : w < 6) : ∀ (n : Nat) (X : jX) (k : Int), 0 ≤ k → k + n = 56 → ∃ X', jN d 257 2 [(22, 149), (0, w), (0, k)] [] (G, X) = some (0, (G, X')) ∧ (∀ a, a ≠ 191 → X' a = X a) ∧ ∀ j, X' 191 j = if 56 * w + k ≤ j ∧ j < 56 * w + 56 then X 190 (j - 56 * w) else X 191 j := by
  intro n
  induction n with
  | zero =>
    intro X k q0 q1
    refine ⟨X, ?_, fun _ _ => rfl, fun j => by rw [if_neg (by omega)]⟩
    rw [h_X12_putsAside_2, if_neg (by omega)]
  | succ n ih =>
    intro X k q0 q1
    obtain ⟨X', e, a1, a2⟩ := ih (jup X 191 (56 * w + k) (X 190 k)) (k + 1) (by omega) (by omega)
    refine ⟨X', ?_, fun a ha => by rw [a1 a ha, jup_rw _ _ _ _ _ ha], fun j => ?_⟩
    · rw [h_X12_putsAside_2, if_pos (by omega), gr_149_53 hG, gl_190 hG, gr_149_54 hG, gl_191 hG, jmul_id (by omega) (by omega), jadd_id (a := 56 * w) (by omega) (by omega), jadd_id (a := k) (by omega) (by omega)]
      simp only [Int.reduceLE, reduceIte]
      rw [if_pos q0, if_pos (by omega), if_pos (by omega), if_pos (by omega)]
      exact e
    · rw [a2 j, jup_rw X 191 (56 * w + k) (X 190 k) 190 (by omega)]
      by_cases q : j = 56 * w + k
      · rw [if_neg (by omega), if_pos (by omega), q, jup_same, show 56 * w + k - 56 * w = k by omega]
      · rw [jup_row _ _ _ _ _ q]
        by_cases q2 : 56 * w + (k + 1) ≤ j ∧ j < 56 * w + 56
        · rw [if_pos q2, if_pos (by omega)]
        · rw [if_neg q2, if_neg (by omega)]
theorem mGr_mv {X Y : jX} {a b o p : Int} {γ : aG} (h : ∀ j, 0 ≤ j → j < 56 → Y b (p + j) = X a (o + j)) (hg : mGr X a o γ) : mGr Y b p γ := by
  refine ⟨⟨?_, ?_, ?_⟩, fun c c0 c1 => ?_, fun k k0 k1 => ?_⟩
  · have := h 0 (by omega) (by omega); rw [Int.add_zero, Int.add_zero] at this; rw [this]; exact hg.1.1
  · rw [h 1 (by omega) (by omega)]; exact hg.1.2.1
  · rw [h 2 (by omega) (by omega)]; exact hg.1.2.2
  · rw [Int.add_assoc, h (8 + c) (by omega) (by omega), ← Int.add_assoc]; exact hg.2.1 c c0 c1
  · rw [Int.add_assoc, h (3 + k) (by omega) (by omega), ← Int.add_assoc]; exact hg.2.2 k k0 k1
theorem t_putsAside (d : Nat) {G : jG} {X : jX} {γ : aG} (hG : GG G) (w : Int) (h0 : 0 ≤ w) (h1 : w < 6) (hγ : mGr X 190 0 γ) : ∃ X', jD (d + 1) 257 [(22, 149), (0, w)] (G, X) = some (0, (G, X')) ∧ mGr X' 191 (56 * w) γ ∧ (∀ a, a ≠ 191 → X' a = X a) ∧ (∀ v δ, v ≠ w → mGr X 191 (56 * v) δ → mGr X' 191 (56 * v) δ) := by
  obtain ⟨X', e, f, c⟩ := t_put_n d hG w h0 h1 56 X 0 (by omega) (by omega)
  refine ⟨X', by rw [e_X12_putsAside]; exact e, mGr_mv (fun j j0 j1 => ?_) hγ, f, fun v δ hv hδ => mGr_mv (fun j j0 j1 => ?_) hδ⟩
  · rw [c, if_pos (by omega), show 56 * w + j - 56 * w = 0 + j by omega]
  · rw [c, if_neg (by omega)]
theorem t_take_n (d : Nat) {G : jG} (hG : GG G) (w : Int) (h0 : 0 ≤ w) (h1 : w < 6) : ∀ (n : Nat) (X : jX) (k : Int), 0 ≤ k → k + n = 56 → ∃ X', jN d 258 2 [(22, 149), (0, w), (0, k)] [] (G, X) = some (0, (G, X')) ∧ (∀ a, a ≠ 190 → X' a = X a) ∧ ∀ j, X' 190 j = if k ≤ j ∧ j < 56 then X 191 (56 * w + j) else X 190 j := by
  intro n
  induction n with
  | zero =>
    intro X k q0 q1
    refine ⟨X, ?_, fun _ _ => rfl, fun j => by rw [if_neg (by omega)]⟩
    rw [h_X12_takesBack_2, if_neg (by omega)]
  | succ n ih =>
    intro X k q0 q1
    obtain ⟨X', e, a1, a2⟩ := ih (jup X 190 k (X 191 (56 * w + k))) (k + 1) (by omega) (by omega)
    refine ⟨X', ?_, fun a ha => by rw [a1 a ha, jup_rw _ _ _ _ _ ha], fun j => ?_⟩
    · rw [h_X12_takesBack_2, if_pos (by omega), gr_149_53 hG, gl_190 hG, gr_149_54 hG, gl_191 hG, jmul_id (by omega) (by omega), jadd_id (a := 56 * w) (by omega) (by omega), jadd_id (a := k) (by omega) (by omega)]
      simp only [Int.reduceLE, reduceIte]
      rw [if_pos (by omega), if_pos (by omega), if_pos q0, if_pos (by omega)]
      exact e
    · rw [a2 j, jup_rw X 190 k (X 191 (56 * w + k)) 191 (by omega)]
      by_cases q : j = k
      · rw [if_neg (by omega), if_pos (by omega), q, jup_same]
      · rw [jup_row _ _ _ _ _ q]
        by_cases q2 : k + 1 ≤ j ∧ j < 56
        · rw [if_pos q2, if_pos (by omega)]
        · rw [if_neg q2, if_neg (by omega)]
theorem t_takesBack (d : Nat) {G : jG} {X : jX} {γ : aG} (hG : GG G) (w : Int) (h0 : 0 ≤ w) (h1 : w < 6) (hγ : mGr X 191 (56 * w) γ) : ∃ X', jD (d + 1) 258 [(22, 149), (0, w)] (G, X) = some (0, (G, X')) ∧ mGr X' 190 0 γ ∧ (∀ a, a ≠ 190 → X' a = X a) := by
  obtain ⟨X', e, f, c⟩ := t_take_n d hG w h0 h1 56 X 0 (by omega) (by omega)
  refine ⟨X', by rw [e_X12_takesBack]; exact e, mGr_mv (fun j j0 j1 => ?_) hγ, f⟩
  rw [c, if_pos (by omega), show (0 : Int) + j = j by omega]
/-! JUDGE -/
noncomputable def judS (P : aP) (f : Int → Int) : Nat → Int → aG → aG × Int × Int × Int
  | 0, i, g => (g, i, 0, 0)
  | n + 1, i, g => if why P (gCe g) (f i) = 0 then ((judS P f n (i + 1) (cut1 P g (f i))).1, (judS P f n (i + 1) (cut1 P g (f i))).2.1, (judS P f n (i + 1) (cut1 P g (f i))).2.2.1, wth P (gCe g) (f i) + (judS P f n (i + 1) (cut1 P g (f i))).2.2.2) else (g, i, why P (gCe g) (f i), 0)
def t3 (g : aG) : Int := cnt (fun c => if gCe g c = 3 then 1 else 0) 48
theorem cnt_rng {f f' : Int → Int} {a b : Int} (h0 : 0 ≤ a) (hab : a ≤ b + 1) (hin : ∀ i, a ≤ i → i ≤ b → f' i = f i + 1) (hout : ∀ i, (i < a ∨ b < i) → f' i = f i) : ∀ n : Nat, cnt f' n = cnt f n + (if b < n then b - a + 1 else if a ≤ n then n - a else 0) := by
  intro n
  induction n with
  | zero =>
    show 0 = 0 + _
    by_cases q : b < (0 : Nat)
    · rw [if_pos q]; omega
    · rw [if_neg q]; split <;> omega
  | succ n ih =>
    show cnt f' n + f' n = cnt f n + f n + _
    rw [ih]
    by_cases q : a ≤ n ∧ n ≤ b
    · rw [hin n q.1 q.2, if_neg (by omega), if_pos (by omega)]
      by_cases q2 : b < ((n + 1 : Nat) : Int)
      · rw [if_pos q2]; omega
      · rw [if_neg q2, if_pos (by omega)]; omega
    · rw [hout n (by omega)]
      by_cases q2 : b < n
      · rw [if_pos q2, if_pos (by omega)]; omega
      · rw [if_neg q2, if_neg (show ¬ a ≤ (n : Int) by omega)]
        by_cases q3 : b < ((n + 1 : Nat) : Int)
        · rw [if_pos q3]; omega
        · rw [if_neg q3]; split <;> omega
theorem t3_cut {P : aP} {γ : aG} {c w : Int} (hO : pOk P) (hi : inP P c) (hz : gCe γ c = 0) : t3 (dig P γ c w) = t3 γ + (if pHo P < spn P (gCe γ) c then spn P (gCe γ) c else 0) := by
  have hcc := pCe_le hO
  have hs := sp_in (gCe γ) hO hi
  have hi' : 0 ≤ c ∧ c < pCe P := hi
  have ce : ∀ i, gCe (dig P γ c w) i = if pHo P < spn P (gCe γ) c then (if c - spL P (gCe γ) c ≤ i ∧ i ≤ c + spR P (gCe γ) c then 3 else gCe γ i) else if i = c then 1 else gCe γ i := fun i => rfl
  unfold t3
  by_cases q : pHo P < spn P (gCe γ) c
  · rw [if_pos q]
    have h5 := hs.2.2.2.2.1.1
    have h6 := hs.2.2.2.2.2.2
    rw [cnt_rng (f := fun i => if gCe γ i = 3 then 1 else 0) (f' := fun i => if gCe (dig P γ c w) i = 3 then 1 else 0) (a := c - spL P (gCe γ) c) (b := c + spR P (gCe γ) c) h5 (by omega) (fun i i0 i1 => ?_) (fun i hi => ?_) 48, if_pos (by show c + spR P (gCe γ) c < 48; omega)]
    · unfold spn; omega
    · try dsimp only
      rw [ce i, if_pos q, if_pos (show c - spL P (gCe γ) c ≤ i ∧ i ≤ c + spR P (gCe γ) c from ⟨i0, i1⟩), if_pos (show (3 : Int) = 3 from rfl)]
      have : gCe γ i ≠ 3 := by
        rcases Int.lt_trichotomy i c with h | h | h
        · have := lrn_1 (gCe γ) _ c i i0 h; omega
        · rw [h]; omega
        · have := rrn_1 (gCe γ) _ c i i1 h; omega
      rw [if_neg this]; omega
    · try dsimp only
      rw [ce i, if_pos q, if_neg (show ¬ (c - spL P (gCe γ) c ≤ i ∧ i ≤ c + spR P (gCe γ) c) by omega)]
  · rw [if_neg q, Int.add_zero]
    refine cnt_cong (fun i i0 i1 => ?_)
    try dsimp only
    rw [ce i, if_neg q]
    by_cases q2 : i = c
    · rw [if_pos q2, q2, hz]; rfl
    · rw [if_neg q2]
theorem why_0 {P : aP} {st : Int → Int} {c : Int} (h : why P st c = 0) : st c = 0 := by
  unfold why at h
  by_cases q : st c = 0
  · exact q
  · rw [if_pos q] at h; omega
theorem judS_ok {P : aP} {f : Int → Int} (hO : pOk P) : ∀ (n : Nat) (i : Int) (g : aG), gOk P g → (∀ j, i ≤ j → j < i + n → inP P (f j)) → 0 ≤ (judS P f n i g).2.2.2 ∧ (judS P f n i g).2.2.2 ≤ 999 * n ∧ i ≤ (judS P f n i g).2.1 ∧ (judS P f n i g).2.1 ≤ i + n ∧ 0 ≤ (judS P f n i g).2.2.1 ∧ t3 g ≤ t3 (judS P f n i g).1 := by
  intro n
  induction n with
  | zero => intro i g _ _; exact ⟨Int.le_refl 0, Int.le_refl 0, Int.le_refl i, by show i ≤ i + 0; omega, Int.le_refl 0, Int.le_refl _⟩
  | succ n ih =>
    intro i g hg hf
    unfold judS
    have hi := hf i (by omega) (by omega)
    have hw := wth_le (γ := g) hO hi
    by_cases h : why P (gCe g) (f i) = 0
    · rw [if_pos h]
      have hd := gOk_dig hO hg hi (why_0 h) hw.1 hw.2
      have := ih (i + 1) (cut1 P g (f i)) hd.1 (fun j j0 j1 => hf j (by omega) (by omega))
      have ht := t3_cut (w := wth P (gCe g) (f i)) hO hi (why_0 h)
      have hsp := spn_le (gCe g) hO hi
      refine ⟨by dsimp only; omega, by dsimp only; omega, by dsimp only; omega, by dsimp only; omega, this.2.2.2.2.1, ?_⟩
      have h2 := this.2.2.2.2.2
      unfold cut1 at h2 ⊢
      dsimp only
      split at ht <;> omega
    · rw [if_neg h]
      refine ⟨by dsimp only; omega, by dsimp only; omega, by dsimp only; omega, by dsimp only; omega, ?_, Int.le_refl _⟩
      dsimp only
      unfold why
      repeat' split
      all_goals omega
