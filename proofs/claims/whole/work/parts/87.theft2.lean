/-! THEFT: the reference -/
def tR (P : aP) (k : Int) : Int := if 0 ≤ k ∧ k < pK P then pRe P k else 1
def tS (γ : aG) (k : Int) : Int := if 0 ≤ k ∧ k < 5 then gSt γ k else 0
theorem tR_le {P : aP} (hO : pOk P) (k : Int) : 1 ≤ tR P k ∧ tR P k ≤ 99 := by
  unfold tR
  split
  · rename_i h
    have := pOk_k hO k h.1 h.2
    omega
  · omega
theorem tS_le {P : aP} {γ : aG} (h : gOk P γ) (k : Int) : 0 ≤ tS γ k ∧ tS γ k ≤ 68 := by
  unfold tS
  split
  · rename_i q
    have h1 := h.2.2.2.2.2.2.1 k q.1 q.2
    have h2 := nwh_le (gCe γ) 48
    omega
  · omega
theorem cnt_tail {f : Int → Int} {j : Nat} (h : ∀ x : Int, j ≤ x → f x = 0) : ∀ n : Nat, cnt f (j + n) = cnt f j
  | 0 => rfl
  | n + 1 => by
    show cnt f (j + n) + f ((j + n : Nat) : Int) = _
    rw [h _ (by omega), cnt_tail h n, Int.add_zero]
theorem p69_4 : ∀ n : Nat, n < 5 → p69 n ≤ 100000000 := by decide
theorem t_ak_15 (d : Nat) {G : jG} {X : jX} {T : Int → Int} {r s b : Int} (hG : GG G) (hr : 1 ≤ r) (hr9 : r ≤ 99) (hs0 : 0 ≤ s) (hs : s ≤ 68) (hb0 : 0 ≤ b) (hb : b ≤ 100000) (hT : ∀ c, 0 ≤ T c ∧ T c ≤ 100000000) (hneg : ∀ c, c < 0 → T c = 0) (hX : ∀ c, 0 ≤ c → c ≤ b → X 203 c = T c) : ∀ (m j : Nat), (j : Int) + m = s + 1 → ∃ v6, jN d 292 15 [(22, 149), (0, r), (0, s), (0, b), (1, cnt (fun x => T (b - x * r)) j), (2, -1), (0, (j : Int))] [] (G, X) = jN d 292 5 [(22, 149), (0, r), (0, s), (0, b - 1), (1, cv r s T b), (2, -1), (0, v6)] [] (G, jup X 203 b (cv r s T b)) := by
  intro m
  induction m with
  | zero =>
    intro j h1
    refine ⟨j, ?_⟩
    rw [h_X12_addsKind_15, if_pos (by omega), gr_149_83 hG, gl_203 hG, jadd_id (by omega) (by omega), show b + -1 = b - 1 by omega, show j = (s + 1).toNat by omega]
    simp only [Int.reduceLE, reduceIte]
    rw [if_pos hb0, if_pos (by omega)]
    rfl
  | succ m ih =>
    intro j h1
    have hj9 : (j : Int) * r ≤ 69 * 99 := Int.mul_le_mul (by omega) hr9 (by omega) (by omega)
    have hj0 : 0 ≤ (j : Int) * r := Int.mul_nonneg (by omega) (by omega)
    rw [h_X12_addsKind_15, if_neg (by omega), gr_149_83 hG, gl_203 hG, jmul_id (by omega) (by omega), jadd_id (a := b) (by omega) (by omega), show b + -1 = b - 1 by omega]
    simp only [Int.reduceLE, reduceIte]
    by_cases q : b < (j : Int) * r
    · have e : cnt (fun x => T (b - x * r)) j = cv r s T b := by
        have t := cnt_tail (f := fun x => T (b - x * r)) (j := j) (fun x hx => by
          have : (j : Int) * r ≤ x * r := Int.mul_le_mul_of_nonneg_right hx (by omega)
          exact hneg _ (by omega)) (m + 1)
        rw [show j + (m + 1) = (s + 1).toNat by omega] at t
        exact t.symm
      refine ⟨j, ?_⟩
      rw [if_pos q, if_pos hb0, if_pos (by omega), e]
    · have hu := cnt_ub (f := fun x => T (b - x * r)) (B := 100000000) j (fun x _ _ => (hT _).2)
      have hl := cnt_nn (f := fun x => T (b - x * r)) j (fun x _ _ => (hT _).1)
      have hTj := hT (b - (j : Int) * r)
      obtain ⟨v6, e⟩ := ih (j + 1) (by omega)
      refine ⟨v6, ?_⟩
      rw [if_neg q, jsub_id (by omega) (by omega), if_pos (by omega), if_pos (by omega), hX _ (by omega) (by omega), ladd_id (by omega) (by omega), jadd_id (by omega) (by omega), ← e, show ((j + 1 : Nat) : Int) = (j : Int) + 1 by omega]
      rfl
theorem t_ak_5 (d : Nat) {G : jG} {T : Int → Int} {r s a : Int} (hG : GG G) (hr : 1 ≤ r) (hr9 : r ≤ 99) (hs0 : 0 ≤ s) (hs : s ≤ 68) (ha : a ≤ 100000) (hT : ∀ c, 0 ≤ T c ∧ T c ≤ 100000000) (hneg : ∀ c, c < 0 → T c = 0) : ∀ (m : Nat) (X : jX) (b : Int) (u4 u6 : jV), u4.1 = 2 ∨ u4.1 = 1 → u6.1 = 2 ∨ u6.1 = 0 → b + 1 = m → b ≤ a → (∀ c, 0 ≤ c → c ≤ b → X 203 c = T c) → (∀ c, b < c → c ≤ a → X 203 c = cv r s T c) → ∃ X', jN d 292 5 [(22, 149), (0, r), (0, s), (0, b), u4, (2, -1), u6] [] (G, X) = some (0, (G, X')) ∧ (∀ c, 0 ≤ c → c ≤ a → X' 203 c = cv r s T c) ∧ ∀ k, k ≠ 203 → X' k = X k := by
  intro m
  induction m with
  | zero =>
    intro X b u4 u6 h4 h6 h0 h1 h2 h3
    refine ⟨X, ?_, fun c c0 c1 => h3 c (by omega) c1, fun _ _ => rfl⟩
    rw [h_X12_addsKind_5 _ _ _ _ _ _ h4 _ h6, if_pos (by omega)]
  | succ m ih =>
    intro X b u4 u6 h4 h6 h0 h1 h2 h3
    obtain ⟨v6, e⟩ := t_ak_15 d (X := X) (b := b) hG hr hr9 hs0 hs (by omega) (by omega) hT hneg h2 (s + 1).toNat 0 (by omega)
    obtain ⟨X', e', c', f'⟩ := ih (jup X 203 b (cv r s T b)) (b - 1) (1, cv r s T b) (0, v6) (Or.inr rfl) (Or.inr rfl) (by omega) (by omega) (fun c c0 c1 => by rw [jup_row _ _ _ _ _ (by omega)]; exact h2 c c0 (by omega)) (fun c c0 c1 => by
      by_cases z : c = b
      · rw [z, jup_same]
      · rw [jup_row _ _ _ _ _ z]; exact h3 c (by omega) c1)
    refine ⟨X', ?_, c', fun k hk => by rw [f' k hk, jup_rw _ _ _ _ _ hk]⟩
    rw [h_X12_addsKind_5 _ _ _ _ _ _ h4 _ h6, if_neg (by omega)]
    exact e.trans e'
theorem t_lw_2 (d : Nat) {G : jG} (a i : Int) (hG : GG G) (ha0 : 0 ≤ a) (ha : a ≤ 100000) : ∀ (m : Nat) (X : jX) (v : Int), v + m = a + 1 → 0 ≤ v → (∀ c, 0 ≤ c → c < v → X 203 c = 0) → ∃ X', jN d 291 2 [(22, 149), (0, a), (0, i), (0, v)] [] (G, X) = jN d 291 34 [(22, 149), (0, a), (0, i), (0, 0)] [] (G, X') ∧ (∀ c, 0 ≤ c → c ≤ a → X' 203 c = dlt c) ∧ X' 149 84 = a ∧ (∀ k, k ≠ 203 → k ≠ 149 → X' k = X k) ∧ ∀ j, j ≠ 84 → X' 149 j = X 149 j := by
  intro m
  induction m with
  | zero =>
    intro X v h0 h1 h2
    refine ⟨_, ?_, fun c c0 c1 => ?_, jup_same (jup X 203 0 1) 149 84 a, fun k k0 k1 => by rw [jup_rw _ _ _ _ _ k1, jup_rw _ _ _ _ _ k0], fun j hj => by rw [jup_row _ _ _ _ _ hj, jup_rw _ _ _ _ _ (by omega)]⟩
    · rw [h_X12_laysWays_2, if_pos (by omega), gr_149_83 hG, gl_203 hG]
      simp only [Int.reduceLE, Int.reduceLT, reduceIte]
    · rw [jup_rw _ _ _ _ _ (by omega)]
      unfold dlt
      by_cases q : c = 0
      · rw [if_pos q, q, jup_same]
      · rw [if_neg q, jup_row _ _ _ _ _ q]; exact h2 c c0 (by omega)
  | succ m ih =>
    intro X v h0 h1 h2
    obtain ⟨X', e, c1, c2, f1, f2⟩ := ih (jup X 203 v 0) (v + 1) (by omega) (by omega) (fun c c0 c1 => by
      by_cases z : c = v
      · rw [z, jup_same]
      · rw [jup_row _ _ _ _ _ z]; exact h2 c c0 (by omega))
    refine ⟨X', ?_, c1, c2, fun k k0 k1 => by rw [f1 k k0 k1, jup_rw _ _ _ _ _ k0], fun j hj => by rw [f2 j hj, jup_rw _ _ _ _ _ (by omega)]⟩
    rw [h_X12_laysWays_2, if_neg (by omega), gr_149_83 hG, gl_203 hG, jadd_id (by omega) (by omega)]
    simp only [Int.reduceLE, reduceIte]
    rw [if_pos h1, if_pos (by omega)]
    exact e
theorem t_lw_34 (d : Nat) {G : jG} {P : aP} {γ : aG} {K : Nat} (a i : Int) (hG : GG G) (hO : pOk P) (hg : gOk P γ) (hK : (K : Int) = pK P) (ha0 : 0 ≤ a) (ha : a ≤ 100000) : ∀ (m : Nat) (X : jX) (k : Nat), k + m = K → mPlan X P → mGr X 190 0 γ → X 149 84 = a → (∀ c, 0 ≤ c → c ≤ a → X 203 c = eS (tR P) (tS γ) i k c) → ∃ X', jN (d + 1) 291 34 [(22, 149), (0, a), (0, i), (0, (k : Int))] [] (G, X) = some (0, (G, X')) ∧ (∀ c, 0 ≤ c → c ≤ a → X' 203 c = eS (tR P) (tS γ) i K c) ∧ ∀ k, k ≠ 203 → X' k = X k := by
  have hn := pOk_n hO
  intro m
  induction m with
  | zero =>
    intro X k h1 hP hγ h84 hX
    refine ⟨X, ?_, by rw [← show k = K by omega]; exact hX, fun _ _ => rfl⟩
    rw [h_X12_laysWays_34, t_kindMany d hG hP]
    simp only [Option.bind_some, Int.reduceLE, reduceIte]
    rw [if_neg (by omega)]
  | succ m ih =>
    intro X k h1 hP hγ h84 hX
    rw [h_X12_laysWays_34, t_kindMany d hG hP]
    simp only [Option.bind_some, Int.reduceLE, reduceIte]
    rw [if_pos (by omega), show jadd (k : Int) 1 = ((k + 1 : Nat) : Int) by rw [jadd_id (by omega) (by omega)]; omega]
    have hr := tR_le hO k
    have hs := tS_le hg k
    have eR : rsO P k = tR P k := by unfold rsO tR; rw [if_neg (by omega), if_pos (by omega)]
    have eT : gSt γ k = tS γ k := by unfold tS; rw [if_pos (by omega)]
    by_cases q : (k : Int) = i
    · rw [if_pos q]
      exact ih X (k + 1) (by omega) hP hγ h84 (fun c c0 c1 => by rw [hX c c0 c1]; show _ = (if (k : Int) = i then eS (tR P) (tS γ) i k else _) c; rw [if_pos q])
    · rw [if_neg q, t_restOf d k hG hP hO (by omega) (by omega)]
      simp only [Option.bind_some]
      rw [t_tubsOf d k hG hγ (by omega) (by omega)]
      simp only [Option.bind_some]
      rw [e_X12_addsKind, h84, eR, eT]
      simp only [Int.reduceLE, reduceIte]
      have hub : ∀ c, 0 ≤ eS (tR P) (tS γ) i k c ∧ eS (tR P) (tS γ) i k c ≤ 100000000 := fun c => by
        have h1 := eS_nn (tR P) (tS γ) i k c
        have h2 := eS_ub (R := tR P) (S := tS γ) (i := i) k c (by omega) (fun j _ _ => tS_le hg j)
        have h3 : p69 k ≤ 100000000 := p69_4 k (by omega)
        omega
      obtain ⟨X1, e1, c1, f1⟩ := t_ak_5 d (T := eS (tR P) (tS γ) i k) (r := tR P k) (s := tS γ k) hG hr.1 hr.2 hs.1 hs.2 ha hub (fun c hc => eS_neg (fun j => by have := tR_le hO j; omega) k c hc) (a + 1).toNat X a (2, -1) (2, -1) (Or.inl rfl) (Or.inl rfl) (by omega) (Int.le_refl a) hX (fun c c0 c1 => by omega)
      rw [e1]
      simp only [Option.bind_some]
      obtain ⟨X', e', c', f'⟩ := ih X1 (k + 1) (by omega) (mPlan_fr (fun a h1 h2 => f1 a (by omega)) (by rw [f1 149 (by omega)]) hP) (mGr_fr (f1 190 (by omega)) hγ) (by rw [f1 149 (by omega)]; exact h84) (fun c c0 c1' => by rw [c1 c c0 c1']; show _ = (if (k : Int) = i then eS (tR P) (tS γ) i k else cv (tR P k) (tS γ k) (eS (tR P) (tS γ) i k)) c; rw [if_neg q])
      exact ⟨X', e', c', fun k hk => by rw [f' k hk, f1 k hk]⟩
theorem t_lw (d : Nat) {G : jG} {X : jX} {P : aP} {γ : aG} {K : Nat} (a i : Int) (hG : GG G) (hP : mPlan X P) (hO : pOk P) (hg : gOk P γ) (hγ : mGr X 190 0 γ) (hK : (K : Int) = pK P) (ha0 : 0 ≤ a) (ha : a ≤ 100000) : ∃ X', jD (d + 2) 291 [(22, 149), (0, a), (0, i)] (G, X) = some (0, (G, X')) ∧ (∀ c, 0 ≤ c → c ≤ a → X' 203 c = eS (tR P) (tS γ) i K c) ∧ (∀ k, k ≠ 203 → k ≠ 149 → X' k = X k) ∧ ∀ j, j ≠ 84 → X' 149 j = X 149 j := by
  obtain ⟨X1, e1, c1, c2, f1, f2⟩ := t_lw_2 (d + 1) a i hG ha0 ha (a + 1).toNat X 0 (by omega) (by omega) (fun c c0 c1 => by omega)
  obtain ⟨X', e', c', f'⟩ := t_lw_34 d (γ := γ) a i hG hO hg hK ha0 ha K X1 0 (by omega) (mPlan_fr (fun a h1 h2 => f1 a (by omega) (by omega)) (f2 51 (by omega)) hP) (mGr_fr (f1 190 (by omega) (by omega)) hγ) c2 c1
  refine ⟨X', ?_, c', fun k k0 k1 => by rw [f' k k0, f1 k k0 k1], fun j hj => by rw [f' 149 (by omega), f2 j hj]⟩
  rw [e_X12_laysWays]
  exact e1.trans e'
