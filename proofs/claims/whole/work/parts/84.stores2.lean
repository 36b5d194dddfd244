def vld (P : aP) (K : Nat) (t : Int → Int) : Prop := ∀ j : Nat, j < K → vst P t j
theorem vst_cong {P : aP} {s t : Int → Int} {k : Nat} (h : ∀ j : Int, 0 ≤ j → j ≤ k → t j = s j) (hs : vst P s k) : vst P t k := by
  have hk := h k (by omega) (by omega)
  refine ⟨by rw [hk]; exact hs.1, by rw [hk, usd_cong k (fun j j0 j1 => h j j0 (by omega))]; exact hs.2.1, fun j j0 j1 j2 => hs.2.2 j j0 j1 ?_⟩
  rw [← h j j0 (by omega), j2, hk]
theorem vld_id {P : aP} {K : Nat} : vld P K (fun j => j) ∧ ∀ k : Nat, usd (fun j => j) k = k := by
  have h : ∀ k : Nat, usd (fun j => j) k = k := by
    intro k
    induction k with
    | zero => rfl
    | succ k ih =>
      show (if usd (fun j => j) k < (k : Int) + 1 then (k : Int) + 1 else usd (fun j => j) k) = _
      rw [ih, if_pos (by omega)]; omega
  exact ⟨fun j _ => ⟨by dsimp only; omega, by rw [h]; exact Int.le_refl _, fun i i0 i1 i2 => by dsimp only at i2; omega⟩, h⟩
theorem s_share_n (d : Nat) {G : jG} {P : aP} {K : Nat} (hG : GG G) (hO : pOk P) (hK : (K : Int) = pK P) : ∀ (m : Nat) (X : jX) (v : Int), v + m = 5 → 0 ≤ v → cPlan X P → ∃ X' n, jN (d + K + 3) 134 2 [(19, 140), (0, v)] [] (G, X) = some (n, (G, X')) ∧ (∀ a, a ≠ 141 → X' a = X a) ∧ v ≤ n ∧ n ≤ 5 ∧ (∃ t, vld P K t ∧ (∀ j : Int, 0 ≤ j → j < K → t j < n ∧ X' 141 j = t j) ∧ ∀ t', vld P K t' → (∀ j : Int, 0 ≤ j → j < K → t' j < n) → cod t K ≤ cod t' K) ∧ ∀ e, v ≤ e → e < n → ∀ t', vld P K t' → ¬ ∀ j : Int, 0 ≤ j → j < K → t' j < e := by
  have hn := pOk_n hO
  have up : ∀ n t', vld P K t' → (∀ j : Int, 0 ≤ j → j < K → t' j < n) → ext P n K 0 (fun _ => 0) t' ∧ (0 < K → (0 : Int) ≤ t' ((0 : Nat) : Int)) := fun n t' h1 h2 => ⟨⟨fun j j0 j1 => by omega, fun j _ j1 => ⟨h1 j j1, h2 j (by omega) (by omega)⟩⟩, fun h => (h1 0 h).1⟩
  have dn : ∀ n t, ext P n K 0 (fun _ => 0) t → vld P K t ∧ ∀ j : Int, 0 ≤ j → j < K → t j < n := fun n t h => ⟨fun j hj => (h.2 j (Nat.zero_le j) hj).1, fun j j0 j1 => by
    have := (h.2 j.toNat (Nat.zero_le _) (by omega)).2
    rw [show ((j.toNat : Nat) : Int) = j by omega] at this
    exact this⟩
  have one : ∀ (X : jX) (n : Int), n ≤ 5 → cPlan X P → ∃ X' r, jD (d + K + 3) 136 [(19, 140), (0, 0), (0, 0), (0, n)] (G, X) = some (r, (G, X')) ∧ (∀ a, a ≠ 141 → X' a = X a) ∧ ((r = 1 ∧ ∃ t, vld P K t ∧ (∀ j : Int, 0 ≤ j → j < K → t j < n ∧ X' 141 j = t j) ∧ ∀ t', vld P K t' → (∀ j : Int, 0 ≤ j → j < K → t' j < n) → cod t K ≤ cod t' K) ∨ (r = 0 ∧ ∀ t', vld P K t' → ¬ ∀ j : Int, 0 ≤ j → j < K → t' j < n)) := by
    intro X n h5 hP
    obtain ⟨X', r, e, f, p⟩ := s_place hG hO hK h5 K d 0 X (fun _ => 0) (by omega) hP (fun j j0 j1 => by omega)
    refine ⟨X', r, e, f, ?_⟩
    rcases p with ⟨h1, t, h2, h3, h4⟩ | ⟨h1, h2, h3⟩
    · exact Or.inl ⟨h1, t, (dn n t h2).1, fun j j0 j1 => ⟨(dn n t h2).2 j j0 j1, h3 j j0 j1⟩, fun t' a b => h4 t' (up n t' a b).1 (up n t' a b).2⟩
    · exact Or.inr ⟨h1, fun t' a b => h2 t' (up n t' a b).1 (up n t' a b).2⟩
  intro m
  induction m with
  | zero =>
    intro X v h0 h1 hP
    obtain ⟨X', r, e, f, p⟩ := one X 5 (by omega) hP
    refine ⟨X', 5, ?_, f, by omega, by omega, ?_, fun e e0 e1 => by omega⟩
    · rw [h_X9_share_2, if_neg (by omega), e]
      simp only [Option.bind_some, Int.reduceLE, reduceIte]
    · rcases p with ⟨_, p⟩ | ⟨_, p⟩
      · exact p
      · exact absurd (show ∀ j : Int, 0 ≤ j → j < K → (fun j : Int => j) j < 5 from fun j j0 j1 => by show j < 5; omega) (p _ (vld_id (P := P) (K := K)).1)
  | succ m ih =>
    intro X v h0 h1 hP
    obtain ⟨X1, r, e, f, p⟩ := one X v (by omega) hP
    rw [h_X9_share_2, if_pos (by omega), e]
    simp only [Option.bind_some, Int.reduceLE, reduceIte]
    rcases p with ⟨h, p⟩ | ⟨h, p⟩
    · rw [h, if_neg (show ¬ (1 : Int) = 0 by omega)]
      exact ⟨X1, v, rfl, f, by omega, by omega, p, fun e e0 e1 => by omega⟩
    · rw [h, if_pos rfl, jadd_id (by omega) (by omega)]
      obtain ⟨X', n, e', f', h2, h3, h4, h5⟩ := ih X1 (v + 1) (by omega) (by omega) (cPlan_fr (fun a h1 h2 => f a (by omega)) hP)
      refine ⟨X', n, e', fun a ha => by rw [f' a ha, f a ha], by omega, h3, h4, fun e e0 e1 => ?_⟩
      by_cases q : e = v
      · rw [q]; exact p
      · exact h5 e (by omega) e1
/-! the reference -/
def dgs : Nat → Int → Int → Int
  | 0, _, _ => 0
  | k + 1, c, j => if j = k then c % 5 else dgs k (c / 5) j
theorem dgs_le : ∀ (k : Nat) (c j : Int), 0 ≤ dgs k c j ∧ dgs k c j ≤ 4
  | 0, _, _ => ⟨Int.le_refl 0, by show (0 : Int) ≤ 4; omega⟩
  | k + 1, c, j => by
    have := dgs_le k (c / 5) j
    show 0 ≤ (if j = k then c % 5 else dgs k (c / 5) j) ∧ (if j = k then c % 5 else dgs k (c / 5) j) ≤ 4
    split <;> omega
theorem cod_dgs : ∀ (k : Nat) (c : Int), 0 ≤ c → c < 5 ^ k → cod (dgs k c) k = c
  | 0, c, h0, h1 => by
    rw [Int.pow_zero] at h1
    show 0 = c
    omega
  | k + 1, c, h0, h1 => by
    rw [Int.pow_succ] at h1
    show 5 * cod (dgs (k + 1) c) k + (if (k : Int) = k then c % 5 else dgs k (c / 5) k) = c
    rw [if_pos rfl, cod_cong (s := dgs k (c / 5)) k (fun j j0 j1 => by show (if j = k then c % 5 else dgs k (c / 5) j) = _; rw [if_neg (by omega)]), cod_dgs k (c / 5) (by omega) (by omega)]
    omega
theorem dgs_cod : ∀ (k : Nat) (s : Int → Int), (∀ j : Int, 0 ≤ j → j < k → 0 ≤ s j ∧ s j ≤ 4) → ∀ j : Int, 0 ≤ j → j < k → dgs k (cod s k) j = s j
  | 0, _, _, j, j0, j1 => by omega
  | k + 1, s, h, j, j0, j1 => by
    have hk := h k (by omega) (by omega)
    show (if j = k then (5 * cod s k + s k) % 5 else dgs k ((5 * cod s k + s k) / 5) j) = s j
    rw [show (5 * cod s k + s k) % 5 = s k by omega, show (5 * cod s k + s k) / 5 = cod s k by omega]
    by_cases q : j = k
    · rw [if_pos q, q]
    · rw [if_neg q, dgs_cod k s (fun i i0 i1 => h i i0 (by omega)) j j0 (by omega)]
theorem cod_in : ∀ (k : Nat) (s : Int → Int), (∀ j : Int, 0 ≤ j → j < k → 0 ≤ s j ∧ s j ≤ 4) → 0 ≤ cod s k ∧ cod s k < 5 ^ k
  | 0, _, _ => ⟨Int.le_refl 0, by rw [Int.pow_zero]; show (0 : Int) < 1; omega⟩
  | k + 1, s, h => by
    have ih := cod_in k s (fun i i0 i1 => h i i0 (by omega))
    have hk := h k (by omega) (by omega)
    rw [Int.pow_succ]
    show 0 ≤ 5 * cod s k + s k ∧ 5 * cod s k + s k < _
    omega
noncomputable def stF (P : aP) (K : Nat) : Nat → Int → Int → Int
  | 0, _, b => b
  | m + 1, c, b => stF P K m (c + 1) (@ite Int (vld P K (dgs K c) ∧ (b = -1 ∨ usd (dgs K c) K < usd (dgs K b) K)) (Classical.propDecidable _) c b)
def stI (P : aP) (K : Nat) (c b : Int) : Prop := (b = -1 ∧ ∀ e, 0 ≤ e → e < c → ¬ vld P K (dgs K e)) ∨ (0 ≤ b ∧ b < c ∧ vld P K (dgs K b) ∧ (∀ e, 0 ≤ e → e < c → vld P K (dgs K e) → usd (dgs K b) K ≤ usd (dgs K e) K) ∧ ∀ e, 0 ≤ e → e < b → vld P K (dgs K e) → usd (dgs K b) K < usd (dgs K e) K)
theorem stF_ok {P : aP} {K : Nat} : ∀ (m : Nat) (c b : Int), 0 ≤ c → stI P K c b → stI P K (c + m) (stF P K m c b)
  | 0, c, b, _, h => by rw [show c + ((0 : Nat) : Int) = c by omega]; exact h
  | m + 1, c, b, h0, h => by
    show stI P K (c + ((m + 1 : Nat) : Int)) (stF P K m (c + 1) (@ite Int (vld P K (dgs K c) ∧ (b = -1 ∨ usd (dgs K c) K < usd (dgs K b) K)) (Classical.propDecidable _) c b))
    rw [show c + ((m + 1 : Nat) : Int) = c + 1 + m by omega]
    refine stF_ok m (c + 1) _ (by omega) ?_
    by_cases q : vld P K (dgs K c) ∧ (b = -1 ∨ usd (dgs K c) K < usd (dgs K b) K)
    · rw [if_pos q]
      refine Or.inr ⟨h0, by omega, q.1, fun e e0 e1 hv => ?_, fun e e0 e1 hv => ?_⟩
      · by_cases z : e = c
        · rw [z]; exact Int.le_refl _
        · rcases h with ⟨h1, h2⟩ | ⟨h1, h2, h3, h4, h5⟩
          · exact absurd hv (h2 e e0 (by omega))
          · have a1 := h4 e e0 (by omega) hv
            rcases q.2 with w | w
            · omega
            · omega
      · rcases h with ⟨h1, h2⟩ | ⟨h1, h2, h3, h4, h5⟩
        · exact absurd hv (h2 e e0 (by omega))
        · have a1 := h4 e e0 (by omega) hv
          rcases q.2 with w | w
          · omega
          · omega
    · rw [if_neg q]
      rcases h with ⟨h1, h2⟩ | ⟨h1, h2, h3, h4, h5⟩
      · refine Or.inl ⟨h1, fun e e0 e1 hv => ?_⟩
        by_cases z : e = c
        · rw [z] at hv; exact q ⟨hv, Or.inl h1⟩
        · exact h2 e e0 (by omega) hv
      · refine Or.inr ⟨h1, by omega, h3, fun e e0 e1 hv => ?_, h5⟩
        by_cases z : e = c
        · rw [z] at hv ⊢
          have : ¬ usd (dgs K c) K < usd (dgs K b) K := fun w => q ⟨hv, Or.inr w⟩
          omega
        · exact h4 e e0 (by omega) hv
/-- the one code -/
noncomputable def stB (P : aP) : Int := stF P (pK P).toNat (5 ^ (pK P).toNat) 0 (-1)
theorem stB_is {P : aP} {K : Nat} (hK : (K : Int) = pK P) (h5 : K ≤ 5) {n : Int} {t : Int → Int} (hn0 : 0 ≤ n) (hn : n ≤ 5) (h1 : vld P K t) (h2 : ∀ j : Int, 0 ≤ j → j < K → t j < n) (h3 : ∀ t', vld P K t' → (∀ j : Int, 0 ≤ j → j < K → t' j < n) → cod t K ≤ cod t' K) (h4 : ∀ e, 0 ≤ e → e < n → ∀ t', vld P K t' → ¬ ∀ j : Int, 0 ≤ j → j < K → t' j < e) : 0 ≤ stB P ∧ usd (dgs K (stB P)) K = n ∧ ∀ j : Int, 0 ≤ j → j < K → t j = dgs K (stB P) j := by
  have eK : (pK P).toNat = K := by omega
  have td : ∀ j : Int, 0 ≤ j → j < K → 0 ≤ t j ∧ t j ≤ 4 := fun j j0 j1 => by
    have a1 := (h1 j.toNat (by omega)).1
    rw [show ((j.toNat : Nat) : Int) = j by omega] at a1
    have := h2 j j0 j1
    omega
  have hc := cod_in K t td
  have hd := dgs_cod K t td
  have hv : vld P K (dgs K (cod t K)) := fun j hj => vst_cong (fun i i0 i1 => hd i i0 (by omega)) (h1 j hj)
  have hu : usd (dgs K (cod t K)) K = usd t K := usd_cong K hd
  have hut : usd t K ≤ n := usd_le hn0 K h2
  have ok := stF_ok (P := P) (K := K) (5 ^ K) 0 (-1) (Int.le_refl 0) (Or.inl ⟨rfl, fun e e0 e1 => by omega⟩)
  have eN : ((5 ^ K : Nat) : Int) = 5 ^ K := by simp
  rw [Int.zero_add, eN] at ok
  unfold stB
  rw [eK]
  rcases ok with ⟨_, k2⟩ | ⟨k1, k2, k3, k4, k5⟩
  · exact absurd hv (k2 _ hc.1 hc.2)
  · generalize stF P K (5 ^ K) 0 (-1) = b at k1 k2 k3 k4 k5 ⊢
    have a1 := k4 _ hc.1 hc.2 hv
    have a2 : n ≤ usd (dgs K b) K := by
      rcases Int.lt_or_le (usd (dgs K b) K) n with w | w
      · exact absurd (fun j j0 j1 => usd_lt K j j0 j1) (h4 _ (usd_0 K) w _ k3)
      · exact w
    have a3 : usd (dgs K b) K = n := by omega
    have a4 := h3 _ k3 (fun j j0 j1 => by have := usd_lt (s := dgs K b) K j j0 j1; omega)
    rw [cod_dgs K b k1 k2] at a4
    have a5 : cod t K = b := by
      rcases Int.lt_or_le (cod t K) b with w | w
      · have := k5 _ hc.1 w hv
        omega
      · omega
    refine ⟨k1, a3, fun j j0 j1 => ?_⟩
    rw [← a5, hd j j0 j1]
