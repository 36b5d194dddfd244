/-! PIT: the reference finds names -/
theorem nam_congr {f g : Int → Int} : ∀ n : Nat, (∀ j : Nat, j < n → f j = g j) → nam f n = nam g n := by
  intro n
  induction n with
  | zero => intro _; rfl
  | succ n ih =>
    intro h
    show (if f n = 0 then nam f n else 27 * nam f n + f n) = if g n = 0 then nam g n else 27 * nam g n + g n
    rw [ih (fun j hj => h j (by omega)), h n (by omega)]
theorem nam_dig {f g : Int → Int} : ∀ n m : Nat, (∀ j : Nat, j < n → 1 ≤ f j ∧ f j ≤ 26) → (∀ j : Nat, j < m → 1 ≤ g j ∧ g j ≤ 26) → nam f n = nam g m → n = m ∧ ∀ j : Nat, j < n → f j = g j := by
  have pos : ∀ (f : Int → Int) (n : Nat), (∀ j : Nat, j < n → 1 ≤ f j ∧ f j ≤ 26) → 0 ≤ nam f n := by
    intro f n
    induction n with
    | zero => intro _; exact Int.le_refl 0
    | succ n ih =>
      intro h
      have := ih (fun j hj => h j (by omega))
      have := h n (by omega)
      show 0 ≤ if f n = 0 then nam f n else 27 * nam f n + f n
      rw [if_neg (by omega)]; omega
  intro n
  induction n with
  | zero =>
    intro m hf hg e
    cases m with
    | zero => exact ⟨rfl, fun j hj => by omega⟩
    | succ m =>
      have e' : 0 = if g m = 0 then nam g m else 27 * nam g m + g m := e
      have := hg m (by omega)
      have := pos g m (fun j hj => hg j (by omega))
      rw [if_neg (by omega)] at e'
      omega
  | succ n ih =>
    intro m hf hg e
    have h1 := hf n (by omega)
    have p1 := pos f n (fun j hj => hf j (by omega))
    cases m with
    | zero =>
      have e' : (if f n = 0 then nam f n else 27 * nam f n + f n) = 0 := e
      rw [if_neg (by omega)] at e'
      omega
    | succ m =>
      have h2 := hg m (by omega)
      have e' : (if f n = 0 then nam f n else 27 * nam f n + f n) = if g m = 0 then nam g m else 27 * nam g m + g m := e
      rw [if_neg (by omega), if_neg (by omega)] at e'
      obtain ⟨a1, a2⟩ := ih m (fun j hj => hf j (by omega)) (fun j hj => hg j (by omega)) (by omega)
      refine ⟨by omega, fun j hj => ?_⟩
      by_cases q : j = n
      · subst q; subst a1; omega
      · exact a2 j (by omega)
theorem nmO_len {f : Int → Int} (h : nmO f) : ∃ L : Nat, L ≤ 6 ∧ (∀ j : Nat, j < L → 1 ≤ f j ∧ f j ≤ 26) ∧ (∀ j : Nat, L ≤ j → j < 6 → f j = 0) ∧ nam f 6 = nam f L := by
  have go : ∀ m n : Nat, n + m = 6 → (∀ j : Nat, j < n → 1 ≤ f j ∧ f j ≤ 26) → ∃ L : Nat, L ≤ 6 ∧ (∀ j : Nat, j < L → 1 ≤ f j ∧ f j ≤ 26) ∧ (∀ j : Nat, L ≤ j → j < 6 → f j = 0) := by
    intro m
    induction m with
    | zero => intro n hn hj; exact ⟨n, by omega, hj, fun j a b => by omega⟩
    | succ m ih =>
      intro n hn hj
      have hb := h.2 n (by omega) (by omega)
      by_cases q : f n = 0
      · exact ⟨n, by omega, hj, fun j a b => hb.2.2 q j (by omega) (by omega)⟩
      · exact ih (n + 1) (by omega) (fun j hj' => by
          by_cases y : j = n
          · subst y; omega
          · exact hj j (by omega))
  obtain ⟨L, h1, h2, h3⟩ := go 6 0 rfl (fun j hj => by omega)
  refine ⟨L, h1, h2, h3, ?_⟩
  have := nam_cut (f := f) (n := L) (6 - L) (fun j a b => h3 j a (by omega))
  rw [show L + (6 - L) = 6 by omega] at this
  exact this
theorem nam_inj {f g : Int → Int} (hf : nmO f) (hg : nmO g) : nam f 6 = nam g 6 ↔ same6 f g = true := by
  rw [same6_iff]
  constructor
  · intro e
    obtain ⟨n, a1, a2, a3, a4⟩ := nmO_len hf
    obtain ⟨m, b1, b2, b3, b4⟩ := nmO_len hg
    rw [a4, b4] at e
    obtain ⟨c1, c2⟩ := nam_dig n m a2 b2 e
    intro t t0 t1
    obtain ⟨k, rfl⟩ : ∃ k : Nat, t = k := ⟨t.toNat, by omega⟩
    by_cases q : k < n
    · exact c2 k q
    · rw [a3 k (by omega) (by omega), b3 k (by omega) (by omega)]
  · intro h
    exact nam_congr 6 (fun j hj => h j (by omega) (by omega))
theorem lcmp0 (a b : Int) : lCmp a b = 0 ↔ a = b := by unfold lCmp; grind
theorem t_kindOf_n (d : Nat) {G : jG} {X : jX} (hG : GG G) (K v : Int) (f : Int → Int → Int) (hK : X 181 2 = K) (hK5 : K ≤ 5) (hf : ∀ k, 0 ≤ k → k < K → X 182 k = nam (f k) 6 ∧ nmO (f k)) : ∀ (m : Nat) (i : Int), i + m = K → 0 ≤ i → ∃ r, jN d 204 2 [(22, 149), (1, v), (2, (-1)), (0, i)] [] (G, X) = some (r, (G, X)) ∧ ∀ g, nmO g → v = nam g 6 → r = fndN f g m i := by
  intro m
  induction m with
  | zero =>
    intro i hi i0
    refine ⟨-1, ?_, fun g _ _ => rfl⟩
    rw [h_X12_kindOf_2, gr_149_40 hG, gl_181 hG, hK]
    simp only [Int.reduceLE, Int.reduceLT, reduceIte]
    rw [if_neg (by omega)]
  | succ m ih =>
    intro i hi i0
    obtain ⟨h1, h2⟩ := hf i i0 (by omega)
    obtain ⟨r, a1, a2⟩ := ih (i + 1) (by omega) (by omega)
    rw [h_X12_kindOf_2, gr_149_40 hG, gr_149_41 hG, gl_181 hG, gl_182 hG, hK, h1]
    simp only [Int.reduceLE, Int.reduceLT, reduceIte]
    rw [if_pos (by omega), if_pos i0, if_pos (by omega), jadd_id (by omega) (by omega)]
    by_cases q : nam (f i) 6 = v
    · rw [if_pos ((lcmp0 _ _).2 q)]
      refine ⟨i, rfl, fun g hg hv => ?_⟩
      show i = if same6 (f i) g = true then i else fndN f g m (i + 1)
      rw [if_pos ((nam_inj h2 hg).1 (by omega))]
    · rw [if_neg (fun y => q ((lcmp0 _ _).1 y))]
      refine ⟨r, a1, fun g hg hv => ?_⟩
      show r = if same6 (f i) g = true then i else fndN f g m (i + 1)
      rw [if_neg (fun y => q (by rw [hv]; exact (nam_inj h2 hg).2 y))]
      exact a2 g hg hv
theorem t_kindOf (d : Nat) {G : jG} {X : jX} (hG : GG G) (K v : Int) (f : Int → Int → Int) (hK : X 181 2 = K) (hK0 : 0 ≤ K) (hK5 : K ≤ 5) (hf : ∀ k, 0 ≤ k → k < K → X 182 k = nam (f k) 6 ∧ nmO (f k)) : ∃ r, jD (d + 1) 204 [(22, 149), (1, v)] (G, X) = some (r, (G, X)) ∧ ∀ g, nmO g → v = nam g 6 → r = fnd f K g := by
  rw [e_X12_kindOf]
  exact t_kindOf_n d hG K v f hK hK5 hf K.toNat 0 (by omega) (by omega)
/-- houses, from i on: whether a fault comes -/
theorem t_newHo_n (d : Nat) {G : jG} (hG : GG G) (H v : Int) (f : Int → Int → Int) (hH5 : H ≤ 6) : ∀ (m : Nat) (X : jX) (i : Int), X 181 3 = H → (∀ k, 0 ≤ k → k < H → X 182 (6 + k) = nam (f k) 6 ∧ nmO (f k)) → i + m = H → 0 ≤ i → (X 149 5 ≠ 0 → jN (d + 1) 205 32 [(22, 149), (1, v), (2, (-1)), (0, i)] [] (G, X) = some (v, (G, X))) ∧ ∀ g, nmO g → v = nam g 6 → X 149 5 = 0 → jN (d + 1) 205 32 [(22, 149), (1, v), (2, (-1)), (0, i)] [] (G, X) = some (v, (G, if fndN f g m i = -1 then X else jup (jup X 149 5 3) 149 6 (X 149 39))) := by
  intro m
  induction m with
  | zero =>
    intro X i hH hf hi i0
    have e : jN (d + 1) 205 32 [(22, 149), (1, v), (2, (-1)), (0, i)] [] (G, X) = some (v, (G, X)) := by
      rw [h_X12_newName_32, gr_149_40 hG, gl_181 hG, hH]
      simp only [Int.reduceLE, Int.reduceLT, reduceIte]
      rw [if_neg (by omega)]
    exact ⟨fun _ => e, fun g _ _ _ => by rw [e]; show _ = some (v, (G, if (-1 : Int) = -1 then X else _)); rw [if_pos rfl]⟩
  | succ m ih =>
    intro X i hH hf hi i0
    obtain ⟨h1, h2⟩ := hf i i0 (by omega)
    obtain ⟨a1, a2⟩ := ih X (i + 1) hH hf (by omega) (by omega)
    have e := h_X12_newName_32 (d + 1) 149 v i G X
    rw [gr_149_40 hG, gr_149_41 hG, gl_181 hG, gl_182 hG, hH, jadd_id (a := 6) (b := i) (by omega) (by omega), jadd_id (a := i) (b := 1) (by omega) (by omega), h1] at e
    simp only [Int.reduceLE, Int.reduceLT, reduceIte] at e
    rw [if_pos (by omega), if_pos (show 0 ≤ 6 + i by omega), if_pos (show 6 + i < 24 by omega)] at e
    refine ⟨fun h5 => by rw [e, if_neg h5]; exact a1 h5, fun g hg hv h5 => ?_⟩
    rw [e, if_pos h5]
    show _ = some (v, (G, if (if same6 (f i) g = true then i else fndN f g m (i + 1)) = -1 then X else _))
    by_cases q : nam (f i) 6 = v
    · rw [if_pos ((lcmp0 _ _).2 q), t_fail d h5, if_pos ((nam_inj h2 hg).1 (by omega)), if_neg (by omega)]
      simp only [Option.bind_some]
      have f' : ∀ k, k ≠ 149 → jup (jup X 149 5 3) 149 6 (X 149 39) k = X k := fun k hk => by rw [jup_rw _ _ _ _ _ hk, jup_rw _ _ _ _ _ hk]
      exact (ih (jup (jup X 149 5 3) 149 6 (X 149 39)) (i + 1) (by rw [f' 181 (by omega)]; exact hH) (by rw [f' 182 (by omega)]; exact hf) (by omega) (by omega)).1 (by rw [jup_row _ _ _ _ _ (by omega), jup_same]; omega)
    · rw [if_neg (fun y => q ((lcmp0 _ _).1 y)), if_neg (show ¬ same6 (f i) g = true from fun y => q (by rw [hv]; exact (nam_inj h2 hg).2 y))]
      exact a2 g hg hv h5
