def T00 : bT := fun _ => (-1, [])
theorem t_sb_0 (d : Nat) {G : jG} (hG : GG G) (v : Int) : ∀ (m : Nat) (X : jX) (i : Int), 0 ≤ i → i + m = 5 → ∃ X', jN d 264 2 [(22, 149), (0, v), (0, i), (2, (-1)), (2, (-1))] [] (G, X) = jN d 264 2 [(22, 149), (0, v), (0, 5), (2, (-1)), (2, (-1))] [] (G, X') ∧ (∀ k, k ≠ 196 → X' k = X k) ∧ ∀ j, X' 196 j = if i ≤ j ∧ j < 5 then -1 else X 196 j := by
  intro m
  induction m with
  | zero =>
    intro X i i0 i1
    exact ⟨X, by rw [show i = 5 by omega], fun _ _ => rfl, fun j => by rw [if_neg (by omega)]⟩
  | succ m ih =>
    intro X i i0 i1
    obtain ⟨X', e, a1, a2⟩ := ih (jup X 196 i (-1)) (i + 1) (by omega) (by omega)
    refine ⟨X', ?_, fun a ha => by rw [a1 a ha, jup_rw _ _ _ _ _ ha], fun j => ?_⟩
    · rw [h_X12_seeksBest_2, if_pos (by omega), gr_149_72 hG, gl_196 hG, jadd_id (by omega) (by omega)]
      simp only [Int.reduceLE, reduceIte]
      rw [if_pos i0, if_pos (by omega)]
      exact e
    · rw [a2 j]
      by_cases q : j = i
      · rw [if_neg (by omega), if_pos (by omega), q, jup_same]
      · rw [jup_row _ _ _ _ _ q]
        by_cases q2 : i + 1 ≤ j ∧ j < 5
        · rw [if_pos q2, if_pos (by omega)]
        · rw [if_neg q2, if_neg (by omega)]
theorem t_seeksBest (d : Nat) {G : jG} {X : jX} {P : aP} {γ : aG} {N : Nat} (hG : GG G) (hO : pOk P) (h1 : 1 ≤ N) (hN : N ≤ 3) (hP : mPlan X P) (hγ : mGr X 190 0 γ) (hgO : gOk P γ) : ∃ X', jD (d + 11) 264 [(22, 149), (0, (N : Int))] (G, X) = some (0, (G, X')) ∧ mT X' (tryM P N γ [] 0 T00) ∧ mGr X' 190 0 γ ∧ mfT X X' := by
  obtain ⟨X1, e1, f1, s1⟩ := t_sb_0 (d + 10) hG (N : Int) 5 X 0 (by omega) (by omega)
  have T1 : mfT X X1 := mfT_1 196 (by omega) f1
  obtain ⟨X2, e2, g2, f2, _⟩ := t_putsAside (d + 9) hG 0 (by omega) (by omega) (mGr_fr (f1 190 (by omega)) hγ)
  have T2 := mfT_t T1 (mfT_1 191 (by omega) f2)
  obtain ⟨X3, e3, s3, t3, _, _, f3, T3⟩ := t_opens (d + 2) hG (mfT_P T2 hP) hO 0 (by omega) (by omega) g2
  have T4 : mfT X (jup X3 195 0 0) := mfT_t T2 (mfT_t T3 (mfT_u 195 _ _ (by omega)))
  have g4 : mGr (jup X3 195 0 0) 191 (56 * ((0 : Nat) : Int)) γ := mGr_fr (by rw [jup_rw _ _ _ _ _ (by omega), f3 191 (by omega)]) g2
  obtain ⟨n, hn⟩ : ∃ n, N = n + 1 := ⟨N - 1, by omega⟩
  obtain ⟨X5, v3, v4, hv3, hv4, e5, b1, b2, b3, b4⟩ := t_seek d hG hO hN n 0 γ [] 0 (by omega) rfl (by omega) (by omega) hgO (pCe P).toNat (jup X3 195 0 0) 0 T00 (2, -1) (2, -1) (Or.inl rfl) (Or.inl rfl) (by omega) (by omega) (by omega) (mfT_P T4 hP) g4 (by rw [jup_rw _ _ _ _ _ (by omega)]; exact s3) (by rw [jup_rw _ _ _ _ _ (by omega)]; exact t3) (by rw [show ((0 : Nat) : Int) = 0 from rfl, jup_same]) (fun j hj => absurd hj (Nat.not_lt_zero j)) (fun k k1 k3 => by
    rw [jup_rw _ _ _ _ _ (by omega), jup_rw _ _ _ _ _ (by omega), f3 196 (by omega), f2 196 (by omega), s1, if_pos (by omega)]
    exact ⟨rfl, fun h => absurd rfl h⟩)
  obtain ⟨X6, e6, g6, f6⟩ := t_takesBack (d + 9) hG 0 (by omega) (by omega) (b3 0 γ (by omega) g4)
  have T6 := mfT_t (mfT_t T4 b4) (mfT_1 190 (by omega) f6)
  refine ⟨X6, ?_, mT_fr (f6 _ (by omega)) (f6 _ (by omega)) (by rw [hn]; exact b1), g6, T6⟩
  rw [e_X12_seeksBest, e1, h_X12_seeksBest_2, if_neg (by omega)]
  simp only [Int.reduceLE, reduceIte]
  rw [e2]
  simp only [Option.bind_some, Int.reduceLE, reduceIte]
  rw [e3]
  simp only [Option.bind_some, Int.reduceLE, reduceIte]
  rw [gr_149_71 hG, gl_195 hG]
  simp only [Int.reduceLE, Int.reduceLT, reduceIte]
  have e5' : jN (d + 10) 264 39 [(22, 149), (0, (N : Int)), (0, 0), (2, -1), (2, -1)] [] (G, jup X3 195 0 0) = jN (d + 10) 264 39 [(22, 149), (0, (N : Int)), (0, -1), v3, v4] [] (G, X5) := e5
  rw [e5', h_X12_seeksBest_39 _ _ _ _ v3 hv3 v4 hv4, if_pos (by omega)]
  simp only [Int.reduceLE, reduceIte]
  rw [e6]
  rfl
/-! the two tables: the class's one best, the reference's of each length -/
def rlT (acc : Int × Int × List Int) (T : bT) : Prop := 0 ≤ acc.1 ∧ (∀ k : Nat, acc.1 < k → (T k).1 = -1) ∧ (0 < acc.1 → T acc.1.toNat = acc.2 ∧ 0 ≤ acc.2.1)
theorem rlT_keep {acc : Int × Int × List Int} {T : bT} {p : List Int} {w : Int} (h1 : 1 ≤ p.length) (w0 : 0 ≤ w) (h : rlT acc T) : rlT (keepS p w acc) (brT T p w) := by
  obtain ⟨a0, a1, a2⟩ := h
  unfold keepS brT
  by_cases q : acc.1 < p.length ∨ (acc.1 = p.length ∧ acc.2.1 < w)
  · rw [if_pos q]
    refine ⟨by dsimp only; omega, fun k hk => ?_, fun _ => ⟨?_, w0⟩⟩
    · dsimp only at hk ⊢
      rw [if_neg (by omega)]
      exact a1 k (by omega)
    · dsimp only
      have hlt : (T p.length).1 < w := by
        rcases q with q | q
        · rw [a1 p.length q]; omega
        · have := (a2 (by omega)).1
          rw [show acc.1.toNat = p.length by omega] at this
          rw [this]; exact q.2
      rw [Int.toNat_natCast, if_pos ⟨rfl, hlt⟩]
  · rw [if_neg q]
    refine ⟨a0, fun k hk => ?_, fun hp => ⟨?_, (a2 hp).2⟩⟩
    · dsimp only
      rw [if_neg (by omega)]
      exact a1 k hk
    · dsimp only
      by_cases z : acc.1.toNat = p.length ∧ (T acc.1.toNat).1 < w
      · exfalso
        have := (a2 hp).1
        rw [this] at z
        exact q (Or.inr ⟨by omega, z.2⟩)
      · rw [if_neg z]; exact (a2 hp).1
theorem rlT_try {P : aP} (hO : pOk P) : ∀ (n : Nat) (g : aG) (p : List Int) (w : Int) (acc : Int × Int × List Int) (T : bT), 0 ≤ w → rlT (keepS p w acc) T → rlT (tryS P n g p w acc) (tryM P n g p w T)
  | 0, _, _, _, _, _, _, h => h
  | n + 1, g, p, w, acc, T, w0, h => by
    have key : ∀ (m : Nat) (i : Int) (a : Int × Int × List Int) (T : bT), 0 ≤ i → i + m ≤ pCe P → rlT a T → rlT (ovC (fun c a => if why P (gCe g) c = 0 ∧ ¬ pHo P < spn P (gCe g) c then tryS P n (cut1 P g c) (p ++ [c]) (w + wth P (gCe g) c) a else a) m i a) (ovC (fun c T => if why P (gCe g) c = 0 ∧ ¬ pHo P < spn P (gCe g) c then tryM P n (cut1 P g c) (p ++ [c]) (w + wth P (gCe g) c) (brT T (p ++ [c]) (w + wth P (gCe g) c)) else T) m i T) := by
      intro m
      induction m with
      | zero => intro i a T _ _ h; exact h
      | succ m ih =>
        intro i a T i0 i1 h
        refine ih (i + 1) _ _ (by omega) (by omega) ?_
        dsimp only
        have hw := wth_le (γ := g) (c := i) hO ⟨i0, by omega⟩
        split
        · exact rlT_try hO n _ _ _ _ _ (by omega) (rlT_keep (by rw [List.length_append]; exact Nat.le_add_left 1 p.length) (by omega) h)
        · exact h
    have hcc := pCe_le hO
    exact key (pCe P).toNat 0 (keepS p w acc) T (by omega) (by omega) h
theorem rlT_best {P : aP} (hO : pOk P) (n : Nat) (g : aG) : rlT (bestS P n g) (tryM P n g [] 0 T00) :=
  rlT_try hO n g [] 0 (0, 0, []) T00 (by omega) (by
    show rlT (0, 0, []) T00
    exact ⟨by omega, fun _ _ => rfl, fun h => absurd h (by show ¬ (0 : Int) < 0; omega)⟩)
theorem tryS_le {P : aP} : ∀ (n : Nat) (g : aG) (p : List Int) (w : Int) (acc : Int × Int × List Int), acc.1 ≤ p.length + n → (tryS P n g p w acc).1 ≤ p.length + n
  | 0, g, p, w, acc, h => by
    show (keepS p w acc).1 ≤ _
    unfold keepS; split
    · dsimp only; omega
    · exact h
  | n + 1, g, p, w, acc, h => by
    have key : ∀ (m : Nat) (i : Int) (acc : Int × Int × List Int), acc.1 ≤ p.length + (n + 1 : Nat) → (ovC (fun c a => if why P (gCe g) c = 0 ∧ ¬ pHo P < spn P (gCe g) c then tryS P n (cut1 P g c) (p ++ [c]) (w + wth P (gCe g) c) a else a) m i acc).1 ≤ p.length + (n + 1 : Nat) := by
      intro m
      induction m with
      | zero => intro i acc h; exact h
      | succ m ih =>
        intro i acc h
        refine ih (i + 1) _ ?_
        dsimp only
        split
        · have := tryS_le (P := P) n (cut1 P g i) (p ++ [i]) (w + wth P (gCe g) i) acc (by rw [List.length_append, List.length_singleton]; omega)
          rw [List.length_append, List.length_singleton] at this
          omega
        · exact h
    refine key (pCe P).toNat 0 (keepS p w acc) ?_
    unfold keepS; split
    · dsimp only; omega
    · exact h
theorem t_best_n (d : Nat) {G : jG} {X : jX} {T : bT} {acc : Int × Int × List Int} (hG : GG G) (a : Int) (b : Int) (hl : acc.1 = acc.2.2.length) (hT : mT X T) (hr : rlT acc T) : ∀ m : Nat, acc.1 ≤ m → m ≤ 3 → jN (d + 1) 265 21 [(22, 149), (0, a), (0, b), (0, (m : Int))] [] (G, X) = some (if acc.1 = 0 then -1 else if b = -1 then acc.2.1 else if b = 20 then acc.1 else if 0 ≤ b ∧ b < acc.1 ∧ b < 3 then acc.2.2.getD b.toNat 0 else -1, (G, X)) := by
  intro m
  have h0 := hr.1
  induction m with
  | zero =>
    intro h1 h3
    rw [h_X12_best_21, if_neg (by omega), if_pos (by omega), if_pos (by omega)]
  | succ m ih =>
    intro h1 h3
    have hk := hT (m + 1) (by omega) (by omega)
    rw [h_X12_best_21, if_pos (by omega), gr_149_72 hG, gl_196 hG]
    simp only [if_pos (show (0 : Int) ≤ ((m + 1 : Nat) : Int) by omega), if_pos (show ((m + 1 : Nat) : Int) < 5 by omega), Int.reduceLE, reduceIte]
    by_cases q : acc.1 = ((m + 1 : Nat) : Int)
    · obtain ⟨q1, q2⟩ := hr.2.2 (by omega)
      rw [show acc.1.toNat = m + 1 by omega] at q1
      have hw : X 196 ((m + 1 : Nat) : Int) = acc.2.1 := by rw [hk.1, q1]
      rw [hw, if_neg (show ¬ acc.2.1 = -1 by omega), if_neg (show ¬ ((m + 1 : Nat) : Int) = 0 by omega), if_neg (show ¬ acc.1 = 0 by omega)]
      by_cases b1 : b = -1
      · rw [if_pos b1, if_pos b1]
      · rw [if_neg b1, if_neg b1]
        by_cases b2 : b = 20
        · rw [if_pos b2, if_pos b2, q]
        · rw [if_neg b2, if_neg b2, jsub_id (by omega) (by omega), t_isIn]
          simp only [Option.bind_some]
          rw [gr_149_73 hG, gl_197 hG]
          simp only [Int.reduceLE, reduceIte]
          by_cases b3 : 0 ≤ b ∧ b ≤ ((m + 1 : Nat) : Int) - 1
          · rw [if_pos b3, if_neg (by omega), jmul_id (by omega) (by omega), jadd_id (by omega) (by omega), if_pos (show 0 ≤ 5 * ((m + 1 : Nat) : Int) + b by omega), if_pos (show 5 * ((m + 1 : Nat) : Int) + b < 25 by omega), if_pos (show 0 ≤ b ∧ b < acc.1 ∧ b < 3 by omega)]
            have := hk.2 (by rw [q1]; omega) b.toNat (by omega)
            rw [show ((b.toNat : Nat) : Int) = b by omega, q1] at this
            rw [this]
          · rw [if_neg b3, if_pos rfl, if_neg (by omega)]
    · rw [hk.1, hr.2.1 (m + 1) (by omega), if_pos rfl, jadd_id (by omega) (by omega), show ((m + 1 : Nat) : Int) + -1 = (m : Int) by omega]
      exact ih (by omega) (by omega)
theorem m_best (a b : Int) : okM 265 [(0, a), (0, b)] (bsA a b) (fun A => A) := by
  intro d G X A hG hR hV
  dsimp only
  have hO := hV.2.1
  rw [e_X12_best, t_isIn]
  simp only [Option.bind_some]
  unfold bsA
  by_cases an : a < 1 ∨ 3 < a
  · rw [if_pos an, if_neg (show ¬ (1 ≤ a ∧ a ≤ 3) by omega), if_pos rfl]
    exact ⟨X, rfl, hR, fun _ _ => rfl⟩
  · rw [if_neg an, if_pos (show 1 ≤ a ∧ a ≤ 3 by omega), if_neg (by omega)]
    simp only [Int.reduceLE, reduceIte]
    obtain ⟨X1, e1, t1, g1, f1⟩ := t_seeksBest (d + 48) (X := X) (N := a.toNat) hG hO (by omega) (by omega) hR.2.2.1 hR.2.2.2.1 hV.2.2.1
    rw [show ((a.toNat : Nat) : Int) = a by omega] at e1
    rw [e1]
    simp only [Option.bind_some]
    have e2 := t_best_n (d + 58) hG a b (tryS_len _ _ _ _ _ rfl) t1 (rlT_best hO a.toNat (aGr A)) a.toNat (by have := tryS_le (P := aPl A) a.toNat (aGr A) [] 0 (0, 0, []) (by show (0 : Int) ≤ _; omega); rw [List.length_nil] at this; omega) (by omega)
    rw [show ((a.toNat : Nat) : Int) = a by omega] at e2
    refine ⟨X1, e2, ?_, fun k hk => f1.1 k (by omega) (by omega) (by omega) (by omega) (by omega) (by omega)⟩
    exact RM_act (A := A) (γ := aGr A) (h := aHi A) (fun k hk h1 h2 => by unfold sM at hk; exact f1.1 k (by omega) (by omega) (by omega) (by omega) (by omega) (by omega)) (fun j hj _ _ => by unfold sN at hj; exact f1.2 j (by omega) (by omega) (by omega)) g1 (mHi_fr (f1.2 _ (by omega) (by omega) (by omega)) (f1.2 _ (by omega) (by omega) (by omega)) (f1.1 _ (by omega) (by omega) (by omega) (by omega) (by omega) (by omega)) hR.2.2.2.2.1) hR
theorem call_best (a b : Int) : okB 163 265 [(0, a), (0, b)] := ⟨bsA a b, fun A => A, c_best a b, m_best a b, fun _ h => h⟩
