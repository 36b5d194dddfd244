/-! WHY, PRICE, COUNTS: the class -/
theorem tb_le {P : aP} {γ : aG} (h : gOk P γ) : ∀ x, -1000000 ≤ (fun x => if 0 ≤ x ∧ x < 5 then gSt γ x else 0 : Int → Int) x ∧ (fun x => if 0 ≤ x ∧ x < 5 then gSt γ x else 0 : Int → Int) x ≤ 1000000 := by
  intro x
  dsimp only
  split
  · rename_i q
    have h1 := h.2.2.2.2.2.2.1 x q.1 q.2
    have h2 : nwh (gCe γ) 48 ≤ 48 := by
      have : ∀ n : Nat, nwh (gCe γ) n ≤ n := by
        intro n
        induction n with
        | zero => exact Int.le_refl 0
        | succ n ih =>
          show nwh (gCe γ) n + (if gCe γ n = 0 then 0 else 1) ≤ _
          split <;> omega
      exact this 48
    omega
  · omega
theorem s_value (d : Nat) {G : jG} {X : jX} {P : aP} {γ : aG} {m g r : Int} (hm : isMi G m g r) (hγ : cGr X g γ) (hO : gOk P γ) (a i : Int) (ha0 : 0 ≤ a) (ha : a < 25) (hL : gL G a = 1600) (f : Int → Int) (hf : ∀ k, 0 ≤ k → k ≤ 9 → -1000000 ≤ f k ∧ f k ≤ 1000000) (l : List Int) {u : Int} {t : Nat} (hw : wfC u t l) (hi : 0 ≤ i) (hcd : ∀ j : Nat, j < l.length → X a (i + j) = toC (l.getD j 0)) (hst : X a (i + l.length) = 10000) (hlt : i + l.length < 1600) (hfa : ∀ k, 0 ≤ k → k ≤ 9 → X (r + 3) k = f k) : ∃ X', jD (d + 3) 47 [(13, m), (24, a), (0, i)] (G, X) = some (evv f (fun x => if 0 ≤ x ∧ x < 5 then gSt γ x else 0) l, (G, X')) ∧ ∀ k, k ≠ r + 2 → X' k = X k := by
  obtain ⟨X', e, fr⟩ := s_value_n d hm a i ha0 ha hL f _ rfl hf (tb_le hO) l X i [] [] [t] 1 (2, -1) (2, -1) (Or.inl rfl) (Or.inl rfl) hi hcd hst hlt hγ hfa trivial trivial (by simp) hw.2.1 hw.2.2.1 (by omega)
  refine ⟨X', ?_, fr⟩
  rw [e_X3_value, s_max (d + 1)]
  simp only [Option.bind_some]
  rw [show (if 0 < i then i else 0) = i by split <;> omega]
  exact e
theorem s_isReached (d : Nat) {G : jG} {X : jX} {P : aP} {st : Int → Int} {m g r : Int} (c : Int) (hm : isMi G m g r) (hr : isRc P st (X r)) (h1 : c < 48) : jD (d + 1) 29 [(13, m), (0, c)] (G, X) = some (b01 (0 ≤ c ∧ rch P st c), (G, X)) := by
  obtain ⟨hg, ⟨m0, m1, m2, m3, m4, m5⟩, ⟨l0, l1, l2, l3⟩, h25, hor⟩ := id hm
  rw [e_X3_isReached, m2, l0]
  by_cases h0 : 0 ≤ c
  · rw [if_neg (by omega), if_pos h1, if_pos (by omega), if_pos (by have := hg.2.2.2.2; omega), if_pos h0, if_pos h1]
    rcases hr c h0 h1 with ⟨e, h⟩ | ⟨e, h⟩
    · rw [if_pos e, b01_f (fun q => h q.2)]
    · rw [if_neg (by omega), b01_t ⟨h0, h⟩]
  · rw [if_pos (by omega), b01_f (fun q => h0 q.1)]
theorem bsR_iff {P : aP} {st : Int → Int} {c : Int} : bsR P st c ↔ ∃ u, 0 ≤ u ∧ u < 4 ∧ 0 ≤ nW P c u ∧ rch P st (nW P c u) := by
  constructor
  · rintro ⟨b, hb, hr⟩
    obtain ⟨u, u0, u1, rfl⟩ := bsd_nW hb
    exact ⟨u, u0, u1, hb.1, hr⟩
  · rintro ⟨u, u0, u1, h0, hr⟩
    exact ⟨_, nW_bsd u0 u1 h0, hr⟩
theorem s_isBeside_n (d : Nat) {G : jG} {X : jX} {P : aP} {st : Int → Int} {m g r : Int} (c : Int) (hG : GG G) (hP : cPlan X P) (hO : pOk P) (hi : inP P c) (hm : isMi G m g r) (hr : isRc P st (X r)) : ∀ (n : Nat) (v : Int), v + n = 4 → 0 ≤ v → jN (d + 2) 31 2 [(13, m), (0, c), (0, v)] [] (G, X) = some (b01 (∃ u, v ≤ u ∧ u < 4 ∧ 0 ≤ nW P c u ∧ rch P st (nW P c u)), (G, X)) := by
  obtain ⟨hg, ⟨m0, m1, m2, m3, m4, m5⟩, ⟨l0, l1, l2, l3⟩, h25, hor⟩ := id hm
  have hcc := pCe_le hO
  intro n
  induction n with
  | zero =>
    intro v h0 h1
    rw [h_X3_isBesideReached_2, if_neg (by omega), b01_f (by rintro ⟨u, q1, q2, -⟩; omega)]
  | succ n ih =>
    intro v h0 h1
    have hn := nW_le hO hi h1 (show v < 4 by omega)
    rw [h_X3_isBesideReached_2, if_pos (by omega), if_pos (by omega), m0, if_pos (by omega), s_beside d c v hG hP hO hi h1 (by omega)]
    simp only [Option.bind_some]
    rw [if_pos (by omega), s_isReached (d + 1) _ hm hr (by omega)]
    simp only [Option.bind_some]
    rw [jadd_id (by omega) (by omega), ih (v + 1) (by omega) (by omega)]
    rcases b01_or (0 ≤ nW P c v ∧ rch P st (nW P c v)) with ⟨e, h⟩ | ⟨e, h⟩
    · rw [if_pos e]
      have : (∃ u, v + 1 ≤ u ∧ u < 4 ∧ 0 ≤ nW P c u ∧ rch P st (nW P c u)) ↔ (∃ u, v ≤ u ∧ u < 4 ∧ 0 ≤ nW P c u ∧ rch P st (nW P c u)) := by
        constructor
        · rintro ⟨u, q1, q2⟩; exact ⟨u, by omega, q2⟩
        · rintro ⟨u, q1, q2⟩
          by_cases q : u = v
          · subst q; exact absurd q2.2 h
          · exact ⟨u, by omega, q2⟩
      rw [propext this]
    · rw [if_neg (by omega), b01_t ⟨v, by omega, by omega, h⟩]
theorem s_isBeside (d : Nat) {G : jG} {X : jX} {P : aP} {st : Int → Int} {m g r : Int} (c : Int) (hG : GG G) (hP : cPlan X P) (hO : pOk P) (hi : inP P c) (hm : isMi G m g r) (hr : isRc P st (X r)) : jD (d + 3) 31 [(13, m), (0, c)] (G, X) = some (b01 (bsR P st c), (G, X)) := by
  rw [e_X3_isBesideReached, s_isBeside_n d c hG hP hO hi hm hr 4 0 rfl (by omega), propext bsR_iff]
/-- what a mine writes while it is asked: its own rows -/
def mSc (m r k : Int) : Prop := k ≠ m ∧ k ≠ r ∧ k ≠ r + 1 ∧ k ≠ r + 2 ∧ k ≠ r + 3
theorem s_why (d : Nat) {G : jG} {X : jX} {P : aP} {γ : aG} {m g r : Int} (c : Int) (hG : GG G) (hP : cPlan X P) (hO : pOk P) (hgO : gOk P γ) (hm : isMi G m g r) (hγ : cGr X g γ) (hr : isRc P (gCe γ) (X r)) : ∃ X', jD (d + 5) 30 [(13, m), (0, c)] (G, X) = some (if 0 ≤ c ∧ c < pCe P then why P (gCe γ) c else 1, (G, X')) ∧ (∀ k, k ≠ r + 2 → k ≠ r + 3 → X' k = X k) := by
  obtain ⟨hg, ⟨m0, m1, m2, m3, m4, m5⟩, ⟨l0, l1, l2, l3⟩, h25, hor⟩ := id hm
  have g4 : 25 ≤ g := hg.2.2.2.2
  have hcc := pCe_le hO
  have ha := cPlan_at hP
  rw [e_X3_why, if_pos (by omega), m0, if_pos (by omega), s_isCell (d + 3) c hP]
  simp only [Option.bind_some]
  by_cases hi : 0 ≤ c ∧ c < pCe P
  · rw [if_pos hi, if_neg (by omega), if_pos hi, if_pos (by omega), m1, if_pos (by omega), s_is (d + 3) g c 0 hg hγ]
    simp only [Option.bind_some]
    unfold why
    by_cases h0 : gCe γ c = 0
    · have q3 : 0 ≤ c ∧ c < 48 ∧ gCe γ c = 0 := ⟨hi.1, by omega, h0⟩
      rw [if_pos q3, if_neg (show ¬ (1 : Int) = 0 by omega), if_neg (show ¬ gCe γ c ≠ 0 from fun q => q h0), if_pos (by omega), m0, if_pos (by omega), ha.2.2.2.1]
      -- behind the way to it: may
      have mayEnd : ∃ X', (if 0 ≤ m then (if 0 ≤ (1 : Int) then (if 0 ≤ gR G 1 9 then (if 0 < gL G (gR G 1 9) then (if X (gR G 1 9) 0 = (-1) then some (0, (G, X)) else (if 0 ≤ m then ((jD (d + 4) 45 [(13, m), (0, c)] (G, X)).bind fun q3 => if 0 ≤ m then (if 0 ≤ gR q3.2.1 m 0 then (if 0 ≤ m then ((jD (d + 4) 47 [(13, m), (24, gR q3.2.1 (gR q3.2.1 m 0) 18), (0, X (gR G 1 9) 0)] (q3.2.1, q3.2.2)).bind fun q4 => if q4.1 = 0 then some (3, (q4.2.1, q4.2.2)) else some (0, (q4.2.1, q4.2.2))) else none) else none) else none) else none)) else none) else none) else none) else none) = some (@ite Int (may P (gCe γ) c) (Classical.propDecidable _) 0 3, (G, X')) ∧ (∀ k, k ≠ r + 2 → k ≠ r + 3 → X' k = X k) := by
        rw [if_pos (by omega), if_pos (by omega), gr_1_9 hG, if_pos (by omega), gl_3 hG, if_pos (by omega)]
        have hfo := hP.2.2.1.1
        have hwf := (pOk_f hO).1
        unfold may
        cases hl : pFm P 0 with
        | none =>
          rw [hl] at hfo
          have hfo : X 3 0 = -1 := hfo
          rw [if_pos hfo, if_pos trivial]
          exact ⟨X, rfl, fun _ _ _ => rfl⟩
        | some l =>
          rw [hl] at hfo hwf
          obtain ⟨o0, o1, o2, o3⟩ : 0 ≤ X 3 0 ∧ X 3 0 + l.length < 1600 ∧ (∀ i : Nat, i < l.length → X 12 (X 3 0 + i) = toC (l.getD i 0)) ∧ X 12 (X 3 0 + l.length) = 10000 := hfo
          have hwf : wfC 0 1 l := hwf
          obtain ⟨X1, e1, f1, c1⟩ := s_loadCell d c hG hP hO hi hm hγ
          rw [if_neg (by omega), if_pos (by omega), e1]
          simp only [Option.bind_some]
          rw [if_pos (by omega), m0, if_pos (by omega), if_pos (by omega), gr_1_18 hG]
          have r12 : X1 12 = X 12 := f1 12 (by omega)
          obtain ⟨X2, e2, f2⟩ := s_value (d + 1) hm (cGr_fr (f1 g (by omega)) (f1 (g + 1) (by omega)) (f1 (g + 2) (by omega)) hγ) hgO 12 (X 3 0) (by omega) (by omega) (gl_12 hG) (fcC P (gCe γ) c) (fcC_le _ hO hi) l hwf o0 (by rw [r12]; exact o2) (by rw [r12]; exact o3) o1 c1
          rw [e2]
          simp only [Option.bind_some]
          rw [evv_tb (tb' := tb0) (Or.inl rfl) hwf]
          have h01 := (evv_ok (fcC_le (gCe γ) hO hi) (tb := tb0) (fun x => by unfold tb0; omega) hwf).2.2 rfl
          refine ⟨X2, ?_, fun k k1 k2 => by rw [f2 k k1, f1 k k2]⟩
          rcases h01 with h | h
          · rw [if_pos h, if_neg (by rw [h]; omega)]
          · rw [if_neg (by rw [h]; omega), if_pos h]
      obtain ⟨X', e, f⟩ := mayEnd
      by_cases hs : c = pS P
      · rw [if_pos hs, if_neg (show ¬ (c ≠ pS P ∧ ¬ bsR P (gCe γ) c) from fun q => q.1 hs)]
        exact ⟨X', e, f⟩
      · rw [if_neg hs, if_pos (by omega), s_isBeside (d + 1) c hG hP hO hi hm hr]
        simp only [Option.bind_some]
        rcases b01_or (bsR P (gCe γ) c) with ⟨e1, h⟩ | ⟨e1, h⟩
        · rw [if_pos e1, if_pos (show c ≠ pS P ∧ ¬ bsR P (gCe γ) c from ⟨hs, h⟩)]
          exact ⟨X, rfl, fun _ _ _ => rfl⟩
        · rw [if_neg (show ¬ b01 (bsR P (gCe γ) c) = 0 by omega), if_neg (show ¬ (c ≠ pS P ∧ ¬ bsR P (gCe γ) c) from fun q => q.2 h), m0]
          exact ⟨X', e, f⟩
    · have q3 : ¬ (0 ≤ c ∧ c < 48 ∧ gCe γ c = 0) := fun q => h0 q.2.2
      rw [if_neg q3, if_pos rfl, if_pos h0]
      exact ⟨X, rfl, fun _ _ _ => rfl⟩
  · rw [if_neg hi, if_pos rfl, if_neg hi]
    exact ⟨X, rfl, fun _ _ _ => rfl⟩
theorem s_price (d : Nat) {G : jG} {X : jX} {P : aP} {γ : aG} {m g r : Int} (c : Int) (hG : GG G) (hP : cPlan X P) (hO : pOk P) (hgO : gOk P γ) (hi : inP P c) (hm : isMi G m g r) (hγ : cGr X g γ) : ∃ X', jD (d + 5) 40 [(13, m), (0, c)] (G, X) = some (wth P (gCe γ) c, (G, X')) ∧ (∀ k, k ≠ r + 2 → k ≠ r + 3 → X' k = X k) := by
  obtain ⟨hg, ⟨m0, m1, m2, m3, m4, m5⟩, ⟨l0, l1, l2, l3⟩, h25, hor⟩ := id hm
  have g4 : 25 ≤ g := hg.2.2.2.2
  rw [e_X3_price, if_pos (by omega), m0, if_pos (by omega), s_kindOf (d + 2) c hG hP hO, if_pos hi]
  simp only [Option.bind_some]
  unfold wth
  by_cases hk : pSe P c = -1
  · rw [if_pos hk, if_pos hk]
    exact ⟨X, rfl, fun _ _ _ => rfl⟩
  · rw [if_neg hk, if_neg hk, if_pos (by omega), m0, if_pos (by omega), gr_1_9 hG, if_pos (by omega), gl_3 hG, if_pos (by omega)]
    have hfo := hP.2.2.1.2.1
    have hwf := (pOk_f hO).2.1
    cases hl : pFm P 1 with
    | none =>
      rw [hl] at hfo
      have hfo : X 3 1 = -1 := hfo
      rw [if_pos hfo, if_pos (by omega), if_pos (by omega), s_restOf (d + 1) c hG hP hO hi]
      simp only [Option.bind_some]
      unfold rsO
      rw [if_neg hk]
      exact ⟨X, rfl, fun _ _ _ => rfl⟩
    | some l =>
      rw [hl] at hfo hwf
      obtain ⟨o0, o1, o2, o3⟩ : 0 ≤ X 3 1 ∧ X 3 1 + l.length < 1600 ∧ (∀ i : Nat, i < l.length → X 12 (X 3 1 + i) = toC (l.getD i 0)) ∧ X 12 (X 3 1 + l.length) = 10000 := hfo
      have hwf : wfC 0 0 l := hwf
      obtain ⟨X1, e1, f1, c1⟩ := s_loadCell d c hG hP hO hi hm hγ
      rw [if_neg (by omega), if_pos (by omega), e1]
      simp only [Option.bind_some]
      rw [if_pos (by omega), m0, if_pos (by omega), if_pos (by omega), gr_1_18 hG]
      have r12 : X1 12 = X 12 := f1 12 (by omega)
      obtain ⟨X2, e2, f2⟩ := s_value (d + 1) hm (cGr_fr (f1 g (by omega)) (f1 (g + 1) (by omega)) (f1 (g + 2) (by omega)) hγ) hgO 12 (X 3 1) (by omega) (by omega) (gl_12 hG) (fcC P (gCe γ) c) (fcC_le _ hO hi) l hwf o0 (by rw [r12]; exact o2) (by rw [r12]; exact o3) o1 c1
      rw [e2]
      simp only [Option.bind_some]
      rw [evv_tb (tb' := tb0) (Or.inl rfl) hwf, s_min (d + 3)]
      simp only [Option.bind_some]
      rw [s_max (d + 3)]
      simp only [Option.bind_some]
      refine ⟨X2, ?_, fun k k1 k2 => by rw [f2 k k1, f1 k k2]⟩
      congr 2
      unfold cl0
      grind
