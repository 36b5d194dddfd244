/-- the blast of a cell -/
noncomputable def bls (P : aP) (g : aG) (c w : Int) : aG := ((gPr g, gWo g - w, gRe g), (fun k => if k = pSe P c then gSt g k - 1 else gSt g k), (fun i => if i = c ∨ b01 (bsd P c i ∧ opn (gCe g) i) = 1 then 3 else gCe g i))
theorem opn_up {st : Int → Int} {i a z : Int} (h : i ≠ a) : opn (fun i => if i = a then z else st i) i ↔ opn st i := by
  unfold opn
  dsimp only
  rw [if_neg h]
theorem nW_ne {P : aP} {c u : Int} (hO : pOk P) (hi : inP P c) : nW P c u ≠ c := by
  have h := mod_in hO hi
  obtain ⟨h0, h1⟩ := hi
  unfold nW nUp nLf nRt nDn
  repeat' split
  all_goals omega
theorem s_blast_n (d : Nat) {G : jG} {P : aP} {m g r : Int} (c b k0 : Int) (hG : GG G) (hO : pOk P) (hi : inP P c) (hm : isMi G m g r) : ∀ (n : Nat) (X : jX) (γ : aG) (v : Int) (u : jV), u.1 = 2 ∨ u.1 = 0 → cPlan X P → cGr X g γ → v + n = 4 → 0 ≤ v → ∃ X', jN (d + 2) 42 52 [(13, m), (0, c), (0, b), (0, k0), (0, v), u] [] (G, X) = some (0, (G, X')) ∧ (∀ k, k ≠ g + 1 → X' k = X k) ∧ ∀ i, 0 ≤ i → i < 48 → X' (g + 1) i = if b01 (∃ w, v ≤ w ∧ w < 4 ∧ i = nW P c w ∧ opn (gCe γ) i) = 1 then 3 else gCe γ i := by
  obtain ⟨hg, ⟨m0, m1, m2, m3, m4, m5⟩, ⟨l0, l1, l2, l3⟩, h25, hor⟩ := id hm
  have g4 : 25 ≤ g := hg.2.2.2.2
  have hcc := pCe_le hO
  intro n
  induction n with
  | zero =>
    intro X γ v u hu hP hγ h0 h1
    refine ⟨X, ?_, fun _ _ => rfl, fun i i0 i1 => ?_⟩
    · rw [h_X3_blast_52 _ _ _ _ _ _ _ hu, if_neg (by omega)]
    · rw [b01_f (by rintro ⟨w, q1, q2, -⟩; omega), if_neg (by omega)]; exact hγ.2.1 i i0 i1
  | succ n ih =>
    intro X γ v u hu hP hγ h0 h1
    have hn := nW_le hO hi h1 (show v < 4 by omega)
    rw [h_X3_blast_52 _ _ _ _ _ _ _ hu, if_pos (by omega), if_pos (by omega), m0, if_pos (by omega), s_beside d c v hG hP hO hi h1 (by omega)]
    simp only [Option.bind_some]
    rw [if_pos (by omega), m1, if_pos (by omega), s_isOpen d g _ hg hγ (by omega)]
    simp only [Option.bind_some]
    rw [jadd_id (by omega) (by omega)]
    rcases b01_or (opn (gCe γ) (nW P c v)) with ⟨e, h⟩ | ⟨e, h⟩
    · rw [if_pos e]
      obtain ⟨X', e', f', c'⟩ := ih X γ (v + 1) (0, nW P c v) (Or.inr rfl) hP hγ (by omega) (by omega)
      refine ⟨X', e', f', fun i i0 i1 => ?_⟩
      rw [c' i i0 i1]
      have : (∃ w, v + 1 ≤ w ∧ w < 4 ∧ i = nW P c w ∧ opn (gCe γ) i) ↔ (∃ w, v ≤ w ∧ w < 4 ∧ i = nW P c w ∧ opn (gCe γ) i) := by
        constructor
        · rintro ⟨w, q1, q2⟩; exact ⟨w, by omega, q2⟩
        · rintro ⟨w, q1, q2, q3, q4⟩
          by_cases q : w = v
          · subst q; rw [← q3] at h; exact absurd q4 h
          · exact ⟨w, by omega, q2, q3, q4⟩
      rw [propext this]
    · rw [if_neg (by omega), if_pos (by omega), s_fell d _ hP hO ⟨h.1, hn.2⟩ hm]
      simp only [Option.bind_some]
      have hγ' : cGr (jup X (g + 1) (nW P c v) 3) g (γ.1, γ.2.1, fun i => if i = nW P c v then 3 else gCe γ i) := by
        refine ⟨?_, fun i i0 i1 => ?_, ?_⟩
        · rw [jup_rw _ _ _ _ _ (by omega)]; exact hγ.1
        · show _ = if i = nW P c v then 3 else gCe γ i
          by_cases q : i = nW P c v
          · rw [if_pos q, q, jup_same]
          · rw [if_neg q, jup_row _ _ _ _ _ q]; exact hγ.2.1 i i0 i1
        · rw [jup_rw _ _ _ _ _ (by omega)]; exact hγ.2.2
      obtain ⟨X', e', f', c'⟩ := ih (jup X (g + 1) (nW P c v) 3) _ (v + 1) (0, nW P c v) (Or.inr rfl) (cPlan_fr (fun a h1 h2 => jup_rw _ _ _ _ _ (by omega)) hP) hγ' (by omega) (by omega)
      refine ⟨X', e', fun k hk => by rw [f' k hk, jup_rw _ _ _ _ _ hk], fun i i0 i1 => ?_⟩
      rw [c' i i0 i1]
      show (if b01 (∃ w, v + 1 ≤ w ∧ w < 4 ∧ i = nW P c w ∧ opn (fun i => if i = nW P c v then 3 else gCe γ i) i) = 1 then 3 else (if i = nW P c v then 3 else gCe γ i)) = _
      by_cases q : i = nW P c v
      · have : ∃ w, v ≤ w ∧ w < 4 ∧ i = nW P c w ∧ opn (gCe γ) i := ⟨v, by omega, by omega, q, by rw [q]; exact h⟩
        rw [if_pos q, b01_t this, if_pos rfl]
        split <;> rfl
      · have : (∃ w, v + 1 ≤ w ∧ w < 4 ∧ i = nW P c w ∧ opn (fun i => if i = nW P c v then 3 else gCe γ i) i) ↔ (∃ w, v ≤ w ∧ w < 4 ∧ i = nW P c w ∧ opn (gCe γ) i) := by
          constructor
          · rintro ⟨w, q1, q2, q3, q4⟩
            exact ⟨w, by omega, q2, q3, (opn_up q).mp q4⟩
          · rintro ⟨w, q1, q2, q3, q4⟩
            refine ⟨w, ?_, q2, q3, (opn_up q).mpr q4⟩
            by_cases qq : w = v
            · subst qq; exact absurd q3 q
            · omega
        rw [propext this, if_neg q]
theorem s_blast (d : Nat) {G : jG} {X : jX} {P : aP} {γ : aG} {m g r : Int} (c w : Int) (hG : GG G) (hP : cPlan X P) (hO : pOk P) (hi : inP P c) (hm : isMi G m g r) (hγ : cGr X g γ) (hw1 : j32 (gWo γ - w)) (hs : ∀ k, 0 ≤ k → k < 5 → j32 (gSt γ k - 1)) : ∃ X', jD (d + 3) 42 [(13, m), (0, c), (0, w)] (G, X) = some (0, (G, X')) ∧ cGr X' g (bls P γ c w) ∧ (∀ k, k ≠ g → k ≠ g + 1 → k ≠ g + 2 → X' k = X k) := by
  obtain ⟨hg, ⟨m0, m1, m2, m3, m4, m5⟩, ⟨l0, l1, l2, l3⟩, h25, hor⟩ := id hm
  obtain ⟨g0, g1, g2, g3, g4⟩ := id hg
  have hcc := pCe_le hO
  have hi' : 0 ≤ c ∧ c < pCe P := hi
  have hk := pOk_c hO c hi.1 hi.2
  have hn := pOk_n hO
  obtain ⟨⟨c1, c2, c3⟩, c4, c5⟩ := id hγ
  rw [e_X3_blast, if_pos (by omega), m0, if_pos (by omega), s_kindOf d c hG hP hO, if_pos hi']
  simp only [Option.bind_some]
  have tail : ∀ X1 : jX, (∀ k, k ≠ g + 2 → X1 k = X k) → (∀ k, 0 ≤ k → k < 5 → X1 (g + 2) k = if k = pSe P c then gSt γ k - 1 else gSt γ k) → ∃ X', jN (d + 2) 42 52 [(13, m), (0, c), (0, w), (0, pSe P c), (0, 0), (2, (-1))] [] (G, jup (jup X1 g 3 (gWo γ - w)) (g + 1) c 3) = some (0, (G, X')) ∧ cGr X' g (bls P γ c w) ∧ (∀ k, k ≠ g → k ≠ g + 1 → k ≠ g + 2 → X' k = X k) := by
    intro X1 f1 t1
    have hγ' : cGr (jup (jup X1 g 3 (gWo γ - w)) (g + 1) c 3) g ((gPr γ, gWo γ - w, gRe γ), (fun k => if k = pSe P c then gSt γ k - 1 else gSt γ k), fun i => if i = c then 3 else gCe γ i) := by
      refine ⟨⟨?_, ?_, ?_⟩, fun i i0 i1 => ?_, fun k k0 k1 => ?_⟩
      · rw [jup_rw _ _ _ _ _ (by omega), jup_row _ _ _ _ _ (by omega), f1 g (by omega)]; exact c1
      · rw [jup_rw _ _ _ _ _ (by omega), jup_same]; rfl
      · rw [jup_rw _ _ _ _ _ (by omega), jup_row _ _ _ _ _ (by omega), f1 g (by omega)]; exact c3
      · show _ = if i = c then 3 else gCe γ i
        by_cases q : i = c
        · rw [if_pos q, q, jup_same]
        · rw [if_neg q, jup_row _ _ _ _ _ q, jup_rw _ _ _ _ _ (by omega), f1 (g + 1) (by omega)]; exact c4 i i0 i1
      · rw [jup_rw _ _ _ _ _ (by omega), jup_rw _ _ _ _ _ (by omega)]; exact t1 k k0 k1
    obtain ⟨X', e', f', c'⟩ := s_blast_n d c w (pSe P c) hG hO hi hm 4 _ _ 0 (2, -1) (Or.inl rfl) (cPlan_fr (fun a h1 h2 => by rw [jup_rw _ _ _ _ _ (by omega), jup_rw _ _ _ _ _ (by omega), f1 a (by omega)]) hP) hγ' rfl (by omega)
    refine ⟨X', e', ⟨?_, fun i i0 i1 => ?_, ?_⟩, fun k k0 k1 k2 => ?_⟩
    · rw [f' g (by omega)]; exact hγ'.1
    · rw [c' i i0 i1]
      show (if b01 (∃ w, 0 ≤ w ∧ w < 4 ∧ i = nW P c w ∧ opn (fun i => if i = c then 3 else gCe γ i) i) = 1 then 3 else (if i = c then 3 else gCe γ i)) = if i = c ∨ b01 (bsd P c i ∧ opn (gCe γ) i) = 1 then 3 else gCe γ i
      by_cases q : i = c
      · rw [if_pos q, if_pos (Or.inl q)]
        split <;> rfl
      · rw [if_neg q]
        have : (∃ w, 0 ≤ w ∧ w < 4 ∧ i = nW P c w ∧ opn (fun i => if i = c then 3 else gCe γ i) i) ↔ (bsd P c i ∧ opn (gCe γ) i) := by
          rw [opn_up q]
          constructor
          · rintro ⟨w, q1, q2, q3, q4⟩
            refine ⟨?_, q4⟩
            rw [q3]
            exact nW_bsd q1 q2 (by rw [← q3]; exact i0)
          · rintro ⟨q1, q2⟩
            obtain ⟨u, u0, u1, u2⟩ := bsd_nW q1
            exact ⟨u, u0, u1, u2, q2⟩
        rw [propext this]
        by_cases qq : b01 (bsd P c i ∧ opn (gCe γ) i) = 1
        · rw [if_pos qq, if_pos (Or.inr qq)]
        · rw [if_neg qq, if_neg (fun h => by rcases h with h | h; exact q h; exact qq h)]
    · rw [f' (g + 2) (by omega)]; exact hγ'.2.2
    · rw [f' k k1, jup_rw _ _ _ _ _ k1, jup_rw _ _ _ _ _ k0, f1 k k2]
  unfold j32 at hw1 hs
  have e43 : ∀ X1 : jX, (∀ k, k ≠ g + 2 → X1 k = X k) → jD (d + 2) 43 [(13, m), (0, c)] (G, jup X1 g 3 (gWo γ - w)) = some (0, (G, jup (jup X1 g 3 (gWo γ - w)) (g + 1) c 3)) := fun X1 f1 => s_fell d c (cPlan_fr (fun a h1 h2 => by rw [jup_rw _ _ _ _ _ (by omega), f1 a (by omega)]) hP) hO hi hm
  by_cases hr : pSe P c < 0
  · rw [if_pos hr, if_pos (by omega), m1, if_pos (by omega), if_pos (by omega), if_pos (by omega), c2, jsub_id (by omega) (by omega), e43 X (fun _ _ => rfl)]
    simp only [Option.bind_some]
    exact tail X (fun _ _ => rfl) (fun k k0 k1 => by rw [if_neg (by omega)]; exact c5 k k0 k1)
  · have hst := hs (pSe P c) (by omega) (by omega)
    have e3 : (jup X (g + 2) (pSe P c) (gSt γ (pSe P c) - 1)) g 3 = gWo γ := by rw [jup_rw _ _ _ _ _ (by omega)]; exact c2
    rw [if_neg hr, if_pos (by omega), if_pos (by omega), m1, if_pos (by omega), g1, if_pos (by omega), if_pos (by omega), g3, if_pos (by omega), if_pos (by omega), if_pos (by omega), if_pos (by omega), c5 _ (by omega) (by omega), jsub_id (a := gSt γ (pSe P c)) (by omega) (by omega), if_pos (by omega), if_pos (by omega), if_pos (by omega), if_pos (by omega), e3, jsub_id (by omega) (by omega), e43 _ (fun k hk => jup_rw _ _ _ _ _ hk)]
    simp only [Option.bind_some]
    refine tail _ (fun k hk => jup_rw _ _ _ _ _ hk) (fun k k0 k1 => ?_)
    by_cases q : k = pSe P c
    · rw [if_pos q, q, jup_same]
    · rw [if_neg q, jup_row _ _ _ _ _ q]; exact c5 k k0 k1
