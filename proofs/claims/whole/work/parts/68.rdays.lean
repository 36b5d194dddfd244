/-! DAYS, the reference -/
theorem t_drawOf (d : Nat) {G : jG} {X : jX} (m s : Int) (hs : X 149 80 = s) (h0 : 0 ≤ s) (h1 : s ≤ 2147483647) (hm : 0 < m) (hm1 : m ≤ 100) : jD (d + 1) 280 [(22, 149), (0, m)] (G, X) = some (nxs s / 64 % m, (G, jup X 149 80 (nxs s))) := by
  have hn := nxs_le s
  have e : lrem (ladd (lmul 1103515245 (X 149 80)) 12345) 2147483648 = nxs s := by
    rw [hs, lmul_id (by omega) (by omega), ladd_id (by omega) (by omega), lrem_id (by omega)]
    rfl
  have k0 := Int.emod_nonneg (nxs s / 64) (b := m) (by omega)
  have k1 := Int.emod_lt_of_pos (nxs s / 64) (b := m) hm
  rw [e_X12_drawOf, e, jup_same, ldiv_id hn.1 (by omega) (by omega), lrem_id (by omega), w32_i (by omega) (by omega)]
  simp only [Int.reduceLE, reduceIte]
  rw [if_neg (by omega)]
theorem t_blasts_n (d : Nat) {G : jG} {P : aP} (c b k0 : Int) (hG : GG G) (hO : pOk P) (hi : inP P c) : ∀ (n : Nat) (X : jX) (γ : aG) (v : Int) (u : jV), u.1 = 2 ∨ u.1 = 0 → mPlan X P → mGr X 190 0 γ → v + n = 4 → 0 ≤ v → ∃ X', jN (d + 2) 281 31 [(22, 149), (0, c), (0, b), (0, k0), (0, v), u] [] (G, X) = some (0, (G, jup X' 190 (8 + c) 3)) ∧ (∀ k, k ≠ 190 → X' k = X k) ∧ (∀ j, j < 8 → X' 190 j = X 190 j) ∧ ∀ i, 0 ≤ i → i < 48 → X' 190 (0 + 8 + i) = if b01 (∃ w, v ≤ w ∧ w < 4 ∧ i = nV P c w ∧ opn (gCe γ) i) = 1 then 3 else gCe γ i := by
  have hcc := pCe_le hO
  have hi' : 0 ≤ c ∧ c < pCe P := hi
  intro n
  induction n with
  | zero =>
    intro X γ v u hu hP hγ h0 h1
    refine ⟨X, ?_, fun _ _ => rfl, fun _ _ => rfl, fun i i0 i1 => ?_⟩
    · rw [h_X12_blasts_31 _ _ _ _ _ _ _ hu, if_neg (by omega), gr_149_53 hG, gl_190 hG, jadd_id (by omega) (by omega)]
      simp only [Int.reduceLE, reduceIte]
      rw [if_pos (by omega), if_pos (by omega)]
    · rw [b01_f (by rintro ⟨w, q1, q2, -⟩; omega), if_neg (by omega)]; exact hγ.2.1 i i0 i1
  | succ n ih =>
    intro X γ v u hu hP hγ h0 h1
    have hn := nV_le (w := v) hO hi
    rw [h_X12_blasts_31 _ _ _ _ _ _ _ hu, if_pos (by omega), t_beside d c v hG hP hO hi h1 (by omega)]
    simp only [Option.bind_some, Int.reduceLE, reduceIte]
    rw [jadd_id (a := v) (by omega) (by omega)]
    have skip : ¬ opn (gCe γ) (nV P c v) → ∃ X', jN (d + 2) 281 31 [(22, 149), (0, c), (0, b), (0, k0), (0, v + 1), (0, nV P c v)] [] (G, X) = some (0, (G, jup X' 190 (8 + c) 3)) ∧ (∀ k, k ≠ 190 → X' k = X k) ∧ (∀ j, j < 8 → X' 190 j = X 190 j) ∧ ∀ i, 0 ≤ i → i < 48 → X' 190 (0 + 8 + i) = if b01 (∃ w, v ≤ w ∧ w < 4 ∧ i = nV P c w ∧ opn (gCe γ) i) = 1 then 3 else gCe γ i := by
      intro h
      obtain ⟨X', e', f', f'', c'⟩ := ih X γ (v + 1) (0, nV P c v) (Or.inr rfl) hP hγ (by omega) (by omega)
      refine ⟨X', e', f', f'', fun i i0 i1 => ?_⟩
      rw [c' i i0 i1]
      have : (∃ w, v + 1 ≤ w ∧ w < 4 ∧ i = nV P c w ∧ opn (gCe γ) i) ↔ (∃ w, v ≤ w ∧ w < 4 ∧ i = nV P c w ∧ opn (gCe γ) i) := by
        constructor
        · rintro ⟨w, q1, q2⟩; exact ⟨w, by omega, q2⟩
        · rintro ⟨w, q1, q2, q3, q4⟩
          by_cases q : w = v
          · subst q; rw [← q3] at h; exact absurd q4 h
          · exact ⟨w, by omega, q2, q3, q4⟩
      rw [propext this]
    by_cases hm1 : nV P c v = -1
    · rw [if_pos hm1]; exact skip (by unfold opn; omega)
    rw [if_neg hm1, t_isOpen d _ hG hγ (by omega) (by omega)]
    simp only [Option.bind_some]
    rcases b01_or (opn (gCe γ) (nV P c v)) with ⟨e, h⟩ | ⟨e, h⟩
    · rw [if_pos e]; exact skip h
    · rw [if_neg (by omega), gr_149_53 hG, gl_190 hG, jadd_id (by omega) (by omega)]
      simp only [Int.reduceLE, reduceIte]
      rw [if_pos (by omega), if_pos (by omega)]
      have hγ' : mGr (jup X 190 (8 + nV P c v) 3) 190 0 (γ.1, γ.2.1, fun i => if i = nV P c v then 3 else gCe γ i) := by
        refine ⟨⟨?_, ?_, ?_⟩, fun i i0 i1 => ?_, fun k k0 k1 => ?_⟩
        · rw [jup_row _ _ _ _ _ (by omega)]; exact hγ.1.1
        · rw [jup_row _ _ _ _ _ (by omega)]; exact hγ.1.2.1
        · rw [jup_row _ _ _ _ _ (by omega)]; exact hγ.1.2.2
        · show _ = if i = nV P c v then 3 else gCe γ i
          by_cases q : i = nV P c v
          · rw [if_pos q, q, show (0 : Int) + 8 + nV P c v = 8 + nV P c v by omega, jup_same]
          · rw [if_neg q, jup_row _ _ _ _ _ (by omega)]; exact hγ.2.1 i i0 i1
        · rw [jup_row _ _ _ _ _ (by omega)]; exact hγ.2.2 k k0 k1
      obtain ⟨X', e', f', f'', c'⟩ := ih (jup X 190 (8 + nV P c v) 3) _ (v + 1) (0, nV P c v) (Or.inr rfl) (mPlan_fr (fun a h1 h2 => jup_rw _ _ _ _ _ (by omega)) (by rw [jup_rw _ _ _ _ _ (by omega)]) hP) hγ' (by omega) (by omega)
      refine ⟨X', e', fun k hk => by rw [f' k hk, jup_rw _ _ _ _ _ hk], fun j hj => by rw [f'' j hj, jup_row _ _ _ _ _ (by omega)], fun i i0 i1 => ?_⟩
      rw [c' i i0 i1]
      show (if b01 (∃ w, v + 1 ≤ w ∧ w < 4 ∧ i = nV P c w ∧ opn (fun i => if i = nV P c v then 3 else gCe γ i) i) = 1 then 3 else (if i = nV P c v then 3 else gCe γ i)) = _
      by_cases q : i = nV P c v
      · have : ∃ w, v ≤ w ∧ w < 4 ∧ i = nV P c w ∧ opn (gCe γ) i := ⟨v, by omega, by omega, q, by rw [q]; exact h⟩
        rw [if_pos q, b01_t this, if_pos rfl]
        split <;> rfl
      · have : (∃ w, v + 1 ≤ w ∧ w < 4 ∧ i = nV P c w ∧ opn (fun i => if i = nV P c v then 3 else gCe γ i) i) ↔ (∃ w, v ≤ w ∧ w < 4 ∧ i = nV P c w ∧ opn (gCe γ) i) := by
          constructor
          · rintro ⟨w, q1, q2, q3, q4⟩
            exact ⟨w, by omega, q2, q3, (opn_up q).mp q4⟩
          · rintro ⟨w, q1, q2, q3, q4⟩
            refine ⟨w, ?_, q2, q3, (opn_up q).mpr q4⟩
            by_cases qq : w = v
            · subst qq; exact absurd q3 q
            · omega
        rw [propext this, if_neg q]
theorem nV_bsd {P : aP} {c i : Int} (h0 : 0 ≤ i) : (∃ w, 0 ≤ w ∧ w < 4 ∧ i = nV P c w) ↔ bsd P c i := by
  constructor
  · rintro ⟨w, w0, w1, rfl⟩
    rw [nV_nW] at h0 ⊢
    exact nW_bsd (by repeat' split <;> omega) (by repeat' split <;> omega) h0
  · rintro ⟨-, h⟩
    rcases h with h | h | h | h
    · exact ⟨2, by omega, by omega, h⟩
    · exact ⟨0, by omega, by omega, h⟩
    · exact ⟨1, by omega, by omega, h⟩
    · exact ⟨3, by omega, by omega, h⟩
theorem t_blasts (d : Nat) {G : jG} {X : jX} {P : aP} {γ : aG} (c w : Int) (hG : GG G) (hP : mPlan X P) (hO : pOk P) (hi : inP P c) (hγ : mGr X 190 0 γ) (hk : pSe P c ≠ -1) (hw1 : j32 (gWo γ - w)) (hs : ∀ k, 0 ≤ k → k < 5 → j32 (gSt γ k - 1)) : ∃ X', jD (d + 4) 281 [(22, 149), (0, c), (0, w)] (G, X) = some (0, (G, X')) ∧ mGr X' 190 0 (bls P γ c w) ∧ (∀ k, k ≠ 190 → X' k = X k) := by
  have hcc := pCe_le hO
  have hkk := pOk_c hO c hi.1 hi.2
  have hn := pOk_n hO
  unfold j32 at hw1 hs
  have hsk := hs (pSe P c) (by omega) (by omega)
  obtain ⟨⟨c1, c2, c3⟩, c4, c5⟩ := id hγ
  have c2 : X 190 1 = gWo γ := c2
  have e3 : X 190 (3 + pSe P c) = gSt γ (pSe P c) := by rw [show 3 + pSe P c = 0 + 3 + pSe P c by omega]; exact c5 _ (by omega) (by omega)
  rw [e_X12_blasts, t_kindAt d c hG hP hO hi]
  simp only [Option.bind_some, Int.reduceLE, reduceIte]
  rw [gr_149_53 hG, gl_190 hG, jadd_id (by omega) (by omega), e3, jsub_id (a := gSt γ (pSe P c)) (by omega) (by omega), jup_row _ _ _ _ _ (show (1 : Int) ≠ 3 + pSe P c by omega), c2, jsub_id (by omega) (by omega)]
  simp only [Int.reduceLE, Int.reduceLT, reduceIte]
  rw [if_pos (by omega), if_pos (by omega), if_pos (by omega), if_pos (by omega)]
  have hγ' : mGr (jup (jup X 190 (3 + pSe P c) (gSt γ (pSe P c) - 1)) 190 1 (gWo γ - w)) 190 0 ((gPr γ, gWo γ - w, gRe γ), (fun k => if k = pSe P c then gSt γ k - 1 else gSt γ k), gCe γ) := by
    refine ⟨⟨?_, ?_, ?_⟩, fun i i0 i1 => ?_, fun k k0 k1 => ?_⟩
    · rw [jup_row _ _ _ _ _ (by omega), jup_row _ _ _ _ _ (by omega)]; exact c1
    · exact jup_same _ _ _ _
    · rw [jup_row _ _ _ _ _ (by omega), jup_row _ _ _ _ _ (by omega)]; exact c3
    · rw [jup_row _ _ _ _ _ (by omega), jup_row _ _ _ _ _ (by omega)]; exact c4 i i0 i1
    · show _ = if k = pSe P c then gSt γ k - 1 else gSt γ k
      rw [jup_row _ _ _ _ _ (by omega)]
      by_cases q : k = pSe P c
      · rw [if_pos q, q, show (0 : Int) + 3 + pSe P c = 3 + pSe P c by omega, jup_same]
      · rw [if_neg q, jup_row _ _ _ _ _ (by omega)]; exact c5 k k0 k1
  obtain ⟨X', e', f', f'', c'⟩ := t_blasts_n (d + 1) c w (pSe P c) hG hO hi 4 _ _ 0 (2, -1) (Or.inl rfl) (mPlan_fr (X := X) (fun a h1 h2 => by rw [jup_rw _ _ _ _ _ (by omega), jup_rw _ _ _ _ _ (by omega)]) (by rw [jup_rw _ _ _ _ _ (by omega), jup_rw _ _ _ _ _ (by omega)]) hP) hγ' rfl (by omega)
  have hi' : 0 ≤ c ∧ c < pCe P := hi
  refine ⟨_, e', ⟨⟨?_, ?_, ?_⟩, fun i i0 i1 => ?_, fun k k0 k1 => ?_⟩, fun k hk => by rw [jup_rw _ _ _ _ _ hk, f' k hk, jup_rw _ _ _ _ _ hk, jup_rw _ _ _ _ _ hk]⟩
  · rw [jup_row _ _ _ _ _ (by omega), f'' _ (by omega)]; exact hγ'.1.1
  · rw [jup_row _ _ _ _ _ (by omega), f'' _ (by omega)]; exact hγ'.1.2.1
  · rw [jup_row _ _ _ _ _ (by omega), f'' _ (by omega)]; exact hγ'.1.2.2
  · show _ = if i = c ∨ b01 (bsd P c i ∧ opn (gCe γ) i) = 1 then 3 else gCe γ i
    by_cases q : i = c
    · rw [if_pos (Or.inl q), q, show (0 : Int) + 8 + c = 8 + c by omega, jup_same]
    · rw [jup_row _ _ _ _ _ (by omega), c' i i0 i1]
      show (if b01 (∃ w, 0 ≤ w ∧ w < 4 ∧ i = nV P c w ∧ opn (gCe γ) i) = 1 then 3 else gCe γ i) = _
      have : (∃ w, 0 ≤ w ∧ w < 4 ∧ i = nV P c w ∧ opn (gCe γ) i) ↔ (bsd P c i ∧ opn (gCe γ) i) := by
        rw [← nV_bsd i0]
        constructor
        · rintro ⟨w, w0, w1, w2, w3⟩; exact ⟨⟨w, w0, w1, w2⟩, w3⟩
        · rintro ⟨⟨w, w0, w1, w2⟩, w3⟩; exact ⟨w, w0, w1, w2, w3⟩
      rw [propext this]
      by_cases qq : b01 (bsd P c i ∧ opn (gCe γ) i) = 1
      · rw [if_pos qq, if_pos (Or.inr qq)]
      · rw [if_neg qq, if_neg (fun h => by rcases h with h | h; exact q h; exact qq h)]
  · rw [jup_row _ _ _ _ _ (by omega), f'' _ (by omega)]; exact hγ'.2.2 k k0 k1
theorem cset_0 {P : aP} {st : Int → Int} (hO : pOk P) : cset P st = 0 ↔ nct P st = 0 := by
  have hcc := pCe_le hO
  unfold cset nct
  rw [← pcF_cnt (ct0 P st) (ct0_01 P st)]
  constructor
  · intro h
    have : bsN (ct0 P st) (pCe P).toNat = 0 := by omega
    rw [this, pcF_0]; rfl
  · intro h
    rcases Nat.eq_zero_or_pos (bsN (ct0 P st) (pCe P).toNat) with q | q
    · rw [q]; rfl
    · have := pcF_drop _ _ (bsN_lt (ct0 P st) (pCe P).toNat) q
      omega
/-- what a day writes: the ground, the seed -/
def mfD (X X' : jX) : Prop := (∀ k, k ≠ 149 → k ≠ 190 → k ≠ 192 → k ≠ 229 → X' k = X k) ∧ (∀ j, ¬ (55 ≤ j ∧ j ≤ 62) → j ≠ 115 → j ≠ 64 → j ≠ 80 → X' 149 j = X 149 j)
theorem mfD_r (X : jX) : mfD X X := ⟨fun _ _ _ _ _ => rfl, fun _ _ _ _ _ => rfl⟩
theorem mfD_t {X Y Z : jX} (h1 : mfD X Y) (h2 : mfD Y Z) : mfD X Z := ⟨fun k a b c e => by rw [h2.1 k a b c e, h1.1 k a b c e], fun j a b c e => by rw [h2.2 j a b c e, h1.2 j a b c e]⟩
theorem mfD_C {X Y : jX} (h : mfC X Y) : mfD X Y := ⟨h.1, fun j a b c _ => h.2 j a b c⟩
theorem mfD_S {X : jX} (z : Int) : mfD X (jup X 149 80 z) := ⟨fun k a _ _ _ => jup_rw _ _ _ _ _ a, fun j _ _ _ e => jup_row _ _ _ _ _ e⟩
theorem mfD_P {X X' : jX} {P : aP} (h : mfD X X') (hP : mPlan X P) : mPlan X' P := mPlan_fr (fun a h1 h2 => h.1 a (by omega) (by omega) (by omega) (by omega)) (h.2 51 (by omega) (by omega) (by omega) (by omega)) hP
theorem t_day (d : Nat) {G : jG} {X : jX} {P : aP} {q : aG × Int} (hG : GG G) (hP : mPlan X P) (hO : pOk P) (hgO : gOk P q.1) (hγ : mGr X 190 0 q.1) (hs : X 149 80 = q.2) (hs2 : 0 ≤ q.2 ∧ q.2 ≤ 2147483647) : ∃ X', jD (d + 8) 282 [(22, 149)] (G, X) = some ((dayS P q).2, (G, X')) ∧ mGr X' 190 0 (dayS P q).1.1 ∧ X' 149 80 = (dayS P q).1.2 ∧ mfD X X' := by
  have hcc := pCe_le hO
  obtain ⟨X1, e1, f1⟩ := t_cuttable d hG hP hO hγ
  have m1 : mfD X X1 := mfD_C (mfC_R f1)
  have hz0 : lCmp (cset P (gCe q.1)) 0 = 0 ↔ nct P (gCe q.1) = 0 := by
    rw [← cset_0 hO]; unfold lCmp; grind
  rw [e_X12_dayGoes, e1]
  simp only [Option.bind_some, Int.reduceLE, reduceIte]
  unfold dayS
  by_cases hn : nct P (gCe q.1) = 0
  · rw [if_pos (hz0.mpr hn), if_pos hn]
    exact ⟨X1, rfl, mfR_G f1 (by omega) (by omega) (by omega) hγ, by rw [f1.2 80 (by omega) (by omega)]; exact hs, m1⟩
  rw [if_neg (fun w => hn (hz0.mp w)), if_neg hn]
  obtain ⟨hi, hw, hz, k0, k1, k2⟩ := dayC_ok (s := q.2) hO hn
  have hwl := wth_le (γ := q.1) hO hi
  obtain ⟨d1, d2, d3, d4⟩ := gOk_dig hO hgO hi hz hwl.1 hwl.2
  have ebits := t_bitsOf (d + 6) (G := G) (X := X1) (ct0 P (gCe q.1)) (pCe P).toNat (by omega) (ct0_01 P (gCe q.1))
  change jD (d + 7) 245 [(1, cset P (gCe q.1))] (G, X1) = some (nct P (gCe q.1), (G, X1)) at ebits
  rw [ebits]
  simp only [Option.bind_some]
  have hc0 := ct0_cnt P (gCe q.1) (pCe P).toNat
  have hnc : nct P (gCe q.1) = cnt (ct0 P (gCe q.1)) (pCe P).toNat := rfl
  rw [t_drawOf (d + 6) (nct P (gCe q.1)) q.2 (by rw [f1.2 80 (by omega) (by omega)]; exact hs) hs2.1 hs2.2 (by omega) (by omega)]
  simp only [Option.bind_some]
  have eone := t_oneOf (d + 6) (G := G) (X := jup X1 149 80 (nxs q.2)) (ct0 P (gCe q.1)) (ct0_01 P (gCe q.1)) (pCe P).toNat (by omega) (nxs q.2 / 64 % nct P (gCe q.1)) k0 k1 (by omega)
  change jD (d + 7) 246 [(1, cset P (gCe q.1)), (0, nxs q.2 / 64 % nct P (gCe q.1))] (G, jup X1 149 80 (nxs q.2)) = some (dayC P q.1 q.2, (G, jup X1 149 80 (nxs q.2))) at eone
  rw [eone]
  simp only [Option.bind_some]
  have m2 : mfD X (jup X1 149 80 (nxs q.2)) := mfD_t m1 (mfD_S _)
  have g2 : mGr (jup X1 149 80 (nxs q.2)) 190 0 q.1 := mGr_fr (jup_rw _ _ _ _ _ (by omega)) (mfR_G f1 (by omega) (by omega) (by omega) hγ)
  obtain ⟨X3, e3, g3, f3, -⟩ := t_isCut (d + 1) (dayC P q.1 q.2) hG (mfD_P m2 hP) hO hgO hi g2 hwl.1 hwl.2
  rw [e3]
  simp only [Option.bind_some]
  have m3 : mfD X X3 := mfD_t m2 (mfD_C f3)
  have ns := nxs_le q.2
  have x80 : X3 149 80 = nxs q.2 := by rw [f3.2 80 (by omega) (by omega) (by omega), jup_same]
  rw [t_drawOf (d + 6) 100 (nxs q.2) x80 ns.1 ns.2 (by omega) (by omega)]
  simp only [Option.bind_some]
  have m4 : mfD X (jup X3 149 80 (nxs (nxs q.2))) := mfD_t m3 (mfD_S _)
  have p4 := mfD_P m4 hP
  have g4 : mGr (jup X3 149 80 (nxs (nxs q.2))) 190 0 (cut1 P q.1 (dayC P q.1 q.2)) := mGr_fr (jup_rw _ _ _ _ _ (by omega)) g3
  have hk := pOk_c hO _ hi.1 hi.2
  rw [t_kindAt (d + 4) _ hG p4 hO hi]
  simp only [Option.bind_some]
  rw [t_gasOf (d + 6) _ hG p4 hO hk.1 hk.2]
  simp only [Option.bind_some]
  by_cases hb : nxs (nxs q.2) / 64 % 100 < gsO P (pSe P (dayC P q.1 q.2))
  · rw [if_pos hb, if_pos hb]
    have hwq := d1.2.2.2.1
    have hq48 := nwh_le (gCe (cut1 P q.1 (dayC P q.1 q.2))) 48
    obtain ⟨X6, e6, g6, f6⟩ := t_blasts (d + 3) (dayC P q.1 q.2) (wth P (gCe q.1) (dayC P q.1 q.2)) hG p4 hO hi g4 (by intro w; unfold gsO at hb; rw [if_pos w] at hb; omega) (by unfold j32 cut1; unfold cut1 at hq48; omega) (fun k k0 k1 => by have := d1.2.2.2.2.2.2.1 k k0 k1; unfold j32 cut1; unfold cut1 at hq48; omega)
    rw [e6]
    simp only [Option.bind_some]
    exact ⟨X6, rfl, g6, by rw [f6 149 (by omega), jup_same], mfD_t m4 ⟨fun k _ h _ _ => f6 k h, fun j _ _ _ _ => by rw [f6 149 (by omega)]⟩⟩
  · rw [if_neg hb, if_neg hb]
    exact ⟨_, rfl, g4, jup_same _ _ _ _, m4⟩
theorem t_days_n (d : Nat) {G : jG} {P : aP} (hG : GG G) (hO : pOk P) (N : Int) (hN : N ≤ 30) : ∀ (n : Nat) (X : jX) (q : aG × Int) (b k : Int), mPlan X P → gOk P q.1 → mGr X 190 0 q.1 → X 149 80 = q.2 → (0 ≤ q.2 ∧ q.2 ≤ 2147483647) → 0 ≤ k → k + n = N → 0 ≤ b → b ≤ k → ∃ X', jN (d + 8) 283 39 [(22, 149), (0, N), (0, b), (0, k)] [] (G, X) = some (b + (daysS P n q).2, (G, X')) ∧ mGr X' 190 0 (daysS P n q).1.1 ∧ X' 149 80 = (daysS P n q).1.2 ∧ mfD X X' := by
  intro n
  induction n with
  | zero =>
    intro X q b k hP hg hγ hs hs2 h0 h1 h2 h3
    rw [h_X12_days_39, if_neg (by omega)]
    exact ⟨X, by show some (b, _) = some (b + 0, _); rw [Int.add_zero], hγ, hs, mfD_r X⟩
  | succ n ih =>
    intro X q b k hP hg hγ hs hs2 h0 h1 h2 h3
    obtain ⟨X1, e1, g1, s1, f1⟩ := t_day d hG hP hO hg hγ hs hs2
    obtain ⟨o1, o2, o3⟩ := dayS_ok hO hg hs2
    rw [h_X12_days_39, if_pos (by omega), if_pos (by omega), e1]
    simp only [Option.bind_some]
    rw [jadd_id (a := k) (by omega) (by omega), jadd_id (a := b) (by omega) (by omega)]
    have go : ∀ b' : Int, b' = b + (dayS P q).2 → 0 ≤ b' → b' ≤ k + 1 → ∃ X', jN (d + 8) 283 39 [(22, 149), (0, N), (0, b'), (0, k + 1)] [] (G, X1) = some (b + (daysS P (n + 1) q).2, (G, X')) ∧ mGr X' 190 0 (daysS P (n + 1) q).1.1 ∧ X' 149 80 = (daysS P (n + 1) q).1.2 ∧ mfD X X' := by
      intro b' hb' q0 q1
      obtain ⟨X', e', g', s', f'⟩ := ih X1 (dayS P q).1 b' (k + 1) (mfD_P f1 hP) o1 g1 s1 o2 (by omega) (by omega) q0 q1
      refine ⟨X', ?_, g', s', mfD_t f1 f'⟩
      rw [e', hb']
      show some (b + (dayS P q).2 + (daysS P n (dayS P q).1).2, _) = some (b + ((dayS P q).2 + (daysS P n (dayS P q).1).2), _)
      rw [Int.add_assoc]
    rcases o3 with o3 | o3
    · rw [if_pos o3]; exact go b (by omega) h2 (by omega)
    · rw [if_neg (by omega)]; exact go (b + 1) (by omega) (by omega) (by omega)
theorem daysS_ok {P : aP} (hO : pOk P) : ∀ (n : Nat) (q : aG × Int), gOk P q.1 → (0 ≤ q.2 ∧ q.2 ≤ 2147483647) → gOk P (daysS P n q).1.1 ∧ (0 ≤ (daysS P n q).1.2 ∧ (daysS P n q).1.2 ≤ 2147483647)
  | 0, _, h1, h2 => ⟨h1, h2⟩
  | n + 1, q, h1, h2 => daysS_ok hO n _ (dayS_ok hO h1 h2).1 (dayS_ok hO h1 h2).2.1
theorem call_days (n : Int) : okB 169 283 [(0, n)] := by
  refine ⟨fun A => if 1 ≤ n ∧ n ≤ 30 ∧ pN (aPl A) ≠ 0 then (daysS (aPl A) n.toNat (aGr A, aSd A)).2 else -1, fun A => if 1 ≤ n ∧ n ≤ 30 ∧ pN (aPl A) ≠ 0 then setS (setG (setH A (ph (aGr A) (aHi A))) (daysS (aPl A) n.toNat (aGr A, aSd A)).1.1) (daysS (aPl A) n.toNat (aGr A, aSd A)).1.2 else refu A 3, fun d G X A hG hR hV => ?_, fun d G X A hG hR hV => ?_, fun A hV => ?_⟩
  · dsimp only
    obtain ⟨r1, r2, r3, r4, r5, r6, r7, r8, r9, r10, r11⟩ := id hR
    have hO := hV.2.1
    have hpn := pOk_n hO
    have refs := fun X1 : jX => s_refuse (d + 58) (X := X1) 3 hG (by omega) (by omega)
    have told : jD (d + 59) 54 [(14, 1)] (G, X) = some (if 0 < pN (aPl A) then 1 else 0, (G, X)) := by
      rw [e_X4_isTold, (cPlan_at r3).1]; simp only [Int.reduceLE, reduceIte]; split <;> rfl
    rw [e_X11_days, refs, gr_0_2 hG, told]
    simp only [Option.bind_some, Int.reduceLE, reduceIte]
    by_cases hq : 1 ≤ n ∧ n ≤ 30 ∧ pN (aPl A) ≠ 0
    · rw [if_neg (by omega), if_neg (by omega), if_pos hq, if_pos hq, if_pos (show 0 < pN (aPl A) by omega), if_neg (show ¬ (1 : Int) = 0 by omega)]
      obtain ⟨X3, e3, h3, n9, n10, f3⟩ := s_beginAct (d + 56) hG r4 r5 hV.2.2.2.1.1
      have g3 := cGr_fr (g := 25) (f3 _ (by omega)) (f3 _ (by omega)) (f3 _ (by omega)) r4
      have p3 := cPlan_fr (X' := X3) (fun a h1 h2 => f3 a (by omega)) r3
      obtain ⟨X4, e4, g4, s4, f4, f4'⟩ := s_days_n (d + 51) hG hO n hq.2.1 n.toNat X3 (aGr A, aSd A) 0 0 p3 hV.2.2.1 g3 (by rw [f3 0 (by omega)]; exact r8) hV.2.2.2.2.2.1 (by omega) (by omega) (by omega) (by omega)
      rw [e3]
      simp only [Option.bind_some]
      rw [Int.zero_add] at e4
      refine ⟨G, X4, e4, hG, ?_, fun a ha => by rw [f4 a (by omega) (by omega) (by omega), f3 a (by omega)]⟩
      have fr : ∀ a, a ≠ 0 → ¬ (25 ≤ a ∧ a ≤ 27) → ¬ (37 ≤ a ∧ a ≤ 41) → ¬ (42 ≤ a ∧ a ≤ 104) → X4 a = X a := fun a h0 h1 h2 h3 => by rw [f4 a h0 h1 h2, f3 a h3]
      have fr0 : ∀ j, j ≠ 18 → X4 0 j = X 0 j := fun j hj => by rw [f4' j hj, f3 0 (by omega)]
      exact ⟨cTa_fr (fr _ (by omega) (by omega) (by omega) (by omega)) (fr _ (by omega) (by omega) (by omega) (by omega)) r1, by rw [fr0 16 (by omega), fr0 17 (by omega)]; exact r2, cPlan_fr (fun a h1 h2 => fr a (by omega) (by omega) (by omega) (by omega)) r3, g4, cHi_fr (fun a h1 h2 => f4 a (by omega) (by omega) (by omega)) h3, cJu_fr (fr0 _ (by omega)) (fr _ (by omega) (by omega) (by omega) (by omega)) r6, cBo_fr (fr _ (by omega) (by omega) (by omega) (by omega)) (fr _ (by omega) (by omega) (by omega) (by omega)) r7, s4, cPi_fr (fr _ (by omega) (by omega) (by omega) (by omega)) (fr _ (by omega) (by omega) (by omega) (by omega)) r9, cRf_fr (fr _ (by omega) (by omega) (by omega) (by omega)) r10, ⟨Or.inl (by rw [f4 104 (by omega) (by omega) (by omega)]; exact n9), Or.inl (by rw [f4 104 (by omega) (by omega) (by omega)]; exact n10)⟩⟩
    · rw [if_neg hq, if_neg hq]
      refine ⟨G, jup X 147 3 (jadd (X 147 3) 1), ?_, hG, RC_refu 3 (by omega) (by omega) hR, fun a ha => jup_rw _ _ _ _ _ (by omega)⟩
      by_cases q1 : n < 1
      · rw [if_pos q1]
      · rw [if_neg q1]
        by_cases q2 : 30 < n
        · rw [if_pos q2]
        · rw [if_neg q2, if_neg (show ¬ 0 < pN (aPl A) by omega), if_pos rfl, refs]
          rfl
  · dsimp only
    obtain ⟨r1, r2, r3, r4, r5, r6, r7, r8, r9, r10, r11⟩ := id hR
    have hO := hV.2.1
    have hpn := pOk_n hO
    rw [e_X12_days, gr_149_9 hG, gl_151 hG, r3.1, t_isIn (d + 58)]
    simp only [Option.bind_some, Int.reduceLE, Int.reduceLT, reduceIte]
    rw [gr_149_9 hG, gl_151 hG]
    simp only [Int.reduceLE, Int.reduceLT, reduceIte]
    by_cases hq : 1 ≤ n ∧ n ≤ 30 ∧ pN (aPl A) ≠ 0
    · rw [if_pos hq, if_pos hq, if_neg hq.2.2, if_neg (show ¬ (1 : Int) = 0 by omega), if_pos (show 1 ≤ n ∧ n ≤ 30 by omega), if_neg (show ¬ (1 : Int) = 0 by omega)]
      obtain ⟨X3, e3, h3, f3, k3⟩ := t_keeps (d + 58) hG r4 r5 hV.2.2.2.1.1
      have p3 : mPlan X3 (aPl A) := mPlan_fr (fun a h1 h2 => f3 a (by omega) (by omega)) (k3 _ (by omega) (by omega)) r3
      obtain ⟨X4, e4, g4, s4, f4⟩ := t_days_n (d + 51) hG hO n hq.2.1 n.toNat X3 (aGr A, aSd A) 0 0 p3 hV.2.2.1 (mGr_fr (f3 _ (by omega) (by omega)) r4) (by rw [k3 80 (by omega) (by omega)]; exact r8) hV.2.2.2.2.2.1 (by omega) (by omega) (by omega) (by omega)
      rw [e3]
      simp only [Option.bind_some]
      rw [Int.zero_add] at e4
      refine ⟨X4, e4, ?_, fun a ha => by rw [f4.1 a (by omega) (by omega) (by omega) (by omega), f3 a (by omega) (by omega)]⟩
      have fr : ∀ a, sM a → a ≠ 190 → a ≠ 201 → X4 a = X a := fun a h0 h1 h2 => by unfold sM at h0; rw [f4.1 a (by omega) (by omega) (by omega) (by omega), f3 a (by omega) h2]
      have fn : ∀ j, sN j → j ≠ 78 → j ≠ 79 → j ≠ 80 → X4 149 j = X 149 j := fun j h0 h1 h2 h3 => by unfold sN at h0; rw [f4.2 j (by omega) (by omega) (by omega) h3, k3 j h1 h2]
      unfold sM at fr
      unfold sN at fn
      exact ⟨mTa_fr (fn _ (by omega) (by omega) (by omega) (by omega)) (fr _ (by omega) (by omega) (by omega)) r1, by rw [fn 7 (by omega) (by omega) (by omega) (by omega), fn 8 (by omega) (by omega) (by omega) (by omega)]; exact r2, mPlan_fr (fun a h1 h2 => fr a (by omega) (by omega) (by omega)) (fn _ (by omega) (by omega) (by omega) (by omega)) r3, g4, mHi_fr (f4.2 _ (by omega) (by omega) (by omega) (by omega)) (f4.2 _ (by omega) (by omega) (by omega) (by omega)) (f4.1 _ (by omega) (by omega) (by omega) (by omega)) h3, mJu_fr (fun j h1 h2 => fn j (by omega) (by omega) (by omega) (by omega)) r6, mBo_fr (fn _ (by omega) (by omega) (by omega) (by omega)) (fr _ (by omega) (by omega) (by omega)) r7, s4, mPi_fr (fn _ (by omega) (by omega) (by omega) (by omega)) (fr _ (by omega) (by omega) (by omega)) r9, mRf_fr (fr _ (by omega) (by omega) (by omega)) r10, mWd_fr (fun a h1 => fr a (by omega) (by omega) (by omega)) r11⟩
    · rw [if_neg hq, if_neg hq]
      refine ⟨jup X 151 3 (jadd (X 151 3) 1), ?_, RM_refu 3 (by omega) (by omega) hR, fun a ha => jup_rw _ _ _ _ _ (by omega)⟩
      by_cases q1 : pN (aPl A) = 0
      · rw [if_pos q1, if_pos rfl]
      · rw [if_neg q1, if_neg (show ¬ (1 : Int) = 0 by omega), if_neg (show ¬ (1 ≤ n ∧ n ≤ 30) by omega), if_pos rfl]
  · dsimp only
    by_cases hq : 1 ≤ n ∧ n ≤ 30 ∧ pN (aPl A) ≠ 0
    · rw [if_pos hq]
      have h := daysS_ok hV.2.1 n.toNat (aGr A, aSd A) hV.2.2.1 hV.2.2.2.2.2.1
      exact ⟨hV.1, hV.2.1, h.1, ph_in hV.2.2.1 hV.2.2.2.1.2, hV.2.2.2.2.1, h.2, hV.2.2.2.2.2.2⟩
    · rw [if_neg hq]; exact hV
