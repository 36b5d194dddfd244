/-! PIT: the reference's statements, step by step -/
def offK (G : jG) (K : Int × (jG × jX) → jR) : Prop := ∀ w Y, Y 149 5 ≠ 0 → ∃ w' Z, K (w, (G, Y)) = some (w', (G, Z)) ∧ Z 149 5 = Y 149 5 ∧ Z 149 6 = Y 149 6 ∧ mfP Y Z
theorem enM_b {G : jG} {X Y : jX} {T : aT} {L : jR} {R : rp} (hf : mfP X Y) (h : enM G Y T L R) : enM G X T L R := by
  cases R with
  | inl e => obtain ⟨w, Z, a1, a2, a3, a4, a5⟩ := h; exact ⟨w, Z, a1, a2, a3, a4, mfP_t hf a5⟩
  | inr q => obtain ⟨w, Z, z, a1, a2, a3⟩ := h; exact ⟨w, Z, z, a1, a2, mfP_t hf a3⟩
theorem enM_off {G : jG} {X Y : jX} {T : aT} {K : Int × (jG × jX) → jR} {u : Int} {e : Int × Int} (hK : offK G K) (h5 : Y 149 5 = e.1) (h6 : Y 149 6 = e.2) (he : e.1 ≠ 0) (hf : mfP X Y) : enM G X T (K (u, (G, Y))) (.inl e) := by
  obtain ⟨w', Z, a1, a2, a3, a4⟩ := hK u Y (by rw [h5]; exact he)
  exact ⟨w', Z, a1, by rw [a2, h5], by rw [a3, h6], he, mfP_t hf a4⟩
theorem c_asks (d : Nat) {G : jG} {X : jX} {T : aT} {P : aP} {κ : aK} {z : Int} {K : Int × (jG × jX) → jR} {k : aK → rp} (hG : GG G) (hT : okT T) (h : mPs X T P κ z) (c : Int) (j : Nat) (hc : (c, j) ∈ wcl) (hK : offK G K) (hk : mPs (tk X T κ) T P (nx T κ) z → enM G (tk X T κ) T (K (0, (G, tk X T κ))) (k (nx T κ))) : enM G X T ((jD (d + 4) 196 [(22, 149), (23, c)] (G, X)).bind K) (tW T j κ k) := by
  rw [t_asks d hG hT h.1 h.2.1 h.2.2.1.1 c j hc]
  unfold tW
  by_cases q : wd T κ = j
  · rw [if_pos q, if_pos q]
    have h0 : srt T κ.1 ≠ 0 := by
      have := wd_so (T := T) (κ := κ) (by omega)
      rcases so_b T κ with y | y <;> omega
    exact enM_b (mfP_9 (mf9_0 (tk_0 X T κ))) (hk (mPs_tk h0 h))
  · rw [if_neg q, if_neg q]
    exact enM_off (Y := fl X κ 1 κ.1) hK (fl_5 X κ 1 κ.1).1 (fl_5 X κ 1 κ.1).2 (show (1 : Int) ≠ 0 by omega) (mfP_9 (mf9_0 (fl_0 X κ 1 κ.1)))
theorem c_number (d : Nat) {G : jG} {X : jX} {T : aT} {P : aP} {κ : aK} {z : Int} {K : Int × (jG × jX) → jR} {k : aK → Int → rp} (hG : GG G) (hT : okT T) (h : mPs X T P κ z) (lo hi : Int) (hK : offK G K) (hk : ∀ v, nmR T lo hi κ = .inr v → mPs (tk X T κ) T P (nx T κ) z → enM G (tk X T κ) T (K (v, (G, tk X T κ))) (k (nx T κ) v)) : enM G X T ((jD (d + 2) 199 [(22, 149), (0, lo), (0, hi)] (G, X)).bind K) (tN T lo hi κ k) := by
  have hn := t_number d hG hT h.1 h.2.1 h.2.2.1.1 lo hi
  unfold tN
  cases e : nmR T lo hi κ with
  | inl ee =>
    rw [e] at hn
    obtain ⟨w, Y, a1, a2, a3, a4, a5⟩ := hn
    rw [a1]
    exact enM_off hK a2 a3 a4 (mfP_9 (mf9_0 a5))
  | inr v =>
    rw [e] at hn
    have hn' : jD (d + 2) 199 [(22, 149), (0, lo), (0, hi)] (G, X) = some (v, (G, tk X T κ)) := hn
    rw [hn']
    have h0 : srt T κ.1 ≠ 0 := by
      have := (nmR_ok e).1
      rcases so_b T κ with y | y <;> omega
    exact enM_b (mfP_9 (mf9_0 (tk_0 X T κ))) (hk v e (mPs_tk h0 h))
theorem c_newName (d : Nat) {G : jG} {X : jX} {T : aT} {P : aP} {κ : aK} {z : Int} {K : Int × (jG × jX) → jR} {k : aK → (Int → Int) → rp} (hG : GG G) (hT : okT T) (h : mPs X T P κ z) (hO : pOk P) (hK : offK G K) (hk : ∀ g Y, nmO g → mPs Y T P (nx T κ) z → enM G Y T (K (nam g 6, (G, Y))) (k (nx T κ) g)) : enM G X T ((jD (d + 5) 205 [(22, 149)] (G, X)).bind K) (giv T P κ k) := by
  have hn := t_newName d hG hT h hO
  rw [giv_gvN]
  cases e : gvN T P κ with
  | inl ee =>
    rw [e] at hn
    obtain ⟨w, Y, a1, a2, a3, a4, a5⟩ := hn
    rw [a1]
    exact enM_off hK a2 a3 a4 (mfP_9 a5)
  | inr g =>
    rw [e] at hn
    obtain ⟨Y, a1, a2, a3, a4⟩ := hn
    rw [a1]
    exact enM_b (mfP_9 a3) (hk g Y a4 a2)
theorem t_kinS (d : Nat) {G : jG} {X : jX} {T : aT} {P : aP} {κ : aK} {z : Int} (hG : GG G) (hT : okT T) (h : mPs X T P (nx T κ) z) (hO : pOk P) (hF : ∀ k, pK P ≤ k → k < 5 → pFo P k = 0) : enM G X T (jD (d + 8) 207 [(22, 149), (0, κ.1)] (G, X)) (kinS T P κ) := by
  have hn := pOk_n hO
  obtain ⟨hB, hk, ⟨h5, h6⟩, hD, hz⟩ := id h
  rw [e_X12_kindTold, h5, gr_149_40 hG, gl_181 hG, hD.1.2.1]
  simp only [Int.reduceLE, Int.reduceLT, reduceIte]
  unfold kinS
  by_cases q1 : 0 < pR P
  · rw [if_pos q1, if_pos (show 5 ≤ pK P ∨ 0 < pR P from Or.inr q1), t_fail (d + 6) h5]
    simp only [Option.bind_some]
    rw [h_X12_kindTold_22, show jup (jup X 149 5 5) 149 6 κ.1 = ft X 5 κ.1 from rfl, f_full (d + 6) (by rw [(ft_5 X 5 κ.1).1]; omega)]
    simp only [Option.bind_some, Int.reduceLE, reduceIte]
    rw [if_neg (show ¬ (1 : Int) = 0 by omega)]
    exact enM_ft rfl (by omega) (mfP_r X)
  · rw [if_neg q1, h_X12_kindTold_22, t_full (d + 5) hG h5 2 5 κ.1 (by omega) (by omega), hD.1.2.2.1]
    by_cases q2 : pK P = 5
    · rw [if_pos q2, if_pos (show 5 ≤ pK P ∨ 0 < pR P by omega)]
      simp only [Option.bind_some, Int.reduceLE, reduceIte]
      rw [if_neg (show ¬ (1 : Int) = 0 by omega)]
      exact enM_ft (Y := X) rfl (by omega) (mfP_r X)
    · rw [if_neg q2, if_neg (show ¬ (5 ≤ pK P ∨ 0 < pR P) by omega)]
      simp only [Option.bind_some, Int.reduceLE, reduceIte]
      refine c_newName (d + 2) hG hT h hO ?_ (fun g Y1 hg m1 => ?_)
      · intro w Y hY
        simp only [f_asks _ hY, f_number _ hY, Option.bind_some, if_neg hY]
        exact ⟨_, Y, rfl, rfl, rfl, mfP_r Y⟩
      dsimp only
      rw [gr_149_13 hG]
      refine c_asks (d + 3) hG hT m1 155 3 (by decide) ?_ (fun m2 => ?_)
      · intro w Y hY
        simp only [f_asks _ hY, f_number _ hY, Option.bind_some, if_neg hY]
        exact ⟨_, Y, rfl, rfl, rfl, mfP_r Y⟩
      dsimp only
      refine c_number (d + 5) hG hT m2 1 99 ?_ (fun v hv m3 => ?_)
      · intro w Y hY
        simp only [f_asks _ hY, f_number _ hY, Option.bind_some, if_neg hY]
        exact ⟨_, Y, rfl, rfl, rfl, mfP_r Y⟩
      dsimp only
      rw [gr_149_14 hG]
      refine c_asks (d + 3) hG hT m3 156 4 (by decide) ?_ (fun m4 => ?_)
      · intro w Y hY
        simp only [f_number _ hY, Option.bind_some, if_neg hY]
        exact ⟨_, Y, rfl, rfl, rfl, mfP_r Y⟩
      dsimp only
      refine c_number (d + 5) hG hT m4 0 99 ?_ (fun a ha m5 => ?_)
      · intro w Y hY
        simp only [if_neg hY]
        exact ⟨_, Y, rfl, rfl, rfl, mfP_r Y⟩
      dsimp only
      generalize hκ : nx T (nx T (nx T (nx T (nx T (nx T κ))))) = κ' at *
      generalize tk (tk (tk (tk Y1 T (nx T (nx T κ))) T (nx T (nx T (nx T κ)))) T (nx T (nx T (nx T (nx T κ))))) T (nx T (nx T (nx T (nx T (nx T κ))))) = W at *
      obtain ⟨nB, nk, ⟨n5, n6⟩, nD, nz⟩ := id m5
      simp only [n5, gr_149_40 hG, gr_149_41 hG, gl_181 hG, gl_182 hG, nD.1.2.2.1, Int.reduceLE, Int.reduceLT, reduceIte]
      rw [if_pos (show 0 ≤ pK P by omega), if_pos (show pK P < 24 by omega)]
      have e : ∀ (X : jX), X 181 2 = pK P → jN (d + 7) 207 92 [(22, 149), (0, κ.1), (1, nam g 6), (2, (-1)), (0, v), (0, a)] [] (G, X) = some (0, (G, jup (jup (jup (jup X 183 (3 * pK P) v) 183 (3 * pK P + 1) a) 183 (3 * pK P + 2) 0) 181 2 (pK P + 1))) := fun X hX => by
        rw [h_X12_kindTold_92, gr_149_40 hG, gr_149_42 hG, gl_181 hG, gl_183 hG, hX, jmul_id (by omega) (by omega)]
        simp only [Int.reduceLE, Int.reduceLT, reduceIte]
        rw [if_pos (by omega), if_pos (by omega), h_X12_kindTold_107, gr_149_40 hG, gr_149_42 hG, gl_181 hG, gl_183 hG, jup_rw _ 183 _ _ 181 (by omega), hX, jmul_id (by omega) (by omega), jadd_id (by omega) (by omega)]
        simp only [Int.reduceLE, Int.reduceLT, reduceIte]
        rw [if_pos (by omega), if_pos (by omega), h_X12_kindTold_124, gr_149_40 hG, gr_149_42 hG, gl_181 hG, gl_183 hG, jup_rw _ 183 _ _ 181 (by omega), jup_rw _ 183 _ _ 181 (by omega), hX, jmul_id (by omega) (by omega), jadd_id (by omega) (by omega)]
        simp only [Int.reduceLE, Int.reduceLT, reduceIte]
        rw [if_pos (by omega), if_pos (by omega), h_X12_kindTold_140, gr_149_40 hG, gl_181 hG, jup_rw _ 183 _ _ 181 (by omega), jup_rw _ 183 _ _ 181 (by omega), jup_rw _ 183 _ _ 181 (by omega), hX, jadd_id (by omega) (by omega)]
        simp only [Int.reduceLE, Int.reduceLT, reduceIte]
        rw [h_X12_kindTold_150]
      rw [e _ (by rw [jup_rw _ _ _ _ _ (by omega)]; exact nD.1.2.2.1)]
      generalize hZ : jup (jup (jup (jup (jup W 182 (pK P) (nam g 6)) 183 (3 * pK P) v) 183 (3 * pK P + 1) a) 183 (3 * pK P + 2) 0) 181 2 (pK P + 1) = Z
      have zk : ∀ k, k ≠ 181 → k ≠ 182 → k ≠ 183 → Z k = W k := fun k a b c => by rw [← hZ, jup_rw _ _ _ _ _ a, jup_rw _ _ _ _ _ c, jup_rw _ _ _ _ _ c, jup_rw _ _ _ _ _ c, jup_rw _ _ _ _ _ b]
      have z181 : ∀ j, Z 181 j = if j = 2 then pK P + 1 else W 181 j := fun j => by
        rw [← hZ]
        by_cases q : j = 2
        · rw [if_pos q, q, jup_same]
        · rw [if_neg q, jup_row _ _ _ _ _ q, jup_rw _ _ _ _ _ (by omega), jup_rw _ _ _ _ _ (by omega), jup_rw _ _ _ _ _ (by omega), jup_rw _ _ _ _ _ (by omega)]
      have z182 : ∀ j, Z 182 j = if j = pK P then nam g 6 else W 182 j := fun j => by
        rw [← hZ, jup_rw _ _ _ _ _ (by omega), jup_rw _ _ _ _ _ (by omega), jup_rw _ _ _ _ _ (by omega), jup_rw _ _ _ _ _ (by omega)]
        by_cases q : j = pK P
        · rw [if_pos q, q, jup_same]
        · rw [if_neg q, jup_row _ _ _ _ _ q]
      have z183 : ∀ j, Z 183 j = if j = 3 * pK P + 2 then 0 else if j = 3 * pK P + 1 then a else if j = 3 * pK P then v else W 183 j := fun j => by
        rw [← hZ, jup_rw _ _ _ _ _ (by omega)]
        by_cases q : j = 3 * pK P + 2
        · rw [if_pos q, q, jup_same]
        · rw [if_neg q, jup_row _ _ _ _ _ q]
          by_cases q' : j = 3 * pK P + 1
          · rw [if_pos q', q', jup_same]
          · rw [if_neg q', jup_row _ _ _ _ _ q']
            by_cases q'' : j = 3 * pK P
            · rw [if_pos q'', q'', jup_same]
            · rw [if_neg q'', jup_row _ _ _ _ _ q'', jup_rw _ _ _ _ _ (by omega)]
      have hfP : mfP W Z := by
        rw [← hZ]
        exact mfP_t (mfP_w (by omega) (show pK P < 12 by omega)) (mfP_t (mfP_w (by omega) (show 3 * pK P < 15 by omega)) (mfP_t (mfP_w (by omega) (show 3 * pK P + 1 < 15 by omega)) (mfP_t (mfP_w (by omega) (show 3 * pK P + 2 < 15 by omega)) (mfP_w (by omega) (show (2 : Int) < 6 by omega)))))
      refine ⟨0, Z, z, rfl, ⟨mB_P hfP nB, mK_e (by rw [zk 149 (by omega) (by omega) (by omega)]) (by rw [zk 149 (by omega) (by omega) (by omega)]) nk, ⟨by rw [zk 149 (by omega) (by omega) (by omega)]; exact n5, by rw [zk 149 (by omega) (by omega) (by omega)]; exact n6⟩, ?_, nz⟩, hfP⟩
      obtain ⟨a1, a2, a3, a4, a5, a6, a7⟩ := nD
      have fo : ∀ w o, mDF W z w o → mDF Z z w o := fun w o ho => by unfold mDF at *; rw [zk 187 (by omega) (by omega) (by omega), zk 188 (by omega) (by omega) (by omega), zk 189 (by omega) (by omega) (by omega)]; exact ho
      refine ⟨⟨by rw [z181, if_neg (by omega)]; exact a1.1, by rw [z181, if_neg (by omega)]; exact a1.2.1, by rw [z181, if_pos rfl]; rfl, by rw [z181, if_neg (by omega)]; exact a1.2.2.2.1, by rw [z181, if_neg (by omega)]; exact a1.2.2.2.2.1, by rw [z181, if_neg (by omega)]; exact a1.2.2.2.2.2⟩, by rw [zk 186 (by omega) (by omega) (by omega)]; exact a2, ⟨fo _ _ a3.1, fo _ _ a3.2.1, fo _ _ a3.2.2⟩, fun k k0 k1 => ?_, fun h h0 h1 => ⟨by rw [zk 185 (by omega) (by omega) (by omega)]; exact (a5 h h0 h1).1, by rw [z182, if_neg (by omega)]; exact (a5 h h0 h1).2⟩, by rw [zk 184 (by omega) (by omega) (by omega)]; exact a6, by rw [zk 149 (by omega) (by omega) (by omega)]; exact a7⟩
      have k1' : k < pK P + 1 := k1
      show Z 183 (3 * k) = upF (pRe P) (pK P) v k ∧ Z 183 (3 * k + 1) = upF (pGa P) (pK P) a k ∧ Z 183 (3 * k + 2) = pFo P k ∧ Z 182 k = nam (upF (pKn P) (pK P) g k) 6
      unfold upF
      rw [z183, z183, z183, z182]
      by_cases q : k = pK P
      · rw [if_neg (by omega), if_neg (by omega), if_pos (by omega), if_pos q, if_neg (by omega), if_pos (by omega), if_pos q, if_pos (by omega), if_pos q, if_pos q]
        exact ⟨rfl, rfl, by rw [q]; exact (hF (pK P) (by omega) (by omega)).symm, rfl⟩
      · rw [if_neg (by omega), if_neg (by omega), if_neg (by omega), if_neg q, if_neg (by omega), if_neg (by omega), if_neg (by omega), if_neg q, if_neg (by omega), if_neg (by omega), if_neg (by omega), if_neg q, if_neg q]
        exact a4 k k0 (by omega)
