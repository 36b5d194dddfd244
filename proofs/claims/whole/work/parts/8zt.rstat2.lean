/-! PIT: the reference's statements: house, pit, settings -/
theorem t_houS (d : Nat) {G : jG} {X : jX} {T : aT} {P : aP} {κ : aK} {z : Int} (hG : GG G) (hT : okT T) (h : mPs X T P (nx T κ) z) (hO : pOk P) : enM G X T (jD (d + 8) 209 [(22, 149), (0, κ.1)] (G, X)) (houS T P κ) := by
  have hn := pOk_n hO
  obtain ⟨hB, hk, ⟨h5, h6⟩, hD, hz⟩ := id h
  rw [e_X12_houseTold, t_full (d + 5) hG h5 3 6 κ.1 (by omega) (by omega), hD.1.2.2.2.1]
  unfold houS
  by_cases q2 : pH P = 6
  · rw [if_pos q2, if_pos (show 6 ≤ pH P by omega)]
    simp only [Option.bind_some, Int.reduceLE, reduceIte]
    rw [if_neg (show ¬ (1 : Int) = 0 by omega)]
    exact enM_ft (Y := X) rfl (by omega) (mfP_r X)
  · rw [if_neg q2, if_neg (show ¬ 6 ≤ pH P by omega)]
    simp only [Option.bind_some, Int.reduceLE, reduceIte]
    refine c_newName (d + 2) hG hT h hO ?_ (fun g Y1 hg m1 => ?_)
    · intro w Y hY
      simp only [f_asks _ hY, f_number _ hY, Option.bind_some, if_neg hY, gr_149_40 hG, gl_181 hG, Int.reduceLE, Int.reduceLT, reduceIte]
      exact ⟨_, Y, rfl, rfl, rfl, mfP_r Y⟩
    dsimp only
    rw [gr_149_11 hG]
    refine c_asks (d + 3) hG hT m1 153 1 (by decide) ?_ (fun m2 => ?_)
    · intro w Y hY
      simp only [f_number _ hY, Option.bind_some, if_neg hY, gr_149_40 hG, gl_181 hG, Int.reduceLE, Int.reduceLT, reduceIte]
      exact ⟨_, Y, rfl, rfl, rfl, mfP_r Y⟩
    dsimp only
    rw [gr_149_40 hG, gl_181 hG, m2.2.2.2.1.1.1, jsub_id (by omega) (by omega)]
    simp only [Int.reduceLE, Int.reduceLT, reduceIte]
    refine c_number (d + 5) hG hT m2 0 (pC P - 1) ?_ (fun v hv m5 => ?_)
    · intro w Y hY
      simp only [if_neg hY]
      exact ⟨_, Y, rfl, rfl, rfl, mfP_r Y⟩
    dsimp only
    generalize nx T (nx T (nx T (nx T κ))) = κ' at *
    generalize tk (tk Y1 T (nx T (nx T κ))) T (nx T (nx T (nx T κ))) = W at *
    obtain ⟨nB, nk, ⟨n5, n6⟩, nD, nz⟩ := id m5
    simp only [n5, gr_149_40 hG, gr_149_41 hG, gl_181 hG, gl_182 hG, nD.1.2.2.2.1, jadd_id (a := 6) (b := pH P) (by omega) (by omega), Int.reduceLE, Int.reduceLT, reduceIte]
    rw [if_pos (show 0 ≤ 6 + pH P by omega), if_pos (show 6 + pH P < 24 by omega)]
    have e : ∀ (X : jX), X 181 3 = pH P → jN (d + 7) 209 63 [(22, 149), (0, κ.1), (1, nam g 6), (2, (-1)), (0, v)] [] (G, X) = some (0, (G, jup (jup X 185 (pH P) v) 181 3 (pH P + 1))) := fun X hX => by
      rw [h_X12_houseTold_63, gr_149_40 hG, gr_149_44 hG, gl_181 hG, gl_185 hG, hX]
      simp only [Int.reduceLE, Int.reduceLT, reduceIte]
      rw [if_pos (by omega), if_pos (by omega), h_X12_houseTold_76, gr_149_40 hG, gl_181 hG, jup_rw _ 185 _ _ 181 (by omega), hX, jadd_id (by omega) (by omega)]
      simp only [Int.reduceLE, Int.reduceLT, reduceIte]
      rw [h_X12_houseTold_86]
    rw [e _ (by rw [jup_rw _ _ _ _ _ (by omega)]; exact nD.1.2.2.2.1)]
    generalize hZ : jup (jup (jup W 182 (6 + pH P) (nam g 6)) 185 (pH P) v) 181 3 (pH P + 1) = Z
    have zk : ∀ k, k ≠ 181 → k ≠ 182 → k ≠ 185 → Z k = W k := fun k a b c => by rw [← hZ, jup_rw _ _ _ _ _ a, jup_rw _ _ _ _ _ c, jup_rw _ _ _ _ _ b]
    have z181 : ∀ j, Z 181 j = if j = 3 then pH P + 1 else W 181 j := fun j => by
      rw [← hZ]
      by_cases q : j = 3
      · rw [if_pos q, q, jup_same]
      · rw [if_neg q, jup_row _ _ _ _ _ q, jup_rw _ _ _ _ _ (by omega), jup_rw _ _ _ _ _ (by omega)]
    have z182 : ∀ j, Z 182 j = if j = 6 + pH P then nam g 6 else W 182 j := fun j => by
      rw [← hZ, jup_rw _ _ _ _ _ (by omega), jup_rw _ _ _ _ _ (by omega)]
      by_cases q : j = 6 + pH P
      · rw [if_pos q, q, jup_same]
      · rw [if_neg q, jup_row _ _ _ _ _ q]
    have z185 : ∀ j, Z 185 j = if j = pH P then v else W 185 j := fun j => by
      rw [← hZ, jup_rw _ _ _ _ _ (by omega)]
      by_cases q : j = pH P
      · rw [if_pos q, q, jup_same]
      · rw [if_neg q, jup_row _ _ _ _ _ q, jup_rw _ _ _ _ _ (by omega)]
    have hfP : mfP W Z := by
      rw [← hZ]
      exact mfP_t (mfP_w (by omega) (show 6 + pH P < 12 by omega)) (mfP_t (mfP_w (by omega) (show pH P < 6 by omega)) (mfP_w (by omega) (show (3 : Int) < 6 by omega)))
    refine ⟨0, Z, z, rfl, ⟨mB_P hfP nB, mK_e (by rw [zk 149 (by omega) (by omega) (by omega)]) (by rw [zk 149 (by omega) (by omega) (by omega)]) nk, ⟨by rw [zk 149 (by omega) (by omega) (by omega)]; exact n5, by rw [zk 149 (by omega) (by omega) (by omega)]; exact n6⟩, ?_, nz⟩, hfP⟩
    obtain ⟨a1, a2, a3, a4, a5, a6, a7⟩ := nD
    have fo : ∀ w o, mDF W z w o → mDF Z z w o := fun w o ho => by unfold mDF at *; rw [zk 187 (by omega) (by omega) (by omega), zk 188 (by omega) (by omega) (by omega), zk 189 (by omega) (by omega) (by omega)]; exact ho
    refine ⟨⟨by rw [z181, if_neg (by omega)]; exact a1.1, by rw [z181, if_neg (by omega)]; exact a1.2.1, by rw [z181, if_neg (by omega)]; exact a1.2.2.1, by rw [z181, if_pos rfl]; rfl, by rw [z181, if_neg (by omega)]; exact a1.2.2.2.2.1, by rw [z181, if_neg (by omega)]; exact a1.2.2.2.2.2⟩, by rw [zk 186 (by omega) (by omega) (by omega)]; exact a2, ⟨fo _ _ a3.1, fo _ _ a3.2.1, fo _ _ a3.2.2⟩, fun k k0 k1 => ?_, fun k k0 k1 => ?_, by rw [zk 184 (by omega) (by omega) (by omega)]; exact a6, by rw [zk 149 (by omega) (by omega) (by omega)]; exact a7⟩
    · have k1' : k < pK P := k1
      rw [zk 183 (by omega) (by omega) (by omega), z182, if_neg (by omega)]; exact a4 k k0 k1
    · have k1' : k < pH P + 1 := k1
      show Z 185 k = upF (pHc P) (pH P) v k ∧ Z 182 (6 + k) = nam (upF (pHn P) (pH P) g k) 6
      unfold upF
      rw [z185, z182]
      by_cases q : k = pH P
      · rw [if_pos q, if_pos q, if_pos (by omega), if_pos q]
        exact ⟨rfl, rfl⟩
      · rw [if_neg q, if_neg q, if_neg (by omega), if_neg q]
        exact a5 k k0 (by omega)
theorem c_sign (d : Nat) {G : jG} {X : jX} {T : aT} {P : aP} {κ : aK} {z : Int} {K : Int × (jG × jX) → jR} {R : rp} (hG : GG G) (hT : okT T) (h : mPs X T P κ z) (hK : offK G K) (hk : mPs (tk X T κ) T P (nx T κ) z → enM G (tk X T κ) T (K (0, (G, tk X T κ))) R) : enM G X T ((jD (d + 3) 198 [(22, 149), (0, 59)] (G, X)).bind K) (if mk T κ 59 = true then R else .inl (1, κ.1)) := by
  rw [t_asksSign d hG hT h.1 h.2.1 h.2.2.1.1 (by omega) (by omega)]
  by_cases q : mk T κ 59 = true
  · rw [if_pos q, if_pos q]
    have h0 : srt T κ.1 ≠ 0 := by
      have := ((mk_so (T := T) (κ := κ) (c := 59) (by omega)).1 q).1
      rcases so_b T κ with y | y <;> omega
    exact enM_b (mfP_9 (mf9_0 (tk_0 X T κ))) (hk (mPs_tk h0 h))
  · rw [if_neg q, if_neg q]
    exact enM_off (Y := fl X κ 1 κ.1) hK (fl_5 X κ 1 κ.1).1 (fl_5 X κ 1 κ.1).2 (show (1 : Int) ≠ 0 by omega) (mfP_9 (mf9_0 (fl_0 X κ 1 κ.1)))
def sgn (T : aT) (R : rp) : rp := bnp R (fun κ' P' => if mk T κ' 59 = true then .inr (nx T κ', P') else .inl (1, κ'.1))
theorem sgn_tW (T : aT) (w : Int) (κ : aK) (k : aK → rp) : sgn T (tW T w κ k) = tW T w κ (fun κ' => sgn T (k κ')) := by
  unfold sgn tW
  by_cases q : wd T κ = w
  · rw [if_pos q, if_pos q]
  · rw [if_neg q, if_neg q]; rfl
theorem sgn_tN (T : aT) (lo hi : Int) (κ : aK) (k : aK → Int → rp) : sgn T (tN T lo hi κ k) = tN T lo hi κ (fun κ' v => sgn T (k κ' v)) := by
  unfold sgn tN
  cases nmR T lo hi κ with
  | inl e => rfl
  | inr v => rfl
theorem mPs_w {X : jX} {T : aT} {P P' : aP} {κ : aK} {z k j v : Int} (hk : 181 ≤ k ∧ k ≤ 189) (hj : j < hiL k) (h : mPs X T P κ z) (hD : mDr (jup X k j v) P' z) : mPs (jup X k j v) T P' κ z :=
  ⟨mB_P (mfP_w hk hj) h.1, mK_e (by rw [jup_rw _ _ _ _ _ (by omega)]) (by rw [jup_rw _ _ _ _ _ (by omega)]) h.2.1, ⟨by rw [jup_rw _ _ _ _ _ (by omega)]; exact h.2.2.1.1, by rw [jup_rw _ _ _ _ _ (by omega)]; exact h.2.2.1.2⟩, hD, h.2.2.2.2⟩
theorem t_pitS (d : Nat) {G : jG} {X : jX} {T : aT} {P : aP} {κ : aK} {z : Int} (hG : GG G) (hT : okT T) (h : mPs X T P κ z) (hO : pOk P) (hR0 : pR P = 0) : enM G X T (jD (d + 8) 206 [(22, 149)] (G, X)) (sgn T (pitS T P κ)) := by
  unfold pitS
  rw [sgn_tW, e_X12_pitTold]
  simp only [Int.reduceLE, reduceIte]
  rw [gr_149_10 hG]
  refine c_asks (d + 3) hG hT h 152 0 (by decide) ?_ (fun m1 => ?_)
  · intro w Y hY
    have y1 : ∀ v, jup Y 181 0 v 149 5 ≠ 0 := fun v => by rw [jup_rw _ _ _ _ _ (by omega)]; exact hY
    have y2 : ∀ v u, jup (jup Y 181 0 v) 181 5 u 149 5 ≠ 0 := fun v u => by rw [jup_rw _ _ _ _ _ (by omega)]; exact y1 v
    simp only [f_asks _ hY, f_number _ hY, f_asks _ (y1 _), f_number _ (y1 _), f_sign _ (y2 _ _), Option.bind_some, gr_149_40 hG, gl_181 hG, Int.reduceLE, Int.reduceLT, reduceIte]
    exact ⟨_, jup (jup Y 181 0 0) 181 5 0, rfl, by rw [jup_rw _ _ _ _ _ (by omega), jup_rw _ _ _ _ _ (by omega)], by rw [jup_rw _ _ _ _ _ (by omega), jup_rw _ _ _ _ _ (by omega)], mfP_t (mfP_w (by omega) (show (0 : Int) < 6 by omega)) (mfP_w (by omega) (show (5 : Int) < 6 by omega))⟩
  dsimp only
  rw [sgn_tN]
  refine c_number (d + 5) hG hT m1 3 8 ?_ (fun v hv m2 => ?_)
  · intro w Y hY
    have y1 : ∀ v, jup Y 181 0 v 149 5 ≠ 0 := fun v => by rw [jup_rw _ _ _ _ _ (by omega)]; exact hY
    have y2 : ∀ v u, jup (jup Y 181 0 v) 181 5 u 149 5 ≠ 0 := fun v u => by rw [jup_rw _ _ _ _ _ (by omega)]; exact y1 v
    simp only [f_asks _ (y1 _), f_number _ (y1 _), f_sign _ (y2 _ _), Option.bind_some, gr_149_40 hG, gl_181 hG, Int.reduceLE, Int.reduceLT, reduceIte]
    exact ⟨_, jup (jup Y 181 0 w) 181 5 0, rfl, by rw [jup_rw _ _ _ _ _ (by omega), jup_rw _ _ _ _ _ (by omega)], by rw [jup_rw _ _ _ _ _ (by omega), jup_rw _ _ _ _ _ (by omega)], mfP_t (mfP_w (by omega) (show (0 : Int) < 6 by omega)) (mfP_w (by omega) (show (5 : Int) < 6 by omega))⟩
  have hv2 := nmR_ok hv
  dsimp only
  generalize nx T (nx T κ) = κ2 at *
  generalize tk (tk X T κ) T (nx T κ) = W at *
  have m3 : mPs (jup W 181 0 v) T (setC P v (pS P)) κ2 z := by
    obtain ⟨a1, a2, a3, a4, a5, a6, a7⟩ := m2.2.2.2.1
    have e : ∀ k, k ≠ 181 → jup W 181 0 v k = W k := fun k hk => jup_rw _ _ _ _ _ hk
    have e1 : ∀ j, j ≠ 0 → jup W 181 0 v 181 j = W 181 j := fun j hj => jup_row _ _ _ _ _ hj
    have fo : ∀ w o, mDF W z w o → mDF (jup W 181 0 v) z w o := fun w o ho => by unfold mDF at *; rw [e 187 (by omega), e 188 (by omega), e 189 (by omega)]; exact ho
    exact mPs_w (by omega) (show (0 : Int) < 6 by omega) m2 ⟨⟨by rw [jup_same]; rfl, by rw [e1 1 (by omega)]; exact a1.2.1, by rw [e1 2 (by omega)]; exact a1.2.2.1, by rw [e1 3 (by omega)]; exact a1.2.2.2.1, by rw [e1 4 (by omega)]; exact a1.2.2.2.2.1, by rw [e1 5 (by omega)]; exact a1.2.2.2.2.2⟩, by rw [e 186 (by omega)]; exact a2, ⟨fo _ _ a3.1, fo _ _ a3.2.1, fo _ _ a3.2.2⟩, by rw [e 182 (by omega), e 183 (by omega)]; exact a4, by rw [e 182 (by omega), e 185 (by omega)]; exact a5, fun r c r0 r1 => by have : r < pR P := r1; omega, by rw [e 149 (by omega)]; exact a7⟩
  rw [sgn_tW]
  simp only [gr_149_40 hG, gr_149_11 hG, gl_181 hG, Int.reduceLE, Int.reduceLT, reduceIte]
  refine enM_b (mfP_w (by omega) (show (0 : Int) < 6 by omega)) (c_asks (d + 3) hG hT m3 153 1 (by decide) ?_ (fun m4 => ?_))
  · intro w Y hY
    have y2 : ∀ u, jup Y 181 5 u 149 5 ≠ 0 := fun u => by rw [jup_rw _ _ _ _ _ (by omega)]; exact hY
    simp only [f_number _ hY, f_sign _ (y2 _), Option.bind_some, gr_149_40 hG, gl_181 hG, Int.reduceLE, Int.reduceLT, reduceIte]
    exact ⟨_, jup Y 181 5 0, rfl, by rw [jup_rw _ _ _ _ _ (by omega)], by rw [jup_rw _ _ _ _ _ (by omega)], mfP_w (by omega) (show (5 : Int) < 6 by omega)⟩
  rw [sgn_tN]
  generalize nx T κ2 = κ3 at *
  generalize tk (jup W 181 0 v) T κ2 = W3 at *
  have e0 : W3 181 0 = v := m4.2.2.2.1.1.1
  simp only [gr_149_40 hG, gl_181 hG, e0, jsub_id (a := v) (b := 1) (by omega) (by omega), Int.reduceLE, Int.reduceLT, reduceIte]
  refine c_number (d + 5) hG hT m4 0 (v - 1) ?_ (fun s hs m5 => ?_)
  · intro w Y hY
    have y2 : ∀ u, jup Y 181 5 u 149 5 ≠ 0 := fun u => by rw [jup_rw _ _ _ _ _ (by omega)]; exact hY
    simp only [f_sign _ (y2 _), Option.bind_some, gr_149_40 hG, gl_181 hG, Int.reduceLE, Int.reduceLT, reduceIte]
    exact ⟨_, jup Y 181 5 w, rfl, by rw [jup_rw _ _ _ _ _ (by omega)], by rw [jup_rw _ _ _ _ _ (by omega)], mfP_w (by omega) (show (5 : Int) < 6 by omega)⟩
  generalize nx T κ3 = κ4 at *
  generalize tk W3 T κ3 = W4 at *
  have m6 : mPs (jup W4 181 5 s) T (setC P v s) κ4 z := by
    obtain ⟨a1, a2, a3, a4, a5, a6, a7⟩ := m5.2.2.2.1
    have e : ∀ k, k ≠ 181 → jup W4 181 5 s k = W4 k := fun k hk => jup_rw _ _ _ _ _ hk
    have e1 : ∀ j, j ≠ 5 → jup W4 181 5 s 181 j = W4 181 j := fun j hj => jup_row _ _ _ _ _ hj
    have fo : ∀ w o, mDF W4 z w o → mDF (jup W4 181 5 s) z w o := fun w o ho => by unfold mDF at *; rw [e 187 (by omega), e 188 (by omega), e 189 (by omega)]; exact ho
    exact mPs_w (by omega) (show (5 : Int) < 6 by omega) m5 ⟨⟨by rw [e1 0 (by omega)]; exact a1.1, by rw [e1 1 (by omega)]; exact a1.2.1, by rw [e1 2 (by omega)]; exact a1.2.2.1, by rw [e1 3 (by omega)]; exact a1.2.2.2.1, by rw [e1 4 (by omega)]; exact a1.2.2.2.2.1, by rw [jup_same]; rfl⟩, by rw [e 186 (by omega)]; exact a2, ⟨fo _ _ a3.1, fo _ _ a3.2.1, fo _ _ a3.2.2⟩, by rw [e 182 (by omega), e 183 (by omega)]; exact a4, by rw [e 182 (by omega), e 185 (by omega)]; exact a5, fun r c r0 r1 => by have : r < pR P := r1; omega, by rw [e 149 (by omega)]; exact a7⟩
  show enM G W4 T _ (if mk T κ4 59 = true then .inr (nx T κ4, setC P v s) else .inl (1, κ4.1))
  simp only [gr_149_40 hG, gl_181 hG, Int.reduceLE, Int.reduceLT, reduceIte]
  refine enM_b (mfP_w (by omega) (show (5 : Int) < 6 by omega)) (c_sign (d + 4) hG hT m6 ?_ (fun m7 => ?_))
  · intro w Y hY
    exact ⟨_, Y, rfl, rfl, rfl, mfP_r Y⟩
  · exact ⟨0, _, z, rfl, m7, mfP_r _⟩
/-- a setting -/
theorem t_setSt (d : Nat) {G : jG} {X : jX} {T : aT} {P : aP} {κ : aK} {z : Int} (hG : GG G) (hT : okT T) (h : mPs X T P (nx T κ) z) (w lo hi : Int) (w0 : 0 ≤ w) (w1 : w < 3) : enM G X T ((jD (d + 2) 199 [(22, 149), (0, lo), (0, hi)] (G, X)).bind fun q => some (0, (q.2.1, jup q.2.2 186 w q.1))) (setSt T P w lo hi κ) := by
  unfold setSt
  refine c_number d hG hT h lo hi ?_ (fun v hv m2 => ?_)
  · intro u Y hY
    exact ⟨_, jup Y 186 w u, rfl, by rw [jup_rw _ _ _ _ _ (by omega)], by rw [jup_rw _ _ _ _ _ (by omega)], mfP_w (by omega) (show w < 3 by omega)⟩
  generalize nx T (nx T κ) = κ2 at *
  generalize tk X T (nx T κ) = W at *
  refine ⟨0, jup W 186 w v, z, rfl, mPs_w (by omega) (show w < 3 by omega) m2 ?_, mfP_w (by omega) (show w < 3 by omega)⟩
  obtain ⟨a1, a2, a3, a4, a5, a6, a7⟩ := m2.2.2.2.1
  have e : ∀ k, k ≠ 186 → jup W 186 w v k = W k := fun k hk => jup_rw _ _ _ _ _ hk
  have fo : ∀ w' o, mDF W z w' o → mDF (jup W 186 w v) z w' o := fun w o ho => by unfold mDF at *; rw [e 187 (by omega), e 188 (by omega), e 189 (by omega)]; exact ho
  have ej : ∀ j, jup W 186 w v 186 j = if w = j then v else W 186 j := fun j => by
    by_cases q : j = w
    · rw [if_pos q.symm, q, jup_same]
    · rw [if_neg (fun y => q y.symm), jup_row _ _ _ _ _ q]
  refine ⟨by rw [e 181 (by omega)]; exact a1, ⟨?_, ?_, ?_⟩, ⟨fo _ _ a3.1, fo _ _ a3.2.1, fo _ _ a3.2.2⟩, by rw [e 182 (by omega), e 183 (by omega)]; exact a4, by rw [e 182 (by omega), e 185 (by omega)]; exact a5, by rw [e 184 (by omega)]; exact a6, by rw [e 149 (by omega)]; exact a7⟩
  · rw [ej, a2.1]; rfl
  · rw [ej, a2.2.1]; rfl
  · rw [ej, a2.2.2]; rfl
