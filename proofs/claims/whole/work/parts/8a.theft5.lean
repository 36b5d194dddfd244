theorem dT_z {R S : Int → Int} (hR : ∀ k, 1 ≤ R k ∧ R k ≤ 99) (hS : ∀ k, 0 ≤ S k) (m : Nat) (k b : Int) (h : ¬ (0 ≤ b ∧ b ≤ cp R S m k)) : dT R S dlt m k b = 0 := by
  have h1 := dT_nn R S m k b
  rcases Int.lt_or_le 0 (dT R S dlt m k b) with q | q
  · obtain ⟨x, x1, x2⟩ := (dT_gt hS m k b).mp q
    have := sx_cp hR m k x1
    exact absurd ⟨by omega, by omega⟩ h
  · omega
theorem tk_win {b r s cap x : Int} (hr : 1 ≤ r) (x0 : 0 ≤ x) (x1 : x ≤ s) (h : ¬ (((if 0 < b - cap then b - cap else 0) + r - 1) / r ≤ x ∧ x ≤ (if b / r < s then b / r else s))) : ¬ (0 ≤ b - x * r ∧ b - x * r ≤ cap) := by
  intro w
  apply h
  constructor
  · rcases Int.lt_or_le x (((if 0 < b - cap then b - cap else 0) + r - 1) / r) with q | q
    · exfalso
      have h2 : (x + 1) * r ≤ (if 0 < b - cap then b - cap else 0) + r - 1 := (Int.le_ediv_iff_mul_le (by omega)).mp q
      rw [Int.add_mul, Int.one_mul] at h2
      have : 0 ≤ x * r := Int.mul_nonneg x0 (by omega)
      split at h2 <;> omega
    · exact q
  · have h2 : x ≤ b / r := (Int.le_ediv_iff_mul_le (by omega)).mpr (by omega)
    split <;> omega
theorem s_take_S (d : Nat) {G : jG} {P : aP} {γ : aG} {K m : Nat} (hG : GG G) (hO : pOk P) (hg : gOk P γ) (hK : (K : Int) = pK P) (IH : tkP P γ K G m (d + 4)) : tkP P γ K G (m + 1) (d + 5) := by
  intro k X Q y c b h1 hP hγ hcap h6 c0 c2 b0 b1 hQ hy
  have hn := pOk_n hO
  have hRR : ∀ k, 1 ≤ tR P k ∧ tR P k ≤ 99 := fun k => tR_le hO k
  have hSS : ∀ k, 0 ≤ tS γ k ∧ tS γ k ≤ 68 := fun k => tS_le hg k
  have hr := hRR k
  have hs := hSS k
  have eR : X 4 k = tR P k := by rw [(hP.2.2.2.1 k (by omega) (by omega)).1]; unfold tR; rw [if_pos (by omega)]
  have eS' : X 27 k = tS γ k := by
    have := hγ.2.2 k (by omega) (by omega)
    rw [show (25 : Int) + 2 = 27 from rfl] at this
    rw [this]; unfold tS; rw [if_pos (by omega)]
  have cap0 := hcap k (Nat.le_refl k) (by omega)
  have cap1 := hcap (k + 1) (by omega) (by omega)
  rw [show K - k = m + 1 by omega] at cap0
  rw [show K - (k + 1) = m by omega, show ((k + 1 : Nat) : Int) = (k : Int) + 1 by omega] at cap1
  have hc0 := cp_le hRR hSS (m + 1) k
  have hc1 := cp_le hRR hSS m ((k : Int) + 1)
  rw [e_X9_take, s_kindsX (d + 2) hG hP hO]
  simp only [Option.bind_some, Int.reduceLE, reduceIte]
  rw [if_pos (by omega), gr_140_0 hG, gr_1_10 hG, gl_4 hG, gr_140_5 hG, gl_144 hG, eR, cap0, jadd_id (a := (k : Int)) (by omega) (by omega), cap1]
  simp only [if_pos (show (0 : Int) ≤ k by omega), if_pos (show (k : Int) < 5 by omega), if_pos (show (k : Int) < 6 by omega), if_pos (show (0 : Int) ≤ (k : Int) + 1 by omega), if_pos (show (k : Int) + 1 < 6 by omega), if_pos (show 0 < tR P k by omega), if_neg (show ¬ tR P k = 0 by omega), Int.reduceLE, reduceIte]
  by_cases q : cp (tR P) (tS γ) (m + 1) k < b
  · rw [if_pos q]
    have ez := dT_z hRR (fun k => (hSS k).1) (m + 1) k b (by omega)
    refine ⟨X, rfl, by omega, ?_, fun _ _ _ _ => rfl, fun _ _ => rfl⟩
    have : (fun x => Q x ∨ nwS (tR P) (tS γ) y k (m + 1) b x) = Q := by
      funext x
      refine propext ⟨fun h => ?_, Or.inl⟩
      rcases h with h | h
      · exact h
      · have := sx_cp hRR (m + 1) k h.2.1
        have h3 := h.2.2
        exfalso; omega
    rw [this]; exact hQ
  · have hbr : b / tR P k ≤ b := Int.ediv_le_self _ b0
    have hb0 : 0 ≤ b / tR P k := Int.ediv_nonneg b0 (by omega)
    rw [if_neg q, jsub_id (by omega) (by omega), s_max (d + 3)]
    simp only [Option.bind_some]
    rw [gr_140_1 hG, gr_25_1 hG, gl_27 hG, eS', jdiv_id b0 (by omega) (by omega), s_min (d + 3)]
    simp only [Option.bind_some, if_pos (show (0 : Int) ≤ k by omega), if_pos (show (k : Int) < 5 by omega), Int.reduceLE, reduceIte]
    have hl0 : 0 ≤ (if 0 < b - cp (tR P) (tS γ) m ((k : Int) + 1) then b - cp (tR P) (tS γ) m ((k : Int) + 1) else 0) ∧ (if 0 < b - cp (tR P) (tS γ) m ((k : Int) + 1) then b - cp (tR P) (tS γ) m ((k : Int) + 1) else 0) ≤ 100000 := by split <;> omega
    have hwin := fun x x0 x1 => tk_win (b := b) (r := tR P k) (s := tS γ k) (cap := cp (tR P) (tS γ) m ((k : Int) + 1)) (x := x) hr.1 x0 x1
    have hhi : (if b / tR P k < tS γ k then b / tR P k else tS γ k) ≤ tS γ k ∧ (if b / tR P k < tS γ k then b / tR P k else tS γ k) ≤ b / tR P k := by split <;> omega
    generalize (if 0 < b - cp (tR P) (tS γ) m ((k : Int) + 1) then b - cp (tR P) (tS γ) m ((k : Int) + 1) else 0) = lo0 at hl0 hwin ⊢
    generalize (if b / tR P k < tS γ k then b / tR P k else tS γ k) = hi at hhi hwin ⊢
    rw [jadd_id (by omega) (by omega), jsub_id (by omega) (by omega), jdiv_id (by omega) (by omega) (by omega)]
    have hlo : 0 ≤ (lo0 + tR P k - 1) / tR P k := Int.ediv_nonneg (by omega) (by omega)
    have hlo2 : (lo0 + tR P k - 1) / tR P k ≤ lo0 + tR P k - 1 := Int.ediv_le_self _ (by omega)
    generalize (lo0 + tR P k - 1) / tR P k = lo at hlo hlo2 hwin ⊢
    have ecv : dT (tR P) (tS γ) dlt (m + 1) k b = cnt (fun x => dT (tR P) (tS γ) dlt m ((k : Int) + 1) (b - (lo + x) * tR P k)) (hi + 1 - lo).toNat := by
      show cnt (fun x => dT (tR P) (tS γ) dlt m ((k : Int) + 1) (b - x * tR P k)) (tS γ k + 1).toNat = _
      exact cnt_win (f := fun x => dT (tR P) (tS γ) dlt m ((k : Int) + 1) (b - x * tR P k)) (fun x x0 x1 x2 => dT_z hRR (fun k => (hSS k).1) m _ _ (hwin x x0 x1 x2)) hlo hhi.1 hs.1
    rw [ecv] at c2 ⊢
    obtain ⟨X', e', g1, g2, g3, g4⟩ := s_take_85 (d + 4) (γ := γ) (lo0 := lo0) (hi := hi) (y := y) hG hO hg hK h1 IH b0 b1 hhi.1 ((Int.le_ediv_iff_mul_le (by omega)).mp hhi.2) (hi + 1 - lo).toNat X Q c lo rfl hlo (by omega) hP hγ hcap h6 c0 c2 hQ hy
    refine ⟨X', e', g1, ?_, g3, g4⟩
    have : (fun x => Q x ∨ (nwS (tR P) (tS γ) y k (m + 1) b x ∧ lo ≤ x k ∧ x k ≤ hi)) = fun x => Q x ∨ nwS (tR P) (tS γ) y k (m + 1) b x := by
      funext x
      refine propext ⟨fun h => ?_, fun h => ?_⟩
      · rcases h with h | h
        · exact Or.inl h
        · exact Or.inr h.1
      · rcases h with h | h
        · exact Or.inl h
        · refine Or.inr ⟨h, Classical.byContradiction fun w => ?_⟩
          have xk := h.2.1 k (by omega) (by omega)
          have h3 : tR P k * x k + sx (tR P) x m ((k : Int) + 1) = b := h.2.2
          have h4 := sx_cp hRR m ((k : Int) + 1) (fun j j0 j1 => h.2.1 j (by omega) (by omega))
          refine hwin (x k) xk.1 xk.2 w ?_
          rw [Int.mul_comm (x k)]
          omega
    rw [this] at g2
    exact g2
theorem s_take {G : jG} {P : aP} {γ : aG} {K : Nat} (hG : GG G) (hO : pOk P) (hg : gOk P γ) (hK : (K : Int) = pK P) : ∀ (m d : Nat), tkP P γ K G m (d + m + 4) := by
  intro m
  induction m with
  | zero => intro d; exact s_take_0 d hG hO hK
  | succ m ih =>
    intro d
    have := s_take_S (d + m) hG hO hg hK (ih d)
    rw [show d + m + 5 = d + (m + 1) + 4 by omega] at this
    exact this
theorem s_cap_n (d : Nat) {G : jG} {P : aP} {γ : aG} {K : Nat} (a : Int) (hG : GG G) (hO : pOk P) (hg : gOk P γ) (hK : (K : Int) = pK P) : ∀ (k : Nat) (X : jX), k ≤ K → cPlan X P → cGr X 25 γ → (∀ j : Nat, k ≤ j → j ≤ K → X 144 j = cp (tR P) (tS γ) (K - j) j) → ∃ X', jN d 138 22 [(19, 140), (0, a), (0, (k : Int) - 1)] [] (G, X) = jN d 138 22 [(19, 140), (0, a), (0, -1)] [] (G, X') ∧ (∀ j : Nat, j ≤ K → X' 144 j = cp (tR P) (tS γ) (K - j) j) ∧ ∀ a, a ≠ 144 → X' a = X a
  | 0, X, _, _, _, h => ⟨X, rfl, fun j hj => h j (Nat.zero_le j) hj, fun _ _ => rfl⟩
  | k + 1, X, hk, hP, hγ, h => by
    have hn := pOk_n hO
    have hRR : ∀ k, 1 ≤ tR P k ∧ tR P k ≤ 99 := fun k => tR_le hO k
    have hSS : ∀ k, 0 ≤ tS γ k ∧ tS γ k ≤ 68 := fun k => tS_le hg k
    have eR : X 4 k = tR P k := by rw [(hP.2.2.2.1 k (by omega) (by omega)).1]; unfold tR; rw [if_pos (by omega)]
    have eS' : X 27 k = tS γ k := by
      have := hγ.2.2 k (by omega) (by omega)
      rw [show (25 : Int) + 2 = 27 from rfl] at this
      rw [this]; unfold tS; rw [if_pos (by omega)]
    have cap1 := h (k + 1) (Nat.le_refl _) hk
    rw [show ((k + 1 : Nat) : Int) = (k : Int) + 1 by omega] at cap1
    have hc1 := cp_le hRR hSS (K - (k + 1)) ((k : Int) + 1)
    have h2 : tR P k * tS γ k ≤ 99 * 68 := Int.mul_le_mul (hRR k).2 (hSS k).2 (hSS k).1 (by omega)
    have h3 : 0 ≤ tR P k * tS γ k := Int.mul_nonneg (by have := hRR k; omega) (hSS k).1
    have ecp : cp (tR P) (tS γ) (K - k) k = cp (tR P) (tS γ) (K - (k + 1)) ((k : Int) + 1) + tR P k * tS γ k := by rw [show K - k = (K - (k + 1)) + 1 by omega]; rfl
    obtain ⟨X', e', c', f'⟩ := s_cap_n d a hG hO hg hK k (jup X 144 k (cp (tR P) (tS γ) (K - k) k)) (by omega) (cPlan_fr (fun a h1 h2 => jup_rw _ _ _ _ _ (by omega)) hP) (cGr_fr (jup_rw _ _ _ _ _ (by omega)) (jup_rw _ _ _ _ _ (by omega)) (jup_rw _ _ _ _ _ (by omega)) hγ) (fun j j0 j1 => by
      by_cases z : j = k
      · rw [z, jup_same]
      · rw [jup_row _ _ _ _ _ (by omega)]; exact h j (by omega) j1)
    refine ⟨X', ?_, c', fun a ha => by rw [f' a ha, jup_rw _ _ _ _ _ ha]⟩
    rw [← e', h_X9_countSets_22, show ((k + 1 : Nat) : Int) - 1 = (k : Int) by omega, if_neg (by omega), gr_140_5 hG, gl_144 hG, gr_140_0 hG, gr_1_10 hG, gl_4 hG, gr_140_1 hG, gr_25_1 hG, gl_27 hG, jadd_id (a := (k : Int)) (b := 1) (by omega) (by omega), jadd_id (a := (k : Int)) (b := -1) (by omega) (by omega), eR, eS', cap1, jmul_id (by omega) (by omega), jadd_id (by omega) (by omega), ← ecp]
    simp only [if_pos (show (0 : Int) ≤ k by omega), if_pos (show (k : Int) < 5 by omega), if_pos (show (k : Int) < 6 by omega), if_pos (show (0 : Int) ≤ (k : Int) + 1 by omega), if_pos (show (k : Int) + 1 < 6 by omega), Int.reduceLE, reduceIte]
    rfl
