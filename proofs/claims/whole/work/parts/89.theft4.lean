def nwS (R S y : Int → Int) (k m : Nat) (b : Int) (x : Int → Int) : Prop := (∀ j : Int, 0 ≤ j → j < k → x j = y j) ∧ inS S x m k ∧ sx R x m k = b
theorem cnt_win {f : Int → Int} {lo hi s : Int} (h : ∀ x, 0 ≤ x → x ≤ s → ¬ (lo ≤ x ∧ x ≤ hi) → f x = 0) (l0 : 0 ≤ lo) (hs : hi ≤ s) (s0 : 0 ≤ s) : cnt f (s + 1).toNat = cnt (fun x => f (lo + x)) (hi + 1 - lo).toNat := by
  by_cases q : lo ≤ hi
  · rw [show (s + 1).toNat = lo.toNat + ((hi + 1 - lo).toNat + (s - hi).toNat) by omega, cnt_spl f lo.toNat, cnt_spl _ (hi + 1 - lo).toNat, cnt_cong (f := f) (g := fun _ => 0) (n := lo.toNat) (fun x x0 x1 => h x x0 (by omega) (by omega)), cnt_0f, cnt_cong (g := fun _ => 0) (n := (s - hi).toNat) (fun x x0 x1 => h _ (by omega) (by omega) (by omega)), cnt_0f, show ((lo.toNat : Nat) : Int) = lo by omega]
    omega
  · rw [show (hi + 1 - lo).toNat = 0 by omega, cnt_cong (g := fun _ => 0) (fun x x0 x1 => h x x0 (by omega) (by omega)), cnt_0f]
    rfl
/-- what take promises -/
def tkP (P : aP) (γ : aG) (K : Nat) (G : jG) (m D : Nat) : Prop := ∀ (k : Nat) (X : jX) (Q : (Int → Int) → Prop) (y : Int → Int) (c b : Int), k + m = K → cPlan X P → cGr X 25 γ → (∀ j : Nat, k ≤ j → j ≤ K → X 144 j = cp (tR P) (tS γ) (K - j) j) → X 140 6 = c → 0 ≤ c → c + dT (tR P) (tS γ) dlt m k b ≤ 2000000000 → 0 ≤ b → b ≤ 2147483647 → finv K Q X → (∀ j : Int, 0 ≤ j → j < k → X 142 j = y j) → ∃ X', jD D 140 [(19, 140), (0, (k : Int)), (0, b)] (G, X) = some (0, (G, X')) ∧ X' 140 6 = c + dT (tR P) (tS γ) dlt m k b ∧ finv K (fun x => Q x ∨ nwS (tR P) (tS γ) y k m b x) X' ∧ (∀ a, a ≠ 140 → a ≠ 142 → a ≠ 143 → X' a = X a) ∧ ∀ j : Int, j < k → X' 142 j = X 142 j
theorem s_take_0 (d : Nat) {G : jG} {P : aP} {γ : aG} {K : Nat} (hG : GG G) (hO : pOk P) (hK : (K : Int) = pK P) : tkP P γ K G 0 (d + 4) := by
  intro k X Q y c b h1 hP hγ hcap h6 c0 c2 b0 b1 hQ hy
  have hn := pOk_n hO
  rw [e_X9_take, s_kindsX (d + 1) hG hP hO]
  simp only [Option.bind_some, Int.reduceLE, reduceIte]
  rw [if_neg (by omega)]
  have eD : dT (tR P) (tS γ) dlt 0 k b = if b = 0 then 1 else 0 := rfl
  by_cases q : b = 0
  · rw [if_pos q] at eD
    rw [eD] at c2 ⊢
    obtain ⟨X', e, a1, a2, a3, a4⟩ := s_keep_n d (y := X 142) (μ := X 143) hG hO hK c0 (by omega) K X 0 (by omega) hP h6 (fun _ _ _ => rfl) (fun j j0 j1 => by omega) (fun _ _ _ => rfl)
    rw [if_pos q, e_X9_keepSet]
    have e' : jN (d + 2) 141 2 [(19, 140), (0, 0)] [] (G, X) = some (0, (G, X')) := e
    rw [e']
    simp only [Option.bind_some]
    have hnew : ∀ x, nwS (tR P) (tS γ) y k 0 b x → ∀ j : Int, 0 ≤ j → j < K → x j = X 142 j := fun x hx j j0 j1 => by rw [hx.1 j j0 (by omega), hy j j0 (by omega)]
    have hin : nwS (tR P) (tS γ) y k 0 b (X 142) := ⟨hy, fun j j0 j1 => by omega, q.symm⟩
    refine ⟨X', rfl, a1, ⟨fun w => by omega, fun _ => ⟨⟨X 142, Or.inr hin⟩, fun j j0 j1 => ?_⟩⟩, fun a b0 b1 b2 => a3 a b0 b2, fun j hj => by rw [a3 142 (by omega) (by omega)]⟩
    rw [a2 j j0 j1]
    by_cases z : c = 0
    · rw [if_pos (Or.inl z)]
      refine ⟨⟨X 142, Or.inr hin, rfl⟩, fun x hx => ?_⟩
      rcases hx with hx | hx
      · exact absurd hx (hQ.1 (by omega) x)
      · rw [hnew x hx j j0 j1]; exact Int.le_refl _
    · obtain ⟨⟨x1, x2, x3⟩, x4⟩ := (hQ.2 (by omega)).2 j j0 j1
      by_cases w : X 142 j < X 143 j
      · rw [if_pos (Or.inr w)]
        refine ⟨⟨X 142, Or.inr hin, rfl⟩, fun x hx => ?_⟩
        rcases hx with hx | hx
        · have := x4 x hx; omega
        · rw [hnew x hx j j0 j1]; exact Int.le_refl _
      · rw [if_neg (fun u => by rcases u with u | u; exact z u; exact w u)]
        refine ⟨⟨x1, Or.inl x2, x3⟩, fun x hx => ?_⟩
        rcases hx with hx | hx
        · exact x4 x hx
        · rw [hnew x hx j j0 j1]; omega
  · rw [if_neg q] at eD
    rw [eD, if_neg q]
    refine ⟨X, rfl, by omega, ?_, fun _ _ _ _ => rfl, fun _ _ => rfl⟩
    have : (fun x => Q x ∨ nwS (tR P) (tS γ) y k 0 b x) = Q := by
      funext x
      refine propext ⟨fun h => ?_, Or.inl⟩
      rcases h with h | h
      · exact h
      · exact absurd h.2.2.symm q
    rw [this]; exact hQ
theorem s_take_85 (D : Nat) {G : jG} {P : aP} {γ : aG} {K k m : Nat} {b hi lo0 : Int} {y : Int → Int} (hG : GG G) (hO : pOk P) (hg : gOk P γ) (hK : (K : Int) = pK P) (hk : k + (m + 1) = K) (IH : tkP P γ K G m D) (b0 : 0 ≤ b) (b1 : b ≤ 2147483647) (hiS : hi ≤ tS γ k) (hib : hi * tR P k ≤ b) : ∀ (n : Nat) (X : jX) (Q : (Int → Int) → Prop) (c v : Int), (hi + 1 - v).toNat = n → 0 ≤ v → v ≤ 2000000000 → cPlan X P → cGr X 25 γ → (∀ j : Nat, k ≤ j → j ≤ K → X 144 j = cp (tR P) (tS γ) (K - j) j) → X 140 6 = c → 0 ≤ c → c + cnt (fun x => dT (tR P) (tS γ) dlt m (k + 1) (b - (v + x) * tR P k)) n ≤ 2000000000 → finv K Q X → (∀ j : Int, 0 ≤ j → j < k → X 142 j = y j) → ∃ X', jN D 140 85 [(19, 140), (0, (k : Int)), (0, b), (0, tR P k), (0, lo0), (0, hi), (0, v)] [] (G, X) = some (0, (G, X')) ∧ X' 140 6 = c + cnt (fun x => dT (tR P) (tS γ) dlt m (k + 1) (b - (v + x) * tR P k)) n ∧ finv K (fun x => Q x ∨ (nwS (tR P) (tS γ) y k (m + 1) b x ∧ v ≤ x k ∧ x k ≤ hi)) X' ∧ (∀ a, a ≠ 140 → a ≠ 142 → a ≠ 143 → X' a = X a) ∧ ∀ j : Int, j < k → X' 142 j = X 142 j := by
  have hn := pOk_n hO
  have hr := tR_le hO k
  have hs := tS_le hg k
  intro n
  induction n with
  | zero =>
    intro X Q c v h1 v0 v2 hP hγ hcap h6 c0 c2 hQ hy
    rw [h_X9_take_85, if_pos (by omega)]
    refine ⟨X, rfl, by show X 140 6 = c + 0; omega, ?_, fun _ _ _ _ => rfl, fun _ _ => rfl⟩
    have : (fun x => Q x ∨ (nwS (tR P) (tS γ) y k (m + 1) b x ∧ v ≤ x k ∧ x k ≤ hi)) = Q := by
      funext x
      refine propext ⟨fun h => ?_, Or.inl⟩
      rcases h with h | h
      · exact h
      · exfalso; omega
    rw [this]; exact hQ
  | succ n ih =>
    intro X Q c v h1 v0 v2 hP hγ hcap h6 c0 c2 hQ hy
    have hvb : v * tR P k ≤ hi * tR P k := Int.mul_le_mul_of_nonneg_right (by omega) (by omega)
    have hv0 : 0 ≤ v * tR P k := Int.mul_nonneg v0 (by omega)
    have esh := cnt_sh (fun x => dT (tR P) (tS γ) dlt m (k + 1) (b - (v + x) * tR P k)) n
    have e1f : (fun x => dT (tR P) (tS γ) dlt m (k + 1) (b - (v + (1 + x)) * tR P k)) = fun x => dT (tR P) (tS γ) dlt m (k + 1) (b - (v + 1 + x) * tR P k) := by funext x; rw [Int.add_assoc]
    rw [e1f, Int.add_zero] at esh
    rw [esh] at c2 ⊢
    have hnn := cnt_nn (f := fun x => dT (tR P) (tS γ) dlt m (k + 1) (b - (v + 1 + x) * tR P k)) n (fun x _ _ => dT_nn _ _ m _ _)
    have hdn := dT_nn (tR P) (tS γ) m (k + 1) (b - v * tR P k)
    have ek : ((k + 1 : Nat) : Int) = (k : Int) + 1 := by omega
    obtain ⟨X1, e1, a1, a2, a3, a4⟩ := IH (k + 1) (jup X 142 k v) Q (fun j => if j = (k : Int) then v else y j) c (b - v * tR P k) (by omega) (cPlan_fr (fun a h1 h2 => jup_rw _ _ _ _ _ (by omega)) hP) (cGr_fr (jup_rw _ _ _ _ _ (by omega)) (jup_rw _ _ _ _ _ (by omega)) (jup_rw _ _ _ _ _ (by omega)) hγ) (fun j j0 j1 => by rw [jup_rw _ _ _ _ _ (by omega)]; exact hcap j (by omega) j1) (by rw [jup_rw _ _ _ _ _ (by omega)]; exact h6) c0 (by rw [ek]; omega) (by omega) (by omega) (by
      unfold finv at hQ ⊢
      rw [jup_rw _ _ _ _ 140 (by omega), jup_rw _ _ _ _ 143 (by omega)]; exact hQ) (fun j j0 j1 => by
        by_cases z : j = k
        · rw [z, jup_same, if_pos rfl]
        · rw [jup_row _ _ _ _ _ z, if_neg z]; exact hy j j0 (by omega))
    rw [ek] at e1 a1
    rw [h_X9_take_85, if_neg (by omega), gr_140_3 hG, gl_142 hG, jadd_id (a := (k : Int)) (by omega) (by omega), jmul_id (by omega) (by omega), jsub_id (by omega) (by omega), jadd_id (a := v) (by omega) (by omega)]
    simp only [Int.reduceLE, reduceIte]
    rw [if_pos (show (0 : Int) ≤ k by omega), if_pos (show (k : Int) < 5 by omega), e1]
    simp only [Option.bind_some]
    have F1 : ∀ a, a ≠ 140 → a ≠ 142 → a ≠ 143 → X1 a = X a := fun a h1 h2 h3 => by rw [a3 a h1 h2 h3, jup_rw _ _ _ _ _ h2]
    have F2 : ∀ j : Int, j < k → X1 142 j = X 142 j := fun j hj => by rw [a4 j (by omega), jup_row _ _ _ _ _ (by omega)]
    obtain ⟨X', e', g1, g2, g3, g4⟩ := ih X1 _ (c + dT (tR P) (tS γ) dlt m (k + 1) (b - v * tR P k)) (v + 1) (by omega) (by omega) (by omega) (cPlan_fr (fun a h1 h2 => F1 a (by omega) (by omega) (by omega)) hP) (cGr_fr (F1 _ (by omega) (by omega) (by omega)) (F1 _ (by omega) (by omega) (by omega)) (F1 _ (by omega) (by omega) (by omega)) hγ) (fun j j0 j1 => by rw [F1 144 (by omega) (by omega) (by omega)]; exact hcap j j0 j1) a1 (by omega) (by omega) a2 (fun j j0 j1 => by rw [F2 j j1]; exact hy j j0 j1)
    refine ⟨X', e', by rw [g1]; omega, ?_, fun a h1 h2 h3 => by rw [g3 a h1 h2 h3, F1 a h1 h2 h3], fun j hj => by rw [g4 j hj, F2 j hj]⟩
    have : (fun x => (Q x ∨ nwS (tR P) (tS γ) (fun j => if j = (k : Int) then v else y j) (k + 1) m (b - v * tR P k) x) ∨ (nwS (tR P) (tS γ) y k (m + 1) b x ∧ v + 1 ≤ x k ∧ x k ≤ hi)) = fun x => Q x ∨ (nwS (tR P) (tS γ) y k (m + 1) b x ∧ v ≤ x k ∧ x k ≤ hi) := by
      funext x
      refine propext ⟨fun h => ?_, fun h => ?_⟩
      · rcases h with (h | h) | h
        · exact Or.inl h
        · have xk : x k = v := by have := h.1 k (by omega) (by omega); dsimp only at this; rw [if_pos rfl] at this; exact this
          refine Or.inr ⟨⟨fun j j0 j1 => ?_, fun j j0 j1 => ?_, ?_⟩, by omega, by omega⟩
          · have := h.1 j j0 (by omega); dsimp only at this; rw [if_neg (show ¬ j = (k : Int) by omega)] at this; exact this
          · by_cases z : j = k
            · rw [z, xk]; omega
            · exact h.2.1 j (by omega) (by omega)
          · show tR P k * x k + sx (tR P) x m ((k : Int) + 1) = b
            have h3 := h.2.2
            rw [ek] at h3
            rw [h3, xk, Int.mul_comm (tR P k)]; omega
        · exact Or.inr ⟨h.1, by omega, h.2.2⟩
      · rcases h with h | h
        · exact Or.inl (Or.inl h)
        · by_cases z : x k = v
          · refine Or.inl (Or.inr ⟨fun j j0 j1 => ?_, fun j j0 j1 => h.1.2.1 j (by omega) (by omega), ?_⟩)
            · by_cases w : j = k
              · dsimp only; rw [if_pos w, w]; exact z
              · dsimp only; rw [if_neg w]; exact h.1.1 j j0 (by omega)
            · have h3 : tR P k * x k + sx (tR P) x m ((k : Int) + 1) = b := h.1.2.2
              rw [ek, ← h3, z, Int.mul_comm (tR P k)]; omega
          · exact Or.inr ⟨h.1, by omega, h.2.2⟩
    rw [this] at g2
    exact g2
