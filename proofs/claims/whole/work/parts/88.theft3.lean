/-! THEFT: the fewest, the class -/
def few (T : Int → Int) (r a : Int) : Nat → Int → Int
  | 0, _ => -1
  | m + 1, v => if a < v * r then -1 else if 0 < T (a - v * r) then v else few T r a m (v + 1)
theorem few_ok {T : Int → Int} {r a : Int} (hr : 1 ≤ r) : ∀ (m : Nat) (v : Int), 0 ≤ v → (v ≤ few T r a m v ∧ few T r a m v < v + m ∧ few T r a m v * r ≤ a ∧ 0 < T (a - few T r a m v * r) ∧ ∀ x, v ≤ x → x < few T r a m v → ¬ (x * r ≤ a ∧ 0 < T (a - x * r))) ∨ (few T r a m v = -1 ∧ ∀ x, v ≤ x → x < v + m → ¬ (x * r ≤ a ∧ 0 < T (a - x * r)))
  | 0, v, _ => Or.inr ⟨rfl, fun x x0 x1 => by omega⟩
  | m + 1, v, h0 => by
    have e : few T r a (m + 1) v = if a < v * r then -1 else if 0 < T (a - v * r) then v else few T r a m (v + 1) := rfl
    rw [e]
    by_cases q : a < v * r
    · rw [if_pos q]
      refine Or.inr ⟨rfl, fun x x0 x1 w => ?_⟩
      have : v * r ≤ x * r := Int.mul_le_mul_of_nonneg_right x0 (by omega)
      omega
    · rw [if_neg q]
      by_cases z : 0 < T (a - v * r)
      · rw [if_pos z]
        exact Or.inl ⟨Int.le_refl v, by omega, by omega, z, fun x x0 x1 => by omega⟩
      · rw [if_neg z]
        rcases few_ok (T := T) (a := a) hr m (v + 1) (by omega) with ⟨h1, h2, h3, h4, h5⟩ | ⟨h1, h2⟩
        · refine Or.inl ⟨by omega, by omega, h3, h4, fun x x0 x1 => ?_⟩
          by_cases y : x = v
          · rw [y]; exact fun w => z w.2
          · exact h5 x (by omega) x1
        · refine Or.inr ⟨h1, fun x x0 x1 => ?_⟩
          by_cases y : x = v
          · rw [y]; exact fun w => z w.2
          · exact h2 x (by omega) (by omega)
theorem t_fw_n (d : Nat) {G : jG} {X : jX} {P : aP} {γ : aG} {T : Int → Int} (i a : Int) (hG : GG G) (hP : mPlan X P) (hO : pOk P) (hg : gOk P γ) (hγ : mGr X 190 0 γ) (i0 : 0 ≤ i) (i1 : i < pK P) (ha0 : 0 ≤ a) (ha : a ≤ 100000) (hX : ∀ c, 0 ≤ c → c ≤ a → X 203 c = T c) : ∀ (m : Nat) (v : Int), v + m = tS γ i + 1 → 0 ≤ v → jN (d + 1) 293 8 [(22, 149), (0, i), (0, a), (0, v)] [] (G, X) = some (few T (tR P i) a m v, (G, X)) := by
  have hn := pOk_n hO
  have hr := tR_le hO i
  have hs := tS_le hg i
  have eR : rsO P i = tR P i := by unfold rsO tR; rw [if_neg (by omega), if_pos (by omega)]
  have eT : gSt γ i = tS γ i := by unfold tS; rw [if_pos (by omega)]
  intro m
  induction m with
  | zero =>
    intro v h0 h1
    rw [h_X12_fewestOf_8, t_tubsOf d i hG hγ i0 (by omega), eT]
    simp only [Option.bind_some, Int.reduceLE, reduceIte]
    rw [if_pos (by omega)]
    rfl
  | succ m ih =>
    intro v h0 h1
    have hv9 : v * tR P i ≤ 69 * 99 := Int.mul_le_mul (by omega) hr.2 (by omega) (by omega)
    have hv0 : 0 ≤ v * tR P i := Int.mul_nonneg h1 (by omega)
    rw [h_X12_fewestOf_8, t_tubsOf d i hG hγ i0 (by omega), eT]
    simp only [Option.bind_some, Int.reduceLE, reduceIte]
    rw [if_neg (by omega), t_restOf d i hG hP hO (by omega) i1, eR]
    simp only [Option.bind_some, Int.reduceLE, reduceIte]
    rw [jmul_id (by omega) (by omega), t_restOf d i hG hP hO (by omega) i1, eR]
    simp only [Option.bind_some]
    rw [jmul_id (by omega) (by omega), gr_149_83 hG, gl_203 hG]
    simp only [Int.reduceLE, reduceIte]
    show _ = some (if a < v * tR P i then -1 else if 0 < T (a - v * tR P i) then v else few T (tR P i) a m (v + 1), (G, X))
    by_cases q : a < v * tR P i
    · rw [if_pos q, if_pos q]
    · rw [if_neg q, if_neg q, jsub_id (by omega) (by omega), if_pos (by omega), if_pos (by omega), hX _ (by omega) (by omega), jadd_id (by omega) (by omega), ih (v + 1) (by omega) (by omega)]
      have hc : 0 < lCmp (T (a - v * tR P i)) 0 ↔ 0 < T (a - v * tR P i) := by
        unfold lCmp
        repeat' split
        all_goals omega
      by_cases z : 0 < T (a - v * tR P i)
      · rw [if_pos z, if_pos (hc.mpr z)]
      · rw [if_neg z, if_neg (fun w => z (hc.mp w))]
def sx (R x : Int → Int) : Nat → Int → Int
  | 0, _ => 0
  | m + 1, k => R k * x k + sx R x m (k + 1)
theorem sx_cong {R x y : Int → Int} : ∀ (m : Nat) (k : Int), (∀ j, k ≤ j → j < k + m → y j = x j) → sx R y m k = sx R x m k
  | 0, _, _ => rfl
  | m + 1, k, h => by
    show R k * y k + sx R y m (k + 1) = R k * x k + sx R x m (k + 1)
    rw [h k (by omega) (by omega), sx_cong m (k + 1) (fun j j0 j1 => h j (by omega) (by omega))]
theorem sx_last {R x : Int → Int} : ∀ (m : Nat) (k : Int), sx R x (m + 1) k = sx R x m k + R (k + m) * x (k + m)
  | 0, k => by
    show R k * x k + 0 = 0 + R (k + ((0 : Nat) : Int)) * x (k + ((0 : Nat) : Int))
    rw [show k + ((0 : Nat) : Int) = k by omega]; omega
  | m + 1, k => by
    show R k * x k + sx R x (m + 1) (k + 1) = R k * x k + sx R x m (k + 1) + R (k + ((m + 1 : Nat) : Int)) * x (k + ((m + 1 : Nat) : Int))
    rw [sx_last m (k + 1), show k + 1 + (m : Int) = k + ((m + 1 : Nat) : Int) by omega]; omega
theorem sx_px {R x : Int → Int} : ∀ m : Nat, sx R x m 0 = px R x (-1) m
  | 0 => rfl
  | m + 1 => by
    rw [sx_last, sx_px m, Int.zero_add]
    show _ = px R x (-1) m + (if (m : Int) = -1 then 0 else R m * x m)
    rw [if_neg (by omega)]
def cp (R S : Int → Int) : Nat → Int → Int
  | 0, _ => 0
  | m + 1, k => cp R S m (k + 1) + R k * S k
theorem cp_le {R S : Int → Int} (hR : ∀ k, 1 ≤ R k ∧ R k ≤ 99) (hS : ∀ k, 0 ≤ S k ∧ S k ≤ 68) : ∀ (m : Nat) (k : Int), 0 ≤ cp R S m k ∧ cp R S m k ≤ 6732 * m
  | 0, _ => ⟨Int.le_refl 0, Int.le_refl 0⟩
  | m + 1, k => by
    have h1 := cp_le hR hS m (k + 1)
    have h2 : R k * S k ≤ 99 * 68 := Int.mul_le_mul (hR k).2 (hS k).2 (hS k).1 (by omega)
    have h3 : 0 ≤ R k * S k := Int.mul_nonneg (by have := hR k; omega) (hS k).1
    show 0 ≤ cp R S m (k + 1) + R k * S k ∧ cp R S m (k + 1) + R k * S k ≤ _
    omega
def inS (S x : Int → Int) (m : Nat) (k : Int) : Prop := ∀ j, k ≤ j → j < k + m → 0 ≤ x j ∧ x j ≤ S j
theorem sx_cp {R S x : Int → Int} (hR : ∀ k, 1 ≤ R k ∧ R k ≤ 99) : ∀ (m : Nat) (k : Int), inS S x m k → 0 ≤ sx R x m k ∧ sx R x m k ≤ cp R S m k
  | 0, _, _ => ⟨Int.le_refl 0, Int.le_refl 0⟩
  | m + 1, k, h => by
    have ih := sx_cp hR m (k + 1) (fun j j0 j1 => h j (by omega) (by omega))
    have hk := h k (by omega) (by omega)
    have h2 : R k * x k ≤ R k * S k := Int.mul_le_mul_of_nonneg_left hk.2 (by have := hR k; omega)
    have h3 : 0 ≤ R k * x k := Int.mul_nonneg (by have := hR k; omega) hk.1
    show 0 ≤ R k * x k + sx R x m (k + 1) ∧ R k * x k + sx R x m (k + 1) ≤ cp R S m (k + 1) + R k * S k
    omega
theorem dT_nn (R S : Int → Int) : ∀ (m : Nat) (k b : Int), 0 ≤ dT R S dlt m k b
  | 0, _, b => (dlt_nn b).1
  | m + 1, k, b => cv_nn (dT_nn R S m (k + 1)) b
theorem dT_gt {R S : Int → Int} (hS : ∀ k, 0 ≤ S k) : ∀ (m : Nat) (k b : Int), 0 < dT R S dlt m k b ↔ ∃ x, inS S x m k ∧ sx R x m k = b
  | 0, k, b => by
    show 0 < dlt b ↔ _
    unfold dlt
    constructor
    · intro h
      refine ⟨fun _ => 0, fun j j0 j1 => by omega, ?_⟩
      show (0 : Int) = b
      split at h <;> omega
    · rintro ⟨x, _, h⟩
      have h' : (0 : Int) = b := h
      rw [if_pos h'.symm]; omega
  | m + 1, k, b => by
    show 0 < cv (R k) (S k) (dT R S dlt m (k + 1)) b ↔ ∃ x, inS S x (m + 1) k ∧ R k * x k + sx R x m (k + 1) = b
    unfold cv
    rw [cnt_gt _ (fun x _ _ => dT_nn R S m (k + 1) _)]
    have hk := hS k
    constructor
    · rintro ⟨v, v0, v1, v2⟩
      obtain ⟨x, h1, h2⟩ := (dT_gt hS m (k + 1) _).mp v2
      refine ⟨fun j => if j = k then v else x j, fun j j0 j1 => ?_, ?_⟩
      · dsimp only
        by_cases w : j = k
        · rw [if_pos w, w]; omega
        · rw [if_neg w]; exact h1 j (by omega) (by omega)
      · show R k * (if k = k then v else x k) + _ = b
        rw [if_pos rfl, sx_cong (x := x) m (k + 1) (fun j j0 j1 => by rw [if_neg (by omega)]), h2, Int.mul_comm (R k)]; omega
    · rintro ⟨x, h1, h2⟩
      have hx := h1 k (by omega) (by omega)
      refine ⟨x k, hx.1, by omega, (dT_gt hS m (k + 1) _).mpr ⟨x, fun j j0 j1 => h1 j (by omega) (by omega), ?_⟩⟩
      rw [Int.mul_comm (x k)]; omega
theorem dT_ub {R S : Int → Int} (hS : ∀ k, 0 ≤ S k ∧ S k ≤ 68) : ∀ (m : Nat) (k b : Int), m ≤ 5 → dT R S dlt m k b ≤ p69 m
  | 0, _, b, _ => (dlt_nn b).2.1
  | m + 1, k, b, h => by
    have hp := p69_le m (by omega)
    show cv (R k) (S k) (dT R S dlt m (k + 1)) b ≤ 69 * p69 m
    exact cv_ub (hS k).1 (hS k).2 (fun b => dT_ub hS m (k + 1) b (by omega)) (by omega) b
theorem cnt_spl (f : Int → Int) (n : Nat) : ∀ m : Nat, cnt f (n + m) = cnt f n + cnt (fun x => f (n + x)) m
  | 0 => by show cnt f n = cnt f n + 0; omega
  | m + 1 => by
    show cnt f (n + m) + f ((n + m : Nat) : Int) = cnt f n + (cnt (fun x => f (n + x)) m + f (n + m))
    rw [cnt_spl f n m, show ((n + m : Nat) : Int) = (n : Int) + m by omega]; omega
/-- what is kept of the sets found -/
def finv (K : Nat) (Q : (Int → Int) → Prop) (X : jX) : Prop := (X 140 6 = 0 → ∀ x, ¬ Q x) ∧ (0 < X 140 6 → (∃ x, Q x) ∧ ∀ j : Int, 0 ≤ j → j < K → (∃ x, Q x ∧ X 143 j = x j) ∧ ∀ x, Q x → X 143 j ≤ x j)
theorem s_keep_n (d : Nat) {G : jG} {P : aP} {K : Nat} {y : Int → Int} {c : Int} {μ : Int → Int} (hG : GG G) (hO : pOk P) (hK : (K : Int) = pK P) (c0 : 0 ≤ c) (c1 : c ≤ 2000000000) : ∀ (m : Nat) (X : jX) (k : Nat), k + m = K → cPlan X P → X 140 6 = c → (∀ j : Int, 0 ≤ j → j < K → X 142 j = y j) → (∀ j : Int, 0 ≤ j → j < k → X 143 j = if c = 0 ∨ y j < μ j then y j else μ j) → (∀ j : Int, k ≤ j → j < K → X 143 j = μ j) → ∃ X', jN (d + 2) 141 2 [(19, 140), (0, (k : Int))] [] (G, X) = some (0, (G, X')) ∧ X' 140 6 = c + 1 ∧ (∀ j : Int, 0 ≤ j → j < K → X' 143 j = if c = 0 ∨ y j < μ j then y j else μ j) ∧ (∀ a, a ≠ 140 → a ≠ 143 → X' a = X a) ∧ ∀ j, j ≠ 6 → X' 140 j = X 140 j := by
  have hn := pOk_n hO
  intro m
  induction m with
  | zero =>
    intro X k h1 hP h6 hy hlo hhi
    refine ⟨jup X 140 6 (c + 1), ?_, jup_same _ _ _ _, fun j j0 j1 => by rw [jup_rw _ _ _ _ _ (by omega)]; exact hlo j j0 (by omega), fun a a0 _ => jup_rw _ _ _ _ _ a0, fun j hj => jup_row _ _ _ _ _ hj⟩
    rw [h_X9_keepSet_2, s_kindsX d hG hP hO]
    simp only [Option.bind_some, Int.reduceLE, reduceIte]
    rw [if_neg (by omega), h6, jadd_id (by omega) (by omega)]
  | succ m ih =>
    intro X k h1 hP h6 hy hlo hhi
    rw [h_X9_keepSet_2, s_kindsX d hG hP hO]
    simp only [Option.bind_some, Int.reduceLE, reduceIte]
    rw [if_pos (by omega), h6, gr_140_3 hG, gl_142 hG, gr_140_4 hG, gl_143 hG, hy k (by omega) (by omega), hhi k (by omega) (by omega), show jadd (k : Int) 1 = ((k + 1 : Nat) : Int) by rw [jadd_id (by omega) (by omega)]; omega]
    simp only [if_pos (show (0 : Int) ≤ k by omega), if_pos (show (k : Int) < 5 by omega), Int.reduceLE, reduceIte]
    by_cases q : c = 0 ∨ y k < μ k
    · have e : (if c = 0 then jN (d + 2) 141 2 [(19, 140), (0, ((k + 1 : Nat) : Int))] [] (G, jup X 143 k (y k)) else if y k < μ k then jN (d + 2) 141 2 [(19, 140), (0, ((k + 1 : Nat) : Int))] [] (G, jup X 143 k (y k)) else jN (d + 2) 141 2 [(19, 140), (0, ((k + 1 : Nat) : Int))] [] (G, X)) = jN (d + 2) 141 2 [(19, 140), (0, ((k + 1 : Nat) : Int))] [] (G, jup X 143 k (y k)) := by
        rcases q with h | h
        · rw [if_pos h]
        · by_cases z : c = 0
          · rw [if_pos z]
          · rw [if_neg z, if_pos h]
      rw [e]
      obtain ⟨X', e', a1, a2, a3, a4⟩ := ih (jup X 143 k (y k)) (k + 1) (by omega) (cPlan_fr (fun a h1 h2 => jup_rw _ _ _ _ _ (by omega)) hP) (by rw [jup_rw _ _ _ _ _ (by omega)]; exact h6) (fun j j0 j1 => by rw [jup_rw _ _ _ _ _ (by omega)]; exact hy j j0 j1) (fun j j0 j1 => by
        by_cases z : j = k
        · rw [z, jup_same, if_pos q]
        · rw [jup_row _ _ _ _ _ z]; exact hlo j j0 (by omega)) (fun j j0 j1 => by rw [jup_row _ _ _ _ _ (by omega)]; exact hhi j (by omega) j1)
      exact ⟨X', e', a1, a2, fun a b0 b1 => by rw [a3 a b0 b1, jup_rw _ _ _ _ _ b1], fun j hj => by rw [a4 j hj, jup_rw _ _ _ _ _ (by omega)]⟩
    · rw [if_neg (show ¬ c = 0 from fun w => q (Or.inl w)), if_neg (show ¬ y k < μ k from fun w => q (Or.inr w))]
      exact ih X (k + 1) (by omega) hP h6 hy (fun j j0 j1 => by
        by_cases z : j = k
        · rw [z, hhi k (by omega) (by omega), if_neg q]
        · exact hlo j j0 (by omega)) (fun j j0 j1 => hhi j (by omega) j1)
