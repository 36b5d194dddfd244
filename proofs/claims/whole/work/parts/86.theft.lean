/-! THEFT: sums -/
theorem cnt_0f : ∀ n : Nat, cnt (fun _ => 0) n = 0
  | 0 => rfl
  | n + 1 => by show cnt (fun _ => 0) n + 0 = 0; rw [cnt_0f n]; rfl
theorem cnt_ad (f g : Int → Int) : ∀ n : Nat, cnt (fun x => f x + g x) n = cnt f n + cnt g n
  | 0 => rfl
  | n + 1 => by
    show cnt (fun x => f x + g x) n + (f n + g n) = cnt f n + f n + (cnt g n + g n)
    rw [cnt_ad f g n]; omega
theorem cnt_swap (f : Int → Int → Int) (m : Nat) : ∀ n : Nat, cnt (fun x => cnt (fun y => f x y) m) n = cnt (fun y => cnt (fun x => f x y) n) m
  | 0 => (cnt_0f m).symm
  | n + 1 => by
    show cnt (fun x => cnt (fun y => f x y) m) n + cnt (fun y => f n y) m = cnt (fun y => cnt (fun x => f x y) n + f n y) m
    rw [cnt_ad, cnt_swap f m n]
theorem cnt_nn {f : Int → Int} : ∀ n : Nat, (∀ x : Int, 0 ≤ x → x < n → 0 ≤ f x) → 0 ≤ cnt f n
  | 0, _ => Int.le_refl 0
  | n + 1, h => by
    have := cnt_nn n (fun x x0 x1 => h x x0 (by omega))
    have := h n (by omega) (by omega)
    show 0 ≤ cnt f n + f n
    omega
theorem cnt_ub {f : Int → Int} {B : Int} : ∀ n : Nat, (∀ x : Int, 0 ≤ x → x < n → f x ≤ B) → cnt f n ≤ n * B
  | 0, _ => by show (0 : Int) ≤ ((0 : Nat) : Int) * B; rw [show ((0 : Nat) : Int) = 0 from rfl, Int.zero_mul]; exact Int.le_refl 0
  | n + 1, h => by
    have h1 := cnt_ub n (fun x x0 x1 => h x x0 (by omega))
    have h2 := h n (by omega) (by omega)
    show cnt f n + f n ≤ ((n + 1 : Nat) : Int) * B
    rw [show ((n + 1 : Nat) : Int) = (n : Int) + 1 by omega, Int.add_mul, Int.one_mul]
    omega
theorem cnt_gt {f : Int → Int} : ∀ n : Nat, (∀ x : Int, 0 ≤ x → x < n → 0 ≤ f x) → (0 < cnt f n ↔ ∃ x : Int, 0 ≤ x ∧ x < n ∧ 0 < f x)
  | 0, _ => ⟨fun h => absurd h (Int.lt_irrefl 0), fun ⟨x, h0, h1, _⟩ => by omega⟩
  | n + 1, h => by
    have h1 := cnt_gt n (fun x x0 x1 => h x x0 (by omega))
    have h2 := cnt_nn n (fun x x0 x1 => h x x0 (by omega))
    have h3 := h n (by omega) (by omega)
    show 0 < cnt f n + f n ↔ _
    constructor
    · intro q
      by_cases z : 0 < f n
      · exact ⟨n, by omega, by omega, z⟩
      · obtain ⟨x, x0, x1, x2⟩ := h1.mp (by omega)
        exact ⟨x, x0, by omega, x2⟩
    · rintro ⟨x, x0, x1, x2⟩
      by_cases z : x = n
      · rw [z] at x2; omega
      · have := h1.mpr ⟨x, x0, by omega, x2⟩
        omega
def cv (r s : Int) (T : Int → Int) (b : Int) : Int := cnt (fun x => T (b - x * r)) (s + 1).toNat
def dlt (b : Int) : Int := if b = 0 then 1 else 0
theorem cv_comm (r s r' s' : Int) (T : Int → Int) : cv r s (cv r' s' T) = cv r' s' (cv r s T) := by
  funext b
  unfold cv
  rw [cnt_swap (fun x y => T (b - x * r - y * r'))]
  congr 1
  funext y
  congr 1
  funext x
  congr 1
  omega
/-- the kinds from k on, m of them, behind T -/
def dT (R S : Int → Int) (T : Int → Int) : Nat → Int → Int → Int
  | 0, _ => T
  | m + 1, k => cv (R k) (S k) (dT R S T m (k + 1))
theorem dT_cv (R S T : Int → Int) (r s : Int) : ∀ (m : Nat) (k : Int), dT R S (cv r s T) m k = cv r s (dT R S T m k)
  | 0, _ => rfl
  | m + 1, k => by
    show cv (R k) (S k) (dT R S (cv r s T) m (k + 1)) = cv r s (cv (R k) (S k) (dT R S T m (k + 1)))
    rw [dT_cv R S T r s m (k + 1), cv_comm]
theorem dT_last (R S T : Int → Int) : ∀ (m : Nat) (k : Int), dT R S T (m + 1) k = dT R S (cv (R (k + m)) (S (k + m)) T) m k
  | 0, k => by
    show cv (R k) (S k) T = cv (R (k + ((0 : Nat) : Int))) (S (k + ((0 : Nat) : Int))) T
    rw [show k + ((0 : Nat) : Int) = k by omega]
  | m + 1, k => by
    show cv (R k) (S k) (dT R S T (m + 1) (k + 1)) = cv (R k) (S k) (dT R S (cv (R (k + ((m + 1 : Nat) : Int))) (S (k + ((m + 1 : Nat) : Int))) T) m (k + 1))
    rw [dT_last R S T m (k + 1), show k + 1 + (m : Int) = k + ((m + 1 : Nat) : Int) by omega]
/-- the kinds below k, without i -/
def eS (R S : Int → Int) (i : Int) : Nat → Int → Int
  | 0 => dlt
  | k + 1 => if (k : Int) = i then eS R S i k else cv (R k) (S k) (eS R S i k)
theorem dT_eS (R S : Int → Int) : ∀ m : Nat, dT R S dlt m 0 = eS R S (-1) m
  | 0 => rfl
  | m + 1 => by
    show _ = if (m : Int) = -1 then eS R S (-1) m else cv (R m) (S m) (eS R S (-1) m)
    rw [if_neg (by omega), dT_last, dT_cv, dT_eS R S m, Int.zero_add]
theorem cv_nn {r s : Int} {T : Int → Int} (h : ∀ b, 0 ≤ T b) (b : Int) : 0 ≤ cv r s T b := cnt_nn _ (fun x _ _ => h _)
theorem dlt_nn (b : Int) : 0 ≤ dlt b ∧ dlt b ≤ 1 ∧ (b < 0 → dlt b = 0) := by unfold dlt; split <;> omega
theorem eS_nn (R S : Int → Int) (i : Int) : ∀ (k : Nat) (b : Int), 0 ≤ eS R S i k b
  | 0, b => (dlt_nn b).1
  | k + 1, b => by
    show 0 ≤ (if (k : Int) = i then eS R S i k else cv (R k) (S k) (eS R S i k)) b
    split
    · exact eS_nn R S i k b
    · exact cv_nn (eS_nn R S i k) b
theorem eS_neg {R S : Int → Int} {i : Int} (hR : ∀ k, 0 ≤ R k) : ∀ (k : Nat) (b : Int), b < 0 → eS R S i k b = 0
  | 0, b, h => (dlt_nn b).2.2 h
  | k + 1, b, h => by
    show (if (k : Int) = i then eS R S i k else cv (R k) (S k) (eS R S i k)) b = 0
    split
    · exact eS_neg hR k b h
    · unfold cv
      rw [cnt_cong (g := fun _ => 0) (fun x x0 x1 => ?_), cnt_0f]
      have : 0 ≤ x * R k := Int.mul_nonneg x0 (hR k)
      exact eS_neg hR k _ (by omega)
def p69 : Nat → Int
  | 0 => 1
  | n + 1 => 69 * p69 n
theorem p69_le : ∀ n : Nat, n < 6 → p69 n ≤ 1564031349 ∧ 1 ≤ p69 n := by decide
theorem cv_ub {r s B : Int} {T : Int → Int} (hs : 0 ≤ s) (hs1 : s ≤ 68) (h : ∀ b, T b ≤ B) (hB : 0 ≤ B) (b : Int) : cv r s T b ≤ 69 * B := by
  have h1 := cnt_ub (f := fun x => T (b - x * r)) (B := B) (s + 1).toNat (fun x _ _ => h _)
  have h2 : (((s + 1).toNat : Nat) : Int) * B ≤ 69 * B := Int.mul_le_mul_of_nonneg_right (by omega) hB
  unfold cv
  omega
theorem eS_ub {R S : Int → Int} {i : Int} : ∀ (k : Nat) (b : Int), k ≤ 5 → (∀ j : Int, 0 ≤ j → j < k → 0 ≤ S j ∧ S j ≤ 68) → eS R S i k b ≤ p69 k
  | 0, b, _, _ => (dlt_nn b).2.1
  | k + 1, b, hk, h => by
    have ih := fun b => eS_ub (R := R) (S := S) (i := i) k b (by omega) (fun j j0 j1 => h j j0 (by omega))
    have hp := p69_le k (by omega)
    have hs := h k (by omega) (by omega)
    show (if (k : Int) = i then eS R S i k else cv (R k) (S k) (eS R S i k)) b ≤ 69 * p69 k
    split
    · have := ih b; omega
    · exact cv_ub hs.1 hs.2 ih (by omega) b
/-- the sum below k without i -/
def px (R x : Int → Int) (i : Int) : Nat → Int
  | 0 => 0
  | k + 1 => px R x i k + (if (k : Int) = i then 0 else R k * x k)
theorem px_cong {R x y : Int → Int} {i : Int} : ∀ k : Nat, (∀ j : Int, 0 ≤ j → j < k → j ≠ i → y j = x j) → px R y i k = px R x i k
  | 0, _ => rfl
  | k + 1, h => by
    show px R y i k + (if (k : Int) = i then 0 else R k * y k) = px R x i k + (if (k : Int) = i then 0 else R k * x k)
    rw [px_cong k (fun j j0 j1 => h j j0 (by omega))]
    by_cases q : (k : Int) = i
    · rw [if_pos q, if_pos q]
    · rw [if_neg q, if_neg q, h k (by omega) (by omega) q]
theorem px_all {R x : Int → Int} {i : Int} (h0 : 0 ≤ i) : ∀ k : Nat, px R x (-1) k = px R x i k + (if i < k then R i * x i else 0)
  | 0 => by show (0 : Int) = 0 + (if i < ((0 : Nat) : Int) then R i * x i else 0); rw [if_neg (by omega)]; rfl
  | k + 1 => by
    show px R x (-1) k + (if (k : Int) = -1 then 0 else R k * x k) = px R x i k + (if (k : Int) = i then 0 else R k * x k) + (if i < ((k + 1 : Nat) : Int) then R i * x i else 0)
    rw [px_all h0 k, if_neg (show ¬ (k : Int) = -1 by omega)]
    by_cases q : (k : Int) = i
    · rw [if_pos q, if_neg (show ¬ i < (k : Int) by omega), if_pos (show i < ((k + 1 : Nat) : Int) by omega), q]
    · rw [if_neg q]
      by_cases w : i < (k : Int)
      · rw [if_pos w, if_pos (show i < ((k + 1 : Nat) : Int) by omega)]; omega
      · rw [if_neg w, if_neg (show ¬ i < ((k + 1 : Nat) : Int) by omega)]; omega
theorem eS_gt {R S : Int → Int} {i : Int} (hS : ∀ j : Int, 0 ≤ j → 0 ≤ S j) : ∀ (k : Nat) (b : Int), 0 < eS R S i k b ↔ ∃ x : Int → Int, (∀ j : Int, 0 ≤ j → j < k → j ≠ i → 0 ≤ x j ∧ x j ≤ S j) ∧ px R x i k = b
  | 0, b => by
    show 0 < dlt b ↔ _
    unfold dlt
    constructor
    · intro h
      refine ⟨fun _ => 0, fun j j0 j1 => by omega, ?_⟩
      show (0 : Int) = b
      split at h <;> omega
    · rintro ⟨x, _, h⟩
      have h' : (0 : Int) = b := h
      rw [if_pos h'.symm]; omega
  | k + 1, b => by
    have ih := eS_gt (R := R) (i := i) hS k
    show 0 < (if (k : Int) = i then eS R S i k else cv (R k) (S k) (eS R S i k)) b ↔ ∃ x : Int → Int, (∀ j : Int, 0 ≤ j → j < ((k + 1 : Nat) : Int) → j ≠ i → 0 ≤ x j ∧ x j ≤ S j) ∧ px R x i k + (if (k : Int) = i then 0 else R k * x k) = b
    by_cases q : (k : Int) = i
    · rw [if_pos q, ih b]
      constructor
      · rintro ⟨x, h1, h2⟩
        exact ⟨x, fun j j0 j1 j2 => h1 j j0 (by omega) j2, by rw [if_pos q]; omega⟩
      · rintro ⟨x, h1, h2⟩
        rw [if_pos q] at h2
        exact ⟨x, fun j j0 j1 j2 => h1 j j0 (by omega) j2, by omega⟩
    · rw [if_neg q]
      unfold cv
      rw [cnt_gt _ (fun x _ _ => eS_nn R S i k _)]
      have hk := hS k (by omega)
      constructor
      · rintro ⟨v, v0, v1, v2⟩
        obtain ⟨x, h1, h2⟩ := (ih _).mp v2
        refine ⟨fun j => if j = (k : Int) then v else x j, fun j j0 j1 j2 => ?_, ?_⟩
        · dsimp only
          by_cases w : j = (k : Int)
          · rw [if_pos w, w]; omega
          · rw [if_neg w]; exact h1 j j0 (by omega) j2
        · rw [if_neg q]
          show px R (fun j => if j = (k : Int) then v else x j) i k + R k * (if (k : Int) = k then v else x k) = b
          rw [if_pos rfl, px_cong (x := x) k (fun j j0 j1 _ => by rw [if_neg (by omega)]), h2, Int.mul_comm (R k)]; omega
      · rintro ⟨x, h1, h2⟩
        rw [if_neg q] at h2
        have hx := h1 k (by omega) (by omega) q
        refine ⟨x k, hx.1, by omega, (ih _).mpr ⟨x, fun j j0 j1 j2 => h1 j j0 (by omega) j2, ?_⟩⟩
        rw [Int.mul_comm (x k)]; omega
