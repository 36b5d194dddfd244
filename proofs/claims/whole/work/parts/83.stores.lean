/-! STORES -/
def usd (s : Int → Int) : Nat → Int
  | 0 => 0
  | k + 1 => if usd s k < s k + 1 then s k + 1 else usd s k
def cod (s : Int → Int) : Nat → Int
  | 0 => 0
  | k + 1 => 5 * cod s k + s k
def fbt (P : aP) (k j : Int) : Int := iAnd (iShr (pFo P k) j) 1
def vst (P : aP) (s : Int → Int) (k : Nat) : Prop := 0 ≤ s k ∧ s k ≤ usd s k ∧ ∀ j : Int, 0 ≤ j → j < k → s j = s k → fbt P k j = 0
theorem usd_cong {s t : Int → Int} : ∀ k : Nat, (∀ j : Int, 0 ≤ j → j < k → t j = s j) → usd t k = usd s k
  | 0, _ => rfl
  | k + 1, h => by
    show (if usd t k < t k + 1 then t k + 1 else usd t k) = if usd s k < s k + 1 then s k + 1 else usd s k
    rw [usd_cong k (fun j j0 j1 => h j j0 (by omega)), h k (by omega) (by omega)]
theorem usd_le {s : Int → Int} {n : Int} (hn : 0 ≤ n) : ∀ k : Nat, (∀ j : Int, 0 ≤ j → j < k → s j < n) → usd s k ≤ n
  | 0, _ => hn
  | k + 1, h => by
    have := usd_le hn k (fun j j0 j1 => h j j0 (by omega))
    have := h k (by omega) (by omega)
    show (if usd s k < s k + 1 then s k + 1 else usd s k) ≤ n
    split <;> omega
theorem usd_lt {s : Int → Int} : ∀ (k : Nat) (j : Int), 0 ≤ j → j < k → s j < usd s k
  | 0, j, j0, j1 => by omega
  | k + 1, j, j0, j1 => by
    show s j < if usd s k < s k + 1 then s k + 1 else usd s k
    by_cases q : j = k
    · rw [q]; split <;> omega
    · have := usd_lt (s := s) k j j0 (by omega)
      split <;> omega
theorem usd_0 {s : Int → Int} : ∀ k : Nat, 0 ≤ usd s k
  | 0 => Int.le_refl 0
  | k + 1 => by
    have := usd_0 (s := s) k
    show 0 ≤ if usd s k < s k + 1 then s k + 1 else usd s k
    split <;> omega
theorem cod_cong {s t : Int → Int} : ∀ k : Nat, (∀ j : Int, 0 ≤ j → j < k → t j = s j) → cod t k = cod s k
  | 0, _ => rfl
  | k + 1, h => by
    show 5 * cod t k + t k = 5 * cod s k + s k
    rw [cod_cong k (fun j j0 j1 => h j j0 (by omega)), h k (by omega) (by omega)]
/-- what differs first at k -/
theorem cod_lt {s t : Int → Int} {k : Nat} (he : ∀ j : Int, 0 ≤ j → j < k → t j = s j) (hl : s k < t k) : ∀ m : Nat, (∀ j : Int, k < j → j < k + 1 + m → s j ≤ 4 ∧ 0 ≤ t j) → cod s (k + 1 + m) < cod t (k + 1 + m)
  | 0, _ => by
    show 5 * cod s k + s k < 5 * cod t k + t k
    rw [cod_cong k he]
    omega
  | m + 1, h => by
    have ih := cod_lt he hl m (fun j j0 j1 => h j j0 (by omega))
    have := h ((k + 1 + m : Nat) : Int) (by omega) (by omega)
    show 5 * cod s (k + 1 + m) + s ((k + 1 + m : Nat) : Int) < 5 * cod t (k + 1 + m) + t ((k + 1 + m : Nat) : Int)
    omega
/-- t goes on from the first k of s, with stores under n -/
def ext (P : aP) (n : Int) (K k : Nat) (s t : Int → Int) : Prop := (∀ j : Int, 0 ≤ j → j < k → t j = s j) ∧ ∀ j : Nat, k ≤ j → j < K → vst P t j ∧ t j < n
theorem s_isFree_n (d : Nat) {G : jG} {X : jX} {P : aP} {s : Int → Int} {k : Nat} (v : Int) (hG : GG G) (hP : cPlan X P) (hk : (k : Int) < pK P) (hk5 : k < 5) (hs : ∀ j : Int, 0 ≤ j → j < k → X 141 j = s j) : ∀ (m : Nat) (i : Int), i + m = k → 0 ≤ i → jN d 137 2 [(19, 140), (0, (k : Int)), (0, v), (0, i)] [] (G, X) = some (b01 (∀ j : Int, i ≤ j → j < k → s j = v → fbt P k j = 0), (G, X)) := by
  intro m
  induction m with
  | zero =>
    intro i h0 h1
    rw [h_X9_isFree_2, if_neg (by omega), b01_t (fun j j0 j1 => by omega)]
  | succ m ih =>
    intro i h0 h1
    have e6 : X 6 k = pFo P k := (hP.2.2.2.1 k (by omega) hk).2.2.1
    rw [h_X9_isFree_2, if_pos (by omega), gr_140_2 hG, gl_141 hG, gr_140_0 hG, gr_1_12 hG, gl_6 hG, hs i h1 (by omega), e6, jadd_id (by omega) (by omega), ih (i + 1) (by omega) (by omega)]
    simp only [Int.reduceLE, reduceIte]
    rw [if_pos h1, if_pos (show i < 5 by omega)]
    by_cases q : s i = v
    · rw [if_pos q, if_pos (by omega), if_pos (by omega)]
      by_cases w : fbt P k i = 0
      · rw [if_pos (show iAnd (iShr (pFo P k) i) 1 = 0 from w)]
        congr 3
        apply propext
        constructor
        · intro a j j0 j1 j2
          by_cases z : j = i
          · rw [z]; exact w
          · exact a j (by omega) j1 j2
        · intro a j j0 j1 j2; exact a j (by omega) j1 j2
      · rw [if_neg (show ¬ iAnd (iShr (pFo P k) i) 1 = 0 from w), b01_f (fun a => w (a i (by omega) (by omega) q))]
    · rw [if_neg q]
      congr 3
      apply propext
      constructor
      · intro a j j0 j1 j2
        by_cases z : j = i
        · rw [z] at j2; exact absurd j2 q
        · exact a j (by omega) j1 j2
      · intro a j j0 j1 j2; exact a j (by omega) j1 j2
theorem s_kindsX (d : Nat) {G : jG} {X : jX} {P : aP} (hG : GG G) (hP : cPlan X P) (hO : pOk P) : jD (d + 2) 133 [(19, 140)] (G, X) = some (pK P, (G, X)) := by
  have hn := pOk_n hO
  rw [e_X9_kinds, gr_140_0 hG, (cPlan_at hP).2.2.2.2.2.1, s_min d]
  simp only [Option.bind_some, Int.reduceLE, reduceIte]
  congr 2
  split <;> omega
/-- what place answers -/
def plR (P : aP) (n : Int) (K k : Nat) (v : Int) (s : Int → Int) (X' : jX) (r : Int) : Prop := (r = 1 ∧ ∃ t, ext P n K k s t ∧ (∀ j : Int, 0 ≤ j → j < K → X' 141 j = t j) ∧ ∀ t', ext P n K k s t' → (k < K → v ≤ t' k) → cod t K ≤ cod t' K) ∨ (r = 0 ∧ (∀ t', ext P n K k s t' → ¬ (k < K → v ≤ t' k)) ∧ ∀ j : Int, 0 ≤ j → j < k → X' 141 j = s j)
theorem s_place_n (d : Nat) {G : jG} {P : aP} {K k : Nat} {n : Int} {s : Int → Int} (hG : GG G) (hO : pOk P) (hK : (K : Int) = pK P) (hk : k < K) (hn : n ≤ 5) (IH : ∀ (X : jX) (s' : Int → Int), cPlan X P → (∀ j : Int, 0 ≤ j → j < ((k + 1 : Nat) : Int) → X 141 j = s' j) → ∃ X' r, jD (d + 3) 136 [(19, 140), (0, ((k + 1 : Nat) : Int)), (0, usd s' (k + 1)), (0, n)] (G, X) = some (r, (G, X')) ∧ (∀ a, a ≠ 141 → X' a = X a) ∧ plR P n K (k + 1) 0 s' X' r) : ∀ (m : Nat) (X : jX) (v : Int), 0 ≤ v → v + m = 5 → cPlan X P → (∀ j : Int, 0 ≤ j → j < k → X 141 j = s j) → ∃ X' r, jN (d + 3) 136 13 [(19, 140), (0, (k : Int)), (0, usd s k), (0, n), (0, v)] [] (G, X) = some (r, (G, X')) ∧ (∀ a, a ≠ 141 → X' a = X a) ∧ plR P n K k v s X' r := by
  have hn' := pOk_n hO
  intro m
  induction m with
  | zero =>
    intro X v v0 v1 hP hs
    refine ⟨X, 0, ?_, fun _ _ => rfl, Or.inr ⟨rfl, fun t' ht w => ?_, hs⟩⟩
    · rw [h_X9_place_13]
      by_cases q : usd s k < v
      · rw [if_pos q]
      · rw [if_neg q, if_neg (by omega)]
    · have h1 := ht.2 k (Nat.le_refl k) hk
      have h2 := w hk
      have := h1.2
      omega
  | succ m ih =>
    intro X v v0 v1 hP hs
    rw [h_X9_place_13]
    by_cases q : usd s k < v
    · rw [if_pos q]
      refine ⟨X, 0, rfl, fun _ _ => rfl, Or.inr ⟨rfl, fun t' ht w => ?_, hs⟩⟩
      have h1 := (ht.2 k (Nat.le_refl k) hk).1.2.1
      rw [usd_cong k ht.1] at h1
      have h2 := w hk
      omega
    · by_cases q2 : v < n
      · rw [if_neg q, if_pos q2, e_X9_isFree, s_isFree_n (d + 2) v hG hP (by omega) (by omega) hs k 0 (by omega) (by omega)]
        simp only [Option.bind_some, Int.reduceLE, reduceIte]
        rw [jadd_id (a := v) (by omega) (by omega)]
        have bad : ∀ (X1 : jX) (r : Int), (∀ t', ext P n K k s t' → t' k ≠ v) → plR P n K k (v + 1) s X1 r → plR P n K k v s X1 r := by
          intro X1 r hno h
          have key : ∀ t', ext P n K k s t' → (k < K → v ≤ t' k) → (k < K → v + 1 ≤ t' k) := fun t' ht w hw => by
            have h1 := hno t' ht
            have h2 := w hw
            omega
          rcases h with ⟨h1, t, h2, h3, h4⟩ | ⟨h1, h2, h3⟩
          · exact Or.inl ⟨h1, t, h2, h3, fun t' ht w => h4 t' ht (key t' ht w)⟩
          · exact Or.inr ⟨h1, fun t' ht w => h2 t' ht (key t' ht w), h3⟩
        by_cases hf : ∀ j : Int, 0 ≤ j → j < k → s j = v → fbt P k j = 0
        · rw [b01_t hf, if_neg (show ¬ (1 : Int) = 0 by omega), gr_140_2 hG, gl_141 hG]
          simp only [Int.reduceLE, reduceIte]
          rw [if_pos (show (0 : Int) ≤ k by omega), if_pos (show (k : Int) < 5 by omega), s_max (d + 2)]
          simp only [Option.bind_some]
          have se : ∀ j : Int, 0 ≤ j → j < k → (fun j => if j = (k : Int) then v else s j) j = s j := fun j j0 j1 => by dsimp only; rw [if_neg (by omega)]
          have eu : usd (fun j => if j = (k : Int) then v else s j) (k + 1) = if usd s k < v + 1 then v + 1 else usd s k := by
            show (if usd (fun j => if j = (k : Int) then v else s j) k < (if (k : Int) = k then v else s k) + 1 then (if (k : Int) = k then v else s k) + 1 else usd (fun j => if j = (k : Int) then v else s j) k) = _
            rw [usd_cong k se, if_pos (show (k : Int) = k from rfl)]
          obtain ⟨X1, r, e1, f1, p1⟩ := IH (jup X 141 k v) (fun j => if j = (k : Int) then v else s j) (cPlan_fr (fun a h1 h2 => jup_rw _ _ _ _ _ (by omega)) hP) (fun j j0 j1 => by
            by_cases z : j = k
            · rw [z, jup_same, if_pos rfl]
            · rw [jup_row _ _ _ _ _ z, if_neg z]; exact hs j j0 (by omega))
          rw [show jadd (k : Int) 1 = ((k + 1 : Nat) : Int) by rw [jadd_id (by omega) (by omega)]; omega, ← eu, e1]
          simp only [Option.bind_some]
          have up : ∀ t', ext P n K k s t' → t' k = v → ext P n K (k + 1) (fun j => if j = (k : Int) then v else s j) t' := fun t' ht hv => ⟨fun j j0 j1 => by
            by_cases z : j = k
            · rw [z, hv]; dsimp only; rw [if_pos rfl]
            · dsimp only; rw [if_neg z]; exact ht.1 j j0 (by omega), fun j j0 j1 => ht.2 j (by omega) j1⟩
          have F1 : ∀ a, a ≠ 141 → X1 a = X a := fun a ha => by rw [f1 a ha, jup_rw _ _ _ _ _ ha]
          rcases p1 with ⟨h1, t, h2, h3, h4⟩ | ⟨h1, h2, h3⟩
          · rw [h1, if_neg (show ¬ (1 : Int) = 0 by omega)]
            have tk : t k = v := by have := h2.1 k (by omega) (by omega); dsimp only at this; rw [if_pos rfl] at this; exact this
            have ts : ∀ j : Int, 0 ≤ j → j < k → t j = s j := fun j j0 j1 => (h2.1 j j0 (by omega)).trans (se j j0 j1)
            refine ⟨X1, 1, rfl, F1, Or.inl ⟨rfl, t, ⟨ts, fun j j0 j1 => ?_⟩, h3, fun t' ht w => ?_⟩⟩
            · by_cases z : j = k
              · rw [z]
                refine ⟨⟨by omega, by rw [usd_cong k ts]; omega, fun i i0 i1 i2 => hf i i0 i1 ?_⟩, by omega⟩
                rw [← ts i i0 i1, i2, tk]
              · exact h2.2 j (by omega) j1
            · have hw := w hk
              by_cases z : t' k = v
              · by_cases hK1 : k + 1 < K
                · exact h4 t' (up t' ht z) (fun _ => ((ht.2 (k + 1) (by omega) hK1).1.1))
                · exact h4 t' (up t' ht z) (fun y => absurd y hK1)
              · have := cod_lt (s := t) (t := t') (k := k) (fun j j0 j1 => by rw [ht.1 j j0 j1, ts j j0 j1]) (by omega) (K - (k + 1)) (fun j j0 j1 => by
                  have y1 := h2.2 j.toNat (by omega) (by omega)
                  have y2 := ht.2 j.toNat (by omega) (by omega)
                  have y3 := y1.2
                  have y4 := y2.1.1
                  rw [show ((j.toNat : Nat) : Int) = j by omega] at y3 y4
                  omega)
                rw [show k + 1 + (K - (k + 1)) = K by omega] at this
                omega
          · rw [h1, if_pos rfl]
            obtain ⟨X', r', e', f', p'⟩ := ih X1 (v + 1) (by omega) (by omega) (cPlan_fr (fun a h1 h2 => F1 a (by omega)) hP) (fun j j0 j1 => (h3 j j0 (by omega)).trans (se j j0 j1))
            refine ⟨X', r', e', fun a ha => by rw [f' a ha, F1 a ha], bad X' r' (fun t' ht hv => ?_) p'⟩
            refine h2 t' (up t' ht hv) (fun y => ?_)
            exact (ht.2 (k + 1) (by omega) y).1.1
        · rw [b01_f hf, if_pos rfl]
          obtain ⟨X', r', e', f', p'⟩ := ih X (v + 1) (by omega) (by omega) hP hs
          refine ⟨X', r', e', f', bad X' r' (fun t' ht hv => hf (fun j j0 j1 j2 => ?_)) p'⟩
          exact (ht.2 k (Nat.le_refl k) hk).1.2.2 j j0 j1 (by rw [ht.1 j j0 j1, j2, hv])
      · rw [if_neg q, if_neg q2]
        refine ⟨X, 0, rfl, fun _ _ => rfl, Or.inr ⟨rfl, fun t' ht w => ?_, hs⟩⟩
        have h1 := (ht.2 k (Nat.le_refl k) hk).2
        have h2 := w hk
        omega
theorem s_place {G : jG} {P : aP} {K : Nat} {n : Int} (hG : GG G) (hO : pOk P) (hK : (K : Int) = pK P) (hn : n ≤ 5) : ∀ (m d k : Nat) (X : jX) (s : Int → Int), k + m = K → cPlan X P → (∀ j : Int, 0 ≤ j → j < k → X 141 j = s j) → ∃ X' r, jD (d + m + 3) 136 [(19, 140), (0, (k : Int)), (0, usd s k), (0, n)] (G, X) = some (r, (G, X')) ∧ (∀ a, a ≠ 141 → X' a = X a) ∧ plR P n K k 0 s X' r := by
  intro m
  induction m with
  | zero =>
    intro d k X s h1 hP hs
    refine ⟨X, 1, ?_, fun _ _ => rfl, Or.inl ⟨rfl, s, ⟨fun _ _ _ => rfl, fun j j0 j1 => by omega⟩, fun j j0 j1 => hs j j0 (by omega), fun t' ht _ => ?_⟩⟩
    · show jD (d + 2 + 1) 136 _ _ = _
      rw [e_X9_place, s_kindsX d hG hP hO]
      simp only [Option.bind_some, Int.reduceLE, reduceIte]
      rw [if_neg (by omega)]
    · have : cod t' K = cod s K := cod_cong K (fun j j0 j1 => ht.1 j j0 (by omega))
      omega
  | succ m ih =>
    intro d k X s h1 hP hs
    obtain ⟨X', r, e, f, p⟩ := s_place_n (d + m) (k := k) (s := s) hG hO hK (by omega) hn (fun X1 s' hP1 hs1 => ih d (k + 1) X1 s' (by omega) hP1 hs1) 5 X 0 (by omega) (by omega) hP hs
    refine ⟨X', r, ?_, f, p⟩
    rw [show d + (m + 1) + 3 = d + m + 3 + 1 by omega, e_X9_place, s_kindsX (d + m + 1) hG hP hO]
    simp only [Option.bind_some, Int.reduceLE, reduceIte]
    rw [if_pos (by omega)]
    exact e
