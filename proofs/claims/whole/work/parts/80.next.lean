/-! NEXT -/
def mxh (g : Int → Int) : Nat → Int
  | 0 => 0
  | n + 1 => if mxh g n < g n then g n else mxh g n
theorem mxh_cong {g g' : Int → Int} : ∀ n : Nat, (∀ v : Int, 0 ≤ v → v < n → g' v = g v) → mxh g' n = mxh g n
  | 0, _ => rfl
  | n + 1, h => by
    show (if mxh g' n < g' n then g' n else mxh g' n) = if mxh g n < g n then g n else mxh g n
    rw [mxh_cong n (fun v v0 v1 => h v v0 (by omega)), h n (by omega) (by omega)]
theorem mxh_up {g g' : Int → Int} {t : Int} (h0 : 0 ≤ t) (h1 : g' t = g t + 1) (h2 : ∀ v, v ≠ t → g' v = g v) : ∀ n : Nat, t < n → mxh g' n = if mxh g n < g t + 1 then g t + 1 else mxh g n
  | 0, h => by omega
  | n + 1, h => by
    show (if mxh g' n < g' n then g' n else mxh g' n) = if (if mxh g n < g n then g n else mxh g n) < g t + 1 then g t + 1 else (if mxh g n < g n then g n else mxh g n)
    by_cases q : t = n
    · rw [mxh_cong n (fun v v0 v1 => h2 v (by omega)), ← q, h1]
      repeat' split
      all_goals omega
    · rw [mxh_up h0 h1 h2 n (by omega), h2 n (by omega)]
      repeat' split
      all_goals omega
theorem mxh_le {g : Int → Int} {b : Int} (hb : 0 ≤ b) : ∀ n : Nat, (∀ v : Int, 0 ≤ v → v < n → g v ≤ b) → 0 ≤ mxh g n ∧ mxh g n ≤ b
  | 0, _ => ⟨Int.le_refl 0, hb⟩
  | n + 1, h => by
    have := mxh_le hb n (fun v v0 v1 => h v v0 (by omega))
    have h2 := h n (by omega) (by omega)
    show 0 ≤ (if mxh g n < g n then g n else mxh g n) ∧ (if mxh g n < g n then g n else mxh g n) ≤ b
    split <;> omega
theorem mxh_tail {g : Int → Int} {k : Nat} (h : ∀ v : Int, k ≤ v → g v ≤ 0) : ∀ n : Nat, mxh g (k + n) = mxh g k
  | 0 => rfl
  | n + 1 => by
    have h1 := h ((k + n : Nat) : Int) (by omega)
    have h2 : 0 ≤ mxh g (k + n) := by
      generalize k + n = m
      induction m with
      | zero => exact Int.le_refl 0
      | succ m ih =>
        show 0 ≤ if mxh g m < g m then g m else mxh g m
        split <;> omega
    show (if mxh g (k + n) < g ((k + n : Nat) : Int) then g ((k + n : Nat) : Int) else mxh g (k + n)) = _
    rw [if_neg (by omega), mxh_tail h n]
def hcf (f sh : Int → Int) (v : Int) : Int → Int := fun s => if f s = 1 ∧ sh s = v then 1 else 0
theorem hcf_01 (f sh : Int → Int) (v : Int) (n : Nat) : 0 ≤ cnt (hcf f sh v) n ∧ cnt (hcf f sh v) n ≤ n := cnt_le (fun c _ _ => by unfold hcf; split <;> simp)
def alk (f sh : Int → Int) : Int := mxh (fun v => cnt (hcf f sh v) 15) 6
theorem alk_le (f sh : Int → Int) : 0 ≤ alk f sh ∧ alk f sh ≤ 15 := mxh_le (by omega) 6 (fun v _ _ => (hcf_01 f sh v 15).2)
theorem shA_le {P : aP} (hO : pOk P) (s c r : Int) : 0 ≤ shA P s c r ∧ shA P s c r ≤ pK P ∧ pK P ≤ 5 := by
  have hn := pOk_n hO
  unfold shA seA
  split
  · rename_i h
    have hi : 0 ≤ (r - (s / 5 - 1)) * pC P + (c - (s % 5 - 2)) ∧ (r - (s / 5 - 1)) * pC P + (c - (s % 5 - 2)) < pCe P := by
      generalize r - (s / 5 - 1) = y at h ⊢
      generalize c - (s % 5 - 2) = x at h ⊢
      have h1 : 0 ≤ y * pC P := Int.mul_nonneg h.2.2.1 (by omega)
      have h2 : (y + 1) * pC P ≤ pR P * pC P := Int.mul_le_mul_of_nonneg_right (by omega) (by omega)
      rw [Int.add_mul, Int.one_mul] at h2
      refine ⟨by omega, ?_⟩
      show _ < pC P * pR P
      rw [Int.mul_comm (pC P)]
      omega
    have := pOk_c hO _ hi.1 hi.2
    omega
  · omega
theorem ibit {x c : Nat} (hx : x < 2 ^ 31) (hc : c < 32) : iAnd (iShr (x : Int) (c : Int)) 1 = ((x / 2 ^ c % 2 : Nat) : Int) := by
  have h : x / 2 ^ c ≤ x := Nat.div_le_self _ _
  rw [iShr_div c hc (by unfold j32; omega), show (x : Int) / 2 ^ c = ((x / 2 ^ c : Nat) : Int) by simp, show (1 : Int) = ((1 : Nat) : Int) from rfl, iAnd_nat (by omega) (by omega), Nat.and_one_is_mod]
def shc (P : aP) (c : Int) : Int → Int := fun s => shA P s (c % pC P) (c / pC P)
theorem cl_in {P : aP} {c : Int} (hO : pOk P) (hi : inP P c) : 0 < pC P ∧ 0 ≤ c % pC P ∧ c % pC P ≤ 255 ∧ 0 ≤ c / pC P ∧ c / pC P ≤ 255 := by
  have hcc := pCe_le hO
  have hi' : 0 ≤ c ∧ c < pCe P := hi
  have hC : 0 < pC P := by
    rcases Int.lt_or_le 0 (pC P) with h | h
    · exact h
    · have : pC P = 0 := by omega
      rw [this, Int.zero_mul] at hcc
      omega
  have h1 := Int.emod_nonneg c (b := pC P) (by omega)
  have h2 := Int.emod_lt_of_pos c hC
  have h3 := Int.ediv_nonneg hi'.1 (by omega : 0 ≤ pC P)
  have h4 := Int.ediv_le_self (b := pC P) hi'.1
  omega
theorem s_al_n (d : Nat) {G : jG} {P : aP} {f : Int → Int} {c : Int} (hG : GG G) (hO : pOk P) (hi : inP P c) (h01 : ∀ c : Int, 0 ≤ c → f c = 0 ∨ f c = 1) : ∀ (m i : Nat) (X : jX) (u : jV), u.1 = 2 ∨ u.1 = 0 → cPlan X P → i + m = 15 → (∀ v, 0 ≤ v → v < 6 → X 139 v = cnt (hcf f (shc P c) v) i) → ∃ X', jN (d + 3) 9 13 [(10, 137), (0, (bsN f 15 : Int)), (0, c), (0, mxh (fun v => cnt (hcf f (shc P c) v) i) 6), (0, (i : Int)), u] [] (G, X) = some (alk f (shc P c), (G, X')) ∧ ∀ a, a ≠ 139 → X' a = X a := by
  have hcl := cl_in hO hi
  have hi' : 0 ≤ c ∧ c < pCe P := hi
  have hcc := pCe_le hO
  intro m
  induction m with
  | zero =>
    intro i X u hu hP h1 hX
    refine ⟨X, ?_, fun _ _ => rfl⟩
    rw [h_X0_countAlike_13 _ _ _ _ _ _ _ hu, if_neg (by omega), show i = 15 by omega]
    rfl
  | succ m ih =>
    intro i X u hu hP h1 hX
    have hs := shA_le hO i (c % pC P) (c / pC P)
    have hbt := bsN_at f 15 i (by omega)
    have hbl := bsN_32 f
    have hco := hcf_01 f (shc P c) (shA P i (c % pC P) (c / pC P)) i
    have hmx := mxh_le (b := 15) (by omega) 6 (fun v _ _ => by have := hcf_01 f (shc P c) v i; show cnt (hcf f (shc P c) v) i ≤ 15; omega)
    have estep : ∀ v, cnt (hcf f (shc P c) v) (i + 1) = cnt (hcf f (shc P c) v) i + (if f i = 1 ∧ shc P c i = v then 1 else 0) := fun v => rfl
    rw [h_X0_countAlike_13 _ _ _ _ _ _ _ hu, if_pos (by omega), gr_137_0 hG, s_columnOf (d + 2) c hP hi'.1 hcl.1]
    simp only [Option.bind_some, Int.reduceLE, reduceIte]
    rw [gr_137_0 hG, s_rowOf (d + 2) c hP hi'.1 (by omega) hcl.1]
    simp only [Option.bind_some, Int.reduceLE, reduceIte]
    rw [s_shifted d (i : Int) _ _ hG hP hO (by omega) (by omega) hcl.2.1 hcl.2.2.1 hcl.2.2.2.1 hcl.2.2.2.2]
    simp only [Option.bind_some]
    rw [ibit (by omega) (by omega), hbt, show jadd (i : Int) 1 = ((i + 1 : Nat) : Int) by rw [jadd_id (by omega) (by omega)]; omega]
    by_cases q : f i = 1
    · rw [if_pos q, if_neg (show ¬ (((1 : Nat) : Int) = 0) by omega), if_neg (by omega), gr_137_2 hG, gl_139 hG, jup_same, hX _ hs.1 (by omega), jadd_id (by omega) (by omega), s_max (d + 2)]
      simp only [Option.bind_some, Int.reduceLE, reduceIte]
      simp only [if_pos (show shA P i (c % pC P) (c / pC P) < 6 by omega), if_pos hs.1]
      have eup : mxh (fun v => cnt (hcf f (shc P c) v) (i + 1)) 6 = if mxh (fun v => cnt (hcf f (shc P c) v) i) 6 < cnt (hcf f (shc P c) (shA P i (c % pC P) (c / pC P))) i + 1 then cnt (hcf f (shc P c) (shA P i (c % pC P) (c / pC P))) i + 1 else mxh (fun v => cnt (hcf f (shc P c) v) i) 6 := mxh_up (g := fun v => cnt (hcf f (shc P c) v) i) hs.1 (by rw [estep, if_pos ⟨q, rfl⟩]) (fun v hv => by rw [estep, if_neg (fun w => hv w.2.symm), Int.add_zero]) 6 (by omega)
      obtain ⟨X', e, fr⟩ := ih (i + 1) (jup X 139 (shA P i (c % pC P) (c / pC P)) (cnt (hcf f (shc P c) (shA P i (c % pC P) (c / pC P))) i + 1)) (0, shA P i (c % pC P) (c / pC P)) (Or.inr rfl) (cPlan_fr (fun a h1 h2 => jup_rw _ _ _ _ _ (by omega)) hP) (by omega) (fun v v0 v1 => by
        by_cases w : v = shA P i (c % pC P) (c / pC P)
        · rw [w, jup_same, estep, if_pos ⟨q, rfl⟩]
        · rw [jup_row _ _ _ _ _ w, hX v v0 v1, estep, if_neg (fun z => w z.2.symm), Int.add_zero])
      rw [eup] at e
      exact ⟨X', e, fun a ha => by rw [fr a ha, jup_rw _ _ _ _ _ ha]⟩
    · rw [if_neg q, if_pos (show ((0 : Nat) : Int) = 0 from rfl)]
      have eg : (fun v => cnt (hcf f (shc P c) v) (i + 1)) = fun v => cnt (hcf f (shc P c) v) i := by
        funext v
        rw [estep, if_neg (fun z => q z.1), Int.add_zero]
      obtain ⟨X', e, fr⟩ := ih (i + 1) X (0, shA P i (c % pC P) (c / pC P)) (Or.inr rfl) hP (by omega) (fun v v0 v1 => by rw [hX v v0 v1, estep, if_neg (fun z => q z.1), Int.add_zero])
      rw [eg] at e
      exact ⟨X', e, fr⟩
theorem s_alike (d : Nat) {G : jG} {X : jX} {P : aP} {f : Int → Int} {c : Int} (hG : GG G) (hP : cPlan X P) (hO : pOk P) (hi : inP P c) (h01 : ∀ c : Int, 0 ≤ c → f c = 0 ∨ f c = 1) : ∃ X', jD (d + 4) 9 [(10, 137), (0, (bsN f 15 : Int)), (0, c)] (G, X) = some (alk f (shc P c), (G, X')) ∧ ∀ a, a ≠ 139 → X' a = X a := by
  rw [e_X0_countAlike, gr_137_2 hG, s_fill (d + 2) 139 0 6 (by omega) (gl_139 hG) (by omega) (by omega)]
  simp only [Option.bind_some, Int.reduceLE, reduceIte]
  obtain ⟨X', e, fr⟩ := s_al_n d (f := f) hG hO hi h01 15 0 (fil X 139 6 0) (2, -1) (Or.inl rfl) (cPlan_fr (fun a h1 h2 => fil_ne _ _ _ _ _ (by omega)) hP) rfl (fun v v0 v1 => by rw [fil_at, if_pos ⟨v0, v1⟩]; rfl)
  exact ⟨X', e, fun a ha => by rw [fr a ha, fil_ne _ _ _ _ _ ha]⟩
theorem t_al_20 (d : Nat) {G : jG} {X : jX} {P : aP} {f : Int → Int} {c : Int} (hG : GG G) (hP : mPlan X P) (hO : pOk P) (hi : inP P c) (h01 : ∀ c : Int, 0 ≤ c → f c = 0 ∨ f c = 1) (v3 k : Int) (k0 : 0 ≤ k) (k1 : k ≤ 5) : ∀ (m i : Nat), i + m = 15 → jN (d + 3) 289 20 [(22, 149), (0, c), (0, (bsN f 15 : Int)), (0, v3), (0, k - 1), (0, cnt (hcf f (shc P c) k) i), (0, (i : Int))] [] (G, X) = jN (d + 3) 289 5 [(22, 149), (0, c), (0, (bsN f 15 : Int)), (0, if v3 < cnt (hcf f (shc P c) k) 15 then cnt (hcf f (shc P c) k) 15 else v3), (0, k), (0, cnt (hcf f (shc P c) k) 15), (0, 15)] [] (G, X) := by
  have hcl := cl_in hO hi
  have hi' : 0 ≤ c ∧ c < pCe P := hi
  have hcc := pCe_le hO
  intro m
  induction m with
  | zero =>
    intro i h1
    rw [h_X12_alikeAt_20, if_neg (by omega), jadd_id (by omega) (by omega), show k - 1 + 1 = k by omega, show i = 15 by omega]
    split <;> rfl
  | succ m ih =>
    intro i h1
    have hbt := bsN_at f 15 i (by omega)
    have hbl := bsN_32 f
    have hco := hcf_01 f (shc P c) k i
    have estep : cnt (hcf f (shc P c) k) (i + 1) = cnt (hcf f (shc P c) k) i + (if f i = 1 ∧ shc P c i = k then 1 else 0) := rfl
    rw [← ih (i + 1) (by omega), h_X12_alikeAt_20, if_pos (by omega), ibit (by omega) (by omega), hbt, show jadd (i : Int) 1 = ((i + 1 : Nat) : Int) by rw [jadd_id (by omega) (by omega)]; omega, estep]
    by_cases q : f i = 1
    · rw [if_pos q, if_pos (show ((1 : Nat) : Int) = 1 from rfl), t_columns (d + 2) hG hP]
      simp only [Option.bind_some, Int.reduceLE, reduceIte]
      rw [if_neg (by omega), t_columns (d + 2) hG hP]
      simp only [Option.bind_some]
      rw [if_neg (by omega), jrem_id hi'.1, jdiv_id hi'.1 hcl.1 (by omega), t_shifted d (i : Int) _ _ hG hP hO (by omega) (by omega) hcl.2.1 hcl.2.2.1 hcl.2.2.2.1 hcl.2.2.2.2]
      simp only [Option.bind_some]
      by_cases w : shc P c i = k
      · have w' : shA P i (c % pC P) (c / pC P) = k := w
        rw [if_pos (show shA P i (c % pC P) (c / pC P) - 1 = k - 1 by omega), if_pos ⟨q, w⟩, jadd_id (by omega) (by omega)]
      · have w' : ¬ shA P i (c % pC P) (c / pC P) = k := w
        rw [if_neg (show ¬ shA P i (c % pC P) (c / pC P) - 1 = k - 1 by omega), if_neg (fun z => w z.2), Int.add_zero]
    · rw [if_neg q, if_neg (show ¬ ((0 : Nat) : Int) = 1 by omega), if_neg (fun z => q z.1), Int.add_zero]
theorem t_al_5 (d : Nat) {G : jG} {X : jX} {P : aP} {f : Int → Int} {c : Int} (hG : GG G) (hP : mPlan X P) (hO : pOk P) (hi : inP P c) (h01 : ∀ c : Int, 0 ≤ c → f c = 0 ∨ f c = 1) : ∀ (m k : Nat) (u w : jV), u.1 = 2 ∨ u.1 = 0 → w.1 = 2 ∨ w.1 = 0 → (k : Int) + m = pK P + 1 → jN (d + 3) 289 5 [(22, 149), (0, c), (0, (bsN f 15 : Int)), (0, mxh (fun v => cnt (hcf f (shc P c) v) 15) k), (0, (k : Int) - 1), u, w] [] (G, X) = some (mxh (fun v => cnt (hcf f (shc P c) v) 15) (k + m), (G, X)) := by
  have hn := pOk_n hO
  intro m
  induction m with
  | zero =>
    intro k u w hu hw h1
    rw [h_X12_alikeAt_5 _ _ _ _ _ _ _ hu _ hw, t_kindMany (d + 2) hG hP]
    simp only [Option.bind_some, Int.reduceLE, reduceIte]
    rw [if_neg (by omega)]
    rfl
  | succ m ih =>
    intro k u w hu hw h1
    have := t_al_20 d (f := f) hG hP hO hi h01 (mxh (fun v => cnt (hcf f (shc P c) v) 15) k) k (by omega) (by omega) 15 0 rfl
    rw [h_X12_alikeAt_5 _ _ _ _ _ _ _ hu _ hw, t_kindMany (d + 2) hG hP]
    simp only [Option.bind_some, Int.reduceLE, reduceIte]
    rw [if_pos (by omega)]
    refine this.trans ?_
    have e := ih (k + 1) (0, cnt (hcf f (shc P c) k) 15) (0, 15) (Or.inr rfl) (Or.inr rfl) (by omega)
    rw [show ((k + 1 : Nat) : Int) - 1 = (k : Int) by omega, show k + 1 + m = k + (m + 1) by omega] at e
    exact e
theorem t_alike (d : Nat) {G : jG} {X : jX} {P : aP} {f : Int → Int} {c : Int} (hG : GG G) (hP : mPlan X P) (hO : pOk P) (hi : inP P c) (h01 : ∀ c : Int, 0 ≤ c → f c = 0 ∨ f c = 1) : jD (d + 4) 289 [(22, 149), (0, c), (0, (bsN f 15 : Int))] (G, X) = some (alk f (shc P c), (G, X)) := by
  have hn := pOk_n hO
  rw [e_X12_alikeAt]
  have e := t_al_5 d (f := f) hG hP hO hi h01 (pK P + 1).toNat 0 (2, -1) (2, -1) (Or.inl rfl) (Or.inl rfl) (by omega)
  have z : ∀ v : Int, (((pK P + 1).toNat : Nat) : Int) ≤ v → cnt (hcf f (shc P c) v) 15 ≤ 0 := fun v hv => by
    have : ∀ n : Nat, cnt (hcf f (shc P c) v) n = 0 := by
      intro n
      induction n with
      | zero => rfl
      | succ n ih =>
        show cnt (hcf f (shc P c) v) n + (if f n = 1 ∧ shc P c n = v then 1 else 0) = 0
        rw [ih, if_neg]
        · rfl
        · intro w
          have h1 := shA_le hO n (c % pC P) (c / pC P)
          have h2 : shA P n (c % pC P) (c / pC P) = v := w.2
          omega
    rw [this]
    exact Int.le_refl 0
  have t := mxh_tail (g := fun v => cnt (hcf f (shc P c) v) 15) z (6 - (pK P + 1).toNat)
  rw [show (pK P + 1).toNat + (6 - (pK P + 1).toNat) = 6 by omega] at t
  rw [show (0 : Nat) + (pK P + 1).toNat = (pK P + 1).toNat by omega, ← t] at e
  exact e
def nxS (al : Int → Int) : Nat → Int → Int × Int → Int × Int
  | 0, _, q => q
  | m + 1, c, q => nxS al m (c + 1) (if al c < q.2 then (c, al c) else q)
theorem nxS_ok {al : Int → Int} (h : ∀ c, 0 ≤ al c) : ∀ (m : Nat) (c : Int) (q : Int × Int), 0 ≤ c → 0 ≤ q.1 → q.2 = al q.1 → (nxS al m c q).2 = al (nxS al m c q).1 ∧ 0 ≤ (nxS al m c q).1 ∧ (q.1 < c → (nxS al m c q).1 < c + m) := by
  intro m
  induction m with
  | zero => intro c q h0 h1 h2; exact ⟨h2, h1, fun h => by show q.1 < c + 0; omega⟩
  | succ m ih =>
    intro c q h0 h1 h2
    show (nxS al m (c + 1) (if al c < q.2 then (c, al c) else q)).2 = _ ∧ _
    have e : nxS al (m + 1) c q = nxS al m (c + 1) (if al c < q.2 then (c, al c) else q) := rfl
    rw [e]
    by_cases w : al c < q.2
    · rw [if_pos w]
      have := ih (c + 1) (c, al c) (by omega) h0 rfl
      exact ⟨this.1, this.2.1, fun _ => by have := this.2.2 (by show c < c + 1; omega); omega⟩
    · rw [if_neg w]
      have := ih (c + 1) q (by omega) h1 h2
      exact ⟨this.1, this.2.1, fun hh => by have := this.2.2 (by omega); omega⟩
theorem s_nx_n (d : Nat) {G : jG} {P : aP} {f : Int → Int} (hG : GG G) (hO : pOk P) (h01 : ∀ c : Int, 0 ≤ c → f c = 0 ∨ f c = 1) (hM : (bsN f 15 : Int) ≠ 0) : ∀ (m : Nat) (X : jX) (c : Int) (q : Int × Int) (u : jV), u.1 = 2 ∨ u.1 = 0 → cPlan X P → c + m = pCe P → 0 ≤ c → ∃ X', jN (d + 4) 7 13 [(10, 137), (0, (bsN f 15 : Int)), (0, q.1), (0, q.2), (0, c), u] [] (G, X) = some ((nxS (fun c => alk f (shc P c)) m c q).1, (G, X')) ∧ ∀ a, a ≠ 139 → X' a = X a := by
  have hcc := pCe_le hO
  intro m
  induction m with
  | zero =>
    intro X c q u hu hP h1 h2
    refine ⟨X, ?_, fun _ _ => rfl⟩
    rw [h_X0_nextCell_13 _ _ _ _ _ _ _ hu, gr_137_0 hG, (cPlan_at hP).2.1]
    simp only [Int.reduceLE, reduceIte]
    rw [if_neg (by omega)]
    rfl
  | succ m ih =>
    intro X c q u hu hP h1 h2
    obtain ⟨X1, e1, f1⟩ := s_alike d (f := f) (c := c) hG hP hO ⟨h2, by omega⟩ h01
    rw [h_X0_nextCell_13 _ _ _ _ _ _ _ hu, gr_137_0 hG, (cPlan_at hP).2.1]
    simp only [Int.reduceLE, reduceIte]
    rw [if_pos (by omega), if_neg hM, e1]
    simp only [Option.bind_some]
    rw [jadd_id (by omega) (by omega)]
    have e : nxS (fun c => alk f (shc P c)) (m + 1) c q = nxS (fun c => alk f (shc P c)) m (c + 1) (if alk f (shc P c) < q.2 then (c, alk f (shc P c)) else q) := rfl
    rw [e]
    have hP1 := cPlan_fr (X' := X1) (fun a h1 h2 => f1 a (by omega)) hP
    by_cases w : alk f (shc P c) < q.2
    · rw [if_pos w, if_pos w]
      obtain ⟨X', e', f'⟩ := ih X1 (c + 1) (c, alk f (shc P c)) (0, alk f (shc P c)) (Or.inr rfl) hP1 (by omega) (by omega)
      exact ⟨X', e', fun a ha => by rw [f' a ha, f1 a ha]⟩
    · rw [if_neg w, if_neg w]
      obtain ⟨X', e', f'⟩ := ih X1 (c + 1) q (0, alk f (shc P c)) (Or.inr rfl) hP1 (by omega) (by omega)
      exact ⟨X', e', fun a ha => by rw [f' a ha, f1 a ha]⟩
theorem t_nx_n (d : Nat) {G : jG} {X : jX} {P : aP} {f : Int → Int} (z : Int) (hG : GG G) (hP : mPlan X P) (hO : pOk P) (h01 : ∀ c : Int, 0 ≤ c → f c = 0 ∨ f c = 1) (hM : (bsN f 15 : Int) ≠ 0) : ∀ (m : Nat) (c : Int) (q : Int × Int) (u : jV), u.1 = 2 ∨ u.1 = 0 → c + m = pCe P → 0 ≤ c → 0 ≤ q.2 → jN (d + 4) 290 25 [(22, 149), (0, z), (0, (bsN f 15 : Int)), (0, q.1), (0, q.2), (0, c), u] [] (G, X) = some (if z = 0 then (nxS (fun c => alk f (shc P c)) m c q).1 else (nxS (fun c => alk f (shc P c)) m c q).2, (G, X)) := by
  have hcc := pCe_le hO
  intro m
  induction m with
  | zero =>
    intro c q u hu h1 h2 h3
    rw [h_X12_next_25 _ _ _ _ _ _ _ _ hu, t_cellMany (d + 2) hG hP hO]
    simp only [Option.bind_some, Int.reduceLE, reduceIte]
    rw [if_neg (by omega)]
    show _ = some (if z = 0 then q.1 else q.2, (G, X))
    split <;> rfl
  | succ m ih =>
    intro c q u hu h1 h2 h3
    have ha := alk_le f (shc P c)
    rw [h_X12_next_25 _ _ _ _ _ _ _ _ hu, t_cellMany (d + 2) hG hP hO]
    simp only [Option.bind_some, Int.reduceLE, reduceIte]
    rw [if_pos (by omega), if_neg hM, t_alike d (f := f) (c := c) hG hP hO ⟨h2, by omega⟩ h01]
    simp only [Option.bind_some]
    rw [if_neg (by omega), jadd_id (by omega) (by omega)]
    have e : nxS (fun c => alk f (shc P c)) (m + 1) c q = nxS (fun c => alk f (shc P c)) m (c + 1) (if alk f (shc P c) < q.2 then (c, alk f (shc P c)) else q) := rfl
    rw [e]
    by_cases w : alk f (shc P c) < q.2
    · rw [if_pos w, if_pos w]
      exact ih (c + 1) (c, alk f (shc P c)) (0, alk f (shc P c)) (Or.inr rfl) (by omega) (by omega) ha.1
    · rw [if_neg w, if_neg w]
      exact ih (c + 1) q (0, alk f (shc P c)) (Or.inr rfl) (by omega) (by omega) h3
