/-! A CELL'S FACTS, why, price: the class -/
theorem evl_ok {f tb : Int → Int} (hf : ∀ k, 0 ≤ k → k ≤ 9 → -1000000 ≤ f k ∧ f k ≤ 1000000) (ht : ∀ x, -1000000 ≤ tb x ∧ tb x ≤ 1000000) : ∀ {l : List Int} {s : List Int} {ts ts' : List Nat} {h' : Nat}, vok s ts → s.length ≤ 60 → hts l s.length = some h' → tys l ts = some ts' → vok (evl f tb l s) ts' ∧ (evl f tb l s).length = h' := by
  intro l
  induction l with
  | nil =>
    intro s ts ts' h' hv hle hh hty
    unfold hts at hh
    unfold tys at hty
    cases hh
    cases hty
    exact ⟨hv, rfl⟩
  | cons op l ih =>
    intro s ts ts' h' hv hle hh hty
    obtain ⟨ts1, hv1, hh1, hty1, hle1⟩ := ev1_ok hf ht hv hle hh hty
    exact ih hv1 hle1 hh1 hty1
theorem evv_ok {f tb : Int → Int} (hf : ∀ k, 0 ≤ k → k ≤ 9 → -1000000 ≤ f k ∧ f k ≤ 1000000) (ht : ∀ x, -1000000 ≤ tb x ∧ tb x ≤ 1000000) {u : Int} {t : Nat} {l : List Int} (hw : wfC u t l) : -1000000 ≤ evv f tb l ∧ evv f tb l ≤ 1000000 ∧ (t = 1 → evv f tb l = 0 ∨ evv f tb l = 1) := by
  obtain ⟨-, hh, hty, -⟩ := hw
  have h := (evl_ok hf ht (s := []) (ts := []) trivial (by simp) hh hty).1
  unfold evv
  match hq : evl f tb l [], h with
  | [], h => exact absurd h (by simp [vok])
  | x :: s, h => exact h.1
theorem evl_tb {f tb tb' : Int → Int} : ∀ {l : List Int} {s : List Int}, (∀ op ∈ l, op ≠ 10002) → evl f tb l s = evl f tb' l s := by
  intro l
  induction l with
  | nil => intro s _; rfl
  | cons op l ih =>
    intro s h
    show evl f tb l (ev1 f tb op s) = evl f tb' l (ev1 f tb' op s)
    have h2 : op ≠ 10002 := h op List.mem_cons_self
    have : ev1 f tb op s = ev1 f tb' op s := by
      unfold ev1
      cases s with
      | nil => rfl
      | cons x r => simp only [if_neg h2]
    rw [this]
    exact ih (fun q hq => h q (List.mem_cons_of_mem _ hq))
theorem evv_tb {f tb tb' : Int → Int} {u : Int} {t : Nat} {l : List Int} (hu : u = 0 ∨ u = 1) (hw : wfC u t l) : evv f tb l = evv f tb' l := by
  unfold evv
  rw [evl_tb (tb' := tb')]
  intro op hop
  have := hw.2.2.2 op hop
  unfold okO at this
  rcases hu with rfl | rfl
  · rw [if_neg (by omega), if_pos rfl] at this; exact this.1
  · rw [if_neg (by omega), if_neg (by omega)] at this; exact this.1
theorem ner_le (P : aP) (st : Int → Int) (c : Int) : 0 ≤ ner P st c ∧ ner P st c ≤ 4 := by
  unfold ner
  rcases b01_or (opn st (nUp P c)) with ⟨e1, -⟩ | ⟨e1, -⟩ <;> rcases b01_or (opn st (nLf P c)) with ⟨e2, -⟩ | ⟨e2, -⟩ <;> rcases b01_or (opn st (nRt P c)) with ⟨e3, -⟩ | ⟨e3, -⟩ <;> rcases b01_or (opn st (nDn P c)) with ⟨e4, -⟩ | ⟨e4, -⟩ <;> omega
theorem rsO_le {P : aP} {c : Int} (hO : pOk P) (hi : inP P c) : 0 ≤ rsO P (pSe P c) ∧ rsO P (pSe P c) ≤ 99 ∧ 0 ≤ gsO P (pSe P c) ∧ gsO P (pSe P c) ≤ 99 := by
  have h2 := pOk_c hO c hi.1 hi.2
  unfold rsO gsO
  by_cases h : pSe P c = -1
  · rw [if_pos h, if_pos h]; omega
  · rw [if_neg h, if_neg h]
    have := pOk_k hO (pSe P c) (by omega) h2.2
    omega
theorem spn_le {P : aP} {c : Int} (st : Int → Int) (hO : pOk P) (hi : inP P c) : 1 ≤ spn P st c ∧ spn P st c ≤ 8 := by
  have h := sp_in st hO hi
  have hc := pCe_le hO
  unfold spn
  omega
theorem fcC_le {P : aP} {c : Int} (st : Int → Int) (hO : pOk P) (hi : inP P c) : ∀ k, 0 ≤ k → k ≤ 9 → -1000000 ≤ fcC P st c k ∧ fcC P st c k ≤ 1000000 := by
  intro k h0 h9
  have h1 := ner_le P st c
  have h2 := rsO_le hO hi
  have h3 := spn_le st hO hi
  have h4 := mod_in hO hi
  have hc := pCe_le hO
  obtain ⟨hi0, hi1⟩ := hi
  unfold fcC
  rcases b01_or (opn st c) with ⟨e1, -⟩ | ⟨e1, -⟩ <;> rw [e1] <;> (repeat' split) <;> omega
theorem s_loadCell (d : Nat) {G : jG} {X : jX} {P : aP} {γ : aG} {m g r : Int} (c : Int) (hG : GG G) (hP : cPlan X P) (hO : pOk P) (hi : inP P c) (hm : isMi G m g r) (hγ : cGr X g γ) : ∃ X', jD (d + 4) 45 [(13, m), (0, c)] (G, X) = some (0, (G, X')) ∧ (∀ k, k ≠ r + 3 → X' k = X k) ∧ ∀ k, 0 ≤ k → k ≤ 9 → X' (r + 3) k = fcC P (gCe γ) c k := by
  obtain ⟨hg, ⟨m0, m1, m2, m3, m4, m5⟩, ⟨l0, l1, l2, l3⟩, h25, hor⟩ := id hm
  have g4 : 25 ≤ g := hg.2.2.2.2
  have hc := pCe_le hO
  have hd := mod_in hO hi
  obtain ⟨hi0, hi1⟩ := id hi
  have fr : ∀ X1 : jX, (∀ k, k ≠ r + 3 → X1 k = X k) → cPlan X1 P ∧ cGr X1 g γ := fun X1 h => ⟨cPlan_fr (fun a h1 h2 => h a (by omega)) hP, cGr_fr (h g (by omega)) (h (g + 1) (by omega)) (h (g + 2) (by omega)) hγ⟩
  have up : ∀ (X1 : jX) (j z : Int), (∀ k, k ≠ r + 3 → X1 k = X k) → ∀ k, k ≠ r + 3 → jup X1 (r + 3) j z k = X k := fun X1 j z h k hk => by rw [jup_rw _ _ _ _ _ hk]; exact h k hk
  have f0 := up X 0 c (fun k _ => rfl)
  rw [e_X3_loadCell, if_pos (by omega), m5, if_pos (by omega), l3, if_pos (by omega), if_pos (by omega), if_pos (by omega), m0, if_pos (by omega), s_rowOf (d + 2) c (fr _ f0).1 hi0 (by omega) hd.1]
  simp only [Option.bind_some]
  have f1 := up _ 1 (c / pC P) f0
  rw [if_pos (by omega), l3, if_pos (by omega), if_pos (by omega), if_pos (by omega), m0, if_pos (by omega), s_columnOf (d + 2) c (fr _ f1).1 hi0 hd.1]
  simp only [Option.bind_some]
  have f2 := up _ 2 (c % pC P) f1
  rw [m5, if_pos (by omega), l3, if_pos (by omega), if_pos (by omega), if_pos (by omega), m0, if_pos (by omega), s_restOf d c hG (fr _ f2).1 hO hi]
  simp only [Option.bind_some]
  have f3 := up _ 3 (rsO P (pSe P c)) f2
  rw [m5, if_pos (by omega), l3, if_pos (by omega), if_pos (by omega), if_pos (by omega), m0, if_pos (by omega), s_gasOf d c hG (fr _ f3).1 hO hi]
  simp only [Option.bind_some]
  have f4 := up _ 4 (gsO P (pSe P c)) f3
  rw [m5, if_pos (by omega), l3, if_pos (by omega), if_pos (by omega), if_pos (by omega), s_near d c hG (fr _ f4).1 hO hi hm (fr _ f4).2]
  simp only [Option.bind_some]
  have f5 := up _ 5 (ner P (gCe γ) c) f4
  rw [m5, if_pos (by omega), l3, if_pos (by omega), if_pos (by omega), if_pos (by omega), s_span d c (fr _ f5).1 hO hi hm (fr _ f5).2]
  simp only [Option.bind_some]
  have f6 := up _ 6 (spn P (gCe γ) c) f5
  rw [m5, if_pos (by omega), l3, if_pos (by omega), if_pos (by omega), if_pos (by omega), m1, if_pos (by omega), s_is (d + 2) g c 0 hg (fr _ f6).2]
  simp only [Option.bind_some]
  try rw [m5]
  have e7 : ∀ (z : Int) (X1 : jX) (L : List jV) (s1 s2 : jV), z = 0 ∨ z = 1 → (if z = 0 then jN (d + 3) 45 109 L [(0, 0), s1, s2] (G, X1) else jN (d + 3) 45 109 L [(0, 1), s1, s2] (G, X1)) = jN (d + 3) 45 109 L [(0, z), s1, s2] (G, X1) := by
    intro z X1 L s1 s2 hz; rcases hz with rfl | rfl <;> rfl
  rw [e7 _ _ _ _ _ (by split <;> simp), h_X3_loadCell_109, if_pos (by omega), if_pos (by omega), l3, if_pos (by omega), if_pos (by omega), if_pos (by omega), m1, if_pos (by omega)]
  have f7 := up _ 7 (if 0 ≤ c ∧ c < 48 ∧ gCe γ c = 0 then 1 else 0) f6
  rw [s_isOpen (d + 1) g c hg (fr _ f7).2 (by omega)]
  simp only [Option.bind_some]
  try rw [m5]
  have e8 : ∀ (z : Int) (X1 : jX) (L : List jV) (s1 s2 : jV), z = 0 ∨ z = 1 → (if z = 0 then jN (d + 3) 45 132 L [(0, 0), s1, s2] (G, X1) else jN (d + 3) 45 132 L [(0, 1), s1, s2] (G, X1)) = jN (d + 3) 45 132 L [(0, z), s1, s2] (G, X1) := by
    intro z X1 L s1 s2 hz; rcases hz with rfl | rfl <;> rfl
  have hb : b01 (opn (gCe γ) c) = 0 ∨ b01 (opn (gCe γ) c) = 1 := by rcases b01_or (opn (gCe γ) c) with ⟨e, -⟩ | ⟨e, -⟩ <;> simp [e]
  rw [e8 _ _ _ _ _ hb, h_X3_loadCell_132, if_pos (by omega), if_pos (by omega), l3, if_pos (by omega), if_pos (by omega), if_pos (by omega), m1, if_pos (by omega)]
  have f8 := up _ 8 (b01 (opn (gCe γ) c)) f7
  rw [s_is (d + 2) g c 3 hg (fr _ f8).2]
  simp only [Option.bind_some]
  try rw [m5]
  have e9 : ∀ (z : Int) (X1 : jX) (L : List jV) (s1 s2 : jV), z = 0 ∨ z = 1 → (if z = 0 then jN (d + 3) 45 156 L [(0, 0), s1, s2] (G, X1) else jN (d + 3) 45 156 L [(0, 1), s1, s2] (G, X1)) = jN (d + 3) 45 156 L [(0, z), s1, s2] (G, X1) := by
    intro z X1 L s1 s2 hz; rcases hz with rfl | rfl <;> rfl
  rw [e9 _ _ _ _ _ (by split <;> simp), h_X3_loadCell_156, if_pos (by omega), if_pos (by omega), l3, if_pos (by omega)]
  have f9 := up _ 9 (if 0 ≤ c ∧ c < 48 ∧ gCe γ c = 3 then 1 else 0) f8
  refine ⟨_, rfl, f9, fun k h0 h9 => ?_⟩
  have q1 : (0 ≤ c ∧ c < 48 ∧ gCe γ c = 3) ↔ gCe γ c = 3 := ⟨fun h => h.2.2, fun h => ⟨hi0, by omega, h⟩⟩
  have q2 : (0 ≤ c ∧ c < 48 ∧ gCe γ c = 0) ↔ gCe γ c = 0 := ⟨fun h => h.2.2, fun h => ⟨hi0, by omega, h⟩⟩
  simp only [q1, q2]
  rcases (show k = 0 ∨ k = 1 ∨ k = 2 ∨ k = 3 ∨ k = 4 ∨ k = 5 ∨ k = 6 ∨ k = 7 ∨ k = 8 ∨ k = 9 by omega) with rfl | rfl | rfl | rfl | rfl | rfl | rfl | rfl | rfl | rfl <;> simp [jup, fcC]
