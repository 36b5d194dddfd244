/-! FORMULAS, told by the class -/
theorem iXor_neg {a b : Int} (ha : j32 a) (hb : j32 b) : iXor a b < 0 ↔ (a < 0 ∧ 0 ≤ b ∨ 0 ≤ a ∧ b < 0) := by
  unfold j32 at ha hb
  have e1 : (Int32.ofInt a).toInt = a := Int32.toInt_ofInt_of_le (by simpa using ha.1) (by have := ha.2; simp; omega)
  have e2 : (Int32.ofInt b).toInt = b := Int32.toInt_ofInt_of_le (by simpa using hb.1) (by have := hb.2; simp; omega)
  have h1 : ∀ x : Int32, x.toInt < 0 ↔ x.toBitVec.msb = true := fun x => by
    rw [BitVec.msb_eq_toInt, decide_eq_true_iff]
    exact Iff.rfl
  unfold iXor
  rw [h1, Int32.toBitVec_xor, BitVec.msb_xor]
  have h2 := h1 (Int32.ofInt a)
  have h3 := h1 (Int32.ofInt b)
  rw [e1] at h2
  rw [e2] at h3
  generalize (Int32.ofInt a).toBitVec.msb = A at h2 ⊢
  generalize (Int32.ofInt b).toBitVec.msb = B at h3 ⊢
  clear h1 e1 e2
  cases A <;> cases B <;> simp at h2 h3 ⊢ <;> omega
theorem tdiv_le (a b : Int) (ha1 : -1000000 ≤ a) (ha2 : a ≤ 1000000) : -1000000 ≤ a.tdiv b ∧ a.tdiv b ≤ 1000000 := by
  have h := Int.natAbs_tdiv_le_natAbs a b
  omega
theorem fdv_le (a b : Int) (ha1 : -1000000 ≤ a) (ha2 : a ≤ 1000000) : -1000000 ≤ fdv a b ∧ fdv a b ≤ 1000000 := by
  have h := tdiv_le a b ha1 ha2
  unfold fdv
  split
  · omega
  · split
    · rename_i h1 h2
      refine ⟨?_, by omega⟩
      have h3 := Int.tmod_add_mul_tdiv a b
      by_cases e : a.tdiv b = -1000000
      · exfalso
        have h5 : a.natAbs = (a.tdiv b).natAbs * b.natAbs + (a.tmod b).natAbs := by
          have h6 := Int.natAbs_tdiv a b
          have h7 := Int.natAbs_tmod a b
          rw [h6, h7, Nat.mul_comm]
          exact (Nat.div_add_mod _ _).symm
        rw [e] at h5
        have h8 : (a.tmod b).natAbs ≠ 0 := by
          intro q; exact h2.2 (Int.natAbs_eq_zero.mp q)
        have h9 : b.natAbs ≠ 0 := by
          intro q; exact h1 (Int.natAbs_eq_zero.mp q)
        have : (-1000000 : Int).natAbs = 1000000 := rfl
        rw [this] at h5
        have : 1000000 ≤ 1000000 * b.natAbs := Nat.le_mul_of_pos_right _ (by omega)
        omega
      · omega
    · exact h
theorem s_floorDiv (d : Nat) {G : jG} {X : jX} (a b : Int) (ha1 : -1000000 ≤ a) (ha2 : a ≤ 1000000) (hb1 : -1000000 ≤ b) (hb2 : b ≤ 1000000) (hb : b ≠ 0) : jD (d + 1) 335 [(0, a), (0, b)] (G, X) = some (fdv a b, (G, X)) := by
  have h := tdiv_le a b ha1 ha2
  have h3 := Int.tmod_add_mul_tdiv a b
  have hx := iXor_neg (a := a) (b := b) ⟨by omega, by omega⟩ ⟨by omega, by omega⟩
  have e1 : jdiv a b = a.tdiv b := w32_i (by omega) (by omega)
  have e2 : a.tdiv b * b = a - a.tmod b := by rw [Int.mul_comm]; omega
  have h4 : (a.tmod b).natAbs ≤ 1000000 := by
    have := Int.natAbs_tmod a b
    rw [this]
    have := Nat.mod_le a.natAbs b.natAbs
    omega
  rw [e_J9_floorDiv_7cf53, if_neg hb, e1, jmul_id (by omega) (by omega), e2, jsub_id (by omega) (by omega)]
  unfold fdv
  rw [if_neg hb]
  by_cases hs : a < 0 ∧ 0 ≤ b ∨ 0 ≤ a ∧ b < 0
  · rw [if_pos (hx.mpr hs)]
    by_cases ht : a.tmod b = 0
    · rw [if_pos (by omega), if_neg (fun q => q.2 ht)]
    · rw [if_neg (by omega), if_pos ⟨hs, ht⟩]
  · rw [if_neg (fun q => hs (hx.mp q)), if_neg (fun q => hs q.1)]
theorem clp_id {v : Int} (h1 : -1000000 ≤ v) (h2 : v ≤ 1000000) : clp v = v := by unfold clp; rw [if_neg (by omega), if_neg (by omega)]
theorem clp_le (v : Int) : -1000000 ≤ clp v ∧ clp v ≤ 1000000 := by unfold clp; split; omega; split <;> omega
theorem s_clip (v : Int) : w32 (if -1000000 < (if v < 1000000 then v else 1000000) then (if v < 1000000 then v else 1000000) else -1000000) = clp v := by
  have : (if -1000000 < (if v < 1000000 then v else 1000000) then (if v < 1000000 then v else 1000000) else -1000000) = clp v := by unfold clp; grind
  rw [this]
  have := clp_le v
  exact w32_i (by omega) (by omega)
theorem jn2_le (op a b : Int) (ha1 : -1000000 ≤ a) (ha2 : a ≤ 1000000) (hb1 : -1000000 ≤ b) (hb2 : b ≤ 1000000) : -1000000 ≤ jn2 op a b ∧ jn2 op a b ≤ 1000000 := by
  have h1 := clp_le (a + b)
  have h2 := clp_le (a - b)
  have h3 := clp_le (a * b)
  have h4 := fdv_le a b ha1 ha2
  unfold jn2
  repeat' split
  all_goals omega
theorem jn2_01 (op a b : Int) (h1 : 10003 ≤ op) (h2 : op ≤ 10007) : jn2 op a b = 0 ∨ jn2 op a b = 1 := by
  unfold jn2
  grind
theorem s_join_end (d : Nat) {G : jG} {X : jX} (v0 v1 v2 v3 : Int) : jN (d + 1) 49 183 [(0, v0), (0, v1), (0, v2), (1, v3), (2, (-1))] [] (G, X) = some (clp v3, (G, X)) := by
  rw [h_X3_join_183, s_lmin d]
  simp only [Option.bind_some]
  rw [s_lmax d]
  simp only [Option.bind_some]
  rw [s_clip]
theorem s_join (d : Nat) {G : jG} {X : jX} (op a b : Int) (h1 : 10003 ≤ op) (h2 : op ≤ 10013) (ha1 : -1000000 ≤ a) (ha2 : a ≤ 1000000) (hb1 : -1000000 ≤ b) (hb2 : b ≤ 1000000) (h01 : op ≤ 10004 → (a = 0 ∨ a = 1) ∧ (b = 0 ∨ b = 1)) : jD (d + 2) 49 [(0, op), (0, a), (0, b)] (G, X) = some (jn2 op a b, (G, X)) := by
  have hm : -1000000000000 ≤ a * b ∧ a * b ≤ 1000000000000 := by
    have h5 : (a * b).natAbs = a.natAbs * b.natAbs := Int.natAbs_mul a b
    have h6 : a.natAbs * b.natAbs ≤ 1000000 * 1000000 := Nat.mul_le_mul (by omega) (by omega)
    omega
  have hf := fdv_le a b ha1 ha2
  rw [e_X3_join]
  rcases (show op = 10003 ∨ op = 10004 ∨ op = 10005 ∨ op = 10006 ∨ op = 10007 ∨ op = 10008 ∨ op = 10009 ∨ op = 10010 ∨ op = 10011 ∨ op = 10012 ∨ op = 10013 by omega) with rfl | rfl | rfl | rfl | rfl | rfl | rfl | rfl | rfl | rfl | rfl
  · obtain ⟨q1, q2⟩ := h01 (by omega)
    rw [if_pos rfl, s_join_end d]
    rcases q1 with rfl | rfl <;> rcases q2 with rfl | rfl <;> rfl
  · obtain ⟨q1, q2⟩ := h01 (by omega)
    rw [if_neg (by omega), if_pos rfl, s_join_end d]
    rcases q1 with rfl | rfl <;> rcases q2 with rfl | rfl <;> rfl
  · rw [if_neg (by omega), if_neg (by omega), if_pos rfl, h_X3_join_86, h_X3_join_86, s_join_end d, s_join_end d]
    simp only [jn2, Int.reduceEq, reduceIte]
    split <;> rfl
  · rw [if_neg (by omega), if_neg (by omega), if_neg (by omega), if_pos rfl, h_X3_join_100, h_X3_join_100, s_join_end d, s_join_end d]
    simp only [jn2, Int.reduceEq, reduceIte]
    split <;> rfl
  · rw [if_neg (by omega), if_neg (by omega), if_neg (by omega), if_neg (by omega), if_pos rfl, h_X3_join_114, h_X3_join_114, s_join_end d, s_join_end d]
    simp only [jn2, Int.reduceEq, reduceIte]
    split <;> rfl
  · rw [if_neg (by omega), if_neg (by omega), if_neg (by omega), if_neg (by omega), if_neg (by omega), if_pos rfl, s_join_end d, ladd_id (by omega) (by omega)]
    simp only [jn2, Int.reduceEq, reduceIte]
  · rw [if_neg (by omega), if_neg (by omega), if_neg (by omega), if_neg (by omega), if_neg (by omega), if_neg (by omega), if_pos rfl, s_join_end d, lsub_id (by omega) (by omega)]
    simp only [jn2, Int.reduceEq, reduceIte]
  · rw [if_neg (by omega), if_neg (by omega), if_neg (by omega), if_neg (by omega), if_neg (by omega), if_neg (by omega), if_neg (by omega), if_pos rfl, s_join_end d, lmul_id (by omega) (by omega)]
    simp only [jn2, Int.reduceEq, reduceIte]
  · rw [if_neg (by omega), if_neg (by omega), if_neg (by omega), if_neg (by omega), if_neg (by omega), if_neg (by omega), if_neg (by omega), if_neg (by omega), if_pos rfl]
    simp only [jn2, Int.reduceEq, reduceIte]
    by_cases hb : b = 0
    · rw [if_pos hb, h_X3_join_159, s_join_end d, hb]
      rfl
    · rw [if_neg hb, s_floorDiv d a b ha1 ha2 hb1 hb2 hb]
      simp only [Option.bind_some]
      rw [h_X3_join_159, s_join_end d, clp_id hf.1 hf.2]
  · rw [if_neg (by omega), if_neg (by omega), if_neg (by omega), if_neg (by omega), if_neg (by omega), if_neg (by omega), if_neg (by omega), if_neg (by omega), if_neg (by omega), if_pos rfl, s_min d]
    simp only [Option.bind_some, jn2, Int.reduceEq, reduceIte]
    rw [s_join_end d, clp_id (by split <;> omega) (by split <;> omega)]
    congr 2
    split <;> split <;> omega
  · rw [if_neg (by omega), if_neg (by omega), if_neg (by omega), if_neg (by omega), if_neg (by omega), if_neg (by omega), if_neg (by omega), if_neg (by omega), if_neg (by omega), if_neg (by omega), if_pos rfl, s_max d]
    simp only [Option.bind_some, jn2, Int.reduceEq, reduceIte]
    rw [s_join_end d, clp_id (by split <;> omega) (by split <;> omega)]
    congr 2
    split <;> split <;> omega
/-- a pile in a row, its top at the end -/
def pil (row : Int → Int) : List Int → Prop
  | [] => True
  | x :: s => row s.length = x ∧ pil row s
theorem pil_up {row row' : Int → Int} : ∀ {s : List Int}, (∀ i : Int, 0 ≤ i → i < s.length → row' i = row i) → pil row s → pil row' s
  | [], _, _ => trivial
  | x :: s, h, hp => ⟨by rw [h _ (by omega) (by simp; omega)]; exact hp.1, pil_up (fun i h0 h1 => h i h0 (by simp; omega)) hp.2⟩
/-- what is on the pile: sums, tests (1) -/
def vok : List Int → List Nat → Prop
  | [], [] => True
  | x :: s, t :: ts => (-1000000 ≤ x ∧ x ≤ 1000000 ∧ (t = 1 → x = 0 ∨ x = 1)) ∧ vok s ts
  | _, _ => False
theorem vok_len : ∀ {s : List Int} {ts : List Nat}, vok s ts → s.length = ts.length
  | [], [], _ => rfl
  | x :: s, t :: ts, h => by simp [vok_len h.2]
/-- one step keeps what is on the pile as it must be -/
theorem ev1_ok {f tb : Int → Int} (hf : ∀ k, 0 ≤ k → k ≤ 9 → -1000000 ≤ f k ∧ f k ≤ 1000000) (ht : ∀ x, -1000000 ≤ tb x ∧ tb x ≤ 1000000) {op : Int} {l : List Int} {s : List Int} {ts ts' : List Nat} {h' : Nat} (hv : vok s ts) (hle : s.length ≤ 60) (hh : hts (op :: l) s.length = some h') (hty : tys (op :: l) ts = some ts') : ∃ ts1, vok (ev1 f tb op s) ts1 ∧ hts l (ev1 f tb op s).length = some h' ∧ tys l ts1 = some ts' ∧ (ev1 f tb op s).length ≤ 60 := by
  unfold hts at hh
  unfold tys at hty
  unfold ev1
  by_cases h14 : op = 10014
  · subst h14
    rw [if_pos (by omega)] at hh
    rw [if_pos rfl] at hty
    split at hh
    · exact ⟨1 :: ts, ⟨⟨by omega, by omega, fun _ => Or.inr rfl⟩, hv⟩, hh, hty, by simp; omega⟩
    · cases hh
  rw [if_neg h14] at hty
  by_cases hn : op < 10000 ∧ 0 ≤ op
  · rw [if_pos (by omega)] at hh
    rw [if_pos (by omega)] at hty
    rw [if_pos hn.1]
    split at hh
    · exact ⟨0 :: ts, ⟨⟨by omega, by omega, fun q => by cases q⟩, hv⟩, hh, hty, by simp; omega⟩
    · cases hh
  by_cases hfa : 20000 ≤ op ∧ op ≤ 20009
  · rw [if_pos (by omega)] at hh
    rw [if_pos (by omega)] at hty
    rw [if_neg (by omega), if_neg h14, if_pos hfa.1]
    have := hf (op - 20000) (by omega) (by omega)
    split at hh
    · exact ⟨0 :: ts, ⟨⟨this.1, this.2, fun q => by cases q⟩, hv⟩, hh, hty, by simp; omega⟩
    · cases hh
  rw [if_neg (by omega)] at hh
  rw [if_neg (by omega)] at hty
  have h10 : 10001 ≤ op ∧ op ≤ 10013 := by
    split at hh
    · omega
    · split at hh
      · omega
      · cases hh
  rw [if_neg (by omega), if_neg h14, if_neg (by omega)]
  match s, ts, hv with
  | [], [], _ => cases hty
  | x :: s, t :: ts, hv =>
    dsimp only at hty ⊢
    by_cases h1 : op = 10001
    · rw [if_pos h1] at hty ⊢
      rw [if_pos (by omega)] at hh
      split at hty
      · rename_i ht1
        split at hh
        · refine ⟨1 :: ts, ⟨?_, hv.2⟩, hh, hty, hle⟩
          have := hv.1.2.2 ht1
          omega
        · cases hh
      · cases hty
    rw [if_neg h1] at hty ⊢
    by_cases h2 : op = 10002
    · rw [if_pos h2] at hty ⊢
      rw [if_pos (by omega)] at hh
      split at hty
      · split at hh
        · exact ⟨0 :: ts, ⟨⟨(ht x).1, (ht x).2, fun q => by cases q⟩, hv.2⟩, hh, hty, hle⟩
        · cases hh
      · cases hty
    rw [if_neg h2] at hty ⊢
    rw [if_neg (by omega), if_pos (by omega)] at hh
    match s, ts, hv with
    | [], [], _ => cases hty
    | y :: s, u :: ts, hv =>
      dsimp only at hty ⊢
      have hj := jn2_le op y x hv.2.1.1 hv.2.1.2.1 hv.1.1 hv.1.2.1
      have hl : (jn2 op y x :: s).length = (x :: y :: s).length - 1 := by simp
      have hl6 : (jn2 op y x :: s).length ≤ 60 := by simp at hle ⊢; omega
      split at hh
      case isFalse => cases hh
      rw [hl] at hl6 ⊢
      split at hty
      · rename_i h34
        split at hty
        · exact ⟨1 :: ts, ⟨⟨hj.1, hj.2, fun _ => jn2_01 op y x (by omega) (by omega)⟩, hv.2.2⟩, hh, hty, hl6⟩
        · cases hty
      · split at hty
        · split at hty
          · exact ⟨1 :: ts, ⟨⟨hj.1, hj.2, fun _ => jn2_01 op y x (by omega) (by omega)⟩, hv.2.2⟩, hh, hty, hl6⟩
          · cases hty
        · split at hty
          · split at hty
            · exact ⟨0 :: ts, ⟨⟨hj.1, hj.2, fun q => by cases q⟩, hv.2.2⟩, hh, hty, hl6⟩
            · cases hty
          · cases hty
/-- the loop of value() -/
theorem s_value_n (d : Nat) {G : jG} {γ : aG} {m g r : Int} (hm : isMi G m g r) (a b0 : Int) (ha0 : 0 ≤ a) (ha : a < 25) (hL : gL G a = 1600) (f tb : Int → Int) (htb : tb = fun x => if 0 ≤ x ∧ x < 5 then gSt γ x else 0) (hf : ∀ k, 0 ≤ k → k ≤ 9 → -1000000 ≤ f k ∧ f k ≤ 1000000) (ht : ∀ x, -1000000 ≤ tb x ∧ tb x ≤ 1000000) : ∀ (l : List Int) (X : jX) (i : Int) (s : List Int) (ts ts' : List Nat) (h' : Nat) (u5 u6 : jV), u5.1 = 2 ∨ u5.1 = 0 → u6.1 = 2 ∨ u6.1 = 0 → 0 ≤ i → (∀ j : Nat, j < l.length → X a (i + j) = toC (l.getD j 0)) → X a (i + l.length) = 10000 → i + l.length < 1600 → cGr X g γ → (∀ k, 0 ≤ k → k ≤ 9 → X (r + 3) k = f k) → pil (X (r + 2)) s → vok s ts → s.length ≤ 60 → hts l s.length = some h' → tys l ts = some ts' → 1 ≤ h' →
    ∃ X', jN (d + 2) 47 9 [(13, m), (24, a), (0, b0), (0, s.length), (0, i), u5, u6] [] (G, X) = some ((evl f tb l s).headD 0, (G, X')) ∧ ∀ k, k ≠ r + 2 → X' k = X k := by
  obtain ⟨hg, ⟨m0, m1, m2, m3, m4, m5⟩, ⟨l0, l1, l2, l3⟩, h25, hor⟩ := hm
  have g4 : 25 ≤ g := hg.2.2.2.2
  intro l
  induction l with
  | nil =>
    intro X i s ts ts' h' u5 u6 hu5 hu6 hi hcd hst hlt hγ hfa hp hv hle hh hty h1
    have hst : X a i = 10000 := by simpa using hst
    have hlen : s.length = h' := by simpa [hts] using hh
    simp only [List.length_nil] at hlt
    match s, hp, hlen with
    | [], _, hlen => simp at hlen; omega
    | x :: s, hp, hlen =>
      refine ⟨X, ?_, fun k _ => rfl⟩
      simp only [List.length_cons] at hle ⊢
      rw [h_X3_value_9 _ _ _ _ _ _ _ hu5 _ hu6, if_pos ha0, hL, if_pos (by omega), if_pos ha0, if_pos hi, if_pos (by omega), if_pos hst, h_X3_value_199 _ _ _ _ _ _ _ (Or.inl rfl) _ hu6, if_pos (by omega), if_pos (by omega), m4, if_pos (by omega), l2, jsub_id (by omega) (by omega), if_pos (by omega), if_pos (by omega), h_X3_value_215 _ _ _ _ _ _ _ _ (Or.inl rfl) _ hu6]
      have : X (r + 2) (((s.length + 1 : Nat) : Int) - 1) = x := by
        rw [show ((s.length + 1 : Nat) : Int) - 1 = s.length by omega]; exact hp.1
      rw [this]
      rfl
  | cons op l ih =>
    intro X i s ts ts' h' u5 u6 hu5 hu6 hi hcd hst hlt hγ hfa hp hv hle hh hty h1
    obtain ⟨ts1, hv1, hh1, hty1, hle1⟩ := ev1_ok hf ht hv hle hh hty
    have hop : X a i = toC op := by have := hcd 0 (by simp); simpa using this
    have hcd' : ∀ j : Nat, j < l.length → X a (i + 1 + j) = toC (l.getD j 0) := fun j hj => by
      have := hcd (j + 1) (by simp; omega)
      rw [show i + 1 + (j : Int) = i + ((j + 1 : Nat) : Int) by omega, this]
      simp
    simp only [List.length_cons] at hlt hst
    have hst' : X a (i + 1 + l.length) = 10000 := by rw [← hst]; congr 1; omega
    -- what follows once the new pile is laid in a store X1
    have go : ∀ (X1 : jX) (v5 : Int) (u6' : jV), u6'.1 = 2 ∨ u6'.1 = 0 → (∀ k, k ≠ r + 2 → X1 k = X k) → pil (X1 (r + 2)) (ev1 f tb op s) → ∃ X', jN (d + 2) 47 193 [(13, m), (24, a), (0, b0), (0, (ev1 f tb op s).length), (0, i), (0, v5), u6'] [] (G, X1) = some ((evl f tb (op :: l) s).headD 0, (G, X')) ∧ ∀ k, k ≠ r + 2 → X' k = X k := by
      intro X1 v5 u6' hu6' hfr hp1
      obtain ⟨X', e, fr⟩ := ih X1 (i + 1) (ev1 f tb op s) ts1 ts' h' (0, v5) u6' (Or.inr rfl) hu6' (by omega) (fun j hj => by rw [hfr a (by omega)]; exact hcd' j hj) (by rw [hfr a (by omega)]; exact hst') (by omega) (cGr_fr (hfr g (by omega)) (hfr (g + 1) (by omega)) (hfr (g + 2) (by omega)) hγ) (fun k k0 k1 => by rw [hfr (r + 3) (by omega)]; exact hfa k k0 k1) hp1 hv1 hle1 hh1 hty1 h1
      refine ⟨X', ?_, fun k hk => by rw [fr k hk, hfr k hk]⟩
      rw [h_X3_value_193 _ _ _ _ _ _ _ _ hu6', jadd_id (by omega) (by omega)]
      exact e
    rw [h_X3_value_9 _ _ _ _ _ _ _ hu5 _ hu6, if_pos ha0, hL, if_pos (by omega), if_pos ha0, if_pos hi, if_pos (by omega), hop]
    unfold ev1 at hle1 go
    unfold hts at hh
    unfold tys at hty
    by_cases h14 : op = 10014
    · subst h14
      rw [if_pos (by omega)] at hh
      split at hh
      case isFalse => cases hh
      have hg1 := go (jup X (r + 2) s.length 1) 1 u6 hu6 (fun k hk => jup_rw _ _ _ _ _ hk) ⟨jup_same _ _ _ _, pil_up (fun q q0 q1 => jup_row _ _ _ _ _ (by omega)) hp⟩
      obtain ⟨X', e, fr⟩ := hg1
      refine ⟨X', ?_, fr⟩
      rw [show toC 10014 = 1 from rfl, if_neg (by omega), if_pos (by omega), h_X3_value_49 _ _ _ _ _ _ _ _ hu6, if_pos (by omega), m4, if_pos (by omega), l2, if_pos (by omega), if_pos (by omega), if_pos (by omega), h_X3_value_86 _ _ _ _ _ _ _ _ _ _ _ hu6, if_pos (by omega), if_pos (by omega), if_pos (by omega), jadd_id (by omega) (by omega)]
      simpa using e
    rw [show toC op = op by unfold toC; rw [if_neg h14]]
    rw [if_neg h14] at hty
    by_cases hn : op < 10000 ∧ 0 ≤ op
    · rw [if_pos (by omega)] at hh
      split at hh
      case isFalse => cases hh
      rw [if_pos hn.1] at hle1 go
      obtain ⟨X', e, fr⟩ := go (jup X (r + 2) s.length op) op u6 hu6 (fun k hk => jup_rw _ _ _ _ _ hk) ⟨jup_same _ _ _ _, pil_up (fun q q0 q1 => jup_row _ _ _ _ _ (by omega)) hp⟩
      refine ⟨X', ?_, fr⟩
      rw [if_neg (by omega), if_pos (by omega), h_X3_value_49 _ _ _ _ _ _ _ _ hu6, if_pos (by omega), m4, if_pos (by omega), l2, if_pos (by omega), if_pos (by omega), if_pos (by omega), h_X3_value_86 _ _ _ _ _ _ _ _ _ _ _ hu6, if_pos (by omega), if_pos (by omega), if_pos (by omega), jadd_id (by omega) (by omega)]
      simpa using e
    by_cases hfc : 20000 ≤ op ∧ op ≤ 20009
    · rw [if_pos (by omega)] at hh
      split at hh
      case isFalse => cases hh
      rw [if_neg (by omega), if_neg h14, if_pos hfc.1] at hle1 go
      obtain ⟨X', e, fr⟩ := go (jup X (r + 2) s.length (f (op - 20000))) op u6 hu6 (fun k hk => jup_rw _ _ _ _ _ hk) ⟨jup_same _ _ _ _, pil_up (fun q q0 q1 => jup_row _ _ _ _ _ (by omega)) hp⟩
      refine ⟨X', ?_, fr⟩
      rw [if_neg (by omega), if_neg (by omega), if_neg (by omega), h_X3_value_49 _ _ _ _ _ _ _ _ hu6, if_pos (by omega), m4, if_pos (by omega), l2, if_pos (by omega), if_pos (by omega), if_neg (by omega), if_pos (by omega), jsub_id (by omega) (by omega), e_X3_factAt, if_neg (by omega), if_pos (by omega), m5, if_pos (by omega), l3, if_pos (by omega), if_pos (by omega), if_pos (by omega), if_pos (by omega), if_pos (by omega), hfa _ (by omega) (by omega)]
      simp only [Option.bind_some]
      rw [h_X3_value_86 _ _ _ _ _ _ _ _ _ _ _ hu6, if_pos (by omega), if_pos (by omega), l2, if_pos (by omega), jadd_id (by omega) (by omega)]
      simpa using e
    rw [if_neg (by omega)] at hh
    rw [if_neg (by omega)] at hty
    have h10 : 10001 ≤ op ∧ op ≤ 10013 := by
      split at hh
      · omega
      · split at hh
        · omega
        · cases hh
    rw [if_neg (by omega), if_neg h14, if_neg (by omega)] at hle1 go
    rw [if_neg (by omega), if_neg (by omega), if_pos (by omega)]
    match s, ts, hv, hp with
    | [], [], _, _ => cases hty
    | x :: s, t :: ts, hv, hp =>
      dsimp only at hty hle1 go
      simp only [List.length_cons] at hle hh ⊢
      have hx : X (r + 2) s.length = x := hp.1
      by_cases h1 : op = 10001
      · rw [if_pos h1] at hty hle1 go
        rw [if_pos h1, h_X3_value_109 _ _ _ _ _ _ _ _ hu6, if_pos (by omega), if_pos (by omega), m4, if_pos (by omega), l2, jsub_id (by omega) (by omega), if_pos (by omega), if_pos (by omega), if_pos (by omega), if_pos h1]
        rw [show ((s.length + 1 : Nat) : Int) - 1 = s.length by omega, hx, jsub_id (by have := hv.1; omega) (by have := hv.1; omega), h_X3_value_154, if_pos (by omega), if_pos (by omega), l2, if_pos (by omega)]
        obtain ⟨X', e, fr⟩ := go (jup X (r + 2) s.length (1 - x)) op (0, x) (Or.inr rfl) (fun k hk => jup_rw _ _ _ _ _ hk) ⟨jup_same _ _ _ _, pil_up (fun q q0 q1 => jup_row _ _ _ _ _ (by omega)) hp.2⟩
        exact ⟨X', e, fr⟩
      rw [if_neg h1] at hty hle1 go
      rw [if_neg h1]
      by_cases h2 : op = 10002
      · rw [if_pos h2] at hty hle1 go
        rw [if_pos h2, h_X3_value_109 _ _ _ _ _ _ _ _ hu6, if_pos (by omega), if_pos (by omega), m4, if_pos (by omega), l2, jsub_id (by omega) (by omega), if_pos (by omega), if_pos (by omega), if_pos (by omega), if_neg h1, if_pos (by omega), m1, if_pos (by omega)]
        rw [show ((s.length + 1 : Nat) : Int) - 1 = s.length by omega, hx, s_tubs (d + 1) g x hg hγ]
        simp only [Option.bind_some]
        rw [h_X3_value_154, if_pos (by omega), if_pos (by omega), l2, if_pos (by omega)]
        obtain ⟨X', e, fr⟩ := go (jup X (r + 2) s.length (tb x)) op (0, x) (Or.inr rfl) (fun k hk => jup_rw _ _ _ _ _ hk) ⟨jup_same _ _ _ _, pil_up (fun q q0 q1 => jup_row _ _ _ _ _ (by omega)) hp.2⟩
        rw [htb] at e
        exact ⟨X', by rw [htb]; exact e, fr⟩
      rw [if_neg h2] at hty hle1 go
      rw [if_neg h2]
      rw [if_neg (by omega), if_pos (by omega)] at hh
      match s, ts, hv, hp with
      | [], [], _, _ => cases hty
      | y :: s, u :: ts, hv, hp =>
        dsimp only at hty hle1 go
        simp only [List.length_cons] at hle hh hx ⊢
        have hy : X (r + 2) s.length = y := hp.2.1
        have h01 : op ≤ 10004 → (y = 0 ∨ y = 1) ∧ (x = 0 ∨ x = 1) := by
          intro q
          rw [if_pos (by omega)] at hty
          split at hty
          · rename_i e2
            exact ⟨hv.2.1.2.2 e2.2, hv.1.2.2 e2.1⟩
          · cases hty
        rw [if_pos (by omega), if_pos (by omega), if_pos (by omega), m4, if_pos (by omega), l2, jadd_id (a := ((s.length + 1 + 1 : Nat) : Int)) (by omega) (by omega), jsub_id (by omega) (by omega), if_pos (by omega), if_pos (by omega), if_pos (by omega), if_pos (by omega), if_pos (by omega), if_pos (by omega)]
        rw [show ((s.length + 1 + 1 : Nat) : Int) + -1 - 1 = s.length by omega, show ((s.length + 1 + 1 : Nat) : Int) + -1 = ((s.length + 1 : Nat) : Int) by omega, hx, hy, s_join d op y x (by omega) (by omega) hv.2.1.1 hv.2.1.2.1 hv.1.1 hv.1.2.1 h01]
        simp only [Option.bind_some]
        rw [if_pos (by omega), if_pos (by omega), l2, if_pos (by omega)]
        obtain ⟨X', e, fr⟩ := go (jup X (r + 2) s.length (jn2 op y x)) op u6 hu6 (fun k hk => jup_rw _ _ _ _ _ hk) ⟨jup_same _ _ _ _, pil_up (fun q q0 q1 => jup_row _ _ _ _ _ (by omega)) hp.2.2⟩
        exact ⟨X', e, fr⟩
