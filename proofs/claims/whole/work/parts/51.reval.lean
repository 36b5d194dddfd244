/-! FORMULAS, told by the reference -/
/-- nothing changed but the facts asked, the pile -/
def mfE (X X' : jX) : Prop := (∀ k, k ≠ 149 → k ≠ 229 → X' k = X k) ∧ (∀ j, ¬ (55 ≤ j ∧ j ≤ 62) → j ≠ 115 → X' 149 j = X 149 j)
theorem mfE_r (X : jX) : mfE X X := ⟨fun _ _ _ => rfl, fun _ _ _ => rfl⟩
theorem mfE_t {X Y Z : jX} (h1 : mfE X Y) (h2 : mfE Y Z) : mfE X Z := ⟨fun k a b => by rw [h2.1 k a b, h1.1 k a b], fun j a b => by rw [h2.2 j a b, h1.2 j a b]⟩
theorem mfE_P {X X' : jX} {P : aP} (h : mfE X X') (hP : mPlan X P) : mPlan X' P := mPlan_fr (fun a h1 h2 => h.1 a (by omega) (by omega)) (h.2 51 (by omega) (by omega)) hP
theorem mfE_G {X X' : jX} {a o : Int} {γ : aG} (h : mfE X X') (h1 : a ≠ 149) (h2 : a ≠ 229) (hg : mGr X a o γ) : mGr X' a o γ := mGr_fr (h.1 a h1 h2) hg
theorem t_qPuts (d : Nat) {G : jG} {X : jX} (v n : Int) (hG : GG G) (hn : X 149 115 = n) (h0 : 0 ≤ n) (h1 : n < 1700) : jD (d + 1) 316 [(22, 149), (1, v)] (G, X) = some (0, (G, jup (jup X 229 n v) 149 115 (n + 1))) := by
  rw [e_X12_qPuts, gr_149_114 hG, gl_229 hG, hn, jup_cell _ _ _ _ _ _ (by omega), hn, jadd_id (by omega) (by omega)]
  grind
theorem t_qClip (d : Nat) {G : jG} {X : jX} (v : Int) : jD (d + 1) 314 [(1, v)] (G, X) = some (clp v, (G, X)) := by
  rw [e_X12_qClip]
  unfold lCmp clp
  grind
theorem t_qFloor (d : Nat) {G : jG} {X : jX} (a b : Int) (ha1 : -1000000 ≤ a) (ha2 : a ≤ 1000000) : jD (d + 1) 315 [(1, a), (1, b)] (G, X) = some (fdv a b, (G, X)) := by
  have h := tdiv_le a b ha1 ha2
  have e1 : ldiv a b = a.tdiv b := w64_i (by omega) (by omega)
  rw [e_X12_qFloor, e1, lsub_id (by omega) (by omega)]
  unfold fdv lCmp lrem
  by_cases hb : b = 0
  · subst hb; simp
  · by_cases ht : a.tmod b = 0
    · simp [hb, ht]
      grind
    · simp [hb, ht]
      grind
theorem t_qJoins (d : Nat) {G : jG} {X : jX} (op a b n : Int) (hG : GG G) (h1 : 10003 ≤ op) (h2 : op ≤ 10013) (ha1 : -1000000 ≤ a) (ha2 : a ≤ 1000000) (hb1 : -1000000 ≤ b) (hb2 : b ≤ 1000000) (h01 : op ≤ 10004 → (a = 0 ∨ a = 1) ∧ (b = 0 ∨ b = 1)) (hn : X 149 115 = n + 2) (hn0 : 0 ≤ n) (hn1 : n < 1600) (hA : X 229 n = a) (hB : X 229 (n + 1) = b) : jD (d + 2) 317 [(22, 149), (0, toM op)] (G, X) = some (0, (G, jup (jup (jup X 149 115 n) 229 n (jn2 op a b)) 149 115 (n + 1))) := by
  have hm : -1000000000000 ≤ a * b ∧ a * b ≤ 1000000000000 := by
    have h5 : (a * b).natAbs = a.natAbs * b.natAbs := Int.natAbs_mul a b
    have h6 : a.natAbs * b.natAbs ≤ 1000000 * 1000000 := Nat.mul_le_mul (by omega) (by omega)
    omega
  have hf := fdv_le a b ha1 ha2
  have hq : ∀ v : Int, jD (d + 1) 316 [(22, 149), (1, v)] (G, jup X 149 115 n) = some (0, (G, jup (jup (jup X 149 115 n) 229 n v) 149 115 (n + 1))) := fun v => t_qPuts d v n hG (jup_same _ _ _ _) hn0 (by omega)
  have hl1 : ∀ x y : Int, lCmp x y < 0 ↔ x < y := by intro x y; unfold lCmp; grind
  have hl2 : ∀ x y : Int, 0 < lCmp x y ↔ y < x := by intro x y; unfold lCmp; grind
  have hl3 : ∀ x y : Int, lCmp x y = 0 ↔ x = y := by intro x y; unfold lCmp; grind
  rw [e_X12_qJoins, gr_149_114 hG, gl_229 hG, hn, jsub_id (by omega) (by omega), jsub_id (by omega) (by omega), show n + 2 - 1 = n + 1 by omega, show n + 2 - 2 = n by omega, hA, hB]
  rw [if_pos (by omega), if_pos (by omega), if_pos (by omega), if_pos (by omega), if_pos (by omega), if_pos (by omega), if_pos (by omega), if_pos (by omega), if_pos (by omega), if_pos (by omega), if_pos (by omega), if_pos (by omega)]
  simp only [hl1, hl2, hl3, t_qClip d, hq, Option.bind_some, Int.reduceLE, reduceIte]
  rcases (show op = 10003 ∨ op = 10004 ∨ op = 10005 ∨ op = 10006 ∨ op = 10007 ∨ op = 10008 ∨ op = 10009 ∨ op = 10010 ∨ op = 10011 ∨ op = 10012 ∨ op = 10013 by omega) with rfl | rfl | rfl | rfl | rfl | rfl | rfl | rfl | rfl | rfl | rfl
  · obtain ⟨q1, q2⟩ := h01 (by omega)
    rcases q1 with rfl | rfl <;> rcases q2 with rfl | rfl <;> simp [toM, jn2, ladd, w64]
  · obtain ⟨q1, q2⟩ := h01 (by omega)
    rcases q1 with rfl | rfl <;> rcases q2 with rfl | rfl <;> simp [toM, jn2, lmul, w64]
  · simp only [toM, jn2, Int.reduceEq, Int.reduceLT, reduceIte]
    split <;> rfl
  · simp only [toM, jn2, Int.reduceEq, Int.reduceLT, reduceIte]
    split <;> rfl
  · simp only [toM, jn2, Int.reduceEq, Int.reduceLT, reduceIte]
    split <;> rfl
  · simp only [toM, jn2, Int.reduceEq, Int.reduceLT, reduceIte]
    rw [ladd_id (by omega) (by omega)]
  · simp only [toM, jn2, Int.reduceEq, Int.reduceLT, reduceIte]
    rw [lsub_id (by omega) (by omega)]
  · simp only [toM, jn2, Int.reduceEq, Int.reduceLT, reduceIte]
    rw [lmul_id (by omega) (by omega)]
  · simp only [toM, jn2, Int.reduceEq, Int.reduceLT, reduceIte]
    rw [t_qFloor d a b ha1 ha2]
    simp only [hq, Option.bind_some]
  · simp only [toM, jn2, Int.reduceEq, Int.reduceLT, reduceIte]
    split <;> rfl
  · simp only [toM, jn2, Int.reduceEq, Int.reduceLT, reduceIte]
    split <;> rfl
/-- where the reference keeps a fact -/
def fsl (op : Int) : Int := if op ≤ 20006 then op - 20000 + 54 else op - 20008 + 61
theorem t_qPartOf (d : Nat) {G : jG} {X : jX} (op i : Int) (h1 : 20001 ≤ op) (h2 : op ≤ 20009) (h7 : op ≠ 20007) : jD (d + 1) 318 [(22, 149), (0, toM op - 40), (0, i)] (G, X) = some (X 149 (fsl op), (G, X)) := by
  rw [e_X12_qPartOf]
  rcases (show op = 20001 ∨ op = 20002 ∨ op = 20003 ∨ op = 20004 ∨ op = 20005 ∨ op = 20006 ∨ op = 20008 ∨ op = 20009 by omega) with rfl | rfl | rfl | rfl | rfl | rfl | rfl | rfl <;> simp [toM, fsl]
theorem toM_r {op : Int} : (0 ≤ op ∧ op < 10000 → toM op = 1000 + op) ∧ (20000 ≤ op ∧ op ≤ 20009 → 40 ≤ toM op ∧ toM op < 60) ∧ (10003 ≤ op ∧ op ≤ 10013 → 1 ≤ toM op ∧ toM op < 12) := by
  unfold toM
  refine ⟨fun h => by rw [if_pos h.2], fun h => ?_, fun h => ?_⟩
  · repeat' split
    all_goals omega
  · repeat' split
    all_goals omega
theorem t_codes_n (d : Nat) {G : jG} (hG : GG G) (w E : Int) (hw0 : 0 ≤ w) (hw : w < 3) (u : Int) (hu : u = 0 ∨ u = 1) (f tb : Int → Int) (hf : ∀ k, 0 ≤ k → k ≤ 9 → -1000000 ≤ f k ∧ f k ≤ 1000000) (ht : ∀ x, -1000000 ≤ tb x ∧ tb x ≤ 1000000) : ∀ (l : List Int) (X : jX) (i : Int) (s : List Int) (ts ts' : List Nat) (u3 : jV), u3.1 = 2 ∨ u3.1 = 0 → 0 ≤ i → (∀ j : Nat, j < l.length → X 189 (1600 + (i + j)) = toM (l.getD j 0)) → X 188 (3 + w) = E → i + l.length = E → E ≤ 1600 → (∀ op ∈ l, okO u op) → (∀ op ∈ l, 20000 ≤ op → X 149 (fsl op) = f (op - 20000)) → X 149 115 = s.length → pil (X 229) s → vok s ts → s.length ≤ 60 → hts l s.length = some 1 → tys l ts = some ts' →
    ∃ X', jN (d + 3) 237 14 [(22, 149), (0, w), (0, i), u3] [] (G, X) = some ((evl f tb l s).headD 0, (G, X')) ∧ mfE X X' := by
  intro l
  induction l with
  | nil =>
    intro X i s ts ts' u3 hu3 hi hcd hE hiE hE1 hok hfa hn hp hv hle hh hty
    have hlen : s.length = 1 := by simpa [hts] using hh
    simp only [List.length_nil] at hiE
    match s, hp, hlen with
    | [x], hp, _ =>
      refine ⟨X, ?_, mfE_r X⟩
      rw [h_X12_codesTell_14 _ _ _ _ _ hu3, gr_149_47 hG, gl_188 hG, jadd_id (a := 3) (by omega) (by omega), hE, gr_149_114 hG, gl_229 hG]
      simp only [Int.reduceLE, Int.reduceLT, reduceIte]
      rw [if_pos (by omega), if_pos (by omega), if_neg (by omega)]
      have : X 229 0 = x := hp.1
      rw [this]
      rfl
  | cons op l ih =>
    intro X i s ts ts' u3 hu3 hi hcd hE hiE hE1 hok hfa hn hp hv hle hh hty
    obtain ⟨ts1, hv1, hh1, hty1, hle1⟩ := ev1_ok hf ht hv hle hh hty
    have hop : X 189 (1600 + i) = toM op := by have := hcd 0 (by simp); simpa using this
    have hcd' : ∀ j : Nat, j < l.length → X 189 (1600 + (i + 1 + j)) = toM (l.getD j 0) := fun j hj => by
      have := hcd (j + 1) (by simp; omega)
      rw [show i + 1 + (j : Int) = i + ((j + 1 : Nat) : Int) by omega, this]
      simp
    simp only [List.length_cons] at hiE
    have hoo := hok op List.mem_cons_self
    have go : ∀ (X1 : jX) (v3 : Int), (∀ k, k ≠ 149 → k ≠ 229 → X1 k = X k) → (∀ j, j ≠ 115 → X1 149 j = X 149 j) → X1 149 115 = (ev1 f tb op s).length → pil (X1 229) (ev1 f tb op s) → ∃ X', jN (d + 3) 237 14 [(22, 149), (0, w), (0, i + 1), (0, v3)] [] (G, X1) = some ((evl f tb (op :: l) s).headD 0, (G, X')) ∧ mfE X X' := by
      intro X1 v3 hfr hfr2 hn1 hp1
      obtain ⟨X', e, fr⟩ := ih X1 (i + 1) (ev1 f tb op s) ts1 ts' (0, v3) (Or.inr rfl) (by omega) (fun j hj => by rw [hfr 189 (by omega) (by omega)]; exact hcd' j hj) (by rw [hfr 188 (by omega) (by omega)]; exact hE) (by omega) hE1 (fun q hq => hok q (List.mem_cons_of_mem _ hq)) (fun q hq h2 => by rw [hfr2 _ (by unfold fsl; have := hok q (List.mem_cons_of_mem _ hq); unfold okO at this; rcases hu with rfl | rfl <;> simp at this <;> split <;> omega)]; exact hfa q (List.mem_cons_of_mem _ hq) h2) hn1 hp1 hv1 hle1 hh1 hty1
      exact ⟨X', e, mfE_t ⟨hfr, fun j _ h2 => hfr2 j h2⟩ fr⟩
    rw [h_X12_codesTell_14 _ _ _ _ _ hu3, gr_149_47 hG, gl_188 hG, jadd_id (a := 3) (by omega) (by omega), hE, gr_149_48 hG, gl_189 hG, gr_149_114 hG, gl_229 hG, jadd_id (a := 1600) (by omega) (by omega), hop, jadd_id (a := i) (by omega) (by omega), hn]
    simp only [Int.reduceLE, Int.reduceLT, reduceIte]
    rw [if_pos (show 0 ≤ 3 + w by omega), if_pos (show 3 + w < 6 by omega), if_pos (show i < E by omega), if_pos (show 0 ≤ 1600 + i by omega), if_pos (show 1600 + i < 3200 by omega)]
    have hT := toM_r (op := op)
    have push : ∀ v z : Int, ev1 f tb op s = v :: s → ∃ X', jN (d + 3) 237 14 [(22, 149), (0, w), (0, i + 1), (0, z)] [] (G, jup (jup X 229 s.length v) 149 115 (s.length + 1)) = some ((evl f tb (op :: l) s).headD 0, (G, X')) ∧ mfE X X' := by
      intro v z hev
      refine go _ z (fun k h1 h2 => by rw [jup_rw _ _ _ _ _ h1, jup_rw _ _ _ _ _ h2]) (fun j hj => by rw [jup_row _ _ _ _ _ hj, jup_rw _ _ _ _ _ (by omega)]) ?_ ?_
      · rw [jup_same, hev]; simp
      · rw [hev, jup_rw _ _ _ _ _ (by omega)]
        exact ⟨jup_same _ _ _ _, pil_up (fun q q0 q1 => jup_row _ _ _ _ _ (by omega)) hp⟩
    unfold ev1 at go push
    unfold hts at hh
    unfold tys at hty
    by_cases h14 : op = 10014
    · subst h14
      rw [show toM 10014 = 13 from rfl]
      simp only [Int.reduceLT, reduceIte]
      rw [t_qPuts (d + 2) 1 s.length hG hn (by omega) (by omega)]
      simp only [Option.bind_some]
      exact push 1 13 rfl
    rw [if_neg h14] at hty
    by_cases hnn : op < 10000 ∧ 0 ≤ op
    · rw [hT.1 ⟨hnn.2, hnn.1⟩, if_neg (show ¬ 1000 + op < 1000 by omega), jsub_id (by omega) (by omega), show 1000 + op - 1000 = op by omega, t_qPuts (d + 2) op s.length hG hn (by omega) (by omega)]
      simp only [Option.bind_some]
      exact push op _ (if_pos hnn.1)
    by_cases hfc : 20000 ≤ op ∧ op ≤ 20009
    · have h40 := hT.2.1 hfc
      have h7 : 20001 ≤ op ∧ op ≠ 20007 := by
        unfold okO at hoo
        rcases hu with rfl | rfl
        · simp at hoo; have := hoo.2 hfc.1; omega
        · simp at hoo; have := hoo.2 hfc.1; omega
      rw [if_pos (by omega), if_neg (by omega), jsub_id (by omega) (by omega), t_qPartOf (d + 2) op 0 h7.1 hfc.2 h7.2]
      simp only [Option.bind_some]
      rw [hfa op List.mem_cons_self hfc.1, t_qPuts (d + 2) _ s.length hG hn (by omega) (by omega)]
      simp only [Option.bind_some]
      exact push (f (op - 20000)) _ (by rw [if_neg (by omega), if_neg h14, if_pos hfc.1])
    rw [if_neg (by omega)] at hh
    rw [if_neg (by omega)] at hty
    have h10 : 10001 ≤ op ∧ op ≤ 10013 := by
      split at hh
      · omega
      · split at hh
        · omega
        · cases hh
    have h2 : op ≠ 10002 := by
      unfold okO at hoo
      rcases hu with rfl | rfl
      · simp at hoo; exact hoo.1
      · simp at hoo; exact hoo.1
    rw [if_neg (by omega), if_neg h14, if_neg (by omega)] at go
    match s, ts, hv, hp with
    | [], [], _, _ => cases hty
    | x :: s, t :: ts, hv, hp =>
      dsimp only at hty go
      simp only [List.length_cons] at hle hh hn ⊢
      have hx : X 229 s.length = x := hp.1
      by_cases h1 : op = 10001
      · rw [if_pos h1] at hty go
        rw [show toM op = 12 by rw [h1]; rfl]
        simp only [Int.reduceLT, Int.reduceEq, reduceIte]
        rw [jsub_id (by omega) (by omega), show ((s.length + 1 : Nat) : Int) - 1 = s.length by omega, if_pos (by omega), if_pos (by omega), hx, lsub_id (by have := hv.1; omega) (by have := hv.1; omega)]
        have zz := go (jup X 229 s.length (1 - x)) 12 (fun k h1 h2 => jup_rw _ _ _ _ _ h2) (fun j hj => by rw [jup_rw _ _ _ _ _ (by omega)]) (by rw [jup_rw _ _ _ _ _ (by omega), hn]; simp) ⟨jup_same _ _ _ _, pil_up (fun q q0 q1 => jup_row _ _ _ _ _ (by omega)) hp.2⟩
        rw [if_pos (by omega), if_pos (by omega)]
        exact zz
      rw [if_neg h1, if_neg h2] at hty go
      rw [if_neg (by omega), if_pos (by omega)] at hh
      have h3 := hT.2.2 ⟨by omega, by omega⟩
      match s, ts, hv, hp with
      | [], [], _, _ => cases hty
      | y :: s, tt :: ts, hv, hp =>
        dsimp only at hty go
        simp only [List.length_cons] at hle hh hx hn ⊢
        have hy : X 229 s.length = y := hp.2.1
        have h01 : op ≤ 10004 → (y = 0 ∨ y = 1) ∧ (x = 0 ∨ x = 1) := by
          intro q
          rw [if_pos (by omega)] at hty
          split at hty
          · rename_i e2
            exact ⟨hv.2.1.2.2 e2.2, hv.1.2.2 e2.1⟩
          · cases hty
        rw [if_pos (by omega), if_pos (by omega), if_neg (by omega), if_neg (by omega), t_qJoins (d + 1) op y x s.length hG (by omega) (by omega) hv.2.1.1 hv.2.1.2.1 hv.1.1 hv.1.2.1 h01 (by rw [hn]; omega) (by omega) (by omega) hy (by rw [← hx]; congr 1)]
        simp only [Option.bind_some]
        refine go _ _ (fun k h1 h2 => by rw [jup_rw _ _ _ _ _ h1, jup_rw _ _ _ _ _ h2, jup_rw _ _ _ _ _ h1]) (fun j hj => by rw [jup_row _ _ _ _ _ hj, jup_rw _ _ _ _ _ (by omega), jup_row _ _ _ _ _ hj]) ?_ ?_
        · rw [jup_same]; simp
        · rw [jup_rw _ _ _ _ _ (by omega)]
          refine ⟨jup_same _ _ _ _, pil_up (fun q q0 q1 => ?_) hp.2.2⟩
          rw [jup_row _ _ _ _ _ (by omega), jup_rw _ _ _ _ _ (by omega)]
