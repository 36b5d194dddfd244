/-! SIMPLE CALLS -/
theorem RC_refu {A : aA} {X : jX} (w : Int) (h0 : 0 ≤ w) (h1 : w < 6) (hR : RC A X) : RC (refu A w) (jup X 147 w (jadd (X 147 w) 1)) := by
  obtain ⟨r1, r2, r3, r4, r5, r6, r7, r8, r9, r10, r11⟩ := hR
  have h : ∀ a, a ≠ 147 → jup X 147 w (jadd (X 147 w) 1) a = X a := fun a ha => jup_rw _ _ _ _ _ ha
  have e0 := h 0 (by omega)
  refine ⟨cTa_fr (h _ (by omega)) (h _ (by omega)) r1, by rw [e0]; exact r2, cPlan_fr (fun a h1 h2 => h a (by omega)) r3, cGr_fr (h _ (by omega)) (h _ (by omega)) (h _ (by omega)) r4, cHi_fr (fun a h1 h2 => h a (by omega)) r5, cJu_fr (by rw [e0]) (h _ (by omega)) r6, cBo_fr (h _ (by omega)) (h _ (by omega)) r7, by rw [e0]; exact r8, cPi_fr (h _ (by omega)) (h _ (by omega)) r9, fun k k0 k1 => ?_, cCa_fr (h _ (by omega)) (h _ (by omega)) (h _ (by omega)) r11⟩
  show _ = if k = w then jadd (aRf A k) 1 else aRf A k
  by_cases q : k = w
  · rw [if_pos q, q, jup_same, r10 w h0 h1]
  · rw [if_neg q, jup_row _ _ _ _ _ q]; exact r10 k k0 k1
theorem RM_refu {A : aA} {X : jX} (w : Int) (h0 : 0 ≤ w) (h1 : w < 6) (hR : RM A X) : RM (refu A w) (jup X 151 w (jadd (X 151 w) 1)) := by
  obtain ⟨r1, r2, r3, r4, r5, r6, r7, r8, r9, r10, r11⟩ := hR
  have h : ∀ a, a ≠ 151 → jup X 151 w (jadd (X 151 w) 1) a = X a := fun a ha => jup_rw _ _ _ _ _ ha
  have e0 := h 149 (by omega)
  refine ⟨mTa_fr (by rw [e0]) (h _ (by omega)) r1, by rw [e0]; exact r2, mPlan_fr (fun a h1 h2 => h a (by omega)) (by rw [e0]) r3, mGr_fr (h _ (by omega)) r4, mHi_fr (by rw [e0]) (by rw [e0]) (h _ (by omega)) r5, mJu_fr (fun j h1 h2 => by rw [e0]) r6, mBo_fr (by rw [e0]) (h _ (by omega)) r7, by rw [e0]; exact r8, mPi_fr (by rw [e0]) (h _ (by omega)) r9, fun k k0 k1 => ?_, mWd_fr (fun a h1 => h a (by omega)) r11⟩
  show _ = if k = w then jadd (aRf A k) 1 else aRf A k
  by_cases q : k = w
  · rw [if_pos q, q, jup_same, r10 w h0 h1]
  · rw [if_neg q, jup_row _ _ _ _ _ q]; exact r10 k k0 k1
theorem AV_refu {A : aA} (w : Int) (h : AV A) : AV (refu A w) := h
theorem s_refuse (d : Nat) {G : jG} {X : jX} (w : Int) (hG : GG G) (h0 : 0 ≤ w) (h1 : w < 6) : jD (d + 1) 181 [(21, 0), (0, w)] (G, X) = some (-1, (G, jup X 147 w (jadd (X 147 w) 1))) := by
  rw [e_X11_refuse, gr_0_13 hG, gl_147 hG]
  grind
theorem call_fault (w : Int) : okB 155 216 [(0, w)] := by
  refine ⟨fun A => if w = 0 then aFs A else if w = 1 then aFp A else -1, fun A => A, fun d G X A hG hR hV => ⟨G, X, ?_, hG, hR, fun _ _ => rfl⟩, fun d G X A hG hR hV => ⟨X, ?_, hR, fun _ _ => rfl⟩, fun A h => h⟩
  · rw [e_X11_fault, hR.2.1.1, hR.2.1.2]
    grind
  · rw [e_X12_fault, hR.2.1.1, hR.2.1.2]
    grind
theorem call_status (w : Int) : okB 180 332 [(0, w)] := by
  refine ⟨fun A => if 0 ≤ w ∧ w < 6 then aRf A w else -1, fun A => A, fun d G X A hG hR hV => ⟨G, X, ?_, hG, hR, fun _ _ => rfl⟩, fun d G X A hG hR hV => ⟨X, ?_, hR, fun _ _ => rfl⟩, fun A h => h⟩
  · have h := hR.2.2.2.2.2.2.2.2.2.1 w
    rw [e_X11_status, gr_0_13 hG, gl_147 hG]
    grind
  · have h := hR.2.2.2.2.2.2.2.2.2.1 w
    rw [e_X12_status, t_isIn (d + 58)]
    simp only [Option.bind_some]
    rw [gr_149_9 hG, gl_151 hG]
    grind
theorem call_judged (w : Int) : okB 162 260 [(0, w)] := by
  refine ⟨fun A => match aJu A with | none => -1 | some q => if w = 0 then q.1 else if w = 1 then q.2.1 else if w = 2 then q.2.2 else -1, fun A => A, fun d G X A hG hR hV => ⟨G, X, ?_, hG, hR, fun _ _ => rfl⟩, fun d G X A hG hR hV => ⟨X, ?_, hR, fun _ _ => rfl⟩, fun A h => h⟩
  · have h := hR.2.2.2.2.2.1
    rw [e_X11_judged, gr_0_14 hG, gl_148 hG]
    unfold cJu at h
    cases hq : aJu A with
    | none => rw [hq] at h; dsimp only at h ⊢; rw [hq, h]; simp
    | some q =>
      rw [hq] at h; dsimp only at h ⊢; rw [hq]; dsimp only
      obtain ⟨h0, h1, h2, h3⟩ := h
      rw [h0]
      simp only [Int.reduceLE, Int.reduceEq, reduceIte]
      by_cases q0 : w < 0
      · rw [if_pos q0, if_neg (by omega), if_neg (by omega), if_neg (by omega)]
      · rw [if_neg q0]
        by_cases q1 : w < 3
        · rw [if_pos q1, if_pos (by omega), if_pos q1]
          rcases (show w = 0 ∨ w = 1 ∨ w = 2 by omega) with rfl | rfl | rfl
          · rw [h1]; rfl
          · rw [h2]; rfl
          · rw [h3]; rfl
        · rw [if_neg q1, if_neg (by omega), if_neg (by omega), if_neg (by omega)]
  · have h := hR.2.2.2.2.2.1
    rw [e_X12_judged]
    unfold mJu at h
    cases hq : aJu A with
    | none => rw [hq] at h; dsimp only at h ⊢; rw [hq, h]; simp
    | some q =>
      rw [hq] at h; dsimp only at h ⊢; rw [hq]; dsimp only
      obtain ⟨h0, h1, h2, h3⟩ := h
      rw [h0, h1, h2, h3]
      grind
theorem s_at (d : Nat) {G : jG} {X : jX} (p b n k : Int) (hb : gR G p 0 = b) (hn : X p 1 = n) (hp : 0 ≤ p) (hb0 : 0 ≤ b) (hl : n ≤ gL G b) : jD (d + 1) 144 [(20, p), (0, k)] (G, X) = some (if 0 ≤ k ∧ k < n then X b k else -1, (G, X)) := by
  rw [e_X10_at, hb, hn]
  grind
theorem call_octet (w : Int) : okB 178 328 [(0, w)] := by
  refine ⟨fun A => if 0 ≤ w ∧ w < aPn A then aPp A w else -1, fun A => A, fun d G X A hG hR hV => ⟨G, X, ?_, hG, hR, fun _ _ => rfl⟩, fun d G X A hG hR hV => ⟨X, ?_, hR, fun _ _ => rfl⟩, fun A h => h⟩
  · have h := hR.2.2.2.2.2.2.2.2.1
    have hp := hV.2.2.2.2.2.2
    rw [e_X11_octet, gr_0_1 hG, s_at (d + 58) 35 36 (aPn A) w (gr_35_0 hG) h.1 (by omega) (by omega) (by rw [gl_36 hG]; exact hp.2)]
    simp only [Option.bind_some, Int.reduceLE, reduceIte]
    have h2 := h.2 w
    grind
  · have h := hR.2.2.2.2.2.2.2.2.1
    have hp := hV.2.2.2.2.2.2
    have h2 := h.2 w
    rw [e_X12_octet, gr_149_118 hG, gl_230 hG, h.1]
    grind
theorem call_seed (w : Int) (hw : j32 w) : okB 171 279 [(0, w)] := by
  unfold j32 at hw
  refine ⟨fun A => if w < 0 then 0 else 1, fun A => if w < 0 then refu A 5 else setS A w, fun d G X A hG hR hV => ?_, fun d G X A hG hR hV => ?_, fun A h => ?_⟩
  · dsimp only
    by_cases q : w < 0
    · rw [if_pos q, if_pos q, e_X11_seed, if_pos q, s_refuse (d + 58) 5 hG (by omega) (by omega)]
      exact ⟨G, _, rfl, hG, RC_refu 5 (by omega) (by omega) hR, fun a ha => jup_rw _ _ _ _ _ (by omega)⟩
    · rw [if_neg q, if_neg q, e_X11_seed, if_neg q]
      refine ⟨G, _, rfl, hG, ?_, fun a ha => jup_rw _ _ _ _ _ (by omega)⟩
      obtain ⟨r1, r2, r3, r4, r5, r6, r7, r8, r9, r10, r11⟩ := hR
      have h : ∀ a, a ≠ 0 → jup X 0 18 w a = X a := fun a ha => jup_rw _ _ _ _ _ ha
      have h0 : ∀ j, j ≠ 18 → jup X 0 18 w 0 j = X 0 j := fun j hj => jup_row _ _ _ _ _ hj
      exact ⟨cTa_fr (h _ (by omega)) (h _ (by omega)) r1, ⟨by rw [h0 16 (by omega)]; exact r2.1, by rw [h0 17 (by omega)]; exact r2.2⟩, cPlan_fr (fun a h1 h2 => h a (by omega)) r3, cGr_fr (h _ (by omega)) (h _ (by omega)) (h _ (by omega)) r4, cHi_fr (fun a h1 h2 => h a (by omega)) r5, cJu_fr (h0 _ (by omega)) (h _ (by omega)) r6, cBo_fr (h _ (by omega)) (h _ (by omega)) r7, jup_same _ _ _ _, cPi_fr (h _ (by omega)) (h _ (by omega)) r9, cRf_fr (h _ (by omega)) r10, cCa_fr (h _ (by omega)) (h _ (by omega)) (h _ (by omega)) r11⟩
  · dsimp only
    by_cases q : w < 0
    · rw [if_pos q, if_pos q, e_X12_seed, if_pos q, gr_149_9 hG, gl_151 hG]
      exact ⟨_, rfl, RM_refu 5 (by omega) (by omega) hR, fun a ha => jup_rw _ _ _ _ _ (by omega)⟩
    · rw [if_neg q, if_neg q, e_X12_seed, if_neg q]
      refine ⟨_, rfl, ?_, fun a ha => jup_rw _ _ _ _ _ (by omega)⟩
      obtain ⟨r1, r2, r3, r4, r5, r6, r7, r8, r9, r10, r11⟩ := hR
      have h : ∀ a, a ≠ 149 → jup X 149 80 w a = X a := fun a ha => jup_rw _ _ _ _ _ ha
      have hn : ∀ j, j ≠ 80 → jup X 149 80 w 149 j = X 149 j := fun j hj => jup_row _ _ _ _ _ hj
      exact ⟨mTa_fr (hn _ (by omega)) (h _ (by omega)) r1, by rw [hn 7 (by omega), hn 8 (by omega)]; exact r2, mPlan_fr (fun a h1 h2 => h a (by omega)) (hn _ (by omega)) r3, mGr_fr (h _ (by omega)) r4, mHi_fr (hn _ (by omega)) (hn _ (by omega)) (h _ (by omega)) r5, mJu_fr (fun j h1 h2 => hn j (by omega)) r6, mBo_fr (hn _ (by omega)) (h _ (by omega)) r7, jup_same _ _ _ _, mPi_fr (hn _ (by omega)) (h _ (by omega)) r9, mRf_fr (h _ (by omega)) r10, mWd_fr (fun a h1 => h a (by omega)) r11⟩
  · dsimp only
    by_cases q : w < 0
    · rw [if_pos q]; exact h
    · rw [if_neg q]
      exact ⟨h.1, h.2.1, h.2.2.1, h.2.2.2.1, h.2.2.2.2.1, ⟨by show 0 ≤ w; omega, hw.2⟩, h.2.2.2.2.2.2⟩
/-! the tape -/
theorem RC_T {A : aA} {X X' : jX} {n : Int} {f : Int → Int} (h : ∀ a, sR a → a ≠ 33 → a ≠ 34 → X' a = X a) (hT : cTa X' n f) (hR : RC A X) : RC (setT A n f) X' := by
  obtain ⟨r1, r2, r3, r4, r5, r6, r7, r8, r9, r10, r11⟩ := hR
  unfold sR at h
  have e0 := h 0 (by omega) (by omega) (by omega)
  exact ⟨hT, by rw [e0]; exact r2, cPlan_fr (fun a h1 h2 => h a (by omega) (by omega) (by omega)) r3, cGr_fr (h _ (by omega) (by omega) (by omega)) (h _ (by omega) (by omega) (by omega)) (h _ (by omega) (by omega) (by omega)) r4, cHi_fr (fun a h1 h2 => h a (by omega) (by omega) (by omega)) r5, cJu_fr (by rw [e0]) (h _ (by omega) (by omega) (by omega)) r6, cBo_fr (h _ (by omega) (by omega) (by omega)) (h _ (by omega) (by omega) (by omega)) r7, by rw [e0]; exact r8, cPi_fr (h _ (by omega) (by omega) (by omega)) (h _ (by omega) (by omega) (by omega)) r9, cRf_fr (h _ (by omega) (by omega) (by omega)) r10, cCa_fr (h _ (by omega) (by omega) (by omega)) (h _ (by omega) (by omega) (by omega)) (h _ (by omega) (by omega) (by omega)) r11⟩
theorem RM_T {A : aA} {X X' : jX} {n : Int} {f : Int → Int} (h : ∀ a, sM a → a ≠ 150 → X' a = X a) (hn : ∀ j, sN j → j ≠ 1 → X' 149 j = X 149 j) (hT : mTa X' n f) (hR : RM A X) : RM (setT A n f) X' := by
  obtain ⟨r1, r2, r3, r4, r5, r6, r7, r8, r9, r10, r11⟩ := hR
  unfold sM at h
  unfold sN at hn
  exact ⟨hT, by rw [hn 7 (by omega) (by omega), hn 8 (by omega) (by omega)]; exact r2, mPlan_fr (fun a h1 h2 => h a (by omega) (by omega)) (hn _ (by omega) (by omega)) r3, mGr_fr (h _ (by omega) (by omega)) r4, mHi_fr (hn _ (by omega) (by omega)) (hn _ (by omega) (by omega)) (h _ (by omega) (by omega)) r5, mJu_fr (fun j h1 h2 => hn j (by omega) (by omega)) r6, mBo_fr (hn _ (by omega) (by omega)) (h _ (by omega) (by omega)) r7, by rw [hn 80 (by omega) (by omega)]; exact r8, mPi_fr (hn _ (by omega) (by omega)) (h _ (by omega) (by omega)) r9, mRf_fr (h _ (by omega) (by omega)) r10, mWd_fr (fun a h1 => h a (by omega) (by omega)) r11⟩
theorem s_length (d : Nat) {G : jG} {X : jX} (p : Int) (hp : 0 ≤ p) : jD (d + 1) 143 [(20, p)] (G, X) = some (X p 1, (G, X)) := by rw [e_X10_length, if_pos hp]
theorem s_shorten (d : Nat) {G : jG} {X : jX} (p n : Int) (hp : 0 ≤ p) (h0 : 0 ≤ n) (h1 : n ≤ X p 1) : jD (d + 1) 145 [(20, p), (0, n)] (G, X) = some (0, (G, jup X p 1 n)) := by
  rw [e_X10_shorten, if_neg (by omega), if_pos hp, if_neg (by omega), if_pos hp]
theorem RC_shrt {A : aA} {X : jX} (n : Int) (h1 : n ≤ aTn A) (hR : RC A X) : RC (setT A n (aTp A)) (jup X 33 1 n) :=
  RC_T (fun a _ h1 _ => jup_rw _ _ _ _ _ h1) ⟨jup_same _ _ _ _, fun i i0 i1 => by rw [jup_rw _ _ _ _ _ (by omega)]; exact hR.1.2 i i0 (by omega)⟩ hR
theorem RM_shrt {A : aA} {X : jX} (n : Int) (h1 : n ≤ aTn A) (hR : RM A X) : RM (setT A n (aTp A)) (jup X 149 1 n) :=
  RM_T (fun a h1 _ => jup_rw _ _ _ _ _ (by unfold sM at h1; omega)) (fun j _ hj => jup_row _ _ _ _ _ hj) ⟨jup_same _ _ _ _, fun i i0 i1 => by rw [jup_rw _ _ _ _ _ (by omega)]; exact hR.1.2 i i0 (by omega)⟩ hR
theorem AV_shrt {A : aA} (n : Int) (h0 : 0 ≤ n) (h1 : n ≤ aTn A) (h : AV A) : AV (setT A n (aTp A)) := ⟨⟨h0, Int.le_trans h1 h.1.2.1, fun i i0 i1 => h.1.2.2 i i0 (Int.lt_of_lt_of_le i1 h1)⟩, h.2⟩
theorem call_end (w : Int) : okB 153 189 [(0, w)] := by
  refine ⟨fun A => if 0 ≤ w ∧ w ≤ aTn A then 1 else 0, fun A => if 0 ≤ w ∧ w ≤ aTn A then setT A w (aTp A) else refu A 0, fun d G X A hG hR hV => ?_, fun d G X A hG hR hV => ?_, fun A h => ?_⟩
  · have hn := hR.1.1
    rw [e_X11_end, gr_0_0 hG, s_refuse (d + 58) 0 hG (by omega) (by omega), s_length (d + 58) 33 (by omega), hn]
    simp only [Option.bind_some, Int.reduceLE, reduceIte]
    by_cases q : 0 ≤ w ∧ w ≤ aTn A
    · rw [if_neg (by omega), if_neg (by omega), if_pos q, if_pos q, gr_0_0 hG, s_shorten (d + 58) 33 w (by omega) q.1 (by omega)]
      exact ⟨G, _, rfl, hG, RC_shrt w q.2 hR, fun a ha => jup_rw _ _ _ _ _ (by omega)⟩
    · rw [if_neg q, if_neg q]
      refine ⟨G, jup X 147 0 (jadd (X 147 0) 1), ?_, hG, RC_refu 0 (by omega) (by omega) hR, fun a ha => jup_rw _ _ _ _ _ (by omega)⟩
      by_cases q0 : w < 0
      · rw [if_pos q0]
      · rw [if_neg q0, if_pos (by omega), s_refuse (d + 58) 0 hG (by omega) (by omega)]
        rfl
  · have hn := hR.1.1
    rw [e_X12_end, gr_149_9 hG, gl_151 hG, hn]
    simp only [Int.reduceLE, Int.reduceLT, reduceIte]
    by_cases q : 0 ≤ w ∧ w ≤ aTn A
    · rw [if_neg (by omega), if_neg (by omega), if_pos q, if_pos q]
      exact ⟨_, rfl, RM_shrt w q.2 hR, fun a ha => jup_rw _ _ _ _ _ (by omega)⟩
    · rw [if_neg q, if_neg q]
      refine ⟨jup X 151 0 (jadd (X 151 0) 1), ?_, RM_refu 0 (by omega) (by omega) hR, fun a ha => jup_rw _ _ _ _ _ (by omega)⟩
      by_cases q0 : w < 0
      · rw [if_pos q0]
      · rw [if_neg q0, if_pos (by omega)]
  · dsimp only
    by_cases q : 0 ≤ w ∧ w ≤ aTn A
    · rw [if_pos q]; exact AV_shrt w q.1 q.2 h
    · rw [if_neg q]; exact h
