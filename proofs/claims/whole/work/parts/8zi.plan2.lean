/-! PIT: what holds of a draft -/
theorem ior_k : ∀ x : Nat, x < 32 → ∀ b : Nat, b < 5 → iOr x (iShl 1 b) = orb x b ∧ 0 ≤ orb x b ∧ orb x b ≤ 31 ∧ iAnd (iShr x b) 1 = (x : Int) / 2 ^ b % 2 := by decide +kernel
theorem ior_b {x b : Int} (hx : 0 ≤ x ∧ x ≤ 31) (hb : 0 ≤ b ∧ b < 5) : iOr x (iShl 1 b) = orb x b ∧ (0 ≤ orb x b ∧ orb x b ≤ 31) ∧ iAnd (iShr x b) 1 = x / 2 ^ b.toNat % 2 := by
  have := ior_k x.toNat (by omega) b.toNat (by omega)
  rw [show ((x.toNat : Nat) : Int) = x by omega, show ((b.toNat : Nat) : Int) = b by omega] at this
  exact ⟨this.1, ⟨this.2.1, this.2.2.1⟩, this.2.2.2⟩
def dOk (P : aP) : Prop := pOk P ∧ ∀ k, 0 ≤ k → k < 5 → (0 ≤ pFo P k ∧ pFo P k ≤ 31) ∧ (pK P ≤ k → pFo P k = 0)
theorem nmN_ok {T : aT} {κ : aK} {g : Int → Int} (hT : okT T) (hin : inT T κ) (h : nmN T κ = .inr g) : nmO g ∧ so T κ = 1 := by
  unfold nmN at h
  by_cases q : so T κ = 1
  · rw [if_pos q] at h
    by_cases q6 : 6 < tE T κ.1 - κ.1
    · rw [if_pos q6] at h; cases h
    · rw [if_neg q6] at h
      by_cases q7 : wd T κ ≠ -1 ∧ wd T κ < 29
      · rw [if_pos q7] at h; cases h
      · rw [if_neg q7] at h
        injection h with h
        refine ⟨?_, q⟩
        have hsr : srt T κ.1 = 1 := by rcases so_b T κ with y | y <;> omega
        have htr : tE T κ.1 = rn bL T κ.1 := by unfold tE; rw [if_pos hsr]
        have hte := (tE_le hin.2).2.2 (by omega)
        have hl : ∀ j, 0 ≤ j → κ.1 + j < tE T κ.1 → 97 ≤ T.2 (κ.1 + j) ∧ T.2 (κ.1 + j) ≤ 122 := fun j j0 j1 => (bL_iff _).1 (rn_in bL T (i := κ.1) (j := κ.1 + j) (by omega) (by rw [← htr]; exact j1)).2
        rw [← h]
        refine ⟨?_, fun j j0 j1 => ?_⟩
        · dsimp only
          have := hl 0 (by omega) (by omega)
          rw [if_pos (by omega)]; omega
        · dsimp only
          by_cases y : κ.1 + j < tE T κ.1
          · have := hl j j0 y
            rw [if_pos y]
            exact ⟨by omega, by omega, fun z => by omega⟩
          · rw [if_neg y]
            exact ⟨by omega, by omega, fun _ i i0 i1 => by rw [if_neg (by omega)]⟩
  · rw [if_neg q] at h; cases h
theorem nmR_ok {T : aT} {κ : aK} {lo hi v : Int} (h : nmR T lo hi κ = .inr v) : so T κ = 2 ∧ lo ≤ v ∧ v ≤ hi ∧ 0 ≤ v ∧ v = nuV T κ.1 := by
  unfold nmR at h
  by_cases q : so T κ = 2
  · rw [if_pos q] at h
    by_cases q4 : 4 < tE T κ.1 - κ.1
    · rw [if_pos q4] at h; cases h
    · rw [if_neg q4] at h
      by_cases q5 : lo ≤ nuV T κ.1 ∧ nuV T κ.1 ≤ hi
      · rw [if_pos q5] at h
        injection h with h
        have hs2 : srt T κ.1 = 2 := by rcases so_b T κ with y | y <;> omega
        have hb := nuV_b hs2 (by omega)
        exact ⟨q, by omega, by omega, by omega, h.symm⟩
      · rw [if_neg q5] at h; cases h
  · rw [if_neg q] at h; cases h
theorem nmR_ne {T : aT} {κ : aK} {lo hi : Int} {e : Int × Int} (h : nmR T lo hi κ = .inl e) : e.1 ≠ 0 := by
  unfold nmR at h
  split at h
  · split at h
    · injection h with h; rw [← h]; show (1 : Int) ≠ 0; omega
    · split at h
      · cases h
      · injection h with h; rw [← h]; show (2 : Int) ≠ 0; omega
  · injection h with h; rw [← h]; show (1 : Int) ≠ 0; omega
theorem nmN_ne {T : aT} {κ : aK} {e : Int × Int} (h : nmN T κ = .inl e) : e.1 ≠ 0 := by
  unfold nmN at h
  split at h
  · split at h
    · injection h with h; rw [← h]; show (1 : Int) ≠ 0; omega
    · split at h
      · injection h with h; rw [← h]; show (1 : Int) ≠ 0; omega
      · cases h
  · injection h with h; rw [← h]; show (1 : Int) ≠ 0; omega
/-- what a statement keeps -/
def gdP (T : aT) (P : aP) (κ : aK) (R : rp) : Prop := match R with
  | .inl e => e.1 ≠ 0
  | .inr q => inT T q.1 ∧ κ.1 ≤ q.1.1 ∧ dOk (incN q.2) ∧ pN q.2 = pN P
theorem gdP_tW {T : aT} {P : aP} {κ0 κ : aK} {w : Int} {k : aK → rp} (hin : inT T κ) (hk : κ0.1 ≤ κ.1) (h : wd T κ = w → inT T (nx T κ) → κ0.1 ≤ (nx T κ).1 → gdP T P κ0 (k (nx T κ))) : gdP T P κ0 (tW T w κ k) := by
  have hn := nx_in hin
  unfold tW
  by_cases q : wd T κ = w
  · rw [if_pos q]; exact h q hn.1 (by omega)
  · rw [if_neg q]; show (1 : Int) ≠ 0; omega
theorem gdP_tN {T : aT} {P : aP} {κ0 κ : aK} {lo hi : Int} {k : aK → Int → rp} (hin : inT T κ) (hk : κ0.1 ≤ κ.1) (h : ∀ v, lo ≤ v → v ≤ hi → 0 ≤ v → inT T (nx T κ) → κ0.1 ≤ (nx T κ).1 → gdP T P κ0 (k (nx T κ) v)) : gdP T P κ0 (tN T lo hi κ k) := by
  have hn := nx_in hin
  unfold tN
  cases e : nmR T lo hi κ with
  | inl ee => exact nmR_ne e
  | inr v =>
    obtain ⟨a, b, c, f, _⟩ := nmR_ok e
    exact h v b c f hn.1 (by omega)
theorem bodS_gd {T : aT} {P : aP} {κ : aK} (hT : okT T) (hin : inT T κ) (hd : dOk P) (h60 : pN P < 60) : gdP T P κ (bodS T P κ) := by
  obtain ⟨hO, hF⟩ := hd
  have hT1 := hT.2.1
  have hk := pOk_n hO
  have hkk := pOk_k hO
  have hkh := pOk_h hO
  have hkc := pOk_c hO
  have hkf := pOk_f hO
  have hn := nx_in hin
  unfold bodS
  by_cases n0 : pN P = 0
  · rw [if_pos n0]
    have hz : pC P = 0 ∧ pR P = 0 ∧ pK P = 0 ∧ pH P = 0 ∧ pM P = 0 := by omega
    unfold pitS
    refine gdP_tW hin (by omega) (fun _ i1 l1 => gdP_tN i1 l1 (fun c c0 c1 _ i2 l2 => gdP_tW i2 l2 (fun _ i3 l3 => gdP_tN i3 l3 (fun s s0 s1 _ i4 l4 => ⟨i4, l4, ?_, rfl⟩))))
    refine ⟨⟨Or.inr ⟨by show 1 ≤ pN P + 1; omega, by show pN P + 1 ≤ 60; omega, c0, c1, by show s < c; omega⟩, s0, by show s ≤ 7; omega, hk.2.2.2.1, hk.2.2.2.2.1, hk.2.2.2.2.2.1, hk.2.2.2.2.2.2.1, hk.2.2.2.2.2.2.2.1, hk.2.2.2.2.2.2.2.2.1, hk.2.2.2.2.2.2.2.2.2.1, hk.2.2.2.2.2.2.2.2.2.2.1, hk.2.2.2.2.2.2.2.2.2.2.2.1, hk.2.2.2.2.2.2.2.2.2.2.2.2.1, hk.2.2.2.2.2.2.2.2.2.2.2.2.2.1, hk.2.2.2.2.2.2.2.2.2.2.2.2.2.2.1, hk.2.2.2.2.2.2.2.2.2.2.2.2.2.2.2.1, hk.2.2.2.2.2.2.2.2.2.2.2.2.2.2.2.2, hkk, fun h h0 h1 => ?_, fun i i0 i1 => ?_, hkf⟩, hF⟩
    · have : h < pH P := h1
      omega
    · have : i < c * pR P := i1
      rw [hz.2.1, Int.mul_zero] at this
      omega
  · rw [if_neg n0]
    have hN : 1 ≤ pN P ∧ pN P ≤ 60 ∧ 3 ≤ pC P ∧ pC P ≤ 8 ∧ pS P < pC P := by omega
    have top : ∀ (r k h m : Int), (1 ≤ pN P + 1 ∧ pN P + 1 ≤ 60 ∧ 3 ≤ pC P ∧ pC P ≤ 8 ∧ pS P < pC P) := fun _ _ _ _ => by omega
    have f1 : ∀ p : Int, gdP T P κ (.inl (1, p)) := fun p => by show (1 : Int) ≠ 0; omega
    have f3 : ∀ p : Int, gdP T P κ (.inl (3, p)) := fun p => by show (3 : Int) ≠ 0; omega
    have f5 : ∀ p : Int, gdP T P κ (.inl (5, p)) := fun p => by show (5 : Int) ≠ 0; omega
    have set : ∀ (w lo hi : Int), (w = 0 ∧ 1 ≤ lo ∧ hi ≤ 8 ∨ w = 1 ∧ 0 ≤ lo ∧ hi ≤ 20 ∨ w = 2 ∧ 0 ≤ lo ∧ hi ≤ 999) → gdP T P κ (setSt T P w lo hi κ) := fun w lo hi hw => by
      unfold setSt
      refine gdP_tN hn.1 hn.2.2 (fun v v0 v1 v2 i1 l1 => ⟨i1, l1, ?_, rfl⟩)
      refine ⟨⟨Or.inr (top 0 0 0 0), hk.2.1, hk.2.2.1, hk.2.2.2.1, hk.2.2.2.2.1, hk.2.2.2.2.2.1, hk.2.2.2.2.2.2.1, hk.2.2.2.2.2.2.2.1, hk.2.2.2.2.2.2.2.2.1, hk.2.2.2.2.2.2.2.2.2.1, hk.2.2.2.2.2.2.2.2.2.2.1, ?_, ?_, ?_, ?_, ?_, ?_, hkk, hkh, hkc, hkf⟩, hF⟩
      · show 1 ≤ if w = 0 then v else pHo P; split <;> omega
      · show (if w = 0 then v else pHo P) ≤ 8; split <;> omega
      · show 0 ≤ if w = 1 then v else pPr P; split <;> omega
      · show (if w = 1 then v else pPr P) ≤ 20; split <;> omega
      · show 0 ≤ if w = 2 then v else pLe P; split <;> omega
      · show (if w = 2 then v else pLe P) ≤ 999; split <;> omega
    have rul : ∀ w : Int, (w = 0 ∨ w = 1 ∨ w = 2) → so T κ ≠ 0 → gdP T P κ (rulS T P w κ) := fun w hw hs => by
      have hn2 := hn.2.1 hs
      have hin0 := hin.1
      unfold rulS
      by_cases q : (pFm P w.toNat).isSome = true
      · rw [if_pos q]; exact f5 _
      · rw [if_neg q]
        have put : ∀ (R : rs) (H t : Nat) (u : Int), gdR T u H t (nx T κ) R → H ≤ 60 → (∀ l, wfC u t l → dOk (incN (setFm P w l))) → gdP T P κ (match R with
            | .inl e => (.inl e : rp)
            | .inr q => .inr (q.1, setFm P w q.2)) := fun R H t u hg hH hf => by
          cases R with
          | inl e => exact hg
          | inr p =>
            obtain ⟨g1, g2, g3, g4, g5, g6⟩ := hg
            have g1' := g1.2
            refine ⟨g1, by show κ.1 ≤ p.1.1; omega, hf p.2 ⟨by omega, ?_, ?_, g6⟩, rfl⟩
            · have := g4 0 [] (by omega); rw [List.append_nil] at this; exact this
            · have := g5 [] []; rw [List.append_nil] at this; exact this
        have same : ∀ l : List Int, (fmO 0 1 (if w = 0 then some l else P.2.2.2.2.1) ∧ fmO 0 0 (if w = 1 then some l else P.2.2.2.2.2.1) ∧ fmO 1 0 (if w = 2 then some l else P.2.2.2.2.2.2)) → dOk (incN (setFm P w l)) := fun l hl => ⟨⟨Or.inr (top 0 0 0 0), hk.2.1, hk.2.2.1, hk.2.2.2.1, hk.2.2.2.2.1, hk.2.2.2.2.2.1, hk.2.2.2.2.2.2.1, hk.2.2.2.2.2.2.2.1, hk.2.2.2.2.2.2.2.2.1, hk.2.2.2.2.2.2.2.2.2.1, hk.2.2.2.2.2.2.2.2.2.2.1, hk.2.2.2.2.2.2.2.2.2.2.2.1, hk.2.2.2.2.2.2.2.2.2.2.2.2.1, hk.2.2.2.2.2.2.2.2.2.2.2.2.2.1, hk.2.2.2.2.2.2.2.2.2.2.2.2.2.2.1, hk.2.2.2.2.2.2.2.2.2.2.2.2.2.2.2.1, hk.2.2.2.2.2.2.2.2.2.2.2.2.2.2.2.2, hkk, hkh, hkc, hl⟩, hF⟩
        have o0 : fmO 0 1 P.2.2.2.2.1 := hkf.1
        have o1 : fmO 0 0 P.2.2.2.2.2.1 := hkf.2.1
        have o2 : fmO 1 0 P.2.2.2.2.2.2 := hkf.2.2
        rcases hw with rfl | rfl | rfl
        · rw [if_pos rfl]
          refine put _ (3 * 6 + 4 + 2) 1 0 (tst_gd hT1 (fac_gd hT1 (by omega) 6) _ hn.1) (by omega) (fun l hl => same l ⟨?_, ?_, ?_⟩)
          · rw [if_pos rfl]; exact hl
          · rw [if_neg (by omega)]; exact o1
          · rw [if_neg (by omega)]; exact o2
        · rw [if_neg (by omega), if_neg (show ¬ (1 : Int) = 2 by omega)]
          refine put _ (3 * 6 + 1 + 2) 0 0 (sms_gd hT1 (prt_gd hT1 (by omega) 6) _ hn.1) (by omega) (fun l hl => same l ⟨?_, ?_, ?_⟩)
          · rw [if_neg (by omega)]; exact o0
          · rw [if_pos rfl]; exact hl
          · rw [if_neg (by omega)]; exact o2
        · rw [if_neg (by omega), if_pos (show (2 : Int) = 2 from rfl)]
          refine put _ (3 * 6 + 1 + 2) 0 1 (sms_gd hT1 (prt_gd hT1 (by omega) 6) _ hn.1) (by omega) (fun l hl => same l ⟨?_, ?_, ?_⟩)
          · rw [if_neg (by omega)]; exact o0
          · rw [if_neg (by omega)]; exact o1
          · rw [if_pos rfl]; exact hl
    have hsw : ∀ w, wd T κ = w → w ≠ -1 → so T κ ≠ 0 := fun w h1 h2 => by have := wd_so (T := T) (κ := κ) (by omega); omega
    by_cases w2 : wd T κ = 2
    · rw [if_pos w2]
      unfold kinS
      by_cases q : 5 ≤ pK P ∨ 0 < pR P
      · rw [if_pos q]; exact f5 _
      · rw [if_neg q]
        unfold giv
        cases e : nmN T (nx T κ) with
        | inl ee => exact nmN_ne e
        | inr g =>
          obtain ⟨hg, hso⟩ := nmN_ok hT hn.1 e
          have hnn := nx_in hn.1
          dsimp only
          by_cases qd : fnd (pKn P) (pK P) g ≠ -1 ∨ fnd (pHn P) (pH P) g ≠ -1
          · rw [if_pos qd]; exact f3 _
          · rw [if_neg qd]
            refine gdP_tW hnn.1 (by omega) (fun _ i1 l1 => gdP_tN i1 l1 (fun r r0 r1 _ i2 l2 => gdP_tW i2 l2 (fun _ i3 l3 => gdP_tN i3 l3 (fun a a0 a1 _ i4 l4 => ⟨i4, l4, ?_, rfl⟩))))
            refine ⟨⟨Or.inr (top 0 0 0 0), hk.2.1, hk.2.2.1, hk.2.2.2.1, hk.2.2.2.2.1, by show 0 ≤ pK P + 1; omega, by show pK P + 1 ≤ 5; omega, hk.2.2.2.2.2.2.2.1, hk.2.2.2.2.2.2.2.2.1, hk.2.2.2.2.2.2.2.2.2.1, hk.2.2.2.2.2.2.2.2.2.2.1, hk.2.2.2.2.2.2.2.2.2.2.2.1, hk.2.2.2.2.2.2.2.2.2.2.2.2.1, hk.2.2.2.2.2.2.2.2.2.2.2.2.2.1, hk.2.2.2.2.2.2.2.2.2.2.2.2.2.2.1, hk.2.2.2.2.2.2.2.2.2.2.2.2.2.2.2.1, hk.2.2.2.2.2.2.2.2.2.2.2.2.2.2.2.2, fun k k0 k1 => ?_, hkh, fun c c0 c1 => ?_, hkf⟩, fun k k0 k1 => ⟨(hF k k0 k1).1, fun y => (hF k k0 k1).2 (by have : pK P + 1 ≤ k := y; omega)⟩⟩
            · have k1' : k < pK P + 1 := k1
              show 1 ≤ upF (pRe P) (pK P) r k ∧ upF (pRe P) (pK P) r k ≤ 99 ∧ 0 ≤ upF (pGa P) (pK P) a k ∧ upF (pGa P) (pK P) a k ≤ 99 ∧ 0 ≤ pFo P k ∧ pFo P k ≤ 31 ∧ nmO (upF (pKn P) (pK P) g k)
              unfold upF
              by_cases y : k = pK P
              · simp only [if_pos y]
                exact ⟨r0, r1, a0, a1, (hF k k0 (by omega)).1.1, (hF k k0 (by omega)).1.2, hg⟩
              · simp only [if_neg y]
                exact hkk k k0 (by omega)
            · have c1' : c < pC P * pR P := c1
              rw [show pR P = 0 by omega, Int.mul_zero] at c1'
              omega
    · rw [if_neg w2]
      by_cases w5 : wd T κ = 5
      · rw [if_pos w5]
        unfold rowS
        by_cases q : 6 ≤ pR P
        · rw [if_pos q]; exact f5 _
        · rw [if_neg q]
          by_cases q2 : so T (nx T κ) = 1 ∧ tE T (nx T κ).1 - (nx T κ).1 = pC P ∧ (∀ j : Nat, j < 8 → (j : Int) < pC P → ltr T P (nx T κ).1 j ≠ -2)
          · rw [if_pos q2]
            have hnn := nx_in hn.1
            have hsr : srt T (nx T κ).1 = 1 := by rcases so_b T (nx T κ) with y | y <;> omega
            have htr : tE T (nx T κ).1 = rn bL T (nx T κ).1 := by unfold tE; rw [if_pos hsr]
            refine ⟨hnn.1, by dsimp only; omega, ⟨⟨Or.inr (top 0 0 0 0), hk.2.1, hk.2.2.1, by show 0 ≤ pR P + 1; omega, by show pR P + 1 ≤ 6; omega, hk.2.2.2.2.2.1, hk.2.2.2.2.2.2.1, hk.2.2.2.2.2.2.2.1, hk.2.2.2.2.2.2.2.2.1, hk.2.2.2.2.2.2.2.2.2.1, hk.2.2.2.2.2.2.2.2.2.2.1, hk.2.2.2.2.2.2.2.2.2.2.2.1, hk.2.2.2.2.2.2.2.2.2.2.2.2.1, hk.2.2.2.2.2.2.2.2.2.2.2.2.2.1, hk.2.2.2.2.2.2.2.2.2.2.2.2.2.2.1, hk.2.2.2.2.2.2.2.2.2.2.2.2.2.2.2.1, hk.2.2.2.2.2.2.2.2.2.2.2.2.2.2.2.2, hkk, hkh, fun c c0 c1 => ?_, hkf⟩, hF⟩, rfl⟩
            have c1' : c < pC P * (pR P + 1) := c1
            rw [Int.mul_add, Int.mul_one, Int.mul_comm (pC P) (pR P)] at c1'
            show -1 ≤ (if pR P * pC P ≤ c ∧ c < pR P * pC P + pC P then ltr T P (nx T κ).1 (c - pR P * pC P) else pSe P c) ∧ (if pR P * pC P ≤ c ∧ c < pR P * pC P + pC P then ltr T P (nx T κ).1 (c - pR P * pC P) else pSe P c) < pK P
            by_cases y : pR P * pC P ≤ c ∧ c < pR P * pC P + pC P
            · rw [if_pos y]
              have hne := q2.2.2 (c - pR P * pC P).toNat (by omega) (by omega)
              rw [show (((c - pR P * pC P).toNat : Nat) : Int) = c - pR P * pC P by omega] at hne
              have hlet := (bL_iff _).1 (rn_in bL T (i := (nx T κ).1) (j := (nx T κ).1 + (c - pR P * pC P)) (by omega) (by rw [← htr]; omega)).2
              unfold ltr at hne ⊢
              split
              · omega
              · split
                · omega
                · rename_i y1 y2; rw [if_neg y1, if_neg y2] at hne; exact absurd rfl hne
            · rw [if_neg y]
              exact hkc c c0 (by show c < pC P * pR P; rw [Int.mul_comm]; omega)
          · rw [if_neg q2]; exact f1 _
      · rw [if_neg w5]
        by_cases w6 : wd T κ = 6
        · rw [if_pos w6]
          unfold houS
          by_cases q : 6 ≤ pH P
          · rw [if_pos q]; exact f5 _
          · rw [if_neg q]
            unfold giv
            cases e : nmN T (nx T κ) with
            | inl ee => exact nmN_ne e
            | inr g =>
              obtain ⟨hg, hso⟩ := nmN_ok hT hn.1 e
              have hnn := nx_in hn.1
              dsimp only
              by_cases qd : fnd (pKn P) (pK P) g ≠ -1 ∨ fnd (pHn P) (pH P) g ≠ -1
              · rw [if_pos qd]; exact f3 _
              · rw [if_neg qd]
                refine gdP_tW hnn.1 (by omega) (fun _ i1 l1 => gdP_tN i1 l1 (fun a a0 a1 _ i4 l4 => ⟨i4, l4, ?_, rfl⟩))
                refine ⟨⟨Or.inr (top 0 0 0 0), hk.2.1, hk.2.2.1, hk.2.2.2.1, hk.2.2.2.2.1, hk.2.2.2.2.2.1, hk.2.2.2.2.2.2.1, by show 0 ≤ pH P + 1; omega, by show pH P + 1 ≤ 6; omega, hk.2.2.2.2.2.2.2.2.2.1, hk.2.2.2.2.2.2.2.2.2.2.1, hk.2.2.2.2.2.2.2.2.2.2.2.1, hk.2.2.2.2.2.2.2.2.2.2.2.2.1, hk.2.2.2.2.2.2.2.2.2.2.2.2.2.1, hk.2.2.2.2.2.2.2.2.2.2.2.2.2.2.1, hk.2.2.2.2.2.2.2.2.2.2.2.2.2.2.2.1, hk.2.2.2.2.2.2.2.2.2.2.2.2.2.2.2.2, hkk, fun k k0 k1 => ?_, hkc, hkf⟩, hF⟩
                have k1' : k < pH P + 1 := k1
                show 0 ≤ upF (pHc P) (pH P) a k ∧ upF (pHc P) (pH P) a k < pC P ∧ nmO (upF (pHn P) (pH P) g k)
                unfold upF
                by_cases y : k = pH P
                · simp only [if_pos y]
                  exact ⟨a0, by omega, hg⟩
                · simp only [if_neg y]
                  exact hkh k k0 (by omega)
        · rw [if_neg w6]
          by_cases w7 : wd T κ = 7
          · rw [if_pos w7]
            unfold mixS
            by_cases q : 10 ≤ pM P
            · rw [if_pos q]; exact f5 _
            · rw [if_neg q]
              have hnn := nx_in hn.1
              have hn3 := nx_in hnn.1
              unfold knd
              cases e : nmN T (nx T κ) with
              | inl ee => exact nmN_ne e
              | inr g =>
                dsimp only
                have hb1 := fnd_b (pKn P) (pK P) g hk.2.2.2.2.2.1
                by_cases q1 : fnd (pKn P) (pK P) g = -1
                · rw [if_pos q1]; exact f3 _
                · rw [if_neg q1]
                  cases e2 : nmN T (nx T (nx T κ)) with
                  | inl ee => exact nmN_ne e2
                  | inr g2 =>
                    dsimp only
                    have hb2 := fnd_b (pKn P) (pK P) g2 hk.2.2.2.2.2.1
                    by_cases q2 : fnd (pKn P) (pK P) g2 = -1
                    · rw [if_pos q2]; exact f3 _
                    · rw [if_neg q2]
                      generalize fnd (pKn P) (pK P) g = a at *
                      generalize fnd (pKn P) (pK P) g2 = b at *
                      by_cases q3 : a = b ∨ pFo P a / 2 ^ b.toNat % 2 = 1
                      · rw [if_pos q3]; exact f3 _
                      · rw [if_neg q3]
                        have hfo : ∀ k, 0 ≤ k → k < 5 → (0 ≤ (if k = a then orb (pFo P k) b else if k = b then orb (pFo P k) a else pFo P k) ∧ (if k = a then orb (pFo P k) b else if k = b then orb (pFo P k) a else pFo P k) ≤ 31) ∧ (pK P ≤ k → (if k = a then orb (pFo P k) b else if k = b then orb (pFo P k) a else pFo P k) = 0) := fun k k0 k1 => by
                          have hx := hF k k0 k1
                          by_cases y1 : k = a
                          · rw [if_pos y1]
                            exact ⟨(ior_b hx.1 (by omega)).2.1, fun z => by omega⟩
                          · rw [if_neg y1]
                            by_cases y2 : k = b
                            · rw [if_pos y2]
                              exact ⟨(ior_b hx.1 (by omega)).2.1, fun z => by omega⟩
                            · rw [if_neg y2]; exact hx
                        refine ⟨hn3.1, by dsimp only; omega, ⟨⟨Or.inr (top 0 0 0 0), hk.2.1, hk.2.2.1, hk.2.2.2.1, hk.2.2.2.2.1, hk.2.2.2.2.2.1, hk.2.2.2.2.2.2.1, hk.2.2.2.2.2.2.2.1, hk.2.2.2.2.2.2.2.2.1, by show 0 ≤ pM P + 1; omega, by show pM P + 1 ≤ 10; omega, hk.2.2.2.2.2.2.2.2.2.2.2.1, hk.2.2.2.2.2.2.2.2.2.2.2.2.1, hk.2.2.2.2.2.2.2.2.2.2.2.2.2.1, hk.2.2.2.2.2.2.2.2.2.2.2.2.2.2.1, hk.2.2.2.2.2.2.2.2.2.2.2.2.2.2.2.1, hk.2.2.2.2.2.2.2.2.2.2.2.2.2.2.2.2, fun k k0 k1 => ?_, hkh, hkc, hkf⟩, hfo⟩, rfl⟩
                        obtain ⟨c1, c2, c3, c4, c5, c6, c7⟩ := hkk k k0 k1
                        have k1' : k < pK P := k1
                        exact ⟨c1, c2, c3, c4, (hfo k k0 (by omega)).1.1, (hfo k k0 (by omega)).1.2, c7⟩
          · rw [if_neg w7]
            by_cases w8 : wd T κ = 8
            · rw [if_pos w8]; exact rul 0 (by omega) (hsw 8 w8 (by omega))
            · rw [if_neg w8]
              by_cases w9 : wd T κ = 9
              · rw [if_pos w9]; exact rul 1 (by omega) (hsw 9 w9 (by omega))
              · rw [if_neg w9]
                by_cases w10 : wd T κ = 10
                · rw [if_pos w10]; exact rul 2 (by omega) (hsw 10 w10 (by omega))
                · rw [if_neg w10]
                  by_cases w11 : wd T κ = 11
                  · rw [if_pos w11]; exact set 0 1 8 (by omega)
                  · rw [if_neg w11]
                    by_cases w12 : wd T κ = 12
                    · rw [if_pos w12]; exact set 1 0 20 (by omega)
                    · rw [if_neg w12]
                      by_cases w13 : wd T κ = 13
                      · rw [if_pos w13]; exact set 2 0 999 (by omega)
                      · rw [if_neg w13]; exact f1 _
