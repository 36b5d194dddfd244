/-! WHAT HOLDS OF A GROUND goes on -/
theorem lrn_1 (st : Int → Int) : ∀ (n : Nat) (c i : Int), c - lrn st n c ≤ i → i < c → st i = 1 := by
  intro n
  induction n with
  | zero => intro c i h1 h2; have : lrn st 0 c = 0 := rfl; omega
  | succ n ih =>
    intro c i h1 h2
    have e : lrn st (n + 1) c = if st (c - 1) = 1 then 1 + lrn st n (c - 1) else 0 := rfl
    rw [e] at h1
    split at h1
    · by_cases q : i = c - 1
      · rw [q]; assumption
      · exact ih (c - 1) i (by omega) (by omega)
    · omega
theorem rrn_1 (st : Int → Int) : ∀ (n : Nat) (c i : Int), i ≤ c + rrn st n c → c < i → st i = 1 := by
  intro n
  induction n with
  | zero => intro c i h1 h2; have : rrn st 0 c = 0 := rfl; omega
  | succ n ih =>
    intro c i h1 h2
    have e : rrn st (n + 1) c = if st (c + 1) = 1 then 1 + rrn st n (c + 1) else 0 := rfl
    rw [e] at h1
    split at h1
    · by_cases q : i = c + 1
      · rw [q]; assumption
      · exact ih (c + 1) i (by omega) (by omega)
    · omega
theorem nwh_same {st st' : Int → Int} : ∀ {n : Nat}, (∀ i, 0 ≤ i → i < n → (st' i = 0 ↔ st i = 0)) → nwh st' n = nwh st n := by
  intro n
  induction n with
  | zero => intro _; rfl
  | succ n ih =>
    intro h
    show nwh st' n + (if st' n = 0 then 0 else 1) = nwh st n + (if st n = 0 then 0 else 1)
    rw [ih (fun i i0 i1 => h i i0 (by omega))]
    have := h n (by omega) (by omega)
    by_cases q : st n = 0
    · rw [if_pos q, if_pos (this.mpr q)]
    · rw [if_neg q, if_neg (fun w => q (this.mp w))]
theorem nwh_up {st st' : Int → Int} {c : Int} (h0 : 0 ≤ c) (hc : st c = 0) (hc' : st' c ≠ 0) : ∀ {n : Nat}, (∀ i, 0 ≤ i → i < n → i ≠ c → (st' i = 0 ↔ st i = 0)) → nwh st' n = nwh st n + (if c < n then 1 else 0) := by
  intro n
  induction n with
  | zero => intro _; rw [if_neg (by omega)]; rfl
  | succ n ih =>
    intro h
    show nwh st' n + (if st' n = 0 then 0 else 1) = nwh st n + (if st n = 0 then 0 else 1) + _
    rw [ih (fun i i0 i1 => h i i0 (by omega))]
    by_cases q : c = n
    · rw [← q, if_pos hc, if_neg hc', if_neg (by omega), if_pos (by omega)]
    · have := h n (by omega) (by omega) (fun w => q w.symm)
      by_cases q2 : st n = 0
      · rw [if_pos q2, if_pos (this.mpr q2)]; split <;> split <;> omega
      · rw [if_neg q2, if_neg (fun w => q2 (this.mp w))]; split <;> split <;> omega
theorem sm5_up {t t' : Int → Int} {k z : Int} (h0 : 0 ≤ k) (h1 : k < 5) (hk : t' k = t k + z) (hn : ∀ i, i ≠ k → t' i = t i) : sm5 t' = sm5 t + z := by
  unfold sm5
  rcases (show k = 0 ∨ k = 1 ∨ k = 2 ∨ k = 3 ∨ k = 4 by omega) with rfl | rfl | rfl | rfl | rfl
  · rw [hk, hn 1 (by omega), hn 2 (by omega), hn 3 (by omega), hn 4 (by omega)]; omega
  · rw [hk, hn 0 (by omega), hn 2 (by omega), hn 3 (by omega), hn 4 (by omega)]; omega
  · rw [hk, hn 0 (by omega), hn 1 (by omega), hn 3 (by omega), hn 4 (by omega)]; omega
  · rw [hk, hn 0 (by omega), hn 1 (by omega), hn 2 (by omega), hn 4 (by omega)]; omega
  · rw [hk, hn 0 (by omega), hn 1 (by omega), hn 2 (by omega), hn 3 (by omega)]; omega
theorem gOk_dig {P : aP} {γ : aG} {c w : Int} (hO : pOk P) (hg : gOk P γ) (hi : inP P c) (hz : gCe γ c = 0) (hw0 : 0 ≤ w) (hw1 : w ≤ 999) : gOk P (dig P γ c w) ∧ (0 ≤ pSe P c → 1 ≤ gSt (dig P γ c w) (pSe P c)) ∧ w ≤ gWo (dig P γ c w) ∧ gCe (dig P γ c w) c ≠ 0 := by
  obtain ⟨o1, o2, o3, o4, o5, o6, o7, o8⟩ := hg
  have hcc := pCe_le hO
  have hk := pOk_c hO c hi.1 hi.2
  have hn := pOk_n hO
  have hs := sp_in (gCe γ) hO hi
  have hi' : 0 ≤ c ∧ c < pCe P := hi
  have ce : ∀ i, gCe (dig P γ c w) i = if pHo P < spn P (gCe γ) c then (if c - spL P (gCe γ) c ≤ i ∧ i ≤ c + spR P (gCe γ) c then 3 else gCe γ i) else if i = c then 1 else gCe γ i := fun i => rfl
  have se : ∀ k, gSt (dig P γ c w) k = if k = pSe P c then gSt γ k + 1 else gSt γ k := fun k => rfl
  have hcne : gCe (dig P γ c w) c ≠ 0 := by
    rw [ce c]
    by_cases q : pHo P < spn P (gCe γ) c
    · rw [if_pos q, if_pos (by omega)]; omega
    · rw [if_neg q, if_pos rfl]; omega
  have hnw : nwh (gCe (dig P γ c w)) 48 = nwh (gCe γ) 48 + 1 := by
    rw [nwh_up (st := gCe γ) (c := c) hi'.1 hz hcne (n := 48) (fun i i0 i1 ine => ?_), if_pos (by show c < 48; omega)]
    rw [ce i]
    by_cases q : pHo P < spn P (gCe γ) c
    · rw [if_pos q]
      by_cases q2 : c - spL P (gCe γ) c ≤ i ∧ i ≤ c + spR P (gCe γ) c
      · rw [if_pos q2]
        have : gCe γ i = 1 := by
          rcases Int.lt_or_gt_of_ne ine with h | h
          · exact lrn_1 _ _ c i q2.1 h
          · exact rrn_1 _ _ c i q2.2 h
        omega
      · rw [if_neg q2]
    · rw [if_neg q, if_neg ine]
  have hq := nwh_le (gCe γ) 48
  refine ⟨⟨o1, o2, ?_, ?_, o5, ?_, fun k k0 k1 => ?_, fun i i0 i1 => ?_⟩, fun h => ?_, ?_, hcne⟩
  · show 0 ≤ gWo γ + w; omega
  · show gWo γ + w ≤ _; rw [hnw]; omega
  · show gRe γ + 99 * sm5 (gSt (dig P γ c w)) ≤ _
    rw [hnw]
    by_cases q : pSe P c = -1
    · have : sm5 (gSt (dig P γ c w)) = sm5 (gSt γ) := by unfold sm5; rw [se, se, se, se, se, if_neg (by omega), if_neg (by omega), if_neg (by omega), if_neg (by omega), if_neg (by omega)]
      rw [this]; omega
    · rw [sm5_up (t := gSt γ) (k := pSe P c) (z := 1) (by omega) (by omega) (by rw [se, if_pos rfl]) (fun i hi => by rw [se, if_neg hi])]
      omega
  · rw [se k, hnw]
    have := o7 k k0 k1
    by_cases q : k = pSe P c
    · rw [if_pos q]; refine ⟨by omega, by omega, fun h => by omega⟩
    · rw [if_neg q]; refine ⟨by omega, by omega, this.2.2⟩
  · rw [ce i]
    have := o8 i i0 i1
    have h5 := hs.2.2.2.2.2.2
    by_cases q : pHo P < spn P (gCe γ) c
    · rw [if_pos q]
      by_cases q2 : c - spL P (gCe γ) c ≤ i ∧ i ≤ c + spR P (gCe γ) c
      · rw [if_pos q2]; refine ⟨by omega, by omega, fun h => by omega⟩
      · rw [if_neg q2]; exact this
    · rw [if_neg q]
      by_cases q2 : i = c
      · rw [if_pos q2]; refine ⟨by omega, by omega, fun h => by omega⟩
      · rw [if_neg q2]; exact this
  · rw [se, if_pos rfl]; have := o7 (pSe P c) h (by omega); omega
  · show w ≤ gWo γ + w; omega
theorem gOk_bls {P : aP} {γ : aG} {c w : Int} (hO : pOk P) (hg : gOk P γ) (hi : inP P c) (hz : gCe γ c ≠ 0) (hw0 : 0 ≤ w) (hw : w ≤ gWo γ) (hs1 : 0 ≤ pSe P c → 1 ≤ gSt γ (pSe P c)) : gOk P (bls P γ c w) := by
  obtain ⟨o1, o2, o3, o4, o5, o6, o7, o8⟩ := hg
  have hcc := pCe_le hO
  have hk := pOk_c hO c hi.1 hi.2
  have hn := pOk_n hO
  have ce : ∀ i, gCe (bls P γ c w) i = if i = c ∨ b01 (bsd P c i ∧ opn (gCe γ) i) = 1 then 3 else gCe γ i := fun i => rfl
  have se : ∀ k, gSt (bls P γ c w) k = if k = pSe P c then gSt γ k - 1 else gSt γ k := fun k => rfl
  have hnw : nwh (gCe (bls P γ c w)) 48 = nwh (gCe γ) 48 := by
    refine nwh_same (fun i i0 i1 => ?_)
    rw [ce i]
    by_cases q : i = c ∨ b01 (bsd P c i ∧ opn (gCe γ) i) = 1
    · rw [if_pos q]
      have : gCe γ i ≠ 0 := by
        rcases q with q | q
        · rw [q]; exact hz
        · rcases b01_or (bsd P c i ∧ opn (gCe γ) i) with ⟨e, -⟩ | ⟨-, h⟩
          · omega
          · have := h.2.2; omega
      omega
    · rw [if_neg q]
  refine ⟨o1, o2, ?_, ?_, o5, ?_, fun k k0 k1 => ?_, fun i i0 i1 => ?_⟩
  · show 0 ≤ gWo γ - w; omega
  · show gWo γ - w ≤ _; rw [hnw]; omega
  · show gRe γ + 99 * sm5 (gSt (bls P γ c w)) ≤ _
    rw [hnw]
    by_cases q : pSe P c = -1
    · have : sm5 (gSt (bls P γ c w)) = sm5 (gSt γ) := by unfold sm5; rw [se, se, se, se, se, if_neg (by omega), if_neg (by omega), if_neg (by omega), if_neg (by omega), if_neg (by omega)]
      rw [this]; omega
    · rw [sm5_up (t := gSt γ) (k := pSe P c) (z := -1) (by omega) (by omega) (by rw [se, if_pos rfl]; omega) (fun i hi => by rw [se, if_neg hi])]
      omega
  · rw [se k, hnw]
    have := o7 k k0 k1
    by_cases q : k = pSe P c
    · have := hs1 (by omega)
      rw [← q] at this
      rw [if_pos q]; refine ⟨by omega, by omega, fun h => by omega⟩
    · rw [if_neg q]; exact this
  · rw [ce i]
    have := o8 i i0 i1
    by_cases q : i = c ∨ b01 (bsd P c i ∧ opn (gCe γ) i) = 1
    · rw [if_pos q]
      refine ⟨by omega, by omega, fun h => ?_⟩
      exfalso
      rcases q with q | q
      · have := hi.2; omega
      · rcases b01_or (bsd P c i ∧ opn (gCe γ) i) with ⟨e, -⟩ | ⟨-, hb⟩
        · omega
        · have := (bsd_in hO hi hb.1).2; omega
    · rw [if_neg q]; exact this
def prp (g : aG) (c : Int) : aG := ((gPr g - 1, gWo g, gRe g), gSt g, fun i => if i = c then 2 else gCe g i)
theorem gOk_prp {P : aP} {γ : aG} {c : Int} (hO : pOk P) (hg : gOk P γ) (hi : inP P c) (hz : gCe γ c = 1) (hp : 0 < gPr γ) : gOk P (prp γ c) := by
  obtain ⟨o1, o2, o3, o4, o5, o6, o7, o8⟩ := hg
  have hcc := pCe_le hO
  have ce : ∀ i, gCe (prp γ c) i = if i = c then 2 else gCe γ i := fun i => rfl
  have hnw : nwh (gCe (prp γ c)) 48 = nwh (gCe γ) 48 := nwh_same (fun i i0 i1 => by rw [ce i]; split <;> simp_all)
  refine ⟨?_, ?_, o3, ?_, o5, ?_, fun k k0 k1 => ?_, fun i i0 i1 => ?_⟩
  · show 0 ≤ gPr γ - 1; omega
  · show gPr γ - 1 ≤ 20; omega
  · rw [hnw]; exact o4
  · rw [hnw]; exact o6
  · rw [hnw]; exact o7 k k0 k1
  · rw [ce i]
    have := o8 i i0 i1
    by_cases q : i = c
    · rw [if_pos q]; refine ⟨by omega, by omega, fun h => ?_⟩; have := hi.2; omega
    · rw [if_neg q]; exact this
def brn (P : aP) (g : aG) (k : Int) : aG := ((gPr g, gWo g, gRe g + pRe P k), (fun i => if i = k then gSt g i - 1 else gSt g i), gCe g)
theorem gOk_brn {P : aP} {γ : aG} {k : Int} (hO : pOk P) (hg : gOk P γ) (h0 : 0 ≤ k) (h1 : k < pK P) (hp : 0 < gSt γ k) : gOk P (brn P γ k) := by
  obtain ⟨o1, o2, o3, o4, o5, o6, o7, o8⟩ := hg
  have hn := pOk_n hO
  have hk := pOk_k hO k h0 h1
  have se : ∀ i, gSt (brn P γ k) i = if i = k then gSt γ i - 1 else gSt γ i := fun i => rfl
  refine ⟨o1, o2, o3, o4, ?_, ?_, fun i i0 i1 => ?_, o8⟩
  · show 0 ≤ gRe γ + pRe P k; omega
  · show gRe γ + pRe P k + 99 * sm5 (gSt (brn P γ k)) ≤ 999999 + 99 * (100 + nwh (gCe γ) 48)
    rw [sm5_up (t := gSt γ) (k := k) (z := -1) h0 (by omega) (by rw [se, if_pos rfl]; omega) (fun i hi => by rw [se, if_neg hi])]
    omega
  · have := o7 i i0 i1
    show 0 ≤ gSt (brn P γ k) i ∧ gSt (brn P γ k) i ≤ 20 + nwh (gCe γ) 48 ∧ (pK P ≤ i → gSt (brn P γ k) i = 0)
    rw [se i]
    by_cases q : i = k
    · rw [if_pos q, q]; rw [q] at this; refine ⟨by omega, by omega, fun h => by omega⟩
    · rw [if_neg q]; exact this
theorem ph_in {γ : aG} {h : List aG} {P : aP} (hγ : gOk P γ) (hh : ∀ g ∈ h, gOk P g) : (ph γ h).length ≤ 20 ∧ ∀ g ∈ ph γ h, gOk P g := by
  unfold ph
  refine ⟨by rw [List.length_take]; omega, fun g hg => ?_⟩
  have := List.mem_of_mem_take hg
  rcases List.mem_cons.mp this with q | q
  · rw [q]; exact hγ
  · exact hh g q
theorem AV_act {A : aA} {γ : aG} (hV : AV A) (hg : gOk (aPl A) γ) : AV (setG (setH A (ph (aGr A) (aHi A))) γ) := ⟨hV.1, hV.2.1, hg, ph_in hV.2.2.1 hV.2.2.2.1.2, hV.2.2.2.2⟩
theorem RC_act {A : aA} {X X' : jX} {γ : aG} {h : List aG} (hf : ∀ a, (a = 0 ∨ (1 ≤ a ∧ a ≤ 12) ∨ (33 ≤ a ∧ a ≤ 36) ∨ a = 137 ∨ a = 138 ∨ a = 147 ∨ a = 148) → X' a = X a) (hγ : cGr X' 25 γ) (hh : cHi X' h) (hc : X' 104 9 = -1 ∧ X' 104 10 = -1) (hR : RC A X) : RC (setG (setH A h) γ) X' := by
  obtain ⟨r1, r2, r3, r4, r5, r6, r7, r8, r9, r10, r11⟩ := hR
  have e0 := hf 0 (by omega)
  exact ⟨cTa_fr (hf _ (by omega)) (hf _ (by omega)) r1, by rw [e0]; exact r2, cPlan_fr (fun a h1 h2 => hf a (by omega)) r3, hγ, hh, cJu_fr (by rw [e0]) (hf _ (by omega)) r6, cBo_fr (hf _ (by omega)) (hf _ (by omega)) r7, by rw [e0]; exact r8, cPi_fr (hf _ (by omega)) (hf _ (by omega)) r9, cRf_fr (hf _ (by omega)) r10, ⟨Or.inl hc.1, Or.inl hc.2⟩⟩
theorem RM_act {A : aA} {X X' : jX} {γ : aG} {h : List aG} (hf : ∀ a, sM a → a ≠ 190 → a ≠ 201 → X' a = X a) (hn : ∀ j, sN j → j ≠ 78 → j ≠ 79 → X' 149 j = X 149 j) (hγ : mGr X' 190 0 γ) (hh : mHi X' h) (hR : RM A X) : RM (setG (setH A h) γ) X' := by
  obtain ⟨r1, r2, r3, r4, r5, r6, r7, r8, r9, r10, r11⟩ := hR
  unfold sM at hf
  unfold sN at hn
  exact ⟨mTa_fr (hn _ (by omega) (by omega) (by omega)) (hf _ (by omega) (by omega) (by omega)) r1, by rw [hn 7 (by omega) (by omega) (by omega), hn 8 (by omega) (by omega) (by omega)]; exact r2, mPlan_fr (fun a h1 h2 => hf a (by omega) (by omega) (by omega)) (hn _ (by omega) (by omega) (by omega)) r3, hγ, hh, mJu_fr (fun j h1 h2 => hn j (by omega) (by omega) (by omega)) r6, mBo_fr (hn _ (by omega) (by omega) (by omega)) (hf _ (by omega) (by omega) (by omega)) r7, by rw [hn 80 (by omega) (by omega) (by omega)]; exact r8, mPi_fr (hn _ (by omega) (by omega) (by omega)) (hf _ (by omega) (by omega) (by omega)) r9, mRf_fr (hf _ (by omega) (by omega) (by omega)) r10, mWd_fr (fun a h1 => hf a (by omega) (by omega) (by omega)) r11⟩
