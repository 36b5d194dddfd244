/-! ALL OF IT: what an object is, told by both stores -/
/-- over cells, one behind the other -/
def ovC {β : Type} (f : Int → β → β) : Nat → Int → β → β
  | 0, _, b => b
  | k + 1, c, b => ovC f k (c + 1) (f c b)
/-- BEST: (how many, worth, which) -/
def keepS (p : List Int) (w : Int) (a : Int × Int × List Int) : Int × Int × List Int := if a.1 < p.length ∨ (a.1 = p.length ∧ a.2.1 < w) then (p.length, w, p) else a
noncomputable def tryS (P : aP) : Nat → aG → List Int → Int → Int × Int × List Int → Int × Int × List Int
  | 0, _, p, w, a => keepS p w a
  | n + 1, g, p, w, a => ovC (fun c a => if why P (gCe g) c = 0 ∧ ¬ pHo P < spn P (gCe g) c then tryS P n (cut1 P g c) (p ++ [c]) (w + wth P (gCe g) c) a else a) (pCe P).toNat 0 (keepS p w a)
noncomputable def bestS (P : aP) (n : Nat) (g : aG) : Int × Int × List Int := tryS P n g [] 0 (0, 0, [])
/-- RIVALS: (worth for him whose turn it is, the line) -/
noncomputable def duelS (P : aP) : Nat → aG → Int × List Int
  | 0, _ => (0, [])
  | n + 1, g => (ovC (fun c (a : Bool × Int × List Int) => if why P (gCe g) c = 0 then (if a.1 = false ∨ a.2.1 < wth P (gCe g) c - (duelS P n (cut1 P g c)).1 then (true, wth P (gCe g) c - (duelS P n (cut1 P g c)).1, c :: (duelS P n (cut1 P g c)).2) else a) else a) (pCe P).toNat 0 (false, 0, [])).2
abbrev aA : Type := ((Int × (Int → Int)) × (Int × Int)) × (aP × aG × List aG) × Option (Int × Int × Int) × ((Int × (Int → Int)) × Int) × ((Int × (Int → Int)) × (Int → Int))
def aTn (A : aA) : Int := A.1.1.1
def aTp (A : aA) : Int → Int := A.1.1.2
def aFs (A : aA) : Int := A.1.2.1
def aFp (A : aA) : Int := A.1.2.2
def aPl (A : aA) : aP := A.2.1.1
def aGr (A : aA) : aG := A.2.1.2.1
def aHi (A : aA) : List aG := A.2.1.2.2
def aJu (A : aA) : Option (Int × Int × Int) := A.2.2.1
def aBn (A : aA) : Int := A.2.2.2.1.1.1
def aBr (A : aA) : Int → Int := A.2.2.2.1.1.2
def aSd (A : aA) : Int := A.2.2.2.1.2
def aPn (A : aA) : Int := A.2.2.2.2.1.1
def aPp (A : aA) : Int → Int := A.2.2.2.2.1.2
def aRf (A : aA) : Int → Int := A.2.2.2.2.2
def setT (A : aA) (n : Int) (f : Int → Int) : aA := (((n, f), A.1.2), A.2)
def setF (A : aA) (s p : Int) : aA := ((A.1.1, (s, p)), A.2)
def setP (A : aA) (P : aP) : aA := (A.1, (P, A.2.1.2), A.2.2)
def setG (A : aA) (g : aG) : aA := (A.1, (A.2.1.1, g, A.2.1.2.2), A.2.2)
def setH (A : aA) (h : List aG) : aA := (A.1, (A.2.1.1, A.2.1.2.1, h), A.2.2)
def setJ (A : aA) (j : Option (Int × Int × Int)) : aA := (A.1, A.2.1, j, A.2.2.2)
def setB (A : aA) (n : Int) (f : Int → Int) : aA := (A.1, A.2.1, A.2.2.1, ((n, f), A.2.2.2.1.2), A.2.2.2.2)
def setS (A : aA) (s : Int) : aA := (A.1, A.2.1, A.2.2.1, (A.2.2.2.1.1, s), A.2.2.2.2)
def setI (A : aA) (n : Int) (f : Int → Int) : aA := (A.1, A.2.1, A.2.2.1, A.2.2.2.1, ((n, f), A.2.2.2.2.2))
def refu (A : aA) (w : Int) : aA := (A.1, A.2.1, A.2.2.1, A.2.2.2.1, (A.2.2.2.2.1, fun k => if k = w then jadd (A.2.2.2.2.2 k) 1 else A.2.2.2.2.2 k))
/-! the class -/
def cRo (X : jX) (c r : Int) (n : Int) (f : Int → Int) : Prop := X c r = n
def cTa (X : jX) (n : Int) (f : Int → Int) : Prop := X 33 1 = n ∧ ∀ i, 0 ≤ i → i < n → X 34 i = f i
def cPi (X : jX) (n : Int) (f : Int → Int) : Prop := X 35 1 = n ∧ ∀ i, 0 ≤ i → i < n → X 36 i = f i
def cRf (X : jX) (f : Int → Int) : Prop := ∀ k, 0 ≤ k → k < 6 → X 147 k = f k
def cJu (X : jX) (o : Option (Int × Int × Int)) : Prop := match o with
  | none => X 0 15 = 0
  | some q => X 0 15 = 1 ∧ X 148 0 = q.1 ∧ X 148 1 = q.2.1 ∧ X 148 2 = q.2.2
def cBo (X : jX) (n : Int) (f : Int → Int) : Prop := X 137 3 = n ∧ ∀ i, 0 ≤ i → i < 3 * n → X 138 i = f i
def g00 : aG := ((0, 0, 0), (fun _ => 0), fun _ => 0)
def cHi (X : jX) (h : List aG) : Prop := X 42 2 = h.length ∧ 0 ≤ X 42 1 ∧ X 42 1 < 20 ∧ ∀ j : Nat, j < h.length → cGr X (44 + 3 * ((X 42 1 + (h.length - 1 - j)) % 20)) (h.getD j g00)
def cCa (X : jX) (P : aP) (g : aG) : Prop :=
  (X 104 9 = -1 ∨ ∃ n : Nat, 1 ≤ n ∧ n ≤ 3 ∧ X 104 9 = n ∧ X 104 6 = (bestS P n g).1 ∧ X 104 7 = (bestS P n g).2.1 ∧ ∀ i : Nat, i < (bestS P n g).2.2.length → X 107 i = (bestS P n g).2.2.getD i 0) ∧
  (X 104 10 = -1 ∨ ∃ n : Nat, n ≤ 3 ∧ X 104 10 = n ∧ X 104 8 = (duelS P n g).1 ∧ ∀ k : Nat, k < n → X 109 k = (duelS P n g).2.getD k 100)
def RC (A : aA) (X : jX) : Prop := cTa X (aTn A) (aTp A) ∧ (X 0 16 = aFs A ∧ X 0 17 = aFp A) ∧ cPlan X (aPl A) ∧ cGr X 25 (aGr A) ∧ cHi X (aHi A) ∧ cJu X (aJu A) ∧ cBo X (aBn A) (aBr A) ∧ X 0 18 = aSd A ∧ cPi X (aPn A) (aPp A) ∧ cRf X (aRf A) ∧ cCa X (aPl A) (aGr A)
/-! the reference -/
def wRo (X : jX) (r : Int) (l : List Int) : Prop := ∀ i : Nat, i < l.length → X r i = l.getD i 0
def mWds : List (Int × List Int) := [(152, [112, 105, 116]), (153, [97, 116]), (154, [107, 105, 110, 100]), (155, [114, 101, 115, 116]), (156, [103, 97, 115]), (157, [114, 111, 119]), (158, [104, 111, 117, 115, 101]), (159, [109, 105, 120]), (160, [109, 97, 121]), (161, [119, 111, 114, 116, 104]), (162, [116, 105, 108, 116]), (163, [104, 111, 108, 100, 115]), (164, [112, 114, 111, 112, 115]), (165, [108, 101, 97, 110, 115]), (166, [100, 101, 112, 116, 104]), (167, [97, 99, 114, 111, 115, 115]), (168, [110, 101, 97, 114]), (169, [115, 112, 97, 110]), (170, [111, 112, 101, 110]), (171, [102, 97, 108, 108, 101, 110]), (172, [119, 104, 111, 108, 101]), (173, [110, 117, 109, 98, 101, 114]), (174, [116, 117, 98, 115]), (175, [111, 114]), (176, [97, 110, 100]), (177, [110, 111, 116]), (178, [97, 108, 108]), (179, [109, 105, 110]), (180, [109, 97, 120]),
  (204, [102, 105, 114, 115, 116]), (205, [108, 97, 115, 116]), (206, [111, 102, 116, 101, 110]), (207, [116, 111, 116, 97, 108]), (208, [109, 111, 115, 116]), (209, [108, 101, 97, 115, 116]), (210, [110, 111, 116]), (211, [97, 110, 100]), (212, [111, 114]), (213, [97, 108, 108]), (214, [109, 105, 110]), (215, [109, 97, 120]), (216, [100, 101, 112, 116, 104]), (217, [97, 99, 114, 111, 115, 115]), (218, [114, 101, 115, 116]), (219, [103, 97, 115]), (220, [110, 101, 97, 114]), (221, [115, 112, 97, 110]), (222, [111, 112, 101, 110]), (223, [102, 97, 108, 108, 101, 110]), (224, [110, 117, 109, 98, 101, 114]), (225, [119, 104, 111, 108, 101]), (226, [116, 117, 98, 115])]
def mWd (X : jX) : Prop := ∀ q ∈ mWds, wRo X q.1 q.2
def mTa (X : jX) (n : Int) (f : Int → Int) : Prop := X 149 1 = n ∧ ∀ i, 0 ≤ i → i < n → X 150 i = f i
def mPi (X : jX) (n : Int) (f : Int → Int) : Prop := X 149 119 = n ∧ ∀ i, 0 ≤ i → i < n → X 230 i = f i
def mRf (X : jX) (f : Int → Int) : Prop := ∀ k, 0 ≤ k → k < 6 → X 151 k = f k
def mJu (X : jX) (o : Option (Int × Int × Int)) : Prop := match o with
  | none => X 149 65 = 0
  | some q => X 149 65 = 1 ∧ X 149 66 = q.1 ∧ X 149 67 = q.2.1 ∧ X 149 68 = q.2.2
def mBo (X : jX) (n : Int) (f : Int → Int) : Prop := X 149 81 = n ∧ ∀ i, 0 ≤ i → i < 3 * n → X 202 i = f i
def mHi (X : jX) (h : List aG) : Prop := X 149 78 = h.length ∧ 0 ≤ X 149 79 ∧ X 149 79 < 20 ∧ ∀ j : Nat, j < h.length → mGr X 201 (56 * ((X 149 79 - j) % 20)) (h.getD j g00)
def RM (A : aA) (X : jX) : Prop := mTa X (aTn A) (aTp A) ∧ (X 149 7 = aFs A ∧ X 149 8 = aFp A) ∧ mPlan X (aPl A) ∧ mGr X 190 0 (aGr A) ∧ mHi X (aHi A) ∧ mJu X (aJu A) ∧ mBo X (aBn A) (aBr A) ∧ X 149 80 = aSd A ∧ mPi X (aPn A) (aPp A) ∧ mRf X (aRf A) ∧ mWd X
/-- what holds of all -/
def AV (A : aA) : Prop := (0 ≤ aTn A ∧ aTn A ≤ 1600 ∧ ∀ i, 0 ≤ i → i < aTn A → 0 ≤ aTp A i ∧ aTp A i ≤ 255) ∧ pOk (aPl A) ∧ gOk (aPl A) (aGr A) ∧ ((aHi A).length ≤ 20 ∧ ∀ h ∈ aHi A, gOk (aPl A) h) ∧ (0 ≤ aBn A ∧ aBn A ≤ 20 ∧ ∀ i, 0 ≤ i → i < 3 * aBn A → 0 ≤ aBr A i ∧ aBr A i ≤ 255) ∧ (0 ≤ aSd A ∧ aSd A ≤ 2147483647) ∧ (0 ≤ aPn A ∧ aPn A ≤ 61)
/-! what must stay -/
def sR (a : Int) : Prop := a = 0 ∨ (1 ≤ a ∧ a ≤ 12) ∨ (25 ≤ a ∧ a ≤ 27) ∨ (33 ≤ a ∧ a ≤ 36) ∨ (42 ≤ a ∧ a ≤ 104) ∨ (107 ≤ a ∧ a ≤ 112) ∨ a = 137 ∨ a = 138 ∨ a = 147 ∨ a = 148
theorem cTa_fr {X X' : jX} {n : Int} {f : Int → Int} (h1 : X' 33 = X 33) (h2 : X' 34 = X 34) (h : cTa X n f) : cTa X' n f := by unfold cTa at *; rw [h1, h2]; exact h
theorem cPi_fr {X X' : jX} {n : Int} {f : Int → Int} (h1 : X' 35 = X 35) (h2 : X' 36 = X 36) (h : cPi X n f) : cPi X' n f := by unfold cPi at *; rw [h1, h2]; exact h
theorem cRf_fr {X X' : jX} {f : Int → Int} (h1 : X' 147 = X 147) (h : cRf X f) : cRf X' f := by unfold cRf at *; rw [h1]; exact h
theorem cJu_fr {X X' : jX} {o : Option (Int × Int × Int)} (h1 : X' 0 15 = X 0 15) (h2 : X' 148 = X 148) (h : cJu X o) : cJu X' o := by unfold cJu at *; rw [h1, h2]; exact h
theorem cBo_fr {X X' : jX} {n : Int} {f : Int → Int} (h1 : X' 137 = X 137) (h2 : X' 138 = X 138) (h : cBo X n f) : cBo X' n f := by unfold cBo at *; rw [h1, h2]; exact h
theorem cHi_fr {X X' : jX} {l : List aG} (h1 : ∀ a, 42 ≤ a → a ≤ 103 → X' a = X a) (h : cHi X l) : cHi X' l := by
  obtain ⟨a1, a2, a3, a4⟩ := h
  have e := h1 42 (by omega) (by omega)
  refine ⟨by rw [e]; exact a1, by rw [e]; exact a2, by rw [e]; exact a3, fun j hj => ?_⟩
  rw [e]
  have := Int.emod_nonneg (X 42 1 + (l.length - 1 - j)) (b := 20) (by omega)
  have := Int.emod_lt_of_pos (X 42 1 + (l.length - 1 - j)) (b := 20) (by omega)
  exact cGr_fr (h1 _ (by omega) (by omega)) (h1 _ (by omega) (by omega)) (h1 _ (by omega) (by omega)) (a4 j hj)
theorem cCa_fr {X X' : jX} {P : aP} {g : aG} (h1 : X' 104 = X 104) (h2 : X' 107 = X 107) (h3 : X' 109 = X 109) (h : cCa X P g) : cCa X' P g := by unfold cCa at *; rw [h1, h2, h3]; exact h
theorem RC_same {A : aA} {X X' : jX} (h : ∀ a, sR a → X' a = X a) (hR : RC A X) : RC A X' := by
  obtain ⟨r1, r2, r3, r4, r5, r6, r7, r8, r9, r10, r11⟩ := hR
  unfold sR at h
  have e0 := h 0 (by omega)
  exact ⟨cTa_fr (h _ (by omega)) (h _ (by omega)) r1, by rw [e0]; exact r2, cPlan_fr (fun a h1 h2 => h a (by omega)) r3, cGr_fr (h _ (by omega)) (h _ (by omega)) (h _ (by omega)) r4, cHi_fr (fun a h1 h2 => h a (by omega)) r5, cJu_fr (by rw [e0]) (h _ (by omega)) r6, cBo_fr (h _ (by omega)) (h _ (by omega)) r7, by rw [e0]; exact r8, cPi_fr (h _ (by omega)) (h _ (by omega)) r9, cRf_fr (h _ (by omega)) r10, cCa_fr (h _ (by omega)) (h _ (by omega)) (h _ (by omega)) r11⟩
def sM (a : Int) : Prop := (150 ≤ a ∧ a ≤ 190) ∨ a = 201 ∨ a = 202 ∨ (204 ≤ a ∧ a ≤ 226) ∨ a = 230
def sN (j : Int) : Prop := j = 1 ∨ j = 7 ∨ j = 8 ∨ j = 51 ∨ (65 ≤ j ∧ j ≤ 68) ∨ (78 ≤ j ∧ j ≤ 81) ∨ j = 119
theorem mTa_fr {X X' : jX} {n : Int} {f : Int → Int} (h1 : X' 149 1 = X 149 1) (h2 : X' 150 = X 150) (h : mTa X n f) : mTa X' n f := by unfold mTa at *; rw [h1, h2]; exact h
theorem mPi_fr {X X' : jX} {n : Int} {f : Int → Int} (h1 : X' 149 119 = X 149 119) (h2 : X' 230 = X 230) (h : mPi X n f) : mPi X' n f := by unfold mPi at *; rw [h1, h2]; exact h
theorem mRf_fr {X X' : jX} {f : Int → Int} (h1 : X' 151 = X 151) (h : mRf X f) : mRf X' f := by unfold mRf at *; rw [h1]; exact h
theorem mJu_fr {X X' : jX} {o : Option (Int × Int × Int)} (h1 : ∀ j, 65 ≤ j → j ≤ 68 → X' 149 j = X 149 j) (h : mJu X o) : mJu X' o := by unfold mJu at *; rw [h1 65 (by omega) (by omega), h1 66 (by omega) (by omega), h1 67 (by omega) (by omega), h1 68 (by omega) (by omega)]; exact h
theorem mBo_fr {X X' : jX} {n : Int} {f : Int → Int} (h1 : X' 149 81 = X 149 81) (h2 : X' 202 = X 202) (h : mBo X n f) : mBo X' n f := by unfold mBo at *; rw [h1, h2]; exact h
theorem mHi_fr {X X' : jX} {l : List aG} (h1 : X' 149 78 = X 149 78) (h2 : X' 149 79 = X 149 79) (h3 : X' 201 = X 201) (h : mHi X l) : mHi X' l := by unfold mHi mGr at *; rw [h1, h2, h3]; exact h
theorem mWd_b : ∀ q ∈ mWds, (152 ≤ q.1 ∧ q.1 ≤ 180) ∨ (204 ≤ q.1 ∧ q.1 ≤ 226) := by decide
theorem mWd_fr {X X' : jX} (h1 : ∀ a, (152 ≤ a ∧ a ≤ 180) ∨ (204 ≤ a ∧ a ≤ 226) → X' a = X a) (h : mWd X) : mWd X' := fun q hq i hi => by rw [h1 q.1 (mWd_b q hq)]; exact h q hq i hi
theorem RM_same {A : aA} {X X' : jX} (h : ∀ a, sM a → X' a = X a) (hn : ∀ j, sN j → X' 149 j = X 149 j) (hR : RM A X) : RM A X' := by
  obtain ⟨r1, r2, r3, r4, r5, r6, r7, r8, r9, r10, r11⟩ := hR
  unfold sM at h
  unfold sN at hn
  exact ⟨mTa_fr (hn _ (by omega)) (h _ (by omega)) r1, by rw [hn 7 (by omega), hn 8 (by omega)]; exact r2, mPlan_fr (fun a h1 h2 => h a (by omega)) (hn _ (by omega)) r3, mGr_fr (h _ (by omega)) r4, mHi_fr (hn _ (by omega)) (hn _ (by omega)) (h _ (by omega)) r5, mJu_fr (fun j h1 h2 => hn j (by omega)) r6, mBo_fr (hn _ (by omega)) (h _ (by omega)) r7, by rw [hn 80 (by omega)]; exact r8, mPi_fr (hn _ (by omega)) (h _ (by omega)) r9, mRf_fr (h _ (by omega)) r10, mWd_fr (fun a h1 => h a (by omega)) r11⟩
/-- a call of the class's -/
def okC (m : Nat) (args : List jV) (ans : aA → Int) (nxt : aA → aA) : Prop := ∀ (d : Nat) (G : jG) (X : jX) (A : aA), GG G → RC A X → AV A → ∃ G' X', jD (d + 60) m ((21, 0) :: args) (G, X) = some (ans A, (G', X')) ∧ GG G' ∧ RC (nxt A) X' ∧ ∀ a, 149 ≤ a → X' a = X a
/-- of the reference's -/
def okM (m : Nat) (args : List jV) (ans : aA → Int) (nxt : aA → aA) : Prop := ∀ (d : Nat) (G : jG) (X : jX) (A : aA), GG G → RM A X → AV A → ∃ X', jD (d + 60) m ((22, 149) :: args) (G, X) = some (ans A, (G, X')) ∧ RM (nxt A) X' ∧ ∀ a, a < 149 → X' a = X a
/-- both, and what holds of all goes on -/
def okB (mc mm : Nat) (args : List jV) : Prop := ∃ (ans : aA → Int) (nxt : aA → aA), okC mc args ans nxt ∧ okM mm args ans nxt ∧ ∀ A, AV A → AV (nxt A)
