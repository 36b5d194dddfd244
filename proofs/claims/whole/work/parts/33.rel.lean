/-! HOW THE TWO STORES TELL IT -/
def cFo (X : jX) (w : Nat) (o : Option (List Int)) : Prop := match o with
  | none => X 3 w = -1
  | some l => 0 ≤ X 3 w ∧ X 3 w + l.length < 1600 ∧ (∀ i : Nat, i < l.length → X 12 (X 3 w + i) = toC (l.getD i 0)) ∧ X 12 (X 3 w + l.length) = 10000
def mFo (X : jX) (w : Nat) (o : Option (List Int)) : Prop := match o with
  | none => X 187 (3 + w) = -1
  | some l => 0 ≤ X 187 (3 + w) ∧ X 188 (3 + w) = X 187 (3 + w) + l.length ∧ X 188 (3 + w) ≤ 1600 ∧ (∀ i : Nat, i < l.length → X 189 (1600 + (X 187 (3 + w) + i)) = toM (l.getD i 0))
/-- the class's plan: cells 1 .. 12 -/
def cPlan (X : jX) (P : aP) : Prop :=
  (X 1 0 = pN P ∧ X 1 1 = pCe P ∧ X 1 2 = pC P ∧ X 1 3 = pS P ∧ X 1 4 = pR P ∧ X 1 5 = pK P ∧ X 1 6 = pH P ∧ X 1 7 = pM P) ∧
  (X 2 0 = pHo P ∧ X 2 1 = pPr P ∧ X 2 2 = pLe P) ∧ (cFo X 0 (pFm P 0) ∧ cFo X 1 (pFm P 1) ∧ cFo X 2 (pFm P 2)) ∧
  (∀ k, 0 ≤ k → k < pK P → X 4 k = pRe P k ∧ X 5 k = pGa P k ∧ X 6 k = pFo P k ∧ ∀ j, 0 ≤ j → j < 6 → X 7 (k * 6 + j) = pKn P k j) ∧
  (∀ h, 0 ≤ h → h < pH P → X 9 h = pHc P h ∧ ∀ j, 0 ≤ j → j < 6 → X 8 (h * 6 + j) = pHn P h j) ∧
  (∀ c, 0 ≤ c → c < pCe P → X 10 c = pSe P c + 1 ∧ X 11 (4 * c) = nUp P c ∧ X 11 (4 * c + 1) = nLf P c ∧ X 11 (4 * c + 2) = nRt P c ∧ X 11 (4 * c + 3) = nDn P c)
/-- a name as a number -/
def nam (f : Int → Int) : Nat → Int
  | 0 => 0
  | n + 1 => if f n = 0 then nam f n else 27 * nam f n + f n
/-- the reference's: the upper halves of cells 181 .. 189 -/
def mPlan (X : jX) (P : aP) : Prop :=
  X 149 51 = (if pN P = 0 then 0 else 1) ∧ (X 181 6 = pC P ∧ X 181 7 = pR P ∧ X 181 8 = pK P ∧ X 181 9 = pH P ∧ X 181 10 = pM P ∧ X 181 11 = pS P) ∧
  (X 186 3 = pHo P ∧ X 186 4 = pPr P ∧ X 186 5 = pLe P) ∧ (mFo X 0 (pFm P 0) ∧ mFo X 1 (pFm P 1) ∧ mFo X 2 (pFm P 2)) ∧
  (∀ k, 0 ≤ k → k < pK P → X 183 (15 + 3 * k) = pRe P k ∧ X 183 (16 + 3 * k) = pGa P k ∧ X 183 (17 + 3 * k) = pFo P k ∧ X 182 (12 + k) = nam (pKn P k) 6) ∧
  (∀ h, 0 ≤ h → h < pH P → X 185 (6 + h) = pHc P h ∧ X 182 (18 + h) = nam (pHn P h) 6) ∧
  (∀ r c, 0 ≤ r → r < pR P → 0 ≤ c → c < pC P → X 184 (48 + 8 * r + c) = pSe P (r * pC P + c))
/-- a ground of the class's: the cells g, g + 1, g + 2 -/
def cGr (X : jX) (g : Int) (γ : aG) : Prop := (X g 2 = gPr γ ∧ X g 3 = gWo γ ∧ X g 4 = gRe γ) ∧ (∀ c, 0 ≤ c → c < 48 → X (g + 1) c = gCe γ c) ∧ (∀ k, 0 ≤ k → k < 5 → X (g + 2) k = gSt γ k)
/-- of the reference's: 56 numbers of the cell a from o on -/
def mGr (X : jX) (a o : Int) (γ : aG) : Prop := (X a o = gPr γ ∧ X a (o + 1) = gWo γ ∧ X a (o + 2) = gRe γ) ∧ (∀ c, 0 ≤ c → c < 48 → X a (o + 8 + c) = gCe γ c) ∧ (∀ k, 0 ≤ k → k < 5 → X a (o + 3 + k) = gSt γ k)
def isGr (G : jG) (g : Int) : Prop := gR G g 0 = g + 1 ∧ gR G g 1 = g + 2 ∧ gL G (g + 1) = 48 ∧ gL G (g + 2) = 5 ∧ 25 ≤ g
/-- a mine: its cell m, its ground g, its rows from r on -/
def isMi (G : jG) (m g r : Int) : Prop := isGr G g ∧ (gR G m 0 = 1 ∧ gR G m 1 = g ∧ gR G m 2 = r ∧ gR G m 3 = r + 1 ∧ gR G m 4 = r + 2 ∧ gR G m 5 = r + 3) ∧ (gL G r = 48 ∧ gL G (r + 1) = 48 ∧ gL G (r + 2) = 64 ∧ gL G (r + 3) = 10) ∧ 25 ≤ m ∧ (g + 4 ≤ r ∧ m = r - 1 ∨ r = g + 3 ∧ m = g - 1)
theorem mi_0 {G : jG} (h : GG G) : isMi G 37 25 38 := ⟨⟨gr_25_0 h, gr_25_1 h, gl_26 h, gl_27 h, by omega⟩, ⟨gr_37_0 h, gr_37_1 h, gr_37_2 h, gr_37_3 h, gr_37_4 h, gr_37_5 h⟩, ⟨gl_38 h, gl_39 h, gl_40 h, gl_41 h⟩, by omega, by omega⟩
theorem mi_1 {G : jG} (h : GG G) : isMi G 113 114 117 := ⟨⟨gr_114_0 h, gr_114_1 h, gl_115 h, gl_116 h, by omega⟩, ⟨gr_113_0 h, gr_113_1 h, gr_113_2 h, gr_113_3 h, gr_113_4 h, gr_113_5 h⟩, ⟨gl_117 h, gl_118 h, gl_119 h, gl_120 h⟩, by omega, by omega⟩
theorem mi_2 {G : jG} (h : GG G) : isMi G 121 122 125 := ⟨⟨gr_122_0 h, gr_122_1 h, gl_123 h, gl_124 h, by omega⟩, ⟨gr_121_0 h, gr_121_1 h, gr_121_2 h, gr_121_3 h, gr_121_4 h, gr_121_5 h⟩, ⟨gl_125 h, gl_126 h, gl_127 h, gl_128 h⟩, by omega, by omega⟩
theorem mi_3 {G : jG} (h : GG G) : isMi G 129 130 133 := ⟨⟨gr_130_0 h, gr_130_1 h, gl_131 h, gl_132 h, by omega⟩, ⟨gr_129_0 h, gr_129_1 h, gr_129_2 h, gr_129_3 h, gr_129_4 h, gr_129_5 h⟩, ⟨gl_133 h, gl_134 h, gl_135 h, gl_136 h⟩, by omega, by omega⟩
/-- nothing but these rows has changed -/
def frm (X X' : jX) (s : Int → Prop) : Prop := ∀ a, ¬ s a → X' a = X a
theorem cPlan_fr {X X' : jX} {P : aP} (h : ∀ a, 1 ≤ a → a ≤ 12 → X' a = X a) (hP : cPlan X P) : cPlan X' P := by
  unfold cPlan cFo at *
  rw [h 1 (by omega) (by omega), h 2 (by omega) (by omega), h 3 (by omega) (by omega), h 4 (by omega) (by omega), h 5 (by omega) (by omega), h 6 (by omega) (by omega), h 7 (by omega) (by omega), h 8 (by omega) (by omega), h 9 (by omega) (by omega), h 10 (by omega) (by omega), h 11 (by omega) (by omega), h 12 (by omega) (by omega)]
  exact hP
theorem mPlan_fr {X X' : jX} {P : aP} (h : ∀ a, 181 ≤ a → a ≤ 189 → X' a = X a) (h0 : X' 149 51 = X 149 51) (hP : mPlan X P) : mPlan X' P := by
  unfold mPlan mFo at *
  rw [h0, h 181 (by omega) (by omega), h 182 (by omega) (by omega), h 183 (by omega) (by omega), h 184 (by omega) (by omega), h 185 (by omega) (by omega), h 186 (by omega) (by omega), h 187 (by omega) (by omega), h 188 (by omega) (by omega), h 189 (by omega) (by omega)]
  exact hP
theorem cGr_fr {X X' : jX} {g : Int} {γ : aG} (h0 : X' g = X g) (h1 : X' (g + 1) = X (g + 1)) (h2 : X' (g + 2) = X (g + 2)) (hg : cGr X g γ) : cGr X' g γ := by
  unfold cGr at *
  rw [h0, h1, h2]
  exact hg
theorem mGr_fr {X X' : jX} {a o : Int} {γ : aG} (h0 : X' a = X a) (hg : mGr X a o γ) : mGr X' a o γ := by
  unfold mGr at *
  rw [h0]
  exact hg
theorem cPlan_at {X : jX} {P : aP} (h : cPlan X P) : X 1 0 = pN P ∧ X 1 1 = pCe P ∧ X 1 2 = pC P ∧ X 1 3 = pS P ∧ X 1 4 = pR P ∧ X 1 5 = pK P ∧ X 1 6 = pH P ∧ X 1 7 = pM P := h.1
theorem mPlan_at {X : jX} {P : aP} (h : mPlan X P) : X 181 6 = pC P ∧ X 181 7 = pR P ∧ X 181 8 = pK P ∧ X 181 9 = pH P ∧ X 181 10 = pM P ∧ X 181 11 = pS P := h.2.1
/-- columns and rows: few, so their product is small -/
theorem pCe_le {P : aP} (h : pOk P) : 0 ≤ pCe P ∧ pCe P ≤ 48 ∧ pCe P = pC P * pR P ∧ 0 ≤ pC P ∧ pC P ≤ 8 ∧ 0 ≤ pR P ∧ pR P ≤ 6 := by
  obtain ⟨h0, h1, h2, h3, h4, -⟩ := h
  have hc : 0 ≤ pC P ∧ pC P ≤ 8 := by omega
  refine ⟨Int.mul_nonneg hc.1 h3, ?_, rfl, hc.1, hc.2, h3, h4⟩
  have : pC P * pR P ≤ 8 * 6 := Int.mul_le_mul hc.2 h4 h3 (by omega)
  exact this
theorem pOk_n {P : aP} (h : pOk P) : ((pN P = 0 ∧ pC P = 0 ∧ pR P = 0 ∧ pK P = 0 ∧ pH P = 0 ∧ pM P = 0) ∨ (1 ≤ pN P ∧ pN P ≤ 60 ∧ 3 ≤ pC P ∧ pC P ≤ 8 ∧ pS P < pC P)) ∧ 0 ≤ pS P ∧ pS P ≤ 7 ∧ 0 ≤ pR P ∧ pR P ≤ 6 ∧ 0 ≤ pK P ∧ pK P ≤ 5 ∧ 0 ≤ pH P ∧ pH P ≤ 6 ∧ 0 ≤ pM P ∧ pM P ≤ 10 ∧ 1 ≤ pHo P ∧ pHo P ≤ 8 ∧ 0 ≤ pPr P ∧ pPr P ≤ 20 ∧ 0 ≤ pLe P ∧ pLe P ≤ 999 := by
  obtain ⟨a, b1, b2, b3, b4, b5, b6, b7, b8, b9, b10, b11, b12, b13, b14, b15, b16, -⟩ := h
  exact ⟨a, b1, b2, b3, b4, b5, b6, b7, b8, b9, b10, b11, b12, b13, b14, b15, b16⟩
theorem pOk_k {P : aP} (h : pOk P) : ∀ k, 0 ≤ k → k < pK P → 1 ≤ pRe P k ∧ pRe P k ≤ 99 ∧ 0 ≤ pGa P k ∧ pGa P k ≤ 99 ∧ 0 ≤ pFo P k ∧ pFo P k ≤ 31 ∧ nmO (pKn P k) := by
  obtain ⟨a, b1, b2, b3, b4, b5, b6, b7, b8, b9, b10, b11, b12, b13, b14, b15, b16, hk, -⟩ := h
  exact hk
theorem pOk_h {P : aP} (h : pOk P) : ∀ k, 0 ≤ k → k < pH P → 0 ≤ pHc P k ∧ pHc P k < pC P ∧ nmO (pHn P k) := by
  obtain ⟨a, b1, b2, b3, b4, b5, b6, b7, b8, b9, b10, b11, b12, b13, b14, b15, b16, hk, hh, -⟩ := h
  exact hh
theorem pOk_c {P : aP} (h : pOk P) : ∀ c, 0 ≤ c → c < pCe P → -1 ≤ pSe P c ∧ pSe P c < pK P := by
  obtain ⟨a, b1, b2, b3, b4, b5, b6, b7, b8, b9, b10, b11, b12, b13, b14, b15, b16, hk, hh, hc, -⟩ := h
  exact hc
theorem pOk_f {P : aP} (h : pOk P) : fmO 0 1 (pFm P 0) ∧ fmO 0 0 (pFm P 1) ∧ fmO 1 0 (pFm P 2) := by
  obtain ⟨a, b1, b2, b3, b4, b5, b6, b7, b8, b9, b10, b11, b12, b13, b14, b15, b16, hk, hh, hc, hf⟩ := h
  exact hf
