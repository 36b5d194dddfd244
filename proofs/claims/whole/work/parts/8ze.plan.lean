/-! PIT: the text of a pit -/
abbrev rp : Type := (Int × Int) ⊕ (aK × aP)
def bnp (r : rp) (k : aK → aP → rp) : rp := match r with
  | .inl e => .inl e
  | .inr q => k q.1 q.2
def tW (T : aT) (w : Int) (κ : aK) (k : aK → rp) : rp := if wd T κ = w then k (nx T κ) else .inl (1, κ.1)
def tN (T : aT) (lo hi : Int) (κ : aK) (k : aK → Int → rp) : rp := match nmR T lo hi κ with
  | .inl e => .inl e
  | .inr v => k (nx T κ) v
/-- a name: six letters, 0 behind it -/
def nmN (T : aT) (κ : aK) : (Int × Int) ⊕ (Int → Int) := if so T κ = 1 then (if 6 < tE T κ.1 - κ.1 then .inl (1, κ.1 + 6) else if wd T κ ≠ -1 ∧ wd T κ < 29 then .inl (1, κ.1) else .inr (fun j => if κ.1 + j < tE T κ.1 then T.2 (κ.1 + j) - 96 else 0)) else .inl (1, κ.1)
def same6 (f g : Int → Int) : Bool := decide (f 0 = g 0 ∧ f 1 = g 1 ∧ f 2 = g 2 ∧ f 3 = g 3 ∧ f 4 = g 4 ∧ f 5 = g 5)
def fndN (f : Int → Int → Int) (g : Int → Int) : Nat → Int → Int
  | 0, _ => -1
  | m + 1, i => if same6 (f i) g = true then i else fndN f g m (i + 1)
def fnd (f : Int → Int → Int) (n : Int) (g : Int → Int) : Int := fndN f g n.toNat 0
def upF {β : Type} (f : Int → β) (i : Int) (v : β) : Int → β := fun j => if j = i then v else f j
def setC (P : aP) (c s : Int) : aP := ((pN P, c, s, P.1.2.2.2), P.2)
def incN (P : aP) : aP := ((pN P + 1, P.1.2), P.2)
def addK (P : aP) (g : Int → Int) (r a : Int) : aP := ((pN P, pC P, pS P, pR P, pK P + 1, pH P, pM P), P.2.1, (upF (pRe P) (pK P) r, upF (pGa P) (pK P) a, pFo P), (upF (pKn P) (pK P) g, P.2.2.2.1.2), P.2.2.2.2)
def addH (P : aP) (g : Int → Int) (c : Int) : aP := ((pN P, pC P, pS P, pR P, pK P, pH P + 1, pM P), P.2.1, P.2.2.1, (pKn P, upF (pHn P) (pH P) g, upF (pHc P) (pH P) c, pSe P), P.2.2.2.2)
def addR (P : aP) (s : Int → Int) : aP := ((pN P, pC P, pS P, pR P + 1, pK P, pH P, pM P), P.2.1, P.2.2.1, (pKn P, pHn P, pHc P, fun c => if pR P * pC P ≤ c ∧ c < pR P * pC P + pC P then s (c - pR P * pC P) else pSe P c), P.2.2.2.2)
def orb (x b : Int) : Int := if x / 2 ^ b.toNat % 2 = 1 then x else x + 2 ^ b.toNat
def addM (P : aP) (a b : Int) : aP := ((pN P, pC P, pS P, pR P, pK P, pH P, pM P + 1), P.2.1, (pRe P, pGa P, fun k => if k = a then orb (pFo P k) b else if k = b then orb (pFo P k) a else pFo P k), P.2.2.2)
def setS3 (P : aP) (w v : Int) : aP := (P.1, (if w = 0 then v else pHo P, if w = 1 then v else pPr P, if w = 2 then v else pLe P), P.2.2)
def setFm (P : aP) (w : Int) (l : List Int) : aP := (P.1, P.2.1, P.2.2.1, P.2.2.2.1, (if w = 0 then some l else P.2.2.2.2.1, if w = 1 then some l else P.2.2.2.2.2.1, if w = 2 then some l else P.2.2.2.2.2.2))
def giv (T : aT) (P : aP) (κ : aK) (k : aK → (Int → Int) → rp) : rp := match nmN T κ with
  | .inl e => .inl e
  | .inr g => if fnd (pKn P) (pK P) g ≠ -1 ∨ fnd (pHn P) (pH P) g ≠ -1 then .inl (3, κ.1) else k (nx T κ) g
def knd (T : aT) (P : aP) (κ : aK) (k : Int → rp) : rp := match nmN T κ with
  | .inl e => .inl e
  | .inr g => if fnd (pKn P) (pK P) g = -1 then .inl (3, κ.1) else k (fnd (pKn P) (pK P) g)
def rulS (T : aT) (P : aP) (w : Int) (κ : aK) : rp := if (pFm P w.toNat).isSome = true then .inl (5, κ.1) else match (if w = 0 then tst T (fac T 0 6) (nx T κ) else sms T (prt T (if w = 2 then 1 else 0) 6) (nx T κ)) with
  | .inl e => .inl e
  | .inr q => .inr (q.1, setFm P w q.2)
/-- the letters of a row: which kinds, -1 rock, -2 neither -/
def ltr (T : aT) (P : aP) (s : Int) (k : Int) : Int := if T.2 (s + k) = 120 then -1 else if T.2 (s + k) - 97 < pK P then T.2 (s + k) - 97 else -2
def rowS (T : aT) (P : aP) (κ : aK) : rp := if 6 ≤ pR P then .inl (5, κ.1) else if so T (nx T κ) = 1 ∧ tE T (nx T κ).1 - (nx T κ).1 = pC P ∧ (∀ j : Nat, j < 8 → (j : Int) < pC P → ltr T P (nx T κ).1 j ≠ -2) then .inr (nx T (nx T κ), addR P (ltr T P (nx T κ).1)) else .inl (1, (nx T κ).1)
def pitS (T : aT) (P : aP) (κ : aK) : rp := tW T 0 κ (fun κ1 => tN T 3 8 κ1 (fun κ2 c => tW T 1 κ2 (fun κ3 => tN T 0 (c - 1) κ3 (fun κ4 s => .inr (κ4, setC P c s)))))
def kinS (T : aT) (P : aP) (κ : aK) : rp := if 5 ≤ pK P ∨ 0 < pR P then .inl (5, κ.1) else giv T P (nx T κ) (fun κ1 g => tW T 3 κ1 (fun κ2 => tN T 1 99 κ2 (fun κ3 r => tW T 4 κ3 (fun κ4 => tN T 0 99 κ4 (fun κ5 a => .inr (κ5, addK P g r a))))))
def houS (T : aT) (P : aP) (κ : aK) : rp := if 6 ≤ pH P then .inl (5, κ.1) else giv T P (nx T κ) (fun κ1 g => tW T 1 κ1 (fun κ2 => tN T 0 (pC P - 1) κ2 (fun κ3 c => .inr (κ3, addH P g c))))
def mixS (T : aT) (P : aP) (κ : aK) : rp := if 10 ≤ pM P then .inl (5, κ.1) else knd T P (nx T κ) (fun a => knd T P (nx T (nx T κ)) (fun b => if a = b ∨ pFo P a / 2 ^ b.toNat % 2 = 1 then .inl (3, (nx T (nx T κ)).1) else .inr (nx T (nx T (nx T κ)), addM P a b)))
def setSt (T : aT) (P : aP) (w lo hi : Int) (κ : aK) : rp := tN T lo hi (nx T κ) (fun κ1 v => .inr (κ1, setS3 P w v))
def bodS (T : aT) (P : aP) (κ : aK) : rp := if pN P = 0 then pitS T P κ else if wd T κ = 2 then kinS T P κ else if wd T κ = 5 then rowS T P κ else if wd T κ = 6 then houS T P κ else if wd T κ = 7 then mixS T P κ else if wd T κ = 8 then rulS T P 0 κ else if wd T κ = 9 then rulS T P 1 κ else if wd T κ = 10 then rulS T P 2 κ else if wd T κ = 11 then setSt T P 0 1 8 κ else if wd T κ = 12 then setSt T P 1 0 20 κ else if wd T κ = 13 then setSt T P 2 0 999 κ else .inl (1, κ.1)
def rd1 (T : aT) (P : aP) (κ : aK) : rp := bnp (bodS T P κ) (fun κ' P' => if mk T κ' 59 = true then .inr (nx T κ', incN P') else .inl (1, κ'.1))
def rdN (T : aT) : Nat → aP → aK → rp
  | 0, P, κ => .inl (5, κ.1)
  | m + 1, P, κ => if so T κ = 0 then (if pN P = 0 then .inl (1, κ.1) else .inr (κ, P)) else if pN P = 60 then .inl (5, κ.1) else bnp (rd1 T P κ) (fun κ' P' => rdN T m P' κ')
def P00 : aP := ((0, 0, 0, 0, 0, 0, 0), (3, 5, 10), (fun _ => 0, fun _ => 0, fun _ => 0), (fun _ _ => 0, fun _ _ => 0, fun _ => 0, fun _ => 0), none, none, none)
def rdP (T : aT) : rp := rdN T 61 P00 (kp0 T)
/-! how the class tells its draft -/
def dFo (X : jX) (z : Int) (w : Nat) (o : Option (List Int)) : Prop := match o with
  | none => X 15 w = -1
  | some l => 0 ≤ X 15 w ∧ X 15 w + l.length < z ∧ (∀ i : Nat, i < l.length → X 24 (X 15 w + i) = toC (l.getD i 0)) ∧ X 24 (X 15 w + l.length) = 10000
def cDr (X : jX) (P : aP) (z : Int) : Prop := (X 13 0 = pN P ∧ X 13 2 = pC P ∧ X 13 3 = pS P ∧ X 13 4 = pR P ∧ X 13 5 = pK P ∧ X 13 6 = pH P ∧ X 13 7 = pM P) ∧ (X 14 0 = pHo P ∧ X 14 1 = pPr P ∧ X 14 2 = pLe P) ∧ (dFo X z 0 (pFm P 0) ∧ dFo X z 1 (pFm P 1) ∧ dFo X z 2 (pFm P 2)) ∧ (∀ k, 0 ≤ k → k < pK P → X 16 k = pRe P k ∧ X 17 k = pGa P k ∧ ∀ j, 0 ≤ j → j < 6 → X 19 (k * 6 + j) = pKn P k j) ∧ (∀ k, 0 ≤ k → k < 5 → X 18 k = pFo P k) ∧ (∀ h, 0 ≤ h → h < pH P → X 21 h = pHc P h ∧ ∀ j, 0 ≤ j → j < 6 → X 20 (h * 6 + j) = pHn P h j) ∧ (∀ c, 0 ≤ c → c < pCe P → X 22 c = pSe P c + 1)
def cfD (z : Int) (X X' : jX) : Prop := (∀ k, k ≠ 28 → k ≠ 24 → k ≠ 32 → X' k = X k) ∧ ∀ j, j < z → X' 24 j = X 24 j
theorem cfD_r (z : Int) (X : jX) : cfD z X X := ⟨fun _ _ _ _ => rfl, fun _ _ => rfl⟩
theorem cfD_t {z : Int} {X Y Z : jX} (h1 : cfD z X Y) (h2 : cfD z Y Z) : cfD z X Z := ⟨fun k a b c => by rw [h2.1 k a b c, h1.1 k a b c], fun j a => by rw [h2.2 j a, h1.2 j a]⟩
theorem cfD_F {z : Int} {X Y : jX} (h : cfF z X Y) : cfD z X Y := ⟨fun k a b _ => h.1 k a b, h.2⟩
theorem dFo_fr {X X' : jX} {z : Int} {w : Nat} {o : Option (List Int)} (h15 : X' 15 = X 15) (h24 : ∀ j, j < z → X' 24 j = X 24 j) (h : dFo X z w o) : dFo X' z w o := by
  unfold dFo at *
  cases o with
  | none => rw [h15]; exact h
  | some l =>
    obtain ⟨a1, a2, a3, a4⟩ := h
    exact ⟨by rw [h15]; exact a1, by rw [h15]; exact a2, fun i hi => by rw [h15, h24 _ (by omega)]; exact a3 i hi, by rw [h15, h24 _ (by omega)]; exact a4⟩
theorem cDr_fr {X X' : jX} {P : aP} {z : Int} (hf : cfD z X X') (h : cDr X P z) : cDr X' P z := by
  obtain ⟨a1, a2, a3, a4, a5, a6, a7⟩ := h
  have e : ∀ k, k ≠ 28 → k ≠ 24 → k ≠ 32 → X' k = X k := hf.1
  exact ⟨by rw [e 13 (by omega) (by omega) (by omega)]; exact a1, by rw [e 14 (by omega) (by omega) (by omega)]; exact a2, ⟨dFo_fr (e 15 (by omega) (by omega) (by omega)) hf.2 a3.1, dFo_fr (e 15 (by omega) (by omega) (by omega)) hf.2 a3.2.1, dFo_fr (e 15 (by omega) (by omega) (by omega)) hf.2 a3.2.2⟩, by rw [e 16 (by omega) (by omega) (by omega), e 17 (by omega) (by omega) (by omega), e 19 (by omega) (by omega) (by omega)]; exact a4, by rw [e 18 (by omega) (by omega) (by omega)]; exact a5, by rw [e 20 (by omega) (by omega) (by omega), e 21 (by omega) (by omega) (by omega)]; exact a6, by rw [e 22 (by omega) (by omega) (by omega)]; exact a7⟩
/-- outside the draft and the reader nothing changes -/
def cfS (X X' : jX) : Prop := ∀ k, ¬ (13 ≤ k ∧ k ≤ 24) → k ≠ 28 → k ≠ 32 → X' k = X k
theorem cfS_D {z : Int} {X Y : jX} (h : cfD z X Y) : cfS X Y := fun k a b c => h.1 k b (by omega) c
theorem cfS_t {X Y Z : jX} (h1 : cfS X Y) (h2 : cfS Y Z) : cfS X Z := fun k a b c => by rw [h2 k a b c, h1 k a b c]
/-- how a reading method of the plan's ends -/
def endC (G : jG) (X : jX) (T : aT) (L : jR) (R : rp) : Prop := match R with
  | .inl e => ∃ X', L = some (0, (G, X')) ∧ X' 28 9 = e.1 ∧ X' 28 10 = e.2 ∧ cfS X X'
  | .inr q => ∃ X' u z, L = some (1, (G, X')) ∧ cS X' T u q.1 6 z [] ∧ cDr X' q.2 z ∧ z ≤ q.1.1 ∧ cfS X X'
theorem endC_f {G : jG} {X Y : jX} {T : aT} {L : jR} {w s : Int} (hL : L = some (0, (G, jup (jup Y 28 9 w) 28 10 s))) (hf : cfS X Y) : endC G X T L (.inl (w, s)) := ⟨_, hL, by rw [jup_row _ _ _ _ _ (by omega), jup_same], by rw [jup_same], cfS_t hf (fun k _ b _ => by rw [jup_rw _ _ _ _ _ b, jup_rw _ _ _ _ _ b])⟩
theorem s_takeNumber (d : Nat) {G : jG} {X : jX} {T : aT} {u z : Int} {κ : aK} {r : Nat} {C : List Int} (hR : RG G) (hT : okT T) (h : cS X T u κ r z C) (lo hi : Int) : match nmR T lo hi κ with
  | .inl e => ∃ X', jD (d + 3) 96 [(17, 28), (0, lo), (0, hi)] (G, X) = some (-1, (G, X')) ∧ X' 28 9 = e.1 ∧ X' 28 10 = e.2 ∧ cfF z X X'
  | .inr v => ∃ X', jD (d + 3) 96 [(17, 28), (0, lo), (0, hi)] (G, X) = some (v, (G, X')) ∧ 0 ≤ v ∧ lo ≤ v ∧ v ≤ hi ∧ cS X' T u (nx T κ) r z C ∧ cfF z X X' := by
  have en := s_numberHere d hR hT h.1 h.2.1 h.2.2.1
  have fail : ∀ (L : jR) (w s : Int), L = some (-1, (G, jup (jup X 28 9 w) 28 10 s)) → ∃ X', L = some (-1, (G, X')) ∧ X' 28 9 = w ∧ X' 28 10 = s ∧ cfF z X X' := fun L w s hL => ⟨_, hL, by rw [jup_row _ _ _ _ _ (by omega), jup_same], by rw [jup_same], cfF_t (cfF_8 _ _) (cfF_8 _ _)⟩
  unfold nmR
  by_cases q : so T κ = 2
  · rw [if_pos q]
    rw [if_pos q] at en
    by_cases q4 : 4 < tE T κ.1 - κ.1
    · rw [if_pos q4]
      rw [if_pos q4] at en
      refine fail _ 1 (κ.1 + 4) ?_
      rw [e_X7_takeNumber]
      simp only [Int.reduceLE, reduceIte]
      rw [en]
      simp only [Option.bind_some, reduceIte]
    · rw [if_neg q4]
      rw [if_neg q4] at en
      have hs2 : srt T κ.1 = 2 := by rcases so_b T κ with y | y <;> omega
      have hb := nuV_b hs2 (by omega)
      by_cases q5 : lo ≤ nuV T κ.1 ∧ nuV T κ.1 ≤ hi
      · rw [if_pos q5]
        obtain ⟨X', e', k, f⟩ := cS_step d hR hT h (by omega)
        refine ⟨X', ?_, hb.1, q5.1, q5.2, k, f⟩
        rw [e_X7_takeNumber]
        simp only [Int.reduceLE, reduceIte]
        rw [en]
        simp only [Option.bind_some]
        rw [if_neg (by omega), if_neg (by omega), if_neg (by omega), e']
        rfl
      · rw [if_neg q5]
        refine fail _ 2 κ.1 ?_
        rw [e_X7_takeNumber]
        simp only [Int.reduceLE, reduceIte]
        rw [en]
        simp only [Option.bind_some]
        rw [if_neg (by omega)]
        by_cases q6 : nuV T κ.1 < lo
        · rw [if_pos q6, s_failHere (d + 1) h.2.1]; rfl
        · rw [if_neg q6, if_pos (by omega), s_failHere (d + 1) h.2.1]; rfl
  · rw [if_neg q]
    rw [if_neg q] at en
    refine fail _ 1 κ.1 ?_
    rw [e_X7_takeNumber]
    simp only [Int.reduceLE, reduceIte]
    rw [en]
    simp only [Option.bind_some, reduceIte]
theorem s_name_n (d : Nat) {G : jG} {T : aT} {κ : aK} (hR : RG G) (hT : okT T) (v1 : Int) : ∀ (m : Nat) (X : jX) (j : Int), j + m = 6 → 0 ≤ j → cTp X T → cK X T κ → inT T κ → ∃ X', jN (d + 1) 98 71 [(17, 28), (0, v1), (0, j)] [] (G, X) = some (32, (G, X')) ∧ (∀ k, k ≠ 32 → X' k = X k) ∧ ∀ i, X' 32 i = if j ≤ i ∧ i < 6 then (if κ.1 + i < tE T κ.1 then T.2 (κ.1 + i) - 96 else 0) else X 32 i := by
  have hT1 := hT.2.1
  intro m
  induction m with
  | zero =>
    intro X j hj j0 hp hk hi
    refine ⟨X, ?_, fun _ _ => rfl, fun i => by rw [if_neg (by omega)]⟩
    rw [h_X7_nameHere_71, gr_28_2 hR.1, gl_32 hR.1]
    simp only [Int.reduceLE, reduceIte]
    rw [if_neg (by omega)]
  | succ m ih =>
    intro X j hj j0 hp hk hi
    have ht := tE_le hi.2
    have h0 := hi.1
    have h1 := hi.2
    obtain ⟨v, hv⟩ : ∃ v, v = if κ.1 + j < tE T κ.1 then T.2 (κ.1 + j) - 96 else 0 := ⟨_, rfl⟩
    obtain ⟨X', e, f, c⟩ := ih (jup X 32 j v) (j + 1) (by omega) (by omega) (cTp_fr (jup_rw _ _ _ _ _ (by omega)) (jup_rw _ _ _ _ _ (by omega)) hp) (by unfold cK at *; rw [jup_rw _ _ _ _ _ (by omega)]; exact hk) hi
    refine ⟨X', ?_, fun k hk => by rw [f k hk, jup_rw _ _ _ _ _ hk], fun i => ?_⟩
    · rw [h_X7_nameHere_71, gr_28_2 hR.1, gl_32 hR.1, hR.2.1, hk.2.1, hk.2.2, jadd_id (a := κ.1) (by omega) (by omega), jadd_id (a := j) (by omega) (by omega)]
      simp only [if_pos (show j < 6 by omega), if_pos j0, Int.reduceLE, reduceIte]
      by_cases q : κ.1 + j < tE T κ.1
      · have hb := hT.2.2 (κ.1 + j) (by omega) (by omega)
        rw [if_pos q] at hv
        rw [if_pos q, s_tat d hR.1 hT hp, tat_in (by omega) (by omega)]
        simp only [Option.bind_some]
        rw [gl_32 hR.1, if_pos (show j < 6 by omega), jsub_id (by omega) (by omega), jadd_id (by omega) (by omega), show T.2 (κ.1 + j) - 97 + 1 = v by omega]
        exact e
      · rw [if_neg q] at hv
        rw [if_neg q, ← hv]
        exact e
    · rw [c i]
      by_cases q : i = j
      · rw [if_neg (by omega), if_pos (by omega), q, jup_same, hv]
      · rw [jup_row _ _ _ _ _ q]
        by_cases q2 : j + 1 ≤ i ∧ i < 6
        · rw [if_pos q2, if_pos (show j ≤ i ∧ i < 6 by omega)]
        · rw [if_neg q2, if_neg (by omega)]
theorem s_nameHere (d : Nat) {G : jG} {X : jX} {T : aT} {u z : Int} {κ : aK} {r : Nat} {C : List Int} (hR : RG G) (hT : okT T) (h : cS X T u κ r z C) : match nmN T κ with
  | .inl e => ∃ X', jD (d + 3) 98 [(17, 28)] (G, X) = some (-1, (G, X')) ∧ X' 28 9 = e.1 ∧ X' 28 10 = e.2 ∧ cfD z X X'
  | .inr g => ∃ X', jD (d + 3) 98 [(17, 28)] (G, X) = some (32, (G, X')) ∧ (∀ j, 0 ≤ j → j < 6 → X' 32 j = g j) ∧ cS X' T u κ r z C ∧ cfD z X X' ∧ so T κ = 1 := by
  have hin := h.2.2.1
  have ht := tE_le hin.2
  have h0 := hin.1
  have h1 := hin.2
  have hT1 := hT.2.1
  have hk := h.2.1
  have fail : ∀ (L : jR) (w s : Int), L = some (-1, (G, jup (jup X 28 9 w) 28 10 s)) → ∃ X', L = some (-1, (G, X')) ∧ X' 28 9 = w ∧ X' 28 10 = s ∧ cfD z X X' := fun L w s hL => ⟨_, hL, by rw [jup_row _ _ _ _ _ (by omega), jup_same], by rw [jup_same], cfD_F (cfF_t (cfF_8 _ _) (cfF_8 _ _))⟩
  rw [e_X7_nameHere, hk.1, hk.2.1, hk.2.2, jsub_id (by omega) (by omega)]
  simp only [Int.reduceLE, reduceIte]
  unfold nmN
  by_cases q : so T κ = 1
  · rw [if_pos q, if_pos q]
    by_cases q6 : 6 < tE T κ.1 - κ.1
    · rw [if_pos q6, if_pos q6]
      refine fail _ 1 (κ.1 + 6) ?_
      rw [e_X7_fail, jadd_id (by omega) (by omega)]
      simp only [Option.bind_some, Int.reduceLE, reduceIte]
    · rw [if_neg q6, if_neg q6, s_wordHere d hR hT h.1 hk hin]
      simp only [Option.bind_some]
      have good : ∃ X', jN (d + 2) 98 71 [(17, 28), (0, wd T κ), (0, 0)] [] (G, X) = some (32, (G, X')) ∧ (∀ j, 0 ≤ j → j < 6 → X' 32 j = (if κ.1 + j < tE T κ.1 then T.2 (κ.1 + j) - 96 else 0)) ∧ cS X' T u κ r z C ∧ cfD z X X' ∧ so T κ = 1 := by
        obtain ⟨X', e, f, c⟩ := s_name_n (d + 1) hR hT (wd T κ) 6 X 0 (by omega) (by omega) h.1 hk hin
        obtain ⟨a1, a2, a3, a4, a5, a6, a7, a8⟩ := h
        have e28 : X' 28 = X 28 := f 28 (by omega)
        have e24 : X' 24 = X 24 := f 24 (by omega)
        exact ⟨X', e, fun j j0 j1 => by rw [c j, if_pos ⟨j0, j1⟩], ⟨cTp_fr (f 33 (by omega)) (f 34 (by omega)) a1, by unfold cK at *; rw [e28]; exact a2, a3, by rw [e28]; exact a4, by rw [e28]; exact a5, by rw [e28]; exact a6, by rw [e24]; exact a7, a8⟩, ⟨fun k _ _ c => f k c, fun j _ => by rw [e24]⟩, q⟩
      by_cases q7 : wd T κ = -1
      · rw [if_pos q7, if_neg (show ¬ (wd T κ ≠ -1 ∧ wd T κ < 29) from fun y => y.1 q7)]; exact good
      · rw [if_neg q7]
        by_cases q8 : wd T κ < 29
        · rw [if_pos q8, if_pos ⟨q7, q8⟩]
          refine fail _ 1 κ.1 ?_
          rw [s_failHere (d + 1) hk]
          rfl
        · rw [if_neg q8, if_neg (fun y => q8 y.2)]; exact good
  · rw [if_neg q, if_neg q]
    refine fail _ 1 κ.1 ?_
    rw [s_failHere (d + 1) hk]
    rfl
