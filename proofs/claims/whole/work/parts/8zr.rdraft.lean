/-! PIT: the reference's draft -/
def hiL (k : Int) : Int := if k = 181 then 6 else if k = 182 then 12 else if k = 183 then 15 else if k = 184 then 48 else if k = 185 then 6 else if k ≤ 188 then 3 else 1600
def sP (j : Int) : Prop := j ≠ 2 ∧ ¬ (4 ≤ j ∧ j ≤ 6) ∧ j ≠ 39 ∧ j ≠ 49 ∧ j ≠ 52 ∧ j ≠ 109 ∧ ¬ (111 ≤ j ∧ j ≤ 113)
def mfP (X X' : jX) : Prop := (∀ k, ¬ (181 ≤ k ∧ k ≤ 189) → k ≠ 149 → k ≠ 227 → k ≠ 228 → X' k = X k) ∧ (∀ k j, 181 ≤ k → k ≤ 189 → hiL k ≤ j → X' k j = X k j) ∧ ∀ j, sP j → X' 149 j = X 149 j
theorem mfP_r (X : jX) : mfP X X := ⟨fun _ _ _ _ _ => rfl, fun _ _ _ _ _ => rfl, fun _ _ => rfl⟩
theorem mfP_t {X Y Z : jX} (h1 : mfP X Y) (h2 : mfP Y Z) : mfP X Z := ⟨fun k a b c e => by rw [h2.1 k a b c e, h1.1 k a b c e], fun k j a b c => by rw [h2.2.1 k j a b c, h1.2.1 k j a b c], fun j a => by rw [h2.2.2 j a, h1.2.2 j a]⟩
theorem mfP_9 {X Y : jX} (h : mf9 X Y) : mfP X Y := ⟨fun k _ a _ _ => h.1 k a, fun k j a b _ => by rw [h.1 k (by omega)], fun j a => by unfold sP at a; exact h.2 j (by omega) (by omega) (by omega)⟩
theorem mfP_Q {X Y : jX} (h : mfQ X Y) : mfP X Y := ⟨fun k _ a b c => h.1 k a b c, fun k j a b _ => by rw [h.1 k (by omega) (by omega) (by omega)], fun j a => by unfold sP at a; exact h.2 j (by omega) (by omega) (by omega) (by omega)⟩
theorem mfP_w {X : jX} {k j v : Int} (h : 181 ≤ k ∧ k ≤ 189) (hj : j < hiL k) : mfP X (jup X k j v) := ⟨fun i a _ _ _ => jup_rw _ _ _ _ _ (by omega), fun i l _ _ c => by
  by_cases q : i = k
  · subst q; rw [jup_row _ _ _ _ _ (by omega)]
  · rw [jup_rw _ _ _ _ _ q], fun i _ => by rw [jup_rw _ _ _ _ _ (by omega)]⟩
theorem mfP_v {X : jX} {j v : Int} (h : ¬ sP j) : mfP X (jup X 149 j v) := ⟨fun i _ a _ _ => jup_rw _ _ _ _ _ a, fun i l a _ _ => by rw [jup_rw _ _ _ _ _ (by omega)], fun i a => jup_row _ _ _ _ _ (fun y => h (by rw [← y]; exact a))⟩
theorem mB_P {X X' : jX} {T : aT} (h : mfP X X') (hB : mB X T) : mB X' T := by
  obtain ⟨⟨a, b⟩, c⟩ := hB
  exact ⟨⟨by rw [h.2.2 3 (by unfold sP; omega)]; exact a, fun i i0 i1 => by rw [h.1 150 (by omega) (by omega) (by omega) (by omega)]; exact b i i0 i1⟩, mWd_fr (fun a ha => h.1 a (by omega) (by omega) (by omega) (by omega)) c⟩
def mDF (X : jX) (z : Int) (w : Nat) (o : Option (List Int)) : Prop := match o with
  | none => X 187 w = -1
  | some l => 0 ≤ X 187 w ∧ X 188 w = X 187 w + l.length ∧ X 188 w ≤ z ∧ ∀ i : Nat, i < l.length → X 189 (X 187 w + i) = toM (l.getD i 0)
def mDr (X : jX) (P : aP) (z : Int) : Prop := (X 181 0 = pC P ∧ X 181 1 = pR P ∧ X 181 2 = pK P ∧ X 181 3 = pH P ∧ X 181 4 = pM P ∧ X 181 5 = pS P) ∧ (X 186 0 = pHo P ∧ X 186 1 = pPr P ∧ X 186 2 = pLe P) ∧ (mDF X z 0 (pFm P 0) ∧ mDF X z 1 (pFm P 1) ∧ mDF X z 2 (pFm P 2)) ∧ (∀ k, 0 ≤ k → k < pK P → X 183 (3 * k) = pRe P k ∧ X 183 (3 * k + 1) = pGa P k ∧ X 183 (3 * k + 2) = pFo P k ∧ X 182 k = nam (pKn P k) 6) ∧ (∀ h, 0 ≤ h → h < pH P → X 185 h = pHc P h ∧ X 182 (6 + h) = nam (pHn P h) 6) ∧ (∀ r c, 0 ≤ r → r < pR P → 0 ≤ c → c < pC P → X 184 (8 * r + c) = pSe P (r * pC P + c)) ∧ X 149 49 = z ∧ 0 ≤ z
theorem mDr_fr {X X' : jX} {P : aP} {z : Int} (h : ∀ k, 181 ≤ k → k ≤ 189 → X' k = X k) (h49 : X' 149 49 = X 149 49) (hD : mDr X P z) : mDr X' P z := by
  unfold mDr mDF at *
  rw [h49, h 181 (by omega) (by omega), h 182 (by omega) (by omega), h 183 (by omega) (by omega), h 184 (by omega) (by omega), h 185 (by omega) (by omega), h 186 (by omega) (by omega), h 187 (by omega) (by omega), h 188 (by omega) (by omega), h 189 (by omega) (by omega)]
  exact hD
def mPs (X : jX) (T : aT) (P : aP) (κ : aK) (z : Int) : Prop := mB X T ∧ mK X T κ ∧ (X 149 5 = 0 ∧ X 149 6 = -1) ∧ mDr X P z ∧ z ≤ κ.1
theorem mPs_9 {X Y : jX} {T : aT} {P : aP} {κ κ' : aK} {z : Int} (f : mf9 X Y) (hk : mK Y T κ') (h5 : Y 149 5 = 0) (h6 : Y 149 6 = -1) (hl : κ.1 ≤ κ'.1) (h : mPs X T P κ z) : mPs Y T P κ' z :=
  ⟨mB_9 f h.1, hk, ⟨h5, h6⟩, mDr_fr (fun k a b => f.1 k (by omega)) (f.2 49 (by omega) (by omega) (by omega)) h.2.2.2.1, by have := h.2.2.2.2; omega⟩
theorem mPs_tk {X : jX} {T : aT} {P : aP} {κ : aK} {z : Int} (h0 : srt T κ.1 ≠ 0) (h : mPs X T P κ z) : mPs (tk X T κ) T P (nx T κ) z :=
  mPs_9 (mf9_0 (tk_0 X T κ)) (tk_K h.2.1 h0) (by rw [tk_5 X T κ 5 (by omega) (by omega)]; exact h.2.2.1.1) (by rw [tk_5 X T κ 6 (by omega) (by omega)]; exact h.2.2.1.2) (nx_in (mK_in h.2.1)).2.2 h
theorem mPs_lk {X : jX} {T : aT} {P : aP} {κ : aK} {z : Int} (h : mPs X T P κ z) : mPs (lk X κ) T P κ z :=
  mPs_9 (mf9_0 (lk_0 X κ)) (lk_K h.2.1) (by rw [lk_j X κ 5 (by omega)]; exact h.2.2.1.1) (by rw [lk_j X κ 6 (by omega)]; exact h.2.2.1.2) (Int.le_refl _) h
def enM (G : jG) (X : jX) (T : aT) (L : jR) (R : rp) : Prop := match R with
  | .inl e => ∃ w Y, L = some (w, (G, Y)) ∧ Y 149 5 = e.1 ∧ Y 149 6 = e.2 ∧ e.1 ≠ 0 ∧ mfP X Y
  | .inr q => ∃ w Y z, L = some (w, (G, Y)) ∧ mPs Y T q.2 q.1 z ∧ mfP X Y
/-! with a fault nothing more is read -/
theorem f_asks (d : Nat) {G : jG} {X : jX} (h : X 149 5 ≠ 0) (a : Int) : jD (d + 1) 196 [(22, 149), (23, a)] (G, X) = some (0, (G, X)) := by
  rw [e_X12_asks, if_pos (by omega), if_neg h]
theorem f_sign (d : Nat) {G : jG} {X : jX} (h : X 149 5 ≠ 0) (a : Int) : jD (d + 1) 198 [(22, 149), (0, a)] (G, X) = some (0, (G, X)) := by
  rw [e_X12_asksSign, if_pos (by omega), if_neg h]
theorem f_number (d : Nat) {G : jG} {X : jX} (h : X 149 5 ≠ 0) (a b : Int) : jD (d + 1) 199 [(22, 149), (0, a), (0, b)] (G, X) = some (0, (G, X)) := by
  rw [e_X12_number, if_pos (by omega), if_neg h]
theorem f_name (d : Nat) {G : jG} {X : jX} (h : X 149 5 ≠ 0) : jD (d + 1) 201 [(22, 149)] (G, X) = some (0, (G, X)) := by
  rw [e_X12_name, if_pos (by omega), if_neg h]
theorem f_fail (d : Nat) {G : jG} {X : jX} (h : X 149 5 ≠ 0) (a b : Int) : jD (d + 1) 190 [(22, 149), (0, a), (0, b)] (G, X) = some (0, (G, X)) := by
  rw [e_X12_fail, if_pos (by omega), if_neg h]
theorem f_full (d : Nat) {G : jG} {X : jX} (h : X 149 5 ≠ 0) (a b c : Int) : jD (d + 1) 203 [(22, 149), (0, a), (0, b), (0, c)] (G, X) = some (1, (G, X)) := by
  rw [e_X12_isFull, if_pos (by omega), if_neg h, if_pos (by omega), if_neg h]
theorem t_full (d : Nat) {G : jG} {X : jX} (hG : GG G) (h : X 149 5 = 0) (a b c : Int) (a0 : 0 ≤ a) (a1 : a < 6) : jD (d + 2) 203 [(22, 149), (0, a), (0, b), (0, c)] (G, X) = if X 181 a = b then some (1, (G, jup (jup X 149 5 5) 149 6 c)) else some (0, (G, X)) := by
  rw [e_X12_isFull, h, gr_149_40 hG, gl_181 hG]
  simp only [Int.reduceLE, reduceIte]
  rw [if_pos a0, if_pos (by omega)]
  by_cases q : X 181 a = b
  · rw [if_pos q, if_pos q, t_fail d h]
    simp only [Option.bind_some]
    rw [if_neg (by rw [jup_row _ _ _ _ _ (by omega), jup_same]; omega)]
  · rw [if_neg q, if_neg q]
/-- a fault -/
def ft (X : jX) (w s : Int) : jX := jup (jup X 149 5 w) 149 6 s
theorem ft_5 (X : jX) (w s : Int) : ft X w s 149 5 = w ∧ ft X w s 149 6 = s := ⟨by unfold ft; rw [jup_row _ _ _ _ _ (by omega), jup_same], by unfold ft; rw [jup_same]⟩
theorem ft_9 (X : jX) (w s : Int) : mf9 X (ft X w s) := mf9_t (mf9_u (by omega)) (mf9_u (by omega))
theorem enM_ft {G : jG} {X Y : jX} {T : aT} {L : jR} {u w s : Int} (hL : L = some (u, (G, ft Y w s))) (hw : w ≠ 0) (hf : mfP X Y) : enM G X T L (.inl (w, s)) := ⟨u, _, hL, (ft_5 Y w s).1, (ft_5 Y w s).2, hw, mfP_t hf (mfP_9 (ft_9 Y w s))⟩
/-- newName -/
def gvN (T : aT) (P : aP) (κ : aK) : (Int × Int) ⊕ (Int → Int) := match nmN T κ with
  | .inl e => .inl e
  | .inr g => if fnd (pKn P) (pK P) g ≠ -1 ∨ fnd (pHn P) (pH P) g ≠ -1 then .inl (3, κ.1) else .inr g
theorem giv_gvN (T : aT) (P : aP) (κ : aK) (k : aK → (Int → Int) → rp) : giv T P κ k = match gvN T P κ with
  | .inl e => .inl e
  | .inr g => k (nx T κ) g := by
  unfold giv gvN
  cases nmN T κ with
  | inl e => rfl
  | inr g =>
    dsimp only
    by_cases q : fnd (pKn P) (pK P) g ≠ -1 ∨ fnd (pHn P) (pH P) g ≠ -1
    · rw [if_pos q, if_pos q]
    · rw [if_neg q, if_neg q]
theorem t_newName (d : Nat) {G : jG} {X : jX} {T : aT} {P : aP} {κ : aK} {z : Int} (hG : GG G) (hT : okT T) (h : mPs X T P κ z) (hO : pOk P) : match gvN T P κ with
  | .inl e => ∃ w Y, jD (d + 5) 205 [(22, 149)] (G, X) = some (w, (G, Y)) ∧ Y 149 5 = e.1 ∧ Y 149 6 = e.2 ∧ e.1 ≠ 0 ∧ mf9 X Y
  | .inr g => ∃ Y, jD (d + 5) 205 [(22, 149)] (G, X) = some (nam g 6, (G, Y)) ∧ mPs Y T P (nx T κ) z ∧ mf9 X Y ∧ nmO g := by
  have hk := pOk_n hO
  have hkk := pOk_k hO
  have hkh := pOk_h hO
  obtain ⟨hB, hK, ⟨h5, h6⟩, hD, hz⟩ := id h
  have hin := mK_in hK
  have hnm := t_name d hG hT hB hK h5
  have kf : ∀ Y : jX, (∀ k, k ≠ 149 → Y k = X k) → ∀ k, 0 ≤ k → k < pK P → Y 182 k = nam (pKn P k) 6 ∧ nmO (pKn P k) := fun Y hY k k0 k1 => ⟨by rw [hY 182 (by omega)]; exact (hD.2.2.2.1 k k0 k1).2.2.2, (hkk k k0 k1).2.2.2.2.2.2⟩
  have hf : ∀ Y : jX, (∀ k, k ≠ 149 → Y k = X k) → ∀ k, 0 ≤ k → k < pH P → Y 182 (6 + k) = nam (pHn P k) 6 ∧ nmO (pHn P k) := fun Y hY k k0 k1 => ⟨by rw [hY 182 (by omega)]; exact (hD.2.2.2.2.1 k k0 k1).2, (hkh k k0 k1).2.2⟩
  have h2 : ∀ Y : jX, (∀ k, k ≠ 149 → Y k = X k) → Y 181 2 = pK P ∧ Y 181 3 = pH P := fun Y hY => by rw [hY 181 (by omega)]; exact ⟨hD.1.2.2.1, hD.1.2.2.2.1⟩
  rw [e_X12_newName]
  simp only [Int.reduceLE, reduceIte]
  unfold gvN
  cases e : nmN T κ with
  | inl ee =>
    rw [e] at hnm
    obtain ⟨w, Y, a1, a2, a3, a4, a5⟩ := hnm
    have ho := (t_newHo_n (d + 3) hG (pH P) w (pHn P) (by omega) (pH P).toNat Y 0 (h2 Y a5.1).2 (hf Y a5.1) (by omega) (by omega)).1 (by rw [a2]; exact a4)
    rw [a1]
    simp only [Option.bind_some]
    rw [if_neg (by rw [a2]; exact a4), ho]
    exact ⟨w, Y, rfl, a2, a3, a4, a5⟩
  | inr g =>
    rw [e] at hnm
    obtain ⟨Y, a1, a2, a3, a4, a5, a6⟩ := hnm
    have hg := (nmN_ok hT hin e).1
    obtain ⟨r, b1, b2⟩ := t_kindOf (d + 3) hG (pK P) (nam g 6) (pKn P) (h2 Y a6.1).1 (by omega) (by omega) (kf Y a6.1)
    have b3 := b2 g hg rfl
    rw [a1]
    simp only [Option.bind_some]
    rw [if_pos a4, b1]
    simp only [Option.bind_some]
    by_cases q : fnd (pKn P) (pK P) g = -1
    · have ho := (t_newHo_n (d + 3) hG (pH P) (nam g 6) (pHn P) (by omega) (pH P).toNat Y 0 (h2 Y a6.1).2 (hf Y a6.1) (by omega) (by omega)).2 g hg rfl a4
      rw [if_pos (show r = -1 by rw [b3]; exact q), ho]
      by_cases q2 : fnd (pHn P) (pH P) g = -1
      · rw [if_neg (show ¬ (fnd (pKn P) (pK P) g ≠ -1 ∨ fnd (pHn P) (pH P) g ≠ -1) from fun y => by rcases y with y | y; exact y q; exact y q2)]
        rw [if_pos (show fndN (pHn P) g (pH P).toNat 0 = -1 from q2)]
        exact ⟨Y, rfl, mPs_9 a6 a2 a4 (by rw [a5]; exact h6) (nx_in hin).2.2 h, a6, hg⟩
      · rw [if_pos (Or.inr q2)]
        rw [if_neg (show ¬ fndN (pHn P) g (pH P).toNat 0 = -1 from q2), a3]
        exact ⟨nam g 6, ft Y 3 κ.1, rfl, (ft_5 Y 3 κ.1).1, (ft_5 Y 3 κ.1).2, show (3 : Int) ≠ 0 by omega, mf9_t a6 (ft_9 Y 3 κ.1)⟩
    · have f3 := mf9_t a6 (ft_9 Y 3 κ.1)
      have ho := (t_newHo_n (d + 3) hG (pH P) (nam g 6) (pHn P) (by omega) (pH P).toNat (ft Y 3 κ.1) 0 (h2 _ f3.1).2 (hf _ f3.1) (by omega) (by omega)).1 (by rw [(ft_5 Y 3 κ.1).1]; omega)
      rw [if_neg (show ¬ r = -1 by rw [b3]; exact q), a3, t_fail (d + 3) a4, if_pos (Or.inl q)]
      simp only [Option.bind_some]
      rw [show jup (jup Y 149 5 3) 149 6 κ.1 = ft Y 3 κ.1 from rfl, ho]
      exact ⟨nam g 6, ft Y 3 κ.1, rfl, (ft_5 Y 3 κ.1).1, (ft_5 Y 3 κ.1).2, show (3 : Int) ≠ 0 by omega, f3⟩
