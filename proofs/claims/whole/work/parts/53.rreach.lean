theorem mod_add {C q r : Int} (h0 : 0 ≤ r) (h1 : r < C) : (C * q + r) % C = r := by
  rw [Int.add_comm, Int.add_mul_emod_self_left]
  exact Int.emod_eq_of_lt h0 h1
theorem bsd_sym {P : aP} {c b : Int} (hO : pOk P) (hi : inP P c) (hb : inP P b) (h : bsd P c b) : bsd P b c := by
  have hc := mod_in hO hi
  have hd := mod_in hO hb
  obtain ⟨C0, c1, c2, c3, c4, c5, c6, c7⟩ := hc
  obtain ⟨hi0, hi1⟩ := hi
  obtain ⟨hb0, hb1⟩ := hb
  obtain ⟨h0, h1⟩ := h
  refine ⟨hi0, ?_⟩
  unfold nUp nLf nRt nDn at h1 ⊢
  rcases h1 with h | h | h | h
  · split at h
    · right; right; right
      rw [if_pos (by omega)]; omega
    · omega
  · split at h
    · right; right; left
      have : b % pC P = c % pC P - 1 := by
        rw [show b = pC P * (c / pC P) + (c % pC P - 1) by omega]
        exact mod_add (by omega) (by omega)
      rw [if_pos (by omega)]; omega
    · omega
  · split at h
    · right; left
      have : b % pC P = c % pC P + 1 := by
        rw [show b = pC P * (c / pC P) + (c % pC P + 1) by omega]
        exact mod_add (by omega) (by omega)
      rw [if_pos (by omega)]; omega
    · omega
  · split at h
    · left
      rw [if_pos (by omega)]; omega
    · omega
theorem bsd_in {P : aP} {c b : Int} (hO : pOk P) (hi : inP P c) (h : bsd P c b) : inP P b := by
  obtain ⟨u, u0, u1, u2⟩ := bsd_nW h
  have := nW_le hO hi u0 u1
  exact ⟨h.1, by omega⟩
/-- reached so far -/
def IR (P : aP) (st : Int → Int) (X : jX) : Prop := (∀ c, 0 ≤ c → c < 48 → X 192 c = 0 ∨ X 192 c = 1) ∧ (∀ c, 0 ≤ c → c < 48 → X 192 c = 1 → inP P c ∧ rch P st c) ∧ X 192 (pS P) = 1
theorem t_lays_in (d : Nat) {G : jG} {P : aP} {γ : aG} (hG : GG G) (hO : pOk P) (sh : Int) : ∀ (n : Nat) (X : jX) (mo i : Int), mPlan X P → mGr X 190 0 γ → IR P (gCe γ) X → 0 ≤ i → i + n = pCe P → ∃ X' mo', jN (d + 3) 242 62 [(22, 149), (0, sh), (0, mo), (0, i)] [] (G, X) = jN (d + 3) 242 54 [(22, 149), (0, sh), (0, mo'), (0, pCe P)] [] (G, X') ∧ IR P (gCe γ) X' ∧ (∀ k, k ≠ 192 → X' k = X k) ∧ ((X' = X ∧ mo' = mo ∧ ∀ c, i ≤ c → c < pCe P → X 192 c = 0 → opn (gCe γ) c → ¬ ∃ b, bsd P c b ∧ X 192 b ≠ 0) ∨ (mo' = 1 ∧ cnt (X 192) 48 < cnt (X' 192) 48)) := by
  have hcc := pCe_le hO
  have hpn := pOk_n hO
  intro n
  induction n with
  | zero =>
    intro X mo i hP hγ hI h0 h1
    refine ⟨X, mo, ?_, hI, fun _ _ => rfl, Or.inl ⟨rfl, rfl, fun c q1 q2 => by omega⟩⟩
    rw [h_X12_laysReached_62, t_cellMany (d + 1) hG hP hO]
    simp only [Option.bind_some, Int.reduceLE, reduceIte]
    rw [if_neg (by omega), show i = pCe P by omega]
  | succ n ih =>
    intro X mo i hP hγ hI h0 h1
    rw [h_X12_laysReached_62, t_cellMany (d + 1) hG hP hO]
    simp only [Option.bind_some, Int.reduceLE, reduceIte]
    rw [gr_149_63 hG, gl_192 hG, jadd_id (by omega) (by omega)]
    simp only [Int.reduceLE, reduceIte]
    rw [if_pos (by omega), if_pos (by omega), if_pos (by omega)]
    -- nothing done at i
    have skip : (X 192 i = 0 → opn (gCe γ) i → ¬ ∃ b, bsd P i b ∧ X 192 b ≠ 0) → ∃ X' mo', jN (d + 3) 242 62 [(22, 149), (0, sh), (0, mo), (0, i + 1)] [] (G, X) = jN (d + 3) 242 54 [(22, 149), (0, sh), (0, mo'), (0, pCe P)] [] (G, X') ∧ IR P (gCe γ) X' ∧ (∀ k, k ≠ 192 → X' k = X k) ∧ ((X' = X ∧ mo' = mo ∧ ∀ c, i ≤ c → c < pCe P → X 192 c = 0 → opn (gCe γ) c → ¬ ∃ b, bsd P c b ∧ X 192 b ≠ 0) ∨ (mo' = 1 ∧ cnt (X 192) 48 < cnt (X' 192) 48)) := by
      intro hs
      obtain ⟨X', mo', e, a1, a2, a3⟩ := ih X mo (i + 1) hP hγ hI (by omega) (by omega)
      refine ⟨X', mo', e, a1, a2, ?_⟩
      rcases a3 with ⟨b1, b2, b3⟩ | b
      · refine Or.inl ⟨b1, b2, fun c q1 q2 => ?_⟩
        by_cases q : c = i
        · subst q; exact hs
        · exact b3 c (by omega) q2
      · exact Or.inr b
    rcases hI.1 i h0 (by omega) with hx | hx
    · rw [if_pos hx, t_isOpen (d + 1) i hG hγ h0 (by omega)]
      simp only [Option.bind_some]
      rcases b01_or (opn (gCe γ) i) with ⟨e, ho⟩ | ⟨e, ho⟩
      · rw [if_pos e]
        exact skip (fun _ q => absurd q ho)
      · rw [if_neg (by omega), t_isBeside d i hG hP hO ⟨h0, by omega⟩]
        simp only [Option.bind_some]
        rcases b01_or (∃ b, bsd P i b ∧ X 192 b ≠ 0) with ⟨e2, hb⟩ | ⟨e2, hb⟩
        · rw [if_pos e2]
          exact skip (fun _ _ => hb)
        · rw [if_neg (by omega), gr_149_63 hG, gl_192 hG]
          simp only [Int.reduceLE, reduceIte]
          rw [if_pos (by omega), if_pos (by omega)]
          have hri : rch P (gCe γ) i := by
            obtain ⟨b, hbs, hb0⟩ := hb
            have hbi := bsd_in hO ⟨h0, by omega⟩ hbs
            have hb1 : X 192 b = 1 := by
              rcases hI.1 b hbi.1 (by have := hbi.2; omega) with q | q
              · exact absurd q hb0
              · exact q
            exact rch_go hbi (hI.2.1 b hbi.1 (by have := hbi.2; omega) hb1).2 (bsd_sym hO ⟨h0, by omega⟩ hbi hbs) ho
          have hI' : IR P (gCe γ) (jup X 192 i 1) := by
            refine ⟨fun c q0 q1 => ?_, fun c q0 q1 q2 => ?_, ?_⟩
            · by_cases q : c = i
              · rw [q, jup_same]; exact Or.inr rfl
              · rw [jup_row _ _ _ _ _ q]; exact hI.1 c q0 q1
            · by_cases q : c = i
              · rw [q]; exact ⟨⟨h0, by omega⟩, hri⟩
              · rw [jup_row _ _ _ _ _ q] at q2; exact hI.2.1 c q0 q1 q2
            · by_cases q : pS P = i
              · rw [q, jup_same]
              · rw [jup_row _ _ _ _ _ q]; exact hI.2.2
          have hcu : cnt (jup X 192 i 1 192) 48 = cnt (X 192) 48 + 1 := by
            rw [cnt_up (f := X 192) (f' := jup X 192 i 1 192) (a := i) (fun c q => jup_row _ _ _ _ _ q) (by rw [jup_same, hx]; rfl) h0, if_pos (by show i < 48; omega)]
          obtain ⟨X', mo', e, a1, a2, a3⟩ := ih (jup X 192 i 1) 1 (i + 1) (mPlan_fr (fun a h1 h2 => jup_rw _ _ _ _ _ (by omega)) (by rw [jup_rw _ _ _ _ _ (by omega)]) hP) (mGr_fr (jup_rw _ _ _ _ _ (by omega)) hγ) hI' (by omega) (by omega)
          refine ⟨X', mo', e, a1, fun k hk => by rw [a2 k hk, jup_rw _ _ _ _ _ hk], Or.inr ?_⟩
          rcases a3 with ⟨b1, b2, b3⟩ | ⟨b1, b2⟩
          · refine ⟨b2, ?_⟩
            rw [b1, hcu]; omega
          · refine ⟨b1, ?_⟩
            rw [hcu] at b2; omega
    · rw [if_neg (by omega)]
      exact skip (fun q => by omega)
theorem t_lays_out (d : Nat) {G : jG} {P : aP} {γ : aG} (hG : GG G) (hO : pOk P) (hp : 0 < pCe P) (sh : Int) : ∀ (n : Nat) (X : jX) (u3 : jV), u3.1 = 2 ∨ u3.1 = 0 → mPlan X P → mGr X 190 0 γ → IR P (gCe γ) X → cnt (X 192) 48 + n = 48 → ∃ X', jN (d + 3) 242 54 [(22, 149), (0, sh), (0, 1), u3] [] (G, X) = some (0, (G, X')) ∧ isRc P (gCe γ) (X' 192) ∧ (∀ k, k ≠ 192 → X' k = X k) := by
  have hcc := pCe_le hO
  have hpn := pOk_n hO
  intro n
  induction n using Nat.strongRecOn with
  | ind n ih =>
    intro X u3 hu3 hP hγ hI hn
    rw [h_X12_laysReached_54 _ _ _ _ _ hu3, if_neg (by omega)]
    obtain ⟨X1, mo, e1, a1, a2, a3⟩ := t_lays_in d hG hO sh (pCe P).toNat X 0 0 hP hγ hI (by omega) (by omega)
    rw [e1]
    rcases a3 with ⟨b1, b2, b3⟩ | ⟨b1, b2⟩
    · refine ⟨X1, ?_, fun c q0 q1 => ?_, a2⟩
      · rw [h_X12_laysReached_54 _ _ _ _ _ (Or.inr rfl), if_pos b2]
      · rw [b1]
        rcases hI.1 c q0 q1 with h | h
        · left
          refine ⟨h, fun hr => ?_⟩
          have := hr.2 (fun z => inP P z ∧ X 192 z = 1) (fun ho => ⟨(hI.2.1 _ hpn.2.1 (by omega) hI.2.2).1, hI.2.2⟩) (fun a b hia hz hbs hob => by
            have hbi := bsd_in hO hia hbs
            refine ⟨hbi, ?_⟩
            rcases hI.1 b hbi.1 (by have := hbi.2; omega) with q | q
            · exact absurd ⟨a, bsd_sym hO hia hbi hbs, by rw [hz.2]; omega⟩ (b3 b hbi.1 hbi.2 q hob)
            · exact q)
          omega
        · exact Or.inr ⟨h, (hI.2.1 c q0 q1 h).2⟩
    · have h3 := cnt_le (f := X1 192) (n := 48) a1.1
      obtain ⟨X', e', c1, c2⟩ := ih (48 - cnt (X1 192) 48).toNat (by omega) X1 (0, pCe P) (Or.inr rfl) (mPlan_fr (fun a h1 h2 => a2 a (by omega)) (by rw [a2 149 (by omega)]) hP) (mGr_fr (a2 190 (by omega)) hγ) a1 (by omega)
      refine ⟨X', ?_, c1, fun k hk => by rw [c2 k hk, a2 k hk]⟩
      rw [b1]
      exact e'
theorem t_lays_0 (d : Nat) {G : jG} (hG : GG G) : ∀ (n : Nat) (X : jX) (i : Int), 0 ≤ i → i + n = 48 → ∃ X', jN d 242 2 [(22, 149), (0, i), (2, (-1)), (2, (-1))] [] (G, X) = jN d 242 2 [(22, 149), (0, 48), (2, (-1)), (2, (-1))] [] (G, X') ∧ (∀ k, k ≠ 192 → X' k = X k) ∧ ∀ c, X' 192 c = if i ≤ c ∧ c < 48 then 0 else X 192 c := by
  intro n
  induction n with
  | zero =>
    intro X i h0 h1
    exact ⟨X, by rw [show i = 48 by omega], fun _ _ => rfl, fun c => by rw [if_neg (by omega)]⟩
  | succ n ih =>
    intro X i h0 h1
    obtain ⟨X', e, a1, a2⟩ := ih (jup X 192 i 0) (i + 1) (by omega) (by omega)
    refine ⟨X', ?_, fun k hk => by rw [a1 k hk, jup_rw _ _ _ _ _ hk], fun c => ?_⟩
    · rw [h_X12_laysReached_2, gr_149_63 hG, gl_192 hG, if_pos (by omega), if_pos (by omega), if_pos (by omega), if_pos h0, if_pos (by omega), jadd_id (by omega) (by omega)]
      exact e
    · rw [a2 c]
      by_cases q : c = i
      · rw [if_neg (by omega), if_pos (by omega), q, jup_same]
      · rw [jup_row _ _ _ _ _ q]
        by_cases q2 : i + 1 ≤ c ∧ c < 48
        · rw [if_pos q2, if_pos (by omega)]
        · rw [if_neg q2, if_neg (by omega)]
theorem t_laysReached (d : Nat) {G : jG} {X : jX} {P : aP} {γ : aG} (hG : GG G) (hP : mPlan X P) (hO : pOk P) (hγ : mGr X 190 0 γ) : ∃ X', jD (d + 4) 242 [(22, 149)] (G, X) = some (0, (G, X')) ∧ isRc P (gCe γ) (X' 192) ∧ (∀ k, k ≠ 192 → X' k = X k) := by
  have hcc := pCe_le hO
  have hpn := pOk_n hO
  obtain ⟨X1, e1, a1, a2⟩ := t_lays_0 (d + 3) hG 48 X 0 (by omega) rfl
  have hP1 : mPlan X1 P := mPlan_fr (fun a h1 h2 => a1 a (by omega)) (by rw [a1 149 (by omega)]) hP
  have hγ1 : mGr X1 190 0 γ := mGr_fr (a1 190 (by omega)) hγ
  have hz : ∀ c, 0 ≤ c → c < 48 → X1 192 c = 0 := fun c q0 q1 => by rw [a2 c, if_pos ⟨q0, q1⟩]
  have none_r : (¬ 0 < pCe P ∨ ¬ opn (gCe γ) (pS P)) → isRc P (gCe γ) (X1 192) := by
    intro h c q0 q1
    refine Or.inl ⟨hz c q0 q1, fun hr => ?_⟩
    rcases h with h | h
    · exact h hr.1
    · exact hr.2 (fun _ => False) (fun q => h q) (fun a b _ q => q.elim)
  rw [e_X12_laysReached, e1, h_X12_laysReached_2, gr_149_40 hG, gl_181 hG, if_neg (by omega), if_pos (by omega), if_pos (by omega), if_pos (by omega), if_pos (by omega), t_cellMany (d + 1) hG hP1 hO, (mPlan_at hP1).2.2.2.2.2]
  simp only [Option.bind_some, Int.reduceLE, reduceIte]
  by_cases hp : pCe P = 0
  · rw [if_pos hp]
    exact ⟨X1, rfl, none_r (Or.inl (by omega)), a1⟩
  · have hsC : inP P (pS P) := by
      have hz := mod_in hO (c := 0) ⟨Int.le_refl 0, by omega⟩
      rw [Int.zero_emod] at hz
      exact ⟨by omega, by omega⟩
    rw [if_neg hp, t_isOpen (d + 1) (pS P) hG hγ1 (by omega) (by omega)]
    simp only [Option.bind_some]
    rcases b01_or (opn (gCe γ) (pS P)) with ⟨e, ho⟩ | ⟨e, ho⟩
    · rw [if_pos e]
      exact ⟨X1, rfl, none_r (Or.inr ho), a1⟩
    · rw [if_neg (by omega), gr_149_63 hG, gl_192 hG]
      simp only [Int.reduceLE, reduceIte]
      rw [if_pos (by omega), if_pos (by omega)]
      have hI : IR P (gCe γ) (jup X1 192 (pS P) 1) := by
        refine ⟨fun c q0 q1 => ?_, fun c q0 q1 q2 => ?_, jup_same _ _ _ _⟩
        · by_cases q : c = pS P
          · rw [q, jup_same]; exact Or.inr rfl
          · rw [jup_row _ _ _ _ _ q]; exact Or.inl (hz c q0 q1)
        · by_cases q : c = pS P
          · rw [q]; exact ⟨hsC, by omega, fun Z h1 h2 => h1 ho⟩
          · rw [jup_row _ _ _ _ _ q, hz c q0 q1] at q2; omega
      have h3 := cnt_le (f := jup X1 192 (pS P) 1 192) (n := 48) hI.1
      obtain ⟨X', e', c1, c2⟩ := t_lays_out d hG hO (by omega) (pS P) (48 - cnt (jup X1 192 (pS P) 1 192) 48).toNat (jup X1 192 (pS P) 1) (2, -1) (Or.inl rfl) (mPlan_fr (fun a h1 h2 => jup_rw _ _ _ _ _ (by omega)) (by rw [jup_rw _ _ _ _ _ (by omega)]) hP1) (mGr_fr (jup_rw _ _ _ _ _ (by omega)) hγ1) hI (by omega)
      exact ⟨X', e', c1, fun k hk => by rw [c2 k hk, jup_rw _ _ _ _ _ hk, a1 k hk]⟩
theorem t_whyNot (d : Nat) {G : jG} {X : jX} {P : aP} {γ : aG} (c : Int) (hG : GG G) (hP : mPlan X P) (hO : pOk P) (hi : inP P c) (hγ : mGr X 190 0 γ) (hr : isRc P (gCe γ) (X 192)) : ∃ X', jD (d + 6) 243 [(22, 149), (0, c)] (G, X) = some (why P (gCe γ) c, (G, X')) ∧ mfE X X' := by
  have hcc := pCe_le hO
  obtain ⟨h0, h1⟩ := id hi
  rw [e_X12_whyNot, t_whatIs (d + 4) c hG hγ h0 (by omega)]
  simp only [Option.bind_some, Int.reduceLE, reduceIte]
  unfold why
  by_cases hz : gCe γ c = 0
  · have q0 : ¬ gCe γ c ≠ 0 := fun q => q hz
    rw [if_pos hz, if_neg q0, gr_149_40 hG, gl_181 hG, (mPlan_at hP).2.2.2.2.2]
    simp only [Int.reduceLE, Int.reduceLT, reduceIte]
    obtain ⟨X1, e1, f1⟩ := t_mayBe d c hG hP hO hi hγ
    have fin : ∃ X', (if b01 (may P (gCe γ) c) = 0 then some ((3 : Int), (G, X1)) else some (0, (G, X1))) = some (@ite Int (may P (gCe γ) c) (Classical.propDecidable _) 0 3, (G, X')) ∧ mfE X X' := by
      refine ⟨X1, ?_, f1⟩
      rcases b01_or (may P (gCe γ) c) with ⟨e, h⟩ | ⟨e, h⟩
      · rw [if_pos e, if_neg h]
      · rw [if_neg (by omega), if_pos h]
    by_cases hs : c = pS P
    · rw [if_pos hs, if_neg (show ¬ (c ≠ pS P ∧ ¬ bsR P (gCe γ) c) from fun q => q.1 hs), e1]
      simp only [Option.bind_some]
      exact fin
    · rw [if_neg hs, t_isBeside (d + 2) c hG hP hO hi]
      simp only [Option.bind_some]
      have hbr : (∃ b, bsd P c b ∧ X 192 b ≠ 0) ↔ bsR P (gCe γ) c := by
        constructor
        · rintro ⟨b, hb, hx⟩
          have hbi := bsd_in hO hi hb
          rcases hr b hbi.1 (by have := hbi.2; omega) with ⟨q, -⟩ | ⟨-, q⟩
          · exact absurd q hx
          · exact ⟨b, hb, q⟩
        · rintro ⟨b, hb, hx⟩
          have hbi := bsd_in hO hi hb
          rcases hr b hbi.1 (by have := hbi.2; omega) with ⟨-, q⟩ | ⟨q, -⟩
          · exact absurd hx q
          · exact ⟨b, hb, by omega⟩
      rw [propext hbr]
      rcases b01_or (bsR P (gCe γ) c) with ⟨e2, h⟩ | ⟨e2, h⟩
      · rw [if_pos e2, if_pos (show c ≠ pS P ∧ ¬ bsR P (gCe γ) c from ⟨hs, h⟩)]
        exact ⟨X, rfl, mfE_r X⟩
      · rw [if_neg (show ¬ b01 (bsR P (gCe γ) c) = 0 by omega), if_neg (show ¬ (c ≠ pS P ∧ ¬ bsR P (gCe γ) c) from fun q => q.2 h), e1]
        simp only [Option.bind_some]
        exact fin
  · rw [if_neg hz, if_pos hz]
    exact ⟨X, rfl, mfE_r X⟩
