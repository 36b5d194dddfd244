/-! PIT: the reference, its own words and names -/
def mf9 (X X' : jX) : Prop := (∀ k, k ≠ 149 → X' k = X k) ∧ ∀ j, j ≠ 2 → ¬ (4 ≤ j ∧ j ≤ 6) → j ≠ 39 → X' 149 j = X 149 j
theorem mf9_r (X : jX) : mf9 X X := ⟨fun _ _ => rfl, fun _ _ _ _ => rfl⟩
theorem mf9_t {X Y Z : jX} (h1 : mf9 X Y) (h2 : mf9 Y Z) : mf9 X Z := ⟨fun k a => by rw [h2.1 k a, h1.1 k a], fun j a b c => by rw [h2.2 j a b c, h1.2 j a b c]⟩
theorem mf9_0 {X Y : jX} (h : mf0 X Y) : mf9 X Y := ⟨fun k a => h.1 k a, fun j a b _ => h.2 j a b⟩
theorem mf9_u {X : jX} {j v : Int} (h : j = 2 ∨ (4 ≤ j ∧ j ≤ 6) ∨ j = 39) : mf9 X (jup X 149 j v) := ⟨fun k a => jup_rw _ _ _ _ _ a, fun i a b c => jup_row _ _ _ _ _ (by omega)⟩
theorem mB_9 {X X' : jX} {T : aT} (h : mf9 X X') (hB : mB X T) : mB X' T := by
  obtain ⟨⟨a, b⟩, c⟩ := hB
  refine ⟨⟨by rw [h.2 3 (by omega) (by omega) (by omega)]; exact a, fun i i0 i1 => by rw [h.1 150 (by omega)]; exact b i i0 i1⟩, mWd_fr (fun a ha => h.1 a (by omega)) c⟩
theorem o_299 (d : Nat) {G : jG} {Y : jX} {T : aT} {κ : aK} (hG : GG G) (hT : okT T) (hB : mB Y T) (hk : mK Y T κ) (h5 : Y 149 5 = 0) (hl : lk Y κ = Y) (v1 s0 : Int) (u : jV) (hu : u = (0, v1)) : (s0 = 0 → jN (d + 2) 200 299 [(22, 149), u] [(0, s0)] (G, Y) = some (if 24 ≤ wd T κ ∧ wd T κ ≤ 28 then 1 else 0, (G, Y))) ∧ (s0 = 1 → jN (d + 2) 200 299 [(22, 149), u] [(0, s0)] (G, Y) = some (1, (G, Y))) := by
  have t24 : jD (d + 2) 194 [(22, 149), (23, 176)] (G, Y) = some (if wd T κ = 24 then 1 else 0, (G, Y)) := by have := t_isW d hG hT hB hk h5 176 24 (by decide); rw [hl] at this; exact this
  have t25 : jD (d + 2) 194 [(22, 149), (23, 177)] (G, Y) = some (if wd T κ = 25 then 1 else 0, (G, Y)) := by have := t_isW d hG hT hB hk h5 177 25 (by decide); rw [hl] at this; exact this
  have t26 : jD (d + 2) 194 [(22, 149), (23, 178)] (G, Y) = some (if wd T κ = 26 then 1 else 0, (G, Y)) := by have := t_isW d hG hT hB hk h5 178 26 (by decide); rw [hl] at this; exact this
  have t27 : jD (d + 2) 194 [(22, 149), (23, 179)] (G, Y) = some (if wd T κ = 27 then 1 else 0, (G, Y)) := by have := t_isW d hG hT hB hk h5 179 27 (by decide); rw [hl] at this; exact this
  have t28 : jD (d + 2) 194 [(22, 149), (23, 180)] (G, Y) = some (if wd T κ = 28 then 1 else 0, (G, Y)) := by have := t_isW d hG hT hB hk h5 180 28 (by decide); rw [hl] at this; exact this
  have n1 : ∀ v, jN (d + 2) 200 364 [(22, 149), (0, v)] [(0, 1)] (G, Y) = some (1, (G, Y)) := fun v => by rw [h_X12_isOwnHere_364, if_neg (by omega), if_pos rfl]
  have n0 : ∀ v, jN (d + 2) 200 364 [(22, 149), (0, v)] [(0, 0)] (G, Y) = some (if 29 ≤ wd T κ ∧ wd T κ ≤ 28 then 1 else 0, (G, Y)) := fun v => by rw [h_X12_isOwnHere_364, if_pos rfl, if_neg (show ¬ (29 ≤ wd T κ ∧ wd T κ ≤ 28) by omega)]
  subst hu
  refine ⟨fun hs => ?_, fun hs => ?_⟩
  · rw [h_X12_isOwnHere_299, if_pos hs]
    simp only [Int.reduceLE, reduceIte]
    rw [gr_149_34 hG, t24]
    simp only [Option.bind_some]
    by_cases q24 : wd T κ = 24
    · rw [if_pos q24, if_neg (show ¬ (1 : Int) = 0 by omega), h_X12_isOwnHere_359, n1, if_pos (by omega)]
    · rw [if_neg q24, if_pos (show (0 : Int) = 0 from rfl)]
      rw [gr_149_35 hG, t25]
      simp only [Option.bind_some]
      by_cases q25 : wd T κ = 25
      · rw [if_pos q25, if_neg (show ¬ (1 : Int) = 0 by omega), h_X12_isOwnHere_359, n1, if_pos (by omega)]
      · rw [if_neg q25, if_pos (show (0 : Int) = 0 from rfl)]
        rw [gr_149_36 hG, t26]
        simp only [Option.bind_some]
        by_cases q26 : wd T κ = 26
        · rw [if_pos q26, if_neg (show ¬ (1 : Int) = 0 by omega), h_X12_isOwnHere_359, n1, if_pos (by omega)]
        · rw [if_neg q26, if_pos (show (0 : Int) = 0 from rfl)]
          rw [gr_149_37 hG, t27]
          simp only [Option.bind_some]
          by_cases q27 : wd T κ = 27
          · rw [if_pos q27, if_neg (show ¬ (1 : Int) = 0 by omega), h_X12_isOwnHere_359, n1, if_pos (by omega)]
          · rw [if_neg q27, if_pos (show (0 : Int) = 0 from rfl)]
            rw [gr_149_38 hG, t28]
            simp only [Option.bind_some]
            by_cases q28 : wd T κ = 28
            · rw [if_pos q28, if_neg (show ¬ (1 : Int) = 0 by omega), h_X12_isOwnHere_359, n1, if_pos (by omega)]
            · rw [if_neg q28, if_pos (show (0 : Int) = 0 from rfl)]
              rw [n0]
              by_cases z : 29 ≤ wd T κ ∧ wd T κ ≤ 28
              · rw [if_pos z, if_pos (by omega)]
              · rw [if_neg z, if_neg (by omega)]
  · rw [h_X12_isOwnHere_299, if_neg (by omega), h_X12_isOwnHere_359]; exact n1 _
theorem o_223 (d : Nat) {G : jG} {Y : jX} {T : aT} {κ : aK} (hG : GG G) (hT : okT T) (hB : mB Y T) (hk : mK Y T κ) (h5 : Y 149 5 = 0) (hl : lk Y κ = Y) (v1 s0 : Int) (u : jV) (hu : u = (0, v1)) : (s0 = 0 → jN (d + 2) 200 223 [(22, 149), u] [(0, s0)] (G, Y) = some (if 18 ≤ wd T κ ∧ wd T κ ≤ 28 then 1 else 0, (G, Y))) ∧ (s0 = 1 → jN (d + 2) 200 223 [(22, 149), u] [(0, s0)] (G, Y) = some (1, (G, Y))) := by
  have t18 : jD (d + 2) 194 [(22, 149), (23, 170)] (G, Y) = some (if wd T κ = 18 then 1 else 0, (G, Y)) := by have := t_isW d hG hT hB hk h5 170 18 (by decide); rw [hl] at this; exact this
  have t19 : jD (d + 2) 194 [(22, 149), (23, 171)] (G, Y) = some (if wd T κ = 19 then 1 else 0, (G, Y)) := by have := t_isW d hG hT hB hk h5 171 19 (by decide); rw [hl] at this; exact this
  have t20 : jD (d + 2) 194 [(22, 149), (23, 172)] (G, Y) = some (if wd T κ = 20 then 1 else 0, (G, Y)) := by have := t_isW d hG hT hB hk h5 172 20 (by decide); rw [hl] at this; exact this
  have t21 : jD (d + 2) 194 [(22, 149), (23, 173)] (G, Y) = some (if wd T κ = 21 then 1 else 0, (G, Y)) := by have := t_isW d hG hT hB hk h5 173 21 (by decide); rw [hl] at this; exact this
  have t22 : jD (d + 2) 194 [(22, 149), (23, 174)] (G, Y) = some (if wd T κ = 22 then 1 else 0, (G, Y)) := by have := t_isW d hG hT hB hk h5 174 22 (by decide); rw [hl] at this; exact this
  have t23 : jD (d + 2) 194 [(22, 149), (23, 175)] (G, Y) = some (if wd T κ = 23 then 1 else 0, (G, Y)) := by have := t_isW d hG hT hB hk h5 175 23 (by decide); rw [hl] at this; exact this
  have n1 : ∀ v, jN (d + 2) 200 299 [(22, 149), (0, v)] [(0, 1)] (G, Y) = some (1, (G, Y)) := fun v => (o_299 d hG hT hB hk h5 hl v 1 (0, v) rfl).2 rfl
  have n0 : ∀ v, jN (d + 2) 200 299 [(22, 149), (0, v)] [(0, 0)] (G, Y) = some (if 24 ≤ wd T κ ∧ wd T κ ≤ 28 then 1 else 0, (G, Y)) := fun v => (o_299 d hG hT hB hk h5 hl v 0 (0, v) rfl).1 rfl
  subst hu
  refine ⟨fun hs => ?_, fun hs => ?_⟩
  · rw [h_X12_isOwnHere_223, if_pos hs]
    simp only [Int.reduceLE, reduceIte]
    rw [gr_149_28 hG, t18]
    simp only [Option.bind_some]
    by_cases q18 : wd T κ = 18
    · rw [if_pos q18, if_neg (show ¬ (1 : Int) = 0 by omega), h_X12_isOwnHere_294, n1, if_pos (by omega)]
    · rw [if_neg q18, if_pos (show (0 : Int) = 0 from rfl)]
      rw [gr_149_29 hG, t19]
      simp only [Option.bind_some]
      by_cases q19 : wd T κ = 19
      · rw [if_pos q19, if_neg (show ¬ (1 : Int) = 0 by omega), h_X12_isOwnHere_294, n1, if_pos (by omega)]
      · rw [if_neg q19, if_pos (show (0 : Int) = 0 from rfl)]
        rw [gr_149_30 hG, t20]
        simp only [Option.bind_some]
        by_cases q20 : wd T κ = 20
        · rw [if_pos q20, if_neg (show ¬ (1 : Int) = 0 by omega), h_X12_isOwnHere_294, n1, if_pos (by omega)]
        · rw [if_neg q20, if_pos (show (0 : Int) = 0 from rfl)]
          rw [gr_149_31 hG, t21]
          simp only [Option.bind_some]
          by_cases q21 : wd T κ = 21
          · rw [if_pos q21, if_neg (show ¬ (1 : Int) = 0 by omega), h_X12_isOwnHere_294, n1, if_pos (by omega)]
          · rw [if_neg q21, if_pos (show (0 : Int) = 0 from rfl)]
            rw [gr_149_32 hG, t22]
            simp only [Option.bind_some]
            by_cases q22 : wd T κ = 22
            · rw [if_pos q22, if_neg (show ¬ (1 : Int) = 0 by omega), h_X12_isOwnHere_294, n1, if_pos (by omega)]
            · rw [if_neg q22, if_pos (show (0 : Int) = 0 from rfl)]
              rw [gr_149_33 hG, t23]
              simp only [Option.bind_some]
              by_cases q23 : wd T κ = 23
              · rw [if_pos q23, if_neg (show ¬ (1 : Int) = 0 by omega), h_X12_isOwnHere_294, n1, if_pos (by omega)]
              · rw [if_neg q23, if_pos (show (0 : Int) = 0 from rfl)]
                rw [n0]
                by_cases z : 24 ≤ wd T κ ∧ wd T κ ≤ 28
                · rw [if_pos z, if_pos (by omega)]
                · rw [if_neg z, if_neg (by omega)]
  · rw [h_X12_isOwnHere_223, if_neg (by omega), h_X12_isOwnHere_294]; exact n1 _
theorem o_147 (d : Nat) {G : jG} {Y : jX} {T : aT} {κ : aK} (hG : GG G) (hT : okT T) (hB : mB Y T) (hk : mK Y T κ) (h5 : Y 149 5 = 0) (hl : lk Y κ = Y) (v1 s0 : Int) (u : jV) (hu : u = (0, v1)) : (s0 = 0 → jN (d + 2) 200 147 [(22, 149), u] [(0, s0)] (G, Y) = some (if 12 ≤ wd T κ ∧ wd T κ ≤ 28 then 1 else 0, (G, Y))) ∧ (s0 = 1 → jN (d + 2) 200 147 [(22, 149), u] [(0, s0)] (G, Y) = some (1, (G, Y))) := by
  have t12 : jD (d + 2) 194 [(22, 149), (23, 164)] (G, Y) = some (if wd T κ = 12 then 1 else 0, (G, Y)) := by have := t_isW d hG hT hB hk h5 164 12 (by decide); rw [hl] at this; exact this
  have t13 : jD (d + 2) 194 [(22, 149), (23, 165)] (G, Y) = some (if wd T κ = 13 then 1 else 0, (G, Y)) := by have := t_isW d hG hT hB hk h5 165 13 (by decide); rw [hl] at this; exact this
  have t14 : jD (d + 2) 194 [(22, 149), (23, 166)] (G, Y) = some (if wd T κ = 14 then 1 else 0, (G, Y)) := by have := t_isW d hG hT hB hk h5 166 14 (by decide); rw [hl] at this; exact this
  have t15 : jD (d + 2) 194 [(22, 149), (23, 167)] (G, Y) = some (if wd T κ = 15 then 1 else 0, (G, Y)) := by have := t_isW d hG hT hB hk h5 167 15 (by decide); rw [hl] at this; exact this
  have t16 : jD (d + 2) 194 [(22, 149), (23, 168)] (G, Y) = some (if wd T κ = 16 then 1 else 0, (G, Y)) := by have := t_isW d hG hT hB hk h5 168 16 (by decide); rw [hl] at this; exact this
  have t17 : jD (d + 2) 194 [(22, 149), (23, 169)] (G, Y) = some (if wd T κ = 17 then 1 else 0, (G, Y)) := by have := t_isW d hG hT hB hk h5 169 17 (by decide); rw [hl] at this; exact this
  have n1 : ∀ v, jN (d + 2) 200 223 [(22, 149), (0, v)] [(0, 1)] (G, Y) = some (1, (G, Y)) := fun v => (o_223 d hG hT hB hk h5 hl v 1 (0, v) rfl).2 rfl
  have n0 : ∀ v, jN (d + 2) 200 223 [(22, 149), (0, v)] [(0, 0)] (G, Y) = some (if 18 ≤ wd T κ ∧ wd T κ ≤ 28 then 1 else 0, (G, Y)) := fun v => (o_223 d hG hT hB hk h5 hl v 0 (0, v) rfl).1 rfl
  subst hu
  refine ⟨fun hs => ?_, fun hs => ?_⟩
  · rw [h_X12_isOwnHere_147, if_pos hs]
    simp only [Int.reduceLE, reduceIte]
    rw [gr_149_22 hG, t12]
    simp only [Option.bind_some]
    by_cases q12 : wd T κ = 12
    · rw [if_pos q12, if_neg (show ¬ (1 : Int) = 0 by omega), h_X12_isOwnHere_218, n1, if_pos (by omega)]
    · rw [if_neg q12, if_pos (show (0 : Int) = 0 from rfl)]
      rw [gr_149_23 hG, t13]
      simp only [Option.bind_some]
      by_cases q13 : wd T κ = 13
      · rw [if_pos q13, if_neg (show ¬ (1 : Int) = 0 by omega), h_X12_isOwnHere_218, n1, if_pos (by omega)]
      · rw [if_neg q13, if_pos (show (0 : Int) = 0 from rfl)]
        rw [gr_149_24 hG, t14]
        simp only [Option.bind_some]
        by_cases q14 : wd T κ = 14
        · rw [if_pos q14, if_neg (show ¬ (1 : Int) = 0 by omega), h_X12_isOwnHere_218, n1, if_pos (by omega)]
        · rw [if_neg q14, if_pos (show (0 : Int) = 0 from rfl)]
          rw [gr_149_25 hG, t15]
          simp only [Option.bind_some]
          by_cases q15 : wd T κ = 15
          · rw [if_pos q15, if_neg (show ¬ (1 : Int) = 0 by omega), h_X12_isOwnHere_218, n1, if_pos (by omega)]
          · rw [if_neg q15, if_pos (show (0 : Int) = 0 from rfl)]
            rw [gr_149_26 hG, t16]
            simp only [Option.bind_some]
            by_cases q16 : wd T κ = 16
            · rw [if_pos q16, if_neg (show ¬ (1 : Int) = 0 by omega), h_X12_isOwnHere_218, n1, if_pos (by omega)]
            · rw [if_neg q16, if_pos (show (0 : Int) = 0 from rfl)]
              rw [gr_149_27 hG, t17]
              simp only [Option.bind_some]
              by_cases q17 : wd T κ = 17
              · rw [if_pos q17, if_neg (show ¬ (1 : Int) = 0 by omega), h_X12_isOwnHere_218, n1, if_pos (by omega)]
              · rw [if_neg q17, if_pos (show (0 : Int) = 0 from rfl)]
                rw [n0]
                by_cases z : 18 ≤ wd T κ ∧ wd T κ ≤ 28
                · rw [if_pos z, if_pos (by omega)]
                · rw [if_neg z, if_neg (by omega)]
  · rw [h_X12_isOwnHere_147, if_neg (by omega), h_X12_isOwnHere_218]; exact n1 _
theorem o_71 (d : Nat) {G : jG} {Y : jX} {T : aT} {κ : aK} (hG : GG G) (hT : okT T) (hB : mB Y T) (hk : mK Y T κ) (h5 : Y 149 5 = 0) (hl : lk Y κ = Y) (s0 : Int) : (s0 = 0 → jN (d + 2) 200 71 [(22, 149), (2, (-1))] [(0, s0)] (G, Y) = some (if 6 ≤ wd T κ ∧ wd T κ ≤ 28 then 1 else 0, (G, Y))) ∧ (s0 = 1 → jN (d + 2) 200 71 [(22, 149), (2, (-1))] [(0, s0)] (G, Y) = some (1, (G, Y))) := by
  have t6 : jD (d + 2) 194 [(22, 149), (23, 158)] (G, Y) = some (if wd T κ = 6 then 1 else 0, (G, Y)) := by have := t_isW d hG hT hB hk h5 158 6 (by decide); rw [hl] at this; exact this
  have t7 : jD (d + 2) 194 [(22, 149), (23, 159)] (G, Y) = some (if wd T κ = 7 then 1 else 0, (G, Y)) := by have := t_isW d hG hT hB hk h5 159 7 (by decide); rw [hl] at this; exact this
  have t8 : jD (d + 2) 194 [(22, 149), (23, 160)] (G, Y) = some (if wd T κ = 8 then 1 else 0, (G, Y)) := by have := t_isW d hG hT hB hk h5 160 8 (by decide); rw [hl] at this; exact this
  have t9 : jD (d + 2) 194 [(22, 149), (23, 161)] (G, Y) = some (if wd T κ = 9 then 1 else 0, (G, Y)) := by have := t_isW d hG hT hB hk h5 161 9 (by decide); rw [hl] at this; exact this
  have t10 : jD (d + 2) 194 [(22, 149), (23, 162)] (G, Y) = some (if wd T κ = 10 then 1 else 0, (G, Y)) := by have := t_isW d hG hT hB hk h5 162 10 (by decide); rw [hl] at this; exact this
  have t11 : jD (d + 2) 194 [(22, 149), (23, 163)] (G, Y) = some (if wd T κ = 11 then 1 else 0, (G, Y)) := by have := t_isW d hG hT hB hk h5 163 11 (by decide); rw [hl] at this; exact this
  have n1 : ∀ v, jN (d + 2) 200 147 [(22, 149), (0, v)] [(0, 1)] (G, Y) = some (1, (G, Y)) := fun v => (o_147 d hG hT hB hk h5 hl v 1 (0, v) rfl).2 rfl
  have n0 : ∀ v, jN (d + 2) 200 147 [(22, 149), (0, v)] [(0, 0)] (G, Y) = some (if 12 ≤ wd T κ ∧ wd T κ ≤ 28 then 1 else 0, (G, Y)) := fun v => (o_147 d hG hT hB hk h5 hl v 0 (0, v) rfl).1 rfl
  refine ⟨fun hs => ?_, fun hs => ?_⟩
  · rw [h_X12_isOwnHere_71, if_pos hs]
    simp only [Int.reduceLE, reduceIte]
    rw [gr_149_16 hG, t6]
    simp only [Option.bind_some]
    by_cases q6 : wd T κ = 6
    · rw [if_pos q6, if_neg (show ¬ (1 : Int) = 0 by omega), h_X12_isOwnHere_142, n1, if_pos (by omega)]
    · rw [if_neg q6, if_pos (show (0 : Int) = 0 from rfl)]
      rw [gr_149_17 hG, t7]
      simp only [Option.bind_some]
      by_cases q7 : wd T κ = 7
      · rw [if_pos q7, if_neg (show ¬ (1 : Int) = 0 by omega), h_X12_isOwnHere_142, n1, if_pos (by omega)]
      · rw [if_neg q7, if_pos (show (0 : Int) = 0 from rfl)]
        rw [gr_149_18 hG, t8]
        simp only [Option.bind_some]
        by_cases q8 : wd T κ = 8
        · rw [if_pos q8, if_neg (show ¬ (1 : Int) = 0 by omega), h_X12_isOwnHere_142, n1, if_pos (by omega)]
        · rw [if_neg q8, if_pos (show (0 : Int) = 0 from rfl)]
          rw [gr_149_19 hG, t9]
          simp only [Option.bind_some]
          by_cases q9 : wd T κ = 9
          · rw [if_pos q9, if_neg (show ¬ (1 : Int) = 0 by omega), h_X12_isOwnHere_142, n1, if_pos (by omega)]
          · rw [if_neg q9, if_pos (show (0 : Int) = 0 from rfl)]
            rw [gr_149_20 hG, t10]
            simp only [Option.bind_some]
            by_cases q10 : wd T κ = 10
            · rw [if_pos q10, if_neg (show ¬ (1 : Int) = 0 by omega), h_X12_isOwnHere_142, n1, if_pos (by omega)]
            · rw [if_neg q10, if_pos (show (0 : Int) = 0 from rfl)]
              rw [gr_149_21 hG, t11]
              simp only [Option.bind_some]
              by_cases q11 : wd T κ = 11
              · rw [if_pos q11, if_neg (show ¬ (1 : Int) = 0 by omega), h_X12_isOwnHere_142, n1, if_pos (by omega)]
              · rw [if_neg q11, if_pos (show (0 : Int) = 0 from rfl)]
                rw [n0]
                by_cases z : 12 ≤ wd T κ ∧ wd T κ ≤ 28
                · rw [if_pos z, if_pos (by omega)]
                · rw [if_neg z, if_neg (by omega)]
  · rw [h_X12_isOwnHere_71, if_neg (by omega), h_X12_isOwnHere_142]; exact n1 _
theorem t_isOwn (d : Nat) {G : jG} {X : jX} {T : aT} {κ : aK} (hG : GG G) (hT : okT T) (hB : mB X T) (hk : mK X T κ) (h5 : X 149 5 = 0) : jD (d + 3) 200 [(22, 149)] (G, X) = some (if 0 ≤ wd T κ ∧ wd T κ ≤ 28 then 1 else 0, (G, lk X κ)) := by
  have tX : jD (d + 2) 194 [(22, 149), (23, 152)] (G, X) = some (if wd T κ = 0 then 1 else 0, (G, lk X κ)) := t_isW d hG hT hB hk h5 152 0 (by decide)
  have hB' := mB_0 (lk_0 X κ) hB
  have hk' := lk_K hk
  have h5' : lk X κ 149 5 = 0 := by rw [lk_j X κ 5 (by omega)]; exact h5
  have hl := lk_lk X κ
  generalize lk X κ = Y at *
  have t1 : jD (d + 2) 194 [(22, 149), (23, 153)] (G, Y) = some (if wd T κ = 1 then 1 else 0, (G, Y)) := by have := t_isW d hG hT hB' hk' h5' 153 1 (by decide); rw [hl] at this; exact this
  have t2 : jD (d + 2) 194 [(22, 149), (23, 154)] (G, Y) = some (if wd T κ = 2 then 1 else 0, (G, Y)) := by have := t_isW d hG hT hB' hk' h5' 154 2 (by decide); rw [hl] at this; exact this
  have t3 : jD (d + 2) 194 [(22, 149), (23, 155)] (G, Y) = some (if wd T κ = 3 then 1 else 0, (G, Y)) := by have := t_isW d hG hT hB' hk' h5' 155 3 (by decide); rw [hl] at this; exact this
  have t4 : jD (d + 2) 194 [(22, 149), (23, 156)] (G, Y) = some (if wd T κ = 4 then 1 else 0, (G, Y)) := by have := t_isW d hG hT hB' hk' h5' 156 4 (by decide); rw [hl] at this; exact this
  have t5 : jD (d + 2) 194 [(22, 149), (23, 157)] (G, Y) = some (if wd T κ = 5 then 1 else 0, (G, Y)) := by have := t_isW d hG hT hB' hk' h5' 157 5 (by decide); rw [hl] at this; exact this
  have n1 : jN (d + 2) 200 71 [(22, 149), (2, (-1))] [(0, 1)] (G, Y) = some (1, (G, Y)) := (o_71 d hG hT hB' hk' h5' hl 1).2 rfl
  have n0 : jN (d + 2) 200 71 [(22, 149), (2, (-1))] [(0, 0)] (G, Y) = some (if 6 ≤ wd T κ ∧ wd T κ ≤ 28 then 1 else 0, (G, Y)) := (o_71 d hG hT hB' hk' h5' hl 0).1 rfl
  rw [e_X12_isOwnHere]
  simp only [Int.reduceLE, reduceIte]
  rw [gr_149_10 hG, tX]
  simp only [Option.bind_some]
  by_cases q0 : wd T κ = 0
  · rw [if_pos q0, if_neg (show ¬ (1 : Int) = 0 by omega), h_X12_isOwnHere_66, n1, if_pos (by omega)]
  · rw [if_neg q0, if_pos (show (0 : Int) = 0 from rfl)]
    rw [gr_149_11 hG, t1]
    simp only [Option.bind_some]
    by_cases q1 : wd T κ = 1
    · rw [if_pos q1, if_neg (show ¬ (1 : Int) = 0 by omega), h_X12_isOwnHere_66, n1, if_pos (by omega)]
    · rw [if_neg q1, if_pos (show (0 : Int) = 0 from rfl)]
      rw [gr_149_12 hG, t2]
      simp only [Option.bind_some]
      by_cases q2 : wd T κ = 2
      · rw [if_pos q2, if_neg (show ¬ (1 : Int) = 0 by omega), h_X12_isOwnHere_66, n1, if_pos (by omega)]
      · rw [if_neg q2, if_pos (show (0 : Int) = 0 from rfl)]
        rw [gr_149_13 hG, t3]
        simp only [Option.bind_some]
        by_cases q3 : wd T κ = 3
        · rw [if_pos q3, if_neg (show ¬ (1 : Int) = 0 by omega), h_X12_isOwnHere_66, n1, if_pos (by omega)]
        · rw [if_neg q3, if_pos (show (0 : Int) = 0 from rfl)]
          rw [gr_149_14 hG, t4]
          simp only [Option.bind_some]
          by_cases q4 : wd T κ = 4
          · rw [if_pos q4, if_neg (show ¬ (1 : Int) = 0 by omega), h_X12_isOwnHere_66, n1, if_pos (by omega)]
          · rw [if_neg q4, if_pos (show (0 : Int) = 0 from rfl)]
            rw [gr_149_15 hG, t5]
            simp only [Option.bind_some]
            by_cases q5 : wd T κ = 5
            · rw [if_pos q5, if_neg (show ¬ (1 : Int) = 0 by omega), h_X12_isOwnHere_66, n1, if_pos (by omega)]
            · rw [if_neg q5, if_pos (show (0 : Int) = 0 from rfl)]
              rw [n0]
              by_cases z : 6 ≤ wd T κ ∧ wd T κ ≤ 28
              · rw [if_pos z, if_pos (by omega)]
              · rw [if_neg z, if_neg (by omega)]
