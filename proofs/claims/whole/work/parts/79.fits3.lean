def nz74 (v0 v1 : Int) : Int := jadd v1 (iUshr v0 1)
def nz62 (v0 v1 : Int) : Int := if 4 < v0 then nz74 (iUshr v0 2) (jadd v1 2) else nz74 v0 v1
def nz49 (v0 v1 : Int) : Int := if 16 < v0 then nz62 (iUshr v0 4) (jadd v1 4) else nz62 v0 v1
def nz34 (v0 v1 : Int) : Int := if 256 < v0 then nz49 (iUshr v0 8) (jadd v1 8) else nz49 v0 v1
def nz0 (y : Int) : Int := if 0 < y then (if 65536 < y then nz34 (iUshr y 16) (jadd 1 16) else nz34 y 1) else iAnd y 32
theorem nz_k : ∀ k : Nat, k < 15 → nz0 ((2 ^ k - 1 : Nat) : Int) = k := by decide +kernel
theorem s_ntz (d : Nat) (a : Int) (G : jG) (X : jX) : jD (d + 1) 333 [(0, a)] (G, X) = some (nz0 (iAnd (iXor a (-1)) (jsub a 1)), (G, X)) := by
  have c74 : ∀ u v, jN d 333 74 [(0, u), (0, v)] [] (G, X) = some (nz74 u v, (G, X)) := fun u v => h_J6_numberOfTrailingZeros_0f7a4_74 d u v G X
  have c62 : ∀ u v, jN d 333 62 [(0, u), (0, v)] [] (G, X) = some (nz62 u v, (G, X)) := fun u v => by
    rw [h_J6_numberOfTrailingZeros_0f7a4_62, c74, c74]; unfold nz62; split <;> rfl
  have c49 : ∀ u v, jN d 333 49 [(0, u), (0, v)] [] (G, X) = some (nz49 u v, (G, X)) := fun u v => by
    rw [h_J6_numberOfTrailingZeros_0f7a4_49, c62, c62]; unfold nz49; split <;> rfl
  have c34 : ∀ u v, jN d 333 34 [(0, u), (0, v)] [] (G, X) = some (nz34 u v, (G, X)) := fun u v => by
    rw [h_J6_numberOfTrailingZeros_0f7a4_34, c49, c49]; unfold nz34; split <;> rfl
  rw [e_J6_numberOfTrailingZeros_0f7a4, c34, c34]
  generalize iAnd (iXor a (-1)) (jsub a 1) = y
  unfold nz0
  split
  · split <;> rfl
  · rfl
theorem bsN_32 (f : Int → Int) : bsN f 15 < 32768 := bsN_lt f 15
theorem cnt_pos {f : Int → Int} (h01 : ∀ c : Int, 0 ≤ c → f c = 0 ∨ f c = 1) (h : bsN f 15 ≠ 0) : 0 < cnt f 15 := by
  have h1 := pcF_cnt f h01 15
  have h2 := pcF_drop 15 (bsN f 15) (bsN_lt f 15) (by omega)
  omega
theorem kth_tz {f : Int → Int} (h01 : ∀ c : Int, 0 ≤ c → f c = 0 ∨ f c = 1) : ∀ (n i : Nat), i + n = 15 → 0 < cnt (fun k => f (i + k)) n → kth f n i 0 = i + tzF n (bsN f 15 / 2 ^ i) := by
  intro n
  induction n with
  | zero =>
    intro i h1 h2
    have h2' : (0 : Int) < 0 := h2
    omega
  | succ n ih =>
    intro i h1 h2
    have hb := bsN_at f 15 i (by omega)
    rw [cnt_sh] at h2
    show (if f i = 1 then (if (0 : Int) = 0 then (i : Int) else kth f n (i + 1) (0 - 1)) else kth f n (i + 1) 0) = (i : Int) + ((if bsN f 15 / 2 ^ i % 2 = 1 then 0 else 1 + tzF n (bsN f 15 / 2 ^ i / 2) : Nat) : Int)
    by_cases q : f i = 1
    · rw [if_pos q] at hb ⊢
      rw [if_pos rfl, if_pos hb]; omega
    · rw [if_neg q] at hb ⊢
      rw [if_neg (by omega), Nat.div_div_eq_div_mul, show 2 ^ i * 2 = 2 ^ (i + 1) by rw [Nat.pow_succ]]
      have q0 : f i = 0 := by
        rcases h01 i (by omega) with h | h
        · exact h
        · exact absurd h q
      have := ih (i + 1) (by omega) (by
        have e : (fun k : Int => f (((i + 1 : Nat) : Int) + k)) = fun k => f (i + (1 + k)) := by funext k; congr 1; omega
        rw [e]
        rw [Int.add_zero, q0] at h2
        omega)
      rw [show ((i + 1 : Nat) : Int) = (i : Int) + 1 by omega] at this
      rw [this]; omega
theorem call_fits (a : Int) : okB 173 288 [(0, a)] := by
  refine ⟨fun A => if a = 0 then cnt (ftf (aPl A) (aBn A) (aBr A)) 15 else if a = 1 then (bsN (ftf (aPl A) (aBn A) (aBr A)) 15 : Int) else if a = 2 then (if (bsN (ftf (aPl A) (aBn A) (aBr A)) 15 : Int) = 0 then -1 else kth (ftf (aPl A) (aBn A) (aBr A)) 15 0 0) else -1, fun A => A, fun d G X A hG hR hV => ?_, fun d G X A hG hR hV => ?_, fun A hV => hV⟩
  · dsimp only
    obtain ⟨r1, r2, r3, r4, r5, r6, r7, r8, r9, r10, r11⟩ := id hR
    have hO := hV.2.1
    have hb := hV.2.2.2.2.1
    have h01 := ftf_01 (aPl A) (aBn A) (aBr A)
    have hl := bsN_32 (ftf (aPl A) (aBn A) (aBr A))
    have fb := s_fitBits (d + 54) hG r3 hO r7 hb.1 hb.2.1 hb.2.2
    have fb' := s_fitBits (d + 53) hG r3 hO r7 hb.1 hb.2.1 hb.2.2
    have hsp : 256 * (bsN (ftf (aPl A) (aBn A) (aBr A)) 15 / 256) + bsN (ftf (aPl A) (aBn A) (aBr A)) 15 % 256 = bsN (ftf (aPl A) (aBn A) (aBr A)) 15 := Nat.div_add_mod _ _
    rw [e_X11_fits, gr_0_8 hG]
    refine ⟨G, X, ?_, hG, hR, fun _ _ => rfl⟩
    by_cases a0 : a = 0
    · rw [if_pos a0, if_pos a0, fb]
      simp only [Option.bind_some, Int.reduceLE, reduceIte]
      have hk := nb_k (bsN (ftf (aPl A) (aBn A) (aBr A)) 15 / 256) (by omega) (bsN (ftf (aPl A) (aBn A) (aBr A)) 15 % 256) (by omega)
      rw [hsp] at hk
      rw [s_bc (d + 58), bc_nat _ hl, hk, pcF_cnt _ h01 15]
      rfl
    · rw [if_neg a0, if_neg a0]
      by_cases a1 : a = 1
      · rw [if_pos a1, if_pos a1, fb]
        simp only [Option.bind_some, Int.reduceLE, reduceIte]
      · rw [if_neg a1, if_neg a1]
        by_cases a2 : a = 2
        · rw [if_pos a2, if_pos a2, e_X0_firstFit, fb']
          simp only [Option.bind_some, Int.reduceLE, reduceIte]
          by_cases z : (bsN (ftf (aPl A) (aBn A) (aBr A)) 15 : Int) = 0
          · rw [if_pos z, if_pos z]
            rfl
          · rw [if_neg z, if_neg z, s_ntz (d + 57)]
            have hk := tz_k (bsN (ftf (aPl A) (aBn A) (aBr A)) 15 / 256) (by omega) (bsN (ftf (aPl A) (aBn A) (aBr A)) 15 % 256) (by omega)
            rw [hsp] at hk
            rcases hk with hk | hk
            · exact absurd hk (by omega)
            · have hkt := kth_tz h01 15 0 rfl (by
                have e : (fun k : Int => ftf (aPl A) (aBn A) (aBr A) (((0 : Nat) : Int) + k)) = ftf (aPl A) (aBn A) (aBr A) := by funext k; congr 1; omega
                rw [e]; exact cnt_pos h01 (by omega))
              rw [y_nat (by omega) hl, hk.1, nz_k _ hk.2]
              rw [Nat.pow_zero, Nat.div_one] at hkt
              rw [show ((0 : Nat) : Int) = 0 from rfl, Int.zero_add] at hkt
              rw [hkt]
              rfl
        · rw [if_neg a2, if_neg a2]
  · dsimp only
    obtain ⟨r1, r2, r3, r4, r5, r6, r7, r8, r9, r10, r11⟩ := id hR
    have hO := hV.2.1
    have hb := hV.2.2.2.2.1
    have h01 := ftf_01 (aPl A) (aBn A) (aBr A)
    have fb := t_fitting (d + 54) hG r3 hO r7 hb.1 hb.2.1 hb.2.2
    refine ⟨X, ?_, hR, fun _ _ => rfl⟩
    rw [e_X12_fits, t_isIn (d + 58)]
    simp only [Option.bind_some]
    by_cases q : 0 ≤ a ∧ a ≤ 2
    · rw [if_pos q, if_neg (show ¬ (1 : Int) = 0 by omega), fb]
      simp only [Option.bind_some, Int.reduceLE, reduceIte]
      by_cases a0 : a = 0
      · rw [if_pos a0, if_pos a0, t_bitsOf (d + 58) _ 15 (by omega) h01]
        rfl
      · rw [if_neg a0, if_neg a0]
        by_cases a1 : a = 1
        · rw [if_pos a1, if_pos a1]
        · rw [if_neg a1, if_neg a1, if_pos (show a = 2 by omega)]
          by_cases z : (bsN (ftf (aPl A) (aBn A) (aBr A)) 15 : Int) = 0
          · rw [if_pos z, if_pos z]
          · rw [if_neg z, if_neg z, t_oneOf (d + 58) _ h01 15 (by omega) 0 (by omega) (cnt_pos h01 (by omega)) (by omega)]
            rfl
    · rw [if_neg q, if_pos rfl, if_neg (by omega), if_neg (by omega), if_neg (by omega)]
