/-! FEED: bytes -/
theorem bvn32 (z : Int) : (BitVec.ofInt 32 z).toNat = (z % 4294967296).toNat := by rw [BitVec.toNat_ofInt]; rfl
theorem iAnd_255 (x : Int) : iAnd x 255 = x % 256 := by
  unfold iAnd
  show (BitVec.ofInt 32 x &&& BitVec.ofNat 32 255).toInt = _
  have h : (BitVec.ofInt 32 x &&& BitVec.ofNat 32 255).toNat = (x % 4294967296).toNat % 256 := by
    rw [BitVec.toNat_and, bvn32]
    show (x % 4294967296).toNat &&& (2 ^ 8 - 1) = _
    rw [Nat.and_two_pow_sub_one_eq_mod]
  rw [BitVec.toInt_eq_toNat_of_lt (by rw [h]; omega), h]
  omega
theorem iUshr_24 (a : Int) : iUshr a 24 = a % 4294967296 / 16777216 := by
  show (BitVec.ofInt 32 a >>> 24).toInt = _
  have h : (BitVec.ofInt 32 a >>> 24).toNat = (a % 4294967296).toNat / 2 ^ 24 := by
    rw [BitVec.toNat_ushiftRight, bvn32, Nat.shiftRight_eq_div_pow]
  rw [BitVec.toInt_eq_toNat_of_lt (by rw [h]; omega), h]
  omega
theorem iUshr_16 (a : Int) : iUshr a 16 = a % 4294967296 / 65536 := by
  show (BitVec.ofInt 32 a >>> 16).toInt = _
  have h : (BitVec.ofInt 32 a >>> 16).toNat = (a % 4294967296).toNat / 2 ^ 16 := by
    rw [BitVec.toNat_ushiftRight, bvn32, Nat.shiftRight_eq_div_pow]
  rw [BitVec.toInt_eq_toNat_of_lt (by rw [h]; omega), h]
  omega
theorem iUshr_8 (a : Int) : iUshr a 8 = a % 4294967296 / 256 := by
  show (BitVec.ofInt 32 a >>> 8).toInt = _
  have h : (BitVec.ofInt 32 a >>> 8).toNat = (a % 4294967296).toNat / 2 ^ 8 := by
    rw [BitVec.toNat_ushiftRight, bvn32, Nat.shiftRight_eq_div_pow]
  rw [BitVec.toInt_eq_toNat_of_lt (by rw [h]; omega), h]
  omega
theorem bvi32 {a : Int} (h : j32 a) : (BitVec.ofInt 32 a).toInt = a := by
  unfold j32 at h
  rw [BitVec.toInt_ofInt]
  unfold Int.bmod
  simp only []
  omega
theorem iShr_k : ∀ c : Nat, c < 32 → (Int32.ofInt c &&& 31).toBitVec.smod 32 = BitVec.ofNat 32 c := by decide +kernel
theorem iShr_div {a : Int} (c : Nat) (hc : c < 32) (h : j32 a) : iShr a c = a / 2 ^ c := by
  unfold iShr
  show ((Int32.ofInt a).toBitVec.sshiftRight' ((Int32.ofInt c &&& 31).toBitVec.smod 32)).toInt = _
  rw [iShr_k c hc, i32_bv]
  show ((BitVec.ofInt 32 a).sshiftRight (BitVec.ofNat 32 c).toNat).toInt = _
  rw [BitVec.toInt_sshiftRight, bvi32 h, BitVec.toNat_ofNat, Nat.mod_eq_of_lt (Nat.lt_of_lt_of_le hc (by decide)), Int.shiftRight_eq_div_pow]
  simp
/-- pushed behind a tape: the cell p, its bytes b -/
def psh (p b : Int) : List Int → jX → jX
  | [], X => X
  | v :: l, X => psh p b l (jup (jup X b (X p 1) (v % 256)) p 1 (X p 1 + 1))
theorem psh_app (p b : Int) : ∀ (l l' : List Int) (X : jX), psh p b l' (psh p b l X) = psh p b (l ++ l') X
  | [], _, _ => rfl
  | _ :: l, l', _ => psh_app p b l l' _
theorem psh_ok {p b : Int} (hpb : p ≠ b) : ∀ (l : List Int) (X : jX) (n : Int), X p 1 = n → psh p b l X p 1 = n + l.length ∧ (∀ k, k ≠ p → k ≠ b → psh p b l X k = X k) ∧ ∀ i, psh p b l X b i = if n ≤ i ∧ i < n + l.length then l.getD (i - n).toNat 0 % 256 else X b i
  | [], X, n, h => ⟨by show X p 1 = n + 0; omega, fun _ _ _ => rfl, fun i => by rw [List.length_nil, if_neg (by omega)]; rfl⟩
  | v :: l, X, n, h => by
    obtain ⟨h1, h2, h3⟩ := psh_ok hpb l (jup (jup X b (X p 1) (v % 256)) p 1 (X p 1 + 1)) (n + 1) (by rw [jup_same, h])
    refine ⟨?_, fun k k0 k1 => ?_, fun i => ?_⟩
    · show psh p b l _ p 1 = _
      rw [h1, List.length_cons]; omega
    · show psh p b l _ k = _
      rw [h2 k k0 k1, jup_rw _ _ _ _ _ k0, jup_rw _ _ _ _ _ k1]
    · show psh p b l _ b i = _
      rw [h3 i, jup_rw _ _ _ _ _ (Ne.symm hpb), h, List.length_cons]
      by_cases q : i = n
      · rw [if_neg (by omega), if_pos (by omega), q, jup_same]
        simp
      · rw [jup_row _ _ _ _ _ q]
        by_cases q2 : n + 1 ≤ i ∧ i < n + 1 + l.length
        · rw [if_pos q2, if_pos (by omega), show (i - n).toNat = (i - (n + 1)).toNat + 1 by omega]
          rfl
        · rw [if_neg q2, if_neg (by omega)]
theorem s_add (d : Nat) {G : jG} {X : jX} (p b v L : Int) (hb : gR G p 0 = b) (hL : gL G b = L) (hp : 0 ≤ p) (hb0 : 0 ≤ b) (hpb : p ≠ b) (h0 : 0 ≤ X p 1) (h1 : X p 1 < L) (h2 : L ≤ 2000) : jD (d + 1) 146 [(20, p), (0, v)] (G, X) = some (0, (G, psh p b [v] X)) := by
  rw [e_X10_add, hb, hL, iAnd_255, jup_rw _ _ _ _ _ hpb, jadd_id (by omega) (by omega)]
  simp only [if_pos hp, if_pos hb0, if_pos h0, if_pos h1]
  rfl
theorem s_addThree (d : Nat) {G : jG} {X : jX} (p b v L : Int) (hb : gR G p 0 = b) (hL : gL G b = L) (hp : 0 ≤ p) (hb0 : 0 ≤ b) (hpb : p ≠ b) (h0 : 0 ≤ X p 1) (h1 : X p 1 + 2 < L) (h2 : L ≤ 2000) : jD (d + 2) 147 [(20, p), (0, v)] (G, X) = some (0, (G, psh p b [iUshr v 16, iUshr v 8, v] X)) := by
  have e1 := psh_ok hpb [iUshr v 16] X _ rfl
  have e2 := psh_ok hpb [iUshr v 16, iUshr v 8] X _ rfl
  rw [e_X10_addThree, if_pos hp, s_add d p b _ L hb hL hp hb0 hpb h0 (by omega) h2]
  simp only [Option.bind_some, if_pos hp]
  rw [s_add d p b _ L hb hL hp hb0 hpb (by rw [e1.1]; simp; omega) (by rw [e1.1]; simp; omega) h2, psh_app]
  simp only [Option.bind_some]
  rw [s_add d p b _ L hb hL hp hb0 hpb (by rw [show [iUshr v 16] ++ [iUshr v 8] = [iUshr v 16, iUshr v 8] from rfl, e2.1]; simp; omega) (by rw [show [iUshr v 16] ++ [iUshr v 8] = [iUshr v 16, iUshr v 8] from rfl, e2.1]; simp; omega) h2, psh_app]
  rfl
theorem s_addFour (d : Nat) {G : jG} {X : jX} (p b v L : Int) (hb : gR G p 0 = b) (hL : gL G b = L) (hp : 0 ≤ p) (hb0 : 0 ≤ b) (hpb : p ≠ b) (h0 : 0 ≤ X p 1) (h1 : X p 1 + 3 < L) (h2 : L ≤ 2000) : jD (d + 3) 148 [(20, p), (0, v)] (G, X) = some (0, (G, psh p b [iUshr v 24, iUshr v 16, iUshr v 8, v] X)) := by
  have e1 := psh_ok hpb [iUshr v 24] X _ rfl
  rw [e_X10_addFour, if_pos hp, s_add (d + 1) p b _ L hb hL hp hb0 hpb h0 (by omega) h2]
  simp only [Option.bind_some, if_pos hp]
  rw [s_addThree d p b _ L hb hL hp hb0 hpb (by rw [e1.1]; simp; omega) (by rw [e1.1]; simp; omega) h2, psh_app]
  rfl
def byt (w : Int) (j : Nat) : Int := w / 256 ^ j % 256
/-- byte k of twenty -/
def fby (a b c e f k : Int) : Int := byt (if k < 4 then a else if k < 8 then b else if k < 12 then c else if k < 16 then e else f) (3 - k % 4).toNat
def f20 (a b c e f : Int) : List Int := [iUshr a 24, iUshr a 16, iUshr a 8, a, iUshr b 24, iUshr b 16, iUshr b 8, b, iUshr c 24, iUshr c 16, iUshr c 8, c, iUshr e 24, iUshr e 16, iUshr e 8, e, iUshr f 24, iUshr f 16, iUshr f 8, f]
theorem f20_at (a b c e f k : Int) (h0 : 0 ≤ k) (h1 : k < 20) : (f20 a b c e f).getD k.toNat 0 % 256 = fby a b c e f k := by
  rcases (show k = 0 ∨ k = 1 ∨ k = 2 ∨ k = 3 ∨ k = 4 ∨ k = 5 ∨ k = 6 ∨ k = 7 ∨ k = 8 ∨ k = 9 ∨ k = 10 ∨ k = 11 ∨ k = 12 ∨ k = 13 ∨ k = 14 ∨ k = 15 ∨ k = 16 ∨ k = 17 ∨ k = 18 ∨ k = 19 by omega) with rfl | rfl | rfl | rfl | rfl | rfl | rfl | rfl | rfl | rfl | rfl | rfl | rfl | rfl | rfl | rfl | rfl | rfl | rfl | rfl <;> simp [f20, fby, byt, iUshr_24, iUshr_16, iUshr_8] <;> omega
theorem fby_le (a b c e f k : Int) : 0 ≤ fby a b c e f k ∧ fby a b c e f k ≤ 255 := by unfold fby byt; omega
theorem t_feed_n (d : Nat) {G : jG} (a b c e f : Int) (hG : GG G) (ha : j32 a) (hb : j32 b) (hc : j32 c) (he : j32 e) (hf : j32 f) (N : Int) (hN : N + 20 ≤ 1600) (hN0 : 0 ≤ N) : ∀ (n : Nat) (X : jX) (k : Int) (u : jV), u.1 = 2 ∨ u.1 = 0 → 0 ≤ k → k + n = 20 → X 149 1 = N + k → ∃ X', jN d 188 28 [(22, 149), (0, a), (0, b), (0, c), (0, e), (0, f), (0, k), u] [] (G, X) = some (N + 20, (G, X')) ∧ (∀ q, q ≠ 149 → q ≠ 150 → X' q = X q) ∧ (∀ j, j ≠ 1 → X' 149 j = X 149 j) ∧ X' 149 1 = N + 20 ∧ ∀ i, X' 150 i = if N + k ≤ i ∧ i < N + 20 then fby a b c e f (i - N) else X 150 i := by
  intro n
  induction n with
  | zero =>
    intro X k u hu h0 h1 h2
    refine ⟨X, ?_, fun _ _ _ => rfl, fun _ _ => rfl, by omega, fun i => by rw [if_neg (by omega)]⟩
    rw [h_X12_feed_28 _ _ _ _ _ _ _ _ _ hu, if_neg (by omega), if_pos (by omega), h2, show k = 20 by omega]
  | succ n ih =>
    intro X k u hu h0 h1 h2
    have hw : j32 (if k < 4 then a else if k < 8 then b else if k < 12 then c else if k < 16 then e else f) := by
      split; exact ha; split; exact hb; split; exact hc; split; exact he; exact hf
    have e1 : jN d 188 28 [(22, 149), (0, a), (0, b), (0, c), (0, e), (0, f), (0, k), u] [] (G, X) = jN d 188 81 [(22, 149), (0, a), (0, b), (0, c), (0, e), (0, f), (0, k), u] [(0, if k < 4 then a else if k < 8 then b else if k < 12 then c else if k < 16 then e else f)] (G, X) := by
      rw [h_X12_feed_28 _ _ _ _ _ _ _ _ _ hu, if_pos (by omega)]
      repeat' split
      all_goals rfl
    have e2 : iAnd (iShr (if k < 4 then a else if k < 8 then b else if k < 12 then c else if k < 16 then e else f) (jmul 8 (jsub 3 (jrem k 4)))) 255 = fby a b c e f k := by
      unfold fby byt
      generalize (if k < 4 then a else if k < 8 then b else if k < 12 then c else if k < 16 then e else f) = w at hw
      have h4 := Int.emod_nonneg k (b := 4) (by omega)
      have h5 := Int.emod_lt_of_pos k (b := 4) (by omega)
      rw [jrem_id h0, jsub_id (by omega) (by omega), jmul_id (by omega) (by omega), iAnd_255]
      rcases (show k % 4 = 0 ∨ k % 4 = 1 ∨ k % 4 = 2 ∨ k % 4 = 3 by omega) with q | q | q | q <;> rw [q]
      · exact congrArg (· % 256) (iShr_div 24 (by omega) hw)
      · exact congrArg (· % 256) (iShr_div 16 (by omega) hw)
      · exact congrArg (· % 256) (iShr_div 8 (by omega) hw)
      · exact congrArg (· % 256) (iShr_div 0 (by omega) hw)
    rw [e1, h_X12_feed_81 _ _ _ _ _ _ _ _ _ _ hu, gr_149_0 hG, gl_150 hG, h2, e2, jup_rw _ _ _ _ _ (by omega), h2, jadd_id (a := N + k) (by omega) (by omega), jadd_id (a := k) (by omega) (by omega)]
    obtain ⟨X', e', f1, f2, f3, f4⟩ := ih (jup (jup X 150 (N + k) (fby a b c e f k)) 149 1 (N + k + 1)) (k + 1) (0, _) (Or.inr rfl) (by omega) (by omega) (by rw [jup_same]; omega)
    refine ⟨X', ?_, fun q q0 q1 => by rw [f1 q q0 q1, jup_rw _ _ _ _ _ q0, jup_rw _ _ _ _ _ q1], fun j hj => by rw [f2 j hj, jup_row _ _ _ _ _ hj, jup_rw _ _ _ _ _ (by omega)], f3, fun i => ?_⟩
    · simp only [Int.reduceLE, reduceIte]
      rw [if_pos (by omega), if_pos (by omega)]
      exact e'
    · rw [f4 i, jup_rw _ _ _ _ _ (by omega)]
      by_cases q : i = N + k
      · rw [if_neg (by omega), if_pos (by omega), q, jup_same, show N + k - N = k by omega]
      · rw [jup_row _ _ _ _ _ q]
        by_cases q2 : N + (k + 1) ≤ i ∧ i < N + 20
        · rw [if_pos q2, if_pos (by omega)]
        · rw [if_neg q2, if_neg (by omega)]
theorem call_feed (a b c e f : Int) (ha : j32 a) (hb : j32 b) (hc : j32 c) (he : j32 e) (hf : j32 f) : okB 152 188 [(0, a), (0, b), (0, c), (0, e), (0, f)] := by
  refine ⟨fun A => if aTn A ≤ 1580 then aTn A + 20 else -1, fun A => if aTn A ≤ 1580 then setT A (aTn A + 20) (fun i => if aTn A ≤ i ∧ i < aTn A + 20 then fby a b c e f (i - aTn A) else aTp A i) else refu A 0, fun d G X A hG hR hV => ?_, fun d G X A hG hR hV => ?_, fun A h => ?_⟩
  · dsimp only
    have hn := hR.1.1
    have hv := hV.1
    rw [e_X11_feed, gr_0_0 hG, s_length (d + 58) 33 (by omega), hn]
    simp only [Option.bind_some, Int.reduceLE, reduceIte]
    rw [jadd_id (by omega) (by omega)]
    by_cases q : aTn A ≤ 1580
    · rw [if_neg (by omega), if_pos q, if_pos q, gr_0_0 hG]
      have hk : ∀ (l : List Int), psh 33 34 l X 33 1 = aTn A + l.length := fun l => (psh_ok (by omega) l X _ hn).1
      simp only [Int.reduceLE, reduceIte]
      rw [s_addFour (d + 56) 33 34 a 1600 (gr_33_0 hG) (gl_34 hG) (by omega) (by omega) (by omega) (by omega) (by omega) (by omega)]
      simp only [Option.bind_some]
      rw [gr_0_0 hG]
      simp only [Int.reduceLE, reduceIte]
      rw [s_addFour (d + 56) 33 34 b 1600 (gr_33_0 hG) (gl_34 hG) (by omega) (by omega) (by omega) (by rw [hk]; simp; omega) (by rw [hk]; simp; omega) (by omega), psh_app]
      simp only [Option.bind_some, List.cons_append, List.nil_append]
      rw [gr_0_0 hG]
      simp only [Int.reduceLE, reduceIte]
      rw [s_addFour (d + 56) 33 34 c 1600 (gr_33_0 hG) (gl_34 hG) (by omega) (by omega) (by omega) (by rw [hk]; simp; omega) (by rw [hk]; simp; omega) (by omega), psh_app]
      simp only [Option.bind_some, List.cons_append, List.nil_append]
      rw [gr_0_0 hG]
      simp only [Int.reduceLE, reduceIte]
      rw [s_addFour (d + 56) 33 34 e 1600 (gr_33_0 hG) (gl_34 hG) (by omega) (by omega) (by omega) (by rw [hk]; simp; omega) (by rw [hk]; simp; omega) (by omega), psh_app]
      simp only [Option.bind_some, List.cons_append, List.nil_append]
      rw [gr_0_0 hG]
      simp only [Int.reduceLE, reduceIte]
      rw [s_addFour (d + 56) 33 34 f 1600 (gr_33_0 hG) (gl_34 hG) (by omega) (by omega) (by omega) (by rw [hk]; simp; omega) (by rw [hk]; simp; omega) (by omega), psh_app]
      simp only [Option.bind_some, List.cons_append, List.nil_append]
      rw [gr_0_0 hG]
      simp only [Int.reduceLE, reduceIte]
      rw [s_length (d + 58) 33 (by omega), hk]
      obtain ⟨p1, p2, p3⟩ := psh_ok (show (33 : Int) ≠ 34 by omega) (f20 a b c e f) X _ hn
      have hlen : (f20 a b c e f).length = 20 := rfl
      rw [hlen, show ((20 : Nat) : Int) = 20 from rfl] at p1 p3
      refine ⟨G, psh 33 34 (f20 a b c e f) X, rfl, hG, RC_T (fun q _ h1 h2 => p2 q h1 h2) ⟨p1, fun i i0 i1 => ?_⟩ hR, fun q hq => p2 q (by omega) (by omega)⟩
      rw [p3 i]
      dsimp only
      by_cases q2 : aTn A ≤ i ∧ i < aTn A + 20
      · rw [if_pos q2, if_pos q2, f20_at _ _ _ _ _ _ (by omega) (by omega)]
      · rw [if_neg q2, if_neg q2]; exact hR.1.2 i i0 (by omega)
    · rw [if_pos (by omega), if_neg q, if_neg q, s_refuse (d + 58) 0 hG (by omega) (by omega)]
      exact ⟨G, _, rfl, hG, RC_refu 0 (by omega) (by omega) hR, fun a ha => jup_rw _ _ _ _ _ (by omega)⟩
  · dsimp only
    have hn := hR.1.1
    have hv := hV.1
    rw [e_X12_feed, gr_149_9 hG, gl_151 hG, hn, jadd_id (by omega) (by omega)]
    simp only [Int.reduceLE, Int.reduceLT, reduceIte]
    by_cases q : aTn A ≤ 1580
    · rw [if_neg (by omega), if_pos q, if_pos q]
      obtain ⟨X', e', f1, f2, f3, f4⟩ := t_feed_n (d + 59) a b c e f hG ha hb hc he hf (aTn A) (by omega) (by omega) 20 X 0 (2, -1) (Or.inl rfl) (by omega) (by omega) (by rw [hn]; omega)
      refine ⟨X', e', RM_T (fun q h1 h2 => f1 q (by unfold sM at h1; omega) h2) (fun j _ hj => f2 j hj) ⟨f3, fun i i0 i1 => ?_⟩ hR, fun q hq => f1 q (by omega) (by omega)⟩
      rw [f4 i, Int.add_zero]
      dsimp only
      by_cases q2 : aTn A ≤ i ∧ i < aTn A + 20
      · rw [if_pos q2, if_pos q2]
      · rw [if_neg q2, if_neg q2]; exact hR.1.2 i i0 (by omega)
    · rw [if_pos (by omega), if_neg q, if_neg q]
      exact ⟨_, rfl, RM_refu 0 (by omega) (by omega) hR, fun a ha => jup_rw _ _ _ _ _ (by omega)⟩
  · dsimp only
    by_cases q : aTn A ≤ 1580
    · rw [if_pos q]
      have hv := h.1
      refine ⟨⟨?_, ?_, fun i i0 i1 => ?_⟩, h.2⟩
      · show 0 ≤ aTn A + 20; omega
      · show aTn A + 20 ≤ 1600; omega
      · show 0 ≤ (if aTn A ≤ i ∧ i < aTn A + 20 then fby a b c e f (i - aTn A) else aTp A i) ∧ (if aTn A ≤ i ∧ i < aTn A + 20 then fby a b c e f (i - aTn A) else aTp A i) ≤ 255
        have i1 : i < aTn A + 20 := i1
        by_cases q2 : aTn A ≤ i ∧ i < aTn A + 20
        · rw [if_pos q2]; exact fby_le _ _ _ _ _ _
        · rw [if_neg q2]; exact hv.2.2 i i0 (by omega)
    · rw [if_neg q]; exact h
