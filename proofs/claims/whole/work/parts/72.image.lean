/-! IMAGES -/
def chk (f : Int → Int) : Nat → Int
  | 0 => 223
  | n + 1 => (3 * chk f n + f n) % 251
theorem chk_le (f : Int → Int) (n : Nat) : 0 ≤ chk f n ∧ chk f n < 251 := by
  cases n with
  | zero => show (0 : Int) ≤ 223 ∧ (223 : Int) < 251; omega
  | succ n => show 0 ≤ (3 * chk f n + f n) % 251 ∧ (3 * chk f n + f n) % 251 < 251; omega
theorem chk_cong {f g : Int → Int} : ∀ {n : Nat}, (∀ i : Int, 0 ≤ i → i < n → f i = g i) → chk f n = chk g n := by
  intro n
  induction n with
  | zero => intro _; rfl
  | succ n ih =>
    intro h
    show (3 * chk f n + f n) % 251 = (3 * chk g n + g n) % 251
    rw [ih (fun i i0 i1 => h i i0 (by omega)), h n (by omega) (by omega)]
/-- the bytes of an image ahead of its last -/
def imb (P : aP) (g : aG) (i : Int) : Int := if i = 0 then gPr g else if i = 1 then gWo g / 65536 else if i = 2 then gWo g / 256 % 256 else if i = 3 then gWo g % 256 else if i = 4 then gRe g / 65536 else if i = 5 then gRe g / 256 % 256 else if i = 6 then gRe g % 256 else if i < 7 + pK P then gSt g (i - 7) else if i < 7 + pK P + pCe P then gCe g (i - 7 - pK P) else 0
def imN (P : aP) : Int := 7 + pK P + pCe P
def ima (P : aP) (g : aG) (i : Int) : Int := if i = imN P then chk (imb P g) (imN P).toNat else imb P g i
def pgC (X : jX) (f : Int → Int) (n : Int) : Prop := X 35 1 = n ∧ ∀ i, 0 ≤ i → i < n → X 36 i = f i
def pgM (X : jX) (f : Int → Int) (n : Int) : Prop := X 149 119 = n ∧ ∀ i, 0 ≤ i → i < n → X 230 i = f i
theorem s_addP (d : Nat) {G : jG} {X : jX} {f : Int → Int} {n : Int} (v : Int) (hG : GG G) (h : pgC X f n) (h0 : 0 ≤ n) (h1 : n < 61) (hv : v % 256 = f n) : ∃ X', jD (d + 1) 146 [(20, 35), (0, v)] (G, X) = some (0, (G, X')) ∧ pgC X' f (n + 1) ∧ (∀ k, k ≠ 35 → k ≠ 36 → X' k = X k) := by
  obtain ⟨p1, p2, p3⟩ := psh_ok (show (35 : Int) ≠ 36 by omega) [v] X n h.1
  refine ⟨_, s_add d 35 36 v 61 (gr_35_0 hG) (gl_36 hG) (by omega) (by omega) (by omega) (by rw [h.1]; exact h0) (by rw [h.1]; exact h1) (by omega), ⟨p1, fun i i0 i1 => ?_⟩, p2⟩
  rw [p3 i]
  by_cases q : i = n
  · rw [q, if_pos (by simp; omega), Int.sub_self]; exact hv
  · rw [if_neg (by simp; omega)]; exact h.2 i i0 (by omega)
theorem s_add3P (d : Nat) {G : jG} {X : jX} {f : Int → Int} {n : Int} (v : Int) (hG : GG G) (h : pgC X f n) (h0 : 0 ≤ n) (h1 : n + 2 < 61) (hv0 : 0 ≤ v) (hv1 : v < 16777216) (e0 : f n = v / 65536) (e1 : f (n + 1) = v / 256 % 256) (e2 : f (n + 2) = v % 256) : ∃ X', jD (d + 2) 147 [(20, 35), (0, v)] (G, X) = some (0, (G, X')) ∧ pgC X' f (n + 3) ∧ (∀ k, k ≠ 35 → k ≠ 36 → X' k = X k) := by
  obtain ⟨X1, a1, b1, c1⟩ := s_addP d (iUshr v 16) hG h h0 (by omega) (by rw [iUshr_16, e0]; omega)
  obtain ⟨X2, a2, b2, c2⟩ := s_addP d (iUshr v 8) hG b1 (by omega) (by omega) (by rw [iUshr_8, e1]; omega)
  obtain ⟨X3, a3, b3, c3⟩ := s_addP d v hG b2 (by omega) (by omega) (by rw [show n + 1 + 1 = n + 2 by omega, e2])
  rw [e_X10_addThree, if_pos (by omega), a1]
  simp only [Option.bind_some, Int.reduceLE, reduceIte]
  rw [a2]
  simp only [Option.bind_some]
  rw [a3]
  refine ⟨X3, rfl, by rw [show n + 3 = n + 1 + 1 + 1 by omega]; exact b3, fun k k0 k1 => by rw [c3 k k0 k1, c2 k k0 k1, c1 k k0 k1]⟩
theorem t_writes (d : Nat) {G : jG} {X : jX} {f : Int → Int} {n : Int} (v : Int) (hG : GG G) (h : pgM X f n) (h0 : 0 ≤ n) (h1 : n < 61) (hv : v = f n) : ∃ X', jD (d + 1) 325 [(22, 149), (0, v)] (G, X) = some (0, (G, X')) ∧ pgM X' f (n + 1) ∧ (∀ k, k ≠ 149 → k ≠ 230 → X' k = X k) ∧ (∀ j, j ≠ 119 → X' 149 j = X 149 j) := by
  rw [e_X12_writes, gr_149_118 hG, gl_230 hG, h.1, jup_rw _ _ _ _ 149 (by omega), h.1, jadd_id (by omega) (by omega)]
  simp only [Int.reduceLE, reduceIte]
  rw [if_pos h0, if_pos h1]
  refine ⟨_, rfl, ⟨jup_same _ _ _ _, fun i i0 i1 => ?_⟩, fun k k0 k1 => by rw [jup_rw _ _ _ _ _ k0, jup_rw _ _ _ _ _ k1], fun j hj => by rw [jup_row _ _ _ _ _ hj, jup_rw _ _ _ _ _ (by omega)]⟩
  rw [jup_rw _ _ _ _ _ (by omega)]
  by_cases q : i = n
  · rw [q, jup_same, hv]
  · rw [jup_row _ _ _ _ _ q]; exact h.2 i i0 (by omega)
theorem t_writes3 (d : Nat) {G : jG} {X : jX} {f : Int → Int} {n : Int} (v : Int) (hG : GG G) (h : pgM X f n) (h0 : 0 ≤ n) (h1 : n + 2 < 61) (hv0 : 0 ≤ v) (hv1 : v < 16777216) (e0 : f n = v / 65536) (e1 : f (n + 1) = v / 256 % 256) (e2 : f (n + 2) = v % 256) : ∃ X', jD (d + 2) 326 [(22, 149), (0, v)] (G, X) = some (0, (G, X')) ∧ pgM X' f (n + 3) ∧ (∀ k, k ≠ 149 → k ≠ 230 → X' k = X k) ∧ (∀ j, j ≠ 119 → X' 149 j = X 149 j) := by
  have v1 : jdiv v 65536 = v / 65536 := jdiv_id hv0 (by omega) (by omega)
  have v2 : jrem (jdiv v 256) 256 = v / 256 % 256 := by rw [jdiv_id hv0 (by omega) (by omega), jrem_id (by omega)]
  have v3 : jrem v 256 = v % 256 := jrem_id hv0
  obtain ⟨X1, a1, b1, c1, k1⟩ := t_writes d (v / 65536) hG h h0 (by omega) e0.symm
  obtain ⟨X2, a2, b2, c2, k2⟩ := t_writes d (v / 256 % 256) hG b1 (by omega) (by omega) e1.symm
  obtain ⟨X3, a3, b3, c3, k3⟩ := t_writes d (v % 256) hG b2 (by omega) (by omega) (by rw [show n + 1 + 1 = n + 2 by omega, e2])
  rw [e_X12_writesThree, if_pos (by omega), v1, v2, v3, a1]
  simp only [Option.bind_some, Int.reduceLE, reduceIte]
  rw [a2]
  simp only [Option.bind_some]
  rw [a3]
  refine ⟨X3, rfl, by rw [show n + 3 = n + 1 + 1 + 1 by omega]; exact b3, fun k k0 k1 => by rw [c3 k k0 k1, c2 k k0 k1, c1 k k0 k1], fun j hj => by rw [k3 j hj, k2 j hj, k1 j hj]⟩
theorem s_guard_n (d : Nat) {G : jG} {X : jX} {f : Int → Int} (p b N C : Int) (hp : 0 ≤ p) (hb : gR G p 0 = b) (hb0 : 0 ≤ b) (hN : N ≤ C) (hC : X p 1 = C) (hl : C ≤ gL G b) (hf : ∀ i, 0 ≤ i → i < N → X b i = f i ∧ 0 ≤ f i ∧ f i ≤ 255) (hN2 : N ≤ 2000) : ∀ (n i : Nat), (i : Int) + n = N → jN d 150 6 [(20, p), (0, N), (0, chk f i), (0, (i : Int))] [] (G, X) = some (chk f N.toNat, (G, X)) := by
  intro n
  induction n with
  | zero =>
    intro i h0
    rw [h_X10_guard_6, if_neg (by omega), show N.toNat = i by omega]
  | succ n ih =>
    intro i h0
    have hc := chk_le f i
    have hfi := hf i (by omega) (by omega)
    rw [h_X10_guard_6, if_pos (by omega), if_pos hp, hC, if_pos (by omega), if_pos hp, hb, if_pos hb0, if_pos (by omega), if_pos (by omega), hfi.1, jmul_id (by omega) (by omega), jadd_id (by omega) (by omega), jrem_id (by omega), jadd_id (by omega) (by omega)]
    exact ih (i + 1) (by omega)
theorem s_guard (d : Nat) {G : jG} {X : jX} {f : Int → Int} (p b N C : Int) (hp : 0 ≤ p) (hb : gR G p 0 = b) (hb0 : 0 ≤ b) (hN0 : 0 ≤ N) (hN : N ≤ C) (hC : X p 1 = C) (hl : C ≤ gL G b) (hf : ∀ i, 0 ≤ i → i < N → X b i = f i ∧ 0 ≤ f i ∧ f i ≤ 255) (hN2 : N ≤ 2000) : jD (d + 1) 150 [(20, p), (0, N)] (G, X) = some (chk f N.toNat, (G, X)) := by
  rw [e_X10_guard]
  exact s_guard_n d p b N C hp hb hb0 hN hC hl hf hN2 N.toNat 0 (by omega)
theorem t_check_n (d : Nat) {G : jG} {X : jX} {f : Int → Int} (b N : Int) (hb0 : 0 ≤ b) (hl : N ≤ gL G b) (hf : ∀ i, 0 ≤ i → i < N → X b i = f i ∧ 0 ≤ f i ∧ f i ≤ 255) (hN2 : N ≤ 2000) : ∀ (n i : Nat), (i : Int) + n = N → jN d 324 6 [(24, b), (0, N), (0, chk f i), (0, (i : Int))] [] (G, X) = some (chk f N.toNat, (G, X)) := by
  intro n
  induction n with
  | zero =>
    intro i h0
    rw [h_X12_checked_6, if_neg (by omega), show N.toNat = i by omega]
  | succ n ih =>
    intro i h0
    have hc := chk_le f i
    have hfi := hf i (by omega) (by omega)
    rw [h_X12_checked_6, if_pos (by omega), if_pos hb0, if_pos (by omega), if_pos (by omega), hfi.1, jmul_id (by omega) (by omega), jadd_id (by omega) (by omega), jrem_id (by omega), jadd_id (by omega) (by omega)]
    exact ih (i + 1) (by omega)
theorem t_checked (d : Nat) {G : jG} {X : jX} {f : Int → Int} (b N : Int) (hb0 : 0 ≤ b) (hN0 : 0 ≤ N) (hl : N ≤ gL G b) (hf : ∀ i, 0 ≤ i → i < N → X b i = f i ∧ 0 ≤ f i ∧ f i ≤ 255) (hN2 : N ≤ 2000) : jD (d + 1) 324 [(24, b), (0, N)] (G, X) = some (chk f N.toNat, (G, X)) := by
  rw [e_X12_checked]
  exact t_check_n d b N hb0 hl hf hN2 N.toNat 0 (by omega)
theorem imb_le {P : aP} {g : aG} (hO : pOk P) (hg : gOk P g) : 0 ≤ gWo g ∧ gWo g < 16777216 ∧ 0 ≤ gRe g ∧ gRe g < 16777216 ∧ (∀ i, 0 ≤ i → i < imN P → 0 ≤ imb P g i ∧ imb P g i ≤ 255) := by
  obtain ⟨o1, o2, o3, o4, o5, o6, o7, o8⟩ := hg
  have hq := nwh_le (gCe g) 48
  have hn := pOk_n hO
  have hcc := pCe_le hO
  have hsm : 0 ≤ sm5 (gSt g) := by
    have a0 := o7 0 (by omega) (by omega); have a1 := o7 1 (by omega) (by omega); have a2 := o7 2 (by omega) (by omega); have a3 := o7 3 (by omega) (by omega); have a4 := o7 4 (by omega) (by omega)
    unfold sm5; omega
  refine ⟨o3, by omega, o5, by omega, fun i i0 i1 => ?_⟩
  unfold imN at i1
  unfold imb
  by_cases q : i < 7
  · rcases (show i = 0 ∨ i = 1 ∨ i = 2 ∨ i = 3 ∨ i = 4 ∨ i = 5 ∨ i = 6 by omega) with rfl | rfl | rfl | rfl | rfl | rfl | rfl <;> simp <;> omega
  · rw [if_neg (by omega), if_neg (by omega), if_neg (by omega), if_neg (by omega), if_neg (by omega), if_neg (by omega), if_neg (by omega)]
    by_cases q2 : i < 7 + pK P
    · rw [if_pos q2]; have := o7 (i - 7) (by omega) (by omega); omega
    · rw [if_neg q2, if_pos (by omega)]; have := o8 (i - 7 - pK P) (by omega) (by omega); omega
theorem imb_k {P : aP} {g : aG} {k : Int} (h0 : 0 ≤ k) (h1 : k < pK P) : imb P g (7 + k) = gSt g k := by
  unfold imb
  rw [if_neg (by omega), if_neg (by omega), if_neg (by omega), if_neg (by omega), if_neg (by omega), if_neg (by omega), if_neg (by omega), if_pos (by omega), show 7 + k - 7 = k by omega]
theorem imb_c {P : aP} {g : aG} {c : Int} (hK : 0 ≤ pK P) (h0 : 0 ≤ c) (h1 : c < pCe P) : imb P g (7 + pK P + c) = gCe g c := by
  unfold imb
  rw [if_neg (by omega), if_neg (by omega), if_neg (by omega), if_neg (by omega), if_neg (by omega), if_neg (by omega), if_neg (by omega), if_neg (by omega), if_pos (by omega), show 7 + pK P + c - 7 - pK P = c by omega]
theorem s_write_k (d : Nat) {G : jG} {P : aP} {γ : aG} (hG : GG G) (hO : pOk P) (hgO : gOk P γ) : ∀ (n : Nat) (X : jX) (k : Int), cPlan X P → cGr X 25 γ → pgC X (imb P γ) (7 + k) → k + n = pK P → 0 ≤ k → ∃ X', jN (d + 1) 18 31 [(11, 25), (14, 1), (20, 35), (0, k)] [] (G, X) = jN (d + 1) 18 62 [(11, 25), (14, 1), (20, 35), (0, 0)] [] (G, X') ∧ pgC X' (imb P γ) (7 + pK P) ∧ (∀ a, a ≠ 35 → a ≠ 36 → X' a = X a) := by
  have hn := pOk_n hO
  intro n
  induction n with
  | zero =>
    intro X k hP hγ hg h0 h1
    refine ⟨X, ?_, by rw [show 7 + pK P = 7 + k by omega]; exact hg, fun _ _ _ => rfl⟩
    rw [h_X1_write_31, if_pos (by omega), (cPlan_at hP).2.2.2.2.2.1, if_neg (by omega)]
  | succ n ih =>
    intro X k hP hγ hg h0 h1
    have hs := hgO.2.2.2.2.2.2.1 k h1 (by omega)
    have hq := nwh_le (gCe γ) 48
    obtain ⟨X1, a1, b1, c1⟩ := s_addP d (gSt γ k) hG hg (by omega) (by omega) (by rw [imb_k h1 (by omega)]; omega)
    rw [h_X1_write_31, if_pos (by omega), (cPlan_at hP).2.2.2.2.2.1, if_pos (by omega), if_pos (by omega), if_pos (by omega), gr_25_1 hG, if_pos (by omega), if_pos h1, gl_27 hG, if_pos (by omega), if_pos (by omega), show X 27 k = gSt γ k from hγ.2.2 k h1 (by omega), a1]
    simp only [Option.bind_some]
    rw [jadd_id (by omega) (by omega)]
    obtain ⟨X', e', p', f'⟩ := ih X1 (k + 1) (cPlan_fr (fun a h1 h2 => c1 a (by omega) (by omega)) hP) (cGr_fr (c1 _ (by omega) (by omega)) (c1 _ (by omega) (by omega)) (c1 _ (by omega) (by omega)) hγ) (by rw [show 7 + (k + 1) = 7 + k + 1 by omega]; exact b1) (by omega) (by omega)
    exact ⟨X', e', p', fun a a0 a1 => by rw [f' a a0 a1, c1 a a0 a1]⟩
theorem s_write_c (d : Nat) {G : jG} {P : aP} {γ : aG} (hG : GG G) (hO : pOk P) (hgO : gOk P γ) : ∀ (n : Nat) (X : jX) (c : Int), cPlan X P → cGr X 25 γ → pgC X (imb P γ) (7 + pK P + c) → c + n = pCe P → 0 ≤ c → ∃ X', jN (d + 1) 18 62 [(11, 25), (14, 1), (20, 35), (0, c)] [] (G, X) = some (0, (G, X')) ∧ pgC X' (ima P γ) (imN P + 1) ∧ (∀ a, a ≠ 35 → a ≠ 36 → X' a = X a) := by
  have hn := pOk_n hO
  have hcc := pCe_le hO
  have hle := imb_le hO hgO
  intro n
  induction n with
  | zero =>
    intro X c hP hγ hg h0 h1
    have hN : 7 + pK P + c = imN P := by unfold imN; omega
    have hNn : imN P = 7 + pK P + pCe P := rfl
    rw [hN] at hg
    have hck := chk_le (imb P γ) (imN P).toNat
    have hg2 : pgC X (ima P γ) (imN P) := ⟨hg.1, fun i i0 i1 => by unfold ima; rw [if_neg (by omega)]; exact hg.2 i i0 i1⟩
    obtain ⟨X1, a1, b1, c1⟩ := s_addP d (chk (imb P γ) (imN P).toNat) hG hg2 (by omega) (by omega) (by unfold ima; rw [if_pos rfl]; omega)
    rw [h_X1_write_62, if_pos (by omega), (cPlan_at hP).2.1, if_neg (by omega), if_pos (by omega), s_length d 35 (by omega), hg.1]
    simp only [Option.bind_some, Int.reduceLE, reduceIte]
    rw [s_guard d 35 36 (imN P) (imN P) (by omega) (gr_35_0 hG) (by omega) (by omega) (Int.le_refl _) hg.1 (by rw [gl_36 hG]; omega) (fun i i0 i1 => ⟨hg.2 i i0 i1, hle.2.2.2.2 i i0 i1⟩) (by omega)]
    simp only [Option.bind_some]
    rw [a1]
    exact ⟨X1, rfl, b1, c1⟩
  | succ n ih =>
    intro X c hP hγ hg h0 h1
    have hs := hgO.2.2.2.2.2.2.2 c h1 (by omega)
    obtain ⟨X1, a1, b1, c1⟩ := s_addP d (gCe γ c) hG hg (by omega) (by omega) (by rw [imb_c (by omega) h1 (by omega)]; omega)
    rw [h_X1_write_62, if_pos (by omega), (cPlan_at hP).2.1, if_pos (by omega), if_pos (by omega), gr_25_0 hG, if_pos (by omega), if_pos h1, gl_26 hG, if_pos (by omega), if_pos (by omega), show X 26 c = gCe γ c from hγ.2.1 c h1 (by omega), a1]
    simp only [Option.bind_some]
    rw [jadd_id (by omega) (by omega)]
    obtain ⟨X', e', p', f'⟩ := ih X1 (c + 1) (cPlan_fr (fun a h1 h2 => c1 a (by omega) (by omega)) hP) (cGr_fr (c1 _ (by omega) (by omega)) (c1 _ (by omega) (by omega)) (c1 _ (by omega) (by omega)) hγ) (by rw [show 7 + pK P + (c + 1) = 7 + pK P + c + 1 by omega]; exact b1) (by omega) (by omega)
    exact ⟨X', e', p', fun a a0 a1 => by rw [f' a a0 a1, c1 a a0 a1]⟩
theorem t_image_k (d : Nat) {G : jG} {P : aP} {γ : aG} (hG : GG G) (hO : pOk P) (hgO : gOk P γ) : ∀ (n : Nat) (X : jX) (k : Int), mPlan X P → mGr X 190 0 γ → pgM X (imb P γ) (7 + k) → k + n = pK P → 0 ≤ k → ∃ X', jN (d + 1) 327 37 [(22, 149), (0, k)] [] (G, X) = jN (d + 1) 327 62 [(22, 149), (0, 0)] [] (G, X') ∧ pgM X' (imb P γ) (7 + pK P) ∧ (∀ a, a ≠ 149 → a ≠ 230 → X' a = X a) ∧ (∀ j, j ≠ 119 → X' 149 j = X 149 j) := by
  have hn := pOk_n hO
  intro n
  induction n with
  | zero =>
    intro X k hP hγ hg h0 h1
    refine ⟨X, ?_, by rw [show 7 + pK P = 7 + k by omega]; exact hg, fun _ _ _ => rfl, fun _ _ => rfl⟩
    rw [h_X12_image_37, t_kindMany d hG hP]
    simp only [Option.bind_some, Int.reduceLE, reduceIte]
    rw [if_neg (by omega)]
  | succ n ih =>
    intro X k hP hγ hg h0 h1
    obtain ⟨X1, a1, b1, c1, j1⟩ := t_writes d (gSt γ k) hG hg (by omega) (by omega) (imb_k h1 (by omega)).symm
    rw [h_X12_image_37, t_kindMany d hG hP]
    simp only [Option.bind_some, Int.reduceLE, reduceIte]
    rw [if_pos (by omega), t_tubsOf d k hG hγ h1 (by omega)]
    simp only [Option.bind_some]
    rw [a1]
    simp only [Option.bind_some]
    rw [jadd_id (by omega) (by omega)]
    obtain ⟨X', e', p', f', g'⟩ := ih X1 (k + 1) (mPlan_fr (fun a h1 h2 => c1 a (by omega) (by omega)) (j1 _ (by omega)) hP) (mGr_fr (c1 _ (by omega) (by omega)) hγ) (by rw [show 7 + (k + 1) = 7 + k + 1 by omega]; exact b1) (by omega) (by omega)
    exact ⟨X', e', p', fun a a0 a1 => by rw [f' a a0 a1, c1 a a0 a1], fun j hj => by rw [g' j hj, j1 j hj]⟩
theorem t_image_c (d : Nat) {G : jG} {P : aP} {γ : aG} (hG : GG G) (hO : pOk P) (hgO : gOk P γ) : ∀ (n : Nat) (X : jX) (c : Int), mPlan X P → mGr X 190 0 γ → pgM X (imb P γ) (7 + pK P + c) → c + n = pCe P → 0 ≤ c → ∃ X', jN (d + 2) 327 62 [(22, 149), (0, c)] [] (G, X) = some (imN P + 1, (G, X')) ∧ pgM X' (ima P γ) (imN P + 1) ∧ (∀ a, a ≠ 149 → a ≠ 230 → X' a = X a) ∧ (∀ j, j ≠ 119 → X' 149 j = X 149 j) := by
  have hn := pOk_n hO
  have hcc := pCe_le hO
  have hle := imb_le hO hgO
  intro n
  induction n with
  | zero =>
    intro X c hP hγ hg h0 h1
    have hN : 7 + pK P + c = imN P := by unfold imN; omega
    have hNn : imN P = 7 + pK P + pCe P := rfl
    rw [hN] at hg
    have hg2 : pgM X (ima P γ) (imN P) := ⟨hg.1, fun i i0 i1 => by unfold ima; rw [if_neg (by omega)]; exact hg.2 i i0 i1⟩
    obtain ⟨X1, a1, b1, c1, j1⟩ := t_writes (d + 1) (chk (imb P γ) (imN P).toNat) hG hg2 (by omega) (by omega) (by unfold ima; rw [if_pos rfl])
    rw [h_X12_image_62, t_cellMany d hG hP hO]
    simp only [Option.bind_some, Int.reduceLE, reduceIte]
    rw [if_neg (by omega), gr_149_118 hG, hg.1, t_checked (d + 1) 230 (imN P) (by omega) (by omega) (by rw [gl_230 hG]; omega) (fun i i0 i1 => ⟨hg.2 i i0 i1, hle.2.2.2.2 i i0 i1⟩) (by omega)]
    simp only [Option.bind_some]
    rw [a1]
    simp only [Option.bind_some]
    rw [b1.1]
    exact ⟨X1, rfl, b1, c1, j1⟩
  | succ n ih =>
    intro X c hP hγ hg h0 h1
    obtain ⟨X1, a1, b1, c1, j1⟩ := t_writes (d + 1) (gCe γ c) hG hg (by omega) (by omega) (imb_c (by omega) h1 (by omega)).symm
    rw [h_X12_image_62, t_cellMany d hG hP hO]
    simp only [Option.bind_some, Int.reduceLE, reduceIte]
    rw [if_pos (by omega), t_whatIs (d + 1) c hG hγ h1 (by omega)]
    simp only [Option.bind_some]
    rw [a1]
    simp only [Option.bind_some]
    rw [jadd_id (by omega) (by omega)]
    obtain ⟨X', e', p', f', g'⟩ := ih X1 (c + 1) (mPlan_fr (fun a h1 h2 => c1 a (by omega) (by omega)) (j1 _ (by omega)) hP) (mGr_fr (c1 _ (by omega) (by omega)) hγ) (by rw [show 7 + pK P + (c + 1) = 7 + pK P + c + 1 by omega]; exact b1) (by omega) (by omega)
    exact ⟨X', e', p', fun a a0 a1 => by rw [f' a a0 a1, c1 a a0 a1], fun j hj => by rw [g' j hj, j1 j hj]⟩
theorem call_image : okB 177 327 [] := by
  refine ⟨fun A => imN (aPl A) + 1, fun A => setI A (imN (aPl A) + 1) (ima (aPl A) (aGr A)), fun d G X A hG hR hV => ?_, fun d G X A hG hR hV => ?_, fun A hV => ?_⟩
  · obtain ⟨r1, r2, r3, r4, r5, r6, r7, r8, r9, r10, r11⟩ := id hR
    have hO := hV.2.1
    have hgO := hV.2.2.1
    have hn := pOk_n hO
    have hcc := pCe_le hO
    have hle := imb_le hO hgO
    have hpr := hgO.1
    have hpr2 := hgO.2.1
    have hpn := hV.2.2.2.2.2.2
    have z0 : pgC (jup X 35 1 0) (imb (aPl A) (aGr A)) 0 := ⟨jup_same _ _ _ _, fun i i0 i1 => by omega⟩
    have y0 : ∀ a, a ≠ 35 → a ≠ 36 → jup X 35 1 0 a = X a := fun a a0 _ => jup_rw _ _ _ _ _ a0
    obtain ⟨X1, a1, b1, c1⟩ := s_addP (d + 57) (gPr (aGr A)) hG z0 (by omega) (by omega) (by show _ = gPr (aGr A); omega)
    obtain ⟨X2, a2, b2, c2⟩ := s_add3P (d + 56) (gWo (aGr A)) hG b1 (by omega) (by omega) hle.1 hle.2.1 rfl rfl rfl
    obtain ⟨X3, a3, b3, c3⟩ := s_add3P (d + 56) (gRe (aGr A)) hG b2 (by omega) (by omega) hle.2.2.1 hle.2.2.2.1 rfl rfl rfl
    have y3 : ∀ a, a ≠ 35 → a ≠ 36 → X3 a = X a := fun a a0 a1 => by rw [c3 a a0 a1, c2 a a0 a1, c1 a a0 a1, y0 a a0 a1]
    obtain ⟨X4, a4, b4, c4⟩ := s_write_k (d + 57) hG hO hgO (pK (aPl A)).toNat X3 0 (cPlan_fr (fun a h1 h2 => y3 a (by omega) (by omega)) r3) (cGr_fr (y3 _ (by omega) (by omega)) (y3 _ (by omega) (by omega)) (y3 _ (by omega) (by omega)) r4) b3 (by omega) (by omega)
    have y4 : ∀ a, a ≠ 35 → a ≠ 36 → X4 a = X a := fun a a0 a1 => by rw [c4 a a0 a1, y3 a a0 a1]
    obtain ⟨X5, a5, b5, c5⟩ := s_write_c (d + 57) hG hO hgO (pCe (aPl A)).toNat X4 0 (cPlan_fr (fun a h1 h2 => y4 a (by omega) (by omega)) r3) (cGr_fr (y4 _ (by omega) (by omega)) (y4 _ (by omega) (by omega)) (y4 _ (by omega) (by omega)) r4) (by rw [Int.add_zero]; exact b4) (by omega) (by omega)
    have y5 : ∀ a, a ≠ 35 → a ≠ 36 → X5 a = X a := fun a a0 a1 => by rw [c5 a a0 a1, y4 a a0 a1]
    rw [e_X11_image, gr_0_4 hG, gr_0_2 hG, gr_0_1 hG, e_X1_write, s_shorten (d + 57) 35 0 (by omega) (by omega) (by rw [r9.1]; exact hpn.1)]
    simp only [Option.bind_some, Int.reduceLE, reduceIte]
    rw [show jup X 35 1 0 25 2 = gPr (aGr A) by rw [y0 25 (by omega) (by omega)]; exact r4.1.1, a1]
    simp only [Option.bind_some]
    rw [show X1 25 3 = gWo (aGr A) by rw [c1 25 (by omega) (by omega), y0 25 (by omega) (by omega)]; exact r4.1.2.1, a2]
    simp only [Option.bind_some]
    rw [show X2 25 4 = gRe (aGr A) by rw [c2 25 (by omega) (by omega), c1 25 (by omega) (by omega), y0 25 (by omega) (by omega)]; exact r4.1.2.2, a3]
    simp only [Option.bind_some]
    rw [a4, a5]
    simp only [Option.bind_some]
    rw [gr_0_1 hG, s_length (d + 58) 35 (by omega), b5.1]
    have e0 := y5 0 (by omega) (by omega)
    exact ⟨G, X5, rfl, hG, ⟨cTa_fr (y5 _ (by omega) (by omega)) (y5 _ (by omega) (by omega)) r1, by rw [e0]; exact r2, cPlan_fr (fun a h1 h2 => y5 a (by omega) (by omega)) r3, cGr_fr (y5 _ (by omega) (by omega)) (y5 _ (by omega) (by omega)) (y5 _ (by omega) (by omega)) r4, cHi_fr (fun a h1 h2 => y5 a (by omega) (by omega)) r5, cJu_fr (by rw [e0]) (y5 _ (by omega) (by omega)) r6, cBo_fr (y5 _ (by omega) (by omega)) (y5 _ (by omega) (by omega)) r7, by rw [e0]; exact r8, b5, cRf_fr (y5 _ (by omega) (by omega)) r10, cCa_fr (y5 _ (by omega) (by omega)) (y5 _ (by omega) (by omega)) (y5 _ (by omega) (by omega)) r11⟩, fun a ha => y5 a (by omega) (by omega)⟩
  · obtain ⟨r1, r2, r3, r4, r5, r6, r7, r8, r9, r10, r11⟩ := id hR
    have hO := hV.2.1
    have hgO := hV.2.2.1
    have hn := pOk_n hO
    have hcc := pCe_le hO
    have hle := imb_le hO hgO
    have z0 : pgM (jup X 149 119 0) (imb (aPl A) (aGr A)) 0 := ⟨jup_same _ _ _ _, fun i i0 i1 => by omega⟩
    have y0 : ∀ a, a ≠ 149 → a ≠ 230 → jup X 149 119 0 a = X a := fun a a0 _ => jup_rw _ _ _ _ _ a0
    have w0 : ∀ j, j ≠ 119 → jup X 149 119 0 149 j = X 149 j := fun j hj => jup_row _ _ _ _ _ hj
    obtain ⟨X1, a1, b1, c1, j1⟩ := t_writes (d + 58) (gPr (aGr A)) hG z0 (by omega) (by omega) rfl
    obtain ⟨X2, a2, b2, c2, j2⟩ := t_writes3 (d + 57) (gWo (aGr A)) hG b1 (by omega) (by omega) hle.1 hle.2.1 rfl rfl rfl
    obtain ⟨X3, a3, b3, c3, j3⟩ := t_writes3 (d + 57) (gRe (aGr A)) hG b2 (by omega) (by omega) hle.2.2.1 hle.2.2.2.1 rfl rfl rfl
    have y3 : ∀ a, a ≠ 149 → a ≠ 230 → X3 a = X a := fun a a0 a1 => by rw [c3 a a0 a1, c2 a a0 a1, c1 a a0 a1, y0 a a0 a1]
    have w3 : ∀ j, j ≠ 119 → X3 149 j = X 149 j := fun j hj => by rw [j3 j hj, j2 j hj, j1 j hj, w0 j hj]
    obtain ⟨X4, a4, b4, c4, j4⟩ := t_image_k (d + 58) hG hO hgO (pK (aPl A)).toNat X3 0 (mPlan_fr (fun a h1 h2 => y3 a (by omega) (by omega)) (w3 _ (by omega)) r3) (mGr_fr (y3 _ (by omega) (by omega)) r4) b3 (by omega) (by omega)
    have y4 : ∀ a, a ≠ 149 → a ≠ 230 → X4 a = X a := fun a a0 a1 => by rw [c4 a a0 a1, y3 a a0 a1]
    have w4 : ∀ j, j ≠ 119 → X4 149 j = X 149 j := fun j hj => by rw [j4 j hj, w3 j hj]
    obtain ⟨X5, a5, b5, c5, j5⟩ := t_image_c (d + 57) hG hO hgO (pCe (aPl A)).toNat X4 0 (mPlan_fr (fun a h1 h2 => y4 a (by omega) (by omega)) (w4 _ (by omega)) r3) (mGr_fr (y4 _ (by omega) (by omega)) r4) (by rw [Int.add_zero]; exact b4) (by omega) (by omega)
    have y5 : ∀ a, a ≠ 149 → a ≠ 230 → X5 a = X a := fun a a0 a1 => by rw [c5 a a0 a1, y4 a a0 a1]
    have w5 : ∀ j, j ≠ 119 → X5 149 j = X 149 j := fun j hj => by rw [j5 j hj, w4 j hj]
    rw [e_X12_image, gr_149_53 hG, gl_190 hG, show jup X 149 119 0 190 0 = gPr (aGr A) by rw [y0 190 (by omega) (by omega)]; exact r4.1.1, a1]
    simp only [Option.bind_some, Int.reduceLE, Int.reduceLT, reduceIte]
    rw [gr_149_53 hG, gl_190 hG, show X1 190 1 = gWo (aGr A) by rw [c1 190 (by omega) (by omega), y0 190 (by omega) (by omega)]; exact r4.1.2.1, a2]
    simp only [Option.bind_some, Int.reduceLE, Int.reduceLT, reduceIte]
    rw [gr_149_53 hG, gl_190 hG, show X2 190 2 = gRe (aGr A) by rw [c2 190 (by omega) (by omega), c1 190 (by omega) (by omega), y0 190 (by omega) (by omega)]; exact r4.1.2.2, a3]
    simp only [Option.bind_some, Int.reduceLE, Int.reduceLT, reduceIte]
    rw [a4, a5]
    exact ⟨X5, rfl, ⟨mTa_fr (w5 _ (by omega)) (y5 _ (by omega) (by omega)) r1, by rw [w5 7 (by omega), w5 8 (by omega)]; exact r2, mPlan_fr (fun a h1 h2 => y5 a (by omega) (by omega)) (w5 _ (by omega)) r3, mGr_fr (y5 _ (by omega) (by omega)) r4, mHi_fr (w5 _ (by omega)) (w5 _ (by omega)) (y5 _ (by omega) (by omega)) r5, mJu_fr (fun j h1 h2 => w5 j (by omega)) r6, mBo_fr (w5 _ (by omega)) (y5 _ (by omega) (by omega)) r7, by rw [w5 80 (by omega)]; exact r8, b5, mRf_fr (y5 _ (by omega) (by omega)) r10, mWd_fr (fun a h1 => y5 a (by omega) (by omega)) r11⟩, fun a ha => y5 a (by omega) (by omega)⟩
  · have hn := pOk_n hV.2.1
    have hcc := pCe_le hV.2.1
    exact ⟨hV.1, hV.2.1, hV.2.2.1, hV.2.2.2.1, hV.2.2.2.2.1, hV.2.2.2.2.2.1, ⟨by show 0 ≤ imN (aPl A) + 1; unfold imN; omega, by show imN (aPl A) + 1 ≤ 61; unfold imN; omega⟩⟩
