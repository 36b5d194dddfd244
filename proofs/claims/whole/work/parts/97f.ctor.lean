/-! THE CONSTRUCTORS: the kernel runs the pure machine -/
theorem ct_hd (a : jI) : ∀ (l : List jI) (n : Nat), (l.drop n).headD a = l.getD n a
  | [], n => by cases n <;> rfl
  | _ :: _, 0 => rfl
  | _ :: l, n + 1 => ct_hd a l n
/-- the code that is left goes along -/
def jrunD (ce : jC) (cd : List jI) : Nat → Nat → List jI → jT
  | 0, _, _ => fun _ _ _ _ => none
  | n + 1, p, rest => fun pc loc st S => if p ≤ pc then jstep ((rest.drop (pc - p)).headD (0, 0, 0, [])) ce pc loc st S (jrunD ce cd n pc (rest.drop (pc - p))) else jstep ((cd.drop pc).headD (0, 0, 0, [])) ce pc loc st S (jrunD ce cd n pc (cd.drop pc))
theorem jrunD_eq (ce : jC) (cd : List jI) : ∀ n p : Nat, jrunD ce cd n p (cd.drop p) = jrun ce cd n
  | 0, _ => rfl
  | n + 1, p => by
    funext pc loc st S
    have e1 : jrunD ce cd n pc (cd.drop pc) = jrun ce cd n := jrunD_eq ce cd n pc
    have e2 := ct_hd (0, 0, 0, []) cd pc
    show (if p ≤ pc then jstep (((cd.drop p).drop (pc - p)).headD (0, 0, 0, [])) ce pc loc st S (jrunD ce cd n pc ((cd.drop p).drop (pc - p))) else jstep ((cd.drop pc).headD (0, 0, 0, [])) ce pc loc st S (jrunD ce cd n pc (cd.drop pc))) = jstep (cd.getD pc (0, 0, 0, [])) ce pc loc st S (jrun ce cd n)
    by_cases h : p ≤ pc
    · have e3 : (cd.drop p).drop (pc - p) = cd.drop pc := by
        rw [List.drop_drop]
        congr 1
        omega
      rw [if_pos h, e3, e2, e1]
    · rw [if_neg h, e2, e1]
def jevaD (F : Nat) : Nat → jC
  | 0 => fun _ _ _ => none
  | d + 1 => fun m args S => if jfit m args then jrunD (jevaD F d) (jcd m) F 0 (jcd m) 0 (jent args (jml0 m)) [] S else none
theorem jevaD_eq (F : Nat) : ∀ d : Nat, jevaD F d = jeva F d
  | 0 => rfl
  | d + 1 => by
    funext m args S
    show (if jfit m args then jrunD (jevaD F d) (jcd m) F 0 (jcd m) 0 (jent args (jml0 m)) [] S else none) = (if jfit m args then jrun (jeva F d) (jcd m) F 0 (jent args (jml0 m)) [] S else none)
    rw [jevaD_eq F d]
    have e := jrunD_eq (jeva F d) (jcd m) F 0
    rw [List.drop_zero] at e
    rw [e]
/-- what is asked of the store behind both -/
def ct_x : List (Int × Int × Int) := [(33, 1, 0), (0, 16, 0), (0, 17, -1), (1, 0, 0), (1, 1, 0), (1, 2, 0), (1, 3, 0), (1, 4, 0), (1, 5, 0), (1, 6, 0), (1, 7, 0), (2, 0, 3), (2, 1, 5), (2, 2, 10), (3, 0, -1), (3, 1, -1), (3, 2, -1), (25, 2, 5), (25, 3, 0), (25, 4, 0), (42, 2, 0), (42, 1, 0), (0, 15, 0), (137, 3, 0), (0, 18, 1), (35, 1, 0), (104, 9, -1), (104, 10, -1), (149, 1, 0), (149, 7, 0), (149, 8, -1), (149, 51, 0), (181, 6, 0), (181, 7, 0), (181, 8, 0), (181, 9, 0), (181, 10, 0), (181, 11, 0), (186, 3, 3), (186, 4, 5), (186, 5, 10), (187, 3, -1), (187, 4, -1), (187, 5, -1), (190, 0, 5), (190, 1, 0), (190, 2, 0), (149, 78, 0), (149, 79, 0), (149, 65, 0), (149, 81, 0), (149, 80, 1), (149, 119, 0)]
def ct_r : List (Int × Int × Nat) := [(26, 0, 48), (27, 0, 5), (190, 1, 55), (147, 0, 6), (151, 0, 6)]
def ct_K (S : jS) : Bool := kLn.all (fun q => decide (gL S.1 q.1 = q.2)) && (kRf.all (fun q => decide (gR S.1 q.1 q.2.1 = q.2.2)) && (decide (gN S.1 ≤ 600000) && (decide (gM S.1 ≤ 7302250) && (ct_x.all (fun q => decide (S.2 q.1 q.2.1 = q.2.2)) && (ct_r.all (fun q => (List.range q.2.2).all (fun j => decide (S.2 q.1 (q.2.1 + (j : Int)) = 0))) && mWds.all (fun q => (List.range q.2.length).all (fun i => decide (S.2 q.1 (i : Int) = q.2.getD i 0))))))))
def ct_F (f : jR) (g : Int × jS → jR) (k : jS → Bool) : Bool := match f with
  | none => false
  | some q => decide (q.2.1.1 = 149) && match g q with
    | none => false
    | some r => k r.2
theorem ct_sp {f : jR} {g : Int × jS → jR} {k : jS → Bool} (h : ct_F f g k = true) : ∃ q r, f = some q ∧ q.2.1.1 = 149 ∧ g q = some r ∧ k r.2 = true := by
  unfold ct_F at h
  cases f with
  | none => cases h
  | some q =>
    dsimp only at h
    rw [Bool.and_eq_true] at h
    obtain ⟨h1, h2⟩ := h
    cases e : g q with
    | none => rw [e] at h2; cases h2
    | some r => rw [e] at h2; exact ⟨q, r, rfl, of_decide_eq_true h1, e, h2⟩
set_option maxRecDepth 100000 in
theorem ct_run : ct_F (jevaD 3000 20 151 [(21, 0)] (jnew 11 0 19 jS0)) (fun q => jevaD 3000 20 186 [(22, 149)] (jnew 12 0 120 q.2)) ct_K = true := by decide +kernel
theorem ct_z {X : jX} (h : ∀ q ∈ ct_r, (List.range q.2.2).all (fun j => decide (X q.1 (q.2.1 + (j : Int)) = 0)) = true) {a o : Int} {n : Nat} (hm : (a, o, n) ∈ ct_r) {c : Int} (h0 : 0 ≤ c) (h1 : c < n) : X a (o + c) = 0 := by
  have h2 : (List.range n).all (fun j => decide (X a (o + (j : Int)) = 0)) = true := h (a, o, n) hm
  have h3 : decide (X a (o + ((c.toNat : Nat) : Int)) = 0) = true := List.all_eq_true.mp h2 c.toNat (List.mem_range.mpr (by omega))
  have h4 := of_decide_eq_true h3
  rw [Int.toNat_of_nonneg h0] at h4
  exact h4
/-- a new object -/
def ct_A : aA := (((0, fun _ => 0), (0, -1)), (P00, ((5, 0, 0), (fun _ => 0), fun _ => 0), []), none, ((0, fun _ => 0), 1), ((0, fun _ => 0), fun _ => 0))
theorem ct_RC {X : jX} (hX : ∀ q ∈ ct_x, X q.1 q.2.1 = q.2.2) (hz : ∀ q ∈ ct_r, (List.range q.2.2).all (fun j => decide (X q.1 (q.2.1 + (j : Int)) = 0)) = true) : RC ct_A X :=
  ⟨⟨(hX (33, 1, 0) (List.mem_of_getElem? (i := 0) rfl)), fun i h0 h1 => absurd (show i < 0 from h1) (by omega)⟩,
  ⟨(hX (0, 16, 0) (List.mem_of_getElem? (i := 1) rfl)), (hX (0, 17, -1) (List.mem_of_getElem? (i := 2) rfl))⟩,
  ⟨⟨(hX (1, 0, 0) (List.mem_of_getElem? (i := 3) rfl)), (hX (1, 1, 0) (List.mem_of_getElem? (i := 4) rfl)), (hX (1, 2, 0) (List.mem_of_getElem? (i := 5) rfl)), (hX (1, 3, 0) (List.mem_of_getElem? (i := 6) rfl)), (hX (1, 4, 0) (List.mem_of_getElem? (i := 7) rfl)), (hX (1, 5, 0) (List.mem_of_getElem? (i := 8) rfl)), (hX (1, 6, 0) (List.mem_of_getElem? (i := 9) rfl)), (hX (1, 7, 0) (List.mem_of_getElem? (i := 10) rfl))⟩, ⟨(hX (2, 0, 3) (List.mem_of_getElem? (i := 11) rfl)), (hX (2, 1, 5) (List.mem_of_getElem? (i := 12) rfl)), (hX (2, 2, 10) (List.mem_of_getElem? (i := 13) rfl))⟩, ⟨(hX (3, 0, -1) (List.mem_of_getElem? (i := 14) rfl)), (hX (3, 1, -1) (List.mem_of_getElem? (i := 15) rfl)), (hX (3, 2, -1) (List.mem_of_getElem? (i := 16) rfl))⟩, fun i h0 h1 => absurd (show i < 0 from h1) (by omega), fun i h0 h1 => absurd (show i < 0 from h1) (by omega), fun i h0 h1 => absurd (show i < 0 from h1) (by omega)⟩,
  ⟨⟨(hX (25, 2, 5) (List.mem_of_getElem? (i := 17) rfl)), (hX (25, 3, 0) (List.mem_of_getElem? (i := 18) rfl)), (hX (25, 4, 0) (List.mem_of_getElem? (i := 19) rfl))⟩, fun c h0 h1 => (congrArg (X 26) (Int.zero_add c)).symm.trans (ct_z hz (o := 0) (n := 48) (List.mem_of_getElem? (i := 0) rfl) h0 (by omega)), fun k h0 h1 => (congrArg (X 27) (Int.zero_add k)).symm.trans (ct_z hz (o := 0) (n := 5) (List.mem_of_getElem? (i := 1) rfl) h0 (by omega))⟩,
  ⟨(hX (42, 2, 0) (List.mem_of_getElem? (i := 20) rfl)), by rw [(hX (42, 1, 0) (List.mem_of_getElem? (i := 21) rfl))]; decide, by rw [(hX (42, 1, 0) (List.mem_of_getElem? (i := 21) rfl))]; decide, fun j hj => absurd hj (Nat.not_lt_zero j)⟩,
  (hX (0, 15, 0) (List.mem_of_getElem? (i := 22) rfl)),
  ⟨(hX (137, 3, 0) (List.mem_of_getElem? (i := 23) rfl)), fun i h0 h1 => absurd (show i < 3 * 0 from h1) (by omega)⟩,
  (hX (0, 18, 1) (List.mem_of_getElem? (i := 24) rfl)),
  ⟨(hX (35, 1, 0) (List.mem_of_getElem? (i := 25) rfl)), fun i h0 h1 => absurd (show i < 0 from h1) (by omega)⟩,
  fun k h0 h1 => (congrArg (X 147) (Int.zero_add k)).symm.trans (ct_z hz (o := 0) (n := 6) (List.mem_of_getElem? (i := 3) rfl) h0 (by omega)),
  ⟨Or.inl (hX (104, 9, -1) (List.mem_of_getElem? (i := 26) rfl)), Or.inl (hX (104, 10, -1) (List.mem_of_getElem? (i := 27) rfl))⟩⟩
theorem ct_RM {X : jX} (hX : ∀ q ∈ ct_x, X q.1 q.2.1 = q.2.2) (hz : ∀ q ∈ ct_r, (List.range q.2.2).all (fun j => decide (X q.1 (q.2.1 + (j : Int)) = 0)) = true) (hw : mWd X) : RM ct_A X :=
  ⟨⟨(hX (149, 1, 0) (List.mem_of_getElem? (i := 28) rfl)), fun i h0 h1 => absurd (show i < 0 from h1) (by omega)⟩,
  ⟨(hX (149, 7, 0) (List.mem_of_getElem? (i := 29) rfl)), (hX (149, 8, -1) (List.mem_of_getElem? (i := 30) rfl))⟩,
  ⟨(hX (149, 51, 0) (List.mem_of_getElem? (i := 31) rfl)).trans (if_pos rfl).symm, ⟨(hX (181, 6, 0) (List.mem_of_getElem? (i := 32) rfl)), (hX (181, 7, 0) (List.mem_of_getElem? (i := 33) rfl)), (hX (181, 8, 0) (List.mem_of_getElem? (i := 34) rfl)), (hX (181, 9, 0) (List.mem_of_getElem? (i := 35) rfl)), (hX (181, 10, 0) (List.mem_of_getElem? (i := 36) rfl)), (hX (181, 11, 0) (List.mem_of_getElem? (i := 37) rfl))⟩, ⟨(hX (186, 3, 3) (List.mem_of_getElem? (i := 38) rfl)), (hX (186, 4, 5) (List.mem_of_getElem? (i := 39) rfl)), (hX (186, 5, 10) (List.mem_of_getElem? (i := 40) rfl))⟩, ⟨(hX (187, 3, -1) (List.mem_of_getElem? (i := 41) rfl)), (hX (187, 4, -1) (List.mem_of_getElem? (i := 42) rfl)), (hX (187, 5, -1) (List.mem_of_getElem? (i := 43) rfl))⟩, fun i h0 h1 => absurd (show i < 0 from h1) (by omega), fun i h0 h1 => absurd (show i < 0 from h1) (by omega), fun r c h0 h1 => absurd (show r < 0 from h1) (by omega)⟩,
  ⟨⟨(hX (190, 0, 5) (List.mem_of_getElem? (i := 44) rfl)), (hX (190, 1, 0) (List.mem_of_getElem? (i := 45) rfl)), (hX (190, 2, 0) (List.mem_of_getElem? (i := 46) rfl))⟩, fun c h0 h1 => (congrArg (X 190) (show (0 : Int) + 8 + c = 1 + (7 + c) by omega)).trans (ct_z hz (o := 1) (n := 55) (c := 7 + c) (List.mem_of_getElem? (i := 2) rfl) (by omega) (by omega)), fun k h0 h1 => (congrArg (X 190) (show (0 : Int) + 3 + k = 1 + (2 + k) by omega)).trans (ct_z hz (o := 1) (n := 55) (c := 2 + k) (List.mem_of_getElem? (i := 2) rfl) (by omega) (by omega))⟩,
  ⟨(hX (149, 78, 0) (List.mem_of_getElem? (i := 47) rfl)), by rw [(hX (149, 79, 0) (List.mem_of_getElem? (i := 48) rfl))]; decide, by rw [(hX (149, 79, 0) (List.mem_of_getElem? (i := 48) rfl))]; decide, fun j hj => absurd hj (Nat.not_lt_zero j)⟩,
  (hX (149, 65, 0) (List.mem_of_getElem? (i := 49) rfl)),
  ⟨(hX (149, 81, 0) (List.mem_of_getElem? (i := 50) rfl)), fun i h0 h1 => absurd (show i < 3 * 0 from h1) (by omega)⟩,
  (hX (149, 80, 1) (List.mem_of_getElem? (i := 51) rfl)),
  ⟨(hX (149, 119, 0) (List.mem_of_getElem? (i := 52) rfl)), fun i h0 h1 => absurd (show i < 0 from h1) (by omega)⟩,
  fun k h0 h1 => (congrArg (X 151) (Int.zero_add k)).symm.trans (ct_z hz (o := 0) (n := 6) (List.mem_of_getElem? (i := 4) rfl) h0 (by omega)),
  hw⟩
theorem ct_nw : nwh (fun _ => 0) 48 = 0 := by decide +kernel
theorem ct_pOk : pOk P00 := ⟨Or.inl ⟨rfl, rfl, rfl, rfl, rfl, rfl⟩, by decide, by decide, by decide, by decide, by decide, by decide, by decide, by decide, by decide, by decide, by decide, by decide, by decide, by decide, by decide, by decide, fun i h0 h1 => absurd (show i < 0 from h1) (by omega), fun i h0 h1 => absurd (show i < 0 from h1) (by omega), fun i h0 h1 => absurd (show i < 0 from h1) (by omega), trivial, trivial, trivial⟩
theorem ct_gOk : gOk P00 ((5, 0, 0), (fun _ => 0), fun _ => 0) := by
  refine ⟨by decide, by decide, by decide, ?_, by decide, ?_, fun k h0 h1 => ⟨Int.le_refl 0, ?_, fun _ => rfl⟩, fun c h0 h1 => ⟨Int.le_refl 0, (show (0 : Int) ≤ 3 by decide), fun _ => rfl⟩⟩
  · show (0 : Int) ≤ 999999 + 999 * nwh (fun _ => 0) 48
    rw [ct_nw]; omega
  · show (0 : Int) + 99 * (0 + 0 + 0 + 0 + 0) ≤ 999999 + 99 * (100 + nwh (fun _ => 0) 48)
    rw [ct_nw]; omega
  · show (0 : Int) ≤ 20 + nwh (fun _ => 0) 48
    rw [ct_nw]; omega
theorem ct_AV : AV ct_A := ⟨⟨by decide, by decide, fun i h0 h1 => absurd (show i < 0 from h1) (by omega)⟩, ct_pOk, ct_gOk, ⟨Nat.zero_le _, fun h hh => absurd hh List.not_mem_nil⟩, ⟨by decide, by decide, fun i h0 h1 => absurd (show i < 3 * 0 from h1) (by omega)⟩, ⟨by decide, by decide⟩, ⟨by decide, by decide⟩⟩
theorem ct_all {S : jS} (h : ct_K S = true) : GG S.1 ∧ RC ct_A S.2 ∧ RM ct_A S.2 := by
  unfold ct_K at h
  rw [Bool.and_eq_true, Bool.and_eq_true, Bool.and_eq_true, Bool.and_eq_true, Bool.and_eq_true, Bool.and_eq_true] at h
  obtain ⟨h1, h2, h3, h4, h5, h6, h7⟩ := h
  have hX : ∀ q ∈ ct_x, S.2 q.1 q.2.1 = q.2.2 := fun q hq => of_decide_eq_true (List.all_eq_true.mp h5 q hq)
  have hz : ∀ q ∈ ct_r, (List.range q.2.2).all (fun j => decide (S.2 q.1 (q.2.1 + (j : Int)) = 0)) = true := List.all_eq_true.mp h6
  have hw : mWd S.2 := fun q hq i hi => of_decide_eq_true (List.all_eq_true.mp (List.all_eq_true.mp h7 q hq) i (List.mem_range.mpr hi))
  exact ⟨⟨fun q hq => of_decide_eq_true (List.all_eq_true.mp h1 q hq), fun q hq => of_decide_eq_true (List.all_eq_true.mp h2 q hq), of_decide_eq_true h3, of_decide_eq_true h4⟩, ct_RC hX hz, ct_RM hX hz hw⟩
/-- THE WHOLE RUN -/
theorem law_runs {L : Nat} {x : Int → Int} (hL : L ≤ 3072) (hx : ∀ j : Int, 0 ≤ j → j < L → j32 (x j)) : ∃ (F : Nat) (S' : jS), jrun (jcs L x (jeva F 101)) (jcd 342) F 0 [(30, -2), (2, -1), (2, -1), (2, -1)] [] jS0 = some (1, S') ∧ gN S'.1 ≤ 600000 ∧ gM S'.1 ≤ 7302250 := by
  obtain ⟨q, r, e1, en, e2, hk⟩ := ct_sp ct_run
  rw [jevaD_eq] at e1 e2
  have E1 : jD 101 151 [(21, 0)] (jnew 11 0 19 jS0) = some q := jD_deep (d := 20) (by omega) (jlim_of (jD_m 20 151 [(21, 0)] (jnew 11 0 19 jS0)) (F := 3000) e1)
  have E2 : jD 101 186 [(22, 149)] (jnew 12 0 120 q.2) = some r := jD_deep (d := 20) (by omega) (jlim_of (jD_m 20 186 [(22, 149)] (jnew 12 0 120 q.2)) (F := 3000) e2)
  obtain ⟨hG, hC, hM⟩ := ct_all hk
  obtain ⟨S', s1, s2⟩ := law_loop (x := x) 41 hL hx 3072 0 r.2.1 r.2.2 ct_A (by omega) (by omega) (by omega) hG hC hM ct_AV
  have h0 := (zlb_0 L x 101).trans (zlob ((jcs_c (by omega)).trans E1))
  have h8 := zlb_8 L x 101 q.2
  rw [en] at h8
  have h8' := (h8.trans (if_pos (by omega))).trans (zlob ((jcs_c (by omega)).trans E2))
  have hh : zlN L x 101 0 [(30, -2), (2, -1), (2, -1), (2, -1)] [] jS0 = some (1, S') := h0.trans (h8'.trans s1)
  obtain ⟨F, hF⟩ := jlim_ex hh
  exact ⟨F, S', hF, s2.2.2.1, s2.2.2.2⟩
