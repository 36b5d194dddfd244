/-! THE LAW'S RUN -/
/-- the empty store -/
def jS0 : jS := ((0, 0, (fun _ => 0), (fun _ => 0), (fun _ _ => -1)), fun _ _ => 0)
theorem jcs_mono {L : Nat} {x : Int → Int} {ce ce' : jC} (h : jleC ce ce') : jleC (jcs L x ce) (jcs L x ce') := by
  intro m a S r hh
  unfold jcs at hh ⊢
  by_cases e : m = 1000
  · rw [if_pos e] at hh ⊢; exact hh
  · rw [if_neg e] at hh ⊢
    by_cases e2 : m = 1001
    · rw [if_pos e2] at hh ⊢; exact hh
    · rw [if_neg e2] at hh ⊢; exact h m a S r hh
theorem jcs_fin {L d m : Nat} {x : Int → Int} {a : List jV} {S : jS} {r : Int × jS} (h : jcs L x (jD d) m a S = some r) : jfin (fun F => jcs L x (jeva F d) m a S) r := by
  unfold jcs at h
  by_cases e : m = 1000
  · rw [if_pos e] at h
    exact ⟨0, fun F' _ => by show jcs L x (jeva F' d) m a S = some r; unfold jcs; rw [if_pos e]; exact h⟩
  · rw [if_neg e] at h
    by_cases e2 : m = 1001
    · rw [if_pos e2] at h
      exact ⟨0, fun F' _ => by show jcs L x (jeva F' d) m a S = some r; unfold jcs; rw [if_neg e, if_pos e2]; exact h⟩
    · rw [if_neg e2] at h
      obtain ⟨F, hF⟩ := jD_fin h
      exact ⟨F, fun F' h' => by show jcs L x (jeva F' d) m a S = some r; unfold jcs; rw [if_neg e, if_neg e2]; exact hF F' h'⟩
theorem jcs_c {L m : Nat} {x : Int → Int} {ce : jC} {a : List jV} {S : jS} (hm : m < 343) : jcs L x ce m a S = ce m a S := by
  unfold jcs
  rw [if_neg (by omega), if_neg (by omega)]
theorem jcs_L {L : Nat} {x : Int → Int} {ce : jC} {a : List jV} {S : jS} : jcs L x ce 1001 a S = some ((L : Int), S) := by
  unfold jcs
  rw [if_neg (by omega), if_pos rfl]
theorem jcs_r {L : Nat} {x : Int → Int} {ce : jC} {S : jS} {i : Int} (h0 : 0 ≤ i) (h1 : i < L) : jcs L x ce 1000 [(0, i)] S = some (x i, S) := by
  unfold jcs
  rw [if_pos rfl]
  show (if 0 ≤ i then (if i < (L : Int) then some (x i, S) else none) else none) = some (x i, S)
  rw [if_pos h0, if_pos h1]
theorem jcs_a {L : Nat} {x : Int → Int} {ce : jC} {S : jS} {i k : Int} (h0 : 0 ≤ i) (hk : 0 ≤ k) (h1 : i + k < L) (hL : L ≤ 3072) : jcs L x ce 1000 [(0, jadd i k)] S = some (x (i + k), S) := by
  rw [jadd_id (by omega) (by omega)]
  exact jcs_r (by omega) h1
noncomputable def zlN (L : Nat) (x : Int → Int) (d : Nat) : jT := fun pc loc st S => jlim (fun F => jrun (jcs L x (jeva F d)) (jcd 342) F pc loc st S)
theorem zlN_m (L : Nat) (x : Int → Int) (d pc : Nat) (loc st : List jV) (S : jS) : ∀ F F' : Nat, F ≤ F' → jle (jrun (jcs L x (jeva F d)) (jcd 342) F pc loc st S) (jrun (jcs L x (jeva F' d)) (jcd 342) F' pc loc st S) := fun F F' h => jrun_mono (jcs_mono (jeva_mono h d d (Nat.le_refl d))) F F' h pc loc st S
theorem zlN_fin {L : Nat} {x : Int → Int} {d pc : Nat} {loc st : List jV} {S : jS} {r : Int × jS} (h : zlN L x d pc loc st S = some r) : jfin (fun F => jrun (jcs L x (jeva F d)) (jcd 342) F pc loc st S) r := by
  obtain ⟨F, hF⟩ := jlim_ex h
  exact ⟨F, fun F' h' => zlN_m L x d pc loc st S F F' h' r hF⟩
theorem zlN_step (L : Nat) (x : Int → Int) (d pc : Nat) (loc st : List jV) (S : jS) : zlN L x d pc loc st S = jstep ((jcd 342).getD pc (0, 0, 0, [])) (jcs L x (jD d)) pc loc st S (zlN L x d) := by
  apply jR_ext
  · intro r h
    obtain ⟨F, hF⟩ := jlim_ex h
    cases F with
    | zero => cases hF
    | succ F =>
      exact mo_all _ _ _ _ _ _ pc loc st S _ _ (jcs_mono (fun m a S r h => jlim_of (jD_m d m a S) h)) (fun pc loc st S r h => jlim_of (zlN_m L x d pc loc st S) (F := F + 1) (jrun_mono (fun _ _ _ _ h => h) F (F + 1) (Nat.le_succ F) pc loc st S r h)) r hF
  · intro r h
    obtain ⟨F, hF⟩ := co_all _ _ _ _ (jcs L x (jD d)) (fun F => jcs L x (jeva F d)) pc loc st S (zlN L x d) (fun F => jrun (jcs L x (jeva F d)) (jcd 342) F) r (fun m a S r h => jcs_fin h) (fun pc loc st S r h => zlN_fin h) h
    refine jlim_of (zlN_m L x d pc loc st S) (F := F + 1) ?_
    have h1 := hF F (Nat.le_refl F)
    exact mo_all _ _ _ _ _ _ pc loc st S _ _ (jcs_mono (jeva_mono (Nat.le_succ F) d d (Nat.le_refl d))) (jrun_mono (jcs_mono (jeva_mono (Nat.le_succ F) d d (Nat.le_refl d))) F F (Nat.le_refl F)) r h1
noncomputable def zlgo (stops : List Nat) (L : Nat) (x : Int → Int) (d : Nat) : Nat → jT
  | 0 => zlN L x d
  | n + 1 => fun pc loc st S => if stops.contains pc then zlN L x d pc loc st S else jstep ((jcd 342).getD pc (0, 0, 0, [])) (jcs L x (jD d)) pc loc st S (zlgo stops L x d n)
theorem zlgo_eq (stops : List Nat) (L : Nat) (x : Int → Int) (d : Nat) : ∀ (n pc : Nat) (loc st : List jV) (S : jS), zlgo stops L x d n pc loc st S = zlN L x d pc loc st S
  | 0, _, _, _, _ => rfl
  | n + 1, pc, loc, st, S => by
    show (if stops.contains pc then zlN L x d pc loc st S else jstep _ (jcs L x (jD d)) pc loc st S (zlgo stops L x d n)) = _
    split
    · rfl
    · have e : zlgo stops L x d n = zlN L x d := by
        funext pc loc st S
        exact zlgo_eq stops L x d n pc loc st S
      rw [e]
      exact (zlN_step L x d pc loc st S).symm
theorem zlgo_1 (stops : List Nat) (n L : Nat) (x : Int → Int) (d pc : Nat) (loc st : List jV) (S : jS) : zlN L x d pc loc st S = jstep ((jcd 342).getD pc (0, 0, 0, [])) (jcs L x (jD d)) pc loc st S (zlgo stops L x d n) := by
  rw [zlN_step]
  congr 1
  funext pc loc st S
  exact (zlgo_eq stops L x d n pc loc st S).symm
theorem zlob {f : jR} {g : Int × jS → jR} {q : Int × jS} (h : f = some q) : f.bind g = g q := by rw [h]; rfl
def zll_ (i : Int) : List jV := [(30, -2), (21, 0), (22, 149), (0, i)]
def zlfm0 (ce : jC) (mc mm : Nat) (i : Int) (k : jS → jR) (S : jS) : jR := (ce mc [(21, 0)] S).bind fun r1 => (ce mm [(22, 149)] r1.2).bind fun r2 => if r1.1 = r2.1 then k r2.2 else some (0, r2.2)
def zlfm1 (ce : jC) (mc mm : Nat) (i : Int) (k : jS → jR) (S : jS) : jR := (ce 1000 [(0, jadd i 1)] S).bind fun q1 => (ce mc [(21, 0), (0, q1.1)] S).bind fun r1 => (ce 1000 [(0, jadd i 1)] r1.2).bind fun p1 => (ce mm [(22, 149), (0, p1.1)] r1.2).bind fun r2 => if r1.1 = r2.1 then k r2.2 else some (0, r2.2)
def zlfm2 (ce : jC) (mc mm : Nat) (i : Int) (k : jS → jR) (S : jS) : jR := (ce 1000 [(0, jadd i 1)] S).bind fun q1 => (ce 1000 [(0, jadd i 2)] S).bind fun q2 => (ce mc [(21, 0), (0, q1.1), (0, q2.1)] S).bind fun r1 => (ce 1000 [(0, jadd i 1)] r1.2).bind fun p1 => (ce 1000 [(0, jadd i 2)] r1.2).bind fun p2 => (ce mm [(22, 149), (0, p1.1), (0, p2.1)] r1.2).bind fun r2 => if r1.1 = r2.1 then k r2.2 else some (0, r2.2)
def zlfm3 (ce : jC) (mc mm : Nat) (i : Int) (k : jS → jR) (S : jS) : jR := (ce 1000 [(0, jadd i 1)] S).bind fun q1 => (ce 1000 [(0, jadd i 2)] S).bind fun q2 => (ce 1000 [(0, jadd i 3)] S).bind fun q3 => (ce mc [(21, 0), (0, q1.1), (0, q2.1), (0, q3.1)] S).bind fun r1 => (ce 1000 [(0, jadd i 1)] r1.2).bind fun p1 => (ce 1000 [(0, jadd i 2)] r1.2).bind fun p2 => (ce 1000 [(0, jadd i 3)] r1.2).bind fun p3 => (ce mm [(22, 149), (0, p1.1), (0, p2.1), (0, p3.1)] r1.2).bind fun r2 => if r1.1 = r2.1 then k r2.2 else some (0, r2.2)
def zlfm5 (ce : jC) (mc mm : Nat) (i : Int) (k : jS → jR) (S : jS) : jR := (ce 1000 [(0, jadd i 1)] S).bind fun q1 => (ce 1000 [(0, jadd i 2)] S).bind fun q2 => (ce 1000 [(0, jadd i 3)] S).bind fun q3 => (ce 1000 [(0, jadd i 4)] S).bind fun q4 => (ce 1000 [(0, jadd i 5)] S).bind fun q5 => (ce mc [(21, 0), (0, q1.1), (0, q2.1), (0, q3.1), (0, q4.1), (0, q5.1)] S).bind fun r1 => (ce 1000 [(0, jadd i 1)] r1.2).bind fun p1 => (ce 1000 [(0, jadd i 2)] r1.2).bind fun p2 => (ce 1000 [(0, jadd i 3)] r1.2).bind fun p3 => (ce 1000 [(0, jadd i 4)] r1.2).bind fun p4 => (ce 1000 [(0, jadd i 5)] r1.2).bind fun p5 => (ce mm [(22, 149), (0, p1.1), (0, p2.1), (0, p3.1), (0, p4.1), (0, p5.1)] r1.2).bind fun r2 => if r1.1 = r2.1 then k r2.2 else some (0, r2.2)
def zlfl0 (ce : jC) (mc mm : Nat) (i : Int) (k : jS → jR) (S : jS) : jR := (ce mc [(21, 0)] S).bind fun r1 => (ce mm [(22, 149)] r1.2).bind fun r2 => if lCmp r1.1 r2.1 = 0 then k r2.2 else some (0, r2.2)
def zlfl2 (ce : jC) (mc mm : Nat) (i : Int) (k : jS → jR) (S : jS) : jR := (ce 1000 [(0, jadd i 1)] S).bind fun q1 => (ce 1000 [(0, jadd i 2)] S).bind fun q2 => (ce mc [(21, 0), (0, q1.1), (0, q2.1)] S).bind fun r1 => (ce 1000 [(0, jadd i 1)] r1.2).bind fun p1 => (ce 1000 [(0, jadd i 2)] r1.2).bind fun p2 => (ce mm [(22, 149), (0, p1.1), (0, p2.1)] r1.2).bind fun r2 => if lCmp r1.1 r2.1 = 0 then k r2.2 else some (0, r2.2)
/-- a call of both -/
theorem lw_two {mc mm : Nat} {args : List jV} (hB : okB mc mm args) (d : Nat) {G : jG} {X : jX} {A : aA} (hG : GG G) (hC : RC A X) (hM : RM A X) (hV : AV A) : ∃ (z : Int) (G1 : jG) (X1 X2 : jX) (A' : aA), jD (d + 60) mc ((21, 0) :: args) (G, X) = some (z, (G1, X1)) ∧ jD (d + 60) mm ((22, 149) :: args) (G1, X1) = some (z, (G1, X2)) ∧ GG G1 ∧ RC A' X2 ∧ RM A' X2 ∧ AV A' := by
  obtain ⟨ans, nxt, c, m, v⟩ := hB
  obtain ⟨G1, X1, e1, g1, r1, f1⟩ := c d G X A hG hC hV
  have hM1 : RM A X1 := RM_same (fun a ha => f1 a (by unfold sM at ha; omega)) (fun j _ => by rw [f1 149 (by omega)]) hM
  obtain ⟨X2, e2, r2, f2⟩ := m d G1 X1 A g1 hM1 hV
  exact ⟨ans A, G1, X1, X2, nxt A, e1, e2, g1, RC_same (fun a ha => f2 a (by unfold sR at ha; omega)) r1, r2, v A hV⟩
/-- from a case to the loop's end -/
def zlG (L : Nat) (x : Int → Int) (d : Nat) (i : Int) (pc : Nat) : Prop := ∀ (G : jG) (X : jX) (A : aA), GG G → RC A X → RM A X → AV A → ∃ (G' : jG) (X' : jX) (A' : aA), zlN L x (d + 60) pc (zll_ i) [] (G, X) = zlN L x (d + 60) 883 (zll_ i) [] (G', X') ∧ GG G' ∧ RC A' X' ∧ RM A' X' ∧ AV A'
theorem zlc0 {L : Nat} {x : Int → Int} {d : Nat} {i : Int} {mc mm pc : Nat} (h0 : 0 ≤ i) (h1 : i + 6 ≤ L) (hL : L ≤ 3072) (hc : mc < 343) (hm : mm < 343) (e : ∀ S, zlN L x (d + 60) pc (zll_ i) [] S = zlfm0 (jcs L x (jD (d + 60))) mc mm i (fun S => zlN L x (d + 60) 883 (zll_ i) [] S) S) (hB : okB mc mm []) : zlG L x d i pc := by
  intro G X A hG hC hM hV
  obtain ⟨z, G1, X1, X2, A', e1, e2, g1, r1, r2, v⟩ := lw_two hB d hG hC hM hV
  refine ⟨G1, X2, A', ?_, g1, r1, r2, v⟩
  rw [e]
  unfold zlfm0
  refine (zlob ((jcs_c hc).trans e1)).trans ?_
  refine (zlob ((jcs_c hm).trans e2)).trans ?_
  exact if_pos rfl
theorem zlc1 {L : Nat} {x : Int → Int} {d : Nat} {i : Int} {mc mm pc : Nat} (h0 : 0 ≤ i) (h1 : i + 6 ≤ L) (hL : L ≤ 3072) (hc : mc < 343) (hm : mm < 343) (e : ∀ S, zlN L x (d + 60) pc (zll_ i) [] S = zlfm1 (jcs L x (jD (d + 60))) mc mm i (fun S => zlN L x (d + 60) 883 (zll_ i) [] S) S) (hB : okB mc mm [(0, x (i + 1))]) : zlG L x d i pc := by
  intro G X A hG hC hM hV
  obtain ⟨z, G1, X1, X2, A', e1, e2, g1, r1, r2, v⟩ := lw_two hB d hG hC hM hV
  refine ⟨G1, X2, A', ?_, g1, r1, r2, v⟩
  rw [e]
  unfold zlfm1
  refine (zlob (jcs_a (k := 1) h0 (by omega) (by omega) hL)).trans ?_
  refine (zlob ((jcs_c hc).trans e1)).trans ?_
  refine (zlob (jcs_a (k := 1) h0 (by omega) (by omega) hL)).trans ?_
  refine (zlob ((jcs_c hm).trans e2)).trans ?_
  exact if_pos rfl
theorem zlc2 {L : Nat} {x : Int → Int} {d : Nat} {i : Int} {mc mm pc : Nat} (h0 : 0 ≤ i) (h1 : i + 6 ≤ L) (hL : L ≤ 3072) (hc : mc < 343) (hm : mm < 343) (e : ∀ S, zlN L x (d + 60) pc (zll_ i) [] S = zlfm2 (jcs L x (jD (d + 60))) mc mm i (fun S => zlN L x (d + 60) 883 (zll_ i) [] S) S) (hB : okB mc mm [(0, x (i + 1)), (0, x (i + 2))]) : zlG L x d i pc := by
  intro G X A hG hC hM hV
  obtain ⟨z, G1, X1, X2, A', e1, e2, g1, r1, r2, v⟩ := lw_two hB d hG hC hM hV
  refine ⟨G1, X2, A', ?_, g1, r1, r2, v⟩
  rw [e]
  unfold zlfm2
  refine (zlob (jcs_a (k := 1) h0 (by omega) (by omega) hL)).trans ?_
  refine (zlob (jcs_a (k := 2) h0 (by omega) (by omega) hL)).trans ?_
  refine (zlob ((jcs_c hc).trans e1)).trans ?_
  refine (zlob (jcs_a (k := 1) h0 (by omega) (by omega) hL)).trans ?_
  refine (zlob (jcs_a (k := 2) h0 (by omega) (by omega) hL)).trans ?_
  refine (zlob ((jcs_c hm).trans e2)).trans ?_
  exact if_pos rfl
theorem zlc3 {L : Nat} {x : Int → Int} {d : Nat} {i : Int} {mc mm pc : Nat} (h0 : 0 ≤ i) (h1 : i + 6 ≤ L) (hL : L ≤ 3072) (hc : mc < 343) (hm : mm < 343) (e : ∀ S, zlN L x (d + 60) pc (zll_ i) [] S = zlfm3 (jcs L x (jD (d + 60))) mc mm i (fun S => zlN L x (d + 60) 883 (zll_ i) [] S) S) (hB : okB mc mm [(0, x (i + 1)), (0, x (i + 2)), (0, x (i + 3))]) : zlG L x d i pc := by
  intro G X A hG hC hM hV
  obtain ⟨z, G1, X1, X2, A', e1, e2, g1, r1, r2, v⟩ := lw_two hB d hG hC hM hV
  refine ⟨G1, X2, A', ?_, g1, r1, r2, v⟩
  rw [e]
  unfold zlfm3
  refine (zlob (jcs_a (k := 1) h0 (by omega) (by omega) hL)).trans ?_
  refine (zlob (jcs_a (k := 2) h0 (by omega) (by omega) hL)).trans ?_
  refine (zlob (jcs_a (k := 3) h0 (by omega) (by omega) hL)).trans ?_
  refine (zlob ((jcs_c hc).trans e1)).trans ?_
  refine (zlob (jcs_a (k := 1) h0 (by omega) (by omega) hL)).trans ?_
  refine (zlob (jcs_a (k := 2) h0 (by omega) (by omega) hL)).trans ?_
  refine (zlob (jcs_a (k := 3) h0 (by omega) (by omega) hL)).trans ?_
  refine (zlob ((jcs_c hm).trans e2)).trans ?_
  exact if_pos rfl
theorem zlc5 {L : Nat} {x : Int → Int} {d : Nat} {i : Int} {mc mm pc : Nat} (h0 : 0 ≤ i) (h1 : i + 6 ≤ L) (hL : L ≤ 3072) (hc : mc < 343) (hm : mm < 343) (e : ∀ S, zlN L x (d + 60) pc (zll_ i) [] S = zlfm5 (jcs L x (jD (d + 60))) mc mm i (fun S => zlN L x (d + 60) 883 (zll_ i) [] S) S) (hB : okB mc mm [(0, x (i + 1)), (0, x (i + 2)), (0, x (i + 3)), (0, x (i + 4)), (0, x (i + 5))]) : zlG L x d i pc := by
  intro G X A hG hC hM hV
  obtain ⟨z, G1, X1, X2, A', e1, e2, g1, r1, r2, v⟩ := lw_two hB d hG hC hM hV
  refine ⟨G1, X2, A', ?_, g1, r1, r2, v⟩
  rw [e]
  unfold zlfm5
  refine (zlob (jcs_a (k := 1) h0 (by omega) (by omega) hL)).trans ?_
  refine (zlob (jcs_a (k := 2) h0 (by omega) (by omega) hL)).trans ?_
  refine (zlob (jcs_a (k := 3) h0 (by omega) (by omega) hL)).trans ?_
  refine (zlob (jcs_a (k := 4) h0 (by omega) (by omega) hL)).trans ?_
  refine (zlob (jcs_a (k := 5) h0 (by omega) (by omega) hL)).trans ?_
  refine (zlob ((jcs_c hc).trans e1)).trans ?_
  refine (zlob (jcs_a (k := 1) h0 (by omega) (by omega) hL)).trans ?_
  refine (zlob (jcs_a (k := 2) h0 (by omega) (by omega) hL)).trans ?_
  refine (zlob (jcs_a (k := 3) h0 (by omega) (by omega) hL)).trans ?_
  refine (zlob (jcs_a (k := 4) h0 (by omega) (by omega) hL)).trans ?_
  refine (zlob (jcs_a (k := 5) h0 (by omega) (by omega) hL)).trans ?_
  refine (zlob ((jcs_c hm).trans e2)).trans ?_
  exact if_pos rfl
theorem zll0 {L : Nat} {x : Int → Int} {d : Nat} {i : Int} {mc mm pc : Nat} (h0 : 0 ≤ i) (h1 : i + 6 ≤ L) (hL : L ≤ 3072) (hc : mc < 343) (hm : mm < 343) (e : ∀ S, zlN L x (d + 60) pc (zll_ i) [] S = zlfl0 (jcs L x (jD (d + 60))) mc mm i (fun S => zlN L x (d + 60) 883 (zll_ i) [] S) S) (hB : okB mc mm []) : zlG L x d i pc := by
  intro G X A hG hC hM hV
  obtain ⟨z, G1, X1, X2, A', e1, e2, g1, r1, r2, v⟩ := lw_two hB d hG hC hM hV
  refine ⟨G1, X2, A', ?_, g1, r1, r2, v⟩
  rw [e]
  unfold zlfl0
  refine (zlob ((jcs_c hc).trans e1)).trans ?_
  refine (zlob ((jcs_c hm).trans e2)).trans ?_
  exact if_pos (show lCmp z z = 0 by unfold lCmp; rw [if_neg (by omega), if_pos rfl])
theorem zll2 {L : Nat} {x : Int → Int} {d : Nat} {i : Int} {mc mm pc : Nat} (h0 : 0 ≤ i) (h1 : i + 6 ≤ L) (hL : L ≤ 3072) (hc : mc < 343) (hm : mm < 343) (e : ∀ S, zlN L x (d + 60) pc (zll_ i) [] S = zlfl2 (jcs L x (jD (d + 60))) mc mm i (fun S => zlN L x (d + 60) 883 (zll_ i) [] S) S) (hB : okB mc mm [(0, x (i + 1)), (0, x (i + 2))]) : zlG L x d i pc := by
  intro G X A hG hC hM hV
  obtain ⟨z, G1, X1, X2, A', e1, e2, g1, r1, r2, v⟩ := lw_two hB d hG hC hM hV
  refine ⟨G1, X2, A', ?_, g1, r1, r2, v⟩
  rw [e]
  unfold zlfl2
  refine (zlob (jcs_a (k := 1) h0 (by omega) (by omega) hL)).trans ?_
  refine (zlob (jcs_a (k := 2) h0 (by omega) (by omega) hL)).trans ?_
  refine (zlob ((jcs_c hc).trans e1)).trans ?_
  refine (zlob (jcs_a (k := 1) h0 (by omega) (by omega) hL)).trans ?_
  refine (zlob (jcs_a (k := 2) h0 (by omega) (by omega) hL)).trans ?_
  refine (zlob ((jcs_c hm).trans e2)).trans ?_
  exact if_pos (show lCmp z z = 0 by unfold lCmp; rw [if_neg (by omega), if_pos rfl])
set_option maxRecDepth 20000 in
theorem zlb_164 (L : Nat) (x : Int → Int) (d : Nat) (i : Int) (S : jS) : zlN L x d 164 (zll_ i) [] S = zlfm5 (jcs L x (jD d)) 152 188 i (fun S => zlN L x d 883 (zll_ i) [] S) S := (zlgo_1 [883] 59 L x d 164 _ _ _).trans rfl
set_option maxRecDepth 20000 in
theorem zlb_227 (L : Nat) (x : Int → Int) (d : Nat) (i : Int) (S : jS) : zlN L x d 227 (zll_ i) [] S = zlfm1 (jcs L x (jD d)) 153 189 i (fun S => zlN L x d 883 (zll_ i) [] S) S := (zlgo_1 [883] 19 L x d 227 _ _ _).trans rfl
set_option maxRecDepth 20000 in
theorem zlb_250 (L : Nat) (x : Int → Int) (d : Nat) (i : Int) (S : jS) : zlN L x d 250 (zll_ i) [] S = zlfm0 (jcs L x (jD d)) 154 214 i (fun S => zlN L x d 883 (zll_ i) [] S) S := (zlgo_1 [883] 9 L x d 250 _ _ _).trans rfl
set_option maxRecDepth 20000 in
theorem zlb_263 (L : Nat) (x : Int → Int) (d : Nat) (i : Int) (S : jS) : zlN L x d 263 (zll_ i) [] S = zlfm1 (jcs L x (jD d)) 155 216 i (fun S => zlN L x d 883 (zll_ i) [] S) S := (zlgo_1 [883] 19 L x d 263 _ _ _).trans rfl
set_option maxRecDepth 20000 in
theorem zlb_286 (L : Nat) (x : Int → Int) (d : Nat) (i : Int) (S : jS) : zlN L x d 286 (zll_ i) [] S = zlfm1 (jcs L x (jD d)) 156 250 i (fun S => zlN L x d 883 (zll_ i) [] S) S := (zlgo_1 [883] 19 L x d 286 _ _ _).trans rfl
set_option maxRecDepth 20000 in
theorem zlb_309 (L : Nat) (x : Int → Int) (d : Nat) (i : Int) (S : jS) : zlN L x d 309 (zll_ i) [] S = zlfm3 (jcs L x (jD d)) 157 251 i (fun S => zlN L x d 883 (zll_ i) [] S) S := (zlgo_1 [883] 39 L x d 309 _ _ _).trans rfl
set_option maxRecDepth 20000 in
theorem zlb_352 (L : Nat) (x : Int → Int) (d : Nat) (i : Int) (S : jS) : zlN L x d 352 (zll_ i) [] S = zlfm2 (jcs L x (jD d)) 158 253 i (fun S => zlN L x d 883 (zll_ i) [] S) S := (zlgo_1 [883] 29 L x d 352 _ _ _).trans rfl
set_option maxRecDepth 20000 in
theorem zlb_385 (L : Nat) (x : Int → Int) (d : Nat) (i : Int) (S : jS) : zlN L x d 385 (zll_ i) [] S = zlfm2 (jcs L x (jD d)) 159 254 i (fun S => zlN L x d 883 (zll_ i) [] S) S := (zlgo_1 [883] 29 L x d 385 _ _ _).trans rfl
set_option maxRecDepth 20000 in
theorem zlb_418 (L : Nat) (x : Int → Int) (d : Nat) (i : Int) (S : jS) : zlN L x d 418 (zll_ i) [] S = zlfm2 (jcs L x (jD d)) 160 256 i (fun S => zlN L x d 883 (zll_ i) [] S) S := (zlgo_1 [883] 29 L x d 418 _ _ _).trans rfl
set_option maxRecDepth 20000 in
theorem zlb_451 (L : Nat) (x : Int → Int) (d : Nat) (i : Int) (S : jS) : zlN L x d 451 (zll_ i) [] S = zlfm0 (jcs L x (jD d)) 161 259 i (fun S => zlN L x d 883 (zll_ i) [] S) S := (zlgo_1 [883] 9 L x d 451 _ _ _).trans rfl
set_option maxRecDepth 20000 in
theorem zlb_464 (L : Nat) (x : Int → Int) (d : Nat) (i : Int) (S : jS) : zlN L x d 464 (zll_ i) [] S = zlfm1 (jcs L x (jD d)) 162 260 i (fun S => zlN L x d 883 (zll_ i) [] S) S := (zlgo_1 [883] 19 L x d 464 _ _ _).trans rfl
set_option maxRecDepth 20000 in
theorem zlb_487 (L : Nat) (x : Int → Int) (d : Nat) (i : Int) (S : jS) : zlN L x d 487 (zll_ i) [] S = zlfm2 (jcs L x (jD d)) 163 265 i (fun S => zlN L x d 883 (zll_ i) [] S) S := (zlgo_1 [883] 29 L x d 487 _ _ _).trans rfl
set_option maxRecDepth 20000 in
theorem zlb_520 (L : Nat) (x : Int → Int) (d : Nat) (i : Int) (S : jS) : zlN L x d 520 (zll_ i) [] S = zlfl2 (jcs L x (jD d)) 164 269 i (fun S => zlN L x d 883 (zll_ i) [] S) S := (zlgo_1 [883] 30 L x d 520 _ _ _).trans rfl
set_option maxRecDepth 20000 in
theorem zlb_554 (L : Nat) (x : Int → Int) (d : Nat) (i : Int) (S : jS) : zlN L x d 554 (zll_ i) [] S = zlfm1 (jcs L x (jD d)) 165 272 i (fun S => zlN L x d 883 (zll_ i) [] S) S := (zlgo_1 [883] 19 L x d 554 _ _ _).trans rfl
set_option maxRecDepth 20000 in
theorem zlb_577 (L : Nat) (x : Int → Int) (d : Nat) (i : Int) (S : jS) : zlN L x d 577 (zll_ i) [] S = zlfm1 (jcs L x (jD d)) 166 276 i (fun S => zlN L x d 883 (zll_ i) [] S) S := (zlgo_1 [883] 19 L x d 577 _ _ _).trans rfl
set_option maxRecDepth 20000 in
theorem zlb_600 (L : Nat) (x : Int → Int) (d : Nat) (i : Int) (S : jS) : zlN L x d 600 (zll_ i) [] S = zlfm1 (jcs L x (jD d)) 167 277 i (fun S => zlN L x d 883 (zll_ i) [] S) S := (zlgo_1 [883] 19 L x d 600 _ _ _).trans rfl
set_option maxRecDepth 20000 in
theorem zlb_623 (L : Nat) (x : Int → Int) (d : Nat) (i : Int) (S : jS) : zlN L x d 623 (zll_ i) [] S = zlfm1 (jcs L x (jD d)) 168 278 i (fun S => zlN L x d 883 (zll_ i) [] S) S := (zlgo_1 [883] 19 L x d 623 _ _ _).trans rfl
set_option maxRecDepth 20000 in
theorem zlb_646 (L : Nat) (x : Int → Int) (d : Nat) (i : Int) (S : jS) : zlN L x d 646 (zll_ i) [] S = zlfm1 (jcs L x (jD d)) 169 283 i (fun S => zlN L x d 883 (zll_ i) [] S) S := (zlgo_1 [883] 19 L x d 646 _ _ _).trans rfl
set_option maxRecDepth 20000 in
theorem zlb_669 (L : Nat) (x : Int → Int) (d : Nat) (i : Int) (S : jS) : zlN L x d 669 (zll_ i) [] S = zlfm0 (jcs L x (jD d)) 170 274 i (fun S => zlN L x d 883 (zll_ i) [] S) S := (zlgo_1 [883] 9 L x d 669 _ _ _).trans rfl
set_option maxRecDepth 20000 in
theorem zlb_682 (L : Nat) (x : Int → Int) (d : Nat) (i : Int) (S : jS) : zlN L x d 682 (zll_ i) [] S = zlfm1 (jcs L x (jD d)) 171 279 i (fun S => zlN L x d 883 (zll_ i) [] S) S := (zlgo_1 [883] 19 L x d 682 _ _ _).trans rfl
set_option maxRecDepth 20000 in
theorem zlb_705 (L : Nat) (x : Int → Int) (d : Nat) (i : Int) (S : jS) : zlN L x d 705 (zll_ i) [] S = zlfm0 (jcs L x (jD d)) 172 284 i (fun S => zlN L x d 883 (zll_ i) [] S) S := (zlgo_1 [883] 9 L x d 705 _ _ _).trans rfl
set_option maxRecDepth 20000 in
theorem zlb_718 (L : Nat) (x : Int → Int) (d : Nat) (i : Int) (S : jS) : zlN L x d 718 (zll_ i) [] S = zlfm1 (jcs L x (jD d)) 173 288 i (fun S => zlN L x d 883 (zll_ i) [] S) S := (zlgo_1 [883] 19 L x d 718 _ _ _).trans rfl
set_option maxRecDepth 20000 in
theorem zlb_741 (L : Nat) (x : Int → Int) (d : Nat) (i : Int) (S : jS) : zlN L x d 741 (zll_ i) [] S = zlfm1 (jcs L x (jD d)) 174 290 i (fun S => zlN L x d 883 (zll_ i) [] S) S := (zlgo_1 [883] 19 L x d 741 _ _ _).trans rfl
set_option maxRecDepth 20000 in
theorem zlb_764 (L : Nat) (x : Int → Int) (d : Nat) (i : Int) (S : jS) : zlN L x d 764 (zll_ i) [] S = zlfm2 (jcs L x (jD d)) 175 294 i (fun S => zlN L x d 883 (zll_ i) [] S) S := (zlgo_1 [883] 29 L x d 764 _ _ _).trans rfl
set_option maxRecDepth 20000 in
theorem zlb_797 (L : Nat) (x : Int → Int) (d : Nat) (i : Int) (S : jS) : zlN L x d 797 (zll_ i) [] S = zlfl0 (jcs L x (jD d)) 176 323 i (fun S => zlN L x d 883 (zll_ i) [] S) S := (zlgo_1 [883] 10 L x d 797 _ _ _).trans rfl
set_option maxRecDepth 20000 in
theorem zlb_811 (L : Nat) (x : Int → Int) (d : Nat) (i : Int) (S : jS) : zlN L x d 811 (zll_ i) [] S = zlfm0 (jcs L x (jD d)) 177 327 i (fun S => zlN L x d 883 (zll_ i) [] S) S := (zlgo_1 [883] 9 L x d 811 _ _ _).trans rfl
set_option maxRecDepth 20000 in
theorem zlb_824 (L : Nat) (x : Int → Int) (d : Nat) (i : Int) (S : jS) : zlN L x d 824 (zll_ i) [] S = zlfm1 (jcs L x (jD d)) 178 328 i (fun S => zlN L x d 883 (zll_ i) [] S) S := (zlgo_1 [883] 19 L x d 824 _ _ _).trans rfl
set_option maxRecDepth 20000 in
theorem zlb_847 (L : Nat) (x : Int → Int) (d : Nat) (i : Int) (S : jS) : zlN L x d 847 (zll_ i) [] S = zlfm0 (jcs L x (jD d)) 179 331 i (fun S => zlN L x d 883 (zll_ i) [] S) S := (zlgo_1 [883] 9 L x d 847 _ _ _).trans rfl
set_option maxRecDepth 20000 in
theorem zlb_860 (L : Nat) (x : Int → Int) (d : Nat) (i : Int) (S : jS) : zlN L x d 860 (zll_ i) [] S = zlfm1 (jcs L x (jD d)) 180 332 i (fun S => zlN L x d 883 (zll_ i) [] S) S := (zlgo_1 [883] 19 L x d 860 _ _ _).trans rfl
set_option maxRecDepth 20000 in
theorem zlb_18 (L : Nat) (x : Int → Int) (d : Nat) (i : Int) (S : jS) : zlN L x d 18 (zll_ i) [] S = (jcs L x (jD d) 1001 [] S).bind fun q => if jsub q.1 6 < i then some (1, S) else zlN L x d 27 (zll_ i) [] S := (zlgo_1 [27] 9 L x d 18 _ _ _).trans rfl
set_option maxRecDepth 20000 in
theorem zlb_27 (L : Nat) (x : Int → Int) (d : Nat) (i : Int) (S : jS) : zlN L x d 27 (zll_ i) [] S = (jcs L x (jD d) 1000 [(0, i)] S).bind fun q => jsw (fun t => zlN L x d t (zll_ i) [] S) (iAnd q.1 31) 883 0 [164, 227, 250, 263, 286, 309, 352, 385, 418, 451, 464, 487, 520, 554, 577, 600, 623, 646, 669, 682, 705, 718, 741, 764, 797, 811, 824, 847, 860] := (zlgo_1 [] 5 L x d 27 _ _ _).trans rfl
set_option maxRecDepth 20000 in
theorem zlb_883 (L : Nat) (x : Int → Int) (d : Nat) (i : Int) (S : jS) : zlN L x d 883 (zll_ i) [] S = zlN L x d 18 (zll_ (jadd i 6)) [] S := (zlgo_1 [] 1 L x d 883 _ _ _).trans rfl
set_option maxRecDepth 20000 in
theorem zlb_0 (L : Nat) (x : Int → Int) (d : Nat) : zlN L x d 0 [(30, -2), (2, -1), (2, -1), (2, -1)] [] jS0 = (jcs L x (jD d) 151 [(21, 0)] (jnew 11 0 19 jS0)).bind fun q => zlN L x d 8 [(30, -2), (21, 0), (2, -1), (2, -1)] [] q.2 := (zlgo_1 [8] 9 L x d 0 _ _ _).trans rfl
set_option maxRecDepth 20000 in
theorem zlb_8 (L : Nat) (x : Int → Int) (d : Nat) (S : jS) : zlN L x d 8 [(30, -2), (21, 0), (2, -1), (2, -1)] [] S = if 0 ≤ ((S.1.1 : Nat) : Int) then (jcs L x (jD d) 186 [(22, ((S.1.1 : Nat) : Int))] (jnew 12 0 120 S)).bind fun q => zlN L x d 18 [(30, -2), (21, 0), (22, ((S.1.1 : Nat) : Int)), (0, 0)] [] q.2 else none := (zlgo_1 [18] 9 L x d 8 _ _ _).trans rfl
theorem jsw_or (k : Nat → jR) (z d : Int) : ∀ (l : List Int) (lo : Int), (∃ t ∈ l, jsw k z d lo l = k t.toNat) ∨ jsw k z d lo l = k d.toNat
  | [], _ => Or.inr rfl
  | t :: l, lo => by
    by_cases h : z = lo
    · exact Or.inl ⟨t, List.mem_cons_self, by show (if z = lo then k t.toNat else jsw k z d (lo + 1) l) = _; rw [if_pos h]⟩
    · have e : jsw k z d lo (t :: l) = jsw k z d (lo + 1) l := by show (if z = lo then k t.toNat else jsw k z d (lo + 1) l) = _; rw [if_neg h]
      rw [e]
      rcases jsw_or k z d l (lo + 1) with ⟨u, hu, q⟩ | q
      · exact Or.inl ⟨u, List.mem_cons_of_mem _ hu, q⟩
      · exact Or.inr q
set_option maxRecDepth 20000 in
theorem zlk_164 {L : Nat} {x : Int → Int} {d : Nat} {i : Int} (h0 : 0 ≤ i) (h1 : i + 6 ≤ L) (hL : L ≤ 3072) (hx : ∀ j : Int, 0 ≤ j → j < L → j32 (x j)) : zlG L x d i 164 := zlc5 h0 h1 hL (by omega) (by omega) (zlb_164 L x (d + 60) i) (call_feed (x (i + 1)) (x (i + 2)) (x (i + 3)) (x (i + 4)) (x (i + 5)) (hx _ (by omega) (by omega)) (hx _ (by omega) (by omega)) (hx _ (by omega) (by omega)) (hx _ (by omega) (by omega)) (hx _ (by omega) (by omega)))
set_option maxRecDepth 20000 in
theorem zlk_227 {L : Nat} {x : Int → Int} {d : Nat} {i : Int} (h0 : 0 ≤ i) (h1 : i + 6 ≤ L) (hL : L ≤ 3072) (hx : ∀ j : Int, 0 ≤ j → j < L → j32 (x j)) : zlG L x d i 227 := zlc1 h0 h1 hL (by omega) (by omega) (zlb_227 L x (d + 60) i) (call_end (x (i + 1)))
set_option maxRecDepth 20000 in
theorem zlk_250 {L : Nat} {x : Int → Int} {d : Nat} {i : Int} (h0 : 0 ≤ i) (h1 : i + 6 ≤ L) (hL : L ≤ 3072) (hx : ∀ j : Int, 0 ≤ j → j < L → j32 (x j)) : zlG L x d i 250 := zlc0 h0 h1 hL (by omega) (by omega) (zlb_250 L x (d + 60) i) (call_pit)
set_option maxRecDepth 20000 in
theorem zlk_263 {L : Nat} {x : Int → Int} {d : Nat} {i : Int} (h0 : 0 ≤ i) (h1 : i + 6 ≤ L) (hL : L ≤ 3072) (hx : ∀ j : Int, 0 ≤ j → j < L → j32 (x j)) : zlG L x d i 263 := zlc1 h0 h1 hL (by omega) (by omega) (zlb_263 L x (d + 60) i) (call_fault (x (i + 1)))
set_option maxRecDepth 20000 in
theorem zlk_286 {L : Nat} {x : Int → Int} {d : Nat} {i : Int} (h0 : 0 ≤ i) (h1 : i + 6 ≤ L) (hL : L ≤ 3072) (hx : ∀ j : Int, 0 ≤ j → j < L → j32 (x j)) : zlG L x d i 286 := zlc1 h0 h1 hL (by omega) (by omega) (zlb_286 L x (d + 60) i) (call_has (x (i + 1)))
set_option maxRecDepth 20000 in
theorem zlk_309 {L : Nat} {x : Int → Int} {d : Nat} {i : Int} (h0 : 0 ≤ i) (h1 : i + 6 ≤ L) (hL : L ≤ 3072) (hx : ∀ j : Int, 0 ≤ j → j < L → j32 (x j)) : zlG L x d i 309 := zlc3 h0 h1 hL (by omega) (by omega) (zlb_309 L x (d + 60) i) (call_letter (x (i + 1)) (x (i + 2)) (x (i + 3)))
set_option maxRecDepth 20000 in
theorem zlk_352 {L : Nat} {x : Int → Int} {d : Nat} {i : Int} (h0 : 0 ≤ i) (h1 : i + 6 ≤ L) (hL : L ≤ 3072) (hx : ∀ j : Int, 0 ≤ j → j < L → j32 (x j)) : zlG L x d i 352 := zlc2 h0 h1 hL (by omega) (by omega) (zlb_352 L x (d + 60) i) (call_kind (x (i + 1)) (x (i + 2)))
set_option maxRecDepth 20000 in
theorem zlk_385 {L : Nat} {x : Int → Int} {d : Nat} {i : Int} (h0 : 0 ≤ i) (h1 : i + 6 ≤ L) (hL : L ≤ 3072) (hx : ∀ j : Int, 0 ≤ j → j < L → j32 (x j)) : zlG L x d i 385 := zlc2 h0 h1 hL (by omega) (by omega) (zlb_385 L x (d + 60) i) (call_cell (x (i + 1)) (x (i + 2)))
set_option maxRecDepth 20000 in
theorem zlk_418 {L : Nat} {x : Int → Int} {d : Nat} {i : Int} (h0 : 0 ≤ i) (h1 : i + 6 ≤ L) (hL : L ≤ 3072) (hx : ∀ j : Int, 0 ≤ j → j < L → j32 (x j)) : zlG L x d i 418 := zlc2 h0 h1 hL (by omega) (by omega) (zlb_418 L x (d + 60) i) (call_house (x (i + 1)) (x (i + 2)))
set_option maxRecDepth 20000 in
theorem zlk_451 {L : Nat} {x : Int → Int} {d : Nat} {i : Int} (h0 : 0 ≤ i) (h1 : i + 6 ≤ L) (hL : L ≤ 3072) (hx : ∀ j : Int, 0 ≤ j → j < L → j32 (x j)) : zlG L x d i 451 := zlc0 h0 h1 hL (by omega) (by omega) (zlb_451 L x (d + 60) i) (call_judge)
set_option maxRecDepth 20000 in
theorem zlk_464 {L : Nat} {x : Int → Int} {d : Nat} {i : Int} (h0 : 0 ≤ i) (h1 : i + 6 ≤ L) (hL : L ≤ 3072) (hx : ∀ j : Int, 0 ≤ j → j < L → j32 (x j)) : zlG L x d i 464 := zlc1 h0 h1 hL (by omega) (by omega) (zlb_464 L x (d + 60) i) (call_judged (x (i + 1)))
set_option maxRecDepth 20000 in
theorem zlk_487 {L : Nat} {x : Int → Int} {d : Nat} {i : Int} (h0 : 0 ≤ i) (h1 : i + 6 ≤ L) (hL : L ≤ 3072) (hx : ∀ j : Int, 0 ≤ j → j < L → j32 (x j)) : zlG L x d i 487 := zlc2 h0 h1 hL (by omega) (by omega) (zlb_487 L x (d + 60) i) (call_best (x (i + 1)) (x (i + 2)))
set_option maxRecDepth 20000 in
theorem zlk_520 {L : Nat} {x : Int → Int} {d : Nat} {i : Int} (h0 : 0 ≤ i) (h1 : i + 6 ≤ L) (hL : L ≤ 3072) (hx : ∀ j : Int, 0 ≤ j → j < L → j32 (x j)) : zlG L x d i 520 := zll2 h0 h1 hL (by omega) (by omega) (zlb_520 L x (d + 60) i) (call_rivals (x (i + 1)) (x (i + 2)))
set_option maxRecDepth 20000 in
theorem zlk_554 {L : Nat} {x : Int → Int} {d : Nat} {i : Int} (h0 : 0 ≤ i) (h1 : i + 6 ≤ L) (hL : L ≤ 3072) (hx : ∀ j : Int, 0 ≤ j → j < L → j32 (x j)) : zlG L x d i 554 := zlc1 h0 h1 hL (by omega) (by omega) (zlb_554 L x (d + 60) i) (call_stores (x (i + 1)))
set_option maxRecDepth 20000 in
theorem zlk_577 {L : Nat} {x : Int → Int} {d : Nat} {i : Int} (h0 : 0 ≤ i) (h1 : i + 6 ≤ L) (hL : L ≤ 3072) (hx : ∀ j : Int, 0 ≤ j → j < L → j32 (x j)) : zlG L x d i 577 := zlc1 h0 h1 hL (by omega) (by omega) (zlb_577 L x (d + 60) i) (call_cut (x (i + 1)))
set_option maxRecDepth 20000 in
theorem zlk_600 {L : Nat} {x : Int → Int} {d : Nat} {i : Int} (h0 : 0 ≤ i) (h1 : i + 6 ≤ L) (hL : L ≤ 3072) (hx : ∀ j : Int, 0 ≤ j → j < L → j32 (x j)) : zlG L x d i 600 := zlc1 h0 h1 hL (by omega) (by omega) (zlb_600 L x (d + 60) i) (call_prop (x (i + 1)))
set_option maxRecDepth 20000 in
theorem zlk_623 {L : Nat} {x : Int → Int} {d : Nat} {i : Int} (h0 : 0 ≤ i) (h1 : i + 6 ≤ L) (hL : L ≤ 3072) (hx : ∀ j : Int, 0 ≤ j → j < L → j32 (x j)) : zlG L x d i 623 := zlc1 h0 h1 hL (by omega) (by omega) (zlb_623 L x (d + 60) i) (call_burn (x (i + 1)))
set_option maxRecDepth 20000 in
theorem zlk_646 {L : Nat} {x : Int → Int} {d : Nat} {i : Int} (h0 : 0 ≤ i) (h1 : i + 6 ≤ L) (hL : L ≤ 3072) (hx : ∀ j : Int, 0 ≤ j → j < L → j32 (x j)) : zlG L x d i 646 := zlc1 h0 h1 hL (by omega) (by omega) (zlb_646 L x (d + 60) i) (call_days (x (i + 1)))
set_option maxRecDepth 20000 in
theorem zlk_669 {L : Nat} {x : Int → Int} {d : Nat} {i : Int} (h0 : 0 ≤ i) (h1 : i + 6 ≤ L) (hL : L ≤ 3072) (hx : ∀ j : Int, 0 ≤ j → j < L → j32 (x j)) : zlG L x d i 669 := zlc0 h0 h1 hL (by omega) (by omega) (zlb_669 L x (d + 60) i) (call_undo)
set_option maxRecDepth 20000 in
theorem zlk_682 {L : Nat} {x : Int → Int} {d : Nat} {i : Int} (h0 : 0 ≤ i) (h1 : i + 6 ≤ L) (hL : L ≤ 3072) (hx : ∀ j : Int, 0 ≤ j → j < L → j32 (x j)) : zlG L x d i 682 := zlc1 h0 h1 hL (by omega) (by omega) (zlb_682 L x (d + 60) i) (call_seed (x (i + 1)) (hx _ (by omega) (by omega)))
set_option maxRecDepth 20000 in
theorem zlk_705 {L : Nat} {x : Int → Int} {d : Nat} {i : Int} (h0 : 0 ≤ i) (h1 : i + 6 ≤ L) (hL : L ≤ 3072) (hx : ∀ j : Int, 0 ≤ j → j < L → j32 (x j)) : zlG L x d i 705 := zlc0 h0 h1 hL (by omega) (by omega) (zlb_705 L x (d + 60) i) (call_bores)
set_option maxRecDepth 20000 in
theorem zlk_718 {L : Nat} {x : Int → Int} {d : Nat} {i : Int} (h0 : 0 ≤ i) (h1 : i + 6 ≤ L) (hL : L ≤ 3072) (hx : ∀ j : Int, 0 ≤ j → j < L → j32 (x j)) : zlG L x d i 718 := zlc1 h0 h1 hL (by omega) (by omega) (zlb_718 L x (d + 60) i) (call_fits (x (i + 1)))
set_option maxRecDepth 20000 in
theorem zlk_741 {L : Nat} {x : Int → Int} {d : Nat} {i : Int} (h0 : 0 ≤ i) (h1 : i + 6 ≤ L) (hL : L ≤ 3072) (hx : ∀ j : Int, 0 ≤ j → j < L → j32 (x j)) : zlG L x d i 741 := zlc1 h0 h1 hL (by omega) (by omega) (zlb_741 L x (d + 60) i) (call_next (x (i + 1)))
set_option maxRecDepth 20000 in
theorem zlk_764 {L : Nat} {x : Int → Int} {d : Nat} {i : Int} (h0 : 0 ≤ i) (h1 : i + 6 ≤ L) (hL : L ≤ 3072) (hx : ∀ j : Int, 0 ≤ j → j < L → j32 (x j)) : zlG L x d i 764 := zlc2 h0 h1 hL (by omega) (by omega) (zlb_764 L x (d + 60) i) (call_theft (x (i + 1)) (x (i + 2)) (hx _ (by omega) (by omega)) (hx _ (by omega) (by omega)))
set_option maxRecDepth 20000 in
theorem zlk_797 {L : Nat} {x : Int → Int} {d : Nat} {i : Int} (h0 : 0 ≤ i) (h1 : i + 6 ≤ L) (hL : L ≤ 3072) (hx : ∀ j : Int, 0 ≤ j → j < L → j32 (x j)) : zlG L x d i 797 := zll0 h0 h1 hL (by omega) (by omega) (zlb_797 L x (d + 60) i) (call_ask)
set_option maxRecDepth 20000 in
theorem zlk_811 {L : Nat} {x : Int → Int} {d : Nat} {i : Int} (h0 : 0 ≤ i) (h1 : i + 6 ≤ L) (hL : L ≤ 3072) (hx : ∀ j : Int, 0 ≤ j → j < L → j32 (x j)) : zlG L x d i 811 := zlc0 h0 h1 hL (by omega) (by omega) (zlb_811 L x (d + 60) i) (call_image)
set_option maxRecDepth 20000 in
theorem zlk_824 {L : Nat} {x : Int → Int} {d : Nat} {i : Int} (h0 : 0 ≤ i) (h1 : i + 6 ≤ L) (hL : L ≤ 3072) (hx : ∀ j : Int, 0 ≤ j → j < L → j32 (x j)) : zlG L x d i 824 := zlc1 h0 h1 hL (by omega) (by omega) (zlb_824 L x (d + 60) i) (call_octet (x (i + 1)))
set_option maxRecDepth 20000 in
theorem zlk_847 {L : Nat} {x : Int → Int} {d : Nat} {i : Int} (h0 : 0 ≤ i) (h1 : i + 6 ≤ L) (hL : L ≤ 3072) (hx : ∀ j : Int, 0 ≤ j → j < L → j32 (x j)) : zlG L x d i 847 := zlc0 h0 h1 hL (by omega) (by omega) (zlb_847 L x (d + 60) i) (call_on)
set_option maxRecDepth 20000 in
theorem zlk_860 {L : Nat} {x : Int → Int} {d : Nat} {i : Int} (h0 : 0 ≤ i) (h1 : i + 6 ≤ L) (hL : L ≤ 3072) (hx : ∀ j : Int, 0 ≤ j → j < L → j32 (x j)) : zlG L x d i 860 := zlc1 h0 h1 hL (by omega) (by omega) (zlb_860 L x (d + 60) i) (call_status (x (i + 1)))
set_option maxRecDepth 20000 in
theorem zlk_all {L : Nat} {x : Int → Int} {d : Nat} {i : Int} (h0 : 0 ≤ i) (h1 : i + 6 ≤ L) (hL : L ≤ 3072) (hx : ∀ j : Int, 0 ≤ j → j < L → j32 (x j)) : ∀ t ∈ ([164, 227, 250, 263, 286, 309, 352, 385, 418, 451, 464, 487, 520, 554, 577, 600, 623, 646, 669, 682, 705, 718, 741, 764, 797, 811, 824, 847, 860] : List Int), zlG L x d i t.toNat := List.forall_mem_cons.mpr ⟨zlk_164 h0 h1 hL hx, List.forall_mem_cons.mpr ⟨zlk_227 h0 h1 hL hx, List.forall_mem_cons.mpr ⟨zlk_250 h0 h1 hL hx, List.forall_mem_cons.mpr ⟨zlk_263 h0 h1 hL hx, List.forall_mem_cons.mpr ⟨zlk_286 h0 h1 hL hx, List.forall_mem_cons.mpr ⟨zlk_309 h0 h1 hL hx, List.forall_mem_cons.mpr ⟨zlk_352 h0 h1 hL hx, List.forall_mem_cons.mpr ⟨zlk_385 h0 h1 hL hx, List.forall_mem_cons.mpr ⟨zlk_418 h0 h1 hL hx, List.forall_mem_cons.mpr ⟨zlk_451 h0 h1 hL hx, List.forall_mem_cons.mpr ⟨zlk_464 h0 h1 hL hx, List.forall_mem_cons.mpr ⟨zlk_487 h0 h1 hL hx, List.forall_mem_cons.mpr ⟨zlk_520 h0 h1 hL hx, List.forall_mem_cons.mpr ⟨zlk_554 h0 h1 hL hx, List.forall_mem_cons.mpr ⟨zlk_577 h0 h1 hL hx, List.forall_mem_cons.mpr ⟨zlk_600 h0 h1 hL hx, List.forall_mem_cons.mpr ⟨zlk_623 h0 h1 hL hx, List.forall_mem_cons.mpr ⟨zlk_646 h0 h1 hL hx, List.forall_mem_cons.mpr ⟨zlk_669 h0 h1 hL hx, List.forall_mem_cons.mpr ⟨zlk_682 h0 h1 hL hx, List.forall_mem_cons.mpr ⟨zlk_705 h0 h1 hL hx, List.forall_mem_cons.mpr ⟨zlk_718 h0 h1 hL hx, List.forall_mem_cons.mpr ⟨zlk_741 h0 h1 hL hx, List.forall_mem_cons.mpr ⟨zlk_764 h0 h1 hL hx, List.forall_mem_cons.mpr ⟨zlk_797 h0 h1 hL hx, List.forall_mem_cons.mpr ⟨zlk_811 h0 h1 hL hx, List.forall_mem_cons.mpr ⟨zlk_824 h0 h1 hL hx, List.forall_mem_cons.mpr ⟨zlk_847 h0 h1 hL hx, List.forall_mem_cons.mpr ⟨zlk_860 h0 h1 hL hx, List.forall_mem_nil _⟩⟩⟩⟩⟩⟩⟩⟩⟩⟩⟩⟩⟩⟩⟩⟩⟩⟩⟩⟩⟩⟩⟩⟩⟩⟩⟩⟩⟩
/-- THE LOOP -/
theorem law_loop {L : Nat} {x : Int → Int} (d : Nat) (hL : L ≤ 3072) (hx : ∀ j : Int, 0 ≤ j → j < L → j32 (x j)) : ∀ (n : Nat) (i : Int) (G : jG) (X : jX) (A : aA), 0 ≤ i → i ≤ 3100 → (L : Int) - i ≤ n → GG G → RC A X → RM A X → AV A → ∃ S', zlN L x (d + 60) 18 (zll_ i) [] (G, X) = some (1, S') ∧ GG S'.1 := by
  intro n
  induction n with
  | zero =>
    intro i G X A h0 h1 hn hG hC hM hV
    refine ⟨(G, X), ?_, hG⟩
    rw [zlb_18]
    refine (zlob jcs_L).trans ?_
    exact if_pos (by show jsub (L : Int) 6 < i; rw [jsub_id (by omega) (by omega)]; omega)
  | succ n ih =>
    intro i G X A h0 h1 hn hG hC hM hV
    by_cases hb : (L : Int) - 6 < i
    · refine ⟨(G, X), ?_, hG⟩
      rw [zlb_18]
      refine (zlob jcs_L).trans ?_
      exact if_pos (by show jsub (L : Int) 6 < i; rw [jsub_id (by omega) (by omega)]; omega)
    · have e18 : zlN L x (d + 60) 18 (zll_ i) [] (G, X) = zlN L x (d + 60) 27 (zll_ i) [] (G, X) := by
        rw [zlb_18]
        refine (zlob jcs_L).trans ?_
        exact if_neg (by show ¬ jsub (L : Int) 6 < i; rw [jsub_id (by omega) (by omega)]; omega)
      have e27 := zlb_27 L x (d + 60) i (G, X)
      rw [zlob (jcs_r h0 (by omega))] at e27
      have go : ∀ (G' : jG) (X' : jX) (A' : aA), GG G' → RC A' X' → RM A' X' → AV A' → ∃ S', zlN L x (d + 60) 883 (zll_ i) [] (G', X') = some (1, S') ∧ GG S'.1 := by
        intro G' X' A' g r1 r2 v
        rw [zlb_883, jadd_id (by omega) (by omega)]
        exact ih (i + 6) G' X' A' (by omega) (by omega) (by omega) g r1 r2 v
      rw [e18, e27]
      rcases jsw_or (fun t => zlN L x (d + 60) t (zll_ i) [] (G, X)) (iAnd (x i) 31) 883 [164, 227, 250, 263, 286, 309, 352, 385, 418, 451, 464, 487, 520, 554, 577, 600, 623, 646, 669, 682, 705, 718, 741, 764, 797, 811, 824, 847, 860] 0 with ⟨t, ht, q⟩ | q
      · obtain ⟨G', X', A', e, g, r1, r2, v⟩ := zlk_all (d := d) h0 (by omega) hL hx t ht G X A hG hC hM hV
        obtain ⟨S', s1, s2⟩ := go G' X' A' g r1 r2 v
        exact ⟨S', q.trans (e.trans s1), s2⟩
      · obtain ⟨S', s1, s2⟩ := go G X A hG hC hM hV
        exact ⟨S', q.trans s1, s2⟩
