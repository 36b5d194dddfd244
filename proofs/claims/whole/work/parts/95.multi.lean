/-! new int[n][m] -/
def adrow (ad : Int → Nat) (n1 : Nat) (r : Nat → Nat) : Nat → Int → Nat
  | 0 => ad
  | i + 1 => jadn (adrow ad n1 r i) (n1 + i) (r i)
theorem adrow_lt {ad : Int → Nat} {n1 : Nat} {r : Nat → Nat} {z : Int} (h : z < n1) : ∀ i : Nat, adrow ad n1 r i z = ad z
  | 0 => rfl
  | i + 1 => by
    show jadn (adrow ad n1 r i) (n1 + i) (r i) z = _
    rw [jadn_ne (by omega)]
    exact adrow_lt h i
theorem adrow_at {ad : Int → Nat} {n1 : Nat} {r : Nat → Nat} {j : Nat} : ∀ i : Nat, j < i → adrow ad n1 r i ((n1 + j : Nat) : Int) = r j
  | 0, h => absurd h (by omega)
  | i + 1, h => by
    show jadn (adrow ad n1 r i) (n1 + i) (r i) _ = _
    by_cases e : j = i
    · subst e
      exact jadn_eq
    · rw [jadn_ne (by omega)]
      exact adrow_at i (by omega)
theorem rR_rest (k : Int) (S : jS) : ∀ i : Nat, gN (jrowsR k i S).1 = gN S.1 ∧ gM (jrowsR k i S).1 = gM S.1 ∧ gK (jrowsR k i S).1 = gK S.1 ∧ gL (jrowsR k i S).1 = gL S.1 ∧ (jrowsR k i S).2 = S.2
  | 0 => ⟨rfl, rfl, rfl, rfl, rfl⟩
  | i + 1 => rR_rest k S i
theorem rR_gr (k : Int) (S : jS) (a b : Int) : ∀ i : Nat, gR (jrowsR k i S).1 a b = if a = k ∧ 0 ≤ b ∧ b < i then k + 1 + b else gR S.1 a b
  | 0 => by
    show gR S.1 a b = _
    rw [if_neg (by omega)]
  | i + 1 => by
    show jup (gR (jrowsR k i S).1) k i (k + 1 + i) a b = _
    unfold jup
    rw [rR_gr k S a b i]
    by_cases e1 : a = k
    · rw [if_pos e1]
      by_cases e2 : b = (i : Int)
      · rw [if_pos e2, if_pos (by omega), e2]
      · rw [if_neg e2]
        by_cases e3 : 0 ≤ b ∧ b < (i : Int)
        · rw [if_pos (by omega), if_pos (by omega)]
        · rw [if_neg (by omega), if_neg (by omega)]
    · rw [if_neg e1, if_neg (by omega), if_neg (by omega)]
theorem rows_N (m : Int) (S : jS) : ∀ i : Nat, gN (jrows m i S).1 = gN S.1 + i ∧ gM (jrows m i S).1 = gM S.1 + i * m.toNat
  | 0 => ⟨rfl, by rw [Nat.zero_mul]; rfl⟩
  | i + 1 => by
    have h := rows_N m S i
    constructor
    · show gN (jrows m i S).1 + 1 = _
      rw [h.1]; omega
    · show gM (jrows m i S).1 + m.toNat = _
      rw [h.2, Nat.succ_mul]; omega
theorem new_old {S : jS} {kd sl : Nat} {len z j : Int} (h : z < gN S.1) : gK (jnew kd len sl S).1 z = gK S.1 z ∧ gL (jnew kd len sl S).1 z = gL S.1 z ∧ gR (jnew kd len sl S).1 z j = gR S.1 z j := by
  have hne : ¬ z = ((S.1.1 : Nat) : Int) := by
    unfold gN at h
    omega
  unfold gK gL gR jnew
  dsimp only
  rw [if_neg hne, if_neg hne, if_neg hne]
  exact ⟨rfl, rfl, rfl⟩
theorem rows_old (m : Int) (S : jS) {z : Int} (h : z < gN S.1) (j : Int) : ∀ i : Nat, gK (jrows m i S).1 z = gK S.1 z ∧ gL (jrows m i S).1 z = gL S.1 z ∧ gR (jrows m i S).1 z j = gR S.1 z j
  | 0 => ⟨rfl, rfl, rfl⟩
  | i + 1 => by
    have h1 := rows_old m S h j i
    have h2 := new_old (S := jrows m i S) (kd := 14) (sl := m.toNat) (len := m) (z := z) (j := j) (by rw [(rows_N m S i).1]; omega)
    exact ⟨h2.1.trans h1.1, h2.2.1.trans h1.2.1, h2.2.2.trans h1.2.2⟩
theorem rows_kd (m : Int) (S : jS) {j : Nat} : ∀ i : Nat, j < i → gK (jrows m i S).1 ((gN S.1 + j : Nat) : Int) = 14
  | 0, h => absurd h (by omega)
  | i + 1, h => by
    have hN := (rows_N m S i).1
    by_cases e : j = i
    · subst e
      have := jnew_kd (S := jrows m j S) (kd := 14) (sl := m.toNat) (len := m)
      rw [hN] at this
      exact this
    · have h2 := (new_old (S := jrows m i S) (kd := 14) (sl := m.toNat) (len := m) (z := ((gN S.1 + j : Nat) : Int)) (j := 0) (by rw [hN]; omega)).1
      exact h2.trans (rows_kd m S i (by omega))
theorem new_gr {S : jS} {kd sl : Nat} {len : Int} (h : ∀ i j : Int, gR S.1 i j < gN S.1) : ∀ i j : Int, gR (jnew kd len sl S).1 i j < gN (jnew kd len sl S).1 := by
  intro i j
  have hN : gN (jnew kd len sl S).1 = gN S.1 + 1 := rfl
  rw [hN]
  show (if i = ((S.1.1 : Nat) : Int) then -1 else gR S.1 i j) < _
  split
  · omega
  · have := h i j
    omega
theorem rows_gr (m : Int) {S : jS} (h : ∀ i j : Int, gR S.1 i j < gN S.1) : ∀ n : Nat, ∀ i j : Int, gR (jrows m n S).1 i j < gN (jrows m n S).1
  | 0 => h
  | n + 1 => new_gr (rows_gr m h n)
theorem rows_wf (m : Int) {S : jS} (hm : 0 ≤ m ∧ m ≤ 200000) (h : jWF S) : ∀ n : Nat, jWF (jrows m n S)
  | 0 => h
  | n + 1 => jWF_new (rows_wf m hm h n) (by omega) (fun _ => hm)
theorem rows_ok (m : Int) {S : jS} {v : jV} (h : jok S v) : ∀ n : Nat, jok (jrows m n S) v
  | 0 => h
  | n + 1 => jok_new (rows_ok m h n)
theorem rows_wld {cy : Nat → ClassId} {ad : Int → Nat} (m : Int) {S : jS} (h : ∀ i j : Int, gR S.1 i j < gN S.1) (r : Nat → Nat) : ∀ n : Nat, jwld cy ad S ++ (List.range n).map (fun j => (r j, (.inl (cy 14, m.toNat, .inl (fun _ => Int32.ofInt 0)) : va_E))) = jwld cy (adrow ad (gN S.1) r n) (jrows m n S)
  | 0 => by
    rw [List.range_zero, List.map_nil, List.append_nil]
    rfl
  | n + 1 => by
    rw [List.range_succ, List.map_append, ← List.append_assoc, rows_wld m h r n, List.map_cons, List.map_nil]
    have hN := (rows_N m S n).1
    have e := jw_new (cy := cy) (ad := adrow ad (gN S.1) r n) (S := jrows m n S) (kd := 14) (sl := m.toNat) (q := r n) (len := m) (e := .inl (cy 14, m.toNat, .inl (fun _ => Int32.ofInt 0))) (rows_gr m h n) (by
      unfold jcell
      rw [jnew_kd, jnew_ln]
      simp only [jnew_x]
      rw [if_neg (by omega), if_neg (by omega), if_pos (by omega)])
    rw [e, hN]
    rfl
theorem app_set {α : Type} (X : List α) (a b : α) (Y : List α) : ((X ++ [a]) ++ Y).set X.length b = (X ++ [b]) ++ Y := by
  rw [List.append_assoc, List.append_assoc, List.set_append_right _ _ (Nat.le_refl _), Nat.sub_self]
  rfl
theorem jwld_len (cy : Nat → ClassId) (ad : Int → Nat) (S : jS) : (jwld cy ad S).length = gN S.1 := by
  unfold jwld
  rw [List.length_map, List.length_range]
theorem sMulti {Γ : jCtx} {own : Nat} {cc : ByteArray} {ce : jC} {rF : Int × jS} (C : jCx Γ own cc) : jSimM Γ own cc ce rF hMulti oMulti := by
  intro a b t pc loc st S k hc ho hm hk
  unfold hMulti at hc
  simp only [Bool.and_eq_true, decide_eq_true_eq] at hc
  obtain ⟨hdg, rfl, rfl⟩ := hc
  unfold oMulti at ho
  split at ho
  case h_2 => cases ho
  rename_i mm n rest
  split at ho
  case isFalse => cases ho
  rename_i hn0
  split at ho
  case isFalse => cases ho
  rename_i hn1
  split at ho
  case isFalse => cases ho
  rename_i hm0
  split at ho
  case isFalse => cases ho
  rename_i hm1
  intro ls H locs ad hat
  obtain ⟨hl, hwf, hlo, hst, hn, hP, hD, hS⟩ := hat
  have s1 := List.forall_mem_cons.mp hst
  have s2 := List.forall_mem_cons.mp s1.2
  have jm : j32 mm := s1.1.1 rfl
  have jn : j32 n := s2.1.1 rfl
  have hroom := hm _ _ _ _ ho
  generalize hS1 : jnew 19 n n.toNat S = S1 at ho hroom
  generalize hS2 : jrows mm n.toNat S1 = S2 at ho hroom
  generalize hS3 : jrowsR (S.1.1 : Int) n.toNat S2 = S3 at ho hroom
  have hN1 : gN S1.1 = gN S.1 + 1 := by rw [← hS1]; rfl
  have hM1 : gM S1.1 = gM S.1 + n.toNat := by rw [← hS1]; rfl
  have hN2 : gN S2.1 = gN S.1 + 1 + n.toNat := by rw [← hS2, (rows_N mm S1 n.toNat).1, hN1]
  have hM2 : gM S2.1 = gM S.1 + n.toNat + n.toNat * mm.toNat := by rw [← hS2, (rows_N mm S1 n.toNat).2, hM1]
  obtain ⟨r1, r2, r3, r4, r5⟩ := rR_rest (S.1.1 : Int) S2 n.toNat
  rw [hS3] at r1 r2 r3 r4 r5
  have hg1 : ∀ i j : Int, gR S1.1 i j < gN S1.1 := by rw [← hS1]; exact new_gr hn.2.2.2.1
  have hg2 : ∀ i j : Int, gR S2.1 i j < gN S2.1 := by rw [← hS2]; exact rows_gr mm hg1 _
  have hgr3 : ∀ x y : Int, gR S3.1 x y = if x = (S.1.1 : Int) ∧ 0 ≤ y ∧ y < n.toNat then (S.1.1 : Int) + 1 + y else gR S2.1 x y := by
    intro x y
    rw [← hS3]
    exact rR_gr _ _ _ _ _
  have hNN : gN S.1 = S.1.1 := rfl
  have h1 := hn.2.1
  have h2 := hn.2.2.1
  rw [r1, r2, hN2, hM2] at hroom
  have hcyI : (xs Γ).vm.findClass (FieldType.array .int).toString = some (xy Γ 14) := (C.2.2.2.2.2.1.2 1 _ rfl).2
  have hX : va_AOA .int (xs Γ) := C.2.2.2.2.2.2.2.2.2.1.2.2.2
  rw [List.map_cons, List.map_cons]
  refine va_mna (X := jwld (xy Γ) ad S) (L := []) (f := fun _ => .inr (0, [])) (z := (mm.toNat, .inl (fun _ => Int32.ofInt 0))) (N' := n.toNat) (K' := mm.toNat) (ty := .int) C.1 C.2.1 (own := jcn.getD 8 "") (index := 24) C.2.2.2.1 (C.2.2.2.2.1 _ (mi_ok 9 rfl rfl)) hX (C.2.2.2.2.1 _ (mi_ok 6 rfl rfl)) hcyI C.2.2.2.2.2.1 (by rw [show va_pl [] (fun _ => (.inr (0, []) : va_E)) = [] from rfl, List.append_nil]; exact hP) (by rw [show va_pl [] (fun _ => (.inr (0, []) : va_E)) = [] from rfl, List.append_nil]; exact hD) hS C.2.2.2.2.2.2.1 (ge32 jn hn0) (ge32 jm hm0) (cl32 jn) (cl32 jm) (by omega) (by show mm.toNat * 4 ≤ _; omega) (by omega) rfl rfl (by omega) (by omega) (fun c => by
    show ({ cls := c, slots := Array.replicate mm.toNat (defaultValue .int), vm := .none } : Cell) = _
    rw [arrV_new]
    rfl) (dc_ok hdg) (fun q r cA H1 hinj hnot hK1 hP1 hD1 hS1' => ?_)
  have ec := jcy C (q := 19) (t0 := 6) rfl hK1
  subst ec
  generalize had : adrow (jadn ad (gN S.1) q) (gN S1.1) r n.toNat = ad'
  have hadlt : ∀ z : Int, z < gN S.1 → ad' z = ad z := by
    intro z hz
    rw [← had, adrow_lt (by omega), jadn_ne (by omega)]
  have hadq : ad' (S.1.1 : Int) = q := by
    rw [← had, adrow_lt (by omega)]
    exact jadn_eq
  have hadr : ∀ j : Nat, j < n.toNat → ad' ((S.1.1 : Int) + 1 + j) = r j := by
    intro j hj
    have e := adrow_at (ad := jadn ad (gN S.1) q) (n1 := gN S1.1) (r := r) n.toNat hj
    rw [had] at e
    rw [← e]
    congr 1
    rw [hN1, hNN]
    omega
  have hw1 : jwld (xy Γ) ad S ++ [(q, (.inl (xy Γ 19, n.toNat, .inr (.inr (.inr (.inr (fun _ => none))))) : va_E))] = jwld (xy Γ) (jadn ad (gN S.1) q) S1 := by
    rw [← hS1]
    refine jw_new hn.2.2.2.1 ?_
    unfold jcell
    rw [jnew_kd, jnew_ln]
    simp only [jnew_r]
    rw [if_neg (by omega), if_neg (by omega), if_neg (by omega)]
    rfl
  have hw2 := rows_wld (cy := xy Γ) (ad := jadn ad (gN S.1) q) mm hg1 r n.toNat
  rw [← hw1, hS2, had] at hw2
  have hk19 : gK S2.1 (S.1.1 : Int) = 19 := by
    rw [← hS2, (rows_old mm S1 (z := (S.1.1 : Int)) (by omega) 0 n.toNat).1, ← hS1]
    exact jnew_kd
  have hl19 : gL S2.1 (S.1.1 : Int) = n := by
    rw [← hS2, (rows_old mm S1 (z := (S.1.1 : Int)) (by omega) 0 n.toNat).2.1, ← hS1]
    exact jnew_ln
  have hr19 : ∀ j : Int, gR S2.1 (S.1.1 : Int) j = -1 := by
    intro j
    rw [← hS2, (rows_old mm S1 (z := (S.1.1 : Int)) (by omega) j n.toNat).2.2, ← hS1]
    exact jnew_r
  have hcell : jcell (xy Γ) ad' S3 ((S.1.1 : Int)).toNat = .inl (xy Γ 19, n.toNat, .inr (.inr (.inr (.inr (fun i => if i < n.toNat then some (r i) else none))))) := by
    unfold jcell
    rw [Int.toNat_natCast, r3, r4, hk19, hl19, if_neg (by omega), if_neg (by omega), if_neg (by omega)]
    congr 7
    funext j
    rw [hgr3, hr19]
    by_cases e : j < n.toNat
    · rw [if_pos ⟨rfl, by omega, by omega⟩, if_pos e]
      unfold jref
      rw [if_neg (by omega), hadr j e]
    · rw [if_neg (by omega), if_neg e]
      rfl
  have hw3 := jw_set (cy := xy Γ) (ad := ad') (S := S2) (S' := S3) (z := (S.1.1 : Int)) (by omega) (by rw [hN2]; omega) r1 hcell (fun k0 hk0 hne => jcell_cong (by rw [r3]) (by rw [r4]) (fun j => by rw [r5]) (fun j => by rw [hgr3, if_neg (by omega)]))
  rw [hadq, Int.toNat_natCast, ← hw2, show S.1.1 = (jwld (xy Γ) ad S).length from (jwld_len (xy Γ) ad S).symm, app_set] at hw3
  have hrows : va_pl ([] ++ (List.range n.toNat).map r) (vr_up (fun _ => (.inr (0, []) : va_E)) ((List.range n.toNat).map r) (.inl (xy Γ 14, (mm.toNat, .inl (fun _ => Int32.ofInt 0))))) = (List.range n.toNat).map (fun j => (r j, (.inl (xy Γ 14, mm.toNat, .inl (fun _ => Int32.ofInt 0)) : va_E))) := by
    unfold va_pl
    rw [List.nil_append, List.map_map]
    apply List.map_congr_left
    intro j hj
    show (r j, _) = _
    rw [vr_up_in (List.mem_map.mpr ⟨j, hj, rfl⟩)]
  rw [hrows, hw3] at hP1 hD1
  have hwf1 : jWF S1 := by rw [← hS1]; exact jWF_new hwf (by omega) (fun _ => ⟨hn0, by omega⟩)
  have hwf2 : jWF S2 := by rw [← hS2]; exact rows_wf mm ⟨hm0, by omega⟩ hwf1 _
  have hwf3 : ∀ i : Nat, i ≤ n.toNat → jWF (jrowsR (S.1.1 : Int) i S2) := by
    intro i
    induction i with
    | zero => exact fun _ => hwf2
    | succ i ih =>
      intro hi
      obtain ⟨q1, q2, q3, q4, q5⟩ := rR_rest (S.1.1 : Int) S2 i
      show jWF (jsetR (jrowsR (S.1.1 : Int) i S2) (S.1.1 : Int) i ((S.1.1 : Int) + 1 + i))
      refine jWF_rf (ih (by omega)) (by omega) (fun w => by rw [q3, hk19] at w; omega) (fun _ => ?_)
      rw [q3, hk19]
      refine Or.inr ⟨by omega, by rw [q1, hN2, hNN]; omega, ?_⟩
      rw [q3, ← hS2]
      have e := rows_kd mm S1 (j := i) n.toNat (by omega)
      rw [hN1, hNN] at e
      rw [show (S.1.1 : Int) + 1 + i = ((S.1.1 + 1 + i : Nat) : Int) by omega, e]
      rfl
  have hwf3 := hwf3 n.toNat (Nat.le_refl _)
  rw [hS3] at hwf3
  have hok3 : ∀ v : jV, jok S v → jok S3 v := by
    intro v hv
    have a1 : jok S1 v := by rw [← hS1]; exact jok_new hv
    have a2 : jok S2 v := by rw [← hS2]; exact rows_ok mm a1 _
    exact jok_G r1 r3 a2
  have hN3 : gN S3.1 = gN S.1 + 1 + n.toNat := by rw [r1, hN2]
  have hM3 : gM S3.1 = gM S.1 + n.toNat + n.toNat * mm.toNat := by rw [r2, hM2]
  have K := hk _ _ _ _ ho ls H1 locs ad' ⟨⟨hl.1, hl.2.1, hl.2.2.1, fun i v hi hv => by rw [jtr_agree (hlo v (List.mem_of_getElem? hi)) hadlt]; exact hl.2.2.2 i v hi hv⟩, hwf3, fun v hv => hok3 v (hlo v hv), List.forall_mem_cons.mpr ⟨jok_rf (by omega) (by omega) (Or.inr ⟨by omega, by rw [hN3]; omega, by rw [r3, hk19]⟩), fun v hv => hok3 v (s2.2 v hv)⟩, ⟨fun z hz => by rw [hadlt z (by omega)]; exact hn.1 z hz, by omega, by omega, fun x y => ?_, fun z hz => ?_⟩, hP1, hD1, hS1'⟩
  · rw [List.map_cons, jtr_at (by omega) (by omega), hadq, List.map_congr_left (fun v hv => jtr_agree (s2.2 v hv) hadlt)] at K
    unfold jW at K
    rw [hN3, hM3, show gN S.1 + 1 + n.toNat - xk Γ = gN S.1 - xk Γ + 1 + n.toNat by omega, show gM S.1 + n.toNat + n.toNat * mm.toNat - xj Γ = gM S.1 - xj Γ + n.toNat + n.toNat * mm.toNat by omega] at K
    exact K
  · rw [hgr3, hN3]
    split
    · omega
    · have := hg2 x y
      omega
  · rw [r3, ← hS2, (rows_old mm S1 (z := z) (by omega) 0 n.toNat).1, ← hS1, (new_old (S := S) (j := 0) (by omega)).1]
    exact hn.2.2.2.2 z hz
/-- what is beside: the string constant, new T[n][m]; a script is the law's alone -/
theorem joth_m (l : Launch) : jOthM l := by
  intro Γ own cc ce rF _ C h1 h2 n hn
  rcases hn with e | e | e | e | e | e <;> subst e
  · exact sMulti C
  · exact fun a b t pc loc st S k hc ho hm hk => sLdcS (ce := ce) C a b t pc loc st S k hc ho hk
  · exact sSLen C
  · exact sSChr C
  · intro a b t pc loc st S k hc ho hm hk
    change oSld a b t ce pc loc st S k = some rF at ho
    unfold oSld at ho
    split at ho
    case h_2 => cases ho
    split at ho
    case isFalse => cases ho
    split at ho
    case isFalse => cases ho
    rw [h1] at ho
    cases ho
  · intro a b t pc loc st S k hc ho hm hk
    change oSlen a b t ce pc loc st S k = some rF at ho
    unfold oSlen at ho
    split at ho
    case h_2 => cases ho
    split at ho
    case isFalse => cases ho
    split at ho
    case isFalse => cases ho
    rw [h2] at ho
    cases ho
