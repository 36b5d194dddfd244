/-! READING: formulas, as the document tells them -/
abbrev rs : Type := (Int × Int) ⊕ (aK × List Int)
def bnd (r : rs) (k : aK → List Int → rs) : rs := match r with
  | .inl e => .inl e
  | .inr q => k q.1 q.2
theorem bnd_l (e : Int × Int) (k : aK → List Int → rs) : bnd (.inl e) k = .inl e := rfl
theorem bnd_r (q : aK × List Int) (k : aK → List Int → rs) : bnd (.inr q) k = k q.1 q.2 := rfl
/-- a row of equals, joined from the left -/
def lp (sg : aK → Int) (T : aT) (pt : aK → rs) : Nat → aK → List Int → rs
  | 0, κ, c => .inr (κ, c)
  | m + 1, κ, c => if sg κ = -1 then .inr (κ, c) else bnd (pt (nx T κ)) (fun κ' c' => lp sg T pt m κ' (c ++ c' ++ [sg κ]))
def lev (sg : aK → Int) (T : aT) (pt : aK → rs) (κ : aK) : rs := bnd (pt κ) (lp sg T pt 1600)
def sgP (T : aT) (κ : aK) : Int := if mk T κ 42 = true then 10010 else if mk T κ 47 = true then 10011 else -1
def sgS (T : aT) (κ : aK) : Int := if mk T κ 43 = true then 10008 else if mk T κ 45 = true then 10009 else -1
def sgB (T : aT) (κ : aK) : Int := if wd T κ = 24 then 10004 else -1
def sgT (T : aT) (κ : aK) : Int := if wd T κ = 23 then 10003 else -1
def sgC (T : aT) (κ : aK) : Int := if mk T κ 60 = true then 10005 else if mk T κ 62 = true then 10006 else if mk T κ 61 = true then 10007 else -1
def sms (T : aT) (pt : aK → rs) : aK → rs := lev (sgS T) T (lev (sgP T) T pt)
def tst (T : aT) (ft : aK → rs) : aK → rs := lev (sgT T) T (lev (sgB T) T ft)
/-- which fact a word asks for -/
def fct (u w : Int) : Int := if u = 1 then (if w = 18 then 8 else if w = 19 then 9 else if w = 15 then 2 else -1) else if w = 14 then 1 else if w = 15 then 2 else if w = 3 then 3 else if w = 4 then 4 else if w = 16 then 5 else if w = 17 then 6 else if u = 2 then (if w = 21 then 0 else if w = 20 then 7 else if w = 18 then 8 else if w = 19 then 9 else -1) else -1
def atm (T : aT) (u : Int) (κ : aK) : rs := if so T κ = 2 then (if 4 < tE T κ.1 - κ.1 then .inl (1, κ.1 + 4) else .inr (nx T κ, [nuV T κ.1])) else if fct u (wd T κ) = -1 then .inl (1, κ.1) else .inr (nx T κ, [20000 + fct u (wd T κ)])
/-- a sign is asked for -/
def wmk (T : aT) (c : Int) (κ : aK) (k : aK → rs) : rs := if mk T κ c = true then k (nx T κ) else .inl (1, κ.1)
theorem wmk_pos {T : aT} {c : Int} {κ : aK} {k : aK → rs} (h : mk T κ c = true) : wmk T c κ k = k (nx T κ) := if_pos h
theorem wmk_neg {T : aT} {c : Int} {κ : aK} {k : aK → rs} (h : ¬ mk T κ c = true) : wmk T c κ k = .inl (1, κ.1) := if_neg h
def prt (T : aT) (u : Int) : Nat → aK → rs
  | 0, κ => if mk T κ 40 = true then .inl (4, κ.1) else if wd T κ = 27 ∨ wd T κ = 28 then (if mk T (nx T κ) 40 = true then .inl (4, (nx T κ).1) else .inl (1, (nx T κ).1)) else if wd T κ = 22 ∧ u = 2 then .inl (4, κ.1) else atm T u κ
  | r + 1, κ => if mk T κ 40 = true then bnd (sms T (prt T u r) (nx T κ)) (fun κ1 c => wmk T 41 κ1 (fun κ2 => .inr (κ2, c))) else if wd T κ = 27 ∨ wd T κ = 28 then (if mk T (nx T κ) 40 = true then bnd (sms T (prt T u r) (nx T (nx T κ))) (fun κ1 c1 => wmk T 44 κ1 (fun κ2 => bnd (sms T (prt T u r) κ2) (fun κ3 c2 => wmk T 41 κ3 (fun κ4 => .inr (κ4, c1 ++ c2 ++ [if wd T κ = 27 then 10012 else 10013]))))) else .inl (1, (nx T κ).1)) else if wd T κ = 22 ∧ u = 2 then bnd (prt T u r (nx T κ)) (fun κ1 c => .inr (κ1, c ++ [10002])) else atm T u κ
def cmp (T : aT) (sm : aK → rs) (κ : aK) : rs := bnd (sm κ) (fun κ1 c1 => if sgC T κ1 = -1 then .inl (1, κ1.1) else bnd (sm (nx T κ1)) (fun κ2 c2 => .inr (κ2, c1 ++ c2 ++ [sgC T κ1])))
def fac (T : aT) (u : Int) : Nat → aK → rs
  | 0, κ => if wd T κ = 25 then .inl (4, κ.1) else if mk T κ 91 = true then .inl (4, κ.1) else if wd T κ = 26 then .inr (nx T κ, [10014]) else cmp T (sms T (prt T u 0)) κ
  | r + 1, κ => if wd T κ = 25 then bnd (fac T u r (nx T κ)) (fun κ1 c => .inr (κ1, c ++ [10001])) else if mk T κ 91 = true then bnd (tst T (fac T u r) (nx T κ)) (fun κ1 c => wmk T 93 κ1 (fun κ2 => .inr (κ2, c))) else if wd T κ = 26 then .inr (nx T κ, [10014]) else cmp T (sms T (prt T u (r + 1))) κ
/-! what holds of what is read -/
def gdR (T : aT) (u : Int) (H t : Nat) (κ : aK) (R : rs) : Prop := match R with
  | .inl e => e.1 ≠ 0
  | .inr q => inT T q.1 ∧ κ.1 + q.2.length ≤ q.1.1 ∧ 1 ≤ q.2.length ∧ (∀ (h : Nat) (l : List Int), h + H ≤ 60 → hts (q.2 ++ l) h = hts l (h + 1)) ∧ (∀ (s : List Nat) (l : List Int), tys (q.2 ++ l) s = tys l (t :: s)) ∧ ∀ op ∈ q.2, okO u op
/-- a step that joins two of a type -/
def jnO (op : Int) (t : Nat) : Prop := (op = 10003 ∨ op = 10004) ∧ t = 1 ∨ (10008 ≤ op ∧ op ≤ 10013) ∧ t = 0
theorem hts_j {op : Int} {t : Nat} (h : jnO op t) (l : List Int) (n : Nat) : hts (op :: l) (n + 2) = hts l (n + 1) := by
  unfold jnO at h
  conv => lhs; unfold hts
  rw [if_neg (by omega), if_neg (by omega), if_pos (by omega), if_pos (by omega)]
  rfl
theorem tys_j {op : Int} {t : Nat} (h : jnO op t) (l : List Int) (s : List Nat) : tys (op :: l) (t :: t :: s) = tys l (t :: s) := by
  unfold jnO at h
  conv => lhs; unfold tys
  rw [if_neg (by omega), if_neg (by omega)]
  dsimp only
  rw [if_neg (by omega), if_neg (by omega)]
  rcases h with ⟨h, rfl⟩ | ⟨h, rfl⟩
  · rw [if_pos h, if_pos ⟨rfl, rfl⟩]
  · rw [if_neg (by omega), if_neg (by omega), if_pos h, if_pos ⟨rfl, rfl⟩]
theorem okO_j {op : Int} {t : Nat} (u : Int) (h : jnO op t) : okO u op := by
  unfold jnO at h
  unfold okO
  split
  · trivial
  · split
    · exact ⟨by omega, fun _ => by omega⟩
    · exact ⟨by omega, fun _ => by omega⟩
theorem gd_join {T : aT} {u : Int} {H t : Nat} {κ κ1 κ2 κ3 : aK} {c1 c2 : List Int} {op : Int} (ho : jnO op t) (h1 : gdR T u (H + 1) t κ (.inr (κ1, c1))) (h12 : κ1.1 + 1 ≤ κ2.1) (h2 : gdR T u H t κ2 (.inr (κ3, c2))) : gdR T u (H + 1) t κ (.inr (κ3, c1 ++ c2 ++ [op])) := by
  obtain ⟨a1, a2, a3, a4, a5, a6⟩ := h1
  obtain ⟨b1, b2, b3, b4, b5, b6⟩ := h2
  dsimp only at a2 a3 b2 b3
  refine ⟨b1, ?_, ?_, fun h l hl => ?_, fun s l => ?_, fun o ho' => ?_⟩
  · dsimp only; rw [List.length_append, List.length_append, List.length_singleton]; omega
  · dsimp only; rw [List.length_append, List.length_append, List.length_singleton]; omega
  · dsimp only
    rw [List.append_assoc, List.append_assoc, a4 h _ (by omega), b4 (h + 1) _ (by omega)]
    exact hts_j ho l h
  · dsimp only
    rw [List.append_assoc, List.append_assoc, a5 s _, b5 (t :: s) _]
    exact tys_j ho l s
  · rw [List.mem_append, List.mem_append, List.mem_singleton] at ho'
    rcases ho' with (q | q) | q
    · exact a6 o q
    · exact b6 o q
    · rw [q]; exact okO_j u ho
theorem gd_H {T : aT} {u : Int} {H H' t : Nat} {κ : aK} {R : rs} (hH : H ≤ H') (h : gdR T u H t κ R) : gdR T u H' t κ R := by
  cases R with
  | inl e => exact h
  | inr q => exact ⟨h.1, h.2.1, h.2.2.1, fun n l hn => h.2.2.2.1 n l (by omega), h.2.2.2.2.1, h.2.2.2.2.2⟩
theorem gd_κ {T : aT} {u : Int} {H t : Nat} {κ κ' : aK} {R : rs} (hk : κ.1 ≤ κ'.1) (h : gdR T u H t κ' R) : gdR T u H t κ R := by
  cases R with
  | inl e => exact h
  | inr q => exact ⟨h.1, by have := h.2.1; omega, h.2.2⟩
/-- signs: where there is one, there is a token -/
def sgO (sg : aK → Int) (T : aT) (t : Nat) : Prop := ∀ κ, sg κ ≠ -1 → so T κ ≠ 0 ∧ jnO (sg κ) t
theorem sgO_P (T : aT) : sgO (sgP T) T 0 := by
  intro κ h
  unfold sgP at h ⊢
  by_cases q : mk T κ 42 = true
  · rw [if_pos q]; have := ((mk_so (by omega)).1 q).1; exact ⟨by omega, Or.inr ⟨by omega, rfl⟩⟩
  · rw [if_neg q] at h ⊢
    by_cases q2 : mk T κ 47 = true
    · rw [if_pos q2]; have := ((mk_so (by omega)).1 q2).1; exact ⟨by omega, Or.inr ⟨by omega, rfl⟩⟩
    · rw [if_neg q2] at h; exact absurd rfl h
theorem sgO_S (T : aT) : sgO (sgS T) T 0 := by
  intro κ h
  unfold sgS at h ⊢
  by_cases q : mk T κ 43 = true
  · rw [if_pos q]; have := ((mk_so (by omega)).1 q).1; exact ⟨by omega, Or.inr ⟨by omega, rfl⟩⟩
  · rw [if_neg q] at h ⊢
    by_cases q2 : mk T κ 45 = true
    · rw [if_pos q2]; have := ((mk_so (by omega)).1 q2).1; exact ⟨by omega, Or.inr ⟨by omega, rfl⟩⟩
    · rw [if_neg q2] at h; exact absurd rfl h
theorem sgO_B (T : aT) : sgO (sgB T) T 1 := by
  intro κ h
  unfold sgB at h ⊢
  by_cases q : wd T κ = 24
  · rw [if_pos q]; have := wd_so (T := T) (κ := κ) (by omega); exact ⟨by omega, Or.inl ⟨by omega, rfl⟩⟩
  · rw [if_neg q] at h; exact absurd rfl h
theorem sgO_T (T : aT) : sgO (sgT T) T 1 := by
  intro κ h
  unfold sgT at h ⊢
  by_cases q : wd T κ = 23
  · rw [if_pos q]; have := wd_so (T := T) (κ := κ) (by omega); exact ⟨by omega, Or.inl ⟨by omega, rfl⟩⟩
  · rw [if_neg q] at h; exact absurd rfl h
theorem sgC_so {T : aT} {κ : aK} (h : sgC T κ ≠ -1) : so T κ ≠ 0 ∧ 10005 ≤ sgC T κ ∧ sgC T κ ≤ 10007 := by
  unfold sgC at h ⊢
  by_cases q : mk T κ 60 = true
  · rw [if_pos q]; have := ((mk_so (by omega)).1 q).1; exact ⟨by omega, by omega⟩
  · rw [if_neg q] at h ⊢
    by_cases q2 : mk T κ 62 = true
    · rw [if_pos q2]; have := ((mk_so (by omega)).1 q2).1; exact ⟨by omega, by omega⟩
    · rw [if_neg q2] at h ⊢
      by_cases q3 : mk T κ 61 = true
      · rw [if_pos q3]; have := ((mk_so (by omega)).1 q3).1; exact ⟨by omega, by omega⟩
      · rw [if_neg q3] at h; exact absurd rfl h
/-- a row read to its end: good, and no sign of the row stands behind it -/
def gdL (sg : aK → Int) (R : rs) : Prop := match R with
  | .inl _ => True
  | .inr q => sg q.1 = -1
theorem lp_gd {sg : aK → Int} {T : aT} {u : Int} {H t : Nat} {pt : aK → rs} (hsg : sgO sg T t) (hp : ∀ κ, inT T κ → gdR T u H t κ (pt κ)) : ∀ (m : Nat) (κ0 κ : aK) (c : List Int), gdR T u (H + 1) t κ0 (.inr (κ, c)) → T.1 - κ.1 ≤ m → gdR T u (H + 1) t κ0 (lp sg T pt m κ c) ∧ gdL sg (lp sg T pt m κ c) := by
  intro m
  induction m with
  | zero =>
    intro κ0 κ c h hm
    refine ⟨h, ?_⟩
    show sg κ = -1
    by_cases q : sg κ = -1
    · exact q
    · exfalso
      have := (hsg κ q).1
      have h1 : κ.1 ≤ T.1 := h.1.2
      have : srt T κ.1 = 0 := srt_0.2 (by omega)
      rcases so_b T κ with z | z <;> omega
  | succ m ih =>
    intro κ0 κ c h hm
    unfold lp
    by_cases q : sg κ = -1
    · rw [if_pos q]; exact ⟨h, q⟩
    · rw [if_neg q]
      obtain ⟨q1, q2⟩ := hsg κ q
      have hin : inT T κ := h.1
      have hn := nx_in hin
      have hp' := hp (nx T κ) hn.1
      cases e : pt (nx T κ) with
      | inl e' => rw [e] at hp'; exact ⟨hp', trivial⟩
      | inr q' =>
        rw [e] at hp'
        have := gd_join q2 h (hn.2.1 q1) hp'
        have hk : (nx T κ).1 + q'.2.length ≤ q'.1.1 := hp'.2.1
        have := hn.2.1 q1
        exact ih κ0 q'.1 _ (by assumption) (by omega)
theorem lev_gd {sg : aK → Int} {T : aT} {u : Int} {H t : Nat} {pt : aK → rs} (hT : T.1 ≤ 1600) (hsg : sgO sg T t) (hp : ∀ κ, inT T κ → gdR T u H t κ (pt κ)) (κ : aK) (hin : inT T κ) : gdR T u (H + 1) t κ (lev sg T pt κ) ∧ gdL sg (lev sg T pt κ) := by
  unfold lev
  have hp' := hp κ hin
  cases e : pt κ with
  | inl e' => rw [e] at hp'; exact ⟨hp', trivial⟩
  | inr q =>
    rw [e] at hp'
    have h1 := hp'.2.1
    have h2 := hin.1
    exact lp_gd hsg hp 1600 κ q.1 q.2 (gd_H (by omega) hp') (by omega)
theorem sms_gd {T : aT} {u : Int} {H : Nat} {pt : aK → rs} (hT : T.1 ≤ 1600) (hp : ∀ κ, inT T κ → gdR T u H 0 κ (pt κ)) (κ : aK) (hin : inT T κ) : gdR T u (H + 2) 0 κ (sms T pt κ) := (lev_gd hT (sgO_S T) (fun κ h => (lev_gd hT (sgO_P T) hp κ h).1) κ hin).1
theorem tst_gd {T : aT} {u : Int} {H : Nat} {ft : aK → rs} (hT : T.1 ≤ 1600) (hp : ∀ κ, inT T κ → gdR T u H 1 κ (ft κ)) (κ : aK) (hin : inT T κ) : gdR T u (H + 2) 1 κ (tst T ft κ) := (lev_gd hT (sgO_T T) (fun κ h => (lev_gd hT (sgO_B T) hp κ h).1) κ hin).1
theorem ite_b {p : Prop} [Decidable p] {a b : Int} {Q : Int → Prop} (ha : p → Q a) (hb : ¬ p → Q b) : Q (if p then a else b) := by
  by_cases h : p
  · rw [if_pos h]; exact ha h
  · rw [if_neg h]; exact hb h
theorem fct_b (u w : Int) : fct u w = -1 ∨ (0 ≤ fct u w ∧ fct u w ≤ 9) := by
  unfold fct
  repeat' (refine ite_b (Q := fun z => z = -1 ∨ (0 ≤ z ∧ z ≤ 9)) (fun _ => ?_) (fun _ => ?_))
  all_goals omega
theorem fct_0 (w : Int) : fct 0 w = -1 ∨ (1 ≤ fct 0 w ∧ fct 0 w ≤ 6) := by
  unfold fct
  rw [if_neg (by omega), if_neg (show ¬ (0 : Int) = 2 by omega)]
  repeat' (refine ite_b (Q := fun z => z = -1 ∨ (1 ≤ z ∧ z ≤ 6)) (fun _ => ?_) (fun _ => ?_))
  all_goals omega
theorem fct_1 (w : Int) : fct 1 w = -1 ∨ fct 1 w = 2 ∨ fct 1 w = 8 ∨ fct 1 w = 9 := by
  unfold fct
  rw [if_pos rfl]
  repeat' (refine ite_b (Q := fun z => z = -1 ∨ z = 2 ∨ z = 8 ∨ z = 9) (fun _ => ?_) (fun _ => ?_))
  all_goals omega
theorem fct_ok {u w : Int} (hu : u = 0 ∨ u = 1 ∨ u = 2) (h : fct u w ≠ -1) : okO u (20000 + fct u w) := by
  unfold okO
  rcases hu with rfl | rfl | rfl
  · rw [if_neg (by omega), if_pos rfl]
    have := fct_0 w
    exact ⟨by omega, fun _ => by omega⟩
  · rw [if_neg (by omega), if_neg (by omega)]
    have := fct_1 w
    exact ⟨by omega, fun _ => by omega⟩
  · rw [if_pos rfl]; trivial
theorem atm_gd {T : aT} {u : Int} (hu : u = 0 ∨ u = 1 ∨ u = 2) (κ : aK) (hin : inT T κ) : gdR T u 1 0 κ (atm T u κ) := by
  have hn := nx_in hin
  unfold atm
  by_cases q : so T κ = 2
  · rw [if_pos q]
    by_cases q2 : 4 < tE T κ.1 - κ.1
    · rw [if_pos q2]; show (1 : Int) ≠ 0; omega
    · rw [if_neg q2]
      have hs : srt T κ.1 = 2 := by rcases so_b T κ with z | z <;> omega
      have hb := nuV_b hs (by omega)
      have := hn.2.1 (by omega)
      refine ⟨hn.1, by show κ.1 + ((1 : Nat) : Int) ≤ (nx T κ).1; omega, Nat.le_refl 1, fun h l hl => ?_, fun s l => ?_, fun o ho => ?_⟩
      · show hts (nuV T κ.1 :: l) h = _
        conv => lhs; unfold hts
        rw [if_pos (by omega), if_pos (by omega)]
      · show tys (nuV T κ.1 :: l) s = _
        conv => lhs; unfold tys
        rw [if_neg (by omega), if_pos (by omega)]
      · have : o = nuV T κ.1 := List.mem_singleton.1 ho
        rw [this]
        unfold okO
        split
        · trivial
        · split
          · exact ⟨by omega, fun _ => by omega⟩
          · exact ⟨by omega, fun _ => by omega⟩
  · rw [if_neg q]
    by_cases q2 : fct u (wd T κ) = -1
    · rw [if_pos q2]; show (1 : Int) ≠ 0; omega
    · rw [if_neg q2]
      have hb := fct_b u (wd T κ)
      have hw : wd T κ ≠ -1 := fun z => q2 (by
        rw [z]
        unfold fct
        rcases hu with rfl | rfl | rfl <;> rfl)
      have := hn.2.1 (by have := wd_so hw; omega)
      refine ⟨hn.1, by show κ.1 + ((1 : Nat) : Int) ≤ (nx T κ).1; omega, Nat.le_refl 1, fun h l hl => ?_, fun s l => ?_, fun o ho => ?_⟩
      · show hts ((20000 + fct u (wd T κ)) :: l) h = _
        conv => lhs; unfold hts
        rw [if_pos (by omega), if_pos (by omega)]
      · show tys ((20000 + fct u (wd T κ)) :: l) s = _
        conv => lhs; unfold tys
        rw [if_neg (by omega), if_pos (by omega)]
      · have : o = 20000 + fct u (wd T κ) := List.mem_singleton.1 ho
        rw [this]
        exact fct_ok hu q2
theorem gd_wmk {T : aT} {u : Int} {H t : Nat} {κ0 κ : aK} {c : List Int} {k : Int} (hk : k < 48 ∨ (57 < k ∧ k < 97) ∨ 122 < k) (h : gdR T u H t κ0 (.inr (κ, c))) : gdR T u H t κ0 (wmk T k κ (fun κ2 => .inr (κ2, c))) := by
  unfold wmk
  by_cases q : mk T κ k = true
  · rw [if_pos q]
    have := ((mk_so hk).1 q).1
    have hi : inT T κ := h.1
    have hn := nx_in hi
    have hn2 := hn.2.1 (by omega)
    have h2 := h.2.1
    have hn2' : κ.1 + 1 ≤ (nx T κ).1 := hn2
    have h2' : κ0.1 + c.length ≤ κ.1 := h2
    exact ⟨hn.1, by show κ0.1 + c.length ≤ (nx T κ).1; omega, h.2.2⟩
  · rw [if_neg q]; show (1 : Int) ≠ 0; omega
theorem wd_nx {T : aT} {κ : aK} (hin : inT T κ) (h : wd T κ ≠ -1) : κ.1 + 1 ≤ (nx T κ).1 := (nx_in hin).2.1 (by have := wd_so h; omega)
theorem mk_nx {T : aT} {κ : aK} {c : Int} (hin : inT T κ) (hc : c < 48 ∨ (57 < c ∧ c < 97) ∨ 122 < c) (h : mk T κ c = true) : κ.1 + 1 ≤ (nx T κ).1 := (nx_in hin).2.1 (by have := ((mk_so hc).1 h).1; omega)
theorem prt_gd {T : aT} {u : Int} (hT : T.1 ≤ 1600) (hu : u = 0 ∨ u = 1 ∨ u = 2) : ∀ (r : Nat) (κ : aK), inT T κ → gdR T u (3 * r + 1) 0 κ (prt T u r κ)
  | 0, κ, hin => by
    unfold prt
    by_cases q1 : mk T κ 40 = true
    · rw [if_pos q1]; show (4 : Int) ≠ 0; omega
    · rw [if_neg q1]
      by_cases q2 : wd T κ = 27 ∨ wd T κ = 28
      · rw [if_pos q2]; split
        · show (4 : Int) ≠ 0; omega
        · show (1 : Int) ≠ 0; omega
      · rw [if_neg q2]
        by_cases q3 : wd T κ = 22 ∧ u = 2
        · rw [if_pos q3]; show (4 : Int) ≠ 0; omega
        · rw [if_neg q3]; exact atm_gd hu κ hin
  | r + 1, κ, hin => by
    have hs : ∀ κ, inT T κ → gdR T u (3 * r + 3) 0 κ (sms T (prt T u r) κ) := sms_gd hT (prt_gd hT hu r)
    have hn := nx_in hin
    unfold prt
    by_cases q1 : mk T κ 40 = true
    · rw [if_pos q1]
      have h1 := hs (nx T κ) hn.1
      cases e : sms T (prt T u r) (nx T κ) with
      | inl e' => rw [e] at h1; exact h1
      | inr q =>
        rw [e] at h1
        exact gd_H (by omega) (gd_κ hn.2.2 (gd_wmk (by omega) h1))
    · rw [if_neg q1]
      by_cases q2 : wd T κ = 27 ∨ wd T κ = 28
      · rw [if_pos q2]
        have hw := wd_nx hin (by omega)
        by_cases q3 : mk T (nx T κ) 40 = true
        · rw [if_pos q3]
          have hn2 := nx_in hn.1
          have h1 := hs (nx T (nx T κ)) hn2.1
          cases e : sms T (prt T u r) (nx T (nx T κ)) with
          | inl e' => rw [e] at h1; exact h1
          | inr q =>
            rw [e] at h1
            rw [bnd_r]
            by_cases q4 : mk T q.1 44 = true
            · rw [wmk_pos q4]
              have hq : inT T q.1 := h1.1
              have hn3 := nx_in hq
              have hm := mk_nx hq (by omega) q4
              have h2 := hs (nx T q.1) hn3.1
              cases e2 : sms T (prt T u r) (nx T q.1) with
              | inl e' => rw [e2] at h2; exact h2
              | inr q' =>
                rw [e2] at h2
                rw [bnd_r]
                have ho : jnO (if wd T κ = 27 then 10012 else 10013) 0 := Or.inr ⟨by split <;> omega, rfl⟩
                have hj := gd_join (κ := κ) (κ1 := q.1) (c1 := q.2) ho (gd_κ (by omega) (gd_H (by omega) h1)) hm h2
                exact gd_H (by omega) (gd_wmk (by omega) hj)
            · rw [wmk_neg q4]; show (1 : Int) ≠ 0; omega
        · rw [if_neg q3]; show (1 : Int) ≠ 0; omega
      · rw [if_neg q2]
        by_cases q3 : wd T κ = 22 ∧ u = 2
        · rw [if_pos q3]
          have hw := wd_nx hin (by omega)
          have h1 := prt_gd hT hu r (nx T κ) hn.1
          cases e : prt T u r (nx T κ) with
          | inl e' => rw [e] at h1; exact h1
          | inr q =>
            rw [e] at h1
            obtain ⟨a1, a2, a3, a4, a5, a6⟩ := h1
            refine ⟨a1, ?_, ?_, fun h l hl => ?_, fun s l => ?_, fun o ho => ?_⟩
            · dsimp only; rw [List.length_append, List.length_singleton]; omega
            · dsimp only; rw [List.length_append, List.length_singleton]; omega
            · dsimp only
              rw [List.append_assoc, a4 h _ (by omega)]
              show hts (10002 :: l) (h + 1) = _
              conv => lhs; unfold hts
              rw [if_neg (by omega), if_pos (by omega), if_pos (by omega)]
            · dsimp only
              rw [List.append_assoc, a5 s _]
              show tys (10002 :: l) (0 :: s) = _
              conv => lhs; unfold tys
              rw [if_neg (by omega), if_neg (by omega)]
              dsimp only
              rw [if_neg (by omega), if_pos rfl, if_pos rfl]
            · rw [List.mem_append, List.mem_singleton] at ho
              rcases ho with z | z
              · exact a6 o z
              · rw [z]; unfold okO; rw [if_pos q3.2]; trivial
        · rw [if_neg q3]; exact gd_H (by omega) (atm_gd hu κ hin)
theorem cmp_gd {T : aT} {u : Int} {H : Nat} {sm : aK → rs} (hs : ∀ κ, inT T κ → gdR T u H 0 κ (sm κ)) (κ : aK) (hin : inT T κ) : gdR T u (H + 1) 1 κ (cmp T sm κ) := by
  unfold cmp
  have h1 := hs κ hin
  cases e : sm κ with
  | inl e' => rw [e] at h1; exact h1
  | inr q =>
    rw [e] at h1
    rw [bnd_r]
    by_cases q1 : sgC T q.1 = -1
    · rw [if_pos q1]; show (1 : Int) ≠ 0; omega
    · rw [if_neg q1]
      have hq : inT T q.1 := h1.1
      obtain ⟨s1, s2⟩ := sgC_so q1
      have hn := nx_in hq
      have hn2 := hn.2.1 s1
      have h2 := hs (nx T q.1) hn.1
      cases e2 : sm (nx T q.1) with
      | inl e' => rw [e2] at h2; exact h2
      | inr q' =>
        rw [e2] at h2
        rw [bnd_r]
        obtain ⟨a1, a2, a3, a4, a5, a6⟩ := h1
        obtain ⟨b1, b2, b3, b4, b5, b6⟩ := h2
        refine ⟨b1, ?_, ?_, fun h l hl => ?_, fun s l => ?_, fun o ho' => ?_⟩
        · dsimp only; rw [List.length_append, List.length_append, List.length_singleton]; omega
        · dsimp only; rw [List.length_append, List.length_append, List.length_singleton]; omega
        · dsimp only
          rw [List.append_assoc, List.append_assoc, a4 h _ (by omega), b4 (h + 1) _ (by omega)]
          show hts (sgC T q.1 :: l) (h + 2) = _
          conv => lhs; unfold hts
          rw [if_neg (by omega), if_neg (by omega), if_pos (by omega), if_pos (by omega)]
          rfl
        · dsimp only
          rw [List.append_assoc, List.append_assoc, a5 s _, b5 (0 :: s) _]
          show tys (sgC T q.1 :: l) (0 :: 0 :: s) = _
          conv => lhs; unfold tys
          rw [if_neg (by omega), if_neg (by omega)]
          dsimp only
          rw [if_neg (by omega), if_neg (by omega), if_neg (by omega), if_pos (by omega), if_pos ⟨rfl, rfl⟩]
        · rw [List.mem_append, List.mem_append, List.mem_singleton] at ho'
          rcases ho' with (z | z) | z
          · exact a6 o z
          · exact b6 o z
          · rw [z]
            unfold okO
            split
            · trivial
            · split
              · exact ⟨by omega, fun _ => by omega⟩
              · exact ⟨by omega, fun _ => by omega⟩
theorem all_gd {T : aT} {u : Int} {κ : aK} (hin : inT T κ) (h : wd T κ = 26) : gdR T u 1 1 κ (.inr (nx T κ, [10014])) := by
  have hn := nx_in hin
  have := wd_nx hin (by omega)
  refine ⟨hn.1, by show κ.1 + ((1 : Nat) : Int) ≤ (nx T κ).1; omega, Nat.le_refl 1, fun h l hl => ?_, fun s l => ?_, fun o ho => ?_⟩
  · show hts (10014 :: l) h = _
    conv => lhs; unfold hts
    rw [if_pos (by omega), if_pos (by omega)]
  · show tys (10014 :: l) s = _
    conv => lhs; unfold tys
    rw [if_pos rfl]
  · have : o = 10014 := List.mem_singleton.1 ho
    rw [this]
    unfold okO
    split
    · trivial
    · split
      · exact ⟨by omega, fun _ => by omega⟩
      · exact ⟨by omega, fun _ => by omega⟩
theorem fac_gd {T : aT} {u : Int} (hT : T.1 ≤ 1600) (hu : u = 0 ∨ u = 1 ∨ u = 2) : ∀ (r : Nat) (κ : aK), inT T κ → gdR T u (3 * r + 4) 1 κ (fac T u r κ)
  | 0, κ, hin => by
    unfold fac
    by_cases q1 : wd T κ = 25
    · rw [if_pos q1]; show (4 : Int) ≠ 0; omega
    · rw [if_neg q1]
      by_cases q2 : mk T κ 91 = true
      · rw [if_pos q2]; show (4 : Int) ≠ 0; omega
      · rw [if_neg q2]
        by_cases q3 : wd T κ = 26
        · rw [if_pos q3]; exact gd_H (by omega) (all_gd hin q3)
        · rw [if_neg q3]; exact gd_H (by omega) (cmp_gd (sms_gd hT (prt_gd hT hu 0)) κ hin)
  | r + 1, κ, hin => by
    have hn := nx_in hin
    unfold fac
    by_cases q1 : wd T κ = 25
    · rw [if_pos q1]
      have hw := wd_nx hin (by omega)
      have h1 := fac_gd hT hu r (nx T κ) hn.1
      cases e : fac T u r (nx T κ) with
      | inl e' => rw [e] at h1; exact h1
      | inr q =>
        rw [e] at h1
        obtain ⟨a1, a2, a3, a4, a5, a6⟩ := h1
        refine ⟨a1, ?_, ?_, fun h l hl => ?_, fun s l => ?_, fun o ho => ?_⟩
        · dsimp only; rw [List.length_append, List.length_singleton]; omega
        · dsimp only; rw [List.length_append, List.length_singleton]; omega
        · dsimp only
          rw [List.append_assoc, a4 h _ (by omega)]
          show hts (10001 :: l) (h + 1) = _
          conv => lhs; unfold hts
          rw [if_neg (by omega), if_pos (by omega), if_pos (by omega)]
        · dsimp only
          rw [List.append_assoc, a5 s _]
          show tys (10001 :: l) (1 :: s) = _
          conv => lhs; unfold tys
          rw [if_neg (by omega), if_neg (by omega)]
          dsimp only
          rw [if_pos rfl, if_pos rfl]
        · rw [List.mem_append, List.mem_singleton] at ho
          rcases ho with z | z
          · exact a6 o z
          · rw [z]
            unfold okO
            split
            · trivial
            · split
              · exact ⟨by omega, fun _ => by omega⟩
              · exact ⟨by omega, fun _ => by omega⟩
    · rw [if_neg q1]
      by_cases q2 : mk T κ 91 = true
      · rw [if_pos q2]
        have h1 := tst_gd hT (fac_gd hT hu r) (nx T κ) hn.1
        cases e : tst T (fac T u r) (nx T κ) with
        | inl e' => rw [e] at h1; exact h1
        | inr q =>
          rw [e] at h1
          exact gd_H (by omega) (gd_κ hn.2.2 (gd_wmk (by omega) h1))
      · rw [if_neg q2]
        by_cases q3 : wd T κ = 26
        · rw [if_pos q3]; exact gd_H (by omega) (all_gd hin q3)
        · rw [if_neg q3]; exact gd_H (by omega) (cmp_gd (sms_gd hT (prt_gd hT hu (r + 1))) κ hin)
