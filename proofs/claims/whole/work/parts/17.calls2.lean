/-! the simulation of calls -/
set_option maxRecDepth 20000 in
theorem room_ar {dd mL f lo : Nat} (h : mL ≤ 30) (hR : dd + 8 ≤ f ∧ 60 * (dd + 8) ≤ lo) : dd + 7 + 1 ≤ f ∧ 8 + (mL + 11) + 60 * (dd + 7) ≤ lo := by omega
theorem room_ce {a k c s j d x y : Nat} (h1 : k ≤ a) (h2 : a ≤ c) (h3 : c - k ≤ x) (h4 : j ≤ s) (h5 : s ≤ d) (h6 : d - j ≤ y) : (a - k) + (c - a) ≤ x ∧ (s - j) + (d - s) ≤ y := by omega
theorem sCallV {Γ : jCtx} {own : Nat} {cc : ByteArray} {ce : jC} {rF : Int × jS} {dd : Nat} (C : jCx Γ own cc) (hce : ∀ (m : Nat) (args : List jV) (S : jS) (z : Int) (S' : jS), m < 343 → ce m args S = some (z, S') → jMet (xl Γ) dd m args S z S') (hgr : ∀ (m : Nat) (args : List jV) (S : jS) (z : Int) (S' : jS), m < 343 → ce m args S = some (z, S') → gN S.1 ≤ gN S'.1 ∧ gM S.1 ≤ gM S'.1) (hR : ∀ (m : Nat) (args : List jV) (S : jS) (r : Int × jS), m < 343 → ce m args S = some r → dd + 8 ≤ (xR Γ).frames ∧ 60 * (dd + 8) ≤ (xR Γ).locals) : jSimM Γ own cc ce rF hCallV oCallV := by
  intro a b t pc loc st S k hc ho hm hk
  unfold hCallV at hc
  split at hc
  case h_2 => cases hc
  rename_i o i m hq
  simp only [Bool.and_eq_true, decide_eq_true_eq] at hc
  obtain ⟨hdg, hc1, hc2⟩ := hc
  have hc2 := of_decide_eq_true hc2
  obtain ⟨hown, hma, hin, hsel, hn1, htag, hrt, hcl⟩ := hc1
  obtain ⟨m1, m2, m3, m4, m5, m6, m7, m8⟩ := hc2
  have hmem := List.mem_of_getElem? hq
  unfold oCallV at ho
  split at ho
  case h_2 => cases ho
  rename_i u r hlast
  split at ho
  case isFalse => cases ho
  rename_i hu
  split at ho
  case isFalse => cases ho
  rename_i hr
  unfold oCall at ho
  split at ho
  case isFalse => cases ho
  rename_i hlen
  split at ho
  case isFalse => cases ho
  rename_i hj
  rw [Option.bind_eq_some_iff] at ho
  obtain ⟨⟨z, S'⟩, hcall, ho⟩ := ho
  dsimp only at ho
  rw [jstk htag] at ho
  rw [← hma] at hcall
  generalize (t.getD 0 0).toNat = n at *
  obtain ⟨as, has⟩ := jrecv hlast
  intro ls H locs ad hat
  have hat' := hat
  obtain ⟨hl, hwf, hlo, hst, hn, hP, hD, hS⟩ := hat'
  have hargs : ∀ v ∈ (st.take n).reverse, jok S v := fun v hv => hst v (List.mem_of_mem_take (List.mem_reverse.mp hv))
  have hrest : ∀ v ∈ st.drop n, jok S v := fun v hv => hst v (List.mem_of_mem_drop hv)
  have M := hce m _ S z S' m1 hcall (xD Γ) (xy Γ) ad (xv Γ) H.size hwf hargs hn.2.2.2.1
  have hg := hgr m _ S z S' m1 hcall
  have hR := hR m _ S _ m1 hcall
  have hroom := hm _ _ _ _ ho
  have h1 := hn.2.1
  have h2 := hn.2.2.1
  have hlw : (st.take n).length = n := by rw [List.length_take]; omega
  have hstk : st.map (jtr ad) = ((st.take n).reverse.map (jtr ad)).reverse ++ (st.drop n).map (jtr ad) := by
    rw [← List.map_reverse, ← List.map_append, List.reverse_reverse, List.take_append_drop]
  have hlen2 : ((st.take n).reverse).length = n := by rw [List.length_reverse]; exact hlw
  have hroom2 : (jrm dd (gN S'.1 - gN S.1) (gM S'.1 - gM S.1)).frames + 1 ≤ (xR Γ).frames ∧ 8 + ((jme m).2.2.1 + 11) + (jrm dd (gN S'.1 - gN S.1) (gM S'.1 - gM S.1)).locals ≤ (xR Γ).locals := by
    exact room_ar m4 hR
  have hini : (Cond.initialized (jy m).cls).before (xa Γ) (xs Γ) = true := by
    rw [m5]
    exact C.2.2.2.2.1 _ (ini_ok m3)
  have hlink : (Cond.methodLink (jcn.getD own "") i (jy m)).before (xa Γ) (xs Γ) = true := by
    rw [← hown]
    exact C.2.2.2.2.1 _ (ml_ok hmem)
  have hro := hargs (u, r) (by rw [has]; exact List.mem_cons_self)
  obtain ⟨hrn, hrk⟩ := jok_at (q := (jme m).2.2.2.2) hro (by rw [hu, hrt]) (by omega) hr
  have hrcv := va_recv C.2.2.2.2.2.1 hP (ci := (jme m).2.2.2.2) (cls_ok _ hcl) (jw_obj (cy := xy Γ) (ad := ad) hr hrn hrk hcl)
  have hcn : (jy m).cls = jcn.getD (jme m).2.2.2.2 "" := m5
  rw [hstk]
  rw [has] at M hlen2 ⊢
  rw [List.map_cons, jtr_at (t := u) (by omega) (by omega)] at M ⊢
  have hK := hk _ _ _ _ ho
  refine jback C (rest := st.drop n) (va_runV (C := jcn.getD (jme m).2.2.2.2 "") (As := as.map (jtr ad)) (rest := (st.drop n).map (jtr ad)) (b := ad r) ⟨C.1, C.2.1, C.2.2.1, C.2.2.2.1, C.2.2.2.2.1⟩ M ⟨callB_of (n - 1) C.2.2.2.2.1 (jgood m1 m2) rfl rfl rfl hini hlink ⟨m6, m7, m8⟩ hroom2, (C.2.2.2.2.1 _ (in_ok hin)), (by rw [← hcn]; exact C.2.2.2.2.1 _ (vt_ok hsel))⟩ ⟨jblind _ _ _ _ _ _ _, hrcv, (fun U hU hW => ⟨rfl, jPre_of C hat U hU hW⟩)⟩ rfl (by rw [List.length_map]; rw [List.length_cons] at hlen2; omega) (by rw [hl.1]) (by rw [List.reverse_cons, List.append_assoc]; rfl) (lv_room (by rw [jcat_sum]; exact hj)) (dc_ok hdg) (room_ce h1 hg.1 hroom.1 h2 hg.2 hroom.2)) hat hrest hK

def hCallVN : jH := fun own cc pc a b t => match jnl[b.toNat]? with
  | some (o, i, m) => dc cc pc (.invokevirtual i) 3 && (decide (o = own ∧ m = a.toNat ∧ m ∈ jinst ∧ (m ∈ jvt ∨ m ∈ jvp) ∧ 1 ≤ (t.getD 0 0).toNat ∧ t.getD 1 0 = jrtI m ∧ (t.getD 2 0).toNat = 10 + (jme m).2.2.2.2 ∧ (jme m).2.2.2.2 ≤ 12) && jcallee m ((t.getD 0 0).toNat - 1))
  | none => false
theorem sCallVN {Γ : jCtx} {own : Nat} {cc : ByteArray} {ce : jC} {rF : Int × jS} {dd : Nat} (C : jCx Γ own cc) (hce : ∀ (m : Nat) (args : List jV) (S : jS) (z : Int) (S' : jS), m < 343 → ce m args S = some (z, S') → jMet (xl Γ) dd m args S z S') (hgr : ∀ (m : Nat) (args : List jV) (S : jS) (z : Int) (S' : jS), m < 343 → ce m args S = some (z, S') → gN S.1 ≤ gN S'.1 ∧ gM S.1 ≤ gM S'.1) (hR : ∀ (m : Nat) (args : List jV) (S : jS) (r : Int × jS), m < 343 → ce m args S = some r → dd + 8 ≤ (xR Γ).frames ∧ 60 * (dd + 8) ≤ (xR Γ).locals) : jSimM Γ own cc ce rF hCallVN oCallV := by
  intro a b t pc loc st S k hc ho hm hk
  unfold hCallVN at hc
  split at hc
  case h_2 => cases hc
  rename_i o i m hq
  simp only [Bool.and_eq_true, decide_eq_true_eq] at hc
  obtain ⟨hdg, hc1, hc2⟩ := hc
  have hc2 := of_decide_eq_true hc2
  obtain ⟨hown, hma, hin, hsel, hn1, htag, hrt, hcl⟩ := hc1
  obtain ⟨m1, m2, m3, m4, m5, m6, m7, m8⟩ := hc2
  have hmem := List.mem_of_getElem? hq
  unfold oCallV at ho
  split at ho
  case h_2 => cases ho
  rename_i u r hlast
  split at ho
  case isFalse => cases ho
  rename_i hu
  split at ho
  case isFalse => cases ho
  rename_i hr
  unfold oCall at ho
  split at ho
  case isFalse => cases ho
  rename_i hlen
  split at ho
  case isFalse => cases ho
  rename_i hj
  rw [Option.bind_eq_some_iff] at ho
  obtain ⟨⟨z, S'⟩, hcall, ho⟩ := ho
  dsimp only at ho
  rw [jstk htag] at ho
  rw [← hma] at hcall
  generalize (t.getD 0 0).toNat = n at *
  obtain ⟨as, has⟩ := jrecv hlast
  intro ls H locs ad hat
  have hat' := hat
  obtain ⟨hl, hwf, hlo, hst, hn, hP, hD, hS⟩ := hat'
  have hargs : ∀ v ∈ (st.take n).reverse, jok S v := fun v hv => hst v (List.mem_of_mem_take (List.mem_reverse.mp hv))
  have hrest : ∀ v ∈ st.drop n, jok S v := fun v hv => hst v (List.mem_of_mem_drop hv)
  have M := hce m _ S z S' m1 hcall (xD Γ) (xy Γ) ad (xv Γ) H.size hwf hargs hn.2.2.2.1
  have hg := hgr m _ S z S' m1 hcall
  have hR := hR m _ S _ m1 hcall
  have hroom := hm _ _ _ _ ho
  have h1 := hn.2.1
  have h2 := hn.2.2.1
  have hlw : (st.take n).length = n := by rw [List.length_take]; omega
  have hstk : st.map (jtr ad) = ((st.take n).reverse.map (jtr ad)).reverse ++ (st.drop n).map (jtr ad) := by
    rw [← List.map_reverse, ← List.map_append, List.reverse_reverse, List.take_append_drop]
  have hlen2 : ((st.take n).reverse).length = n := by rw [List.length_reverse]; exact hlw
  have hroom2 : (jrm dd (gN S'.1 - gN S.1) (gM S'.1 - gM S.1)).frames + 1 ≤ (xR Γ).frames ∧ 8 + ((jme m).2.2.1 + 11) + (jrm dd (gN S'.1 - gN S.1) (gM S'.1 - gM S.1)).locals ≤ (xR Γ).locals := by
    exact room_ar m4 hR
  have hini : (Cond.initialized (jy m).cls).before (xa Γ) (xs Γ) = true := by
    rw [m5]
    exact C.2.2.2.2.1 _ (ini_ok m3)
  have hlink : va_Nw (.methodLinkNest (jcn.getD own "") i (jy m) "SundayPit") (xs Γ) := by
    rw [← hown]
    exact C.2.2.2.2.2.2.2.2.2.1.1 _ hmem
  have hro := hargs (u, r) (by rw [has]; exact List.mem_cons_self)
  obtain ⟨hrn, hrk⟩ := jok_at (q := (jme m).2.2.2.2) hro (by rw [hu, hrt]) (by omega) hr
  have hrcv := va_recv C.2.2.2.2.2.1 hP (ci := (jme m).2.2.2.2) (cls_ok _ hcl) (jw_obj (cy := xy Γ) (ad := ad) hr hrn hrk hcl)
  have hcn : (jy m).cls = jcn.getD (jme m).2.2.2.2 "" := m5
  rw [hstk]
  rw [has] at M hlen2 ⊢
  rw [List.map_cons, jtr_at (t := u) (by omega) (by omega)] at M ⊢
  have hK := hk _ _ _ _ ho
  refine jback C (rest := st.drop n) (va_runVN (C := jcn.getD (jme m).2.2.2.2 "") (host := "SundayPit") (As := as.map (jtr ad)) (rest := (st.drop n).map (jtr ad)) (b := ad r) ⟨C.1, C.2.1, C.2.2.1, C.2.2.2.1, C.2.2.2.2.1⟩ M ⟨va_cnB (n - 1) C.2.2.2.2.1 (jgood m1 m2) rfl rfl rfl hlink hini ⟨m6, m7, m8⟩ hroom2, (C.2.2.2.2.1 _ (in_ok hin)), (by rw [← hcn]; exact C.2.2.2.2.1 _ (vt_ok hsel))⟩ ⟨jblind _ _ _ _ _ _ _, hrcv, (fun U hU hW => ⟨rfl, jPre_of C hat U hU hW⟩)⟩ rfl (by rw [List.length_map]; rw [List.length_cons] at hlen2; omega) (by rw [hl.1]) (by rw [List.reverse_cons, List.append_assoc]; rfl) (lv_room (by rw [jcat_sum]; exact hj)) (dc_ok hdg) (room_ce h1 hg.1 hroom.1 h2 hg.2 hroom.2)) hat hrest hK

def hCallI : jH := fun own cc pc a b t => match jml[b.toNat]? with
  | some (o, i, m) => dc cc pc (.invokespecial i) 3 && (decide (o = own ∧ m = a.toNat ∧ m ∈ jinst ∧ ((jy m).name = "<init>" ∧ (jme m).2.2.2.1 = none) ∧ 1 ≤ (t.getD 0 0).toNat ∧ t.getD 1 0 = jrtI m ∧ (t.getD 2 0).toNat = 10 + (jme m).2.2.2.2 ∧ (jme m).2.2.2.2 ≤ 12) && jcallee m ((t.getD 0 0).toNat - 1))
  | none => false
theorem sCallI {Γ : jCtx} {own : Nat} {cc : ByteArray} {ce : jC} {rF : Int × jS} {dd : Nat} (C : jCx Γ own cc) (hce : ∀ (m : Nat) (args : List jV) (S : jS) (z : Int) (S' : jS), m < 343 → ce m args S = some (z, S') → jMet (xl Γ) dd m args S z S') (hgr : ∀ (m : Nat) (args : List jV) (S : jS) (z : Int) (S' : jS), m < 343 → ce m args S = some (z, S') → gN S.1 ≤ gN S'.1 ∧ gM S.1 ≤ gM S'.1) (hR : ∀ (m : Nat) (args : List jV) (S : jS) (r : Int × jS), m < 343 → ce m args S = some r → dd + 8 ≤ (xR Γ).frames ∧ 60 * (dd + 8) ≤ (xR Γ).locals) : jSimM Γ own cc ce rF hCallI oCallV := by
  intro a b t pc loc st S k hc ho hm hk
  unfold hCallI at hc
  split at hc
  case h_2 => cases hc
  rename_i o i m hq
  simp only [Bool.and_eq_true, decide_eq_true_eq] at hc
  obtain ⟨hdg, hc1, hc2⟩ := hc
  have hc2 := of_decide_eq_true hc2
  obtain ⟨hown, hma, hin, hsel, hn1, htag, hrt, hcl⟩ := hc1
  obtain ⟨m1, m2, m3, m4, m5, m6, m7, m8⟩ := hc2
  have hmem := List.mem_of_getElem? hq
  unfold oCallV at ho
  split at ho
  case h_2 => cases ho
  rename_i u r hlast
  split at ho
  case isFalse => cases ho
  rename_i hu
  split at ho
  case isFalse => cases ho
  rename_i hr
  unfold oCall at ho
  split at ho
  case isFalse => cases ho
  rename_i hlen
  split at ho
  case isFalse => cases ho
  rename_i hj
  rw [Option.bind_eq_some_iff] at ho
  obtain ⟨⟨z, S'⟩, hcall, ho⟩ := ho
  dsimp only at ho
  rw [jstk htag] at ho
  rw [← hma] at hcall
  generalize (t.getD 0 0).toNat = n at *
  obtain ⟨as, has⟩ := jrecv hlast
  intro ls H locs ad hat
  have hat' := hat
  obtain ⟨hl, hwf, hlo, hst, hn, hP, hD, hS⟩ := hat'
  have hargs : ∀ v ∈ (st.take n).reverse, jok S v := fun v hv => hst v (List.mem_of_mem_take (List.mem_reverse.mp hv))
  have hrest : ∀ v ∈ st.drop n, jok S v := fun v hv => hst v (List.mem_of_mem_drop hv)
  have M := hce m _ S z S' m1 hcall (xD Γ) (xy Γ) ad (xv Γ) H.size hwf hargs hn.2.2.2.1
  have hg := hgr m _ S z S' m1 hcall
  have hR := hR m _ S _ m1 hcall
  have hroom := hm _ _ _ _ ho
  have h1 := hn.2.1
  have h2 := hn.2.2.1
  have hlw : (st.take n).length = n := by rw [List.length_take]; omega
  have hstk : st.map (jtr ad) = ((st.take n).reverse.map (jtr ad)).reverse ++ (st.drop n).map (jtr ad) := by
    rw [← List.map_reverse, ← List.map_append, List.reverse_reverse, List.take_append_drop]
  have hlen2 : ((st.take n).reverse).length = n := by rw [List.length_reverse]; exact hlw
  have hroom2 : (jrm dd (gN S'.1 - gN S.1) (gM S'.1 - gM S.1)).frames + 1 ≤ (xR Γ).frames ∧ 8 + ((jme m).2.2.1 + 11) + (jrm dd (gN S'.1 - gN S.1) (gM S'.1 - gM S.1)).locals ≤ (xR Γ).locals := by
    exact room_ar m4 hR
  have hini : (Cond.initialized (jy m).cls).before (xa Γ) (xs Γ) = true := by
    rw [m5]
    exact C.2.2.2.2.1 _ (ini_ok m3)
  have hlink : (Cond.methodLink (jcn.getD own "") i (jy m)).before (xa Γ) (xs Γ) = true := by
    rw [← hown]
    exact C.2.2.2.2.1 _ (ml_ok hmem)
  have hcode : jcodew (jme m) = Cond.code (jy m) (jme m).2.1 (jme m).2.2.1 none := by
    unfold jcodew
    rw [hsel.2]
    rfl
  have hro := hargs (u, r) (by rw [has]; exact List.mem_cons_self)
  obtain ⟨hrn, hrk⟩ := jok_at (q := (jme m).2.2.2.2) hro (by rw [hu, hrt]) (by omega) hr
  have hrcv := va_recv C.2.2.2.2.2.1 hP (ci := (jme m).2.2.2.2) (cls_ok _ hcl) (jw_obj (cy := xy Γ) (ad := ad) hr hrn hrk hcl)
  have hcn : (jy m).cls = jcn.getD (jme m).2.2.2.2 "" := m5
  rw [hstk]
  rw [has] at M hlen2 ⊢
  rw [List.map_cons, jtr_at (t := u) (by omega) (by omega)] at M ⊢
  have hK := hk _ _ _ _ ho
  refine jback C (rest := st.drop n) (va_runI (bytes := (jme m).2.1) (maxL := (jme m).2.2.1) (As := as.map (jtr ad)) (rest := (st.drop n).map (jtr ad)) (b := ad r) ⟨C.1, C.2.1, C.2.2.1, C.2.2.2.1, C.2.2.2.2.1⟩ M ⟨callB_of (n - 1) (ret := none) (ws' := jtbl) C.2.2.2.2.1 (jgood m1 m2) (by unfold jws; rw [hcode]) rfl rfl hini hlink ⟨m6, m7, m8⟩ hroom2, hsel.1, (C.2.2.2.2.1 _ (in_ok hin))⟩ ⟨jblind _ _ _ _ _ _ _, (fun U hU hW => ⟨rfl, jPre_of C hat U hU hW⟩)⟩ rfl (by rw [List.length_map]; rw [List.length_cons] at hlen2; omega) (by rw [hl.1]) (by rw [List.reverse_cons, List.append_assoc]; rfl) (lv_room (by rw [jcat_sum]; exact hj)) (dc_ok hdg) (room_ce h1 hg.1 hroom.1 h2 hg.2 hroom.2)) hat hrest hK

def hCallIN : jH := fun own cc pc a b t => match jnl[b.toNat]? with
  | some (o, i, m) => dc cc pc (.invokespecial i) 3 && (decide (o = own ∧ m = a.toNat ∧ m ∈ jinst ∧ ((jy m).name = "<init>" ∧ (jme m).2.2.2.1 = none) ∧ 1 ≤ (t.getD 0 0).toNat ∧ t.getD 1 0 = jrtI m ∧ (t.getD 2 0).toNat = 10 + (jme m).2.2.2.2 ∧ (jme m).2.2.2.2 ≤ 12) && jcallee m ((t.getD 0 0).toNat - 1))
  | none => false
theorem sCallIN {Γ : jCtx} {own : Nat} {cc : ByteArray} {ce : jC} {rF : Int × jS} {dd : Nat} (C : jCx Γ own cc) (hce : ∀ (m : Nat) (args : List jV) (S : jS) (z : Int) (S' : jS), m < 343 → ce m args S = some (z, S') → jMet (xl Γ) dd m args S z S') (hgr : ∀ (m : Nat) (args : List jV) (S : jS) (z : Int) (S' : jS), m < 343 → ce m args S = some (z, S') → gN S.1 ≤ gN S'.1 ∧ gM S.1 ≤ gM S'.1) (hR : ∀ (m : Nat) (args : List jV) (S : jS) (r : Int × jS), m < 343 → ce m args S = some r → dd + 8 ≤ (xR Γ).frames ∧ 60 * (dd + 8) ≤ (xR Γ).locals) : jSimM Γ own cc ce rF hCallIN oCallV := by
  intro a b t pc loc st S k hc ho hm hk
  unfold hCallIN at hc
  split at hc
  case h_2 => cases hc
  rename_i o i m hq
  simp only [Bool.and_eq_true, decide_eq_true_eq] at hc
  obtain ⟨hdg, hc1, hc2⟩ := hc
  have hc2 := of_decide_eq_true hc2
  obtain ⟨hown, hma, hin, hsel, hn1, htag, hrt, hcl⟩ := hc1
  obtain ⟨m1, m2, m3, m4, m5, m6, m7, m8⟩ := hc2
  have hmem := List.mem_of_getElem? hq
  unfold oCallV at ho
  split at ho
  case h_2 => cases ho
  rename_i u r hlast
  split at ho
  case isFalse => cases ho
  rename_i hu
  split at ho
  case isFalse => cases ho
  rename_i hr
  unfold oCall at ho
  split at ho
  case isFalse => cases ho
  rename_i hlen
  split at ho
  case isFalse => cases ho
  rename_i hj
  rw [Option.bind_eq_some_iff] at ho
  obtain ⟨⟨z, S'⟩, hcall, ho⟩ := ho
  dsimp only at ho
  rw [jstk htag] at ho
  rw [← hma] at hcall
  generalize (t.getD 0 0).toNat = n at *
  obtain ⟨as, has⟩ := jrecv hlast
  intro ls H locs ad hat
  have hat' := hat
  obtain ⟨hl, hwf, hlo, hst, hn, hP, hD, hS⟩ := hat'
  have hargs : ∀ v ∈ (st.take n).reverse, jok S v := fun v hv => hst v (List.mem_of_mem_take (List.mem_reverse.mp hv))
  have hrest : ∀ v ∈ st.drop n, jok S v := fun v hv => hst v (List.mem_of_mem_drop hv)
  have M := hce m _ S z S' m1 hcall (xD Γ) (xy Γ) ad (xv Γ) H.size hwf hargs hn.2.2.2.1
  have hg := hgr m _ S z S' m1 hcall
  have hR := hR m _ S _ m1 hcall
  have hroom := hm _ _ _ _ ho
  have h1 := hn.2.1
  have h2 := hn.2.2.1
  have hlw : (st.take n).length = n := by rw [List.length_take]; omega
  have hstk : st.map (jtr ad) = ((st.take n).reverse.map (jtr ad)).reverse ++ (st.drop n).map (jtr ad) := by
    rw [← List.map_reverse, ← List.map_append, List.reverse_reverse, List.take_append_drop]
  have hlen2 : ((st.take n).reverse).length = n := by rw [List.length_reverse]; exact hlw
  have hroom2 : (jrm dd (gN S'.1 - gN S.1) (gM S'.1 - gM S.1)).frames + 1 ≤ (xR Γ).frames ∧ 8 + ((jme m).2.2.1 + 11) + (jrm dd (gN S'.1 - gN S.1) (gM S'.1 - gM S.1)).locals ≤ (xR Γ).locals := by
    exact room_ar m4 hR
  have hini : (Cond.initialized (jy m).cls).before (xa Γ) (xs Γ) = true := by
    rw [m5]
    exact C.2.2.2.2.1 _ (ini_ok m3)
  have hlink : va_Nw (.methodLinkNest (jcn.getD own "") i (jy m) "SundayPit") (xs Γ) := by
    rw [← hown]
    exact C.2.2.2.2.2.2.2.2.2.1.1 _ hmem
  have hcode : jcodew (jme m) = Cond.code (jy m) (jme m).2.1 (jme m).2.2.1 none := by
    unfold jcodew
    rw [hsel.2]
    rfl
  have hro := hargs (u, r) (by rw [has]; exact List.mem_cons_self)
  obtain ⟨hrn, hrk⟩ := jok_at (q := (jme m).2.2.2.2) hro (by rw [hu, hrt]) (by omega) hr
  have hrcv := va_recv C.2.2.2.2.2.1 hP (ci := (jme m).2.2.2.2) (cls_ok _ hcl) (jw_obj (cy := xy Γ) (ad := ad) hr hrn hrk hcl)
  have hcn : (jy m).cls = jcn.getD (jme m).2.2.2.2 "" := m5
  rw [hstk]
  rw [has] at M hlen2 ⊢
  rw [List.map_cons, jtr_at (t := u) (by omega) (by omega)] at M ⊢
  have hK := hk _ _ _ _ ho
  refine jback C (rest := st.drop n) (va_runIN (bytes := (jme m).2.1) (maxL := (jme m).2.2.1) (host := "SundayPit") (As := as.map (jtr ad)) (rest := (st.drop n).map (jtr ad)) (b := ad r) ⟨C.1, C.2.1, C.2.2.1, C.2.2.2.1, C.2.2.2.2.1⟩ M ⟨va_cnB (n - 1) (ret := none) (ws' := jtbl) C.2.2.2.2.1 (jgood m1 m2) (by unfold jws; rw [hcode]) rfl rfl hlink hini ⟨m6, m7, m8⟩ hroom2, hsel.1, (C.2.2.2.2.1 _ (in_ok hin))⟩ ⟨jblind _ _ _ _ _ _ _, (fun U hU hW => ⟨rfl, jPre_of C hat U hU hW⟩)⟩ rfl (by rw [List.length_map]; rw [List.length_cons] at hlen2; omega) (by rw [hl.1]) (by rw [List.reverse_cons, List.append_assoc]; rfl) (lv_room (by rw [jcat_sum]; exact hj)) (dc_ok hdg) (room_ce h1 hg.1 hroom.1 h2 hg.2 hroom.2)) hat hrest hK

def hCallS : jH := fun own cc pc a b t => match jml[b.toNat]? with
  | some (o, i, m) => dc cc pc (.invokestatic i) 3 && (decide (o = own ∧ m = a.toNat ∧ m ∈ jstat ∧ t.getD 1 0 = jrtI m) && jcallee m (t.getD 0 0).toNat)
  | none => false
theorem sCallS {Γ : jCtx} {own : Nat} {cc : ByteArray} {ce : jC} {rF : Int × jS} {dd : Nat} (C : jCx Γ own cc) (hce : ∀ (m : Nat) (args : List jV) (S : jS) (z : Int) (S' : jS), m < 343 → ce m args S = some (z, S') → jMet (xl Γ) dd m args S z S') (hgr : ∀ (m : Nat) (args : List jV) (S : jS) (z : Int) (S' : jS), m < 343 → ce m args S = some (z, S') → gN S.1 ≤ gN S'.1 ∧ gM S.1 ≤ gM S'.1) (hR : ∀ (m : Nat) (args : List jV) (S : jS) (r : Int × jS), m < 343 → ce m args S = some r → dd + 8 ≤ (xR Γ).frames ∧ 60 * (dd + 8) ≤ (xR Γ).locals) : jSimM Γ own cc ce rF hCallS oCall := by
  intro a b t pc loc st S k hc ho hm hk
  unfold hCallS at hc
  split at hc
  case h_2 => cases hc
  rename_i o i m hq
  simp only [Bool.and_eq_true, decide_eq_true_eq] at hc
  obtain ⟨hdg, hc1, hc2⟩ := hc
  have hc2 := of_decide_eq_true hc2
  obtain ⟨hown, hma, hin, htag⟩ := hc1
  obtain ⟨m1, m2, m3, m4, m5, m6, m7, m8⟩ := hc2
  have hmem := List.mem_of_getElem? hq
  unfold oCall at ho
  split at ho
  case isFalse => cases ho
  rename_i hlen
  split at ho
  case isFalse => cases ho
  rename_i hj
  rw [Option.bind_eq_some_iff] at ho
  obtain ⟨⟨z, S'⟩, hcall, ho⟩ := ho
  dsimp only at ho
  rw [jstk htag] at ho
  rw [← hma] at hcall
  generalize (t.getD 0 0).toNat = n at *
  obtain ⟨as, has⟩ : ∃ as : List jV, (st.take n).reverse = as := ⟨_, rfl⟩
  intro ls H locs ad hat
  have hat' := hat
  obtain ⟨hl, hwf, hlo, hst, hn, hP, hD, hS⟩ := hat'
  have hargs : ∀ v ∈ (st.take n).reverse, jok S v := fun v hv => hst v (List.mem_of_mem_take (List.mem_reverse.mp hv))
  have hrest : ∀ v ∈ st.drop n, jok S v := fun v hv => hst v (List.mem_of_mem_drop hv)
  have M := hce m _ S z S' m1 hcall (xD Γ) (xy Γ) ad (xv Γ) H.size hwf hargs hn.2.2.2.1
  have hg := hgr m _ S z S' m1 hcall
  have hR := hR m _ S _ m1 hcall
  have hroom := hm _ _ _ _ ho
  have h1 := hn.2.1
  have h2 := hn.2.2.1
  have hlw : (st.take n).length = n := by rw [List.length_take]; omega
  have hstk : st.map (jtr ad) = ((st.take n).reverse.map (jtr ad)).reverse ++ (st.drop n).map (jtr ad) := by
    rw [← List.map_reverse, ← List.map_append, List.reverse_reverse, List.take_append_drop]
  have hlen2 : ((st.take n).reverse).length = n := by rw [List.length_reverse]; exact hlw
  have hroom2 : (jrm dd (gN S'.1 - gN S.1) (gM S'.1 - gM S.1)).frames + 1 ≤ (xR Γ).frames ∧ 8 + ((jme m).2.2.1 + 11) + (jrm dd (gN S'.1 - gN S.1) (gM S'.1 - gM S.1)).locals ≤ (xR Γ).locals := by
    exact room_ar m4 hR
  have hini : (Cond.initialized (jy m).cls).before (xa Γ) (xs Γ) = true := by
    rw [m5]
    exact C.2.2.2.2.1 _ (ini_ok m3)
  have hlink : (Cond.methodLink (jcn.getD own "") i (jy m)).before (xa Γ) (xs Γ) = true := by
    rw [← hown]
    exact C.2.2.2.2.1 _ (ml_ok hmem)
  rw [hstk]
  rw [has] at M hlen2 ⊢
  have hK := hk _ _ _ _ ho
  refine jback C (rest := st.drop n) (va_runS (As := as.map (jtr ad)) (rest := (st.drop n).map (jtr ad)) ⟨C.1, C.2.1, C.2.2.1, C.2.2.2.1, C.2.2.2.2.1⟩ M ⟨callB_of n C.2.2.2.2.1 (jgood m1 m2) rfl rfl rfl hini hlink ⟨m6, m7, m8⟩ hroom2, (C.2.2.2.2.1 _ (st_ok hin))⟩ ⟨jblind _ _ _ _ _ _ _, (fun U hU hW => ⟨rfl, jPre_of C hat U hU hW⟩)⟩ rfl (by rw [List.length_map]; exact hlen2) (by rw [hl.1]) (rfl) (lv_room (by rw [jcat_sum]; exact hj)) (dc_ok hdg) (room_ce h1 hg.1 hroom.1 h2 hg.2 hroom.2)) hat hrest hK

