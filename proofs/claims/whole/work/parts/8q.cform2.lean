theorem cRs_s {G : jG} {X Y : jX} {T : aT} {u : Int} {r r' : Nat} {z : Int} {C C' : List Int} {L : jR} {R : rs} (hf : cfF z X Y) (hr : match R with | .inl _ => True | .inr q => r' = r ∧ C' ++ q.2 = C ++ q.2) (h : cRs G Y T u r' z C' L R) : cRs G X T u r z C L R := by
  cases R with
  | inl e => obtain ⟨X', a1, a2, a3, a4, a5⟩ := h; exact ⟨X', a1, a2, a3, a4, cfF_t hf a5⟩
  | inr q =>
    obtain ⟨X', a1, a2, a3⟩ := h
    obtain ⟨q1, q2⟩ := hr
    rw [q1, q2] at a2
    exact ⟨X', a1, a2, cfF_t hf a3⟩
/-- readChoice: what stands behind min, max -/
theorem s_readChoice (d : Nat) {G : jG} {X : jX} {T : aT} {u z : Int} {κ : aK} {r : Nat} {C : List Int} (hR : RG G) (hT : okT T) (hu3 : u = 0 ∨ u = 1 ∨ u = 2) (IH : ∀ r', r = r' + 1 → pcP T u G z 112 (d + 3) r' (sms T (prt T u r'))) (h : cS X T u κ r z C) (hl : z + C.length ≤ κ.1) (hw : wd T κ = 27 ∨ wd T κ = 28) : cRs G X T u r z C (jD (d + 4) 115 [(17, 28), (0, wd T κ)] (G, X)) (prt T u r κ) := by
  have hT1 := hT.2.1
  have hso := wd_so (T := T) (κ := κ) (by omega)
  have hn := nx_in h.2.2.1
  have hn2 := hn.2.1 (by omega)
  have hm40 : ¬ mk T κ 40 = true := fun q => by have := ((mk_so (by omega)).1 q).1; omega
  obtain ⟨X1, e1, k1, f1⟩ := cS_step (d + 1) hR hT h (by omega)
  have e2 := s_isMark (d + 1) (c := 40) hR hT k1.1 k1.2.1 k1.2.2.1 (by omega)
  rw [e_X7_readChoice]
  simp only [Int.reduceLE, reduceIte]
  rw [e1]
  simp only [Option.bind_some, Int.reduceLE, reduceIte]
  rw [e2]
  simp only [Option.bind_some]
  by_cases q : mk T (nx T κ) 40 = true
  · rw [if_pos q, if_neg (by omega)]
    cases r with
    | zero =>
      have e3 := (s_openOne (d + 1) (G := G) k1).2 rfl
      unfold prt
      rw [if_neg hm40, if_pos hw, if_pos q, e3]
      simp only [Option.bind_some, reduceIte]
      exact cRs_f rfl (cS_z k1) f1
    | succ r =>
      obtain ⟨X2, e3, k2, f2⟩ := (s_openOne (d + 1) (G := G) k1).1 r rfl
      obtain ⟨X3, e4, k3, f3⟩ := (s_takeMark d (c := 40) hR hT k2 (by omega)).1 q
      have hnn := nx_in hn.1
      have hnn2 := mk_nx (c := 40) hn.1 (by omega) q
      have hp := sms_gd hT1 (prt_gd hT1 hu3 r)
      unfold prt
      rw [if_neg hm40, if_pos hw, if_pos q, e3]
      simp only [Option.bind_some]
      rw [if_neg (by omega), e4]
      simp only [Option.bind_some]
      rw [if_neg (by omega)]
      have hI := IH r rfl X3 (nx T (nx T κ)) C k3 (by omega)
      have hg := hp (nx T (nx T κ)) hnn.1
      have F3 := cfF_t f1 (cfF_t f2 f3)
      cases e : sms T (prt T u r) (nx T (nx T κ)) with
      | inl e' =>
        rw [e] at hI
        obtain ⟨X4, e5, b1, b2, b3, f4⟩ := hI
        rw [e5]
        simp only [Option.bind_some, reduceIte]
        exact ⟨X4, rfl, b1, b2, b3, cfF_t F3 f4⟩
      | inr q1 =>
        rw [e] at hI hg
        obtain ⟨X4, e5, k4, f4⟩ := hI
        have F4 := cfF_t F3 f4
        have g1 : (nx T (nx T κ)).1 + q1.2.length ≤ q1.1.1 := hg.2.1
        rw [e5, bnd_r]
        simp only [Option.bind_some]
        rw [if_neg (by omega)]
        by_cases qc : mk T q1.1 44 = true
        · obtain ⟨X5, e6, k5, f5⟩ := (s_takeMark d (c := 44) hR hT k4 (by omega)).1 qc
          rw [wmk_pos qc, e6]
          simp only [Option.bind_some]
          rw [if_neg (by omega)]
          have hq1 : inT T q1.1 := hg.1
          have hn3 := nx_in hq1
          have hn4 := mk_nx (c := 44) hq1 (by omega) qc
          have hI2 := IH r rfl X5 (nx T q1.1) (C ++ q1.2) k5 (by rw [List.length_append]; omega)
          have hg2 := hp (nx T q1.1) hn3.1
          have F5 := cfF_t F4 f5
          cases e7 : sms T (prt T u r) (nx T q1.1) with
          | inl e' =>
            rw [e7] at hI2
            obtain ⟨X6, e8, b1, b2, b3, f6⟩ := hI2
            rw [e8]
            simp only [Option.bind_some, reduceIte]
            exact ⟨X6, rfl, b1, b2, b3, cfF_t F5 f6⟩
          | inr q2 =>
            rw [e7] at hI2 hg2
            obtain ⟨X6, e8, k6, f6⟩ := hI2
            have F6 := cfF_t F5 f6
            have g2 : (nx T q1.1).1 + q2.2.length ≤ q2.1.1 := hg2.2.1
            have g3 : q2.1.1 ≤ T.1 := hg2.1.2
            rw [e8, bnd_r]
            simp only [Option.bind_some]
            rw [if_neg (by omega)]
            by_cases qd : mk T q2.1 41 = true
            · obtain ⟨X7, e9, k7, f7⟩ := (s_takeMark d (c := 41) hR hT k6 (by omega)).1 qd
              rw [wmk_pos qd, e9]
              simp only [Option.bind_some]
              rw [if_neg (by omega)]
              obtain ⟨op, hop, hop2⟩ : ∃ op : Int, (if wd T κ = 27 then (10012 : Int) else 10013) = op ∧ op ≠ 10014 := ⟨_, rfl, by split <;> omega⟩
              obtain ⟨X8, ea, k8, f8⟩ := cS_emit (d + 2) hR op op (toC_id hop2) k7 (by rw [List.length_append, List.length_append]; omega)
              obtain ⟨X9, eb, k9, f9⟩ := s_closeOne (d + 2) (G := G) k8 (by have := h.2.2.2.2.1.2; omega)
              rw [hop]
              refine ⟨X9, ?_, by rw [show C ++ (q1.2 ++ q2.2 ++ [op]) = C ++ q1.2 ++ q2.2 ++ [op] by simp only [List.append_assoc]]; exact k9, cfF_t F6 (cfF_t f7 (cfF_t f8 f9))⟩
              by_cases y : wd T κ = 27
              · rw [if_pos y] at hop ⊢
                rw [hop, ea]
                simp only [Option.bind_some, Int.reduceLE, reduceIte]
                rw [eb]
                simp only [Option.bind_some]
                try simp only [Int.reduceEq, reduceIte]
              · rw [if_neg y] at hop ⊢
                rw [hop, ea]
                simp only [Option.bind_some, Int.reduceLE, reduceIte]
                rw [eb]
                simp only [Option.bind_some]
                try simp only [Int.reduceEq, reduceIte]
            · rw [wmk_neg qd, (s_takeMark d (c := 41) hR hT k6 (by omega)).2 qd]
              simp only [Option.bind_some, reduceIte]
              exact cRs_f rfl (cS_z k6) F6
        · rw [wmk_neg qc, (s_takeMark d (c := 44) hR hT k4 (by omega)).2 qc]
          simp only [Option.bind_some, reduceIte]
          exact cRs_f rfl (cS_z k4) F4
  · have e' : prt T u r κ = .inl (1, (nx T κ).1) := by
      cases r with
      | zero => unfold prt; rw [if_neg hm40, if_pos hw, if_neg q]
      | succ r => unfold prt; rw [if_neg hm40, if_pos hw, if_neg q]
    rw [if_neg q, if_pos rfl, e', s_failHere (d + 2) k1.2.1]
    simp only [Option.bind_some, reduceIte]
    exact cRs_f rfl (cS_z k1) f1
theorem s_readTubs (d : Nat) {G : jG} {X : jX} {T : aT} {u z : Int} {κ : aK} {r : Nat} {C : List Int} (hR : RG G) (hT : okT T) (hu3 : u = 0 ∨ u = 1 ∨ u = 2) (IH : ∀ r', r = r' + 1 → pcP T u G z 114 (d + 3) r' (prt T u r')) (h : cS X T u κ r z C) (hl : z + C.length ≤ κ.1) (hw : wd T κ = 22 ∧ u = 2) : cRs G X T u r z C (jD (d + 4) 116 [(17, 28)] (G, X)) (prt T u r κ) := by
  have hT1 := hT.2.1
  have hso := wd_so (T := T) (κ := κ) (by omega)
  have hn := nx_in h.2.2.1
  have hn2 := hn.2.1 (by omega)
  have hm40 : ¬ mk T κ 40 = true := fun q => by have := ((mk_so (by omega)).1 q).1; omega
  rw [e_X7_readTubs]
  simp only [Int.reduceLE, reduceIte]
  cases r with
  | zero =>
    have e3 := (s_openOne (d + 1) (G := G) h).2 rfl
    unfold prt
    rw [if_neg hm40, if_neg (by omega), if_pos hw, e3]
    simp only [Option.bind_some, reduceIte]
    exact cRs_f rfl (cS_z h) (cfF_r z X)
  | succ r =>
    obtain ⟨X2, e3, k2, f2⟩ := (s_openOne (d + 1) (G := G) h).1 r rfl
    obtain ⟨X3, e4, k3, f3⟩ := (s_takeWord d hR hT k2 22 (by omega)).1 hw.1
    unfold prt
    rw [if_neg hm40, if_neg (by omega), if_pos hw, e3]
    simp only [Option.bind_some]
    rw [if_neg (by omega), e4]
    simp only [Option.bind_some]
    rw [if_neg (by omega)]
    have hI := IH r rfl X3 (nx T κ) C k3 (by omega)
    have hg := prt_gd hT1 hu3 r (nx T κ) hn.1
    have F3 := cfF_t f2 f3
    cases e : prt T u r (nx T κ) with
    | inl e' =>
      rw [e] at hI
      obtain ⟨X4, e5, b1, b2, b3, f4⟩ := hI
      rw [e5]
      simp only [Option.bind_some, reduceIte]
      exact ⟨X4, rfl, b1, b2, b3, cfF_t F3 f4⟩
    | inr q1 =>
      rw [e] at hI hg
      obtain ⟨X4, e5, k4, f4⟩ := hI
      have F4 := cfF_t F3 f4
      have g1 : (nx T κ).1 + q1.2.length ≤ q1.1.1 := hg.2.1
      have g3 : q1.1.1 ≤ T.1 := hg.1.2
      obtain ⟨X8, ea, k8, f8⟩ := cS_emit (d + 2) hR 10002 10002 (toC_id (by omega)) k4 (by rw [List.length_append]; omega)
      obtain ⟨X9, eb, k9, f9⟩ := s_closeOne (d + 2) (G := G) k8 (by have := h.2.2.2.2.1.2; omega)
      rw [e5, bnd_r]
      simp only [Option.bind_some]
      rw [if_neg (by omega), ea]
      simp only [Option.bind_some, Int.reduceLE, reduceIte]
      rw [eb]
      simp only [Option.bind_some]
      try simp only [Int.reduceEq, reduceIte]
      exact ⟨X9, rfl, by rw [show C ++ (q1.2 ++ [10002]) = C ++ q1.2 ++ [10002] by simp only [List.append_assoc]]; exact k9, cfF_t F4 (cfF_t f8 f9)⟩
theorem s_readPart_S (d : Nat) {G : jG} {T : aT} {u z : Int} {r : Nat} (hR : RG G) (hT : okT T) (hu3 : u = 0 ∨ u = 1 ∨ u = 2) (IH : ∀ r', r = r' + 1 → pcP T u G z 114 (d + 3) r' (prt T u r') ∧ pcP T u G z 112 (d + 3) r' (sms T (prt T u r')) ∧ pcP T u G z 112 (d + 4) r' (sms T (prt T u r'))) : pcP T u G z 114 (d + 5) r (prt T u r) := by
  intro X κ C h hl
  have hT1 := hT.2.1
  have e1 := s_isMark (d + 2) (c := 40) hR hT h.1 h.2.1 h.2.2.1 (by omega)
  have e2 := s_wordHere (d + 2) hR hT h.1 h.2.1 h.2.2.1
  rw [e_X7_readPart]
  simp only [Int.reduceLE, reduceIte]
  rw [e1]
  simp only [Option.bind_some]
  have same : ∀ L : jR, ∀ R : rs, cRs G X T u r z C L R → (∃ v Y, L = some (v, (G, Y)) ∧ (v = 0 ∨ v = 1)) := fun L R hc => by
    cases R with
    | inl e => obtain ⟨Y, q, _⟩ := hc; exact ⟨0, Y, q, Or.inl rfl⟩
    | inr e => obtain ⟨Y, q, _⟩ := hc; exact ⟨1, Y, q, Or.inr rfl⟩
  have thru : ∀ (L : jR) (R : rs), cRs G X T u r z C L R → cRs G X T u r z C (L.bind fun q1 => if q1.1 = 0 then some (0, (q1.2.1, q1.2.2)) else (if q1.1 = 1 then some (1, (q1.2.1, q1.2.2)) else none)) R := fun L R hc => by
    cases R with
    | inl e => obtain ⟨Y, q, a⟩ := hc; exact ⟨Y, by rw [q]; rfl, a⟩
    | inr e => obtain ⟨Y, q, a⟩ := hc; exact ⟨Y, by rw [q]; rfl, a⟩
  by_cases q1 : mk T κ 40 = true
  · rw [if_pos q1, if_neg (by omega)]
    cases r with
    | zero =>
      have e3 := (s_openOne (d + 2) (G := G) h).2 rfl
      unfold prt
      rw [if_pos q1, e3]
      simp only [Option.bind_some, reduceIte]
      exact cRs_f (by rw [h_X7_readPart_52, h_X7_readPart_53, if_pos rfl]) (cS_z h) (cfF_r z X)
    | succ r =>
      obtain ⟨X2, e3, k2, f2⟩ := (s_openOne (d + 2) (G := G) h).1 r rfl
      obtain ⟨X3, e4, k3, f3⟩ := (s_takeMark (d + 1) (c := 40) hR hT k2 (by omega)).1 q1
      have hn := nx_in h.2.2.1
      have hp := sms_gd hT1 (prt_gd hT1 hu3 r)
      unfold prt
      rw [if_pos q1, e3]
      simp only [Option.bind_some]
      rw [if_neg (by omega), e4]
      simp only [Option.bind_some]
      rw [if_neg (by omega)]
      have hI := (IH r rfl).2.2 X3 (nx T κ) C k3 (by omega)
      have hg := hp (nx T κ) hn.1
      have F3 := cfF_t f2 f3
      cases e : sms T (prt T u r) (nx T κ) with
      | inl e' =>
        rw [e] at hI
        obtain ⟨X4, e5, b1, b2, b3, f4⟩ := hI
        rw [e5]
        simp only [Option.bind_some, reduceIte]
        exact ⟨X4, by rw [h_X7_readPart_52, h_X7_readPart_53, if_pos rfl], b1, b2, b3, cfF_t F3 f4⟩
      | inr q2 =>
        rw [e] at hI hg
        obtain ⟨X4, e5, k4, f4⟩ := hI
        have F4 := cfF_t F3 f4
        rw [e5, bnd_r]
        simp only [Option.bind_some]
        rw [if_neg (by omega)]
        by_cases qd : mk T q2.1 41 = true
        · obtain ⟨X7, e9, k7, f7⟩ := (s_takeMark (d + 1) (c := 41) hR hT k4 (by omega)).1 qd
          obtain ⟨X9, eb, k9, f9⟩ := s_closeOne (d + 3) (G := G) k7 (by have := h.2.2.2.2.1.2; omega)
          rw [wmk_pos qd, e9]
          simp only [Option.bind_some]
          rw [if_neg (by omega), eb]
          simp only [Option.bind_some]
          rw [if_neg (by omega), h_X7_readPart_53, if_neg (by omega), if_pos rfl]
          exact ⟨X9, rfl, k9, cfF_t F4 (cfF_t f7 f9)⟩
        · rw [wmk_neg qd, (s_takeMark (d + 1) (c := 41) hR hT k4 (by omega)).2 qd]
          simp only [Option.bind_some, reduceIte]
          exact cRs_f (by rw [h_X7_readPart_52, h_X7_readPart_53, if_pos rfl]) (cS_z k4) F4
  · rw [if_neg q1, if_pos rfl, e2]
    simp only [Option.bind_some]
    by_cases q2 : wd T κ = 27 ∨ wd T κ = 28
    · have hc := s_readChoice d hR hT hu3 (fun r' hr => (IH r' hr).2.1) h hl q2
      have : jN (d + 4) 114 71 [(17, 28), (0, wd T κ), (2, (-1))] [] (G, X) = ((jD (d + 4) 115 [(17, 28), (0, wd T κ)] (G, X)).bind fun q1 => if q1.1 = 0 then some (0, (q1.2.1, q1.2.2)) else (if q1.1 = 1 then some (1, (q1.2.1, q1.2.2)) else none)) := by
        rw [h_X7_readPart_71, if_pos (by omega)]
      rw [this]
      by_cases y : wd T κ = 27
      · rw [if_pos y]; exact thru _ _ hc
      · rw [if_neg y, if_pos (by omega)]; exact thru _ _ hc
    · rw [if_neg (fun y => q2 (Or.inl y)), if_neg (fun y => q2 (Or.inr y))]
      by_cases q3 : wd T κ = 22 ∧ u = 2
      · rw [if_pos q3.1, if_pos (by rw [h.2.2.2.1.1]; exact q3.2)]
        exact thru _ _ (s_readTubs d hR hT hu3 (fun r' hr => (IH r' hr).1) h hl q3)
      · have ha : prt T u r κ = atm T u κ := by
          cases r with
          | zero => unfold prt; rw [if_neg q1, if_neg q2, if_neg q3]
          | succ r => unfold prt; rw [if_neg q1, if_neg q2, if_neg q3]
        have hat := s_atom (d + 2) hR hT hu3 h hl
        rw [ha]
        by_cases y : wd T κ = 22
        · rw [if_pos y, if_neg (fun w => q3 ⟨y, by rw [← h.2.2.2.1.1]; exact w⟩)]; exact hat
        · rw [if_neg y]; exact hat
theorem s_part {G : jG} {T : aT} {u z : Int} (hR : RG G) (hT : okT T) (hu3 : u = 0 ∨ u = 1 ∨ u = 2) : ∀ (r d : Nat), pcP T u G z 114 (d + 4 * r + 5) r (prt T u r) := by
  have hT1 := hT.2.1
  intro r
  induction r with
  | zero => intro d; exact s_readPart_S d hR hT hu3 (fun r' h => by omega)
  | succ r ih =>
    intro d
    have hs : ∀ e : Nat, pcP T u G z 112 (e + 4 * r + 7) r (sms T (prt T u r)) := fun e => by
      have h1 := s_readProduct (e + 4 * r + 2) hR hT (prt_gd hT1 hu3 r) (ih e)
      exact s_readSum (e + 4 * r + 3) hR hT (fun κ h => (lev_gd hT1 (sgO_P T) (prt_gd hT1 hu3 r) κ h).1) h1
    have := s_readPart_S (r := r + 1) (d + 4 * r + 4) hR hT hu3 (fun r' hr => by
      have : r' = r := by omega
      subst this
      refine ⟨?_, ?_, ?_⟩
      · have := ih (d + 2); rw [show d + 2 + 4 * r' + 5 = d + 4 * r' + 4 + 3 by omega] at this; exact this
      · have := hs d; rw [show d + 4 * r' + 7 = d + 4 * r' + 4 + 3 by omega] at this; exact this
      · have := hs (d + 1); rw [show d + 1 + 4 * r' + 7 = d + 4 * r' + 4 + 4 by omega] at this; exact this)
    rw [show d + 4 * (r + 1) + 5 = d + 4 * r + 4 + 5 by omega]
    exact this
theorem s_sum {G : jG} {T : aT} {u z : Int} (hR : RG G) (hT : okT T) (hu3 : u = 0 ∨ u = 1 ∨ u = 2) (r d : Nat) : pcP T u G z 112 (d + 4 * r + 7) r (sms T (prt T u r)) := by
  have hT1 := hT.2.1
  have h1 := s_readProduct (z := z) (d + 4 * r + 2) hR hT (prt_gd hT1 hu3 r) (s_part hR hT hu3 r d)
  exact s_readSum (d + 4 * r + 3) hR hT (fun κ h => (lev_gd hT1 (sgO_P T) (prt_gd hT1 hu3 r) κ h).1) h1
theorem s_signHere (d : Nat) {G : jG} {X : jX} {T : aT} {κ : aK} (hR : RG G) (hT : okT T) (hp : cTp X T) (hk : cK X T κ) (hi : inT T κ) : jD (d + 3) 110 [(17, 28)] (G, X) = some (sgC T κ, (G, X)) := by
  have e1 := s_isMark d (c := 60) hR hT hp hk hi (by omega)
  have e2 := s_isMark d (c := 62) hR hT hp hk hi (by omega)
  have e3 := s_isMark d (c := 61) hR hT hp hk hi (by omega)
  rw [e_X7_signHere]
  simp only [Int.reduceLE, reduceIte]
  rw [e1]
  simp only [Option.bind_some]
  unfold sgC
  by_cases q1 : mk T κ 60 = true
  · rw [if_pos q1, if_pos q1, if_neg (by omega)]
  · rw [if_neg q1, if_neg q1, if_pos rfl, e2]
    simp only [Option.bind_some]
    by_cases q2 : mk T κ 62 = true
    · rw [if_pos q2, if_pos q2, if_neg (by omega)]
    · rw [if_neg q2, if_neg q2, if_pos rfl, e3]
      simp only [Option.bind_some]
      by_cases q3 : mk T κ 61 = true
      · rw [if_pos q3, if_pos q3, if_neg (by omega)]
      · rw [if_neg q3, if_neg q3, if_pos rfl]
theorem s_readNot (d : Nat) {G : jG} {X : jX} {T : aT} {u z : Int} {κ : aK} {r : Nat} {C : List Int} (hR : RG G) (hT : okT T) (hu3 : u = 0 ∨ u = 1 ∨ u = 2) (IH : ∀ r', r = r' + 1 → pcP T u G z 109 (d + 3) r' (fac T u r')) (h : cS X T u κ r z C) (hl : z + C.length ≤ κ.1) (hw : wd T κ = 25) : cRs G X T u r z C (jD (d + 4) 111 [(17, 28)] (G, X)) (fac T u r κ) := by
  have hT1 := hT.2.1
  have hso := wd_so (T := T) (κ := κ) (by omega)
  have hn := nx_in h.2.2.1
  have hn2 := hn.2.1 (by omega)
  rw [e_X7_readNot]
  simp only [Int.reduceLE, reduceIte]
  cases r with
  | zero =>
    have e3 := (s_openOne (d + 1) (G := G) h).2 rfl
    unfold fac
    rw [if_pos hw, e3]
    simp only [Option.bind_some, reduceIte]
    exact cRs_f rfl (cS_z h) (cfF_r z X)
  | succ r =>
    obtain ⟨X2, e3, k2, f2⟩ := (s_openOne (d + 1) (G := G) h).1 r rfl
    obtain ⟨X3, e4, k3, f3⟩ := (s_takeWord d hR hT k2 25 (by omega)).1 hw
    unfold fac
    rw [if_pos hw, e3]
    simp only [Option.bind_some]
    rw [if_neg (by omega), e4]
    simp only [Option.bind_some]
    rw [if_neg (by omega)]
    have hI := IH r rfl X3 (nx T κ) C k3 (by omega)
    have hg := fac_gd hT1 hu3 r (nx T κ) hn.1
    have F3 := cfF_t f2 f3
    cases e : fac T u r (nx T κ) with
    | inl e' =>
      rw [e] at hI
      obtain ⟨X4, e5, b1, b2, b3, f4⟩ := hI
      rw [e5]
      simp only [Option.bind_some, reduceIte]
      exact ⟨X4, rfl, b1, b2, b3, cfF_t F3 f4⟩
    | inr q1 =>
      rw [e] at hI hg
      obtain ⟨X4, e5, k4, f4⟩ := hI
      have F4 := cfF_t F3 f4
      have g1 : (nx T κ).1 + q1.2.length ≤ q1.1.1 := hg.2.1
      have g3 : q1.1.1 ≤ T.1 := hg.1.2
      obtain ⟨X8, ea, k8, f8⟩ := cS_emit (d + 2) hR 10001 10001 (toC_id (by omega)) k4 (by rw [List.length_append]; omega)
      obtain ⟨X9, eb, k9, f9⟩ := s_closeOne (d + 2) (G := G) k8 (by have := h.2.2.2.2.1.2; omega)
      rw [e5, bnd_r]
      simp only [Option.bind_some]
      rw [if_neg (by omega), ea]
      simp only [Option.bind_some, Int.reduceLE, reduceIte]
      rw [eb]
      simp only [Option.bind_some]
      try simp only [Int.reduceEq, reduceIte]
      exact ⟨X9, rfl, by rw [show C ++ (q1.2 ++ [10001]) = C ++ q1.2 ++ [10001] by simp only [List.append_assoc]]; exact k9, cfF_t F4 (cfF_t f8 f9)⟩
theorem s_readFact_S (d : Nat) {G : jG} {T : aT} {u z : Int} {r : Nat} (hR : RG G) (hT : okT T) (hu3 : u = 0 ∨ u = 1 ∨ u = 2) (IS : pcP T u G z 112 (d + 4) r (sms T (prt T u r))) (IH : ∀ r', r = r' + 1 → pcP T u G z 109 (d + 3) r' (fac T u r') ∧ pcP T u G z 107 (d + 4) r' (tst T (fac T u r'))) : pcP T u G z 109 (d + 5) r (fac T u r) := by
  intro X κ C h hl
  have hT1 := hT.2.1
  have e1 := s_isMark (d + 2) (c := 91) hR hT h.1 h.2.1 h.2.2.1 (by omega)
  have e2 := s_wordHere (d + 2) hR hT h.1 h.2.1 h.2.2.1
  have hn := nx_in h.2.2.1
  rw [e_X7_readFact]
  simp only [Int.reduceLE, reduceIte]
  rw [e2]
  simp only [Option.bind_some]
  have thru : ∀ (L : jR) (R : rs), cRs G X T u r z C L R → cRs G X T u r z C (L.bind fun q1 => if q1.1 = 0 then some (0, (q1.2.1, q1.2.2)) else (if q1.1 = 1 then some (1, (q1.2.1, q1.2.2)) else none)) R := fun L R hc => by
    cases R with
    | inl e => obtain ⟨Y, q, a⟩ := hc; exact ⟨Y, by rw [q]; rfl, a⟩
    | inr e => obtain ⟨Y, q, a⟩ := hc; exact ⟨Y, by rw [q]; rfl, a⟩
  by_cases q1 : wd T κ = 25
  · rw [if_pos q1]
    exact thru _ _ (s_readNot d hR hT hu3 (fun r' hr => (IH r' hr).1) h hl q1)
  · rw [if_neg q1, e1]
    simp only [Option.bind_some]
    by_cases q2 : mk T κ 91 = true
    · rw [if_pos q2, if_neg (by omega)]
      cases r with
      | zero =>
        have e3 := (s_openOne (d + 2) (G := G) h).2 rfl
        unfold fac
        rw [if_neg q1, if_pos q2, e3]
        simp only [Option.bind_some, reduceIte]
        exact cRs_f rfl (cS_z h) (cfF_r z X)
      | succ r =>
        obtain ⟨X2, e3, k2, f2⟩ := (s_openOne (d + 2) (G := G) h).1 r rfl
        obtain ⟨X3, e4, k3, f3⟩ := (s_takeMark (d + 1) (c := 91) hR hT k2 (by omega)).1 q2
        have hp := tst_gd hT1 (fac_gd hT1 hu3 r)
        unfold fac
        rw [if_neg q1, if_pos q2, e3]
        simp only [Option.bind_some]
        rw [if_neg (by omega), e4]
        simp only [Option.bind_some]
        rw [if_neg (by omega)]
        have hI := (IH r rfl).2 X3 (nx T κ) C k3 (by omega)
        have hg := hp (nx T κ) hn.1
        have F3 := cfF_t f2 f3
        cases e : tst T (fac T u r) (nx T κ) with
        | inl e' =>
          rw [e] at hI
          obtain ⟨X4, e5, b1, b2, b3, f4⟩ := hI
          rw [e5]
          simp only [Option.bind_some, reduceIte]
          exact ⟨X4, rfl, b1, b2, b3, cfF_t F3 f4⟩
        | inr q3 =>
          rw [e] at hI hg
          obtain ⟨X4, e5, k4, f4⟩ := hI
          have F4 := cfF_t F3 f4
          rw [e5, bnd_r]
          simp only [Option.bind_some]
          rw [if_neg (by omega)]
          by_cases qd : mk T q3.1 93 = true
          · obtain ⟨X7, e9, k7, f7⟩ := (s_takeMark (d + 1) (c := 93) hR hT k4 (by omega)).1 qd
            obtain ⟨X9, eb, k9, f9⟩ := s_closeOne (d + 3) (G := G) k7 (by have := h.2.2.2.2.1.2; omega)
            rw [wmk_pos qd, e9]
            simp only [Option.bind_some]
            rw [if_neg (by omega), eb]
            simp only [Option.bind_some]
            rw [if_neg (by omega)]
            exact ⟨X9, rfl, k9, cfF_t F4 (cfF_t f7 f9)⟩
          · rw [wmk_neg qd, (s_takeMark (d + 1) (c := 93) hR hT k4 (by omega)).2 qd]
            simp only [Option.bind_some, reduceIte]
            exact cRs_f rfl (cS_z k4) F4
    · rw [if_neg q2, if_pos rfl]
      by_cases q3 : wd T κ = 26
      · have hso := wd_so (T := T) (κ := κ) (by omega)
        have hlt : κ.1 < T.1 := by
          rcases so_b T κ with y | y
          · omega
          · have : srt T κ.1 ≠ 0 := by omega
            rw [ne_eq, srt_0] at this; omega
        obtain ⟨X1, e3, k1, f1⟩ := cS_emit (d + 3) hR 10014 1 rfl h (by omega)
        obtain ⟨X2, e4, k2, f2⟩ := cS_step (d + 2) hR hT k1 (by omega)
        have ha : fac T u r κ = .inr (nx T κ, [10014]) := by
          cases r with
          | zero => unfold fac; rw [if_neg q1, if_neg q2, if_pos q3]
          | succ r => unfold fac; rw [if_neg q1, if_neg q2, if_pos q3]
        rw [ha, if_pos q3, e3]
        simp only [Option.bind_some, Int.reduceLE, reduceIte]
        rw [e4]
        exact ⟨X2, rfl, k2, cfF_t f1 f2⟩
      · have ha : fac T u r κ = cmp T (sms T (prt T u r)) κ := by
          cases r with
          | zero => unfold fac; rw [if_neg q1, if_neg q2, if_neg q3]
          | succ r => unfold fac; rw [if_neg q1, if_neg q2, if_neg q3]
        have hp := sms_gd hT1 (prt_gd hT1 hu3 r)
        have hI := IS X κ C h hl
        have hg := hp κ h.2.2.1
        rw [ha, if_neg q3]
        unfold cmp
        cases e : sms T (prt T u r) κ with
        | inl e' =>
          rw [e] at hI
          obtain ⟨X4, e5, b1, b2, b3, f4⟩ := hI
          rw [e5]
          simp only [Option.bind_some, reduceIte]
          exact ⟨X4, rfl, b1, b2, b3, f4⟩
        | inr q4 =>
          rw [e] at hI hg
          obtain ⟨X4, e5, k4, f4⟩ := hI
          have g1 : κ.1 + q4.2.length ≤ q4.1.1 := hg.2.1
          rw [e5, bnd_r]
          simp only [Option.bind_some]
          rw [if_neg (by omega), s_signHere (d + 1) hR hT k4.1 k4.2.1 k4.2.2.1]
          simp only [Option.bind_some]
          by_cases q5 : sgC T q4.1 = -1
          · rw [if_pos q5, if_pos q5, s_failHere (d + 3) k4.2.1]
            simp only [Option.bind_some, reduceIte]
            exact cRs_f rfl (cS_z k4) f4
          · obtain ⟨s1, s2⟩ := sgC_so q5
            have h4 : so T q4.1 ≠ 4 := fun y => by
              have : ∀ c : Int, (c < 48 ∨ (57 < c ∧ c < 97) ∨ 122 < c) → mk T q4.1 c ≠ true := fun c hc y => by have := ((mk_so hc).1 y).1; omega
              apply q5
              unfold sgC
              rw [if_neg (this 60 (by omega)), if_neg (this 62 (by omega)), if_neg (this 61 (by omega))]
            obtain ⟨X5, e6, k5, f5⟩ := cS_step (d + 2) hR hT k4 h4
            have hn3 := nx_in (T := T) (κ := q4.1) hg.1
            have hn4 := hn3.2.1 s1
            rw [if_neg q5, if_neg q5, e6]
            simp only [Option.bind_some]
            have hI2 := IS X5 (nx T q4.1) (C ++ q4.2) k5 (by rw [List.length_append]; omega)
            have hg2 := hp (nx T q4.1) hn3.1
            have F5 := cfF_t f4 f5
            cases e7 : sms T (prt T u r) (nx T q4.1) with
            | inl e' =>
              rw [e7] at hI2
              obtain ⟨X6, e8, b1, b2, b3, f6⟩ := hI2
              obtain ⟨X7, e9, _, g3, g4, f7⟩ := s_emit (d + 3) hR (sgC T q4.1) (X6 28 3) rfl (by have := h.2.2.2.2.2.2.2; omega)
              rw [e8]
              simp only [Option.bind_some]
              rw [e9]
              simp only [Option.bind_some, reduceIte]
              exact ⟨X7, rfl, by rw [g3 9 (by omega)]; exact b1, by rw [g3 10 (by omega)]; exact b2, by omega, cfF_t F5 (cfF_t f6 (f7 z (by omega)))⟩
            | inr q6 =>
              rw [e7] at hI2 hg2
              obtain ⟨X6, e8, k6, f6⟩ := hI2
              have g2 : (nx T q4.1).1 + q6.2.length ≤ q6.1.1 := hg2.2.1
              have g3 : q6.1.1 ≤ T.1 := hg2.1.2
              obtain ⟨X7, e9, k7, f7⟩ := cS_emit (d + 3) hR (sgC T q4.1) (sgC T q4.1) (toC_id (by omega)) k6 (by rw [List.length_append, List.length_append]; omega)
              rw [e8, bnd_r]
              simp only [Option.bind_some]
              rw [e9]
              simp only [Option.bind_some]
              try simp only [Int.reduceEq, reduceIte]
              exact ⟨X7, rfl, by rw [show C ++ (q4.2 ++ q6.2 ++ [sgC T q4.1]) = C ++ q4.2 ++ q6.2 ++ [sgC T q4.1] by simp only [List.append_assoc]]; exact k7, cfF_t F5 (cfF_t f6 f7)⟩
theorem s_fact {G : jG} {T : aT} {u z : Int} (hR : RG G) (hT : okT T) (hu3 : u = 0 ∨ u = 1 ∨ u = 2) : ∀ (r d : Nat), pcP T u G z 109 (d + 4 * r + 8) r (fac T u r) := by
  have hT1 := hT.2.1
  intro r
  induction r with
  | zero => intro d; exact s_readFact_S (d + 3) hR hT hu3 (s_sum hR hT hu3 0 d) (fun r' h => by omega)
  | succ r ih =>
    intro d
    have ht : pcP T u G z 107 (d + 4 * r + 11) r (tst T (fac T u r)) := by
      have h1 := s_readBoth (d + 4 * r + 6) hR hT (fac_gd hT1 hu3 r) (by have := ih (d + 1); rw [show d + 1 + 4 * r + 8 = d + 4 * r + 6 + 3 by omega] at this; exact this)
      exact s_readTest (d + 4 * r + 7) hR hT (fun κ h => (lev_gd hT1 (sgO_B T) (fac_gd hT1 hu3 r) κ h).1) h1
    have := s_readFact_S (r := r + 1) (d + 4 * r + 7) hR hT hu3 (by have := s_sum (z := z) hR hT hu3 (r + 1) d; rw [show d + 4 * (r + 1) + 7 = d + 4 * r + 7 + 4 by omega] at this; exact this) (fun r' hr => by
      have : r' = r := by omega
      subst this
      refine ⟨?_, ht⟩
      have := ih (d + 2); rw [show d + 2 + 4 * r' + 8 = d + 4 * r' + 7 + 3 by omega] at this; exact this)
    rw [show d + 4 * (r + 1) + 8 = d + 4 * r + 7 + 5 by omega]
    exact this
theorem s_test {G : jG} {T : aT} {u z : Int} (hR : RG G) (hT : okT T) (hu3 : u = 0 ∨ u = 1 ∨ u = 2) (r d : Nat) : pcP T u G z 107 (d + 4 * r + 10) r (tst T (fac T u r)) := by
  have hT1 := hT.2.1
  have h1 := s_readBoth (z := z) (d + 4 * r + 5) hR hT (fac_gd hT1 hu3 r) (s_fact hR hT hu3 r d)
  exact s_readTest (d + 4 * r + 6) hR hT (fun κ h => (lev_gd hT1 (sgO_B T) (fac_gd hT1 hu3 r) κ h).1) h1
