/-! every method that the pure machine runs to its end is met -/
def jck (own : Nat) (cc : ByteArray) (ret : Option FieldType) (ini : Bool) (i : jI) (pc : Nat) : Bool := (jchks.getD i.1 hTrue) own cc pc i.2.1 i.2.2.1 i.2.2.2 && (jRchk ret i && (decide (i.1 ≠ 69) || ini))
theorem jrun_sim {Γ : jCtx} {own : Nat} {cc : ByteArray} {ce : jC} {rF : Int × jS} {dd : Nat} {ret : Option FieldType} {cd : List jI} {ini : Bool} (C : jCx Γ own cc) (hce : ∀ (m : Nat) (args : List jV) (S : jS) (z : Int) (S' : jS), m < 343 → ce m args S = some (z, S') → jMet (xl Γ) dd m args S z S') (hG : jGroC ce) (hR : ∀ (m : Nat) (args : List jV) (S : jS) (r : Int × jS), m < 343 → ce m args S = some r → dd + 8 ≤ (xR Γ).frames ∧ 60 * (dd + 8) ≤ (xR Γ).locals) (hret : jRets Γ own cc ret rF) (hoth : jOth Γ own cc ce rF) (hcells : gN rF.2.1 - xk Γ ≤ (xR Γ).cells ∧ gM rF.2.1 - xj Γ ≤ (xR Γ).slots) (hini : ini = true → (xM Γ).name = "<init>") (hck : ∀ pc : Nat, jck own cc ret ini (cd.getD pc (0, 0, 0, [])) pc = true) :
    ∀ (n pc : Nat) (loc st : List jV) (S : jS), jrun ce cd n pc loc st S = some rF → jK Γ pc loc st S
  | 0, _, _, _, _, h => by cases h
  | n + 1, pc, loc, st, S, h => by
    have hc := hck pc
    unfold jck at hc
    simp only [Bool.and_eq_true] at hc
    refine jstep_sim C hce (fun m a S z S' _ h => hG m a S z S' h) hR hret hoth _ _ _ pc loc st S (jrun ce cd n) _ (fun e => ?_) hc.2.1 hc.1 h (fun pc loc st S h => ?_) (jrun_sim C hce hG hR hret hoth hcells hini hck n)
    · have h3 := hc.2.2
      rw [Bool.or_eq_true] at h3
      rcases h3 with q | q
      · exact absurd e (of_decide_eq_true q)
      · exact hini q
    · have g := jrun_gro hG n pc loc st S rF h
      have g1 := g.1
      have g2 := g.2
      omega
theorem jent_mem (ad : Int → Nat) (k : Nat) : ∀ (args : List jV) (off i : Nat) (v : jV), ((args.flatMap fun v => if v.1 = 1 then [v, (2, -1)] else [v]) ++ List.replicate k (2, -1))[i]? = some v → v.1 ≠ 2 → (off + i, jtr ad v) ∈ lv_args off (args.map (jtr ad))
  | [], off, i, v, h, hv => by
    rw [List.flatMap_nil, List.nil_append] at h
    have := List.eq_of_mem_replicate (List.mem_of_getElem? h)
    rw [this] at hv
    exact absurd rfl hv
  | a :: as, off, i, v, h, hv => by
    rw [List.flatMap_cons] at h
    rw [List.map_cons]
    show (off + i, jtr ad v) ∈ (off, jtr ad a) :: lv_args (if (jtr ad a).category = 2 then off + 2 else off + 1) (as.map (jtr ad))
    by_cases e : a.1 = 1
    · rw [if_pos e] at h
      rw [if_pos (jtr_cat2 e)]
      match i, h with
      | 0, h =>
        have ea : a = v := Option.some.inj h
        rw [ea]
        exact List.mem_cons_self
      | 1, h =>
        have ea : ((2, -1) : jV) = v := Option.some.inj h
        rw [← ea] at hv
        exact absurd rfl hv
      | i + 2, h =>
        have := jent_mem ad k as (off + 2) i v h hv
        rw [show off + 2 + i = off + (i + 2) by omega] at this
        exact List.mem_cons_of_mem _ this
    · rw [if_neg e] at h
      rw [if_neg (by rw [jtr_cat e]; omega)]
      match i, h with
      | 0, h =>
        have ea : a = v := Option.some.inj h
        rw [ea]
        exact List.mem_cons_self
      | i + 1, h =>
        have := jent_mem ad k as (off + 1) i v h hv
        rw [show off + 1 + i = off + (i + 1) by omega] at this
        exact List.mem_cons_of_mem _ this
theorem jsl_len (ad : Int → Nat) : ∀ args : List jV, (lg_sl (args.map (jtr ad))).length = (args.flatMap fun v => if v.1 = 1 then [v, (2, -1)] else [v]).length
  | [] => rfl
  | a :: as => by
    have ih := jsl_len ad as
    unfold lg_sl at ih ⊢
    rw [List.map_cons, List.flatMap_cons, List.flatMap_cons, List.length_append, List.length_append, ih]
    congr 1
    by_cases e : a.1 = 1
    · rw [if_pos e, if_pos (jtr_cat2 e)]
      rfl
    · rw [if_neg e, if_neg (by rw [jtr_cat e]; omega)]
      rfl
theorem jL_entry {ls : Array Slot} {nL : Nat} {ad : Int → Nat} {args : List jV} (hf : (args.flatMap fun v => if v.1 = 1 then [v, (2, -1)] else [v]).length ≤ nL) (h : lv_has ls nL (lv_args 0 (args.map (jtr ad)))) : jL ls nL ad (jent args nL) := by
  refine ⟨h.1, ?_, h.2.1, fun i v hi hv => ?_⟩
  · unfold jent
    rw [List.length_append, List.length_replicate]
    omega
  · have := jent_mem ad _ args 0 i v hi hv
    rw [Nat.zero_add] at this
    exact h.2.2 (i, jtr ad v) this
theorem jent_ok {S : jS} {args : List jV} {n : Nat} (h : ∀ v ∈ args, jok S v) : ∀ v ∈ jent args n, jok S v := by
  intro v hv
  unfold jent at hv
  rcases List.mem_append.mp hv with q | q
  · obtain ⟨w, h1, h2⟩ := List.mem_flatMap.mp q
    by_cases e : w.1 = 1
    · rw [if_pos e] at h2
      rcases List.mem_cons.mp h2 with g | g
      · rw [g]; exact h w h1
      · rw [List.mem_singleton.mp g]; exact jok_u
    · rw [if_neg e] at h2
      rw [List.mem_singleton.mp h2]; exact h w h1
  · rw [List.eq_of_mem_replicate q]; exact jok_u
/-- a method's code is what its table says -/
def jckM (m : Nat) : Prop := ∀ pc : Nat, jck (jme m).2.2.2.2 (jme m).2.1 (jme m).2.2.2.1 (decide ((jy m).name = "<init>")) ((jcd m).getD pc (0, 0, 0, [])) pc = true
/-- what is known of every method, by program -/
def jgoodM (m : Nat) : Prop := plainFor (jy m) = true ∧ (jy m).cls = jcn.getD (jme m).2.2.2.2 "" ∧ jml0 m = (jme m).2.2.1
/-- what the instructions beside need: the string constant, new T[n][m]; the script is the law's alone -/
def jOthM (l : Launch) : Prop := ∀ (Γ : jCtx) (own : Nat) (cc : ByteArray) (ce : jC) (rF : Int × jS), xl Γ = l → jCx Γ own cc → (∀ a S, ce 1000 a S = none) → (∀ a S, ce 1001 a S = none) → jOth Γ own cc ce rF
theorem jeva_none {F d m : Nat} {args : List jV} {S : jS} (h : ¬ m < 342) : jeva F d m args S = none := by
  cases d with
  | zero => rfl
  | succ d =>
    unfold jeva
    rw [if_neg]
    unfold jfit
    intro q
    exact h (of_decide_eq_true q).2
/-- the kit's Met.ofW, for a method that no entry runs (the classes of which some are run so, as Math, too) -/
theorem jofW {l : Launch} {y : MethodName} {ws ws' : List Cond} {rm : Room} {Pc : Array Value → State → Prop} {Qc : Array Value → State → Outcome → State → Prop} {mc ms : Nat} {free : Addr → Prop} {cc : ByteArray} {maxL : Nat} {ret : Option FieldType}
    (hy : plainFor y = true) (hw : ws = Cond.code y cc maxL ret :: ws')
    (body : ∀ p e s m args below meth c s₁, BodyLoose p l y (headSpec ws rm) cc maxL ret e s m args below meth c s₁ → c.maxLocals = maxL → Pc args s →
      W p l e (headSpec ws rm).room s m args below meth c s.heap [] 0 0 (MQ below Qc args s mc ms free) (entryFrame m args maxL)) : Met l y ws rm Pc Qc mc ms free := by
  refine MetFree.of_bodySF (code := cc) (maxLocals := maxL) (ret := ret) hy ?_ ?_
  · intro args s m h hn
    obtain ⟨meth, c, h1, h2, h3, h4, h5, h6, -, -⟩ := Cond.code_spec hn (atoms_spec (ws := ws) h _ (by rw [hw]; exact List.mem_cons_self))
    exact ⟨meth, c, h1, h2, h3, h4, h5, h6⟩
  · intro p e s m args below meth c s₁ B hml hP _
    have hh0 : s₁.heap = s.heap := by rw [B.state]; rfl
    obtain ⟨t, a1, o, b1, b2, b3⟩ := body p e s m args below meth c s₁ B hml hP s₁ hh0 (Stand.of_body B)
    exact ⟨t, o, a1, b1, b2, ⟨b3.1, b3.2⟩⟩
theorem jmet_all (l : Launch) (F : Nat) (hoth : jOthM l) (hck : ∀ m, m < 342 → jckM m ∧ jgoodM m) : ∀ (d m : Nat) (args : List jV) (S : jS) (z : Int) (S' : jS), jeva F (d + 1) m args S = some (z, S') → jMet l d m args S z S' := by
  intro d
  induction d using Nat.strongRecOn with
  | _ d ih =>
  intro m args S z S' h D cy ad v0 sz hwf hargs hgr
  obtain ⟨hfit, hrun⟩ := jeva_fit h
  obtain ⟨hf1, hm⟩ := of_decide_eq_true hfit
  obtain ⟨hc, hpl, hcn, hml0⟩ := hck m hm
  refine jofW (cc := (jme m).2.1) (maxL := (jme m).2.2.1) (ret := (jme m).2.2.2.1) hpl rfl ?_
  intro p e s m' args' below meth c s₁ B hml hv
  obtain ⟨rfl, hsz, hP, hK, hD0, hE, hX⟩ := hv
  subst hsz
  have hts : ∀ w ∈ jtbl, w.before (args.map (jtr ad)).toArray s = true := fun w hw => atoms_spec (ws := jws m) B.pre w (List.mem_cons_of_mem _ hw)
  have hown : s.vm.findClass (jy m).cls = some m'.cls := findClass_of_methodNamed B.named
  rw [hcn] at hown
  have hD := hD0.self (sz := s.heap.size)
  let Γ : jCtx := ((p, l, e, jrm d (gN S'.1 - gN S.1) (gM S'.1 - gM S.1), s, m', (args.map (jtr ad)).toArray, below), (meth, c, MQ below (jPost D cy ad s.heap.size S (jrt m) z S') (args.map (jtr ad)).toArray s (gN S'.1 - gN S.1) (gM S'.1 - gM S.1) (va_A (jwld cy ad S) s.heap.size), (jme m).2.2.1, D, cy, va_A (jwld cy ad S) s.heap.size), (ad, gN S.1, gM S.1, v0, gK S.1))
  have C : jCx Γ (jme m).2.2.2.2 (jme m).2.1 := ⟨B.exec, B.bytes, hml, hown, hts, hK, fun q h => Or.inr h, B.notSynchronized, hE, hX, by show 7 ≤ d + 7; omega, by show 420 ≤ 60 * (d + 7); omega⟩
  have hrets : jRets Γ (jme m).2.2.2.2 (jme m).2.1 (jme m).2.2.2.1 (z, S') := jrets_met C (S0 := S) (rt := jrt m) ⟨rfl, rfl, rfl, rfl⟩ rfl B.returns rfl
  have hn1 : ∀ a S, jeva F d 1000 a S = none := fun a S => jeva_none (by omega)
  have hn2 : ∀ a S, jeva F d 1001 a S = none := fun a S => jeva_none (by omega)
  have hK0 : jK Γ 0 (jent args (jml0 m)) [] S := by
    refine jrun_sim (dd := d - 1) C (fun m2 a2 S2 z2 S2' _ h2 => ?_) (jeva_gro F d) (fun m2 a2 S2 r2 _ h2 => ?_) hrets (hoth Γ _ _ _ _ rfl C hn1 hn2) ⟨Nat.le_refl _, Nat.le_refl _⟩ (fun q => ?_) hc F 0 _ _ S hrun
    · cases d with
      | zero => cases h2
      | succ d => exact ih d (Nat.lt_succ_self d) m2 a2 S2 z2 S2' h2
    · cases d with
      | zero => cases h2
      | succ d =>
        show d + 1 - 1 + 8 ≤ d + 1 + 7 ∧ 60 * (d + 1 - 1 + 8) ≤ 60 * (d + 1 + 7)
        omega
    · have h1 := (name_of_methodNamed B.named B.method).1
      show meth.name = "<init>"
      rw [h1]
      exact of_decide_eq_true q
  have hl := lv_entry (args.map (jtr ad)) (n := (jme m).2.2.1) (by rw [jsl_len, ← hml0]; exact hf1)
  rw [lg_entry_eq]
  generalize (lg_sl (args.map (jtr ad)) ++ List.replicate ((jme m).2.2.1 - (lg_sl (args.map (jtr ad))).length) Slot.unset).toArray = ls at hl ⊢
  have hjl : jL ls (jme m).2.2.1 ad (jent args (jml0 m)) := by
    rw [hml0]
    exact jL_entry (by rw [← hml0]; exact hf1) hl
  have K := hK0 ls s.heap [] ad ⟨hjl, hwf, jent_ok hargs, fun v hv => absurd hv List.not_mem_nil, ⟨fun _ _ => rfl, Nat.le_refl _, Nat.le_refl _, hgr, fun _ _ => rfl⟩, hP, hD, va_S.rf⟩
  unfold jW at K
  rw [show gN S.1 - xk Γ = 0 from Nat.sub_self _, show gM S.1 - xj Γ = 0 from Nat.sub_self _] at K
  exact K
