/-! THE LIMIT: no count of steps any more -/
noncomputable def jlim (f : Nat → jR) : jR := @dite jR (∃ F : Nat, ∃ r, f F = some r) (Classical.propDecidable _) (fun h => f (Classical.choose h)) (fun _ => none)
theorem jlim_ex {f : Nat → jR} {r : Int × jS} (h : jlim f = some r) : ∃ F : Nat, f F = some r := by
  unfold jlim at h
  by_cases e : ∃ F : Nat, ∃ r, f F = some r
  · rw [dif_pos e] at h
    exact ⟨_, h⟩
  · rw [dif_neg e] at h
    cases h
theorem jlim_of {f : Nat → jR} {r : Int × jS} {F : Nat} (hm : ∀ F F' : Nat, F ≤ F' → jle (f F) (f F')) (h : f F = some r) : jlim f = some r := by
  unfold jlim
  have e : ∃ F : Nat, ∃ r, f F = some r := ⟨F, r, h⟩
  rw [dif_pos e]
  obtain ⟨r', hr'⟩ := Classical.choose_spec e
  have h1 := hm F (F + Classical.choose e) (by omega) r h
  have h2 := hm (Classical.choose e) (F + Classical.choose e) (by omega) r' hr'
  rw [hr', ← h1, h2]
/-- from some count on -/
def jfin (f : Nat → jR) (r : Int × jS) : Prop := ∃ F : Nat, ∀ F' : Nat, F ≤ F' → f F' = some r
def jCon (o : jF) : Prop := ∀ a b t (ce : jC) (ceF : Nat → jC) pc loc st S (k : jT) (kF : Nat → jT) r, (∀ m a S r, ce m a S = some r → jfin (fun F => ceF F m a S) r) → (∀ pc loc st S r, k pc loc st S = some r → jfin (fun F => kF F pc loc st S) r) → o a b t ce pc loc st S k = some r → jfin (fun F => o a b t (ceF F) pc loc st S (kF F)) r
theorem jfin_c {r : Int × jS} : jfin (fun _ => some r) r := ⟨0, fun _ _ => rfl⟩
theorem jfin_bind {f : Nat → jR} {g : jR} {h : Int × jS → jR} {hF : Nat → Int × jS → jR} {r : Int × jS} (h1 : ∀ q, g = some q → jfin f q) (h2 : ∀ q, h q = some r → jfin (fun F => hF F q) r) (e : g.bind h = some r) : jfin (fun F => (f F).bind (hF F)) r := by
  rw [Option.bind_eq_some_iff] at e
  obtain ⟨q, e1, e2⟩ := e
  obtain ⟨F1, q1⟩ := h1 q e1
  obtain ⟨F2, q2⟩ := h2 q e2
  refine ⟨F1 + F2, fun F' hF' => ?_⟩
  dsimp only
  rw [q1 F' (by omega)]
  exact q2 F' (by omega)
theorem co_oBad  : jCon oBad := by
  intro a b t ce ceF pc loc st S k kF r hc hk h
  unfold oBad at h ⊢
  (repeat' split at h) <;> first | (cases h; done) | (obtain ⟨F, hF⟩ := hk _ _ _ _ _ h; refine ⟨F, fun F' h' => ?_⟩; (try dsimp only); (repeat (first | rw [if_pos (by assumption)] | rw [if_neg (by assumption)])); exact hF F' h') | (refine ⟨0, fun F' h' => ?_⟩; (try dsimp only); (repeat (first | rw [if_pos (by assumption)] | rw [if_neg (by assumption)])); exact h)
theorem co_oPush (t n : Nat) : jCon (oPush t n) := by
  intro a b t ce ceF pc loc st S k kF r hc hk h
  unfold oPush at h ⊢
  (repeat' split at h) <;> first | (cases h; done) | (obtain ⟨F, hF⟩ := hk _ _ _ _ _ h; refine ⟨F, fun F' h' => ?_⟩; (try dsimp only); (repeat (first | rw [if_pos (by assumption)] | rw [if_neg (by assumption)])); exact hF F' h') | (refine ⟨0, fun F' h' => ?_⟩; (try dsimp only); (repeat (first | rw [if_pos (by assumption)] | rw [if_neg (by assumption)])); exact h)
theorem co_oLoad (t n : Nat) : jCon (oLoad t n) := by
  intro a b t ce ceF pc loc st S k kF r hc hk h
  unfold oLoad at h ⊢
  (repeat' split at h) <;> first | (cases h; done) | (obtain ⟨F, hF⟩ := hk _ _ _ _ _ h; refine ⟨F, fun F' h' => ?_⟩; (try dsimp only); (repeat (first | rw [if_pos (by assumption)] | rw [if_neg (by assumption)])); exact hF F' h') | (refine ⟨0, fun F' h' => ?_⟩; (try dsimp only); (repeat (first | rw [if_pos (by assumption)] | rw [if_neg (by assumption)])); exact h)
theorem co_oALoad (n : Nat) : jCon (oALoad n) := by
  intro a b t ce ceF pc loc st S k kF r hc hk h
  unfold oALoad at h ⊢
  (repeat' split at h) <;> first | (cases h; done) | (obtain ⟨F, hF⟩ := hk _ _ _ _ _ h; refine ⟨F, fun F' h' => ?_⟩; (try dsimp only); (repeat (first | rw [if_pos (by assumption)] | rw [if_neg (by assumption)])); exact hF F' h') | (refine ⟨0, fun F' h' => ?_⟩; (try dsimp only); (repeat (first | rw [if_pos (by assumption)] | rw [if_neg (by assumption)])); exact h)
theorem co_oStore (n : Nat) : jCon (oStore n) := by
  intro a b t ce ceF pc loc st S k kF r hc hk h
  unfold oStore at h ⊢
  (repeat' split at h) <;> first | (cases h; done) | (obtain ⟨F, hF⟩ := hk _ _ _ _ _ h; refine ⟨F, fun F' h' => ?_⟩; (try dsimp only); (repeat (first | rw [if_pos (by assumption)] | rw [if_neg (by assumption)])); exact hF F' h') | (refine ⟨0, fun F' h' => ?_⟩; (try dsimp only); (repeat (first | rw [if_pos (by assumption)] | rw [if_neg (by assumption)])); exact h)
theorem co_oLStore (n : Nat) : jCon (oLStore n) := by
  intro a b t ce ceF pc loc st S k kF r hc hk h
  unfold oLStore at h ⊢
  (repeat' split at h) <;> first | (cases h; done) | (obtain ⟨F, hF⟩ := hk _ _ _ _ _ h; refine ⟨F, fun F' h' => ?_⟩; (try dsimp only); (repeat (first | rw [if_pos (by assumption)] | rw [if_neg (by assumption)])); exact hF F' h') | (refine ⟨0, fun F' h' => ?_⟩; (try dsimp only); (repeat (first | rw [if_pos (by assumption)] | rw [if_neg (by assumption)])); exact h)
theorem co_oAStore (n : Nat) : jCon (oAStore n) := by
  intro a b t ce ceF pc loc st S k kF r hc hk h
  unfold oAStore at h ⊢
  (repeat' split at h) <;> first | (cases h; done) | (obtain ⟨F, hF⟩ := hk _ _ _ _ _ h; refine ⟨F, fun F' h' => ?_⟩; (try dsimp only); (repeat (first | rw [if_pos (by assumption)] | rw [if_neg (by assumption)])); exact hF F' h') | (refine ⟨0, fun F' h' => ?_⟩; (try dsimp only); (repeat (first | rw [if_pos (by assumption)] | rw [if_neg (by assumption)])); exact h)
theorem co_oIinc  : jCon oIinc := by
  intro a b t ce ceF pc loc st S k kF r hc hk h
  unfold oIinc at h ⊢
  (repeat' split at h) <;> first | (cases h; done) | (obtain ⟨F, hF⟩ := hk _ _ _ _ _ h; refine ⟨F, fun F' h' => ?_⟩; (try dsimp only); (repeat (first | rw [if_pos (by assumption)] | rw [if_neg (by assumption)])); exact hF F' h') | (refine ⟨0, fun F' h' => ?_⟩; (try dsimp only); (repeat (first | rw [if_pos (by assumption)] | rw [if_neg (by assumption)])); exact h)
theorem co_oBin (f : Int → Int → Int) : jCon (oBin f) := by
  intro a b t ce ceF pc loc st S k kF r hc hk h
  unfold oBin at h ⊢
  (repeat' split at h) <;> first | (cases h; done) | (obtain ⟨F, hF⟩ := hk _ _ _ _ _ h; refine ⟨F, fun F' h' => ?_⟩; (try dsimp only); (repeat (first | rw [if_pos (by assumption)] | rw [if_neg (by assumption)])); exact hF F' h') | (refine ⟨0, fun F' h' => ?_⟩; (try dsimp only); (repeat (first | rw [if_pos (by assumption)] | rw [if_neg (by assumption)])); exact h)
theorem co_oDiv (f : Int → Int → Int) : jCon (oDiv f) := by
  intro a b t ce ceF pc loc st S k kF r hc hk h
  unfold oDiv at h ⊢
  (repeat' split at h) <;> first | (cases h; done) | (obtain ⟨F, hF⟩ := hk _ _ _ _ _ h; refine ⟨F, fun F' h' => ?_⟩; (try dsimp only); (repeat (first | rw [if_pos (by assumption)] | rw [if_neg (by assumption)])); exact hF F' h') | (refine ⟨0, fun F' h' => ?_⟩; (try dsimp only); (repeat (first | rw [if_pos (by assumption)] | rw [if_neg (by assumption)])); exact h)
theorem co_oBinL (f : Int → Int → Int) : jCon (oBinL f) := by
  intro a b t ce ceF pc loc st S k kF r hc hk h
  unfold oBinL at h ⊢
  (repeat' split at h) <;> first | (cases h; done) | (obtain ⟨F, hF⟩ := hk _ _ _ _ _ h; refine ⟨F, fun F' h' => ?_⟩; (try dsimp only); (repeat (first | rw [if_pos (by assumption)] | rw [if_neg (by assumption)])); exact hF F' h') | (refine ⟨0, fun F' h' => ?_⟩; (try dsimp only); (repeat (first | rw [if_pos (by assumption)] | rw [if_neg (by assumption)])); exact h)
theorem co_oDivL (f : Int → Int → Int) : jCon (oDivL f) := by
  intro a b t ce ceF pc loc st S k kF r hc hk h
  unfold oDivL at h ⊢
  (repeat' split at h) <;> first | (cases h; done) | (obtain ⟨F, hF⟩ := hk _ _ _ _ _ h; refine ⟨F, fun F' h' => ?_⟩; (try dsimp only); (repeat (first | rw [if_pos (by assumption)] | rw [if_neg (by assumption)])); exact hF F' h') | (refine ⟨0, fun F' h' => ?_⟩; (try dsimp only); (repeat (first | rw [if_pos (by assumption)] | rw [if_neg (by assumption)])); exact h)
theorem co_oShL (f : Int → Int → Int) : jCon (oShL f) := by
  intro a b t ce ceF pc loc st S k kF r hc hk h
  unfold oShL at h ⊢
  (repeat' split at h) <;> first | (cases h; done) | (obtain ⟨F, hF⟩ := hk _ _ _ _ _ h; refine ⟨F, fun F' h' => ?_⟩; (try dsimp only); (repeat (first | rw [if_pos (by assumption)] | rw [if_neg (by assumption)])); exact hF F' h') | (refine ⟨0, fun F' h' => ?_⟩; (try dsimp only); (repeat (first | rw [if_pos (by assumption)] | rw [if_neg (by assumption)])); exact h)
theorem co_oLcmp  : jCon oLcmp := by
  intro a b t ce ceF pc loc st S k kF r hc hk h
  unfold oLcmp at h ⊢
  (repeat' split at h) <;> first | (cases h; done) | (obtain ⟨F, hF⟩ := hk _ _ _ _ _ h; refine ⟨F, fun F' h' => ?_⟩; (try dsimp only); (repeat (first | rw [if_pos (by assumption)] | rw [if_neg (by assumption)])); exact hF F' h') | (refine ⟨0, fun F' h' => ?_⟩; (try dsimp only); (repeat (first | rw [if_pos (by assumption)] | rw [if_neg (by assumption)])); exact h)
theorem co_oI2l  : jCon oI2l := by
  intro a b t ce ceF pc loc st S k kF r hc hk h
  unfold oI2l at h ⊢
  (repeat' split at h) <;> first | (cases h; done) | (obtain ⟨F, hF⟩ := hk _ _ _ _ _ h; refine ⟨F, fun F' h' => ?_⟩; (try dsimp only); (repeat (first | rw [if_pos (by assumption)] | rw [if_neg (by assumption)])); exact hF F' h') | (refine ⟨0, fun F' h' => ?_⟩; (try dsimp only); (repeat (first | rw [if_pos (by assumption)] | rw [if_neg (by assumption)])); exact h)
theorem co_oL2i  : jCon oL2i := by
  intro a b t ce ceF pc loc st S k kF r hc hk h
  unfold oL2i at h ⊢
  (repeat' split at h) <;> first | (cases h; done) | (obtain ⟨F, hF⟩ := hk _ _ _ _ _ h; refine ⟨F, fun F' h' => ?_⟩; (try dsimp only); (repeat (first | rw [if_pos (by assumption)] | rw [if_neg (by assumption)])); exact hF F' h') | (refine ⟨0, fun F' h' => ?_⟩; (try dsimp only); (repeat (first | rw [if_pos (by assumption)] | rw [if_neg (by assumption)])); exact h)
theorem co_oIneg  : jCon oIneg := by
  intro a b t ce ceF pc loc st S k kF r hc hk h
  unfold oIneg at h ⊢
  (repeat' split at h) <;> first | (cases h; done) | (obtain ⟨F, hF⟩ := hk _ _ _ _ _ h; refine ⟨F, fun F' h' => ?_⟩; (try dsimp only); (repeat (first | rw [if_pos (by assumption)] | rw [if_neg (by assumption)])); exact hF F' h') | (refine ⟨0, fun F' h' => ?_⟩; (try dsimp only); (repeat (first | rw [if_pos (by assumption)] | rw [if_neg (by assumption)])); exact h)
theorem co_oDup  : jCon oDup := by
  intro a b t ce ceF pc loc st S k kF r hc hk h
  unfold oDup at h ⊢
  (repeat' split at h) <;> first | (cases h; done) | (obtain ⟨F, hF⟩ := hk _ _ _ _ _ h; refine ⟨F, fun F' h' => ?_⟩; (try dsimp only); (repeat (first | rw [if_pos (by assumption)] | rw [if_neg (by assumption)])); exact hF F' h') | (refine ⟨0, fun F' h' => ?_⟩; (try dsimp only); (repeat (first | rw [if_pos (by assumption)] | rw [if_neg (by assumption)])); exact h)
theorem co_oDup2  : jCon oDup2 := by
  intro a b t ce ceF pc loc st S k kF r hc hk h
  unfold oDup2 at h ⊢
  (repeat' split at h) <;> first | (cases h; done) | (obtain ⟨F, hF⟩ := hk _ _ _ _ _ h; refine ⟨F, fun F' h' => ?_⟩; (try dsimp only); (repeat (first | rw [if_pos (by assumption)] | rw [if_neg (by assumption)])); exact hF F' h') | (refine ⟨0, fun F' h' => ?_⟩; (try dsimp only); (repeat (first | rw [if_pos (by assumption)] | rw [if_neg (by assumption)])); exact h)
theorem co_oPop  : jCon oPop := by
  intro a b t ce ceF pc loc st S k kF r hc hk h
  unfold oPop at h ⊢
  (repeat' split at h) <;> first | (cases h; done) | (obtain ⟨F, hF⟩ := hk _ _ _ _ _ h; refine ⟨F, fun F' h' => ?_⟩; (try dsimp only); (repeat (first | rw [if_pos (by assumption)] | rw [if_neg (by assumption)])); exact hF F' h') | (refine ⟨0, fun F' h' => ?_⟩; (try dsimp only); (repeat (first | rw [if_pos (by assumption)] | rw [if_neg (by assumption)])); exact h)
theorem co_oIfEq  : jCon oIfEq := by
  intro a b t ce ceF pc loc st S k kF r hc hk h
  unfold oIfEq at h ⊢
  (repeat' split at h) <;> first | (cases h; done) | (obtain ⟨F, hF⟩ := hk _ _ _ _ _ h; refine ⟨F, fun F' h' => ?_⟩; (try dsimp only); (repeat (first | rw [if_pos (by assumption)] | rw [if_neg (by assumption)])); exact hF F' h') | (refine ⟨0, fun F' h' => ?_⟩; (try dsimp only); (repeat (first | rw [if_pos (by assumption)] | rw [if_neg (by assumption)])); exact h)
theorem co_oIfNe  : jCon oIfNe := by
  intro a b t ce ceF pc loc st S k kF r hc hk h
  unfold oIfNe at h ⊢
  (repeat' split at h) <;> first | (cases h; done) | (obtain ⟨F, hF⟩ := hk _ _ _ _ _ h; refine ⟨F, fun F' h' => ?_⟩; (try dsimp only); (repeat (first | rw [if_pos (by assumption)] | rw [if_neg (by assumption)])); exact hF F' h') | (refine ⟨0, fun F' h' => ?_⟩; (try dsimp only); (repeat (first | rw [if_pos (by assumption)] | rw [if_neg (by assumption)])); exact h)
theorem co_oIfLt  : jCon oIfLt := by
  intro a b t ce ceF pc loc st S k kF r hc hk h
  unfold oIfLt at h ⊢
  (repeat' split at h) <;> first | (cases h; done) | (obtain ⟨F, hF⟩ := hk _ _ _ _ _ h; refine ⟨F, fun F' h' => ?_⟩; (try dsimp only); (repeat (first | rw [if_pos (by assumption)] | rw [if_neg (by assumption)])); exact hF F' h') | (refine ⟨0, fun F' h' => ?_⟩; (try dsimp only); (repeat (first | rw [if_pos (by assumption)] | rw [if_neg (by assumption)])); exact h)
theorem co_oIfGe  : jCon oIfGe := by
  intro a b t ce ceF pc loc st S k kF r hc hk h
  unfold oIfGe at h ⊢
  (repeat' split at h) <;> first | (cases h; done) | (obtain ⟨F, hF⟩ := hk _ _ _ _ _ h; refine ⟨F, fun F' h' => ?_⟩; (try dsimp only); (repeat (first | rw [if_pos (by assumption)] | rw [if_neg (by assumption)])); exact hF F' h') | (refine ⟨0, fun F' h' => ?_⟩; (try dsimp only); (repeat (first | rw [if_pos (by assumption)] | rw [if_neg (by assumption)])); exact h)
theorem co_oIfGt  : jCon oIfGt := by
  intro a b t ce ceF pc loc st S k kF r hc hk h
  unfold oIfGt at h ⊢
  (repeat' split at h) <;> first | (cases h; done) | (obtain ⟨F, hF⟩ := hk _ _ _ _ _ h; refine ⟨F, fun F' h' => ?_⟩; (try dsimp only); (repeat (first | rw [if_pos (by assumption)] | rw [if_neg (by assumption)])); exact hF F' h') | (refine ⟨0, fun F' h' => ?_⟩; (try dsimp only); (repeat (first | rw [if_pos (by assumption)] | rw [if_neg (by assumption)])); exact h)
theorem co_oIfLe  : jCon oIfLe := by
  intro a b t ce ceF pc loc st S k kF r hc hk h
  unfold oIfLe at h ⊢
  (repeat' split at h) <;> first | (cases h; done) | (obtain ⟨F, hF⟩ := hk _ _ _ _ _ h; refine ⟨F, fun F' h' => ?_⟩; (try dsimp only); (repeat (first | rw [if_pos (by assumption)] | rw [if_neg (by assumption)])); exact hF F' h') | (refine ⟨0, fun F' h' => ?_⟩; (try dsimp only); (repeat (first | rw [if_pos (by assumption)] | rw [if_neg (by assumption)])); exact h)
theorem co_oIcEq  : jCon oIcEq := by
  intro a b t ce ceF pc loc st S k kF r hc hk h
  unfold oIcEq at h ⊢
  (repeat' split at h) <;> first | (cases h; done) | (obtain ⟨F, hF⟩ := hk _ _ _ _ _ h; refine ⟨F, fun F' h' => ?_⟩; (try dsimp only); (repeat (first | rw [if_pos (by assumption)] | rw [if_neg (by assumption)])); exact hF F' h') | (refine ⟨0, fun F' h' => ?_⟩; (try dsimp only); (repeat (first | rw [if_pos (by assumption)] | rw [if_neg (by assumption)])); exact h)
theorem co_oIcNe  : jCon oIcNe := by
  intro a b t ce ceF pc loc st S k kF r hc hk h
  unfold oIcNe at h ⊢
  (repeat' split at h) <;> first | (cases h; done) | (obtain ⟨F, hF⟩ := hk _ _ _ _ _ h; refine ⟨F, fun F' h' => ?_⟩; (try dsimp only); (repeat (first | rw [if_pos (by assumption)] | rw [if_neg (by assumption)])); exact hF F' h') | (refine ⟨0, fun F' h' => ?_⟩; (try dsimp only); (repeat (first | rw [if_pos (by assumption)] | rw [if_neg (by assumption)])); exact h)
theorem co_oIcLt  : jCon oIcLt := by
  intro a b t ce ceF pc loc st S k kF r hc hk h
  unfold oIcLt at h ⊢
  (repeat' split at h) <;> first | (cases h; done) | (obtain ⟨F, hF⟩ := hk _ _ _ _ _ h; refine ⟨F, fun F' h' => ?_⟩; (try dsimp only); (repeat (first | rw [if_pos (by assumption)] | rw [if_neg (by assumption)])); exact hF F' h') | (refine ⟨0, fun F' h' => ?_⟩; (try dsimp only); (repeat (first | rw [if_pos (by assumption)] | rw [if_neg (by assumption)])); exact h)
theorem co_oIcGe  : jCon oIcGe := by
  intro a b t ce ceF pc loc st S k kF r hc hk h
  unfold oIcGe at h ⊢
  (repeat' split at h) <;> first | (cases h; done) | (obtain ⟨F, hF⟩ := hk _ _ _ _ _ h; refine ⟨F, fun F' h' => ?_⟩; (try dsimp only); (repeat (first | rw [if_pos (by assumption)] | rw [if_neg (by assumption)])); exact hF F' h') | (refine ⟨0, fun F' h' => ?_⟩; (try dsimp only); (repeat (first | rw [if_pos (by assumption)] | rw [if_neg (by assumption)])); exact h)
theorem co_oIcGt  : jCon oIcGt := by
  intro a b t ce ceF pc loc st S k kF r hc hk h
  unfold oIcGt at h ⊢
  (repeat' split at h) <;> first | (cases h; done) | (obtain ⟨F, hF⟩ := hk _ _ _ _ _ h; refine ⟨F, fun F' h' => ?_⟩; (try dsimp only); (repeat (first | rw [if_pos (by assumption)] | rw [if_neg (by assumption)])); exact hF F' h') | (refine ⟨0, fun F' h' => ?_⟩; (try dsimp only); (repeat (first | rw [if_pos (by assumption)] | rw [if_neg (by assumption)])); exact h)
theorem co_oIcLe  : jCon oIcLe := by
  intro a b t ce ceF pc loc st S k kF r hc hk h
  unfold oIcLe at h ⊢
  (repeat' split at h) <;> first | (cases h; done) | (obtain ⟨F, hF⟩ := hk _ _ _ _ _ h; refine ⟨F, fun F' h' => ?_⟩; (try dsimp only); (repeat (first | rw [if_pos (by assumption)] | rw [if_neg (by assumption)])); exact hF F' h') | (refine ⟨0, fun F' h' => ?_⟩; (try dsimp only); (repeat (first | rw [if_pos (by assumption)] | rw [if_neg (by assumption)])); exact h)
theorem co_oGoto  : jCon oGoto := by
  intro a b t ce ceF pc loc st S k kF r hc hk h
  unfold oGoto at h ⊢
  (repeat' split at h) <;> first | (cases h; done) | (obtain ⟨F, hF⟩ := hk _ _ _ _ _ h; refine ⟨F, fun F' h' => ?_⟩; (try dsimp only); (repeat (first | rw [if_pos (by assumption)] | rw [if_neg (by assumption)])); exact hF F' h') | (refine ⟨0, fun F' h' => ?_⟩; (try dsimp only); (repeat (first | rw [if_pos (by assumption)] | rw [if_neg (by assumption)])); exact h)
theorem co_oIfNN  : jCon oIfNN := by
  intro a b t ce ceF pc loc st S k kF r hc hk h
  unfold oIfNN at h ⊢
  (repeat' split at h) <;> first | (cases h; done) | (obtain ⟨F, hF⟩ := hk _ _ _ _ _ h; refine ⟨F, fun F' h' => ?_⟩; (try dsimp only); (repeat (first | rw [if_pos (by assumption)] | rw [if_neg (by assumption)])); exact hF F' h') | (refine ⟨0, fun F' h' => ?_⟩; (try dsimp only); (repeat (first | rw [if_pos (by assumption)] | rw [if_neg (by assumption)])); exact h)
theorem co_oGet  : jCon oGet := by
  intro a b t ce ceF pc loc st S k kF r hc hk h
  unfold oGet at h ⊢
  (repeat' split at h) <;> first | (cases h; done) | (obtain ⟨F, hF⟩ := hk _ _ _ _ _ h; refine ⟨F, fun F' h' => ?_⟩; (try dsimp only); (repeat (first | rw [if_pos (by assumption)] | rw [if_neg (by assumption)])); exact hF F' h') | (refine ⟨0, fun F' h' => ?_⟩; (try dsimp only); (repeat (first | rw [if_pos (by assumption)] | rw [if_neg (by assumption)])); exact h)
theorem co_oGetR  : jCon oGetR := by
  intro a b t ce ceF pc loc st S k kF r hc hk h
  unfold oGetR at h ⊢
  (repeat' split at h) <;> first | (cases h; done) | (obtain ⟨F, hF⟩ := hk _ _ _ _ _ h; refine ⟨F, fun F' h' => ?_⟩; (try dsimp only); (repeat (first | rw [if_pos (by assumption)] | rw [if_neg (by assumption)])); exact hF F' h') | (refine ⟨0, fun F' h' => ?_⟩; (try dsimp only); (repeat (first | rw [if_pos (by assumption)] | rw [if_neg (by assumption)])); exact h)
theorem co_oPut  : jCon oPut := by
  intro a b t ce ceF pc loc st S k kF r hc hk h
  unfold oPut at h ⊢
  (repeat' split at h) <;> first | (cases h; done) | (obtain ⟨F, hF⟩ := hk _ _ _ _ _ h; refine ⟨F, fun F' h' => ?_⟩; (try dsimp only); (repeat (first | rw [if_pos (by assumption)] | rw [if_neg (by assumption)])); exact hF F' h') | (refine ⟨0, fun F' h' => ?_⟩; (try dsimp only); (repeat (first | rw [if_pos (by assumption)] | rw [if_neg (by assumption)])); exact h)
theorem co_oPutZ  : jCon oPutZ := by
  intro a b t ce ceF pc loc st S k kF r hc hk h
  unfold oPutZ at h ⊢
  (repeat' split at h) <;> first | (cases h; done) | (obtain ⟨F, hF⟩ := hk _ _ _ _ _ h; refine ⟨F, fun F' h' => ?_⟩; (try dsimp only); (repeat (first | rw [if_pos (by assumption)] | rw [if_neg (by assumption)])); exact hF F' h') | (refine ⟨0, fun F' h' => ?_⟩; (try dsimp only); (repeat (first | rw [if_pos (by assumption)] | rw [if_neg (by assumption)])); exact h)
theorem co_oPutR  : jCon oPutR := by
  intro a b t ce ceF pc loc st S k kF r hc hk h
  unfold oPutR at h ⊢
  (repeat' split at h) <;> first | (cases h; done) | (obtain ⟨F, hF⟩ := hk _ _ _ _ _ h; refine ⟨F, fun F' h' => ?_⟩; (try dsimp only); (repeat (first | rw [if_pos (by assumption)] | rw [if_neg (by assumption)])); exact hF F' h') | (refine ⟨0, fun F' h' => ?_⟩; (try dsimp only); (repeat (first | rw [if_pos (by assumption)] | rw [if_neg (by assumption)])); exact h)
theorem co_oCst  : jCon oCst := by
  intro a b t ce ceF pc loc st S k kF r hc hk h
  unfold oCst at h ⊢
  (repeat' split at h) <;> first | (cases h; done) | (obtain ⟨F, hF⟩ := hk _ _ _ _ _ h; refine ⟨F, fun F' h' => ?_⟩; (try dsimp only); (repeat (first | rw [if_pos (by assumption)] | rw [if_neg (by assumption)])); exact hF F' h') | (refine ⟨0, fun F' h' => ?_⟩; (try dsimp only); (repeat (first | rw [if_pos (by assumption)] | rw [if_neg (by assumption)])); exact h)
theorem co_oZst  : jCon oZst := by
  intro a b t ce ceF pc loc st S k kF r hc hk h
  unfold oZst at h ⊢
  (repeat' split at h) <;> first | (cases h; done) | (obtain ⟨F, hF⟩ := hk _ _ _ _ _ h; refine ⟨F, fun F' h' => ?_⟩; (try dsimp only); (repeat (first | rw [if_pos (by assumption)] | rw [if_neg (by assumption)])); exact hF F' h') | (refine ⟨0, fun F' h' => ?_⟩; (try dsimp only); (repeat (first | rw [if_pos (by assumption)] | rw [if_neg (by assumption)])); exact h)
theorem co_oAald  : jCon oAald := by
  intro a b t ce ceF pc loc st S k kF r hc hk h
  unfold oAald at h ⊢
  (repeat' split at h) <;> first | (cases h; done) | (obtain ⟨F, hF⟩ := hk _ _ _ _ _ h; refine ⟨F, fun F' h' => ?_⟩; (try dsimp only); (repeat (first | rw [if_pos (by assumption)] | rw [if_neg (by assumption)])); exact hF F' h') | (refine ⟨0, fun F' h' => ?_⟩; (try dsimp only); (repeat (first | rw [if_pos (by assumption)] | rw [if_neg (by assumption)])); exact h)
theorem co_oAast  : jCon oAast := by
  intro a b t ce ceF pc loc st S k kF r hc hk h
  unfold oAast at h ⊢
  (repeat' split at h) <;> first | (cases h; done) | (obtain ⟨F, hF⟩ := hk _ _ _ _ _ h; refine ⟨F, fun F' h' => ?_⟩; (try dsimp only); (repeat (first | rw [if_pos (by assumption)] | rw [if_neg (by assumption)])); exact hF F' h') | (refine ⟨0, fun F' h' => ?_⟩; (try dsimp only); (repeat (first | rw [if_pos (by assumption)] | rw [if_neg (by assumption)])); exact h)
theorem co_oLen  : jCon oLen := by
  intro a b t ce ceF pc loc st S k kF r hc hk h
  unfold oLen at h ⊢
  (repeat' split at h) <;> first | (cases h; done) | (obtain ⟨F, hF⟩ := hk _ _ _ _ _ h; refine ⟨F, fun F' h' => ?_⟩; (try dsimp only); (repeat (first | rw [if_pos (by assumption)] | rw [if_neg (by assumption)])); exact hF F' h') | (refine ⟨0, fun F' h' => ?_⟩; (try dsimp only); (repeat (first | rw [if_pos (by assumption)] | rw [if_neg (by assumption)])); exact h)
theorem co_oNew  : jCon oNew := by
  intro a b t ce ceF pc loc st S k kF r hc hk h
  unfold oNew at h ⊢
  (repeat' split at h) <;> first | (cases h; done) | (obtain ⟨F, hF⟩ := hk _ _ _ _ _ h; refine ⟨F, fun F' h' => ?_⟩; (try dsimp only); (repeat (first | rw [if_pos (by assumption)] | rw [if_neg (by assumption)])); exact hF F' h') | (refine ⟨0, fun F' h' => ?_⟩; (try dsimp only); (repeat (first | rw [if_pos (by assumption)] | rw [if_neg (by assumption)])); exact h)
theorem co_oMulti  : jCon oMulti := by
  intro a b t ce ceF pc loc st S k kF r hc hk h
  unfold oMulti at h ⊢
  (repeat' split at h) <;> first | (cases h; done) | (obtain ⟨F, hF⟩ := hk _ _ _ _ _ h; refine ⟨F, fun F' h' => ?_⟩; (try dsimp only); (repeat (first | rw [if_pos (by assumption)] | rw [if_neg (by assumption)])); exact hF F' h') | (refine ⟨0, fun F' h' => ?_⟩; (try dsimp only); (repeat (first | rw [if_pos (by assumption)] | rw [if_neg (by assumption)])); exact h)
theorem co_oObj  : jCon oObj := by
  intro a b t ce ceF pc loc st S k kF r hc hk h
  unfold oObj at h ⊢
  (repeat' split at h) <;> first | (cases h; done) | (obtain ⟨F, hF⟩ := hk _ _ _ _ _ h; refine ⟨F, fun F' h' => ?_⟩; (try dsimp only); (repeat (first | rw [if_pos (by assumption)] | rw [if_neg (by assumption)])); exact hF F' h') | (refine ⟨0, fun F' h' => ?_⟩; (try dsimp only); (repeat (first | rw [if_pos (by assumption)] | rw [if_neg (by assumption)])); exact h)
theorem co_oRetR  : jCon oRetR := by
  intro a b t ce ceF pc loc st S k kF r hc hk h
  unfold oRetR at h ⊢
  (repeat' split at h) <;> first | (cases h; done) | (obtain ⟨F, hF⟩ := hk _ _ _ _ _ h; refine ⟨F, fun F' h' => ?_⟩; (try dsimp only); (repeat (first | rw [if_pos (by assumption)] | rw [if_neg (by assumption)])); exact hF F' h') | (refine ⟨0, fun F' h' => ?_⟩; (try dsimp only); (repeat (first | rw [if_pos (by assumption)] | rw [if_neg (by assumption)])); exact h)
theorem co_oRetZ  : jCon oRetZ := by
  intro a b t ce ceF pc loc st S k kF r hc hk h
  unfold oRetZ at h ⊢
  (repeat' split at h) <;> first | (cases h; done) | (obtain ⟨F, hF⟩ := hk _ _ _ _ _ h; refine ⟨F, fun F' h' => ?_⟩; (try dsimp only); (repeat (first | rw [if_pos (by assumption)] | rw [if_neg (by assumption)])); exact hF F' h') | (refine ⟨0, fun F' h' => ?_⟩; (try dsimp only); (repeat (first | rw [if_pos (by assumption)] | rw [if_neg (by assumption)])); exact h)
theorem co_oRetV  : jCon oRetV := by
  intro a b t ce ceF pc loc st S k kF r hc hk h
  unfold oRetV at h ⊢
  (repeat' split at h) <;> first | (cases h; done) | (obtain ⟨F, hF⟩ := hk _ _ _ _ _ h; refine ⟨F, fun F' h' => ?_⟩; (try dsimp only); (repeat (first | rw [if_pos (by assumption)] | rw [if_neg (by assumption)])); exact hF F' h') | (refine ⟨0, fun F' h' => ?_⟩; (try dsimp only); (repeat (first | rw [if_pos (by assumption)] | rw [if_neg (by assumption)])); exact h)
theorem co_oCopy  : jCon oCopy := by
  intro a b t ce ceF pc loc st S k kF r hc hk h
  unfold oCopy at h ⊢
  (repeat' split at h) <;> first | (cases h; done) | (obtain ⟨F, hF⟩ := hk _ _ _ _ _ h; refine ⟨F, fun F' h' => ?_⟩; (try dsimp only); (repeat (first | rw [if_pos (by assumption)] | rw [if_neg (by assumption)])); exact hF F' h') | (refine ⟨0, fun F' h' => ?_⟩; (try dsimp only); (repeat (first | rw [if_pos (by assumption)] | rw [if_neg (by assumption)])); exact h)
theorem co_oLdcS  : jCon oLdcS := by
  intro a b t ce ceF pc loc st S k kF r hc hk h
  unfold oLdcS at h ⊢
  (repeat' split at h) <;> first | (cases h; done) | (obtain ⟨F, hF⟩ := hk _ _ _ _ _ h; refine ⟨F, fun F' h' => ?_⟩; (try dsimp only); (repeat (first | rw [if_pos (by assumption)] | rw [if_neg (by assumption)])); exact hF F' h') | (refine ⟨0, fun F' h' => ?_⟩; (try dsimp only); (repeat (first | rw [if_pos (by assumption)] | rw [if_neg (by assumption)])); exact h)
theorem co_oSLen  : jCon oSLen := by
  intro a b t ce ceF pc loc st S k kF r hc hk h
  unfold oSLen at h ⊢
  (repeat' split at h) <;> first | (cases h; done) | (obtain ⟨F, hF⟩ := hk _ _ _ _ _ h; refine ⟨F, fun F' h' => ?_⟩; (try dsimp only); (repeat (first | rw [if_pos (by assumption)] | rw [if_neg (by assumption)])); exact hF F' h') | (refine ⟨0, fun F' h' => ?_⟩; (try dsimp only); (repeat (first | rw [if_pos (by assumption)] | rw [if_neg (by assumption)])); exact h)
theorem co_oSChr  : jCon oSChr := by
  intro a b t ce ceF pc loc st S k kF r hc hk h
  unfold oSChr at h ⊢
  (repeat' split at h) <;> first | (cases h; done) | (obtain ⟨F, hF⟩ := hk _ _ _ _ _ h; refine ⟨F, fun F' h' => ?_⟩; (try dsimp only); (repeat (first | rw [if_pos (by assumption)] | rw [if_neg (by assumption)])); exact hF F' h') | (refine ⟨0, fun F' h' => ?_⟩; (try dsimp only); (repeat (first | rw [if_pos (by assumption)] | rw [if_neg (by assumption)])); exact h)
theorem co_oAld (ta tv : Nat) : jCon (oAld ta tv) := by
  intro a b t ce ceF pc loc st S k kF r hc hk h
  unfold oAld at h ⊢
  (repeat' split at h) <;> first | (cases h; done) | (obtain ⟨F, hF⟩ := hk _ _ _ _ _ h; refine ⟨F, fun F' h' => ?_⟩; (try dsimp only); (repeat (first | rw [if_pos (by assumption)] | rw [if_neg (by assumption)])); exact hF F' h') | (refine ⟨0, fun F' h' => ?_⟩; (try dsimp only); (repeat (first | rw [if_pos (by assumption)] | rw [if_neg (by assumption)])); exact h)
theorem co_oAst (ta tv : Nat) : jCon (oAst ta tv) := by
  intro a b t ce ceF pc loc st S k kF r hc hk h
  unfold oAst at h ⊢
  (repeat' split at h) <;> first | (cases h; done) | (obtain ⟨F, hF⟩ := hk _ _ _ _ _ h; refine ⟨F, fun F' h' => ?_⟩; (try dsimp only); (repeat (first | rw [if_pos (by assumption)] | rw [if_neg (by assumption)])); exact hF F' h') | (refine ⟨0, fun F' h' => ?_⟩; (try dsimp only); (repeat (first | rw [if_pos (by assumption)] | rw [if_neg (by assumption)])); exact h)
theorem co_oNewA (n : Nat) : jCon (oNewA n) := by
  intro a b t ce ceF pc loc st S k kF r hc hk h
  unfold oNewA at h ⊢
  (repeat' split at h) <;> first | (cases h; done) | (obtain ⟨F, hF⟩ := hk _ _ _ _ _ h; refine ⟨F, fun F' h' => ?_⟩; (try dsimp only); (repeat (first | rw [if_pos (by assumption)] | rw [if_neg (by assumption)])); exact hF F' h') | (refine ⟨0, fun F' h' => ?_⟩; (try dsimp only); (repeat (first | rw [if_pos (by assumption)] | rw [if_neg (by assumption)])); exact h)
theorem co_oRet (t : Nat) : jCon (oRet t) := by
  intro a b t ce ceF pc loc st S k kF r hc hk h
  unfold oRet at h ⊢
  (repeat' split at h) <;> first | (cases h; done) | (obtain ⟨F, hF⟩ := hk _ _ _ _ _ h; refine ⟨F, fun F' h' => ?_⟩; (try dsimp only); (repeat (first | rw [if_pos (by assumption)] | rw [if_neg (by assumption)])); exact hF F' h') | (refine ⟨0, fun F' h' => ?_⟩; (try dsimp only); (repeat (first | rw [if_pos (by assumption)] | rw [if_neg (by assumption)])); exact h)
theorem jsw_con {k : Nat → jR} {kF : Nat → Nat → jR} {z d : Int} {r : Int × jS} (hk : ∀ t, k t = some r → jfin (fun F => kF F t) r) : ∀ (l : List Int) (lo : Int), jsw k z d lo l = some r → jfin (fun F => jsw (kF F) z d lo l) r
  | [], _, h => hk _ h
  | t :: l, lo, h => by
    unfold jsw at h ⊢
    split at h
    · rename_i e
      simp only [if_pos e]
      exact hk _ h
    · rename_i e
      simp only [if_neg e]
      exact jsw_con hk l (lo + 1) h
theorem jlk_con {k : Nat → jR} {kF : Nat → Nat → jR} {z d : Int} {r : Int × jS} (hk : ∀ t, k t = some r → jfin (fun F => kF F t) r) : ∀ (l : List Int), jlk k z d l = some r → jfin (fun F => jlk (kF F) z d l) r
  | [], h => hk _ h
  | [_], h => hk _ h
  | x :: t :: l, h => by
    unfold jlk at h ⊢
    split at h
    · rename_i e
      simp only [if_pos e]
      exact hk _ h
    · rename_i e
      simp only [if_neg e]
      exact jlk_con hk l h
theorem co_oTab : jCon oTab := by
  intro a b t ce ceF pc loc st S k kF r hc hk h
  unfold oTab at h ⊢
  split at h
  · exact jsw_con (kF := fun F t => kF F t loc _ S) (fun t h => hk _ _ _ _ _ h) _ _ h
  · cases h
theorem co_oLook : jCon oLook := by
  intro a b t ce ceF pc loc st S k kF r hc hk h
  unfold oLook at h ⊢
  split at h
  · exact jlk_con (kF := fun F t => kF F t loc _ S) (fun t h => hk _ _ _ _ _ h) _ h
  · cases h
theorem co_oCall : jCon oCall := by
  intro a b t ce ceF pc loc st S k kF r hc hk h
  unfold oCall at h ⊢
  split at h
  case isFalse => cases h
  split at h
  case isFalse => cases h
  rename_i h1 h2
  simp only [if_pos h1, if_pos h2]
  exact jfin_bind (fun q e => hc _ _ _ _ e) (fun q e => hk _ _ _ _ _ e) h
theorem co_oCallV : jCon oCallV := by
  intro a b t ce ceF pc loc st S k kF r hc hk h
  unfold oCallV at h ⊢
  split at h
  case h_2 => cases h
  split at h
  case isFalse => cases h
  split at h
  case isFalse => cases h
  rename_i h1 h2
  simp only [if_pos h1, if_pos h2]
  exact co_oCall a b t ce ceF pc loc st S k kF r hc hk h
theorem co_oSld : jCon oSld := by
  intro a b t ce ceF pc loc st S k kF r hc hk h
  unfold oSld at h ⊢
  split at h
  case h_2 => cases h
  split at h
  case isFalse => cases h
  split at h
  case isFalse => cases h
  rename_i h1 h2
  simp only [if_pos h1, if_pos h2]
  exact jfin_bind (fun q e => hc _ _ _ _ e) (fun q e => hk _ _ _ _ _ e) h
theorem co_oSlen : jCon oSlen := by
  intro a b t ce ceF pc loc st S k kF r hc hk h
  unfold oSlen at h ⊢
  split at h
  case h_2 => cases h
  split at h
  case isFalse => cases h
  split at h
  case isFalse => cases h
  rename_i h1 h2
  simp only [if_pos h1, if_pos h2]
  exact jfin_bind (fun q e => hc _ _ _ _ e) (fun q e => hk _ _ _ _ _ e) h
theorem co_all : ∀ n : Nat, jCon (jops.getD n oBad)
  | 0 => co_oBad
  | 1 => co_oPush 0 1
  | 2 => co_oPush 0 2
  | 3 => co_oPush 0 3
  | 4 => co_oPush 0 2
  | 5 => co_oPush 0 3
  | 6 => co_oPush 1 1
  | 7 => co_oPush 1 3
  | 8 => co_oLoad 0 1
  | 9 => co_oLoad 0 2
  | 10 => co_oLoad 1 1
  | 11 => co_oLoad 1 2
  | 12 => co_oALoad 1
  | 13 => co_oALoad 2
  | 14 => co_oStore 1
  | 15 => co_oStore 2
  | 16 => co_oLStore 1
  | 17 => co_oLStore 2
  | 18 => co_oAStore 1
  | 19 => co_oAStore 2
  | 20 => co_oIinc
  | 21 => co_oBin jadd
  | 22 => co_oBin jsub
  | 23 => co_oBin jmul
  | 24 => co_oDiv jdiv
  | 25 => co_oDiv jrem
  | 26 => co_oIneg
  | 27 => co_oBin iShl
  | 28 => co_oBin iShr
  | 29 => co_oBin iUshr
  | 30 => co_oBin iAnd
  | 31 => co_oBin iOr
  | 32 => co_oBin iXor
  | 33 => co_oBinL ladd
  | 34 => co_oBinL lsub
  | 35 => co_oBinL lmul
  | 36 => co_oDivL ldiv
  | 37 => co_oDivL lrem
  | 38 => co_oBinL lAnd
  | 39 => co_oBinL lOr
  | 40 => co_oShL lShl
  | 41 => co_oShL lShr
  | 42 => co_oLcmp
  | 43 => co_oI2l
  | 44 => co_oL2i
  | 45 => co_oDup
  | 46 => co_oDup2
  | 47 => co_oPop
  | 48 => co_oIfEq
  | 49 => co_oIfNe
  | 50 => co_oIfLt
  | 51 => co_oIfGe
  | 52 => co_oIfGt
  | 53 => co_oIfLe
  | 54 => co_oIcEq
  | 55 => co_oIcNe
  | 56 => co_oIcLt
  | 57 => co_oIcGe
  | 58 => co_oIcGt
  | 59 => co_oIcLe
  | 60 => co_oGoto
  | 61 => co_oIfNN
  | 62 => co_oTab
  | 63 => co_oLook
  | 64 => co_oGet
  | 65 => co_oGetR
  | 66 => co_oPut
  | 67 => co_oPutZ
  | 68 => co_oPutR
  | 69 => co_oPutR
  | 70 => co_oAld 24 0
  | 71 => co_oAld 25 1
  | 72 => co_oAld 26 0
  | 73 => co_oAld 23 0
  | 74 => co_oAald
  | 75 => co_oAst 24 0
  | 76 => co_oAst 25 1
  | 77 => co_oZst
  | 78 => co_oCst
  | 79 => co_oAast
  | 80 => co_oLen
  | 81 => co_oNew
  | 82 => co_oNewA 2
  | 83 => co_oNewA 3
  | 84 => co_oMulti
  | 85 => co_oCallV
  | 86 => co_oCallV
  | 87 => co_oCallV
  | 88 => co_oCallV
  | 89 => co_oCall
  | 90 => co_oObj
  | 91 => co_oRet 0
  | 92 => co_oRet 1
  | 93 => co_oRetR
  | 94 => co_oRetZ
  | 95 => co_oRetV
  | 96 => co_oPush 24 1
  | 97 => co_oCopy
  | 98 => co_oLdcS
  | 99 => co_oSLen
  | 100 => co_oSChr
  | 101 => co_oSld
  | 102 => co_oSlen
  | n + 103 => co_oBad
/-- a method, at most d calls deep -/
noncomputable def jD (d : Nat) : jC := fun m args S => jlim (fun F => jeva F d m args S)
/-- .. from a place in its code on -/
noncomputable def jN (d m : Nat) : jT := fun pc loc st S => jlim (fun F => jrun (jeva F d) (jcd m) F pc loc st S)
theorem jD_m (d m : Nat) (args : List jV) (S : jS) : ∀ F F' : Nat, F ≤ F' → jle (jeva F d m args S) (jeva F' d m args S) := fun F F' h => jeva_mono h d d (Nat.le_refl d) m args S
theorem jN_m (d m pc : Nat) (loc st : List jV) (S : jS) : ∀ F F' : Nat, F ≤ F' → jle (jrun (jeva F d) (jcd m) F pc loc st S) (jrun (jeva F' d) (jcd m) F' pc loc st S) := fun F F' h => jrun_mono (jeva_mono h d d (Nat.le_refl d)) F F' h pc loc st S
theorem jD_fin {d m : Nat} {args : List jV} {S : jS} {r : Int × jS} (h : jD d m args S = some r) : jfin (fun F => jeva F d m args S) r := by
  obtain ⟨F, hF⟩ := jlim_ex h
  exact ⟨F, fun F' h' => jD_m d m args S F F' h' r hF⟩
theorem jN_fin {d m pc : Nat} {loc st : List jV} {S : jS} {r : Int × jS} (h : jN d m pc loc st S = some r) : jfin (fun F => jrun (jeva F d) (jcd m) F pc loc st S) r := by
  obtain ⟨F, hF⟩ := jlim_ex h
  exact ⟨F, fun F' h' => jN_m d m pc loc st S F F' h' r hF⟩
theorem jR_ext {a b : jR} (h1 : jle a b) (h2 : jle b a) : a = b := by
  cases a with
  | none =>
    cases b with
    | none => rfl
    | some r => exact (h2 r rfl).symm ▸ rfl
  | some r => exact (h1 r rfl).symm
/-- ONE STEP -/
theorem jN_step (d m pc : Nat) (loc st : List jV) (S : jS) : jN d m pc loc st S = jstep ((jcd m).getD pc (0, 0, 0, [])) (jD d) pc loc st S (jN d m) := by
  apply jR_ext
  · intro r h
    obtain ⟨F, hF⟩ := jlim_ex h
    cases F with
    | zero => cases hF
    | succ F =>
      exact mo_all _ _ _ _ _ _ pc loc st S _ _ (fun m a S r h => jlim_of (jD_m d m a S) h) (fun pc loc st S r h => jlim_of (jN_m d m pc loc st S) (F := F + 1) (jrun_mono (fun _ _ _ _ h => h) F (F + 1) (Nat.le_succ F) pc loc st S r h)) r hF
  · intro r h
    obtain ⟨F, hF⟩ := co_all _ _ _ _ (jD d) (fun F => jeva F d) pc loc st S (jN d m) (fun F => jrun (jeva F d) (jcd m) F) r (fun m a S r h => jD_fin h) (fun pc loc st S r h => jN_fin h) h
    refine jlim_of (jN_m d m pc loc st S) (F := F + 1) ?_
    have h1 := hF F (Nat.le_refl F)
    exact mo_all _ _ _ _ _ _ pc loc st S _ _ (jeva_mono (Nat.le_succ F) d d (Nat.le_refl d)) (jrun_mono (jeva_mono (Nat.le_succ F) d d (Nat.le_refl d)) F F (Nat.le_refl F)) r h1
theorem jD_eq (d m : Nat) (args : List jV) (S : jS) (hf : jfit m args = true) : jD (d + 1) m args S = jN d m 0 (jent args (jml0 m)) [] S := by
  unfold jD jN
  congr 1
  funext F
  show (if jfit m args then _ else none) = _
  rw [if_pos hf]
/-- deeper does no harm -/
theorem jD_deep {d d' m : Nat} {args : List jV} {S : jS} {r : Int × jS} (hd : d ≤ d') (h : jD d m args S = some r) : jD d' m args S = some r := by
  obtain ⟨F, hF⟩ := jlim_ex h
  exact jlim_of (jD_m d' m args S) (jeva_mono (Nat.le_refl F) d d' hd m args S r hF)
/-- a stretch of code: to the places 'stops', at most n steps -/
noncomputable def jgo (stops : List Nat) (d m : Nat) : Nat → jT
  | 0 => jN d m
  | n + 1 => fun pc loc st S => if stops.contains pc then jN d m pc loc st S else jstep ((jcd m).getD pc (0, 0, 0, [])) (jD d) pc loc st S (jgo stops d m n)
theorem jgo_eq (stops : List Nat) (d m : Nat) : ∀ (n pc : Nat) (loc st : List jV) (S : jS), jgo stops d m n pc loc st S = jN d m pc loc st S
  | 0, _, _, _, _ => rfl
  | n + 1, pc, loc, st, S => by
    show (if stops.contains pc then jN d m pc loc st S else jstep _ (jD d) pc loc st S (jgo stops d m n)) = _
    split
    · rfl
    · have e : jgo stops d m n = jN d m := by
        funext pc loc st S
        exact jgo_eq stops d m n pc loc st S
      rw [e]
      exact (jN_step d m pc loc st S).symm
/-- .. the first step is made in any case -/
theorem jgo_1 (stops : List Nat) (n d m pc : Nat) (loc st : List jV) (S : jS) : jN d m pc loc st S = jstep ((jcd m).getD pc (0, 0, 0, [])) (jD d) pc loc st S (jgo stops d m n) := by
  rw [jN_step]
  congr 1
  funext pc loc st S
  exact (jgo_eq stops d m n pc loc st S).symm
