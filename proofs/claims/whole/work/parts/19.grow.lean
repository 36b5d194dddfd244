/-! what the pure machine's instructions have in common: they hand on, what is made stays made -/
def grow (S S' : jS) : Prop := gN S.1 ≤ gN S'.1 ∧ gM S.1 ≤ gM S'.1
theorem grow.rfl' {S : jS} : grow S S := ⟨Nat.le_refl _, Nat.le_refl _⟩
theorem grow.trans {A B C : jS} (h : grow A B) (h2 : grow B C) : grow A C := ⟨Nat.le_trans h.1 h2.1, Nat.le_trans h.2 h2.2⟩
def jGroC (ce : jC) : Prop := ∀ m a S z S', ce m a S = some (z, S') → grow S S'
def jGroT (k : jT) : Prop := ∀ pc loc st S r, k pc loc st S = some r → grow S r.2
def jGro (o : jF) : Prop := ∀ a b t ce pc loc st S k r, jGroC ce → jGroT k → o a b t ce pc loc st S k = some r → grow S r.2
theorem grow_new {kd sl : Nat} {len : Int} {S : jS} : grow S (jnew kd len sl S) := ⟨Nat.le_succ _, Nat.le_add_right _ _⟩
theorem grow_rows {m : Int} : ∀ (n : Nat) (S : jS), grow S (jrows m n S)
  | 0, _ => grow.rfl'
  | n + 1, S => (grow_rows n S).trans grow_new
theorem grow_rowsR {r : Int} : ∀ (n : Nat) (S : jS), grow S (jrowsR r n S)
  | 0, _ => grow.rfl'
  | n + 1, S => grow_rowsR n S
theorem jsw_gro {k : Nat → jR} {z d : Int} {r : Int × jS} {S : jS} (hk : ∀ t, k t = some r → grow S r.2) : ∀ (l : List Int) (lo : Int), jsw k z d lo l = some r → grow S r.2
  | [], _, h => hk _ h
  | t :: l, lo, h => by
    unfold jsw at h
    split at h
    · exact hk _ h
    · exact jsw_gro hk l (lo + 1) h
theorem jsw_mono {k k' : Nat → jR} {z d : Int} {r : Int × jS} (hk : ∀ t, k t = some r → k' t = some r) : ∀ (l : List Int) (lo : Int), jsw k z d lo l = some r → jsw k' z d lo l = some r
  | [], _, h => hk _ h
  | t :: l, lo, h => by
    unfold jsw at h ⊢
    split at h
    · rw [if_pos (by assumption)]
      exact hk _ h
    · rw [if_neg (by assumption)]
      exact jsw_mono hk l (lo + 1) h
theorem jlk_gro {k : Nat → jR} {z d : Int} {r : Int × jS} {S : jS} (hk : ∀ t, k t = some r → grow S r.2) : ∀ (l : List Int), jlk k z d l = some r → grow S r.2
  | [], h => hk _ h
  | [_], h => hk _ h
  | x :: t :: l, h => by
    unfold jlk at h
    split at h
    · exact hk _ h
    · exact jlk_gro hk l h
theorem jlk_mono {k k' : Nat → jR} {z d : Int} {r : Int × jS} (hk : ∀ t, k t = some r → k' t = some r) : ∀ (l : List Int), jlk k z d l = some r → jlk k' z d l = some r
  | [], h => hk _ h
  | [_], h => hk _ h
  | x :: t :: l, h => by
    unfold jlk at h ⊢
    split at h
    · rw [if_pos (by assumption)]
      exact hk _ h
    · rw [if_neg (by assumption)]
      exact jlk_mono hk l h
theorem gr_oBad  : jGro oBad := by
  intro a b t ce pc loc st S k r hc hk h
  unfold oBad at h
  (repeat' split at h) <;> first | (cases h; done) | (cases h; exact grow.rfl') | (have q := hk _ _ _ _ _ h; exact ⟨q.1, q.2⟩) | exact grow_new.trans (hk _ _ _ _ _ h) | exact (grow_new.trans ((grow_rows _ _).trans (grow_rowsR _ _))).trans (hk _ _ _ _ _ h)
theorem mo_oBad  : jMono oBad := by
  intro a b t ce ce' pc loc st S k k' hc hk r h
  unfold oBad at h ⊢
  (repeat' split at h) <;> first | (cases h; done) | ((repeat (first | rw [if_pos (by assumption)] | rw [if_neg (by assumption)])); first | exact h | exact hk _ _ _ _ _ h)
theorem gr_oPush (t n : Nat) : jGro (oPush t n) := by
  intro a b t ce pc loc st S k r hc hk h
  unfold oPush at h
  (repeat' split at h) <;> first | (cases h; done) | (cases h; exact grow.rfl') | (have q := hk _ _ _ _ _ h; exact ⟨q.1, q.2⟩) | exact grow_new.trans (hk _ _ _ _ _ h) | exact (grow_new.trans ((grow_rows _ _).trans (grow_rowsR _ _))).trans (hk _ _ _ _ _ h)
theorem mo_oPush (t n : Nat) : jMono (oPush t n) := by
  intro a b t ce ce' pc loc st S k k' hc hk r h
  unfold oPush at h ⊢
  (repeat' split at h) <;> first | (cases h; done) | ((repeat (first | rw [if_pos (by assumption)] | rw [if_neg (by assumption)])); first | exact h | exact hk _ _ _ _ _ h)
theorem gr_oLoad (t n : Nat) : jGro (oLoad t n) := by
  intro a b t ce pc loc st S k r hc hk h
  unfold oLoad at h
  (repeat' split at h) <;> first | (cases h; done) | (cases h; exact grow.rfl') | (have q := hk _ _ _ _ _ h; exact ⟨q.1, q.2⟩) | exact grow_new.trans (hk _ _ _ _ _ h) | exact (grow_new.trans ((grow_rows _ _).trans (grow_rowsR _ _))).trans (hk _ _ _ _ _ h)
theorem mo_oLoad (t n : Nat) : jMono (oLoad t n) := by
  intro a b t ce ce' pc loc st S k k' hc hk r h
  unfold oLoad at h ⊢
  (repeat' split at h) <;> first | (cases h; done) | ((repeat (first | rw [if_pos (by assumption)] | rw [if_neg (by assumption)])); first | exact h | exact hk _ _ _ _ _ h)
theorem gr_oALoad (n : Nat) : jGro (oALoad n) := by
  intro a b t ce pc loc st S k r hc hk h
  unfold oALoad at h
  (repeat' split at h) <;> first | (cases h; done) | (cases h; exact grow.rfl') | (have q := hk _ _ _ _ _ h; exact ⟨q.1, q.2⟩) | exact grow_new.trans (hk _ _ _ _ _ h) | exact (grow_new.trans ((grow_rows _ _).trans (grow_rowsR _ _))).trans (hk _ _ _ _ _ h)
theorem mo_oALoad (n : Nat) : jMono (oALoad n) := by
  intro a b t ce ce' pc loc st S k k' hc hk r h
  unfold oALoad at h ⊢
  (repeat' split at h) <;> first | (cases h; done) | ((repeat (first | rw [if_pos (by assumption)] | rw [if_neg (by assumption)])); first | exact h | exact hk _ _ _ _ _ h)
theorem gr_oStore (n : Nat) : jGro (oStore n) := by
  intro a b t ce pc loc st S k r hc hk h
  unfold oStore at h
  (repeat' split at h) <;> first | (cases h; done) | (cases h; exact grow.rfl') | (have q := hk _ _ _ _ _ h; exact ⟨q.1, q.2⟩) | exact grow_new.trans (hk _ _ _ _ _ h) | exact (grow_new.trans ((grow_rows _ _).trans (grow_rowsR _ _))).trans (hk _ _ _ _ _ h)
theorem mo_oStore (n : Nat) : jMono (oStore n) := by
  intro a b t ce ce' pc loc st S k k' hc hk r h
  unfold oStore at h ⊢
  (repeat' split at h) <;> first | (cases h; done) | ((repeat (first | rw [if_pos (by assumption)] | rw [if_neg (by assumption)])); first | exact h | exact hk _ _ _ _ _ h)
theorem gr_oLStore (n : Nat) : jGro (oLStore n) := by
  intro a b t ce pc loc st S k r hc hk h
  unfold oLStore at h
  (repeat' split at h) <;> first | (cases h; done) | (cases h; exact grow.rfl') | (have q := hk _ _ _ _ _ h; exact ⟨q.1, q.2⟩) | exact grow_new.trans (hk _ _ _ _ _ h) | exact (grow_new.trans ((grow_rows _ _).trans (grow_rowsR _ _))).trans (hk _ _ _ _ _ h)
theorem mo_oLStore (n : Nat) : jMono (oLStore n) := by
  intro a b t ce ce' pc loc st S k k' hc hk r h
  unfold oLStore at h ⊢
  (repeat' split at h) <;> first | (cases h; done) | ((repeat (first | rw [if_pos (by assumption)] | rw [if_neg (by assumption)])); first | exact h | exact hk _ _ _ _ _ h)
theorem gr_oAStore (n : Nat) : jGro (oAStore n) := by
  intro a b t ce pc loc st S k r hc hk h
  unfold oAStore at h
  (repeat' split at h) <;> first | (cases h; done) | (cases h; exact grow.rfl') | (have q := hk _ _ _ _ _ h; exact ⟨q.1, q.2⟩) | exact grow_new.trans (hk _ _ _ _ _ h) | exact (grow_new.trans ((grow_rows _ _).trans (grow_rowsR _ _))).trans (hk _ _ _ _ _ h)
theorem mo_oAStore (n : Nat) : jMono (oAStore n) := by
  intro a b t ce ce' pc loc st S k k' hc hk r h
  unfold oAStore at h ⊢
  (repeat' split at h) <;> first | (cases h; done) | ((repeat (first | rw [if_pos (by assumption)] | rw [if_neg (by assumption)])); first | exact h | exact hk _ _ _ _ _ h)
theorem gr_oIinc  : jGro oIinc := by
  intro a b t ce pc loc st S k r hc hk h
  unfold oIinc at h
  (repeat' split at h) <;> first | (cases h; done) | (cases h; exact grow.rfl') | (have q := hk _ _ _ _ _ h; exact ⟨q.1, q.2⟩) | exact grow_new.trans (hk _ _ _ _ _ h) | exact (grow_new.trans ((grow_rows _ _).trans (grow_rowsR _ _))).trans (hk _ _ _ _ _ h)
theorem mo_oIinc  : jMono oIinc := by
  intro a b t ce ce' pc loc st S k k' hc hk r h
  unfold oIinc at h ⊢
  (repeat' split at h) <;> first | (cases h; done) | ((repeat (first | rw [if_pos (by assumption)] | rw [if_neg (by assumption)])); first | exact h | exact hk _ _ _ _ _ h)
theorem gr_oBin (f : Int → Int → Int) : jGro (oBin f) := by
  intro a b t ce pc loc st S k r hc hk h
  unfold oBin at h
  (repeat' split at h) <;> first | (cases h; done) | (cases h; exact grow.rfl') | (have q := hk _ _ _ _ _ h; exact ⟨q.1, q.2⟩) | exact grow_new.trans (hk _ _ _ _ _ h) | exact (grow_new.trans ((grow_rows _ _).trans (grow_rowsR _ _))).trans (hk _ _ _ _ _ h)
theorem mo_oBin (f : Int → Int → Int) : jMono (oBin f) := by
  intro a b t ce ce' pc loc st S k k' hc hk r h
  unfold oBin at h ⊢
  (repeat' split at h) <;> first | (cases h; done) | ((repeat (first | rw [if_pos (by assumption)] | rw [if_neg (by assumption)])); first | exact h | exact hk _ _ _ _ _ h)
theorem gr_oDiv (f : Int → Int → Int) : jGro (oDiv f) := by
  intro a b t ce pc loc st S k r hc hk h
  unfold oDiv at h
  (repeat' split at h) <;> first | (cases h; done) | (cases h; exact grow.rfl') | (have q := hk _ _ _ _ _ h; exact ⟨q.1, q.2⟩) | exact grow_new.trans (hk _ _ _ _ _ h) | exact (grow_new.trans ((grow_rows _ _).trans (grow_rowsR _ _))).trans (hk _ _ _ _ _ h)
theorem mo_oDiv (f : Int → Int → Int) : jMono (oDiv f) := by
  intro a b t ce ce' pc loc st S k k' hc hk r h
  unfold oDiv at h ⊢
  (repeat' split at h) <;> first | (cases h; done) | ((repeat (first | rw [if_pos (by assumption)] | rw [if_neg (by assumption)])); first | exact h | exact hk _ _ _ _ _ h)
theorem gr_oBinL (f : Int → Int → Int) : jGro (oBinL f) := by
  intro a b t ce pc loc st S k r hc hk h
  unfold oBinL at h
  (repeat' split at h) <;> first | (cases h; done) | (cases h; exact grow.rfl') | (have q := hk _ _ _ _ _ h; exact ⟨q.1, q.2⟩) | exact grow_new.trans (hk _ _ _ _ _ h) | exact (grow_new.trans ((grow_rows _ _).trans (grow_rowsR _ _))).trans (hk _ _ _ _ _ h)
theorem mo_oBinL (f : Int → Int → Int) : jMono (oBinL f) := by
  intro a b t ce ce' pc loc st S k k' hc hk r h
  unfold oBinL at h ⊢
  (repeat' split at h) <;> first | (cases h; done) | ((repeat (first | rw [if_pos (by assumption)] | rw [if_neg (by assumption)])); first | exact h | exact hk _ _ _ _ _ h)
theorem gr_oDivL (f : Int → Int → Int) : jGro (oDivL f) := by
  intro a b t ce pc loc st S k r hc hk h
  unfold oDivL at h
  (repeat' split at h) <;> first | (cases h; done) | (cases h; exact grow.rfl') | (have q := hk _ _ _ _ _ h; exact ⟨q.1, q.2⟩) | exact grow_new.trans (hk _ _ _ _ _ h) | exact (grow_new.trans ((grow_rows _ _).trans (grow_rowsR _ _))).trans (hk _ _ _ _ _ h)
theorem mo_oDivL (f : Int → Int → Int) : jMono (oDivL f) := by
  intro a b t ce ce' pc loc st S k k' hc hk r h
  unfold oDivL at h ⊢
  (repeat' split at h) <;> first | (cases h; done) | ((repeat (first | rw [if_pos (by assumption)] | rw [if_neg (by assumption)])); first | exact h | exact hk _ _ _ _ _ h)
theorem gr_oShL (f : Int → Int → Int) : jGro (oShL f) := by
  intro a b t ce pc loc st S k r hc hk h
  unfold oShL at h
  (repeat' split at h) <;> first | (cases h; done) | (cases h; exact grow.rfl') | (have q := hk _ _ _ _ _ h; exact ⟨q.1, q.2⟩) | exact grow_new.trans (hk _ _ _ _ _ h) | exact (grow_new.trans ((grow_rows _ _).trans (grow_rowsR _ _))).trans (hk _ _ _ _ _ h)
theorem mo_oShL (f : Int → Int → Int) : jMono (oShL f) := by
  intro a b t ce ce' pc loc st S k k' hc hk r h
  unfold oShL at h ⊢
  (repeat' split at h) <;> first | (cases h; done) | ((repeat (first | rw [if_pos (by assumption)] | rw [if_neg (by assumption)])); first | exact h | exact hk _ _ _ _ _ h)
theorem gr_oLcmp  : jGro oLcmp := by
  intro a b t ce pc loc st S k r hc hk h
  unfold oLcmp at h
  (repeat' split at h) <;> first | (cases h; done) | (cases h; exact grow.rfl') | (have q := hk _ _ _ _ _ h; exact ⟨q.1, q.2⟩) | exact grow_new.trans (hk _ _ _ _ _ h) | exact (grow_new.trans ((grow_rows _ _).trans (grow_rowsR _ _))).trans (hk _ _ _ _ _ h)
theorem mo_oLcmp  : jMono oLcmp := by
  intro a b t ce ce' pc loc st S k k' hc hk r h
  unfold oLcmp at h ⊢
  (repeat' split at h) <;> first | (cases h; done) | ((repeat (first | rw [if_pos (by assumption)] | rw [if_neg (by assumption)])); first | exact h | exact hk _ _ _ _ _ h)
theorem gr_oI2l  : jGro oI2l := by
  intro a b t ce pc loc st S k r hc hk h
  unfold oI2l at h
  (repeat' split at h) <;> first | (cases h; done) | (cases h; exact grow.rfl') | (have q := hk _ _ _ _ _ h; exact ⟨q.1, q.2⟩) | exact grow_new.trans (hk _ _ _ _ _ h) | exact (grow_new.trans ((grow_rows _ _).trans (grow_rowsR _ _))).trans (hk _ _ _ _ _ h)
theorem mo_oI2l  : jMono oI2l := by
  intro a b t ce ce' pc loc st S k k' hc hk r h
  unfold oI2l at h ⊢
  (repeat' split at h) <;> first | (cases h; done) | ((repeat (first | rw [if_pos (by assumption)] | rw [if_neg (by assumption)])); first | exact h | exact hk _ _ _ _ _ h)
theorem gr_oL2i  : jGro oL2i := by
  intro a b t ce pc loc st S k r hc hk h
  unfold oL2i at h
  (repeat' split at h) <;> first | (cases h; done) | (cases h; exact grow.rfl') | (have q := hk _ _ _ _ _ h; exact ⟨q.1, q.2⟩) | exact grow_new.trans (hk _ _ _ _ _ h) | exact (grow_new.trans ((grow_rows _ _).trans (grow_rowsR _ _))).trans (hk _ _ _ _ _ h)
theorem mo_oL2i  : jMono oL2i := by
  intro a b t ce ce' pc loc st S k k' hc hk r h
  unfold oL2i at h ⊢
  (repeat' split at h) <;> first | (cases h; done) | ((repeat (first | rw [if_pos (by assumption)] | rw [if_neg (by assumption)])); first | exact h | exact hk _ _ _ _ _ h)
theorem gr_oIneg  : jGro oIneg := by
  intro a b t ce pc loc st S k r hc hk h
  unfold oIneg at h
  (repeat' split at h) <;> first | (cases h; done) | (cases h; exact grow.rfl') | (have q := hk _ _ _ _ _ h; exact ⟨q.1, q.2⟩) | exact grow_new.trans (hk _ _ _ _ _ h) | exact (grow_new.trans ((grow_rows _ _).trans (grow_rowsR _ _))).trans (hk _ _ _ _ _ h)
theorem mo_oIneg  : jMono oIneg := by
  intro a b t ce ce' pc loc st S k k' hc hk r h
  unfold oIneg at h ⊢
  (repeat' split at h) <;> first | (cases h; done) | ((repeat (first | rw [if_pos (by assumption)] | rw [if_neg (by assumption)])); first | exact h | exact hk _ _ _ _ _ h)
theorem gr_oDup  : jGro oDup := by
  intro a b t ce pc loc st S k r hc hk h
  unfold oDup at h
  (repeat' split at h) <;> first | (cases h; done) | (cases h; exact grow.rfl') | (have q := hk _ _ _ _ _ h; exact ⟨q.1, q.2⟩) | exact grow_new.trans (hk _ _ _ _ _ h) | exact (grow_new.trans ((grow_rows _ _).trans (grow_rowsR _ _))).trans (hk _ _ _ _ _ h)
theorem mo_oDup  : jMono oDup := by
  intro a b t ce ce' pc loc st S k k' hc hk r h
  unfold oDup at h ⊢
  (repeat' split at h) <;> first | (cases h; done) | ((repeat (first | rw [if_pos (by assumption)] | rw [if_neg (by assumption)])); first | exact h | exact hk _ _ _ _ _ h)
theorem gr_oDup2  : jGro oDup2 := by
  intro a b t ce pc loc st S k r hc hk h
  unfold oDup2 at h
  (repeat' split at h) <;> first | (cases h; done) | (cases h; exact grow.rfl') | (have q := hk _ _ _ _ _ h; exact ⟨q.1, q.2⟩) | exact grow_new.trans (hk _ _ _ _ _ h) | exact (grow_new.trans ((grow_rows _ _).trans (grow_rowsR _ _))).trans (hk _ _ _ _ _ h)
theorem mo_oDup2  : jMono oDup2 := by
  intro a b t ce ce' pc loc st S k k' hc hk r h
  unfold oDup2 at h ⊢
  (repeat' split at h) <;> first | (cases h; done) | ((repeat (first | rw [if_pos (by assumption)] | rw [if_neg (by assumption)])); first | exact h | exact hk _ _ _ _ _ h)
theorem gr_oPop  : jGro oPop := by
  intro a b t ce pc loc st S k r hc hk h
  unfold oPop at h
  (repeat' split at h) <;> first | (cases h; done) | (cases h; exact grow.rfl') | (have q := hk _ _ _ _ _ h; exact ⟨q.1, q.2⟩) | exact grow_new.trans (hk _ _ _ _ _ h) | exact (grow_new.trans ((grow_rows _ _).trans (grow_rowsR _ _))).trans (hk _ _ _ _ _ h)
theorem mo_oPop  : jMono oPop := by
  intro a b t ce ce' pc loc st S k k' hc hk r h
  unfold oPop at h ⊢
  (repeat' split at h) <;> first | (cases h; done) | ((repeat (first | rw [if_pos (by assumption)] | rw [if_neg (by assumption)])); first | exact h | exact hk _ _ _ _ _ h)
theorem gr_oIfEq  : jGro oIfEq := by
  intro a b t ce pc loc st S k r hc hk h
  unfold oIfEq at h
  (repeat' split at h) <;> first | (cases h; done) | (cases h; exact grow.rfl') | (have q := hk _ _ _ _ _ h; exact ⟨q.1, q.2⟩) | exact grow_new.trans (hk _ _ _ _ _ h) | exact (grow_new.trans ((grow_rows _ _).trans (grow_rowsR _ _))).trans (hk _ _ _ _ _ h)
theorem mo_oIfEq  : jMono oIfEq := by
  intro a b t ce ce' pc loc st S k k' hc hk r h
  unfold oIfEq at h ⊢
  (repeat' split at h) <;> first | (cases h; done) | ((repeat (first | rw [if_pos (by assumption)] | rw [if_neg (by assumption)])); first | exact h | exact hk _ _ _ _ _ h)
theorem gr_oIfNe  : jGro oIfNe := by
  intro a b t ce pc loc st S k r hc hk h
  unfold oIfNe at h
  (repeat' split at h) <;> first | (cases h; done) | (cases h; exact grow.rfl') | (have q := hk _ _ _ _ _ h; exact ⟨q.1, q.2⟩) | exact grow_new.trans (hk _ _ _ _ _ h) | exact (grow_new.trans ((grow_rows _ _).trans (grow_rowsR _ _))).trans (hk _ _ _ _ _ h)
theorem mo_oIfNe  : jMono oIfNe := by
  intro a b t ce ce' pc loc st S k k' hc hk r h
  unfold oIfNe at h ⊢
  (repeat' split at h) <;> first | (cases h; done) | ((repeat (first | rw [if_pos (by assumption)] | rw [if_neg (by assumption)])); first | exact h | exact hk _ _ _ _ _ h)
theorem gr_oIfLt  : jGro oIfLt := by
  intro a b t ce pc loc st S k r hc hk h
  unfold oIfLt at h
  (repeat' split at h) <;> first | (cases h; done) | (cases h; exact grow.rfl') | (have q := hk _ _ _ _ _ h; exact ⟨q.1, q.2⟩) | exact grow_new.trans (hk _ _ _ _ _ h) | exact (grow_new.trans ((grow_rows _ _).trans (grow_rowsR _ _))).trans (hk _ _ _ _ _ h)
theorem mo_oIfLt  : jMono oIfLt := by
  intro a b t ce ce' pc loc st S k k' hc hk r h
  unfold oIfLt at h ⊢
  (repeat' split at h) <;> first | (cases h; done) | ((repeat (first | rw [if_pos (by assumption)] | rw [if_neg (by assumption)])); first | exact h | exact hk _ _ _ _ _ h)
theorem gr_oIfGe  : jGro oIfGe := by
  intro a b t ce pc loc st S k r hc hk h
  unfold oIfGe at h
  (repeat' split at h) <;> first | (cases h; done) | (cases h; exact grow.rfl') | (have q := hk _ _ _ _ _ h; exact ⟨q.1, q.2⟩) | exact grow_new.trans (hk _ _ _ _ _ h) | exact (grow_new.trans ((grow_rows _ _).trans (grow_rowsR _ _))).trans (hk _ _ _ _ _ h)
theorem mo_oIfGe  : jMono oIfGe := by
  intro a b t ce ce' pc loc st S k k' hc hk r h
  unfold oIfGe at h ⊢
  (repeat' split at h) <;> first | (cases h; done) | ((repeat (first | rw [if_pos (by assumption)] | rw [if_neg (by assumption)])); first | exact h | exact hk _ _ _ _ _ h)
theorem gr_oIfGt  : jGro oIfGt := by
  intro a b t ce pc loc st S k r hc hk h
  unfold oIfGt at h
  (repeat' split at h) <;> first | (cases h; done) | (cases h; exact grow.rfl') | (have q := hk _ _ _ _ _ h; exact ⟨q.1, q.2⟩) | exact grow_new.trans (hk _ _ _ _ _ h) | exact (grow_new.trans ((grow_rows _ _).trans (grow_rowsR _ _))).trans (hk _ _ _ _ _ h)
theorem mo_oIfGt  : jMono oIfGt := by
  intro a b t ce ce' pc loc st S k k' hc hk r h
  unfold oIfGt at h ⊢
  (repeat' split at h) <;> first | (cases h; done) | ((repeat (first | rw [if_pos (by assumption)] | rw [if_neg (by assumption)])); first | exact h | exact hk _ _ _ _ _ h)
theorem gr_oIfLe  : jGro oIfLe := by
  intro a b t ce pc loc st S k r hc hk h
  unfold oIfLe at h
  (repeat' split at h) <;> first | (cases h; done) | (cases h; exact grow.rfl') | (have q := hk _ _ _ _ _ h; exact ⟨q.1, q.2⟩) | exact grow_new.trans (hk _ _ _ _ _ h) | exact (grow_new.trans ((grow_rows _ _).trans (grow_rowsR _ _))).trans (hk _ _ _ _ _ h)
theorem mo_oIfLe  : jMono oIfLe := by
  intro a b t ce ce' pc loc st S k k' hc hk r h
  unfold oIfLe at h ⊢
  (repeat' split at h) <;> first | (cases h; done) | ((repeat (first | rw [if_pos (by assumption)] | rw [if_neg (by assumption)])); first | exact h | exact hk _ _ _ _ _ h)
theorem gr_oIcEq  : jGro oIcEq := by
  intro a b t ce pc loc st S k r hc hk h
  unfold oIcEq at h
  (repeat' split at h) <;> first | (cases h; done) | (cases h; exact grow.rfl') | (have q := hk _ _ _ _ _ h; exact ⟨q.1, q.2⟩) | exact grow_new.trans (hk _ _ _ _ _ h) | exact (grow_new.trans ((grow_rows _ _).trans (grow_rowsR _ _))).trans (hk _ _ _ _ _ h)
theorem mo_oIcEq  : jMono oIcEq := by
  intro a b t ce ce' pc loc st S k k' hc hk r h
  unfold oIcEq at h ⊢
  (repeat' split at h) <;> first | (cases h; done) | ((repeat (first | rw [if_pos (by assumption)] | rw [if_neg (by assumption)])); first | exact h | exact hk _ _ _ _ _ h)
theorem gr_oIcNe  : jGro oIcNe := by
  intro a b t ce pc loc st S k r hc hk h
  unfold oIcNe at h
  (repeat' split at h) <;> first | (cases h; done) | (cases h; exact grow.rfl') | (have q := hk _ _ _ _ _ h; exact ⟨q.1, q.2⟩) | exact grow_new.trans (hk _ _ _ _ _ h) | exact (grow_new.trans ((grow_rows _ _).trans (grow_rowsR _ _))).trans (hk _ _ _ _ _ h)
theorem mo_oIcNe  : jMono oIcNe := by
  intro a b t ce ce' pc loc st S k k' hc hk r h
  unfold oIcNe at h ⊢
  (repeat' split at h) <;> first | (cases h; done) | ((repeat (first | rw [if_pos (by assumption)] | rw [if_neg (by assumption)])); first | exact h | exact hk _ _ _ _ _ h)
theorem gr_oIcLt  : jGro oIcLt := by
  intro a b t ce pc loc st S k r hc hk h
  unfold oIcLt at h
  (repeat' split at h) <;> first | (cases h; done) | (cases h; exact grow.rfl') | (have q := hk _ _ _ _ _ h; exact ⟨q.1, q.2⟩) | exact grow_new.trans (hk _ _ _ _ _ h) | exact (grow_new.trans ((grow_rows _ _).trans (grow_rowsR _ _))).trans (hk _ _ _ _ _ h)
theorem mo_oIcLt  : jMono oIcLt := by
  intro a b t ce ce' pc loc st S k k' hc hk r h
  unfold oIcLt at h ⊢
  (repeat' split at h) <;> first | (cases h; done) | ((repeat (first | rw [if_pos (by assumption)] | rw [if_neg (by assumption)])); first | exact h | exact hk _ _ _ _ _ h)
theorem gr_oIcGe  : jGro oIcGe := by
  intro a b t ce pc loc st S k r hc hk h
  unfold oIcGe at h
  (repeat' split at h) <;> first | (cases h; done) | (cases h; exact grow.rfl') | (have q := hk _ _ _ _ _ h; exact ⟨q.1, q.2⟩) | exact grow_new.trans (hk _ _ _ _ _ h) | exact (grow_new.trans ((grow_rows _ _).trans (grow_rowsR _ _))).trans (hk _ _ _ _ _ h)
theorem mo_oIcGe  : jMono oIcGe := by
  intro a b t ce ce' pc loc st S k k' hc hk r h
  unfold oIcGe at h ⊢
  (repeat' split at h) <;> first | (cases h; done) | ((repeat (first | rw [if_pos (by assumption)] | rw [if_neg (by assumption)])); first | exact h | exact hk _ _ _ _ _ h)
theorem gr_oIcGt  : jGro oIcGt := by
  intro a b t ce pc loc st S k r hc hk h
  unfold oIcGt at h
  (repeat' split at h) <;> first | (cases h; done) | (cases h; exact grow.rfl') | (have q := hk _ _ _ _ _ h; exact ⟨q.1, q.2⟩) | exact grow_new.trans (hk _ _ _ _ _ h) | exact (grow_new.trans ((grow_rows _ _).trans (grow_rowsR _ _))).trans (hk _ _ _ _ _ h)
theorem mo_oIcGt  : jMono oIcGt := by
  intro a b t ce ce' pc loc st S k k' hc hk r h
  unfold oIcGt at h ⊢
  (repeat' split at h) <;> first | (cases h; done) | ((repeat (first | rw [if_pos (by assumption)] | rw [if_neg (by assumption)])); first | exact h | exact hk _ _ _ _ _ h)
theorem gr_oIcLe  : jGro oIcLe := by
  intro a b t ce pc loc st S k r hc hk h
  unfold oIcLe at h
  (repeat' split at h) <;> first | (cases h; done) | (cases h; exact grow.rfl') | (have q := hk _ _ _ _ _ h; exact ⟨q.1, q.2⟩) | exact grow_new.trans (hk _ _ _ _ _ h) | exact (grow_new.trans ((grow_rows _ _).trans (grow_rowsR _ _))).trans (hk _ _ _ _ _ h)
theorem mo_oIcLe  : jMono oIcLe := by
  intro a b t ce ce' pc loc st S k k' hc hk r h
  unfold oIcLe at h ⊢
  (repeat' split at h) <;> first | (cases h; done) | ((repeat (first | rw [if_pos (by assumption)] | rw [if_neg (by assumption)])); first | exact h | exact hk _ _ _ _ _ h)
theorem gr_oGoto  : jGro oGoto := by
  intro a b t ce pc loc st S k r hc hk h
  unfold oGoto at h
  (repeat' split at h) <;> first | (cases h; done) | (cases h; exact grow.rfl') | (have q := hk _ _ _ _ _ h; exact ⟨q.1, q.2⟩) | exact grow_new.trans (hk _ _ _ _ _ h) | exact (grow_new.trans ((grow_rows _ _).trans (grow_rowsR _ _))).trans (hk _ _ _ _ _ h)
theorem mo_oGoto  : jMono oGoto := by
  intro a b t ce ce' pc loc st S k k' hc hk r h
  unfold oGoto at h ⊢
  (repeat' split at h) <;> first | (cases h; done) | ((repeat (first | rw [if_pos (by assumption)] | rw [if_neg (by assumption)])); first | exact h | exact hk _ _ _ _ _ h)
theorem gr_oIfNN  : jGro oIfNN := by
  intro a b t ce pc loc st S k r hc hk h
  unfold oIfNN at h
  (repeat' split at h) <;> first | (cases h; done) | (cases h; exact grow.rfl') | (have q := hk _ _ _ _ _ h; exact ⟨q.1, q.2⟩) | exact grow_new.trans (hk _ _ _ _ _ h) | exact (grow_new.trans ((grow_rows _ _).trans (grow_rowsR _ _))).trans (hk _ _ _ _ _ h)
theorem mo_oIfNN  : jMono oIfNN := by
  intro a b t ce ce' pc loc st S k k' hc hk r h
  unfold oIfNN at h ⊢
  (repeat' split at h) <;> first | (cases h; done) | ((repeat (first | rw [if_pos (by assumption)] | rw [if_neg (by assumption)])); first | exact h | exact hk _ _ _ _ _ h)
theorem gr_oGet  : jGro oGet := by
  intro a b t ce pc loc st S k r hc hk h
  unfold oGet at h
  (repeat' split at h) <;> first | (cases h; done) | (cases h; exact grow.rfl') | (have q := hk _ _ _ _ _ h; exact ⟨q.1, q.2⟩) | exact grow_new.trans (hk _ _ _ _ _ h) | exact (grow_new.trans ((grow_rows _ _).trans (grow_rowsR _ _))).trans (hk _ _ _ _ _ h)
theorem mo_oGet  : jMono oGet := by
  intro a b t ce ce' pc loc st S k k' hc hk r h
  unfold oGet at h ⊢
  (repeat' split at h) <;> first | (cases h; done) | ((repeat (first | rw [if_pos (by assumption)] | rw [if_neg (by assumption)])); first | exact h | exact hk _ _ _ _ _ h)
theorem gr_oGetR  : jGro oGetR := by
  intro a b t ce pc loc st S k r hc hk h
  unfold oGetR at h
  (repeat' split at h) <;> first | (cases h; done) | (cases h; exact grow.rfl') | (have q := hk _ _ _ _ _ h; exact ⟨q.1, q.2⟩) | exact grow_new.trans (hk _ _ _ _ _ h) | exact (grow_new.trans ((grow_rows _ _).trans (grow_rowsR _ _))).trans (hk _ _ _ _ _ h)
theorem mo_oGetR  : jMono oGetR := by
  intro a b t ce ce' pc loc st S k k' hc hk r h
  unfold oGetR at h ⊢
  (repeat' split at h) <;> first | (cases h; done) | ((repeat (first | rw [if_pos (by assumption)] | rw [if_neg (by assumption)])); first | exact h | exact hk _ _ _ _ _ h)
theorem gr_oPut  : jGro oPut := by
  intro a b t ce pc loc st S k r hc hk h
  unfold oPut at h
  (repeat' split at h) <;> first | (cases h; done) | (cases h; exact grow.rfl') | (have q := hk _ _ _ _ _ h; exact ⟨q.1, q.2⟩) | exact grow_new.trans (hk _ _ _ _ _ h) | exact (grow_new.trans ((grow_rows _ _).trans (grow_rowsR _ _))).trans (hk _ _ _ _ _ h)
theorem mo_oPut  : jMono oPut := by
  intro a b t ce ce' pc loc st S k k' hc hk r h
  unfold oPut at h ⊢
  (repeat' split at h) <;> first | (cases h; done) | ((repeat (first | rw [if_pos (by assumption)] | rw [if_neg (by assumption)])); first | exact h | exact hk _ _ _ _ _ h)
theorem gr_oPutZ  : jGro oPutZ := by
  intro a b t ce pc loc st S k r hc hk h
  unfold oPutZ at h
  (repeat' split at h) <;> first | (cases h; done) | (cases h; exact grow.rfl') | (have q := hk _ _ _ _ _ h; exact ⟨q.1, q.2⟩) | exact grow_new.trans (hk _ _ _ _ _ h) | exact (grow_new.trans ((grow_rows _ _).trans (grow_rowsR _ _))).trans (hk _ _ _ _ _ h)
theorem mo_oPutZ  : jMono oPutZ := by
  intro a b t ce ce' pc loc st S k k' hc hk r h
  unfold oPutZ at h ⊢
  (repeat' split at h) <;> first | (cases h; done) | ((repeat (first | rw [if_pos (by assumption)] | rw [if_neg (by assumption)])); first | exact h | exact hk _ _ _ _ _ h)
theorem gr_oPutR  : jGro oPutR := by
  intro a b t ce pc loc st S k r hc hk h
  unfold oPutR at h
  (repeat' split at h) <;> first | (cases h; done) | (cases h; exact grow.rfl') | (have q := hk _ _ _ _ _ h; exact ⟨q.1, q.2⟩) | exact grow_new.trans (hk _ _ _ _ _ h) | exact (grow_new.trans ((grow_rows _ _).trans (grow_rowsR _ _))).trans (hk _ _ _ _ _ h)
theorem mo_oPutR  : jMono oPutR := by
  intro a b t ce ce' pc loc st S k k' hc hk r h
  unfold oPutR at h ⊢
  (repeat' split at h) <;> first | (cases h; done) | ((repeat (first | rw [if_pos (by assumption)] | rw [if_neg (by assumption)])); first | exact h | exact hk _ _ _ _ _ h)
theorem gr_oCst  : jGro oCst := by
  intro a b t ce pc loc st S k r hc hk h
  unfold oCst at h
  (repeat' split at h) <;> first | (cases h; done) | (cases h; exact grow.rfl') | (have q := hk _ _ _ _ _ h; exact ⟨q.1, q.2⟩) | exact grow_new.trans (hk _ _ _ _ _ h) | exact (grow_new.trans ((grow_rows _ _).trans (grow_rowsR _ _))).trans (hk _ _ _ _ _ h)
theorem mo_oCst  : jMono oCst := by
  intro a b t ce ce' pc loc st S k k' hc hk r h
  unfold oCst at h ⊢
  (repeat' split at h) <;> first | (cases h; done) | ((repeat (first | rw [if_pos (by assumption)] | rw [if_neg (by assumption)])); first | exact h | exact hk _ _ _ _ _ h)
theorem gr_oZst  : jGro oZst := by
  intro a b t ce pc loc st S k r hc hk h
  unfold oZst at h
  (repeat' split at h) <;> first | (cases h; done) | (cases h; exact grow.rfl') | (have q := hk _ _ _ _ _ h; exact ⟨q.1, q.2⟩) | exact grow_new.trans (hk _ _ _ _ _ h) | exact (grow_new.trans ((grow_rows _ _).trans (grow_rowsR _ _))).trans (hk _ _ _ _ _ h)
theorem mo_oZst  : jMono oZst := by
  intro a b t ce ce' pc loc st S k k' hc hk r h
  unfold oZst at h ⊢
  (repeat' split at h) <;> first | (cases h; done) | ((repeat (first | rw [if_pos (by assumption)] | rw [if_neg (by assumption)])); first | exact h | exact hk _ _ _ _ _ h)
theorem gr_oAald  : jGro oAald := by
  intro a b t ce pc loc st S k r hc hk h
  unfold oAald at h
  (repeat' split at h) <;> first | (cases h; done) | (cases h; exact grow.rfl') | (have q := hk _ _ _ _ _ h; exact ⟨q.1, q.2⟩) | exact grow_new.trans (hk _ _ _ _ _ h) | exact (grow_new.trans ((grow_rows _ _).trans (grow_rowsR _ _))).trans (hk _ _ _ _ _ h)
theorem mo_oAald  : jMono oAald := by
  intro a b t ce ce' pc loc st S k k' hc hk r h
  unfold oAald at h ⊢
  (repeat' split at h) <;> first | (cases h; done) | ((repeat (first | rw [if_pos (by assumption)] | rw [if_neg (by assumption)])); first | exact h | exact hk _ _ _ _ _ h)
theorem gr_oAast  : jGro oAast := by
  intro a b t ce pc loc st S k r hc hk h
  unfold oAast at h
  (repeat' split at h) <;> first | (cases h; done) | (cases h; exact grow.rfl') | (have q := hk _ _ _ _ _ h; exact ⟨q.1, q.2⟩) | exact grow_new.trans (hk _ _ _ _ _ h) | exact (grow_new.trans ((grow_rows _ _).trans (grow_rowsR _ _))).trans (hk _ _ _ _ _ h)
theorem mo_oAast  : jMono oAast := by
  intro a b t ce ce' pc loc st S k k' hc hk r h
  unfold oAast at h ⊢
  (repeat' split at h) <;> first | (cases h; done) | ((repeat (first | rw [if_pos (by assumption)] | rw [if_neg (by assumption)])); first | exact h | exact hk _ _ _ _ _ h)
theorem gr_oLen  : jGro oLen := by
  intro a b t ce pc loc st S k r hc hk h
  unfold oLen at h
  (repeat' split at h) <;> first | (cases h; done) | (cases h; exact grow.rfl') | (have q := hk _ _ _ _ _ h; exact ⟨q.1, q.2⟩) | exact grow_new.trans (hk _ _ _ _ _ h) | exact (grow_new.trans ((grow_rows _ _).trans (grow_rowsR _ _))).trans (hk _ _ _ _ _ h)
theorem mo_oLen  : jMono oLen := by
  intro a b t ce ce' pc loc st S k k' hc hk r h
  unfold oLen at h ⊢
  (repeat' split at h) <;> first | (cases h; done) | ((repeat (first | rw [if_pos (by assumption)] | rw [if_neg (by assumption)])); first | exact h | exact hk _ _ _ _ _ h)
theorem gr_oNew  : jGro oNew := by
  intro a b t ce pc loc st S k r hc hk h
  unfold oNew at h
  (repeat' split at h) <;> first | (cases h; done) | (cases h; exact grow.rfl') | (have q := hk _ _ _ _ _ h; exact ⟨q.1, q.2⟩) | exact grow_new.trans (hk _ _ _ _ _ h) | exact (grow_new.trans ((grow_rows _ _).trans (grow_rowsR _ _))).trans (hk _ _ _ _ _ h)
theorem mo_oNew  : jMono oNew := by
  intro a b t ce ce' pc loc st S k k' hc hk r h
  unfold oNew at h ⊢
  (repeat' split at h) <;> first | (cases h; done) | ((repeat (first | rw [if_pos (by assumption)] | rw [if_neg (by assumption)])); first | exact h | exact hk _ _ _ _ _ h)
theorem gr_oMulti  : jGro oMulti := by
  intro a b t ce pc loc st S k r hc hk h
  unfold oMulti at h
  (repeat' split at h) <;> first | (cases h; done) | (cases h; exact grow.rfl') | (have q := hk _ _ _ _ _ h; exact ⟨q.1, q.2⟩) | exact grow_new.trans (hk _ _ _ _ _ h) | exact (grow_new.trans ((grow_rows _ _).trans (grow_rowsR _ _))).trans (hk _ _ _ _ _ h)
theorem mo_oMulti  : jMono oMulti := by
  intro a b t ce ce' pc loc st S k k' hc hk r h
  unfold oMulti at h ⊢
  (repeat' split at h) <;> first | (cases h; done) | ((repeat (first | rw [if_pos (by assumption)] | rw [if_neg (by assumption)])); first | exact h | exact hk _ _ _ _ _ h)
theorem gr_oObj  : jGro oObj := by
  intro a b t ce pc loc st S k r hc hk h
  unfold oObj at h
  (repeat' split at h) <;> first | (cases h; done) | (cases h; exact grow.rfl') | (have q := hk _ _ _ _ _ h; exact ⟨q.1, q.2⟩) | exact grow_new.trans (hk _ _ _ _ _ h) | exact (grow_new.trans ((grow_rows _ _).trans (grow_rowsR _ _))).trans (hk _ _ _ _ _ h)
theorem mo_oObj  : jMono oObj := by
  intro a b t ce ce' pc loc st S k k' hc hk r h
  unfold oObj at h ⊢
  (repeat' split at h) <;> first | (cases h; done) | ((repeat (first | rw [if_pos (by assumption)] | rw [if_neg (by assumption)])); first | exact h | exact hk _ _ _ _ _ h)
theorem gr_oRetR  : jGro oRetR := by
  intro a b t ce pc loc st S k r hc hk h
  unfold oRetR at h
  (repeat' split at h) <;> first | (cases h; done) | (cases h; exact grow.rfl') | (have q := hk _ _ _ _ _ h; exact ⟨q.1, q.2⟩) | exact grow_new.trans (hk _ _ _ _ _ h) | exact (grow_new.trans ((grow_rows _ _).trans (grow_rowsR _ _))).trans (hk _ _ _ _ _ h)
theorem mo_oRetR  : jMono oRetR := by
  intro a b t ce ce' pc loc st S k k' hc hk r h
  unfold oRetR at h ⊢
  (repeat' split at h) <;> first | (cases h; done) | ((repeat (first | rw [if_pos (by assumption)] | rw [if_neg (by assumption)])); first | exact h | exact hk _ _ _ _ _ h)
theorem gr_oRetZ  : jGro oRetZ := by
  intro a b t ce pc loc st S k r hc hk h
  unfold oRetZ at h
  (repeat' split at h) <;> first | (cases h; done) | (cases h; exact grow.rfl') | (have q := hk _ _ _ _ _ h; exact ⟨q.1, q.2⟩) | exact grow_new.trans (hk _ _ _ _ _ h) | exact (grow_new.trans ((grow_rows _ _).trans (grow_rowsR _ _))).trans (hk _ _ _ _ _ h)
theorem mo_oRetZ  : jMono oRetZ := by
  intro a b t ce ce' pc loc st S k k' hc hk r h
  unfold oRetZ at h ⊢
  (repeat' split at h) <;> first | (cases h; done) | ((repeat (first | rw [if_pos (by assumption)] | rw [if_neg (by assumption)])); first | exact h | exact hk _ _ _ _ _ h)
theorem gr_oRetV  : jGro oRetV := by
  intro a b t ce pc loc st S k r hc hk h
  unfold oRetV at h
  (repeat' split at h) <;> first | (cases h; done) | (cases h; exact grow.rfl') | (have q := hk _ _ _ _ _ h; exact ⟨q.1, q.2⟩) | exact grow_new.trans (hk _ _ _ _ _ h) | exact (grow_new.trans ((grow_rows _ _).trans (grow_rowsR _ _))).trans (hk _ _ _ _ _ h)
theorem mo_oRetV  : jMono oRetV := by
  intro a b t ce ce' pc loc st S k k' hc hk r h
  unfold oRetV at h ⊢
  (repeat' split at h) <;> first | (cases h; done) | ((repeat (first | rw [if_pos (by assumption)] | rw [if_neg (by assumption)])); first | exact h | exact hk _ _ _ _ _ h)
theorem gr_oCopy  : jGro oCopy := by
  intro a b t ce pc loc st S k r hc hk h
  unfold oCopy at h
  (repeat' split at h) <;> first | (cases h; done) | (cases h; exact grow.rfl') | (have q := hk _ _ _ _ _ h; exact ⟨q.1, q.2⟩) | exact grow_new.trans (hk _ _ _ _ _ h) | exact (grow_new.trans ((grow_rows _ _).trans (grow_rowsR _ _))).trans (hk _ _ _ _ _ h)
theorem mo_oCopy  : jMono oCopy := by
  intro a b t ce ce' pc loc st S k k' hc hk r h
  unfold oCopy at h ⊢
  (repeat' split at h) <;> first | (cases h; done) | ((repeat (first | rw [if_pos (by assumption)] | rw [if_neg (by assumption)])); first | exact h | exact hk _ _ _ _ _ h)
theorem gr_oLdcS  : jGro oLdcS := by
  intro a b t ce pc loc st S k r hc hk h
  unfold oLdcS at h
  (repeat' split at h) <;> first | (cases h; done) | (cases h; exact grow.rfl') | (have q := hk _ _ _ _ _ h; exact ⟨q.1, q.2⟩) | exact grow_new.trans (hk _ _ _ _ _ h) | exact (grow_new.trans ((grow_rows _ _).trans (grow_rowsR _ _))).trans (hk _ _ _ _ _ h)
theorem mo_oLdcS  : jMono oLdcS := by
  intro a b t ce ce' pc loc st S k k' hc hk r h
  unfold oLdcS at h ⊢
  (repeat' split at h) <;> first | (cases h; done) | ((repeat (first | rw [if_pos (by assumption)] | rw [if_neg (by assumption)])); first | exact h | exact hk _ _ _ _ _ h)
theorem gr_oSLen  : jGro oSLen := by
  intro a b t ce pc loc st S k r hc hk h
  unfold oSLen at h
  (repeat' split at h) <;> first | (cases h; done) | (cases h; exact grow.rfl') | (have q := hk _ _ _ _ _ h; exact ⟨q.1, q.2⟩) | exact grow_new.trans (hk _ _ _ _ _ h) | exact (grow_new.trans ((grow_rows _ _).trans (grow_rowsR _ _))).trans (hk _ _ _ _ _ h)
theorem mo_oSLen  : jMono oSLen := by
  intro a b t ce ce' pc loc st S k k' hc hk r h
  unfold oSLen at h ⊢
  (repeat' split at h) <;> first | (cases h; done) | ((repeat (first | rw [if_pos (by assumption)] | rw [if_neg (by assumption)])); first | exact h | exact hk _ _ _ _ _ h)
theorem gr_oSChr  : jGro oSChr := by
  intro a b t ce pc loc st S k r hc hk h
  unfold oSChr at h
  (repeat' split at h) <;> first | (cases h; done) | (cases h; exact grow.rfl') | (have q := hk _ _ _ _ _ h; exact ⟨q.1, q.2⟩) | exact grow_new.trans (hk _ _ _ _ _ h) | exact (grow_new.trans ((grow_rows _ _).trans (grow_rowsR _ _))).trans (hk _ _ _ _ _ h)
theorem mo_oSChr  : jMono oSChr := by
  intro a b t ce ce' pc loc st S k k' hc hk r h
  unfold oSChr at h ⊢
  (repeat' split at h) <;> first | (cases h; done) | ((repeat (first | rw [if_pos (by assumption)] | rw [if_neg (by assumption)])); first | exact h | exact hk _ _ _ _ _ h)
theorem gr_oAld (ta tv : Nat) : jGro (oAld ta tv) := by
  intro a b t ce pc loc st S k r hc hk h
  unfold oAld at h
  (repeat' split at h) <;> first | (cases h; done) | (cases h; exact grow.rfl') | (have q := hk _ _ _ _ _ h; exact ⟨q.1, q.2⟩) | exact grow_new.trans (hk _ _ _ _ _ h) | exact (grow_new.trans ((grow_rows _ _).trans (grow_rowsR _ _))).trans (hk _ _ _ _ _ h)
theorem mo_oAld (ta tv : Nat) : jMono (oAld ta tv) := by
  intro a b t ce ce' pc loc st S k k' hc hk r h
  unfold oAld at h ⊢
  (repeat' split at h) <;> first | (cases h; done) | ((repeat (first | rw [if_pos (by assumption)] | rw [if_neg (by assumption)])); first | exact h | exact hk _ _ _ _ _ h)
theorem gr_oAst (ta tv : Nat) : jGro (oAst ta tv) := by
  intro a b t ce pc loc st S k r hc hk h
  unfold oAst at h
  (repeat' split at h) <;> first | (cases h; done) | (cases h; exact grow.rfl') | (have q := hk _ _ _ _ _ h; exact ⟨q.1, q.2⟩) | exact grow_new.trans (hk _ _ _ _ _ h) | exact (grow_new.trans ((grow_rows _ _).trans (grow_rowsR _ _))).trans (hk _ _ _ _ _ h)
theorem mo_oAst (ta tv : Nat) : jMono (oAst ta tv) := by
  intro a b t ce ce' pc loc st S k k' hc hk r h
  unfold oAst at h ⊢
  (repeat' split at h) <;> first | (cases h; done) | ((repeat (first | rw [if_pos (by assumption)] | rw [if_neg (by assumption)])); first | exact h | exact hk _ _ _ _ _ h)
theorem gr_oNewA (n : Nat) : jGro (oNewA n) := by
  intro a b t ce pc loc st S k r hc hk h
  unfold oNewA at h
  (repeat' split at h) <;> first | (cases h; done) | (cases h; exact grow.rfl') | (have q := hk _ _ _ _ _ h; exact ⟨q.1, q.2⟩) | exact grow_new.trans (hk _ _ _ _ _ h) | exact (grow_new.trans ((grow_rows _ _).trans (grow_rowsR _ _))).trans (hk _ _ _ _ _ h)
theorem mo_oNewA (n : Nat) : jMono (oNewA n) := by
  intro a b t ce ce' pc loc st S k k' hc hk r h
  unfold oNewA at h ⊢
  (repeat' split at h) <;> first | (cases h; done) | ((repeat (first | rw [if_pos (by assumption)] | rw [if_neg (by assumption)])); first | exact h | exact hk _ _ _ _ _ h)
theorem gr_oRet (t : Nat) : jGro (oRet t) := by
  intro a b t ce pc loc st S k r hc hk h
  unfold oRet at h
  (repeat' split at h) <;> first | (cases h; done) | (cases h; exact grow.rfl') | (have q := hk _ _ _ _ _ h; exact ⟨q.1, q.2⟩) | exact grow_new.trans (hk _ _ _ _ _ h) | exact (grow_new.trans ((grow_rows _ _).trans (grow_rowsR _ _))).trans (hk _ _ _ _ _ h)
theorem mo_oRet (t : Nat) : jMono (oRet t) := by
  intro a b t ce ce' pc loc st S k k' hc hk r h
  unfold oRet at h ⊢
  (repeat' split at h) <;> first | (cases h; done) | ((repeat (first | rw [if_pos (by assumption)] | rw [if_neg (by assumption)])); first | exact h | exact hk _ _ _ _ _ h)
theorem gr_oTab : jGro oTab := by
  intro a b t ce pc loc st S k r hc hk h
  unfold oTab at h
  split at h
  · exact jsw_gro (fun t h => hk _ _ _ _ _ h) _ _ h
  · cases h
theorem mo_oTab : jMono oTab := by
  intro a b t ce ce' pc loc st S k k' hc hk r h
  unfold oTab at h ⊢
  split at h
  · exact jsw_mono (fun t h => hk _ _ _ _ _ h) _ _ h
  · cases h
theorem gr_oLook : jGro oLook := by
  intro a b t ce pc loc st S k r hc hk h
  unfold oLook at h
  split at h
  · exact jlk_gro (fun t h => hk _ _ _ _ _ h) _ h
  · cases h
theorem mo_oLook : jMono oLook := by
  intro a b t ce ce' pc loc st S k k' hc hk r h
  unfold oLook at h ⊢
  split at h
  · exact jlk_mono (fun t h => hk _ _ _ _ _ h) _ h
  · cases h
theorem gr_oCall : jGro oCall := by
  intro a b t ce pc loc st S k r hc hk h
  unfold oCall at h
  split at h
  case isFalse => cases h
  split at h
  case isFalse => cases h
  rw [Option.bind_eq_some_iff] at h
  obtain ⟨⟨z, S'⟩, h1, h2⟩ := h
  exact (hc _ _ _ _ _ h1).trans (hk _ _ _ _ _ h2)
theorem mo_oCall : jMono oCall := by
  intro a b t ce ce' pc loc st S k k' hc hk r h
  unfold oCall at h ⊢
  split at h
  case isFalse => cases h
  split at h
  case isFalse => cases h
  rw [if_pos (by assumption), if_pos (by assumption)]
  rw [Option.bind_eq_some_iff] at h ⊢
  obtain ⟨q, h1, h2⟩ := h
  exact ⟨q, hc _ _ _ _ h1, hk _ _ _ _ _ h2⟩
theorem gr_oCallV : jGro oCallV := by
  intro a b t ce pc loc st S k r hc hk h
  unfold oCallV at h
  split at h
  case h_2 => cases h
  split at h
  case isFalse => cases h
  split at h
  case isFalse => cases h
  exact gr_oCall a b t ce pc loc st S k r hc hk h
theorem mo_oCallV : jMono oCallV := by
  intro a b t ce ce' pc loc st S k k' hc hk r h
  unfold oCallV at h ⊢
  split at h
  case h_2 => cases h
  split at h
  case isFalse => cases h
  split at h
  case isFalse => cases h
  rw [if_pos (by assumption), if_pos (by assumption)]
  exact mo_oCall a b t ce ce' pc loc st S k k' hc hk r h
theorem gr_oSld : jGro oSld := by
  intro a b t ce pc loc st S k r hc hk h
  unfold oSld at h
  split at h
  case h_2 => cases h
  split at h
  case isFalse => cases h
  split at h
  case isFalse => cases h
  rw [Option.bind_eq_some_iff] at h
  obtain ⟨q, h1, h2⟩ := h
  exact hk _ _ _ _ _ h2
theorem mo_oSld : jMono oSld := by
  intro a b t ce ce' pc loc st S k k' hc hk r h
  unfold oSld at h ⊢
  split at h
  case h_2 => cases h
  split at h
  case isFalse => cases h
  split at h
  case isFalse => cases h
  rw [if_pos (by assumption), if_pos (by assumption)]
  rw [Option.bind_eq_some_iff] at h ⊢
  obtain ⟨q, h1, h2⟩ := h
  exact ⟨q, hc _ _ _ _ h1, hk _ _ _ _ _ h2⟩
theorem gr_oSlen : jGro oSlen := by
  intro a b t ce pc loc st S k r hc hk h
  unfold oSlen at h
  split at h
  case h_2 => cases h
  split at h
  case isFalse => cases h
  split at h
  case isFalse => cases h
  rw [Option.bind_eq_some_iff] at h
  obtain ⟨q, h1, h2⟩ := h
  exact hk _ _ _ _ _ h2
theorem mo_oSlen : jMono oSlen := by
  intro a b t ce ce' pc loc st S k k' hc hk r h
  unfold oSlen at h ⊢
  split at h
  case h_2 => cases h
  split at h
  case isFalse => cases h
  split at h
  case isFalse => cases h
  rw [if_pos (by assumption), if_pos (by assumption)]
  rw [Option.bind_eq_some_iff] at h ⊢
  obtain ⟨q, h1, h2⟩ := h
  exact ⟨q, hc _ _ _ _ h1, hk _ _ _ _ _ h2⟩
theorem gr_all : ∀ n : Nat, jGro (jops.getD n oBad)
  | 0 => gr_oBad
  | 1 => gr_oPush 0 1
  | 2 => gr_oPush 0 2
  | 3 => gr_oPush 0 3
  | 4 => gr_oPush 0 2
  | 5 => gr_oPush 0 3
  | 6 => gr_oPush 1 1
  | 7 => gr_oPush 1 3
  | 8 => gr_oLoad 0 1
  | 9 => gr_oLoad 0 2
  | 10 => gr_oLoad 1 1
  | 11 => gr_oLoad 1 2
  | 12 => gr_oALoad 1
  | 13 => gr_oALoad 2
  | 14 => gr_oStore 1
  | 15 => gr_oStore 2
  | 16 => gr_oLStore 1
  | 17 => gr_oLStore 2
  | 18 => gr_oAStore 1
  | 19 => gr_oAStore 2
  | 20 => gr_oIinc
  | 21 => gr_oBin jadd
  | 22 => gr_oBin jsub
  | 23 => gr_oBin jmul
  | 24 => gr_oDiv jdiv
  | 25 => gr_oDiv jrem
  | 26 => gr_oIneg
  | 27 => gr_oBin iShl
  | 28 => gr_oBin iShr
  | 29 => gr_oBin iUshr
  | 30 => gr_oBin iAnd
  | 31 => gr_oBin iOr
  | 32 => gr_oBin iXor
  | 33 => gr_oBinL ladd
  | 34 => gr_oBinL lsub
  | 35 => gr_oBinL lmul
  | 36 => gr_oDivL ldiv
  | 37 => gr_oDivL lrem
  | 38 => gr_oBinL lAnd
  | 39 => gr_oBinL lOr
  | 40 => gr_oShL lShl
  | 41 => gr_oShL lShr
  | 42 => gr_oLcmp
  | 43 => gr_oI2l
  | 44 => gr_oL2i
  | 45 => gr_oDup
  | 46 => gr_oDup2
  | 47 => gr_oPop
  | 48 => gr_oIfEq
  | 49 => gr_oIfNe
  | 50 => gr_oIfLt
  | 51 => gr_oIfGe
  | 52 => gr_oIfGt
  | 53 => gr_oIfLe
  | 54 => gr_oIcEq
  | 55 => gr_oIcNe
  | 56 => gr_oIcLt
  | 57 => gr_oIcGe
  | 58 => gr_oIcGt
  | 59 => gr_oIcLe
  | 60 => gr_oGoto
  | 61 => gr_oIfNN
  | 62 => gr_oTab
  | 63 => gr_oLook
  | 64 => gr_oGet
  | 65 => gr_oGetR
  | 66 => gr_oPut
  | 67 => gr_oPutZ
  | 68 => gr_oPutR
  | 69 => gr_oPutR
  | 70 => gr_oAld 24 0
  | 71 => gr_oAld 25 1
  | 72 => gr_oAld 26 0
  | 73 => gr_oAld 23 0
  | 74 => gr_oAald
  | 75 => gr_oAst 24 0
  | 76 => gr_oAst 25 1
  | 77 => gr_oZst
  | 78 => gr_oCst
  | 79 => gr_oAast
  | 80 => gr_oLen
  | 81 => gr_oNew
  | 82 => gr_oNewA 2
  | 83 => gr_oNewA 3
  | 84 => gr_oMulti
  | 85 => gr_oCallV
  | 86 => gr_oCallV
  | 87 => gr_oCallV
  | 88 => gr_oCallV
  | 89 => gr_oCall
  | 90 => gr_oObj
  | 91 => gr_oRet 0
  | 92 => gr_oRet 1
  | 93 => gr_oRetR
  | 94 => gr_oRetZ
  | 95 => gr_oRetV
  | 96 => gr_oPush 24 1
  | 97 => gr_oCopy
  | 98 => gr_oLdcS
  | 99 => gr_oSLen
  | 100 => gr_oSChr
  | 101 => gr_oSld
  | 102 => gr_oSlen
  | n + 103 => gr_oBad
theorem mo_all : ∀ n : Nat, jMono (jops.getD n oBad)
  | 0 => mo_oBad
  | 1 => mo_oPush 0 1
  | 2 => mo_oPush 0 2
  | 3 => mo_oPush 0 3
  | 4 => mo_oPush 0 2
  | 5 => mo_oPush 0 3
  | 6 => mo_oPush 1 1
  | 7 => mo_oPush 1 3
  | 8 => mo_oLoad 0 1
  | 9 => mo_oLoad 0 2
  | 10 => mo_oLoad 1 1
  | 11 => mo_oLoad 1 2
  | 12 => mo_oALoad 1
  | 13 => mo_oALoad 2
  | 14 => mo_oStore 1
  | 15 => mo_oStore 2
  | 16 => mo_oLStore 1
  | 17 => mo_oLStore 2
  | 18 => mo_oAStore 1
  | 19 => mo_oAStore 2
  | 20 => mo_oIinc
  | 21 => mo_oBin jadd
  | 22 => mo_oBin jsub
  | 23 => mo_oBin jmul
  | 24 => mo_oDiv jdiv
  | 25 => mo_oDiv jrem
  | 26 => mo_oIneg
  | 27 => mo_oBin iShl
  | 28 => mo_oBin iShr
  | 29 => mo_oBin iUshr
  | 30 => mo_oBin iAnd
  | 31 => mo_oBin iOr
  | 32 => mo_oBin iXor
  | 33 => mo_oBinL ladd
  | 34 => mo_oBinL lsub
  | 35 => mo_oBinL lmul
  | 36 => mo_oDivL ldiv
  | 37 => mo_oDivL lrem
  | 38 => mo_oBinL lAnd
  | 39 => mo_oBinL lOr
  | 40 => mo_oShL lShl
  | 41 => mo_oShL lShr
  | 42 => mo_oLcmp
  | 43 => mo_oI2l
  | 44 => mo_oL2i
  | 45 => mo_oDup
  | 46 => mo_oDup2
  | 47 => mo_oPop
  | 48 => mo_oIfEq
  | 49 => mo_oIfNe
  | 50 => mo_oIfLt
  | 51 => mo_oIfGe
  | 52 => mo_oIfGt
  | 53 => mo_oIfLe
  | 54 => mo_oIcEq
  | 55 => mo_oIcNe
  | 56 => mo_oIcLt
  | 57 => mo_oIcGe
  | 58 => mo_oIcGt
  | 59 => mo_oIcLe
  | 60 => mo_oGoto
  | 61 => mo_oIfNN
  | 62 => mo_oTab
  | 63 => mo_oLook
  | 64 => mo_oGet
  | 65 => mo_oGetR
  | 66 => mo_oPut
  | 67 => mo_oPutZ
  | 68 => mo_oPutR
  | 69 => mo_oPutR
  | 70 => mo_oAld 24 0
  | 71 => mo_oAld 25 1
  | 72 => mo_oAld 26 0
  | 73 => mo_oAld 23 0
  | 74 => mo_oAald
  | 75 => mo_oAst 24 0
  | 76 => mo_oAst 25 1
  | 77 => mo_oZst
  | 78 => mo_oCst
  | 79 => mo_oAast
  | 80 => mo_oLen
  | 81 => mo_oNew
  | 82 => mo_oNewA 2
  | 83 => mo_oNewA 3
  | 84 => mo_oMulti
  | 85 => mo_oCallV
  | 86 => mo_oCallV
  | 87 => mo_oCallV
  | 88 => mo_oCallV
  | 89 => mo_oCall
  | 90 => mo_oObj
  | 91 => mo_oRet 0
  | 92 => mo_oRet 1
  | 93 => mo_oRetR
  | 94 => mo_oRetZ
  | 95 => mo_oRetV
  | 96 => mo_oPush 24 1
  | 97 => mo_oCopy
  | 98 => mo_oLdcS
  | 99 => mo_oSLen
  | 100 => mo_oSChr
  | 101 => mo_oSld
  | 102 => mo_oSlen
  | n + 103 => mo_oBad
theorem jrun_gro {ce : jC} {cd : List jI} (hc : jGroC ce) : ∀ n : Nat, jGroT (jrun ce cd n)
  | 0 => fun _ _ _ _ _ h => by cases h
  | n + 1 => fun pc loc st S r h => gr_all _ _ _ _ ce pc loc st S _ r hc (jrun_gro hc n) h
/-- the arguments' words fit, and it isn't the law -/
def jfit (m : Nat) (args : List jV) : Bool := decide ((args.flatMap fun v => if v.1 = 1 then [v, (2, -1)] else [v]).length ≤ jml0 m ∧ m < 342)
/-- the methods, at most d calls deep, at most F steps each -/
def jeva (F : Nat) : Nat → jC
  | 0 => fun _ _ _ => none
  | d + 1 => fun m args S => if jfit m args then jrun (jeva F d) (jcd m) F 0 (jent args (jml0 m)) [] S else none
theorem jeva_fit {F d m : Nat} {args : List jV} {S : jS} {r : Int × jS} (h : jeva F (d + 1) m args S = some r) : jfit m args = true ∧ jrun (jeva F d) (jcd m) F 0 (jent args (jml0 m)) [] S = some r := by
  unfold jeva at h
  split at h
  · exact ⟨by assumption, h⟩
  · cases h
theorem jeva_gro (F : Nat) : ∀ d : Nat, jGroC (jeva F d)
  | 0 => fun _ _ _ _ _ h => by cases h
  | d + 1 => fun m a S z S' h => jrun_gro (jeva_gro F d) F _ _ _ _ _ (jeva_fit h).2
theorem jrun_mono {ce ce' : jC} {cd : List jI} (hc : jleC ce ce') : ∀ n n' : Nat, n ≤ n' → jleT (jrun ce cd n) (jrun ce' cd n')
  | 0, _, _ => fun _ _ _ _ _ h => by cases h
  | n + 1, 0, h => absurd h (by omega)
  | n + 1, n' + 1, hn => fun pc loc st S r h => mo_all _ _ _ _ ce ce' pc loc st S _ _ hc (jrun_mono hc n n' (by omega)) r h
theorem jeva_mono {F F' : Nat} (hF : F ≤ F') : ∀ d d' : Nat, d ≤ d' → jleC (jeva F d) (jeva F' d')
  | 0, _, _ => fun _ _ _ _ h => by cases h
  | d + 1, 0, h => absurd h (by omega)
  | d + 1, d' + 1, hd => fun m a S r h => by
    obtain ⟨h1, h2⟩ := jeva_fit h
    unfold jeva
    rw [if_pos h1]
    exact jrun_mono (jeva_mono hF d d' (by omega)) F F' hF _ _ _ _ r h2
