/-! the pure machine's store and the heap -/
abbrev jtys (cy : Nat → ClassId) : List (ClassId × FieldType) := [(cy 13, .char), (cy 14, .int), (cy 15, .long), (cy 16, .boolean), (cy 17, .object RX1), (cy 18, .object RX3), (cy 19, .array .int)]
def jref (ad : Int → Nat) (z : Int) : Option Nat := if z = -1 then none else some (ad z)
def jtr (ad : Int → Nat) (v : jV) : Value := if v.1 = 0 then .int (Int32.ofInt v.2) else if v.1 = 1 then .long (Int64.ofInt v.2) else va_rf (jref ad v.2)
/-- the type's code of slot j of an object of class c: 0 int, 1 long, 2 boolean, 10 + k a reference to a cell of kind k -/
def jty (c j : Nat) : Nat := (jtc.getD c []).getD j 0
def jfv (ad : Int → Nat) (S : jS) (k : Nat) (c j : Nat) : Value := if jty c j = 1 then .long (Int64.ofInt (S.2 k j)) else if jty c j ≤ 2 then .int (Int32.ofInt (S.2 k j)) else va_rf (jref ad (gR S.1 k j))
def jfs (ad : Int → Nat) (S : jS) (k c : Nat) : List Value := (List.range (jnf.getD c 0)).map (jfv ad S k c)
def jcell (cy : Nat → ClassId) (ad : Int → Nat) (S : jS) (k : Nat) : va_E :=
  if gK S.1 k ≤ 12 then .inr (gK S.1 k, jfs ad S k (gK S.1 k))
  else if gK S.1 k = 15 then .inl (cy 15, (gL S.1 k).toNat, .inr (.inl (fun j => Int64.ofInt (S.2 k j))))
  else if gK S.1 k ≤ 16 then .inl (cy (gK S.1 k), (gL S.1 k).toNat, .inl (fun j => Int32.ofInt (S.2 k j)))
  else .inl (cy (gK S.1 k), (gL S.1 k).toNat, .inr (.inr (.inr (.inr (fun j => jref ad (gR S.1 k j))))))
def jwld (cy : Nat → ClassId) (ad : Int → Nat) (S : jS) : va_W := (List.range (gN S.1)).map (fun k : Nat => (ad (k : Int), jcell cy ad S k))
def jokr (S : jS) (q : Nat) (z : Int) : Prop := z = -1 ∨ (0 ≤ z ∧ z < gN S.1 ∧ gK S.1 z = q)
def jok (S : jS) (v : jV) : Prop := (v.1 = 0 → j32 v.2) ∧ (v.1 = 1 → j64 v.2) ∧ (10 ≤ v.1 → v.1 ≤ 29 → jokr S (v.1 - 10) v.2) ∧ (30 ≤ v.1 → v.2 ≠ -1 ∧ v.2 < 0) ∧ (2 ≤ v.1 → v.2 < gN S.1)
def jnum (tc : Nat) (z : Int) : Prop := (tc = 0 → j32 z) ∧ (tc = 1 → j64 z) ∧ (tc = 2 → z = 0 ∨ z = 1) ∧ (tc = 3 → 0 ≤ z ∧ z ≤ 65535)
/-- what an array of a kind holds -/
def jel (kd : Nat) : Nat := if kd = 13 then 3 else if kd = 14 then 0 else if kd = 15 then 1 else if kd = 16 then 2 else if kd = 17 then 11 else if kd = 18 then 13 else 24
def jWFo (S : jS) (k : Nat) : Prop := ∀ j : Nat, j < jnf.getD (gK S.1 k) 0 → jnum (jty (gK S.1 k) j) (S.2 k j) ∧ (10 ≤ jty (gK S.1 k) j → jokr S (jty (gK S.1 k) j - 10) (gR S.1 k j))
def jWFa (S : jS) (k : Nat) : Prop := (0 ≤ gL S.1 k ∧ gL S.1 k ≤ 200000) ∧ ∀ j : Nat, (j : Int) < gL S.1 k → jnum (jel (gK S.1 k)) (S.2 k j) ∧ (10 ≤ jel (gK S.1 k) → jokr S (jel (gK S.1 k) - 10) (gR S.1 k j))
def jWF (S : jS) : Prop := ∀ k : Nat, k < gN S.1 → gK S.1 k ≤ 19 ∧ (gK S.1 k ≤ 12 → jWFo S k) ∧ (13 ≤ gK S.1 k → jWFa S k)
theorem rng_get {α : Type} (f : Nat → α) {n k : Nat} (h : k < n) : ((List.range n).map f)[k]? = some (f k) := by
  rw [List.getElem?_map, List.getElem?_range h]
  rfl
theorem rng_set {α : Type} (f g : Nat → α) {n i : Nat} (h : i < n) (hne : ∀ k, k < n → k ≠ i → g k = f k) : ((List.range n).map f).set i (g i) = (List.range n).map g := by
  apply List.ext_getElem?
  intro k
  by_cases hk : k < n
  · rw [rng_get g hk]
    by_cases e : k = i
    · subst e
      rw [List.getElem?_set_self (by simp; exact h)]
    · rw [List.getElem?_set_ne (fun q => e q.symm), rng_get f hk, hne k hk e]
  · rw [List.getElem?_eq_none (by simp; omega), List.getElem?_eq_none (by simp; omega)]
theorem jwld_get (cy : Nat → ClassId) (ad : Int → Nat) (S : jS) {k : Nat} (h : k < gN S.1) : (jwld cy ad S)[k]? = some (ad k, jcell cy ad S k) := rng_get _ h
/-- a cell of the world, by its number -/
theorem jw_at (cy : Nat → ClassId) (ad : Int → Nat) {S : jS} {z : Int} (h0 : 0 ≤ z) (h : z < gN S.1) : (jwld cy ad S)[z.toNat]? = some (ad z, jcell cy ad S z.toNat) := by
  rw [jwld_get cy ad S (by omega)]
  rw [Int.toNat_of_nonneg h0]
theorem jw_obj {cy : Nat → ClassId} {ad : Int → Nat} {S : jS} {z : Int} {c : Nat} (h0 : 0 ≤ z) (h : z < gN S.1) (hk : gK S.1 z = c) (hc : c ≤ 12) : (jwld cy ad S)[z.toNat]? = some (ad z, .inr (c, jfs ad S z.toNat c)) := by
  rw [jw_at cy ad h0 h, jcell, Int.toNat_of_nonneg h0, hk, if_pos hc]
theorem jw_int {cy : Nat → ClassId} {ad : Int → Nat} {S : jS} {z : Int} {q : Nat} (h0 : 0 ≤ z) (h : z < gN S.1) (hk : gK S.1 z = q) (hq : 13 ≤ q) (hq2 : q ≤ 16) (hq3 : q ≠ 15) : (jwld cy ad S)[z.toNat]? = some (ad z, .inl (cy q, (gL S.1 z).toNat, .inl (fun j => Int32.ofInt (S.2 z j)))) := by
  rw [jw_at cy ad h0 h, jcell, Int.toNat_of_nonneg h0, hk, if_neg (by omega), if_neg hq3, if_pos hq2]
theorem jw_long {cy : Nat → ClassId} {ad : Int → Nat} {S : jS} {z : Int} (h0 : 0 ≤ z) (h : z < gN S.1) (hk : gK S.1 z = 15) : (jwld cy ad S)[z.toNat]? = some (ad z, .inl (cy 15, (gL S.1 z).toNat, .inr (.inl (fun j => Int64.ofInt (S.2 z j))))) := by
  rw [jw_at cy ad h0 h, jcell, Int.toNat_of_nonneg h0, hk, if_neg (by omega), if_pos rfl]
theorem jw_refs {cy : Nat → ClassId} {ad : Int → Nat} {S : jS} {z : Int} {q : Nat} (h0 : 0 ≤ z) (h : z < gN S.1) (hk : gK S.1 z = q) (hq : 17 ≤ q) : (jwld cy ad S)[z.toNat]? = some (ad z, .inl (cy q, (gL S.1 z).toNat, .inr (.inr (.inr (.inr (fun j => jref ad (gR S.1 z j))))))) := by
  rw [jw_at cy ad h0 h, jcell, Int.toNat_of_nonneg h0, hk, if_neg (by omega), if_neg (by omega), if_neg (by omega)]
theorem jfs_get {ad : Int → Nat} {S : jS} {k c j : Nat} (h : j < jnf.getD c 0) : (jfs ad S k c)[j]? = some (jfv ad S k c j) := rng_get _ h
theorem jup_eq (f : Int → Int → Int) (k j z : Int) : jup f k j z k j = z := by simp [jup]
theorem jup_ne {f : Int → Int → Int} {k j z a b : Int} (h : a ≠ k ∨ b ≠ j) : jup f k j z a b = f a b := by
  unfold jup
  by_cases e : a = k
  · rw [if_pos e, if_neg (by rcases h with h | h; exact absurd e h; exact h)]
  · rw [if_neg e]
theorem jup_k {f : Int → Int → Int} {k j z a b : Int} (h : a ≠ k) : jup f k j z a b = f a b := jup_ne (Or.inl h)
theorem jup_j {f : Int → Int → Int} {k j z a b : Int} (h : b ≠ j) : jup f k j z a b = f a b := jup_ne (Or.inr h)
/-- a cell that is as it was -/
theorem jcell_cong {cy : Nat → ClassId} {ad ad' : Int → Nat} {S S' : jS} {k : Nat} (hK : gK S'.1 k = gK S.1 k) (hL : gL S'.1 k = gL S.1 k) (hX : ∀ j : Nat, S'.2 k j = S.2 k j) (hR : ∀ j : Nat, jref ad' (gR S'.1 k j) = jref ad (gR S.1 k j)) : jcell cy ad' S' k = jcell cy ad S k := by
  have e1 : jfs ad' S' k (gK S.1 k) = jfs ad S k (gK S.1 k) := by
    unfold jfs
    congr 1
    funext j
    unfold jfv
    rw [hX, hR]
  unfold jcell
  rw [hK, hL, e1]
  simp only [hX, hR]
/-- one cell has changed -/
theorem jw_set {cy : Nat → ClassId} {ad : Int → Nat} {S S' : jS} {z : Int} {e : va_E} (h0 : 0 ≤ z) (h : z < gN S.1) (hN : gN S'.1 = gN S.1) (he : jcell cy ad S' z.toNat = e) (ho : ∀ k : Nat, k < gN S.1 → (k : Int) ≠ z → jcell cy ad S' k = jcell cy ad S k) : (jwld cy ad S).set z.toNat (ad z, e) = jwld cy ad S' := by
  unfold jwld
  rw [hN]
  have := rng_set (fun k : Nat => (ad (k : Int), jcell cy ad S k)) (fun k : Nat => (ad (k : Int), jcell cy ad S' k)) (n := gN S.1) (i := z.toNat) (by omega) (fun k hk hne => by
    try dsimp only
    rw [ho k hk (by omega)])
  rw [he, Int.toNat_of_nonneg h0] at this
  exact this
/-- a number of an object -/
theorem jw_setX {cy : Nat → ClassId} {ad : Int → Nat} {S : jS} {z : Int} {c j : Nat} {x : Int} {v : Value} (h0 : 0 ≤ z) (h : z < gN S.1) (hk : gK S.1 z = c) (hc : c ≤ 12) (hj : j < jnf.getD c 0) (hv : v = (if jty c j = 1 then Value.long (Int64.ofInt x) else .int (Int32.ofInt x))) (ht : jty c j ≤ 2) :
    (jwld cy ad S).set z.toNat (ad z, .inr (c, (jfs ad S z.toNat c).set j v)) = jwld cy ad (S.1, jup S.2 z j x) := by
  refine jw_set (S' := (S.1, jup S.2 z j x)) h0 h rfl ?_ ?_
  · unfold jcell
    rw [Int.toNat_of_nonneg h0]
    dsimp only
    rw [hk, if_pos hc]
    congr 2
    symm
    have := rng_set (jfv ad S z.toNat c) (jfv ad (S.1, jup S.2 z j x) z.toNat c) hj (fun k _ hne => by
      unfold jfv
      dsimp only
      rw [jup_j (by omega)])
    unfold jfs
    rw [← this]
    congr 1
    unfold jfv
    dsimp only
    rw [Int.toNat_of_nonneg h0, jup_eq, hv, if_pos ht]
  · intro k hk hne
    exact jcell_cong rfl rfl (fun j => jup_k hne) (fun j => rfl)
/-- a reference of an object -/
theorem jw_setR {cy : Nat → ClassId} {ad : Int → Nat} {S : jS} {z : Int} {c j : Nat} {x : Int} (h0 : 0 ≤ z) (h : z < gN S.1) (hk : gK S.1 z = c) (hc : c ≤ 12) (hj : j < jnf.getD c 0) (ht : ¬ jty c j ≤ 2) :
    (jwld cy ad S).set z.toNat (ad z, .inr (c, (jfs ad S z.toNat c).set j (va_rf (jref ad x)))) = jwld cy ad (jsetR S z j x) := by
  refine jw_set (S' := jsetR S z j x) h0 h rfl ?_ ?_
  · unfold jcell
    rw [Int.toNat_of_nonneg h0]
    have e1 : gK (jsetR S z j x).1 z = c := hk
    rw [e1, if_pos hc]
    congr 2
    symm
    have := rng_set (jfv ad S z.toNat c) (jfv ad (jsetR S z j x) z.toNat c) hj (fun k _ hne => by
      unfold jfv jsetR gR
      dsimp only
      rw [jup_j (by omega)])
    unfold jfs
    rw [← this]
    congr 1
    unfold jfv jsetR gR
    dsimp only
    rw [Int.toNat_of_nonneg h0, jup_eq, if_neg (by omega), if_neg ht]
  · intro k hk hne
    refine jcell_cong rfl rfl (fun j => rfl) (fun j => ?_)
    unfold jsetR gR
    dsimp only
    rw [jup_k hne]
/-- an element of an array of ints, chars, booleans -/
theorem jw_setI {cy : Nat → ClassId} {ad : Int → Nat} {S : jS} {z : Int} {q : Nat} {i x : Int} {n : Nat} (h0 : 0 ≤ z) (h : z < gN S.1) (hk : gK S.1 z = q) (hq : 13 ≤ q) (hq2 : q ≤ 16) (hq3 : q ≠ 15) (hi : 0 ≤ i) (hn : n = i.toNat) :
    (jwld cy ad S).set z.toNat (ad z, .inl (cy q, (gL S.1 z).toNat, .inl (upd (fun j => Int32.ofInt (S.2 z j)) n (Int32.ofInt x)))) = jwld cy ad (S.1, jup S.2 z i x) := by
  refine jw_set (S' := (S.1, jup S.2 z i x)) h0 h rfl ?_ ?_
  · unfold jcell
    rw [Int.toNat_of_nonneg h0]
    dsimp only
    rw [hk, if_neg (by omega), if_neg hq3, if_pos hq2]
    congr 4
    funext j
    unfold upd
    by_cases e : j = n
    · rw [if_pos e, show (j : Int) = i by omega, jup_eq]
    · rw [if_neg e, jup_j (by omega)]
  · intro k hk hne
    exact jcell_cong rfl rfl (fun j => jup_k hne) (fun j => rfl)
theorem jw_setL {cy : Nat → ClassId} {ad : Int → Nat} {S : jS} {z : Int} {i x : Int} {n : Nat} (h0 : 0 ≤ z) (h : z < gN S.1) (hk : gK S.1 z = 15) (hi : 0 ≤ i) (hn : n = i.toNat) :
    (jwld cy ad S).set z.toNat (ad z, .inl (cy 15, (gL S.1 z).toNat, .inr (.inl (vp_updL (fun j => Int64.ofInt (S.2 z j)) n (Int64.ofInt x))))) = jwld cy ad (S.1, jup S.2 z i x) := by
  refine jw_set (S' := (S.1, jup S.2 z i x)) h0 h rfl ?_ ?_
  · unfold jcell
    rw [Int.toNat_of_nonneg h0]
    dsimp only
    rw [hk, if_neg (by omega), if_pos rfl]
    congr 5
    funext j
    unfold vp_updL
    by_cases e : j = n
    · rw [if_pos e, show (j : Int) = i by omega, jup_eq]
    · rw [if_neg e, jup_j (by omega)]
  · intro k hk hne
    exact jcell_cong rfl rfl (fun j => jup_k hne) (fun j => rfl)
theorem jw_setQ {cy : Nat → ClassId} {ad : Int → Nat} {S : jS} {z : Int} {q : Nat} {i x : Int} {n : Nat} (h0 : 0 ≤ z) (h : z < gN S.1) (hk : gK S.1 z = q) (hq : 17 ≤ q) (hi : 0 ≤ i) (hn : n = i.toNat) :
    (jwld cy ad S).set z.toNat (ad z, .inl (cy q, (gL S.1 z).toNat, .inr (.inr (.inr (.inr (va_up (fun j => jref ad (gR S.1 z j)) n (jref ad x))))))) = jwld cy ad (jsetR S z i x) := by
  refine jw_set (S' := jsetR S z i x) h0 h rfl ?_ ?_
  · unfold jcell
    rw [Int.toNat_of_nonneg h0]
    have e1 : gK (jsetR S z i x).1 z = q := hk
    have e2 : gL (jsetR S z i x).1 z = gL S.1 z := rfl
    rw [e1, e2, if_neg (by omega), if_neg (by omega), if_neg (by omega)]
    congr 7
    funext j
    unfold va_up jsetR gR
    dsimp only
    by_cases e : j = n
    · rw [if_pos e, show (j : Int) = i by omega, jup_eq]
    · rw [if_neg e, jup_j (by omega)]
  · intro k hk hne
    refine jcell_cong rfl rfl (fun j => rfl) (fun j => ?_)
    unfold jsetR gR
    dsimp only
    rw [jup_k hne]
