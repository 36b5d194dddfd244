/-! READING: a text of bytes, token by token -/
abbrev aT : Type := Int × (Int → Int)
/-- a place: where a token begins, and whether it touches a word or number before it -/
abbrev aK : Type := Int × Bool
def okT (T : aT) : Prop := 0 ≤ T.1 ∧ T.1 ≤ 1600 ∧ ∀ i, 0 ≤ i → i < T.1 → 0 ≤ T.2 i ∧ T.2 i ≤ 255
def bL (c : Int) : Bool := decide (97 ≤ c ∧ c ≤ 122)
def bD (c : Int) : Bool := decide (48 ≤ c ∧ c ≤ 57)
def bB (c : Int) : Bool := decide (c = 10 ∨ c = 32)
theorem bL_iff (c : Int) : bL c = true ↔ 97 ≤ c ∧ c ≤ 122 := by unfold bL; exact decide_eq_true_iff
theorem bD_iff (c : Int) : bD c = true ↔ 48 ≤ c ∧ c ≤ 57 := by unfold bD; exact decide_eq_true_iff
theorem bB_iff (c : Int) : bB c = true ↔ c = 10 ∨ c = 32 := by unfold bB; exact decide_eq_true_iff
def rnN (p : Int → Bool) (T : aT) : Nat → Int → Int
  | 0, i => i
  | m + 1, i => if i < T.1 ∧ p (T.2 i) = true then rnN p T m (i + 1) else i
/-- the end of a run -/
def rn (p : Int → Bool) (T : aT) (i : Int) : Int := rnN p T (T.1 - i).toNat i
theorem rn_eq (p : Int → Bool) (T : aT) (i : Int) : rn p T i = if i < T.1 ∧ p (T.2 i) = true then rn p T (i + 1) else i := by
  unfold rn
  by_cases h : i < T.1
  · rw [show (T.1 - i).toNat = (T.1 - (i + 1)).toNat + 1 by omega]; rfl
  · rw [show (T.1 - i).toNat = 0 by omega, if_neg (fun q => h q.1)]; rfl
theorem rn_pos {p : Int → Bool} {T : aT} {i : Int} (h : i < T.1 ∧ p (T.2 i) = true) : rn p T i = rn p T (i + 1) := by rw [rn_eq, if_pos h]
theorem rn_neg {p : Int → Bool} {T : aT} {i : Int} (h : ¬ (i < T.1 ∧ p (T.2 i) = true)) : rn p T i = i := by rw [rn_eq, if_neg h]
theorem rn_le (p : Int → Bool) (T : aT) : ∀ (m : Nat) (i : Int), (T.1 - i).toNat = m → i ≤ rn p T i ∧ (i ≤ T.1 → rn p T i ≤ T.1) ∧ ¬ (rn p T i < T.1 ∧ p (T.2 (rn p T i)) = true) ∧ ∀ j, i ≤ j → j < rn p T i → j < T.1 ∧ p (T.2 j) = true := by
  intro m
  induction m with
  | zero =>
    intro i hm
    rw [rn_neg (fun q => by omega)]
    exact ⟨by omega, fun h => h, fun q => by omega, fun j h1 h2 => by omega⟩
  | succ m ih =>
    intro i hm
    by_cases h : i < T.1 ∧ p (T.2 i) = true
    · rw [rn_pos h]
      obtain ⟨a, b, c, e⟩ := ih (i + 1) (by omega)
      refine ⟨by omega, fun _ => b (by omega), c, fun j h1 h2 => ?_⟩
      by_cases q : j = i
      · rw [q]; exact h
      · exact e j (by omega) h2
    · rw [rn_neg h]
      exact ⟨by omega, fun h => h, h, fun j h1 h2 => by omega⟩
theorem rn_ge (p : Int → Bool) (T : aT) (i : Int) : i ≤ rn p T i := (rn_le p T _ i rfl).1
theorem rn_up (p : Int → Bool) (T : aT) {i : Int} (h : i ≤ T.1) : rn p T i ≤ T.1 := (rn_le p T _ i rfl).2.1 h
theorem rn_out (p : Int → Bool) (T : aT) (i : Int) : ¬ (rn p T i < T.1 ∧ p (T.2 (rn p T i)) = true) := (rn_le p T _ i rfl).2.2.1
theorem rn_in (p : Int → Bool) (T : aT) {i j : Int} (h1 : i ≤ j) (h2 : j < rn p T i) : j < T.1 ∧ p (T.2 j) = true := (rn_le p T _ i rfl).2.2.2 j h1 h2
theorem rn_rn (p : Int → Bool) (T : aT) (i : Int) : rn p T (rn p T i) = rn p T i := rn_neg (rn_out p T i)
/-- what stands at a place: 0 the end, 1 a letter, 2 a digit, 3 else -/
def srt (T : aT) (s : Int) : Int := if T.1 ≤ s then 0 else if bL (T.2 s) = true then 1 else if bD (T.2 s) = true then 2 else 3
/-- the token's end -/
def tE (T : aT) (s : Int) : Int := if srt T s = 1 then rn bL T s else if srt T s = 2 then rn bD T s else if srt T s = 3 then s + 1 else s
/-- the place behind it -/
def nx (T : aT) (κ : aK) : aK := (rn bB T (tE T κ.1), decide ((srt T κ.1 = 1 ∨ srt T κ.1 = 2) ∧ rn bB T (tE T κ.1) = tE T κ.1))
/-- a token's sort: 4 is a word or number that touches one before it -/
def so (T : aT) (κ : aK) : Int := if κ.2 = true ∧ (srt T κ.1 = 1 ∨ srt T κ.1 = 2) then 4 else srt T κ.1
def inT (T : aT) (κ : aK) : Prop := 0 ≤ κ.1 ∧ κ.1 ≤ T.1
theorem srt_b (T : aT) (s : Int) : srt T s = 0 ∨ srt T s = 1 ∨ srt T s = 2 ∨ srt T s = 3 := by
  unfold srt
  by_cases h1 : T.1 ≤ s
  · rw [if_pos h1]; omega
  · rw [if_neg h1]
    by_cases h2 : bL (T.2 s) = true
    · rw [if_pos h2]; omega
    · rw [if_neg h2]
      by_cases h3 : bD (T.2 s) = true
      · rw [if_pos h3]; omega
      · rw [if_neg h3]; omega
theorem srt_0 {T : aT} {s : Int} : srt T s = 0 ↔ T.1 ≤ s := by
  unfold srt
  by_cases h : T.1 ≤ s
  · rw [if_pos h]; exact ⟨fun _ => h, fun _ => rfl⟩
  · rw [if_neg h]; refine ⟨fun q => ?_, fun q => absurd q h⟩
    revert q; repeat' split
    all_goals omega
theorem srt_1 {T : aT} {s : Int} : srt T s = 1 ↔ s < T.1 ∧ bL (T.2 s) = true := by
  unfold srt
  by_cases h : T.1 ≤ s
  · rw [if_pos h]; exact ⟨fun q => by omega, fun q => by omega⟩
  · rw [if_neg h]
    by_cases h2 : bL (T.2 s) = true
    · rw [if_pos h2]; exact ⟨fun _ => ⟨by omega, h2⟩, fun _ => rfl⟩
    · rw [if_neg h2]; refine ⟨fun q => ?_, fun q => absurd q.2 h2⟩
      revert q; split <;> omega
theorem srt_2 {T : aT} {s : Int} : srt T s = 2 ↔ s < T.1 ∧ bD (T.2 s) = true := by
  unfold srt
  by_cases h : T.1 ≤ s
  · rw [if_pos h]; exact ⟨fun q => by omega, fun q => by omega⟩
  · rw [if_neg h]
    by_cases h2 : bL (T.2 s) = true
    · rw [if_pos h2]
      refine ⟨fun q => by omega, fun q => ?_⟩
      rw [bL_iff] at h2
      rw [bD_iff] at q
      omega
    · rw [if_neg h2]
      by_cases h3 : bD (T.2 s) = true
      · rw [if_pos h3]; exact ⟨fun _ => ⟨by omega, h3⟩, fun _ => rfl⟩
      · rw [if_neg h3]; exact ⟨fun q => by omega, fun q => absurd q.2 h3⟩
theorem tE_le {T : aT} {s : Int} (h : s ≤ T.1) : s ≤ tE T s ∧ tE T s ≤ T.1 ∧ (srt T s ≠ 0 → s < tE T s) := by
  unfold tE
  by_cases h1 : srt T s = 1
  · rw [if_pos h1]
    have := srt_1.1 h1
    refine ⟨rn_ge _ _ _, rn_up _ _ h, fun _ => ?_⟩
    rw [rn_pos this]
    have := rn_ge bL T (s + 1)
    omega
  · rw [if_neg h1]
    by_cases h2 : srt T s = 2
    · rw [if_pos h2]
      have := srt_2.1 h2
      refine ⟨rn_ge _ _ _, rn_up _ _ h, fun _ => ?_⟩
      rw [rn_pos this]
      have := rn_ge bD T (s + 1)
      omega
    · rw [if_neg h2]
      by_cases h3 : srt T s = 3
      · rw [if_pos h3]
        have : ¬ T.1 ≤ s := fun q => by rw [srt_0.2 q] at h3; omega
        exact ⟨by omega, by omega, fun _ => by omega⟩
      · rw [if_neg h3]
        have := srt_b T s
        exact ⟨by omega, by omega, fun q => by omega⟩
theorem so_b (T : aT) (κ : aK) : (so T κ = 4 ∧ κ.2 = true ∧ (srt T κ.1 = 1 ∨ srt T κ.1 = 2)) ∨ (so T κ = srt T κ.1 ∧ (κ.2 = true → srt T κ.1 = 0 ∨ srt T κ.1 = 3)) := by
  unfold so
  by_cases h : κ.2 = true ∧ (srt T κ.1 = 1 ∨ srt T κ.1 = 2)
  · rw [if_pos h]; exact Or.inl ⟨rfl, h⟩
  · rw [if_neg h]
    refine Or.inr ⟨rfl, fun q => ?_⟩
    have := srt_b T κ.1
    have : ¬ (srt T κ.1 = 1 ∨ srt T κ.1 = 2) := fun z => h ⟨q, z⟩
    omega
theorem nx_in {T : aT} {κ : aK} (h : inT T κ) : inT T (nx T κ) ∧ (so T κ ≠ 0 → κ.1 + 1 ≤ (nx T κ).1) ∧ κ.1 ≤ (nx T κ).1 := by
  have h1 := tE_le h.2
  have h2 := rn_ge bB T (tE T κ.1)
  have h3 := rn_up bB T h1.2.1
  have h0 := h.1
  refine ⟨⟨?_, h3⟩, fun q => ?_, ?_⟩
  · show 0 ≤ rn bB T (tE T κ.1); omega
  · show κ.1 + 1 ≤ rn bB T (tE T κ.1)
    have : srt T κ.1 ≠ 0 := by rcases so_b T κ with z | z <;> omega
    have := h1.2.2 this
    omega
  · show κ.1 ≤ rn bB T (tE T κ.1); omega
/-- a sign (no letter, no digit) stands here -/
def mk (T : aT) (κ : aK) (c : Int) : Bool := decide (κ.1 < T.1 ∧ T.2 κ.1 = c)
theorem mk_iff {T : aT} {κ : aK} {c : Int} : mk T κ c = true ↔ κ.1 < T.1 ∧ T.2 κ.1 = c := by unfold mk; exact decide_eq_true_iff
/-- words -/
def mtc (T : aT) : Int → List Int → Bool
  | _, [] => true
  | s, c :: w => decide (T.2 s = c) && mtc T (s + 1) w
def isW (T : aT) (κ : aK) (w : List Int) : Bool := decide (so T κ = 1 ∧ tE T κ.1 - κ.1 = w.length) && mtc T κ.1 w
def fw (T : aT) (κ : aK) : List (List Int) → Int → Int
  | [], _ => -1
  | w :: ws, k => if isW T κ w = true then k else fw T κ ws (k + 1)
def wds : List (List Int) := [[112, 105, 116], [97, 116], [107, 105, 110, 100], [114, 101, 115, 116], [103, 97, 115], [114, 111, 119], [104, 111, 117, 115, 101], [109, 105, 120], [109, 97, 121], [119, 111, 114, 116, 104], [116, 105, 108, 116], [104, 111, 108, 100, 115], [112, 114, 111, 112, 115], [108, 101, 97, 110, 115], [100, 101, 112, 116, 104], [97, 99, 114, 111, 115, 115], [110, 101, 97, 114], [115, 112, 97, 110], [111, 112, 101, 110], [102, 97, 108, 108, 101, 110], [119, 104, 111, 108, 101], [110, 117, 109, 98, 101, 114], [116, 117, 98, 115], [111, 114], [97, 110, 100], [110, 111, 116], [97, 108, 108], [109, 105, 110], [109, 97, 120], [102, 105, 114, 115, 116], [108, 97, 115, 116], [111, 102, 116, 101, 110], [116, 111, 116, 97, 108], [109, 111, 115, 116], [108, 101, 97, 115, 116]]
def wd (T : aT) (κ : aK) : Int := fw T κ wds 0
theorem mtc_eq (T : aT) : ∀ (w v : List Int) (s : Int), w.length = v.length → mtc T s w = true → mtc T s v = true → w = v
  | [], [], _, _, _, _ => rfl
  | [], _ :: _, _, h, _, _ => by simp at h
  | _ :: _, [], _, h, _, _ => by simp at h
  | c :: w, e :: v, s, h, h1, h2 => by
    unfold mtc at h1 h2
    rw [Bool.and_eq_true, decide_eq_true_iff] at h1 h2
    rw [mtc_eq T w v (s + 1) (by simpa using h) h1.2 h2.2, ← h1.1, ← h2.1]
theorem isW_iff {T : aT} {κ : aK} {w : List Int} : isW T κ w = true ↔ (so T κ = 1 ∧ tE T κ.1 - κ.1 = w.length) ∧ mtc T κ.1 w = true := by
  unfold isW; rw [Bool.and_eq_true, decide_eq_true_iff]
theorem isW_u {T : aT} {κ : aK} {w v : List Int} (h1 : isW T κ w = true) (h2 : isW T κ v = true) : w = v := by
  rw [isW_iff] at h1 h2
  exact mtc_eq T w v κ.1 (by omega) h1.2 h2.2
theorem fw_b (T : aT) (κ : aK) : ∀ (ws : List (List Int)) (k : Int), 0 ≤ k → fw T κ ws k = -1 ∨ (k ≤ fw T κ ws k ∧ fw T κ ws k < k + ws.length)
  | [], k, _ => Or.inl rfl
  | w :: ws, k, h => by
    unfold fw
    split
    · exact Or.inr ⟨by omega, by rw [List.length_cons]; omega⟩
    · have := fw_b T κ ws (k + 1) (by omega)
      rw [List.length_cons]
      omega
theorem fw_iff (T : aT) (κ : aK) : ∀ (ws : List (List Int)) (k : Int) (j : Nat), ws.Nodup → 0 ≤ k → j < ws.length → (fw T κ ws k = k + j ↔ isW T κ (ws.getD j []) = true)
  | [], _, _, _, _, h => by simp at h
  | w :: ws, k, j, hn, hk, hj => by
    unfold fw
    rw [List.nodup_cons] at hn
    cases j with
    | zero =>
      show _ ↔ isW T κ w = true
      by_cases q : isW T κ w = true
      · rw [if_pos q]; exact ⟨fun _ => q, fun _ => by omega⟩
      · rw [if_neg q]
        refine ⟨fun z => ?_, fun z => absurd z q⟩
        have := fw_b T κ ws (k + 1) (by omega)
        omega
    | succ j =>
      have hj' : j < ws.length := by simpa using hj
      show _ ↔ isW T κ (ws.getD j []) = true
      by_cases q : isW T κ w = true
      · rw [if_pos q]
        refine ⟨fun z => by omega, fun z => ?_⟩
        exfalso
        have e := isW_u q z
        rw [List.getD_eq_getElem?_getD, List.getElem?_eq_getElem hj', Option.getD_some] at e
        exact hn.1 (e ▸ List.getElem_mem hj')
      · rw [if_neg q, ← fw_iff T κ ws (k + 1) j hn.2 (by omega) hj']
        rw [show k + 1 + (j : Int) = k + ((j + 1 : Nat) : Int) by omega]
theorem wds_nd : wds.Nodup := by decide
theorem wd_iff {T : aT} {κ : aK} (j : Nat) (h : j < 35) : wd T κ = j ↔ isW T κ (wds.getD j []) = true := by
  have := fw_iff T κ wds 0 j wds_nd (by omega) h
  rw [Int.zero_add] at this
  exact this
theorem wd_b (T : aT) (κ : aK) : wd T κ = -1 ∨ (0 ≤ wd T κ ∧ wd T κ < 35) := by
  have := fw_b T κ wds 0 (by omega)
  unfold wd
  have e : (wds.length : Int) = 35 := by decide
  omega
theorem wd_so {T : aT} {κ : aK} (h : wd T κ ≠ -1) : so T κ = 1 := by
  rcases wd_b T κ with q | q
  · exact absurd q h
  · have := (wd_iff (T := T) (κ := κ) (wd T κ).toNat (by omega)).1 (by omega)
    rw [isW_iff] at this
    exact this.1.1
theorem mk_so {T : aT} {κ : aK} {c : Int} (hc : c < 48 ∨ (57 < c ∧ c < 97) ∨ 122 < c) : mk T κ c = true ↔ (so T κ = 3 ∧ T.2 κ.1 = c) := by
  rw [mk_iff]
  constructor
  · rintro ⟨h1, h2⟩
    have a1 : srt T κ.1 ≠ 1 := fun q => by have := (srt_1.1 q).2; rw [bL_iff] at this; omega
    have a2 : srt T κ.1 ≠ 2 := fun q => by have := (srt_2.1 q).2; rw [bD_iff] at this; omega
    have a0 : srt T κ.1 ≠ 0 := fun q => by have := srt_0.1 q; omega
    have := srt_b T κ.1
    rcases so_b T κ with z | z
    · omega
    · exact ⟨by omega, h2⟩
  · rintro ⟨h1, h2⟩
    refine ⟨?_, h2⟩
    rcases so_b T κ with z | z
    · omega
    · have : srt T κ.1 ≠ 0 := by omega
      rw [ne_eq, srt_0] at this
      omega
/-- a number's value -/
def nvN (T : aT) : Nat → Int → Int → Int
  | 0, _, v => v
  | m + 1, i, v => nvN T m (i + 1) (10 * v + T.2 i - 48)
def nuV (T : aT) (s : Int) : Int := nvN T (tE T s - s).toNat s 0
theorem nvN_b {T : aT} : ∀ (m : Nat) (i v B : Int), (∀ j, i ≤ j → j < i + m → 48 ≤ T.2 j ∧ T.2 j ≤ 57) → 0 ≤ v → v < B → 0 ≤ nvN T m i v ∧ nvN T m i v < 10 ^ m * B
  | 0, i, v, B, _, h0, h1 => ⟨h0, by show v < 10 ^ 0 * B; omega⟩
  | m + 1, i, v, B, h, h0, h1 => by
    have := h i (by omega) (by omega)
    have := nvN_b (T := T) m (i + 1) (10 * v + T.2 i - 48) (10 * B) (fun j j0 j1 => h j (by omega) (by omega)) (by omega) (by omega)
    refine ⟨this.1, ?_⟩
    show nvN T m (i + 1) (10 * v + T.2 i - 48) < 10 ^ (m + 1) * B
    have e : (10 : Int) ^ (m + 1) * B = 10 ^ m * (10 * B) := by rw [Int.pow_succ, Int.mul_assoc]
    rw [e]
    exact this.2
theorem nuV_b {T : aT} {κ : aK} (h : srt T κ.1 = 2) (hl : tE T κ.1 - κ.1 ≤ 4) : 0 ≤ nuV T κ.1 ∧ nuV T κ.1 ≤ 9999 := by
  have e : tE T κ.1 = rn bD T κ.1 := by unfold tE; rw [if_neg (by omega), if_pos h]
  have hin : ∀ j, κ.1 ≤ j → j < κ.1 + (tE T κ.1 - κ.1).toNat → 48 ≤ T.2 j ∧ T.2 j ≤ 57 := fun j h1 h2 => (bD_iff _).1 (rn_in bD T h1 (by rw [← e]; omega)).2
  have hb := nvN_b (tE T κ.1 - κ.1).toNat κ.1 0 1 hin (by omega) (by omega)
  unfold nuV
  have hm : (tE T κ.1 - κ.1).toNat ≤ 4 := by omega
  generalize (tE T κ.1 - κ.1).toNat = m at hb hm ⊢
  have : (10 : Int) ^ m ≤ 10000 := by
    have : m = 0 ∨ m = 1 ∨ m = 2 ∨ m = 3 ∨ m = 4 := by omega
    rcases this with rfl | rfl | rfl | rfl | rfl <;> decide
  omega
