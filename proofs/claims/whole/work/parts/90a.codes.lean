/-! the codes are what the program's tables say -/
theorem chk_0 {P : Nat → Bool} : ∀ pc : Nat, pc < 0 → P pc = true := fun pc h => absurd h (Nat.not_lt_zero pc)
theorem chk_cat {P : Nat → Bool} {off n : Nat} (h1 : ∀ pc : Nat, pc < off → P pc = true) (h2 : (List.range n).all (fun j => P (off + j)) = true) : ∀ pc : Nat, pc < off + n → P pc = true := by
  intro pc hpc
  by_cases e : pc < off
  · exact h1 pc e
  · have := List.all_eq_true.mp h2 (pc - off) (List.mem_range.mpr (by omega))
    rw [show off + (pc - off) = pc by omega] at this
    exact this
theorem chk_end {own : Nat} {cc : ByteArray} {ret : Option FieldType} {ini : Bool} {cd : List jI} {n : Nat} (hl : cd.length ≤ n) (h : ∀ pc : Nat, pc < n → jck own cc ret ini (cd.getD pc (0, 0, 0, [])) pc = true) : ∀ pc : Nat, jck own cc ret ini (cd.getD pc (0, 0, 0, [])) pc = true := by
  intro pc
  by_cases e : pc < n
  · exact h pc e
  · rw [List.getD_eq_getElem?_getD, List.getElem?_eq_none (by omega)]
    show (true && (decide _ && (decide _ || ini))) = true
    simp

theorem ck_0_0 : (List.range 31).all (fun j => jck 0 cX0_init none true (k0.getD (0 + j) (0, 0, 0, [])) (0 + j)) = true := by decide +kernel
theorem cm_0 : ∀ pc : Nat, jck 0 cX0_init none true (k0.getD pc (0, 0, 0, [])) pc = true := chk_end (by decide +kernel) (chk_cat chk_0 ck_0_0)
theorem ck_1_0 : (List.range 6).all (fun j => jck 0 cX0_forget none false (k1.getD (0 + j) (0, 0, 0, [])) (0 + j)) = true := by decide +kernel
theorem cm_1 : ∀ pc : Nat, jck 0 cX0_forget none false (k1.getD pc (0, 0, 0, [])) pc = true := chk_end (by decide +kernel) (chk_cat chk_0 ck_1_0)
theorem ck_2_0 : (List.range 60).all (fun j => jck 0 cX0_readRows (some .int) false (k2.getD (0 + j) (0, 0, 0, [])) (0 + j)) = true := by decide +kernel
theorem ck_2_1 : (List.range 60).all (fun j => jck 0 cX0_readRows (some .int) false (k2.getD (60 + j) (0, 0, 0, [])) (60 + j)) = true := by decide +kernel
theorem ck_2_2 : (List.range 6).all (fun j => jck 0 cX0_readRows (some .int) false (k2.getD (120 + j) (0, 0, 0, [])) (120 + j)) = true := by decide +kernel
theorem cm_2 : ∀ pc : Nat, jck 0 cX0_readRows (some .int) false (k2.getD pc (0, 0, 0, [])) pc = true := chk_end (by decide +kernel) (chk_cat (chk_cat (chk_cat chk_0 ck_2_0) ck_2_1) ck_2_2)
theorem ck_3_0 : (List.range 30).all (fun j => jck 0 cX0_shifted (some .int) false (k3.getD (0 + j) (0, 0, 0, [])) (0 + j)) = true := by decide +kernel
theorem cm_3 : ∀ pc : Nat, jck 0 cX0_shifted (some .int) false (k3.getD pc (0, 0, 0, [])) pc = true := chk_end (by decide +kernel) (chk_cat chk_0 ck_3_0)
theorem ck_4_0 : (List.range 60).all (fun j => jck 0 cX0_isFit (some .boolean) false (k4.getD (0 + j) (0, 0, 0, [])) (0 + j)) = true := by decide +kernel
theorem ck_4_1 : (List.range 3).all (fun j => jck 0 cX0_isFit (some .boolean) false (k4.getD (60 + j) (0, 0, 0, [])) (60 + j)) = true := by decide +kernel
theorem cm_4 : ∀ pc : Nat, jck 0 cX0_isFit (some .boolean) false (k4.getD pc (0, 0, 0, [])) pc = true := chk_end (by decide +kernel) (chk_cat (chk_cat chk_0 ck_4_0) ck_4_1)
theorem ck_5_0 : (List.range 32).all (fun j => jck 0 cX0_fitBits (some .int) false (k5.getD (0 + j) (0, 0, 0, [])) (0 + j)) = true := by decide +kernel
theorem cm_5 : ∀ pc : Nat, jck 0 cX0_fitBits (some .int) false (k5.getD pc (0, 0, 0, [])) pc = true := chk_end (by decide +kernel) (chk_cat chk_0 ck_5_0)
theorem ck_6_0 : (List.range 18).all (fun j => jck 0 cX0_firstFit (some .int) false (k6.getD (0 + j) (0, 0, 0, [])) (0 + j)) = true := by decide +kernel
theorem cm_6 : ∀ pc : Nat, jck 0 cX0_firstFit (some .int) false (k6.getD pc (0, 0, 0, [])) pc = true := chk_end (by decide +kernel) (chk_cat chk_0 ck_6_0)
theorem ck_7_0 : (List.range 58).all (fun j => jck 0 cX0_nextCell (some .int) false (k7.getD (0 + j) (0, 0, 0, [])) (0 + j)) = true := by decide +kernel
theorem cm_7 : ∀ pc : Nat, jck 0 cX0_nextCell (some .int) false (k7.getD pc (0, 0, 0, [])) pc = true := chk_end (by decide +kernel) (chk_cat chk_0 ck_7_0)
theorem ck_8_0 : (List.range 19).all (fun j => jck 0 cX0_mostAlike (some .int) false (k8.getD (0 + j) (0, 0, 0, [])) (0 + j)) = true := by decide +kernel
theorem cm_8 : ∀ pc : Nat, jck 0 cX0_mostAlike (some .int) false (k8.getD pc (0, 0, 0, [])) pc = true := chk_end (by decide +kernel) (chk_cat chk_0 ck_8_0)
theorem ck_9_0 : (List.range 60).all (fun j => jck 0 cX0_countAlike (some .int) false (k9.getD (0 + j) (0, 0, 0, [])) (0 + j)) = true := by decide +kernel
theorem ck_9_1 : (List.range 39).all (fun j => jck 0 cX0_countAlike (some .int) false (k9.getD (60 + j) (0, 0, 0, [])) (60 + j)) = true := by decide +kernel
theorem cm_9 : ∀ pc : Nat, jck 0 cX0_countAlike (some .int) false (k9.getD pc (0, 0, 0, [])) pc = true := chk_end (by decide +kernel) (chk_cat (chk_cat chk_0 ck_9_0) ck_9_1)
theorem ck_10_0 : (List.range 20).all (fun j => jck 1 cX1_init none true (k10.getD (0 + j) (0, 0, 0, [])) (0 + j)) = true := by decide +kernel
theorem cm_10 : ∀ pc : Nat, jck 1 cX1_init none true (k10.getD pc (0, 0, 0, [])) pc = true := chk_end (by decide +kernel) (chk_cat chk_0 ck_10_0)
theorem ck_11_0 : (List.range 37).all (fun j => jck 1 cX1_start none false (k11.getD (0 + j) (0, 0, 0, [])) (0 + j)) = true := by decide +kernel
theorem cm_11 : ∀ pc : Nat, jck 1 cX1_start none false (k11.getD pc (0, 0, 0, [])) pc = true := chk_end (by decide +kernel) (chk_cat chk_0 ck_11_0)
theorem ck_12_0 : (List.range 54).all (fun j => jck 1 cX1_copyFrom none false (k12.getD (0 + j) (0, 0, 0, [])) (0 + j)) = true := by decide +kernel
theorem cm_12 : ∀ pc : Nat, jck 1 cX1_copyFrom none false (k12.getD pc (0, 0, 0, [])) pc = true := chk_end (by decide +kernel) (chk_cat chk_0 ck_12_0)
theorem ck_13_0 : (List.range 26).all (fun j => jck 1 cX1_is (some .boolean) false (k13.getD (0 + j) (0, 0, 0, [])) (0 + j)) = true := by decide +kernel
theorem cm_13 : ∀ pc : Nat, jck 1 cX1_is (some .boolean) false (k13.getD pc (0, 0, 0, [])) pc = true := chk_end (by decide +kernel) (chk_cat chk_0 ck_13_0)
theorem ck_14_0 : (List.range 24).all (fun j => jck 1 cX1_isOpen (some .boolean) false (k14.getD (0 + j) (0, 0, 0, [])) (0 + j)) = true := by decide +kernel
theorem cm_14 : ∀ pc : Nat, jck 1 cX1_isOpen (some .boolean) false (k14.getD pc (0, 0, 0, [])) pc = true := chk_end (by decide +kernel) (chk_cat chk_0 ck_14_0)
theorem ck_15_0 : (List.range 31).all (fun j => jck 1 cX1_tally (some .int) false (k15.getD (0 + j) (0, 0, 0, [])) (0 + j)) = true := by decide +kernel
theorem cm_15 : ∀ pc : Nat, jck 1 cX1_tally (some .int) false (k15.getD pc (0, 0, 0, [])) pc = true := chk_end (by decide +kernel) (chk_cat chk_0 ck_15_0)
theorem ck_16_0 : (List.range 20).all (fun j => jck 1 cX1_tubs (some .int) false (k16.getD (0 + j) (0, 0, 0, [])) (0 + j)) = true := by decide +kernel
theorem cm_16 : ∀ pc : Nat, jck 1 cX1_tubs (some .int) false (k16.getD pc (0, 0, 0, [])) pc = true := chk_end (by decide +kernel) (chk_cat chk_0 ck_16_0)
theorem ck_17_0 : (List.range 26).all (fun j => jck 1 cX1_tubsInAll (some .int) false (k17.getD (0 + j) (0, 0, 0, [])) (0 + j)) = true := by decide +kernel
theorem cm_17 : ∀ pc : Nat, jck 1 cX1_tubsInAll (some .int) false (k17.getD pc (0, 0, 0, [])) pc = true := chk_end (by decide +kernel) (chk_cat chk_0 ck_17_0)
theorem ck_18_0 : (List.range 60).all (fun j => jck 1 cX1_write none false (k18.getD (0 + j) (0, 0, 0, [])) (0 + j)) = true := by decide +kernel
theorem ck_18_1 : (List.range 39).all (fun j => jck 1 cX1_write none false (k18.getD (60 + j) (0, 0, 0, [])) (60 + j)) = true := by decide +kernel
theorem cm_18 : ∀ pc : Nat, jck 1 cX1_write none false (k18.getD pc (0, 0, 0, [])) pc = true := chk_end (by decide +kernel) (chk_cat (chk_cat chk_0 ck_18_0) ck_18_1)
theorem ck_19_0 : (List.range 60).all (fun j => jck 1 cX1_isImage (some .boolean) false (k19.getD (0 + j) (0, 0, 0, [])) (0 + j)) = true := by decide +kernel
theorem ck_19_1 : (List.range 60).all (fun j => jck 1 cX1_isImage (some .boolean) false (k19.getD (60 + j) (0, 0, 0, [])) (60 + j)) = true := by decide +kernel
theorem ck_19_2 : (List.range 11).all (fun j => jck 1 cX1_isImage (some .boolean) false (k19.getD (120 + j) (0, 0, 0, [])) (120 + j)) = true := by decide +kernel
theorem cm_19 : ∀ pc : Nat, jck 1 cX1_isImage (some .boolean) false (k19.getD pc (0, 0, 0, [])) pc = true := chk_end (by decide +kernel) (chk_cat (chk_cat (chk_cat chk_0 ck_19_0) ck_19_1) ck_19_2)
theorem ck_20_0 : (List.range 60).all (fun j => jck 1 cX1_read none false (k20.getD (0 + j) (0, 0, 0, [])) (0 + j)) = true := by decide +kernel
theorem ck_20_1 : (List.range 38).all (fun j => jck 1 cX1_read none false (k20.getD (60 + j) (0, 0, 0, [])) (60 + j)) = true := by decide +kernel
theorem cm_20 : ∀ pc : Nat, jck 1 cX1_read none false (k20.getD pc (0, 0, 0, [])) pc = true := chk_end (by decide +kernel) (chk_cat (chk_cat chk_0 ck_20_0) ck_20_1)
theorem ck_21_0 : (List.range 54).all (fun j => jck 2 cX2_init none true (k21.getD (0 + j) (0, 0, 0, [])) (0 + j)) = true := by decide +kernel
theorem cm_21 : ∀ pc : Nat, jck 2 cX2_init none true (k21.getD pc (0, 0, 0, [])) pc = true := chk_end (by decide +kernel) (chk_cat chk_0 ck_21_0)
theorem ck_22_0 : (List.range 5).all (fun j => jck 2 cX2_size (some .int) false (k22.getD (0 + j) (0, 0, 0, [])) (0 + j)) = true := by decide +kernel
theorem cm_22 : ∀ pc : Nat, jck 2 cX2_size (some .int) false (k22.getD pc (0, 0, 0, [])) pc = true := chk_end (by decide +kernel) (chk_cat chk_0 ck_22_0)
theorem ck_23_0 : (List.range 6).all (fun j => jck 2 cX2_forget none false (k23.getD (0 + j) (0, 0, 0, [])) (0 + j)) = true := by decide +kernel
theorem cm_23 : ∀ pc : Nat, jck 2 cX2_forget none false (k23.getD pc (0, 0, 0, [])) pc = true := chk_end (by decide +kernel) (chk_cat chk_0 ck_23_0)
theorem ck_24_0 : (List.range 57).all (fun j => jck 2 cX2_keep none false (k24.getD (0 + j) (0, 0, 0, [])) (0 + j)) = true := by decide +kernel
theorem cm_24 : ∀ pc : Nat, jck 2 cX2_keep none false (k24.getD pc (0, 0, 0, [])) pc = true := chk_end (by decide +kernel) (chk_cat chk_0 ck_24_0)
theorem ck_25_0 : (List.range 42).all (fun j => jck 2 cX2_giveBack (some .boolean) false (k25.getD (0 + j) (0, 0, 0, [])) (0 + j)) = true := by decide +kernel
theorem cm_25 : ∀ pc : Nat, jck 2 cX2_giveBack (some .boolean) false (k25.getD pc (0, 0, 0, [])) pc = true := chk_end (by decide +kernel) (chk_cat chk_0 ck_25_0)
theorem ck_26_0 : (List.range 47).all (fun j => jck 3 cX3_init none true (k26.getD (0 + j) (0, 0, 0, [])) (0 + j)) = true := by decide +kernel
theorem cm_26 : ∀ pc : Nat, jck 3 cX3_init none true (k26.getD pc (0, 0, 0, [])) pc = true := chk_end (by decide +kernel) (chk_cat chk_0 ck_26_0)
theorem ck_27_0 : (List.range 60).all (fun j => jck 3 cX3_look none false (k27.getD (0 + j) (0, 0, 0, [])) (0 + j)) = true := by decide +kernel
theorem ck_27_1 : (List.range 31).all (fun j => jck 3 cX3_look none false (k27.getD (60 + j) (0, 0, 0, [])) (60 + j)) = true := by decide +kernel
theorem cm_27 : ∀ pc : Nat, jck 3 cX3_look none false (k27.getD pc (0, 0, 0, [])) pc = true := chk_end (by decide +kernel) (chk_cat (chk_cat chk_0 ck_27_0) ck_27_1)
theorem ck_28_0 : (List.range 60).all (fun j => jck 3 cX3_reach none false (k28.getD (0 + j) (0, 0, 0, [])) (0 + j)) = true := by decide +kernel
theorem ck_28_1 : (List.range 1).all (fun j => jck 3 cX3_reach none false (k28.getD (60 + j) (0, 0, 0, [])) (60 + j)) = true := by decide +kernel
theorem cm_28 : ∀ pc : Nat, jck 3 cX3_reach none false (k28.getD pc (0, 0, 0, [])) pc = true := chk_end (by decide +kernel) (chk_cat (chk_cat chk_0 ck_28_0) ck_28_1)
theorem ck_29_0 : (List.range 25).all (fun j => jck 3 cX3_isReached (some .boolean) false (k29.getD (0 + j) (0, 0, 0, [])) (0 + j)) = true := by decide +kernel
theorem cm_29 : ∀ pc : Nat, jck 3 cX3_isReached (some .boolean) false (k29.getD pc (0, 0, 0, [])) pc = true := chk_end (by decide +kernel) (chk_cat chk_0 ck_29_0)
theorem ck_30_0 : (List.range 60).all (fun j => jck 3 cX3_why (some .int) false (k30.getD (0 + j) (0, 0, 0, [])) (0 + j)) = true := by decide +kernel
theorem ck_30_1 : (List.range 29).all (fun j => jck 3 cX3_why (some .int) false (k30.getD (60 + j) (0, 0, 0, [])) (60 + j)) = true := by decide +kernel
theorem cm_30 : ∀ pc : Nat, jck 3 cX3_why (some .int) false (k30.getD pc (0, 0, 0, [])) pc = true := chk_end (by decide +kernel) (chk_cat (chk_cat chk_0 ck_30_0) ck_30_1)
theorem ck_31_0 : (List.range 33).all (fun j => jck 3 cX3_isBesideReached (some .boolean) false (k31.getD (0 + j) (0, 0, 0, [])) (0 + j)) = true := by decide +kernel
theorem cm_31 : ∀ pc : Nat, jck 3 cX3_isBesideReached (some .boolean) false (k31.getD pc (0, 0, 0, [])) pc = true := chk_end (by decide +kernel) (chk_cat chk_0 ck_31_0)
theorem ck_32_0 : (List.range 38).all (fun j => jck 3 cX3_countCuttable (some .int) false (k32.getD (0 + j) (0, 0, 0, [])) (0 + j)) = true := by decide +kernel
theorem cm_32 : ∀ pc : Nat, jck 3 cX3_countCuttable (some .int) false (k32.getD pc (0, 0, 0, [])) pc = true := chk_end (by decide +kernel) (chk_cat chk_0 ck_32_0)
theorem ck_33_0 : (List.range 45).all (fun j => jck 3 cX3_cuttable (some .int) false (k33.getD (0 + j) (0, 0, 0, [])) (0 + j)) = true := by decide +kernel
theorem cm_33 : ∀ pc : Nat, jck 3 cX3_cuttable (some .int) false (k33.getD pc (0, 0, 0, [])) pc = true := chk_end (by decide +kernel) (chk_cat chk_0 ck_33_0)
theorem ck_34_0 : (List.range 58).all (fun j => jck 3 cX3_countOfKind (some .int) false (k34.getD (0 + j) (0, 0, 0, [])) (0 + j)) = true := by decide +kernel
theorem cm_34 : ∀ pc : Nat, jck 3 cX3_countOfKind (some .int) false (k34.getD pc (0, 0, 0, [])) pc = true := chk_end (by decide +kernel) (chk_cat chk_0 ck_34_0)
theorem ck_35_0 : (List.range 39).all (fun j => jck 3 cX3_near (some .int) false (k35.getD (0 + j) (0, 0, 0, [])) (0 + j)) = true := by decide +kernel
theorem cm_35 : ∀ pc : Nat, jck 3 cX3_near (some .int) false (k35.getD pc (0, 0, 0, [])) pc = true := chk_end (by decide +kernel) (chk_cat chk_0 ck_35_0)
theorem ck_36_0 : (List.range 49).all (fun j => jck 3 cX3_spanStart (some .int) false (k36.getD (0 + j) (0, 0, 0, [])) (0 + j)) = true := by decide +kernel
theorem cm_36 : ∀ pc : Nat, jck 3 cX3_spanStart (some .int) false (k36.getD pc (0, 0, 0, [])) pc = true := chk_end (by decide +kernel) (chk_cat chk_0 ck_36_0)
theorem ck_37_0 : (List.range 60).all (fun j => jck 3 cX3_spanEnd (some .int) false (k37.getD (0 + j) (0, 0, 0, [])) (0 + j)) = true := by decide +kernel
theorem cm_37 : ∀ pc : Nat, jck 3 cX3_spanEnd (some .int) false (k37.getD pc (0, 0, 0, [])) pc = true := chk_end (by decide +kernel) (chk_cat chk_0 ck_37_0)
theorem ck_38_0 : (List.range 14).all (fun j => jck 3 cX3_span (some .int) false (k38.getD (0 + j) (0, 0, 0, [])) (0 + j)) = true := by decide +kernel
theorem cm_38 : ∀ pc : Nat, jck 3 cX3_span (some .int) false (k38.getD pc (0, 0, 0, [])) pc = true := chk_end (by decide +kernel) (chk_cat chk_0 ck_38_0)
theorem ck_39_0 : (List.range 23).all (fun j => jck 3 cX3_wouldFall (some .boolean) false (k39.getD (0 + j) (0, 0, 0, [])) (0 + j)) = true := by decide +kernel
theorem cm_39 : ∀ pc : Nat, jck 3 cX3_wouldFall (some .boolean) false (k39.getD pc (0, 0, 0, [])) pc = true := chk_end (by decide +kernel) (chk_cat chk_0 ck_39_0)
theorem ck_40_0 : (List.range 60).all (fun j => jck 3 cX3_price (some .int) false (k40.getD (0 + j) (0, 0, 0, [])) (0 + j)) = true := by decide +kernel
theorem ck_40_1 : (List.range 6).all (fun j => jck 3 cX3_price (some .int) false (k40.getD (60 + j) (0, 0, 0, [])) (60 + j)) = true := by decide +kernel
theorem cm_40 : ∀ pc : Nat, jck 3 cX3_price (some .int) false (k40.getD pc (0, 0, 0, [])) pc = true := chk_end (by decide +kernel) (chk_cat (chk_cat chk_0 ck_40_0) ck_40_1)
theorem ck_41_0 : (List.range 60).all (fun j => jck 3 cX3_dig none false (k41.getD (0 + j) (0, 0, 0, [])) (0 + j)) = true := by decide +kernel
theorem ck_41_1 : (List.range 60).all (fun j => jck 3 cX3_dig none false (k41.getD (60 + j) (0, 0, 0, [])) (60 + j)) = true := by decide +kernel
theorem ck_41_2 : (List.range 3).all (fun j => jck 3 cX3_dig none false (k41.getD (120 + j) (0, 0, 0, [])) (120 + j)) = true := by decide +kernel
theorem cm_41 : ∀ pc : Nat, jck 3 cX3_dig none false (k41.getD pc (0, 0, 0, [])) pc = true := chk_end (by decide +kernel) (chk_cat (chk_cat (chk_cat chk_0 ck_41_0) ck_41_1) ck_41_2)
theorem ck_42_0 : (List.range 60).all (fun j => jck 3 cX3_blast none false (k42.getD (0 + j) (0, 0, 0, [])) (0 + j)) = true := by decide +kernel
theorem ck_42_1 : (List.range 35).all (fun j => jck 3 cX3_blast none false (k42.getD (60 + j) (0, 0, 0, [])) (60 + j)) = true := by decide +kernel
theorem cm_42 : ∀ pc : Nat, jck 3 cX3_blast none false (k42.getD pc (0, 0, 0, [])) pc = true := chk_end (by decide +kernel) (chk_cat (chk_cat chk_0 ck_42_0) ck_42_1)
theorem ck_43_0 : (List.range 22).all (fun j => jck 3 cX3_fell none false (k43.getD (0 + j) (0, 0, 0, [])) (0 + j)) = true := by decide +kernel
theorem cm_43 : ∀ pc : Nat, jck 3 cX3_fell none false (k43.getD pc (0, 0, 0, [])) pc = true := chk_end (by decide +kernel) (chk_cat chk_0 ck_43_0)
theorem ck_44_0 : (List.range 60).all (fun j => jck 3 cX3_tiltOf (some .int) false (k44.getD (0 + j) (0, 0, 0, [])) (0 + j)) = true := by decide +kernel
theorem ck_44_1 : (List.range 5).all (fun j => jck 3 cX3_tiltOf (some .int) false (k44.getD (60 + j) (0, 0, 0, [])) (60 + j)) = true := by decide +kernel
theorem cm_44 : ∀ pc : Nat, jck 3 cX3_tiltOf (some .int) false (k44.getD pc (0, 0, 0, [])) pc = true := chk_end (by decide +kernel) (chk_cat (chk_cat chk_0 ck_44_0) ck_44_1)
