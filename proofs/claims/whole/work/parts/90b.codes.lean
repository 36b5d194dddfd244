theorem ck_45_0 : (List.range 60).all (fun j => jck 3 cX3_loadCell none false (k45.getD (0 + j) (0, 0, 0, [])) (0 + j)) = true := by decide +kernel
theorem ck_45_1 : (List.range 60).all (fun j => jck 3 cX3_loadCell none false (k45.getD (60 + j) (0, 0, 0, [])) (60 + j)) = true := by decide +kernel
theorem ck_45_2 : (List.range 38).all (fun j => jck 3 cX3_loadCell none false (k45.getD (120 + j) (0, 0, 0, [])) (120 + j)) = true := by decide +kernel
theorem cm_45 : ∀ pc : Nat, jck 3 cX3_loadCell none false (k45.getD pc (0, 0, 0, [])) pc = true := chk_end (by decide +kernel) (chk_cat (chk_cat (chk_cat chk_0 ck_45_0) ck_45_1) ck_45_2)
theorem ck_46_0 : (List.range 60).all (fun j => jck 3 cX3_loadHouse none false (k46.getD (0 + j) (0, 0, 0, [])) (0 + j)) = true := by decide +kernel
theorem ck_46_1 : (List.range 60).all (fun j => jck 3 cX3_loadHouse none false (k46.getD (60 + j) (0, 0, 0, [])) (60 + j)) = true := by decide +kernel
theorem ck_46_2 : (List.range 17).all (fun j => jck 3 cX3_loadHouse none false (k46.getD (120 + j) (0, 0, 0, [])) (120 + j)) = true := by decide +kernel
theorem cm_46 : ∀ pc : Nat, jck 3 cX3_loadHouse none false (k46.getD pc (0, 0, 0, [])) pc = true := chk_end (by decide +kernel) (chk_cat (chk_cat (chk_cat chk_0 ck_46_0) ck_46_1) ck_46_2)
theorem ck_47_0 : (List.range 60).all (fun j => jck 3 cX3_value (some .int) false (k47.getD (0 + j) (0, 0, 0, [])) (0 + j)) = true := by decide +kernel
theorem ck_47_1 : (List.range 60).all (fun j => jck 3 cX3_value (some .int) false (k47.getD (60 + j) (0, 0, 0, [])) (60 + j)) = true := by decide +kernel
theorem ck_47_2 : (List.range 60).all (fun j => jck 3 cX3_value (some .int) false (k47.getD (120 + j) (0, 0, 0, [])) (120 + j)) = true := by decide +kernel
theorem ck_47_3 : (List.range 36).all (fun j => jck 3 cX3_value (some .int) false (k47.getD (180 + j) (0, 0, 0, [])) (180 + j)) = true := by decide +kernel
theorem cm_47 : ∀ pc : Nat, jck 3 cX3_value (some .int) false (k47.getD pc (0, 0, 0, [])) pc = true := chk_end (by decide +kernel) (chk_cat (chk_cat (chk_cat (chk_cat chk_0 ck_47_0) ck_47_1) ck_47_2) ck_47_3)
theorem ck_48_0 : (List.range 24).all (fun j => jck 3 cX3_factAt (some .int) false (k48.getD (0 + j) (0, 0, 0, [])) (0 + j)) = true := by decide +kernel
theorem cm_48 : ∀ pc : Nat, jck 3 cX3_factAt (some .int) false (k48.getD pc (0, 0, 0, [])) pc = true := chk_end (by decide +kernel) (chk_cat chk_0 ck_48_0)
theorem ck_49_0 : (List.range 60).all (fun j => jck 3 cX3_join (some .int) false (k49.getD (0 + j) (0, 0, 0, [])) (0 + j)) = true := by decide +kernel
theorem ck_49_1 : (List.range 60).all (fun j => jck 3 cX3_join (some .int) false (k49.getD (60 + j) (0, 0, 0, [])) (60 + j)) = true := by decide +kernel
theorem ck_49_2 : (List.range 60).all (fun j => jck 3 cX3_join (some .int) false (k49.getD (120 + j) (0, 0, 0, [])) (120 + j)) = true := by decide +kernel
theorem ck_49_3 : (List.range 18).all (fun j => jck 3 cX3_join (some .int) false (k49.getD (180 + j) (0, 0, 0, [])) (180 + j)) = true := by decide +kernel
theorem cm_49 : ∀ pc : Nat, jck 3 cX3_join (some .int) false (k49.getD pc (0, 0, 0, [])) pc = true := chk_end (by decide +kernel) (chk_cat (chk_cat (chk_cat (chk_cat chk_0 ck_49_0) ck_49_1) ck_49_2) ck_49_3)
theorem ck_50_0 : (List.range 60).all (fun j => jck 4 cX4_init none true (k50.getD (0 + j) (0, 0, 0, [])) (0 + j)) = true := by decide +kernel
theorem ck_50_1 : (List.range 30).all (fun j => jck 4 cX4_init none true (k50.getD (60 + j) (0, 0, 0, [])) (60 + j)) = true := by decide +kernel
theorem cm_50 : ∀ pc : Nat, jck 4 cX4_init none true (k50.getD pc (0, 0, 0, [])) pc = true := chk_end (by decide +kernel) (chk_cat (chk_cat chk_0 ck_50_0) ck_50_1)
theorem ck_51_0 : (List.range 60).all (fun j => jck 4 cX4_clear none false (k51.getD (0 + j) (0, 0, 0, [])) (0 + j)) = true := by decide +kernel
theorem ck_51_1 : (List.range 19).all (fun j => jck 4 cX4_clear none false (k51.getD (60 + j) (0, 0, 0, [])) (60 + j)) = true := by decide +kernel
theorem cm_51 : ∀ pc : Nat, jck 4 cX4_clear none false (k51.getD pc (0, 0, 0, [])) pc = true := chk_end (by decide +kernel) (chk_cat (chk_cat chk_0 ck_51_0) ck_51_1)
theorem ck_52_0 : (List.range 60).all (fun j => jck 4 cX4_copyFrom none false (k52.getD (0 + j) (0, 0, 0, [])) (0 + j)) = true := by decide +kernel
theorem ck_52_1 : (List.range 60).all (fun j => jck 4 cX4_copyFrom none false (k52.getD (60 + j) (0, 0, 0, [])) (60 + j)) = true := by decide +kernel
theorem ck_52_2 : (List.range 51).all (fun j => jck 4 cX4_copyFrom none false (k52.getD (120 + j) (0, 0, 0, [])) (120 + j)) = true := by decide +kernel
theorem cm_52 : ∀ pc : Nat, jck 4 cX4_copyFrom none false (k52.getD pc (0, 0, 0, [])) pc = true := chk_end (by decide +kernel) (chk_cat (chk_cat (chk_cat chk_0 ck_52_0) ck_52_1) ck_52_2)
theorem ck_53_0 : (List.range 15).all (fun j => jck 4 cX4_copyRow none false (k53.getD (0 + j) (0, 0, 0, [])) (0 + j)) = true := by decide +kernel
theorem cm_53 : ∀ pc : Nat, jck 4 cX4_copyRow none false (k53.getD pc (0, 0, 0, [])) pc = true := chk_end (by decide +kernel) (chk_cat chk_0 ck_53_0)
theorem ck_54_0 : (List.range 13).all (fun j => jck 4 cX4_isTold (some .boolean) false (k54.getD (0 + j) (0, 0, 0, [])) (0 + j)) = true := by decide +kernel
theorem cm_54 : ∀ pc : Nat, jck 4 cX4_isTold (some .boolean) false (k54.getD pc (0, 0, 0, [])) pc = true := chk_end (by decide +kernel) (chk_cat chk_0 ck_54_0)
theorem ck_55_0 : (List.range 60).all (fun j => jck 4 cX4_layOut none false (k55.getD (0 + j) (0, 0, 0, [])) (0 + j)) = true := by decide +kernel
theorem ck_55_1 : (List.range 60).all (fun j => jck 4 cX4_layOut none false (k55.getD (60 + j) (0, 0, 0, [])) (60 + j)) = true := by decide +kernel
theorem ck_55_2 : (List.range 36).all (fun j => jck 4 cX4_layOut none false (k55.getD (120 + j) (0, 0, 0, [])) (120 + j)) = true := by decide +kernel
theorem cm_55 : ∀ pc : Nat, jck 4 cX4_layOut none false (k55.getD pc (0, 0, 0, [])) pc = true := chk_end (by decide +kernel) (chk_cat (chk_cat (chk_cat chk_0 ck_55_0) ck_55_1) ck_55_2)
theorem ck_56_0 : (List.range 18).all (fun j => jck 4 cX4_isCell (some .boolean) false (k56.getD (0 + j) (0, 0, 0, [])) (0 + j)) = true := by decide +kernel
theorem cm_56 : ∀ pc : Nat, jck 4 cX4_isCell (some .boolean) false (k56.getD pc (0, 0, 0, [])) pc = true := chk_end (by decide +kernel) (chk_cat chk_0 ck_56_0)
theorem ck_57_0 : (List.range 18).all (fun j => jck 4 cX4_columnOf (some .int) false (k57.getD (0 + j) (0, 0, 0, [])) (0 + j)) = true := by decide +kernel
theorem cm_57 : ∀ pc : Nat, jck 4 cX4_columnOf (some .int) false (k57.getD pc (0, 0, 0, [])) pc = true := chk_end (by decide +kernel) (chk_cat chk_0 ck_57_0)
theorem ck_58_0 : (List.range 18).all (fun j => jck 4 cX4_rowOf (some .int) false (k58.getD (0 + j) (0, 0, 0, [])) (0 + j)) = true := by decide +kernel
theorem cm_58 : ∀ pc : Nat, jck 4 cX4_rowOf (some .int) false (k58.getD pc (0, 0, 0, [])) pc = true := chk_end (by decide +kernel) (chk_cat chk_0 ck_58_0)
theorem ck_59_0 : (List.range 54).all (fun j => jck 4 cX4_toldAt (some .int) false (k59.getD (0 + j) (0, 0, 0, [])) (0 + j)) = true := by decide +kernel
theorem cm_59 : ∀ pc : Nat, jck 4 cX4_toldAt (some .int) false (k59.getD pc (0, 0, 0, [])) pc = true := chk_end (by decide +kernel) (chk_cat chk_0 ck_59_0)
theorem ck_60_0 : (List.range 21).all (fun j => jck 4 cX4_kindOf (some .int) false (k60.getD (0 + j) (0, 0, 0, [])) (0 + j)) = true := by decide +kernel
theorem cm_60 : ∀ pc : Nat, jck 4 cX4_kindOf (some .int) false (k60.getD pc (0, 0, 0, [])) pc = true := chk_end (by decide +kernel) (chk_cat chk_0 ck_60_0)
theorem ck_61_0 : (List.range 29).all (fun j => jck 4 cX4_restOf (some .int) false (k61.getD (0 + j) (0, 0, 0, [])) (0 + j)) = true := by decide +kernel
theorem cm_61 : ∀ pc : Nat, jck 4 cX4_restOf (some .int) false (k61.getD pc (0, 0, 0, [])) pc = true := chk_end (by decide +kernel) (chk_cat chk_0 ck_61_0)
theorem ck_62_0 : (List.range 29).all (fun j => jck 4 cX4_gasOf (some .int) false (k62.getD (0 + j) (0, 0, 0, [])) (0 + j)) = true := by decide +kernel
theorem cm_62 : ∀ pc : Nat, jck 4 cX4_gasOf (some .int) false (k62.getD pc (0, 0, 0, [])) pc = true := chk_end (by decide +kernel) (chk_cat chk_0 ck_62_0)
theorem ck_63_0 : (List.range 32).all (fun j => jck 4 cX4_beside (some .int) false (k63.getD (0 + j) (0, 0, 0, [])) (0 + j)) = true := by decide +kernel
theorem cm_63 : ∀ pc : Nat, jck 4 cX4_beside (some .int) false (k63.getD pc (0, 0, 0, [])) pc = true := chk_end (by decide +kernel) (chk_cat chk_0 ck_63_0)
theorem ck_64_0 : (List.range 30).all (fun j => jck 4 cX4_findName (some .int) false (k64.getD (0 + j) (0, 0, 0, [])) (0 + j)) = true := by decide +kernel
theorem cm_64 : ∀ pc : Nat, jck 4 cX4_findName (some .int) false (k64.getD pc (0, 0, 0, [])) pc = true := chk_end (by decide +kernel) (chk_cat chk_0 ck_64_0)
theorem ck_65_0 : (List.range 58).all (fun j => jck 4 cX4_isName (some .boolean) false (k65.getD (0 + j) (0, 0, 0, [])) (0 + j)) = true := by decide +kernel
theorem cm_65 : ∀ pc : Nat, jck 4 cX4_isName (some .boolean) false (k65.getD pc (0, 0, 0, [])) pc = true := chk_end (by decide +kernel) (chk_cat chk_0 ck_65_0)
theorem ck_66_0 : (List.range 15).all (fun j => jck 5 cX5_init none true (k66.getD (0 + j) (0, 0, 0, [])) (0 + j)) = true := by decide +kernel
theorem cm_66 : ∀ pc : Nat, jck 5 cX5_init none true (k66.getD pc (0, 0, 0, [])) pc = true := chk_end (by decide +kernel) (chk_cat chk_0 ck_66_0)
theorem ck_67_0 : (List.range 60).all (fun j => jck 5 cX5_readPlan (some .boolean) false (k67.getD (0 + j) (0, 0, 0, [])) (0 + j)) = true := by decide +kernel
theorem ck_67_1 : (List.range 60).all (fun j => jck 5 cX5_readPlan (some .boolean) false (k67.getD (60 + j) (0, 0, 0, [])) (60 + j)) = true := by decide +kernel
theorem ck_67_2 : (List.range 6).all (fun j => jck 5 cX5_readPlan (some .boolean) false (k67.getD (120 + j) (0, 0, 0, [])) (120 + j)) = true := by decide +kernel
theorem cm_67 : ∀ pc : Nat, jck 5 cX5_readPlan (some .boolean) false (k67.getD pc (0, 0, 0, [])) pc = true := chk_end (by decide +kernel) (chk_cat (chk_cat (chk_cat chk_0 ck_67_0) ck_67_1) ck_67_2)
theorem ck_68_0 : (List.range 60).all (fun j => jck 5 cX5_readStatement (some .boolean) false (k68.getD (0 + j) (0, 0, 0, [])) (0 + j)) = true := by decide +kernel
theorem ck_68_1 : (List.range 60).all (fun j => jck 5 cX5_readStatement (some .boolean) false (k68.getD (60 + j) (0, 0, 0, [])) (60 + j)) = true := by decide +kernel
theorem ck_68_2 : (List.range 60).all (fun j => jck 5 cX5_readStatement (some .boolean) false (k68.getD (120 + j) (0, 0, 0, [])) (120 + j)) = true := by decide +kernel
theorem ck_68_3 : (List.range 60).all (fun j => jck 5 cX5_readStatement (some .boolean) false (k68.getD (180 + j) (0, 0, 0, [])) (180 + j)) = true := by decide +kernel
theorem ck_68_4 : (List.range 7).all (fun j => jck 5 cX5_readStatement (some .boolean) false (k68.getD (240 + j) (0, 0, 0, [])) (240 + j)) = true := by decide +kernel
theorem cm_68 : ∀ pc : Nat, jck 5 cX5_readStatement (some .boolean) false (k68.getD pc (0, 0, 0, [])) pc = true := chk_end (by decide +kernel) (chk_cat (chk_cat (chk_cat (chk_cat (chk_cat chk_0 ck_68_0) ck_68_1) ck_68_2) ck_68_3) ck_68_4)
theorem ck_69_0 : (List.range 60).all (fun j => jck 5 cX5_readPit (some .boolean) false (k69.getD (0 + j) (0, 0, 0, [])) (0 + j)) = true := by decide +kernel
theorem ck_69_1 : (List.range 21).all (fun j => jck 5 cX5_readPit (some .boolean) false (k69.getD (60 + j) (0, 0, 0, [])) (60 + j)) = true := by decide +kernel
theorem cm_69 : ∀ pc : Nat, jck 5 cX5_readPit (some .boolean) false (k69.getD pc (0, 0, 0, [])) pc = true := chk_end (by decide +kernel) (chk_cat (chk_cat chk_0 ck_69_0) ck_69_1)
theorem ck_70_0 : (List.range 60).all (fun j => jck 5 cX5_readKind (some .boolean) false (k70.getD (0 + j) (0, 0, 0, [])) (0 + j)) = true := by decide +kernel
theorem ck_70_1 : (List.range 60).all (fun j => jck 5 cX5_readKind (some .boolean) false (k70.getD (60 + j) (0, 0, 0, [])) (60 + j)) = true := by decide +kernel
theorem ck_70_2 : (List.range 45).all (fun j => jck 5 cX5_readKind (some .boolean) false (k70.getD (120 + j) (0, 0, 0, [])) (120 + j)) = true := by decide +kernel
theorem cm_70 : ∀ pc : Nat, jck 5 cX5_readKind (some .boolean) false (k70.getD pc (0, 0, 0, [])) pc = true := chk_end (by decide +kernel) (chk_cat (chk_cat (chk_cat chk_0 ck_70_0) ck_70_1) ck_70_2)
theorem ck_71_0 : (List.range 60).all (fun j => jck 5 cX5_giveName (some .boolean) false (k71.getD (0 + j) (0, 0, 0, [])) (0 + j)) = true := by decide +kernel
theorem ck_71_1 : (List.range 55).all (fun j => jck 5 cX5_giveName (some .boolean) false (k71.getD (60 + j) (0, 0, 0, [])) (60 + j)) = true := by decide +kernel
theorem cm_71 : ∀ pc : Nat, jck 5 cX5_giveName (some .boolean) false (k71.getD pc (0, 0, 0, [])) pc = true := chk_end (by decide +kernel) (chk_cat (chk_cat chk_0 ck_71_0) ck_71_1)
