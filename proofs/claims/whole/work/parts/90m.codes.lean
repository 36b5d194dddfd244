theorem ck_342_0 : (List.range 60).all (fun j => jck 13 cL_law (some .boolean) false (k342.getD (0 + j) (0, 0, 0, [])) (0 + j)) = true := by decide +kernel
theorem ck_342_1 : (List.range 60).all (fun j => jck 13 cL_law (some .boolean) false (k342.getD (60 + j) (0, 0, 0, [])) (60 + j)) = true := by decide +kernel
theorem ck_342_2 : (List.range 60).all (fun j => jck 13 cL_law (some .boolean) false (k342.getD (120 + j) (0, 0, 0, [])) (120 + j)) = true := by decide +kernel
theorem ck_342_3 : (List.range 60).all (fun j => jck 13 cL_law (some .boolean) false (k342.getD (180 + j) (0, 0, 0, [])) (180 + j)) = true := by decide +kernel
theorem ck_342_4 : (List.range 60).all (fun j => jck 13 cL_law (some .boolean) false (k342.getD (240 + j) (0, 0, 0, [])) (240 + j)) = true := by decide +kernel
theorem ck_342_5 : (List.range 60).all (fun j => jck 13 cL_law (some .boolean) false (k342.getD (300 + j) (0, 0, 0, [])) (300 + j)) = true := by decide +kernel
theorem ck_342_6 : (List.range 60).all (fun j => jck 13 cL_law (some .boolean) false (k342.getD (360 + j) (0, 0, 0, [])) (360 + j)) = true := by decide +kernel
theorem ck_342_7 : (List.range 60).all (fun j => jck 13 cL_law (some .boolean) false (k342.getD (420 + j) (0, 0, 0, [])) (420 + j)) = true := by decide +kernel
theorem ck_342_8 : (List.range 60).all (fun j => jck 13 cL_law (some .boolean) false (k342.getD (480 + j) (0, 0, 0, [])) (480 + j)) = true := by decide +kernel
theorem ck_342_9 : (List.range 60).all (fun j => jck 13 cL_law (some .boolean) false (k342.getD (540 + j) (0, 0, 0, [])) (540 + j)) = true := by decide +kernel
theorem ck_342_10 : (List.range 60).all (fun j => jck 13 cL_law (some .boolean) false (k342.getD (600 + j) (0, 0, 0, [])) (600 + j)) = true := by decide +kernel
theorem ck_342_11 : (List.range 60).all (fun j => jck 13 cL_law (some .boolean) false (k342.getD (660 + j) (0, 0, 0, [])) (660 + j)) = true := by decide +kernel
theorem ck_342_12 : (List.range 60).all (fun j => jck 13 cL_law (some .boolean) false (k342.getD (720 + j) (0, 0, 0, [])) (720 + j)) = true := by decide +kernel
theorem ck_342_13 : (List.range 60).all (fun j => jck 13 cL_law (some .boolean) false (k342.getD (780 + j) (0, 0, 0, [])) (780 + j)) = true := by decide +kernel
theorem ck_342_14 : (List.range 51).all (fun j => jck 13 cL_law (some .boolean) false (k342.getD (840 + j) (0, 0, 0, [])) (840 + j)) = true := by decide +kernel
theorem cm_342 : ∀ pc : Nat, jck 13 cL_law (some .boolean) false (k342.getD pc (0, 0, 0, [])) pc = true := chk_end (by decide +kernel) (chk_cat (chk_cat (chk_cat (chk_cat (chk_cat (chk_cat (chk_cat (chk_cat (chk_cat (chk_cat (chk_cat (chk_cat (chk_cat (chk_cat (chk_cat chk_0 ck_342_0) ck_342_1) ck_342_2) ck_342_3) ck_342_4) ck_342_5) ck_342_6) ck_342_7) ck_342_8) ck_342_9) ck_342_10) ck_342_11) ck_342_12) ck_342_13) ck_342_14)
