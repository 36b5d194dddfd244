theorem ck_306_0 : (List.range 60).all (fun j => jck 12 cX12_qPartTold none false (k306.getD (0 + j) (0, 0, 0, [])) (0 + j)) = true := by decide +kernel
theorem ck_306_1 : (List.range 60).all (fun j => jck 12 cX12_qPartTold none false (k306.getD (60 + j) (0, 0, 0, [])) (60 + j)) = true := by decide +kernel
theorem ck_306_2 : (List.range 60).all (fun j => jck 12 cX12_qPartTold none false (k306.getD (120 + j) (0, 0, 0, [])) (120 + j)) = true := by decide +kernel
theorem ck_306_3 : (List.range 60).all (fun j => jck 12 cX12_qPartTold none false (k306.getD (180 + j) (0, 0, 0, [])) (180 + j)) = true := by decide +kernel
theorem ck_306_4 : (List.range 5).all (fun j => jck 12 cX12_qPartTold none false (k306.getD (240 + j) (0, 0, 0, [])) (240 + j)) = true := by decide +kernel
theorem cm_306 : ∀ pc : Nat, jck 12 cX12_qPartTold none false (k306.getD pc (0, 0, 0, [])) pc = true := chk_end (by decide +kernel) (chk_cat (chk_cat (chk_cat (chk_cat (chk_cat chk_0 ck_306_0) ck_306_1) ck_306_2) ck_306_3) ck_306_4)
theorem ck_307_0 : (List.range 60).all (fun j => jck 12 cX12_qGoesOn (some .boolean) false (k307.getD (0 + j) (0, 0, 0, [])) (0 + j)) = true := by decide +kernel
theorem ck_307_1 : (List.range 60).all (fun j => jck 12 cX12_qGoesOn (some .boolean) false (k307.getD (60 + j) (0, 0, 0, [])) (60 + j)) = true := by decide +kernel
theorem ck_307_2 : (List.range 60).all (fun j => jck 12 cX12_qGoesOn (some .boolean) false (k307.getD (120 + j) (0, 0, 0, [])) (120 + j)) = true := by decide +kernel
theorem ck_307_3 : (List.range 60).all (fun j => jck 12 cX12_qGoesOn (some .boolean) false (k307.getD (180 + j) (0, 0, 0, [])) (180 + j)) = true := by decide +kernel
theorem ck_307_4 : (List.range 60).all (fun j => jck 12 cX12_qGoesOn (some .boolean) false (k307.getD (240 + j) (0, 0, 0, [])) (240 + j)) = true := by decide +kernel
theorem ck_307_5 : (List.range 60).all (fun j => jck 12 cX12_qGoesOn (some .boolean) false (k307.getD (300 + j) (0, 0, 0, [])) (300 + j)) = true := by decide +kernel
theorem ck_307_6 : (List.range 28).all (fun j => jck 12 cX12_qGoesOn (some .boolean) false (k307.getD (360 + j) (0, 0, 0, [])) (360 + j)) = true := by decide +kernel
theorem cm_307 : ∀ pc : Nat, jck 12 cX12_qGoesOn (some .boolean) false (k307.getD pc (0, 0, 0, [])) pc = true := chk_end (by decide +kernel) (chk_cat (chk_cat (chk_cat (chk_cat (chk_cat (chk_cat (chk_cat chk_0 ck_307_0) ck_307_1) ck_307_2) ck_307_3) ck_307_4) ck_307_5) ck_307_6)
theorem ck_308_0 : (List.range 60).all (fun j => jck 12 cX12_qSums none false (k308.getD (0 + j) (0, 0, 0, [])) (0 + j)) = true := by decide +kernel
theorem ck_308_1 : (List.range 24).all (fun j => jck 12 cX12_qSums none false (k308.getD (60 + j) (0, 0, 0, [])) (60 + j)) = true := by decide +kernel
theorem cm_308 : ∀ pc : Nat, jck 12 cX12_qSums none false (k308.getD pc (0, 0, 0, [])) pc = true := chk_end (by decide +kernel) (chk_cat (chk_cat chk_0 ck_308_0) ck_308_1)
theorem ck_309_0 : (List.range 60).all (fun j => jck 12 cX12_qFact none false (k309.getD (0 + j) (0, 0, 0, [])) (0 + j)) = true := by decide +kernel
theorem ck_309_1 : (List.range 46).all (fun j => jck 12 cX12_qFact none false (k309.getD (60 + j) (0, 0, 0, [])) (60 + j)) = true := by decide +kernel
theorem cm_309 : ∀ pc : Nat, jck 12 cX12_qFact none false (k309.getD pc (0, 0, 0, [])) pc = true := chk_end (by decide +kernel) (chk_cat (chk_cat chk_0 ck_309_0) ck_309_1)
theorem ck_310_0 : (List.range 31).all (fun j => jck 12 cX12_qHasSquare (some .boolean) false (k310.getD (0 + j) (0, 0, 0, [])) (0 + j)) = true := by decide +kernel
theorem cm_310 : ∀ pc : Nat, jck 12 cX12_qHasSquare (some .boolean) false (k310.getD pc (0, 0, 0, [])) pc = true := chk_end (by decide +kernel) (chk_cat chk_0 ck_310_0)
theorem ck_311_0 : (List.range 34).all (fun j => jck 12 cX12_qDropsNots none false (k311.getD (0 + j) (0, 0, 0, [])) (0 + j)) = true := by decide +kernel
theorem cm_311 : ∀ pc : Nat, jck 12 cX12_qDropsNots none false (k311.getD pc (0, 0, 0, [])) pc = true := chk_end (by decide +kernel) (chk_cat chk_0 ck_311_0)
theorem ck_312_0 : (List.range 60).all (fun j => jck 12 cX12_qTest none false (k312.getD (0 + j) (0, 0, 0, [])) (0 + j)) = true := by decide +kernel
theorem ck_312_1 : (List.range 60).all (fun j => jck 12 cX12_qTest none false (k312.getD (60 + j) (0, 0, 0, [])) (60 + j)) = true := by decide +kernel
theorem ck_312_2 : (List.range 12).all (fun j => jck 12 cX12_qTest none false (k312.getD (120 + j) (0, 0, 0, [])) (120 + j)) = true := by decide +kernel
theorem cm_312 : ∀ pc : Nat, jck 12 cX12_qTest none false (k312.getD pc (0, 0, 0, [])) pc = true := chk_end (by decide +kernel) (chk_cat (chk_cat (chk_cat chk_0 ck_312_0) ck_312_1) ck_312_2)
theorem ck_313_0 : (List.range 60).all (fun j => jck 12 cX12_qGoesOnTest (some .boolean) false (k313.getD (0 + j) (0, 0, 0, [])) (0 + j)) = true := by decide +kernel
theorem ck_313_1 : (List.range 60).all (fun j => jck 12 cX12_qGoesOnTest (some .boolean) false (k313.getD (60 + j) (0, 0, 0, [])) (60 + j)) = true := by decide +kernel
theorem ck_313_2 : (List.range 60).all (fun j => jck 12 cX12_qGoesOnTest (some .boolean) false (k313.getD (120 + j) (0, 0, 0, [])) (120 + j)) = true := by decide +kernel
theorem ck_313_3 : (List.range 30).all (fun j => jck 12 cX12_qGoesOnTest (some .boolean) false (k313.getD (180 + j) (0, 0, 0, [])) (180 + j)) = true := by decide +kernel
theorem cm_313 : ∀ pc : Nat, jck 12 cX12_qGoesOnTest (some .boolean) false (k313.getD pc (0, 0, 0, [])) pc = true := chk_end (by decide +kernel) (chk_cat (chk_cat (chk_cat (chk_cat chk_0 ck_313_0) ck_313_1) ck_313_2) ck_313_3)
theorem ck_314_0 : (List.range 30).all (fun j => jck 12 cX12_qClip (some .long) false (k314.getD (0 + j) (0, 0, 0, [])) (0 + j)) = true := by decide +kernel
theorem cm_314 : ∀ pc : Nat, jck 12 cX12_qClip (some .long) false (k314.getD pc (0, 0, 0, [])) pc = true := chk_end (by decide +kernel) (chk_cat chk_0 ck_314_0)
theorem ck_315_0 : (List.range 56).all (fun j => jck 12 cX12_qFloor (some .long) false (k315.getD (0 + j) (0, 0, 0, [])) (0 + j)) = true := by decide +kernel
theorem cm_315 : ∀ pc : Nat, jck 12 cX12_qFloor (some .long) false (k315.getD pc (0, 0, 0, [])) pc = true := chk_end (by decide +kernel) (chk_cat chk_0 ck_315_0)
theorem ck_316_0 : (List.range 21).all (fun j => jck 12 cX12_qPuts none false (k316.getD (0 + j) (0, 0, 0, [])) (0 + j)) = true := by decide +kernel
theorem cm_316 : ∀ pc : Nat, jck 12 cX12_qPuts none false (k316.getD pc (0, 0, 0, [])) pc = true := chk_end (by decide +kernel) (chk_cat chk_0 ck_316_0)
theorem ck_317_0 : (List.range 60).all (fun j => jck 12 cX12_qJoins none false (k317.getD (0 + j) (0, 0, 0, [])) (0 + j)) = true := by decide +kernel
theorem ck_317_1 : (List.range 60).all (fun j => jck 12 cX12_qJoins none false (k317.getD (60 + j) (0, 0, 0, [])) (60 + j)) = true := by decide +kernel
theorem ck_317_2 : (List.range 60).all (fun j => jck 12 cX12_qJoins none false (k317.getD (120 + j) (0, 0, 0, [])) (120 + j)) = true := by decide +kernel
theorem ck_317_3 : (List.range 60).all (fun j => jck 12 cX12_qJoins none false (k317.getD (180 + j) (0, 0, 0, [])) (180 + j)) = true := by decide +kernel
theorem ck_317_4 : (List.range 34).all (fun j => jck 12 cX12_qJoins none false (k317.getD (240 + j) (0, 0, 0, [])) (240 + j)) = true := by decide +kernel
theorem cm_317 : ∀ pc : Nat, jck 12 cX12_qJoins none false (k317.getD pc (0, 0, 0, [])) pc = true := chk_end (by decide +kernel) (chk_cat (chk_cat (chk_cat (chk_cat (chk_cat chk_0 ck_317_0) ck_317_1) ck_317_2) ck_317_3) ck_317_4)
theorem ck_318_0 : (List.range 60).all (fun j => jck 12 cX12_qPartOf (some .long) false (k318.getD (0 + j) (0, 0, 0, [])) (0 + j)) = true := by decide +kernel
theorem ck_318_1 : (List.range 49).all (fun j => jck 12 cX12_qPartOf (some .long) false (k318.getD (60 + j) (0, 0, 0, [])) (60 + j)) = true := by decide +kernel
theorem cm_318 : ∀ pc : Nat, jck 12 cX12_qPartOf (some .long) false (k318.getD pc (0, 0, 0, [])) pc = true := chk_end (by decide +kernel) (chk_cat (chk_cat chk_0 ck_318_0) ck_318_1)
theorem ck_319_0 : (List.range 39).all (fun j => jck 12 cX12_qOf (some .long) false (k319.getD (0 + j) (0, 0, 0, [])) (0 + j)) = true := by decide +kernel
theorem cm_319 : ∀ pc : Nat, jck 12 cX12_qOf (some .long) false (k319.getD pc (0, 0, 0, [])) pc = true := chk_end (by decide +kernel) (chk_cat chk_0 ck_319_0)
theorem ck_320_0 : (List.range 60).all (fun j => jck 12 cX12_qTold (some .long) false (k320.getD (0 + j) (0, 0, 0, [])) (0 + j)) = true := by decide +kernel
theorem ck_320_1 : (List.range 60).all (fun j => jck 12 cX12_qTold (some .long) false (k320.getD (60 + j) (0, 0, 0, [])) (60 + j)) = true := by decide +kernel
theorem ck_320_2 : (List.range 55).all (fun j => jck 12 cX12_qTold (some .long) false (k320.getD (120 + j) (0, 0, 0, [])) (120 + j)) = true := by decide +kernel
theorem cm_320 : ∀ pc : Nat, jck 12 cX12_qTold (some .long) false (k320.getD pc (0, 0, 0, [])) pc = true := chk_end (by decide +kernel) (chk_cat (chk_cat (chk_cat chk_0 ck_320_0) ck_320_1) ck_320_2)
theorem ck_321_0 : (List.range 60).all (fun j => jck 12 cX12_qKind (some .int) false (k321.getD (0 + j) (0, 0, 0, [])) (0 + j)) = true := by decide +kernel
theorem ck_321_1 : (List.range 32).all (fun j => jck 12 cX12_qKind (some .int) false (k321.getD (60 + j) (0, 0, 0, [])) (60 + j)) = true := by decide +kernel
theorem cm_321 : ∀ pc : Nat, jck 12 cX12_qKind (some .int) false (k321.getD pc (0, 0, 0, [])) pc = true := chk_end (by decide +kernel) (chk_cat (chk_cat chk_0 ck_321_0) ck_321_1)
theorem ck_322_0 : (List.range 60).all (fun j => jck 12 cX12_qTakes none false (k322.getD (0 + j) (0, 0, 0, [])) (0 + j)) = true := by decide +kernel
theorem ck_322_1 : (List.range 60).all (fun j => jck 12 cX12_qTakes none false (k322.getD (60 + j) (0, 0, 0, [])) (60 + j)) = true := by decide +kernel
theorem ck_322_2 : (List.range 19).all (fun j => jck 12 cX12_qTakes none false (k322.getD (120 + j) (0, 0, 0, [])) (120 + j)) = true := by decide +kernel
theorem cm_322 : ∀ pc : Nat, jck 12 cX12_qTakes none false (k322.getD pc (0, 0, 0, [])) pc = true := chk_end (by decide +kernel) (chk_cat (chk_cat (chk_cat chk_0 ck_322_0) ck_322_1) ck_322_2)
