theorem ck_323_0 : (List.range 60).all (fun j => jck 12 cX12_ask (some .long) false (k323.getD (0 + j) (0, 0, 0, [])) (0 + j)) = true := by decide +kernel
theorem ck_323_1 : (List.range 60).all (fun j => jck 12 cX12_ask (some .long) false (k323.getD (60 + j) (0, 0, 0, [])) (60 + j)) = true := by decide +kernel
theorem ck_323_2 : (List.range 60).all (fun j => jck 12 cX12_ask (some .long) false (k323.getD (120 + j) (0, 0, 0, [])) (120 + j)) = true := by decide +kernel
theorem ck_323_3 : (List.range 60).all (fun j => jck 12 cX12_ask (some .long) false (k323.getD (180 + j) (0, 0, 0, [])) (180 + j)) = true := by decide +kernel
theorem ck_323_4 : (List.range 13).all (fun j => jck 12 cX12_ask (some .long) false (k323.getD (240 + j) (0, 0, 0, [])) (240 + j)) = true := by decide +kernel
theorem cm_323 : ∀ pc : Nat, jck 12 cX12_ask (some .long) false (k323.getD pc (0, 0, 0, [])) pc = true := chk_end (by decide +kernel) (chk_cat (chk_cat (chk_cat (chk_cat (chk_cat chk_0 ck_323_0) ck_323_1) ck_323_2) ck_323_3) ck_323_4)
theorem ck_324_0 : (List.range 31).all (fun j => jck 12 cX12_checked (some .int) false (k324.getD (0 + j) (0, 0, 0, [])) (0 + j)) = true := by decide +kernel
theorem cm_324 : ∀ pc : Nat, jck 12 cX12_checked (some .int) false (k324.getD pc (0, 0, 0, [])) pc = true := chk_end (by decide +kernel) (chk_cat chk_0 ck_324_0)
theorem ck_325_0 : (List.range 21).all (fun j => jck 12 cX12_writes none false (k325.getD (0 + j) (0, 0, 0, [])) (0 + j)) = true := by decide +kernel
theorem cm_325 : ∀ pc : Nat, jck 12 cX12_writes none false (k325.getD pc (0, 0, 0, [])) pc = true := chk_end (by decide +kernel) (chk_cat chk_0 ck_325_0)
theorem ck_326_0 : (List.range 32).all (fun j => jck 12 cX12_writesThree none false (k326.getD (0 + j) (0, 0, 0, [])) (0 + j)) = true := by decide +kernel
theorem cm_326 : ∀ pc : Nat, jck 12 cX12_writesThree none false (k326.getD pc (0, 0, 0, [])) pc = true := chk_end (by decide +kernel) (chk_cat chk_0 ck_326_0)
theorem ck_327_0 : (List.range 60).all (fun j => jck 12 cX12_image (some .int) false (k327.getD (0 + j) (0, 0, 0, [])) (0 + j)) = true := by decide +kernel
theorem ck_327_1 : (List.range 45).all (fun j => jck 12 cX12_image (some .int) false (k327.getD (60 + j) (0, 0, 0, [])) (60 + j)) = true := by decide +kernel
theorem cm_327 : ∀ pc : Nat, jck 12 cX12_image (some .int) false (k327.getD pc (0, 0, 0, [])) pc = true := chk_end (by decide +kernel) (chk_cat (chk_cat chk_0 ck_327_0) ck_327_1)
theorem ck_328_0 : (List.range 23).all (fun j => jck 12 cX12_octet (some .int) false (k328.getD (0 + j) (0, 0, 0, [])) (0 + j)) = true := by decide +kernel
theorem cm_328 : ∀ pc : Nat, jck 12 cX12_octet (some .int) false (k328.getD pc (0, 0, 0, [])) pc = true := chk_end (by decide +kernel) (chk_cat chk_0 ck_328_0)
theorem ck_329_0 : (List.range 33).all (fun j => jck 12 cX12_threeAt (some .int) false (k329.getD (0 + j) (0, 0, 0, [])) (0 + j)) = true := by decide +kernel
theorem cm_329 : ∀ pc : Nat, jck 12 cX12_threeAt (some .int) false (k329.getD pc (0, 0, 0, [])) pc = true := chk_end (by decide +kernel) (chk_cat chk_0 ck_329_0)
theorem ck_330_0 : (List.range 60).all (fun j => jck 12 cX12_isTold (some .boolean) false (k330.getD (0 + j) (0, 0, 0, [])) (0 + j)) = true := by decide +kernel
theorem ck_330_1 : (List.range 60).all (fun j => jck 12 cX12_isTold (some .boolean) false (k330.getD (60 + j) (0, 0, 0, [])) (60 + j)) = true := by decide +kernel
theorem ck_330_2 : (List.range 33).all (fun j => jck 12 cX12_isTold (some .boolean) false (k330.getD (120 + j) (0, 0, 0, [])) (120 + j)) = true := by decide +kernel
theorem cm_330 : ∀ pc : Nat, jck 12 cX12_isTold (some .boolean) false (k330.getD pc (0, 0, 0, [])) pc = true := chk_end (by decide +kernel) (chk_cat (chk_cat (chk_cat chk_0 ck_330_0) ck_330_1) ck_330_2)
theorem ck_331_0 : (List.range 60).all (fun j => jck 12 cX12_on (some .boolean) false (k331.getD (0 + j) (0, 0, 0, [])) (0 + j)) = true := by decide +kernel
theorem ck_331_1 : (List.range 60).all (fun j => jck 12 cX12_on (some .boolean) false (k331.getD (60 + j) (0, 0, 0, [])) (60 + j)) = true := by decide +kernel
theorem ck_331_2 : (List.range 23).all (fun j => jck 12 cX12_on (some .boolean) false (k331.getD (120 + j) (0, 0, 0, [])) (120 + j)) = true := by decide +kernel
theorem cm_331 : ∀ pc : Nat, jck 12 cX12_on (some .boolean) false (k331.getD pc (0, 0, 0, [])) pc = true := chk_end (by decide +kernel) (chk_cat (chk_cat (chk_cat chk_0 ck_331_0) ck_331_1) ck_331_2)
theorem ck_332_0 : (List.range 23).all (fun j => jck 12 cX12_status (some .int) false (k332.getD (0 + j) (0, 0, 0, [])) (0 + j)) = true := by decide +kernel
theorem cm_332 : ∀ pc : Nat, jck 12 cX12_status (some .int) false (k332.getD pc (0, 0, 0, [])) pc = true := chk_end (by decide +kernel) (chk_cat chk_0 ck_332_0)
theorem ck_333_0 : (List.range 60).all (fun j => jck 14 cJ6_numberOfTrailingZeros_0f7a4 (some .int) false (k333.getD (0 + j) (0, 0, 0, [])) (0 + j)) = true := by decide +kernel
theorem ck_333_1 : (List.range 20).all (fun j => jck 14 cJ6_numberOfTrailingZeros_0f7a4 (some .int) false (k333.getD (60 + j) (0, 0, 0, [])) (60 + j)) = true := by decide +kernel
theorem cm_333 : ∀ pc : Nat, jck 14 cJ6_numberOfTrailingZeros_0f7a4 (some .int) false (k333.getD pc (0, 0, 0, [])) pc = true := chk_end (by decide +kernel) (chk_cat (chk_cat chk_0 ck_333_0) ck_333_1)
theorem ck_334_0 : (List.range 53).all (fun j => jck 14 cJ6_bitCount_0f7a4 (some .int) false (k334.getD (0 + j) (0, 0, 0, [])) (0 + j)) = true := by decide +kernel
theorem cm_334 : ∀ pc : Nat, jck 14 cJ6_bitCount_0f7a4 (some .int) false (k334.getD pc (0, 0, 0, [])) pc = true := chk_end (by decide +kernel) (chk_cat chk_0 ck_334_0)
theorem ck_335_0 : (List.range 23).all (fun j => jck 15 cJ9_floorDiv_7cf53 (some .int) false (k335.getD (0 + j) (0, 0, 0, [])) (0 + j)) = true := by decide +kernel
theorem cm_335 : ∀ pc : Nat, jck 15 cJ9_floorDiv_7cf53 (some .int) false (k335.getD pc (0, 0, 0, [])) pc = true := chk_end (by decide +kernel) (chk_cat chk_0 ck_335_0)
theorem ck_336_0 : (List.range 11).all (fun j => jck 15 cJ9_abs_0f7a4 (some .int) false (k336.getD (0 + j) (0, 0, 0, [])) (0 + j)) = true := by decide +kernel
theorem cm_336 : ∀ pc : Nat, jck 15 cJ9_abs_0f7a4 (some .int) false (k336.getD pc (0, 0, 0, [])) pc = true := chk_end (by decide +kernel) (chk_cat chk_0 ck_336_0)
theorem ck_337_0 : (List.range 11).all (fun j => jck 15 cJ9_max_7cf53 (some .int) false (k337.getD (0 + j) (0, 0, 0, [])) (0 + j)) = true := by decide +kernel
theorem cm_337 : ∀ pc : Nat, jck 15 cJ9_max_7cf53 (some .int) false (k337.getD pc (0, 0, 0, [])) pc = true := chk_end (by decide +kernel) (chk_cat chk_0 ck_337_0)
theorem ck_338_0 : (List.range 12).all (fun j => jck 15 cJ9_max_f86c9 (some .long) false (k338.getD (0 + j) (0, 0, 0, [])) (0 + j)) = true := by decide +kernel
theorem cm_338 : ∀ pc : Nat, jck 15 cJ9_max_f86c9 (some .long) false (k338.getD pc (0, 0, 0, [])) pc = true := chk_end (by decide +kernel) (chk_cat chk_0 ck_338_0)
theorem ck_339_0 : (List.range 11).all (fun j => jck 15 cJ9_min_7cf53 (some .int) false (k339.getD (0 + j) (0, 0, 0, [])) (0 + j)) = true := by decide +kernel
theorem cm_339 : ∀ pc : Nat, jck 15 cJ9_min_7cf53 (some .int) false (k339.getD pc (0, 0, 0, [])) pc = true := chk_end (by decide +kernel) (chk_cat chk_0 ck_339_0)
theorem ck_340_0 : (List.range 12).all (fun j => jck 15 cJ9_min_f86c9 (some .long) false (k340.getD (0 + j) (0, 0, 0, [])) (0 + j)) = true := by decide +kernel
theorem cm_340 : ∀ pc : Nat, jck 15 cJ9_min_f86c9 (some .long) false (k340.getD pc (0, 0, 0, [])) pc = true := chk_end (by decide +kernel) (chk_cat chk_0 ck_340_0)
theorem ck_341_0 : (List.range 21).all (fun j => jck 16 cJ7_fill_53178 none false (k341.getD (0 + j) (0, 0, 0, [])) (0 + j)) = true := by decide +kernel
theorem cm_341 : ∀ pc : Nat, jck 16 cJ7_fill_53178 none false (k341.getD pc (0, 0, 0, [])) pc = true := chk_end (by decide +kernel) (chk_cat chk_0 ck_341_0)
