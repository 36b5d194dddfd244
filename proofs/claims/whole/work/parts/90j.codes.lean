theorem ck_272_0 : (List.range 60).all (fun j => jck 12 cX12_stores (some .int) false (k272.getD (0 + j) (0, 0, 0, [])) (0 + j)) = true := by decide +kernel
theorem ck_272_1 : (List.range 47).all (fun j => jck 12 cX12_stores (some .int) false (k272.getD (60 + j) (0, 0, 0, [])) (60 + j)) = true := by decide +kernel
theorem cm_272 : ∀ pc : Nat, jck 12 cX12_stores (some .int) false (k272.getD pc (0, 0, 0, [])) pc = true := chk_end (by decide +kernel) (chk_cat (chk_cat chk_0 ck_272_0) ck_272_1)
theorem ck_273_0 : (List.range 60).all (fun j => jck 12 cX12_keeps none false (k273.getD (0 + j) (0, 0, 0, [])) (0 + j)) = true := by decide +kernel
theorem ck_273_1 : (List.range 7).all (fun j => jck 12 cX12_keeps none false (k273.getD (60 + j) (0, 0, 0, [])) (60 + j)) = true := by decide +kernel
theorem cm_273 : ∀ pc : Nat, jck 12 cX12_keeps none false (k273.getD pc (0, 0, 0, [])) pc = true := chk_end (by decide +kernel) (chk_cat (chk_cat chk_0 ck_273_0) ck_273_1)
theorem ck_274_0 : (List.range 60).all (fun j => jck 12 cX12_undo (some .boolean) false (k274.getD (0 + j) (0, 0, 0, [])) (0 + j)) = true := by decide +kernel
theorem ck_274_1 : (List.range 21).all (fun j => jck 12 cX12_undo (some .boolean) false (k274.getD (60 + j) (0, 0, 0, [])) (60 + j)) = true := by decide +kernel
theorem cm_274 : ∀ pc : Nat, jck 12 cX12_undo (some .boolean) false (k274.getD pc (0, 0, 0, [])) pc = true := chk_end (by decide +kernel) (chk_cat (chk_cat chk_0 ck_274_0) ck_274_1)
theorem ck_275_0 : (List.range 12).all (fun j => jck 12 cX12_refuses (some .int) false (k275.getD (0 + j) (0, 0, 0, [])) (0 + j)) = true := by decide +kernel
theorem cm_275 : ∀ pc : Nat, jck 12 cX12_refuses (some .int) false (k275.getD pc (0, 0, 0, [])) pc = true := chk_end (by decide +kernel) (chk_cat chk_0 ck_275_0)
theorem ck_276_0 : (List.range 40).all (fun j => jck 12 cX12_cut (some .int) false (k276.getD (0 + j) (0, 0, 0, [])) (0 + j)) = true := by decide +kernel
theorem cm_276 : ∀ pc : Nat, jck 12 cX12_cut (some .int) false (k276.getD pc (0, 0, 0, [])) pc = true := chk_end (by decide +kernel) (chk_cat chk_0 ck_276_0)
theorem ck_277_0 : (List.range 60).all (fun j => jck 12 cX12_prop (some .boolean) false (k277.getD (0 + j) (0, 0, 0, [])) (0 + j)) = true := by decide +kernel
theorem ck_277_1 : (List.range 4).all (fun j => jck 12 cX12_prop (some .boolean) false (k277.getD (60 + j) (0, 0, 0, [])) (60 + j)) = true := by decide +kernel
theorem cm_277 : ∀ pc : Nat, jck 12 cX12_prop (some .boolean) false (k277.getD pc (0, 0, 0, [])) pc = true := chk_end (by decide +kernel) (chk_cat (chk_cat chk_0 ck_277_0) ck_277_1)
theorem ck_278_0 : (List.range 60).all (fun j => jck 12 cX12_burn (some .boolean) false (k278.getD (0 + j) (0, 0, 0, [])) (0 + j)) = true := by decide +kernel
theorem cm_278 : ∀ pc : Nat, jck 12 cX12_burn (some .boolean) false (k278.getD pc (0, 0, 0, [])) pc = true := chk_end (by decide +kernel) (chk_cat chk_0 ck_278_0)
theorem ck_279_0 : (List.range 24).all (fun j => jck 12 cX12_seed (some .boolean) false (k279.getD (0 + j) (0, 0, 0, [])) (0 + j)) = true := by decide +kernel
theorem cm_279 : ∀ pc : Nat, jck 12 cX12_seed (some .boolean) false (k279.getD pc (0, 0, 0, [])) pc = true := chk_end (by decide +kernel) (chk_cat chk_0 ck_279_0)
theorem ck_280_0 : (List.range 33).all (fun j => jck 12 cX12_drawOf (some .int) false (k280.getD (0 + j) (0, 0, 0, [])) (0 + j)) = true := by decide +kernel
theorem cm_280 : ∀ pc : Nat, jck 12 cX12_drawOf (some .int) false (k280.getD pc (0, 0, 0, [])) pc = true := chk_end (by decide +kernel) (chk_cat chk_0 ck_280_0)
theorem ck_281_0 : (List.range 60).all (fun j => jck 12 cX12_blasts none false (k281.getD (0 + j) (0, 0, 0, [])) (0 + j)) = true := by decide +kernel
theorem ck_281_1 : (List.range 29).all (fun j => jck 12 cX12_blasts none false (k281.getD (60 + j) (0, 0, 0, [])) (60 + j)) = true := by decide +kernel
theorem cm_281 : ∀ pc : Nat, jck 12 cX12_blasts none false (k281.getD pc (0, 0, 0, [])) pc = true := chk_end (by decide +kernel) (chk_cat (chk_cat chk_0 ck_281_0) ck_281_1)
theorem ck_282_0 : (List.range 60).all (fun j => jck 12 cX12_dayGoes (some .boolean) false (k282.getD (0 + j) (0, 0, 0, [])) (0 + j)) = true := by decide +kernel
theorem ck_282_1 : (List.range 13).all (fun j => jck 12 cX12_dayGoes (some .boolean) false (k282.getD (60 + j) (0, 0, 0, [])) (60 + j)) = true := by decide +kernel
theorem cm_282 : ∀ pc : Nat, jck 12 cX12_dayGoes (some .boolean) false (k282.getD pc (0, 0, 0, [])) pc = true := chk_end (by decide +kernel) (chk_cat (chk_cat chk_0 ck_282_0) ck_282_1)
theorem ck_283_0 : (List.range 60).all (fun j => jck 12 cX12_days (some .int) false (k283.getD (0 + j) (0, 0, 0, [])) (0 + j)) = true := by decide +kernel
theorem ck_283_1 : (List.range 2).all (fun j => jck 12 cX12_days (some .int) false (k283.getD (60 + j) (0, 0, 0, [])) (60 + j)) = true := by decide +kernel
theorem cm_283 : ∀ pc : Nat, jck 12 cX12_days (some .int) false (k283.getD pc (0, 0, 0, [])) pc = true := chk_end (by decide +kernel) (chk_cat (chk_cat chk_0 ck_283_0) ck_283_1)
theorem ck_284_0 : (List.range 60).all (fun j => jck 12 cX12_bores (some .int) false (k284.getD (0 + j) (0, 0, 0, [])) (0 + j)) = true := by decide +kernel
theorem ck_284_1 : (List.range 60).all (fun j => jck 12 cX12_bores (some .int) false (k284.getD (60 + j) (0, 0, 0, [])) (60 + j)) = true := by decide +kernel
theorem ck_284_2 : (List.range 33).all (fun j => jck 12 cX12_bores (some .int) false (k284.getD (120 + j) (0, 0, 0, [])) (120 + j)) = true := by decide +kernel
theorem cm_284 : ∀ pc : Nat, jck 12 cX12_bores (some .int) false (k284.getD pc (0, 0, 0, [])) pc = true := chk_end (by decide +kernel) (chk_cat (chk_cat (chk_cat chk_0 ck_284_0) ck_284_1) ck_284_2)
theorem ck_285_0 : (List.range 19).all (fun j => jck 12 cX12_shifted (some .int) false (k285.getD (0 + j) (0, 0, 0, [])) (0 + j)) = true := by decide +kernel
theorem cm_285 : ∀ pc : Nat, jck 12 cX12_shifted (some .int) false (k285.getD pc (0, 0, 0, [])) pc = true := chk_end (by decide +kernel) (chk_cat chk_0 ck_285_0)
theorem ck_286_0 : (List.range 54).all (fun j => jck 12 cX12_isFit (some .boolean) false (k286.getD (0 + j) (0, 0, 0, [])) (0 + j)) = true := by decide +kernel
theorem cm_286 : ∀ pc : Nat, jck 12 cX12_isFit (some .boolean) false (k286.getD pc (0, 0, 0, [])) pc = true := chk_end (by decide +kernel) (chk_cat chk_0 ck_286_0)
theorem ck_287_0 : (List.range 32).all (fun j => jck 12 cX12_fitting (some .int) false (k287.getD (0 + j) (0, 0, 0, [])) (0 + j)) = true := by decide +kernel
theorem cm_287 : ∀ pc : Nat, jck 12 cX12_fitting (some .int) false (k287.getD pc (0, 0, 0, [])) pc = true := chk_end (by decide +kernel) (chk_cat chk_0 ck_287_0)
theorem ck_288_0 : (List.range 55).all (fun j => jck 12 cX12_fits (some .int) false (k288.getD (0 + j) (0, 0, 0, [])) (0 + j)) = true := by decide +kernel
theorem cm_288 : ∀ pc : Nat, jck 12 cX12_fits (some .int) false (k288.getD pc (0, 0, 0, [])) pc = true := chk_end (by decide +kernel) (chk_cat chk_0 ck_288_0)
theorem ck_289_0 : (List.range 60).all (fun j => jck 12 cX12_alikeAt (some .int) false (k289.getD (0 + j) (0, 0, 0, [])) (0 + j)) = true := by decide +kernel
theorem ck_289_1 : (List.range 26).all (fun j => jck 12 cX12_alikeAt (some .int) false (k289.getD (60 + j) (0, 0, 0, [])) (60 + j)) = true := by decide +kernel
theorem cm_289 : ∀ pc : Nat, jck 12 cX12_alikeAt (some .int) false (k289.getD pc (0, 0, 0, [])) pc = true := chk_end (by decide +kernel) (chk_cat (chk_cat chk_0 ck_289_0) ck_289_1)
theorem ck_290_0 : (List.range 60).all (fun j => jck 12 cX12_next (some .int) false (k290.getD (0 + j) (0, 0, 0, [])) (0 + j)) = true := by decide +kernel
theorem ck_290_1 : (List.range 27).all (fun j => jck 12 cX12_next (some .int) false (k290.getD (60 + j) (0, 0, 0, [])) (60 + j)) = true := by decide +kernel
theorem cm_290 : ∀ pc : Nat, jck 12 cX12_next (some .int) false (k290.getD pc (0, 0, 0, [])) pc = true := chk_end (by decide +kernel) (chk_cat (chk_cat chk_0 ck_290_0) ck_290_1)
theorem ck_291_0 : (List.range 60).all (fun j => jck 12 cX12_laysWays none false (k291.getD (0 + j) (0, 0, 0, [])) (0 + j)) = true := by decide +kernel
theorem ck_291_1 : (List.range 8).all (fun j => jck 12 cX12_laysWays none false (k291.getD (60 + j) (0, 0, 0, [])) (60 + j)) = true := by decide +kernel
theorem cm_291 : ∀ pc : Nat, jck 12 cX12_laysWays none false (k291.getD pc (0, 0, 0, [])) pc = true := chk_end (by decide +kernel) (chk_cat (chk_cat chk_0 ck_291_0) ck_291_1)
theorem ck_292_0 : (List.range 60).all (fun j => jck 12 cX12_addsKind none false (k292.getD (0 + j) (0, 0, 0, [])) (0 + j)) = true := by decide +kernel
theorem ck_292_1 : (List.range 6).all (fun j => jck 12 cX12_addsKind none false (k292.getD (60 + j) (0, 0, 0, [])) (60 + j)) = true := by decide +kernel
theorem cm_292 : ∀ pc : Nat, jck 12 cX12_addsKind none false (k292.getD pc (0, 0, 0, [])) pc = true := chk_end (by decide +kernel) (chk_cat (chk_cat chk_0 ck_292_0) ck_292_1)
theorem ck_293_0 : (List.range 57).all (fun j => jck 12 cX12_fewestOf (some .int) false (k293.getD (0 + j) (0, 0, 0, [])) (0 + j)) = true := by decide +kernel
theorem cm_293 : ∀ pc : Nat, jck 12 cX12_fewestOf (some .int) false (k293.getD pc (0, 0, 0, [])) pc = true := chk_end (by decide +kernel) (chk_cat chk_0 ck_293_0)
theorem ck_294_0 : (List.range 60).all (fun j => jck 12 cX12_theft (some .int) false (k294.getD (0 + j) (0, 0, 0, [])) (0 + j)) = true := by decide +kernel
theorem ck_294_1 : (List.range 16).all (fun j => jck 12 cX12_theft (some .int) false (k294.getD (60 + j) (0, 0, 0, [])) (60 + j)) = true := by decide +kernel
theorem cm_294 : ∀ pc : Nat, jck 12 cX12_theft (some .int) false (k294.getD pc (0, 0, 0, [])) pc = true := chk_end (by decide +kernel) (chk_cat (chk_cat chk_0 ck_294_0) ck_294_1)
theorem ck_295_0 : (List.range 21).all (fun j => jck 12 cX12_qCode none false (k295.getD (0 + j) (0, 0, 0, [])) (0 + j)) = true := by decide +kernel
theorem cm_295 : ∀ pc : Nat, jck 12 cX12_qCode none false (k295.getD pc (0, 0, 0, [])) pc = true := chk_end (by decide +kernel) (chk_cat chk_0 ck_295_0)
theorem ck_296_0 : (List.range 55).all (fun j => jck 12 cX12_qOpens none false (k296.getD (0 + j) (0, 0, 0, [])) (0 + j)) = true := by decide +kernel
theorem cm_296 : ∀ pc : Nat, jck 12 cX12_qOpens none false (k296.getD pc (0, 0, 0, [])) pc = true := chk_end (by decide +kernel) (chk_cat chk_0 ck_296_0)
theorem ck_297_0 : (List.range 28).all (fun j => jck 12 cX12_qIsOn (some .boolean) false (k297.getD (0 + j) (0, 0, 0, [])) (0 + j)) = true := by decide +kernel
theorem cm_297 : ∀ pc : Nat, jck 12 cX12_qIsOn (some .boolean) false (k297.getD pc (0, 0, 0, [])) pc = true := chk_end (by decide +kernel) (chk_cat chk_0 ck_297_0)
theorem ck_298_0 : (List.range 24).all (fun j => jck 12 cX12_qDrops none false (k298.getD (0 + j) (0, 0, 0, [])) (0 + j)) = true := by decide +kernel
theorem cm_298 : ∀ pc : Nat, jck 12 cX12_qDrops none false (k298.getD pc (0, 0, 0, [])) pc = true := chk_end (by decide +kernel) (chk_cat chk_0 ck_298_0)
theorem ck_299_0 : (List.range 18).all (fun j => jck 12 cX12_qIsBracket (some .boolean) false (k299.getD (0 + j) (0, 0, 0, [])) (0 + j)) = true := by decide +kernel
theorem cm_299 : ∀ pc : Nat, jck 12 cX12_qIsBracket (some .boolean) false (k299.getD pc (0, 0, 0, [])) pc = true := chk_end (by decide +kernel) (chk_cat chk_0 ck_299_0)
theorem ck_300_0 : (List.range 52).all (fun j => jck 12 cX12_qBracket (some .int) false (k300.getD (0 + j) (0, 0, 0, [])) (0 + j)) = true := by decide +kernel
theorem cm_300 : ∀ pc : Nat, jck 12 cX12_qBracket (some .int) false (k300.getD pc (0, 0, 0, [])) pc = true := chk_end (by decide +kernel) (chk_cat chk_0 ck_300_0)
theorem ck_301_0 : (List.range 36).all (fun j => jck 12 cX12_qDropsToBracket none false (k301.getD (0 + j) (0, 0, 0, [])) (0 + j)) = true := by decide +kernel
theorem cm_301 : ∀ pc : Nat, jck 12 cX12_qDropsToBracket none false (k301.getD pc (0, 0, 0, [])) pc = true := chk_end (by decide +kernel) (chk_cat chk_0 ck_301_0)
theorem ck_302_0 : (List.range 60).all (fun j => jck 12 cX12_qWordHere (some .int) false (k302.getD (0 + j) (0, 0, 0, [])) (0 + j)) = true := by decide +kernel
theorem ck_302_1 : (List.range 60).all (fun j => jck 12 cX12_qWordHere (some .int) false (k302.getD (60 + j) (0, 0, 0, [])) (60 + j)) = true := by decide +kernel
theorem ck_302_2 : (List.range 30).all (fun j => jck 12 cX12_qWordHere (some .int) false (k302.getD (120 + j) (0, 0, 0, [])) (120 + j)) = true := by decide +kernel
theorem cm_302 : ∀ pc : Nat, jck 12 cX12_qWordHere (some .int) false (k302.getD pc (0, 0, 0, [])) pc = true := chk_end (by decide +kernel) (chk_cat (chk_cat (chk_cat chk_0 ck_302_0) ck_302_1) ck_302_2)
theorem ck_303_0 : (List.range 29).all (fun j => jck 12 cX12_qWordOf (some .int) false (k303.getD (0 + j) (0, 0, 0, [])) (0 + j)) = true := by decide +kernel
theorem cm_303 : ∀ pc : Nat, jck 12 cX12_qWordOf (some .int) false (k303.getD pc (0, 0, 0, [])) pc = true := chk_end (by decide +kernel) (chk_cat chk_0 ck_303_0)
theorem ck_304_0 : (List.range 60).all (fun j => jck 12 cX12_qAsksWord none false (k304.getD (0 + j) (0, 0, 0, [])) (0 + j)) = true := by decide +kernel
theorem ck_304_1 : (List.range 60).all (fun j => jck 12 cX12_qAsksWord none false (k304.getD (60 + j) (0, 0, 0, [])) (60 + j)) = true := by decide +kernel
theorem ck_304_2 : (List.range 55).all (fun j => jck 12 cX12_qAsksWord none false (k304.getD (120 + j) (0, 0, 0, [])) (120 + j)) = true := by decide +kernel
theorem cm_304 : ∀ pc : Nat, jck 12 cX12_qAsksWord none false (k304.getD pc (0, 0, 0, [])) pc = true := chk_end (by decide +kernel) (chk_cat (chk_cat (chk_cat chk_0 ck_304_0) ck_304_1) ck_304_2)
theorem ck_305_0 : (List.range 52).all (fun j => jck 12 cX12_qEndsPart none false (k305.getD (0 + j) (0, 0, 0, [])) (0 + j)) = true := by decide +kernel
theorem cm_305 : ∀ pc : Nat, jck 12 cX12_qEndsPart none false (k305.getD pc (0, 0, 0, [])) pc = true := chk_end (by decide +kernel) (chk_cat chk_0 ck_305_0)
