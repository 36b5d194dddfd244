theorem ck_247_0 : (List.range 60).all (fun j => jck 12 cX12_isCut (some .int) false (k247.getD (0 + j) (0, 0, 0, [])) (0 + j)) = true := by decide +kernel
theorem ck_247_1 : (List.range 60).all (fun j => jck 12 cX12_isCut (some .int) false (k247.getD (60 + j) (0, 0, 0, [])) (60 + j)) = true := by decide +kernel
theorem ck_247_2 : (List.range 9).all (fun j => jck 12 cX12_isCut (some .int) false (k247.getD (120 + j) (0, 0, 0, [])) (120 + j)) = true := by decide +kernel
theorem cm_247 : ∀ pc : Nat, jck 12 cX12_isCut (some .int) false (k247.getD pc (0, 0, 0, [])) pc = true := chk_end (by decide +kernel) (chk_cat (chk_cat (chk_cat chk_0 ck_247_0) ck_247_1) ck_247_2)
theorem ck_248_0 : (List.range 49).all (fun j => jck 12 cX12_cellsThat (some .int) false (k248.getD (0 + j) (0, 0, 0, [])) (0 + j)) = true := by decide +kernel
theorem cm_248 : ∀ pc : Nat, jck 12 cX12_cellsThat (some .int) false (k248.getD pc (0, 0, 0, [])) pc = true := chk_end (by decide +kernel) (chk_cat chk_0 ck_248_0)
theorem ck_249_0 : (List.range 28).all (fun j => jck 12 cX12_tubsAll (some .int) false (k249.getD (0 + j) (0, 0, 0, [])) (0 + j)) = true := by decide +kernel
theorem cm_249 : ∀ pc : Nat, jck 12 cX12_tubsAll (some .int) false (k249.getD pc (0, 0, 0, [])) pc = true := chk_end (by decide +kernel) (chk_cat chk_0 ck_249_0)
theorem ck_250_0 : (List.range 60).all (fun j => jck 12 cX12_has (some .int) false (k250.getD (0 + j) (0, 0, 0, [])) (0 + j)) = true := by decide +kernel
theorem ck_250_1 : (List.range 60).all (fun j => jck 12 cX12_has (some .int) false (k250.getD (60 + j) (0, 0, 0, [])) (60 + j)) = true := by decide +kernel
theorem ck_250_2 : (List.range 14).all (fun j => jck 12 cX12_has (some .int) false (k250.getD (120 + j) (0, 0, 0, [])) (120 + j)) = true := by decide +kernel
theorem cm_250 : ∀ pc : Nat, jck 12 cX12_has (some .int) false (k250.getD pc (0, 0, 0, [])) pc = true := chk_end (by decide +kernel) (chk_cat (chk_cat (chk_cat chk_0 ck_250_0) ck_250_1) ck_250_2)
theorem ck_251_0 : (List.range 60).all (fun j => jck 12 cX12_letter (some .int) false (k251.getD (0 + j) (0, 0, 0, [])) (0 + j)) = true := by decide +kernel
theorem ck_251_1 : (List.range 60).all (fun j => jck 12 cX12_letter (some .int) false (k251.getD (60 + j) (0, 0, 0, [])) (60 + j)) = true := by decide +kernel
theorem ck_251_2 : (List.range 11).all (fun j => jck 12 cX12_letter (some .int) false (k251.getD (120 + j) (0, 0, 0, [])) (120 + j)) = true := by decide +kernel
theorem cm_251 : ∀ pc : Nat, jck 12 cX12_letter (some .int) false (k251.getD pc (0, 0, 0, [])) pc = true := chk_end (by decide +kernel) (chk_cat (chk_cat (chk_cat chk_0 ck_251_0) ck_251_1) ck_251_2)
theorem ck_252_0 : (List.range 48).all (fun j => jck 12 cX12_cellsOf (some .int) false (k252.getD (0 + j) (0, 0, 0, [])) (0 + j)) = true := by decide +kernel
theorem cm_252 : ∀ pc : Nat, jck 12 cX12_cellsOf (some .int) false (k252.getD pc (0, 0, 0, [])) pc = true := chk_end (by decide +kernel) (chk_cat chk_0 ck_252_0)
theorem ck_253_0 : (List.range 60).all (fun j => jck 12 cX12_kind (some .int) false (k253.getD (0 + j) (0, 0, 0, [])) (0 + j)) = true := by decide +kernel
theorem ck_253_1 : (List.range 34).all (fun j => jck 12 cX12_kind (some .int) false (k253.getD (60 + j) (0, 0, 0, [])) (60 + j)) = true := by decide +kernel
theorem cm_253 : ∀ pc : Nat, jck 12 cX12_kind (some .int) false (k253.getD pc (0, 0, 0, [])) pc = true := chk_end (by decide +kernel) (chk_cat (chk_cat chk_0 ck_253_0) ck_253_1)
theorem ck_254_0 : (List.range 60).all (fun j => jck 12 cX12_cell (some .int) false (k254.getD (0 + j) (0, 0, 0, [])) (0 + j)) = true := by decide +kernel
theorem ck_254_1 : (List.range 49).all (fun j => jck 12 cX12_cell (some .int) false (k254.getD (60 + j) (0, 0, 0, [])) (60 + j)) = true := by decide +kernel
theorem cm_254 : ∀ pc : Nat, jck 12 cX12_cell (some .int) false (k254.getD pc (0, 0, 0, [])) pc = true := chk_end (by decide +kernel) (chk_cat (chk_cat chk_0 ck_254_0) ck_254_1)
theorem ck_255_0 : (List.range 60).all (fun j => jck 12 cX12_tiltOf (some .int) false (k255.getD (0 + j) (0, 0, 0, [])) (0 + j)) = true := by decide +kernel
theorem ck_255_1 : (List.range 60).all (fun j => jck 12 cX12_tiltOf (some .int) false (k255.getD (60 + j) (0, 0, 0, [])) (60 + j)) = true := by decide +kernel
theorem ck_255_2 : (List.range 11).all (fun j => jck 12 cX12_tiltOf (some .int) false (k255.getD (120 + j) (0, 0, 0, [])) (120 + j)) = true := by decide +kernel
theorem cm_255 : ∀ pc : Nat, jck 12 cX12_tiltOf (some .int) false (k255.getD pc (0, 0, 0, [])) pc = true := chk_end (by decide +kernel) (chk_cat (chk_cat (chk_cat chk_0 ck_255_0) ck_255_1) ck_255_2)
theorem ck_256_0 : (List.range 60).all (fun j => jck 12 cX12_house (some .int) false (k256.getD (0 + j) (0, 0, 0, [])) (0 + j)) = true := by decide +kernel
theorem ck_256_1 : (List.range 19).all (fun j => jck 12 cX12_house (some .int) false (k256.getD (60 + j) (0, 0, 0, [])) (60 + j)) = true := by decide +kernel
theorem cm_256 : ∀ pc : Nat, jck 12 cX12_house (some .int) false (k256.getD pc (0, 0, 0, [])) pc = true := chk_end (by decide +kernel) (chk_cat (chk_cat chk_0 ck_256_0) ck_256_1)
theorem ck_257_0 : (List.range 32).all (fun j => jck 12 cX12_putsAside none false (k257.getD (0 + j) (0, 0, 0, [])) (0 + j)) = true := by decide +kernel
theorem cm_257 : ∀ pc : Nat, jck 12 cX12_putsAside none false (k257.getD pc (0, 0, 0, [])) pc = true := chk_end (by decide +kernel) (chk_cat chk_0 ck_257_0)
theorem ck_258_0 : (List.range 32).all (fun j => jck 12 cX12_takesBack none false (k258.getD (0 + j) (0, 0, 0, [])) (0 + j)) = true := by decide +kernel
theorem cm_258 : ∀ pc : Nat, jck 12 cX12_takesBack none false (k258.getD pc (0, 0, 0, [])) pc = true := chk_end (by decide +kernel) (chk_cat chk_0 ck_258_0)
theorem ck_259_0 : (List.range 60).all (fun j => jck 12 cX12_judge (some .int) false (k259.getD (0 + j) (0, 0, 0, [])) (0 + j)) = true := by decide +kernel
theorem ck_259_1 : (List.range 60).all (fun j => jck 12 cX12_judge (some .int) false (k259.getD (60 + j) (0, 0, 0, [])) (60 + j)) = true := by decide +kernel
theorem ck_259_2 : (List.range 53).all (fun j => jck 12 cX12_judge (some .int) false (k259.getD (120 + j) (0, 0, 0, [])) (120 + j)) = true := by decide +kernel
theorem cm_259 : ∀ pc : Nat, jck 12 cX12_judge (some .int) false (k259.getD pc (0, 0, 0, [])) pc = true := chk_end (by decide +kernel) (chk_cat (chk_cat (chk_cat chk_0 ck_259_0) ck_259_1) ck_259_2)
theorem ck_260_0 : (List.range 46).all (fun j => jck 12 cX12_judged (some .int) false (k260.getD (0 + j) (0, 0, 0, [])) (0 + j)) = true := by decide +kernel
theorem cm_260 : ∀ pc : Nat, jck 12 cX12_judged (some .int) false (k260.getD pc (0, 0, 0, [])) pc = true := chk_end (by decide +kernel) (chk_cat chk_0 ck_260_0)
theorem ck_261_0 : (List.range 23).all (fun j => jck 12 cX12_opens none false (k261.getD (0 + j) (0, 0, 0, [])) (0 + j)) = true := by decide +kernel
theorem cm_261 : ∀ pc : Nat, jck 12 cX12_opens none false (k261.getD pc (0, 0, 0, [])) pc = true := chk_end (by decide +kernel) (chk_cat chk_0 ck_261_0)
theorem ck_262_0 : (List.range 55).all (fun j => jck 12 cX12_nextTried (some .int) false (k262.getD (0 + j) (0, 0, 0, [])) (0 + j)) = true := by decide +kernel
theorem cm_262 : ∀ pc : Nat, jck 12 cX12_nextTried (some .int) false (k262.getD pc (0, 0, 0, [])) pc = true := chk_end (by decide +kernel) (chk_cat chk_0 ck_262_0)
theorem ck_263_0 : (List.range 48).all (fun j => jck 12 cX12_isBest none false (k263.getD (0 + j) (0, 0, 0, [])) (0 + j)) = true := by decide +kernel
theorem cm_263 : ∀ pc : Nat, jck 12 cX12_isBest none false (k263.getD pc (0, 0, 0, [])) pc = true := chk_end (by decide +kernel) (chk_cat chk_0 ck_263_0)
theorem ck_264_0 : (List.range 60).all (fun j => jck 12 cX12_seeksBest none false (k264.getD (0 + j) (0, 0, 0, [])) (0 + j)) = true := by decide +kernel
theorem ck_264_1 : (List.range 60).all (fun j => jck 12 cX12_seeksBest none false (k264.getD (60 + j) (0, 0, 0, [])) (60 + j)) = true := by decide +kernel
theorem ck_264_2 : (List.range 23).all (fun j => jck 12 cX12_seeksBest none false (k264.getD (120 + j) (0, 0, 0, [])) (120 + j)) = true := by decide +kernel
theorem cm_264 : ∀ pc : Nat, jck 12 cX12_seeksBest none false (k264.getD pc (0, 0, 0, [])) pc = true := chk_end (by decide +kernel) (chk_cat (chk_cat (chk_cat chk_0 ck_264_0) ck_264_1) ck_264_2)
theorem ck_265_0 : (List.range 60).all (fun j => jck 12 cX12_best (some .int) false (k265.getD (0 + j) (0, 0, 0, [])) (0 + j)) = true := by decide +kernel
theorem ck_265_1 : (List.range 39).all (fun j => jck 12 cX12_best (some .int) false (k265.getD (60 + j) (0, 0, 0, [])) (60 + j)) = true := by decide +kernel
theorem cm_265 : ∀ pc : Nat, jck 12 cX12_best (some .int) false (k265.getD pc (0, 0, 0, [])) pc = true := chk_end (by decide +kernel) (chk_cat (chk_cat chk_0 ck_265_0) ck_265_1)
theorem ck_266_0 : (List.range 32).all (fun j => jck 12 cX12_opensRival none false (k266.getD (0 + j) (0, 0, 0, [])) (0 + j)) = true := by decide +kernel
theorem cm_266 : ∀ pc : Nat, jck 12 cX12_opensRival none false (k266.getD pc (0, 0, 0, [])) pc = true := chk_end (by decide +kernel) (chk_cat chk_0 ck_266_0)
theorem ck_267_0 : (List.range 60).all (fun j => jck 12 cX12_answers none false (k267.getD (0 + j) (0, 0, 0, [])) (0 + j)) = true := by decide +kernel
theorem ck_267_1 : (List.range 14).all (fun j => jck 12 cX12_answers none false (k267.getD (60 + j) (0, 0, 0, [])) (60 + j)) = true := by decide +kernel
theorem cm_267 : ∀ pc : Nat, jck 12 cX12_answers none false (k267.getD pc (0, 0, 0, [])) pc = true := chk_end (by decide +kernel) (chk_cat (chk_cat chk_0 ck_267_0) ck_267_1)
theorem ck_268_0 : (List.range 60).all (fun j => jck 12 cX12_seeksRivals none false (k268.getD (0 + j) (0, 0, 0, [])) (0 + j)) = true := by decide +kernel
theorem ck_268_1 : (List.range 49).all (fun j => jck 12 cX12_seeksRivals none false (k268.getD (60 + j) (0, 0, 0, [])) (60 + j)) = true := by decide +kernel
theorem cm_268 : ∀ pc : Nat, jck 12 cX12_seeksRivals none false (k268.getD pc (0, 0, 0, [])) pc = true := chk_end (by decide +kernel) (chk_cat (chk_cat chk_0 ck_268_0) ck_268_1)
theorem ck_269_0 : (List.range 60).all (fun j => jck 12 cX12_rivals (some .long) false (k269.getD (0 + j) (0, 0, 0, [])) (0 + j)) = true := by decide +kernel
theorem ck_269_1 : (List.range 60).all (fun j => jck 12 cX12_rivals (some .long) false (k269.getD (60 + j) (0, 0, 0, [])) (60 + j)) = true := by decide +kernel
theorem ck_269_2 : (List.range 48).all (fun j => jck 12 cX12_rivals (some .long) false (k269.getD (120 + j) (0, 0, 0, [])) (120 + j)) = true := by decide +kernel
theorem cm_269 : ∀ pc : Nat, jck 12 cX12_rivals (some .long) false (k269.getD pc (0, 0, 0, [])) pc = true := chk_end (by decide +kernel) (chk_cat (chk_cat (chk_cat chk_0 ck_269_0) ck_269_1) ck_269_2)
theorem ck_270_0 : (List.range 60).all (fun j => jck 12 cX12_isStored (some .boolean) false (k270.getD (0 + j) (0, 0, 0, [])) (0 + j)) = true := by decide +kernel
theorem ck_270_1 : (List.range 60).all (fun j => jck 12 cX12_isStored (some .boolean) false (k270.getD (60 + j) (0, 0, 0, [])) (60 + j)) = true := by decide +kernel
theorem ck_270_2 : (List.range 17).all (fun j => jck 12 cX12_isStored (some .boolean) false (k270.getD (120 + j) (0, 0, 0, [])) (120 + j)) = true := by decide +kernel
theorem cm_270 : ∀ pc : Nat, jck 12 cX12_isStored (some .boolean) false (k270.getD pc (0, 0, 0, [])) pc = true := chk_end (by decide +kernel) (chk_cat (chk_cat (chk_cat chk_0 ck_270_0) ck_270_1) ck_270_2)
theorem ck_271_0 : (List.range 39).all (fun j => jck 12 cX12_storesUsed (some .int) false (k271.getD (0 + j) (0, 0, 0, [])) (0 + j)) = true := by decide +kernel
theorem cm_271 : ∀ pc : Nat, jck 12 cX12_storesUsed (some .int) false (k271.getD pc (0, 0, 0, [])) pc = true := chk_end (by decide +kernel) (chk_cat chk_0 ck_271_0)
