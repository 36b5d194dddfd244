theorem ck_212_0 : (List.range 60).all (fun j => jck 12 cX12_codesTold none false (k212.getD (0 + j) (0, 0, 0, [])) (0 + j)) = true := by decide +kernel
theorem ck_212_1 : (List.range 60).all (fun j => jck 12 cX12_codesTold none false (k212.getD (60 + j) (0, 0, 0, [])) (60 + j)) = true := by decide +kernel
theorem ck_212_2 : (List.range 30).all (fun j => jck 12 cX12_codesTold none false (k212.getD (120 + j) (0, 0, 0, [])) (120 + j)) = true := by decide +kernel
theorem cm_212 : ∀ pc : Nat, jck 12 cX12_codesTold none false (k212.getD pc (0, 0, 0, [])) pc = true := chk_end (by decide +kernel) (chk_cat (chk_cat (chk_cat chk_0 ck_212_0) ck_212_1) ck_212_2)
theorem ck_213_0 : (List.range 60).all (fun j => jck 12 cX12_statementTold none false (k213.getD (0 + j) (0, 0, 0, [])) (0 + j)) = true := by decide +kernel
theorem ck_213_1 : (List.range 60).all (fun j => jck 12 cX12_statementTold none false (k213.getD (60 + j) (0, 0, 0, [])) (60 + j)) = true := by decide +kernel
theorem ck_213_2 : (List.range 60).all (fun j => jck 12 cX12_statementTold none false (k213.getD (120 + j) (0, 0, 0, [])) (120 + j)) = true := by decide +kernel
theorem ck_213_3 : (List.range 60).all (fun j => jck 12 cX12_statementTold none false (k213.getD (180 + j) (0, 0, 0, [])) (180 + j)) = true := by decide +kernel
theorem ck_213_4 : (List.range 10).all (fun j => jck 12 cX12_statementTold none false (k213.getD (240 + j) (0, 0, 0, [])) (240 + j)) = true := by decide +kernel
theorem cm_213 : ∀ pc : Nat, jck 12 cX12_statementTold none false (k213.getD pc (0, 0, 0, [])) pc = true := chk_end (by decide +kernel) (chk_cat (chk_cat (chk_cat (chk_cat (chk_cat chk_0 ck_213_0) ck_213_1) ck_213_2) ck_213_3) ck_213_4)
theorem ck_214_0 : (List.range 60).all (fun j => jck 12 cX12_pit (some .int) false (k214.getD (0 + j) (0, 0, 0, [])) (0 + j)) = true := by decide +kernel
theorem ck_214_1 : (List.range 60).all (fun j => jck 12 cX12_pit (some .int) false (k214.getD (60 + j) (0, 0, 0, [])) (60 + j)) = true := by decide +kernel
theorem ck_214_2 : (List.range 56).all (fun j => jck 12 cX12_pit (some .int) false (k214.getD (120 + j) (0, 0, 0, [])) (120 + j)) = true := by decide +kernel
theorem cm_214 : ∀ pc : Nat, jck 12 cX12_pit (some .int) false (k214.getD pc (0, 0, 0, [])) pc = true := chk_end (by decide +kernel) (chk_cat (chk_cat (chk_cat chk_0 ck_214_0) ck_214_1) ck_214_2)
theorem ck_215_0 : (List.range 60).all (fun j => jck 12 cX12_stands none false (k215.getD (0 + j) (0, 0, 0, [])) (0 + j)) = true := by decide +kernel
theorem ck_215_1 : (List.range 60).all (fun j => jck 12 cX12_stands none false (k215.getD (60 + j) (0, 0, 0, [])) (60 + j)) = true := by decide +kernel
theorem ck_215_2 : (List.range 60).all (fun j => jck 12 cX12_stands none false (k215.getD (120 + j) (0, 0, 0, [])) (120 + j)) = true := by decide +kernel
theorem ck_215_3 : (List.range 60).all (fun j => jck 12 cX12_stands none false (k215.getD (180 + j) (0, 0, 0, [])) (180 + j)) = true := by decide +kernel
theorem ck_215_4 : (List.range 46).all (fun j => jck 12 cX12_stands none false (k215.getD (240 + j) (0, 0, 0, [])) (240 + j)) = true := by decide +kernel
theorem cm_215 : ∀ pc : Nat, jck 12 cX12_stands none false (k215.getD pc (0, 0, 0, [])) pc = true := chk_end (by decide +kernel) (chk_cat (chk_cat (chk_cat (chk_cat (chk_cat chk_0 ck_215_0) ck_215_1) ck_215_2) ck_215_3) ck_215_4)
theorem ck_216_0 : (List.range 25).all (fun j => jck 12 cX12_fault (some .int) false (k216.getD (0 + j) (0, 0, 0, [])) (0 + j)) = true := by decide +kernel
theorem cm_216 : ∀ pc : Nat, jck 12 cX12_fault (some .int) false (k216.getD pc (0, 0, 0, [])) pc = true := chk_end (by decide +kernel) (chk_cat chk_0 ck_216_0)
theorem ck_217_0 : (List.range 8).all (fun j => jck 12 cX12_columns (some .int) false (k217.getD (0 + j) (0, 0, 0, [])) (0 + j)) = true := by decide +kernel
theorem cm_217 : ∀ pc : Nat, jck 12 cX12_columns (some .int) false (k217.getD pc (0, 0, 0, [])) pc = true := chk_end (by decide +kernel) (chk_cat chk_0 ck_217_0)
theorem ck_218_0 : (List.range 8).all (fun j => jck 12 cX12_rowsMany (some .int) false (k218.getD (0 + j) (0, 0, 0, [])) (0 + j)) = true := by decide +kernel
theorem cm_218 : ∀ pc : Nat, jck 12 cX12_rowsMany (some .int) false (k218.getD pc (0, 0, 0, [])) pc = true := chk_end (by decide +kernel) (chk_cat chk_0 ck_218_0)
theorem ck_219_0 : (List.range 8).all (fun j => jck 12 cX12_kindMany (some .int) false (k219.getD (0 + j) (0, 0, 0, [])) (0 + j)) = true := by decide +kernel
theorem cm_219 : ∀ pc : Nat, jck 12 cX12_kindMany (some .int) false (k219.getD pc (0, 0, 0, [])) pc = true := chk_end (by decide +kernel) (chk_cat chk_0 ck_219_0)
theorem ck_220_0 : (List.range 10).all (fun j => jck 12 cX12_cellMany (some .int) false (k220.getD (0 + j) (0, 0, 0, [])) (0 + j)) = true := by decide +kernel
theorem cm_220 : ∀ pc : Nat, jck 12 cX12_cellMany (some .int) false (k220.getD pc (0, 0, 0, [])) pc = true := chk_end (by decide +kernel) (chk_cat chk_0 ck_220_0)
theorem ck_221_0 : (List.range 14).all (fun j => jck 12 cX12_isCell (some .boolean) false (k221.getD (0 + j) (0, 0, 0, [])) (0 + j)) = true := by decide +kernel
theorem cm_221 : ∀ pc : Nat, jck 12 cX12_isCell (some .boolean) false (k221.getD pc (0, 0, 0, [])) pc = true := chk_end (by decide +kernel) (chk_cat chk_0 ck_221_0)
theorem ck_222_0 : (List.range 14).all (fun j => jck 12 cX12_isKind (some .boolean) false (k222.getD (0 + j) (0, 0, 0, [])) (0 + j)) = true := by decide +kernel
theorem cm_222 : ∀ pc : Nat, jck 12 cX12_isKind (some .boolean) false (k222.getD pc (0, 0, 0, [])) pc = true := chk_end (by decide +kernel) (chk_cat chk_0 ck_222_0)
theorem ck_223_0 : (List.range 7).all (fun j => jck 12 cX12_holdsUp (some .int) false (k223.getD (0 + j) (0, 0, 0, [])) (0 + j)) = true := by decide +kernel
theorem cm_223 : ∀ pc : Nat, jck 12 cX12_holdsUp (some .int) false (k223.getD pc (0, 0, 0, [])) pc = true := chk_end (by decide +kernel) (chk_cat chk_0 ck_223_0)
theorem ck_224_0 : (List.range 51).all (fun j => jck 12 cX12_seamAt (some .int) false (k224.getD (0 + j) (0, 0, 0, [])) (0 + j)) = true := by decide +kernel
theorem cm_224 : ∀ pc : Nat, jck 12 cX12_seamAt (some .int) false (k224.getD pc (0, 0, 0, [])) pc = true := chk_end (by decide +kernel) (chk_cat chk_0 ck_224_0)
theorem ck_225_0 : (List.range 17).all (fun j => jck 12 cX12_kindAt (some .int) false (k225.getD (0 + j) (0, 0, 0, [])) (0 + j)) = true := by decide +kernel
theorem cm_225 : ∀ pc : Nat, jck 12 cX12_kindAt (some .int) false (k225.getD pc (0, 0, 0, [])) pc = true := chk_end (by decide +kernel) (chk_cat chk_0 ck_225_0)
theorem ck_226_0 : (List.range 10).all (fun j => jck 12 cX12_whatIs (some .int) false (k226.getD (0 + j) (0, 0, 0, [])) (0 + j)) = true := by decide +kernel
theorem cm_226 : ∀ pc : Nat, jck 12 cX12_whatIs (some .int) false (k226.getD pc (0, 0, 0, [])) pc = true := chk_end (by decide +kernel) (chk_cat chk_0 ck_226_0)
theorem ck_227_0 : (List.range 24).all (fun j => jck 12 cX12_isOpen (some .boolean) false (k227.getD (0 + j) (0, 0, 0, [])) (0 + j)) = true := by decide +kernel
theorem cm_227 : ∀ pc : Nat, jck 12 cX12_isOpen (some .boolean) false (k227.getD pc (0, 0, 0, [])) pc = true := chk_end (by decide +kernel) (chk_cat chk_0 ck_227_0)
theorem ck_228_0 : (List.range 9).all (fun j => jck 12 cX12_tubsOf (some .int) false (k228.getD (0 + j) (0, 0, 0, [])) (0 + j)) = true := by decide +kernel
theorem cm_228 : ∀ pc : Nat, jck 12 cX12_tubsOf (some .int) false (k228.getD pc (0, 0, 0, [])) pc = true := chk_end (by decide +kernel) (chk_cat chk_0 ck_228_0)
theorem ck_229_0 : (List.range 60).all (fun j => jck 12 cX12_beside (some .int) false (k229.getD (0 + j) (0, 0, 0, [])) (0 + j)) = true := by decide +kernel
theorem ck_229_1 : (List.range 37).all (fun j => jck 12 cX12_beside (some .int) false (k229.getD (60 + j) (0, 0, 0, [])) (60 + j)) = true := by decide +kernel
theorem cm_229 : ∀ pc : Nat, jck 12 cX12_beside (some .int) false (k229.getD pc (0, 0, 0, [])) pc = true := chk_end (by decide +kernel) (chk_cat (chk_cat chk_0 ck_229_0) ck_229_1)
theorem ck_230_0 : (List.range 43).all (fun j => jck 12 cX12_nearOf (some .int) false (k230.getD (0 + j) (0, 0, 0, [])) (0 + j)) = true := by decide +kernel
theorem cm_230 : ∀ pc : Nat, jck 12 cX12_nearOf (some .int) false (k230.getD pc (0, 0, 0, [])) pc = true := chk_end (by decide +kernel) (chk_cat chk_0 ck_230_0)
theorem ck_231_0 : (List.range 33).all (fun j => jck 12 cX12_spanLeft (some .int) false (k231.getD (0 + j) (0, 0, 0, [])) (0 + j)) = true := by decide +kernel
theorem cm_231 : ∀ pc : Nat, jck 12 cX12_spanLeft (some .int) false (k231.getD pc (0, 0, 0, [])) pc = true := chk_end (by decide +kernel) (chk_cat chk_0 ck_231_0)
theorem ck_232_0 : (List.range 40).all (fun j => jck 12 cX12_spanRight (some .int) false (k232.getD (0 + j) (0, 0, 0, [])) (0 + j)) = true := by decide +kernel
theorem cm_232 : ∀ pc : Nat, jck 12 cX12_spanRight (some .int) false (k232.getD pc (0, 0, 0, [])) pc = true := chk_end (by decide +kernel) (chk_cat chk_0 ck_232_0)
theorem ck_233_0 : (List.range 14).all (fun j => jck 12 cX12_spanOf (some .int) false (k233.getD (0 + j) (0, 0, 0, [])) (0 + j)) = true := by decide +kernel
theorem cm_233 : ∀ pc : Nat, jck 12 cX12_spanOf (some .int) false (k233.getD pc (0, 0, 0, [])) pc = true := chk_end (by decide +kernel) (chk_cat chk_0 ck_233_0)
theorem ck_234_0 : (List.range 60).all (fun j => jck 12 cX12_asksCell none false (k234.getD (0 + j) (0, 0, 0, [])) (0 + j)) = true := by decide +kernel
theorem ck_234_1 : (List.range 11).all (fun j => jck 12 cX12_asksCell none false (k234.getD (60 + j) (0, 0, 0, [])) (60 + j)) = true := by decide +kernel
theorem cm_234 : ∀ pc : Nat, jck 12 cX12_asksCell none false (k234.getD pc (0, 0, 0, [])) pc = true := chk_end (by decide +kernel) (chk_cat (chk_cat chk_0 ck_234_0) ck_234_1)
theorem ck_235_0 : (List.range 21).all (fun j => jck 12 cX12_restOf (some .int) false (k235.getD (0 + j) (0, 0, 0, [])) (0 + j)) = true := by decide +kernel
theorem cm_235 : ∀ pc : Nat, jck 12 cX12_restOf (some .int) false (k235.getD pc (0, 0, 0, [])) pc = true := chk_end (by decide +kernel) (chk_cat chk_0 ck_235_0)
theorem ck_236_0 : (List.range 21).all (fun j => jck 12 cX12_gasOf (some .int) false (k236.getD (0 + j) (0, 0, 0, [])) (0 + j)) = true := by decide +kernel
theorem cm_236 : ∀ pc : Nat, jck 12 cX12_gasOf (some .int) false (k236.getD pc (0, 0, 0, [])) pc = true := chk_end (by decide +kernel) (chk_cat chk_0 ck_236_0)
theorem ck_237_0 : (List.range 60).all (fun j => jck 12 cX12_codesTell (some .long) false (k237.getD (0 + j) (0, 0, 0, [])) (0 + j)) = true := by decide +kernel
theorem ck_237_1 : (List.range 60).all (fun j => jck 12 cX12_codesTell (some .long) false (k237.getD (60 + j) (0, 0, 0, [])) (60 + j)) = true := by decide +kernel
theorem ck_237_2 : (List.range 24).all (fun j => jck 12 cX12_codesTell (some .long) false (k237.getD (120 + j) (0, 0, 0, [])) (120 + j)) = true := by decide +kernel
theorem cm_237 : ∀ pc : Nat, jck 12 cX12_codesTell (some .long) false (k237.getD pc (0, 0, 0, [])) pc = true := chk_end (by decide +kernel) (chk_cat (chk_cat (chk_cat chk_0 ck_237_0) ck_237_1) ck_237_2)
theorem ck_238_0 : (List.range 24).all (fun j => jck 12 cX12_cut0 (some .int) false (k238.getD (0 + j) (0, 0, 0, [])) (0 + j)) = true := by decide +kernel
theorem cm_238 : ∀ pc : Nat, jck 12 cX12_cut0 (some .int) false (k238.getD pc (0, 0, 0, [])) pc = true := chk_end (by decide +kernel) (chk_cat chk_0 ck_238_0)
theorem ck_239_0 : (List.range 48).all (fun j => jck 12 cX12_worthOf (some .int) false (k239.getD (0 + j) (0, 0, 0, [])) (0 + j)) = true := by decide +kernel
theorem cm_239 : ∀ pc : Nat, jck 12 cX12_worthOf (some .int) false (k239.getD pc (0, 0, 0, [])) pc = true := chk_end (by decide +kernel) (chk_cat chk_0 ck_239_0)
theorem ck_240_0 : (List.range 33).all (fun j => jck 12 cX12_mayBe (some .boolean) false (k240.getD (0 + j) (0, 0, 0, [])) (0 + j)) = true := by decide +kernel
theorem cm_240 : ∀ pc : Nat, jck 12 cX12_mayBe (some .boolean) false (k240.getD pc (0, 0, 0, [])) pc = true := chk_end (by decide +kernel) (chk_cat chk_0 ck_240_0)
theorem ck_241_0 : (List.range 41).all (fun j => jck 12 cX12_isBesideReached (some .boolean) false (k241.getD (0 + j) (0, 0, 0, [])) (0 + j)) = true := by decide +kernel
theorem cm_241 : ∀ pc : Nat, jck 12 cX12_isBesideReached (some .boolean) false (k241.getD pc (0, 0, 0, [])) pc = true := chk_end (by decide +kernel) (chk_cat chk_0 ck_241_0)
theorem ck_242_0 : (List.range 60).all (fun j => jck 12 cX12_laysReached none false (k242.getD (0 + j) (0, 0, 0, [])) (0 + j)) = true := by decide +kernel
theorem ck_242_1 : (List.range 54).all (fun j => jck 12 cX12_laysReached none false (k242.getD (60 + j) (0, 0, 0, [])) (60 + j)) = true := by decide +kernel
theorem cm_242 : ∀ pc : Nat, jck 12 cX12_laysReached none false (k242.getD pc (0, 0, 0, [])) pc = true := chk_end (by decide +kernel) (chk_cat (chk_cat chk_0 ck_242_0) ck_242_1)
theorem ck_243_0 : (List.range 45).all (fun j => jck 12 cX12_whyNot (some .int) false (k243.getD (0 + j) (0, 0, 0, [])) (0 + j)) = true := by decide +kernel
theorem cm_243 : ∀ pc : Nat, jck 12 cX12_whyNot (some .int) false (k243.getD pc (0, 0, 0, [])) pc = true := chk_end (by decide +kernel) (chk_cat chk_0 ck_243_0)
theorem ck_244_0 : (List.range 38).all (fun j => jck 12 cX12_cuttable (some .long) false (k244.getD (0 + j) (0, 0, 0, [])) (0 + j)) = true := by decide +kernel
theorem cm_244 : ∀ pc : Nat, jck 12 cX12_cuttable (some .long) false (k244.getD pc (0, 0, 0, [])) pc = true := chk_end (by decide +kernel) (chk_cat chk_0 ck_244_0)
theorem ck_245_0 : (List.range 24).all (fun j => jck 12 cX12_bitsOf (some .int) false (k245.getD (0 + j) (0, 0, 0, [])) (0 + j)) = true := by decide +kernel
theorem cm_245 : ∀ pc : Nat, jck 12 cX12_bitsOf (some .int) false (k245.getD pc (0, 0, 0, [])) pc = true := chk_end (by decide +kernel) (chk_cat chk_0 ck_245_0)
theorem ck_246_0 : (List.range 43).all (fun j => jck 12 cX12_oneOf (some .int) false (k246.getD (0 + j) (0, 0, 0, [])) (0 + j)) = true := by decide +kernel
theorem cm_246 : ∀ pc : Nat, jck 12 cX12_oneOf (some .int) false (k246.getD pc (0, 0, 0, [])) pc = true := chk_end (by decide +kernel) (chk_cat chk_0 ck_246_0)
