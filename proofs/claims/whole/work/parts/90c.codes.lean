theorem ck_72_0 : (List.range 60).all (fun j => jck 5 cX5_readRow (some .boolean) false (k72.getD (0 + j) (0, 0, 0, [])) (0 + j)) = true := by decide +kernel
theorem ck_72_1 : (List.range 60).all (fun j => jck 5 cX5_readRow (some .boolean) false (k72.getD (60 + j) (0, 0, 0, [])) (60 + j)) = true := by decide +kernel
theorem ck_72_2 : (List.range 38).all (fun j => jck 5 cX5_readRow (some .boolean) false (k72.getD (120 + j) (0, 0, 0, [])) (120 + j)) = true := by decide +kernel
theorem cm_72 : ∀ pc : Nat, jck 5 cX5_readRow (some .boolean) false (k72.getD pc (0, 0, 0, [])) pc = true := chk_end (by decide +kernel) (chk_cat (chk_cat (chk_cat chk_0 ck_72_0) ck_72_1) ck_72_2)
theorem ck_73_0 : (List.range 36).all (fun j => jck 5 cX5_toldBy (some .int) false (k73.getD (0 + j) (0, 0, 0, [])) (0 + j)) = true := by decide +kernel
theorem cm_73 : ∀ pc : Nat, jck 5 cX5_toldBy (some .int) false (k73.getD pc (0, 0, 0, [])) pc = true := chk_end (by decide +kernel) (chk_cat chk_0 ck_73_0)
theorem ck_74_0 : (List.range 60).all (fun j => jck 5 cX5_readHouse (some .boolean) false (k74.getD (0 + j) (0, 0, 0, [])) (0 + j)) = true := by decide +kernel
theorem ck_74_1 : (List.range 58).all (fun j => jck 5 cX5_readHouse (some .boolean) false (k74.getD (60 + j) (0, 0, 0, [])) (60 + j)) = true := by decide +kernel
theorem cm_74 : ∀ pc : Nat, jck 5 cX5_readHouse (some .boolean) false (k74.getD pc (0, 0, 0, [])) pc = true := chk_end (by decide +kernel) (chk_cat (chk_cat chk_0 ck_74_0) ck_74_1)
theorem ck_75_0 : (List.range 60).all (fun j => jck 5 cX5_readMix (some .boolean) false (k75.getD (0 + j) (0, 0, 0, [])) (0 + j)) = true := by decide +kernel
theorem ck_75_1 : (List.range 60).all (fun j => jck 5 cX5_readMix (some .boolean) false (k75.getD (60 + j) (0, 0, 0, [])) (60 + j)) = true := by decide +kernel
theorem ck_75_2 : (List.range 21).all (fun j => jck 5 cX5_readMix (some .boolean) false (k75.getD (120 + j) (0, 0, 0, [])) (120 + j)) = true := by decide +kernel
theorem cm_75 : ∀ pc : Nat, jck 5 cX5_readMix (some .boolean) false (k75.getD pc (0, 0, 0, [])) pc = true := chk_end (by decide +kernel) (chk_cat (chk_cat (chk_cat chk_0 ck_75_0) ck_75_1) ck_75_2)
theorem ck_76_0 : (List.range 53).all (fun j => jck 5 cX5_kindHere (some .int) false (k76.getD (0 + j) (0, 0, 0, [])) (0 + j)) = true := by decide +kernel
theorem cm_76 : ∀ pc : Nat, jck 5 cX5_kindHere (some .int) false (k76.getD pc (0, 0, 0, [])) pc = true := chk_end (by decide +kernel) (chk_cat chk_0 ck_76_0)
theorem ck_77_0 : (List.range 60).all (fun j => jck 5 cX5_beginRule (some .boolean) false (k77.getD (0 + j) (0, 0, 0, [])) (0 + j)) = true := by decide +kernel
theorem ck_77_1 : (List.range 4).all (fun j => jck 5 cX5_beginRule (some .boolean) false (k77.getD (60 + j) (0, 0, 0, [])) (60 + j)) = true := by decide +kernel
theorem cm_77 : ∀ pc : Nat, jck 5 cX5_beginRule (some .boolean) false (k77.getD pc (0, 0, 0, [])) pc = true := chk_end (by decide +kernel) (chk_cat (chk_cat chk_0 ck_77_0) ck_77_1)
theorem ck_78_0 : (List.range 39).all (fun j => jck 5 cX5_readSetting (some .boolean) false (k78.getD (0 + j) (0, 0, 0, [])) (0 + j)) = true := by decide +kernel
theorem cm_78 : ∀ pc : Nat, jck 5 cX5_readSetting (some .boolean) false (k78.getD pc (0, 0, 0, [])) pc = true := chk_end (by decide +kernel) (chk_cat chk_0 ck_78_0)
theorem ck_79_0 : (List.range 15).all (fun j => jck 6 cX6_init none true (k79.getD (0 + j) (0, 0, 0, [])) (0 + j)) = true := by decide +kernel
theorem cm_79 : ∀ pc : Nat, jck 6 cX6_init none true (k79.getD pc (0, 0, 0, [])) pc = true := chk_end (by decide +kernel) (chk_cat chk_0 ck_79_0)
theorem ck_80_0 : (List.range 60).all (fun j => jck 6 cX6_readQuestion (some .boolean) false (k80.getD (0 + j) (0, 0, 0, [])) (0 + j)) = true := by decide +kernel
theorem ck_80_1 : (List.range 60).all (fun j => jck 6 cX6_readQuestion (some .boolean) false (k80.getD (60 + j) (0, 0, 0, [])) (60 + j)) = true := by decide +kernel
theorem ck_80_2 : (List.range 1).all (fun j => jck 6 cX6_readQuestion (some .boolean) false (k80.getD (120 + j) (0, 0, 0, [])) (120 + j)) = true := by decide +kernel
theorem cm_80 : ∀ pc : Nat, jck 6 cX6_readQuestion (some .boolean) false (k80.getD pc (0, 0, 0, [])) pc = true := chk_end (by decide +kernel) (chk_cat (chk_cat (chk_cat chk_0 ck_80_0) ck_80_1) ck_80_2)
theorem ck_81_0 : (List.range 33).all (fun j => jck 6 cX6_isOfTest (some .boolean) false (k81.getD (0 + j) (0, 0, 0, [])) (0 + j)) = true := by decide +kernel
theorem cm_81 : ∀ pc : Nat, jck 6 cX6_isOfTest (some .boolean) false (k81.getD pc (0, 0, 0, [])) pc = true := chk_end (by decide +kernel) (chk_cat chk_0 ck_81_0)
theorem ck_82_0 : (List.range 60).all (fun j => jck 6 cX6_answer (some .long) false (k82.getD (0 + j) (0, 0, 0, [])) (0 + j)) = true := by decide +kernel
theorem ck_82_1 : (List.range 23).all (fun j => jck 6 cX6_answer (some .long) false (k82.getD (60 + j) (0, 0, 0, [])) (60 + j)) = true := by decide +kernel
theorem cm_82 : ∀ pc : Nat, jck 6 cX6_answer (some .long) false (k82.getD pc (0, 0, 0, [])) pc = true := chk_end (by decide +kernel) (chk_cat (chk_cat chk_0 ck_82_0) ck_82_1)
theorem ck_83_0 : (List.range 60).all (fun j => jck 6 cX6_goOn (some .long) false (k83.getD (0 + j) (0, 0, 0, [])) (0 + j)) = true := by decide +kernel
theorem ck_83_1 : (List.range 57).all (fun j => jck 6 cX6_goOn (some .long) false (k83.getD (60 + j) (0, 0, 0, [])) (60 + j)) = true := by decide +kernel
theorem cm_83 : ∀ pc : Nat, jck 6 cX6_goOn (some .long) false (k83.getD pc (0, 0, 0, [])) pc = true := chk_end (by decide +kernel) (chk_cat (chk_cat chk_0 ck_83_0) ck_83_1)
theorem ck_84_0 : (List.range 37).all (fun j => jck 7 cX7_init none true (k84.getD (0 + j) (0, 0, 0, [])) (0 + j)) = true := by decide +kernel
theorem cm_84 : ∀ pc : Nat, jck 7 cX7_init none true (k84.getD pc (0, 0, 0, [])) pc = true := chk_end (by decide +kernel) (chk_cat chk_0 ck_84_0)
theorem ck_85_0 : (List.range 50).all (fun j => jck 7 cX7_begin none false (k85.getD (0 + j) (0, 0, 0, [])) (0 + j)) = true := by decide +kernel
theorem cm_85 : ∀ pc : Nat, jck 7 cX7_begin none false (k85.getD pc (0, 0, 0, [])) pc = true := chk_end (by decide +kernel) (chk_cat chk_0 ck_85_0)
theorem ck_86_0 : (List.range 12).all (fun j => jck 7 cX7_fail (some .boolean) false (k86.getD (0 + j) (0, 0, 0, [])) (0 + j)) = true := by decide +kernel
theorem cm_86 : ∀ pc : Nat, jck 7 cX7_fail (some .boolean) false (k86.getD pc (0, 0, 0, [])) pc = true := chk_end (by decide +kernel) (chk_cat chk_0 ck_86_0)
theorem ck_87_0 : (List.range 15).all (fun j => jck 7 cX7_failHere (some .boolean) false (k87.getD (0 + j) (0, 0, 0, [])) (0 + j)) = true := by decide +kernel
theorem cm_87 : ∀ pc : Nat, jck 7 cX7_failHere (some .boolean) false (k87.getD pc (0, 0, 0, [])) pc = true := chk_end (by decide +kernel) (chk_cat chk_0 ck_87_0)
theorem ck_88_0 : (List.range 39).all (fun j => jck 7 cX7_sortOf (some .int) false (k88.getD (0 + j) (0, 0, 0, [])) (0 + j)) = true := by decide +kernel
theorem cm_88 : ∀ pc : Nat, jck 7 cX7_sortOf (some .int) false (k88.getD pc (0, 0, 0, [])) pc = true := chk_end (by decide +kernel) (chk_cat chk_0 ck_88_0)
theorem ck_89_0 : (List.range 18).all (fun j => jck 7 cX7_isBlank (some .boolean) false (k89.getD (0 + j) (0, 0, 0, [])) (0 + j)) = true := by decide +kernel
theorem cm_89 : ∀ pc : Nat, jck 7 cX7_isBlank (some .boolean) false (k89.getD pc (0, 0, 0, [])) pc = true := chk_end (by decide +kernel) (chk_cat chk_0 ck_89_0)
theorem ck_90_0 : (List.range 60).all (fun j => jck 7 cX7_step none false (k90.getD (0 + j) (0, 0, 0, [])) (0 + j)) = true := by decide +kernel
theorem ck_90_1 : (List.range 60).all (fun j => jck 7 cX7_step none false (k90.getD (60 + j) (0, 0, 0, [])) (60 + j)) = true := by decide +kernel
theorem ck_90_2 : (List.range 60).all (fun j => jck 7 cX7_step none false (k90.getD (120 + j) (0, 0, 0, [])) (120 + j)) = true := by decide +kernel
theorem ck_90_3 : (List.range 26).all (fun j => jck 7 cX7_step none false (k90.getD (180 + j) (0, 0, 0, [])) (180 + j)) = true := by decide +kernel
theorem cm_90 : ∀ pc : Nat, jck 7 cX7_step none false (k90.getD pc (0, 0, 0, [])) pc = true := chk_end (by decide +kernel) (chk_cat (chk_cat (chk_cat (chk_cat chk_0 ck_90_0) ck_90_1) ck_90_2) ck_90_3)
theorem ck_91_0 : (List.range 13).all (fun j => jck 7 cX7_isEnd (some .boolean) false (k91.getD (0 + j) (0, 0, 0, [])) (0 + j)) = true := by decide +kernel
theorem cm_91 : ∀ pc : Nat, jck 7 cX7_isEnd (some .boolean) false (k91.getD pc (0, 0, 0, [])) pc = true := chk_end (by decide +kernel) (chk_cat chk_0 ck_91_0)
theorem ck_92_0 : (List.range 29).all (fun j => jck 7 cX7_isMark (some .boolean) false (k92.getD (0 + j) (0, 0, 0, [])) (0 + j)) = true := by decide +kernel
theorem cm_92 : ∀ pc : Nat, jck 7 cX7_isMark (some .boolean) false (k92.getD pc (0, 0, 0, [])) pc = true := chk_end (by decide +kernel) (chk_cat chk_0 ck_92_0)
theorem ck_93_0 : (List.range 60).all (fun j => jck 7 cX7_wordHere (some .int) false (k93.getD (0 + j) (0, 0, 0, [])) (0 + j)) = true := by decide +kernel
theorem ck_93_1 : (List.range 55).all (fun j => jck 7 cX7_wordHere (some .int) false (k93.getD (60 + j) (0, 0, 0, [])) (60 + j)) = true := by decide +kernel
theorem cm_93 : ∀ pc : Nat, jck 7 cX7_wordHere (some .int) false (k93.getD pc (0, 0, 0, [])) pc = true := chk_end (by decide +kernel) (chk_cat (chk_cat chk_0 ck_93_0) ck_93_1)
theorem ck_94_0 : (List.range 20).all (fun j => jck 7 cX7_takeMark (some .boolean) false (k94.getD (0 + j) (0, 0, 0, [])) (0 + j)) = true := by decide +kernel
theorem cm_94 : ∀ pc : Nat, jck 7 cX7_takeMark (some .boolean) false (k94.getD pc (0, 0, 0, [])) pc = true := chk_end (by decide +kernel) (chk_cat chk_0 ck_94_0)
theorem ck_95_0 : (List.range 20).all (fun j => jck 7 cX7_takeWord (some .boolean) false (k95.getD (0 + j) (0, 0, 0, [])) (0 + j)) = true := by decide +kernel
theorem cm_95 : ∀ pc : Nat, jck 7 cX7_takeWord (some .boolean) false (k95.getD pc (0, 0, 0, [])) pc = true := chk_end (by decide +kernel) (chk_cat chk_0 ck_95_0)
theorem ck_96_0 : (List.range 36).all (fun j => jck 7 cX7_takeNumber (some .int) false (k96.getD (0 + j) (0, 0, 0, [])) (0 + j)) = true := by decide +kernel
theorem cm_96 : ∀ pc : Nat, jck 7 cX7_takeNumber (some .int) false (k96.getD pc (0, 0, 0, [])) pc = true := chk_end (by decide +kernel) (chk_cat chk_0 ck_96_0)
theorem ck_97_0 : (List.range 60).all (fun j => jck 7 cX7_numberHere (some .int) false (k97.getD (0 + j) (0, 0, 0, [])) (0 + j)) = true := by decide +kernel
theorem ck_97_1 : (List.range 23).all (fun j => jck 7 cX7_numberHere (some .int) false (k97.getD (60 + j) (0, 0, 0, [])) (60 + j)) = true := by decide +kernel
theorem cm_97 : ∀ pc : Nat, jck 7 cX7_numberHere (some .int) false (k97.getD pc (0, 0, 0, [])) pc = true := chk_end (by decide +kernel) (chk_cat (chk_cat chk_0 ck_97_0) ck_97_1)
theorem ck_98_0 : (List.range 60).all (fun j => jck 7 cX7_nameHere (some (.array .int)) false (k98.getD (0 + j) (0, 0, 0, [])) (0 + j)) = true := by decide +kernel
theorem ck_98_1 : (List.range 60).all (fun j => jck 7 cX7_nameHere (some (.array .int)) false (k98.getD (60 + j) (0, 0, 0, [])) (60 + j)) = true := by decide +kernel
theorem ck_98_2 : (List.range 12).all (fun j => jck 7 cX7_nameHere (some (.array .int)) false (k98.getD (120 + j) (0, 0, 0, [])) (120 + j)) = true := by decide +kernel
theorem cm_98 : ∀ pc : Nat, jck 7 cX7_nameHere (some (.array .int)) false (k98.getD pc (0, 0, 0, [])) pc = true := chk_end (by decide +kernel) (chk_cat (chk_cat (chk_cat chk_0 ck_98_0) ck_98_1) ck_98_2)
theorem ck_99_0 : (List.range 22).all (fun j => jck 7 cX7_lettersHere (some .int) false (k99.getD (0 + j) (0, 0, 0, [])) (0 + j)) = true := by decide +kernel
theorem cm_99 : ∀ pc : Nat, jck 7 cX7_lettersHere (some .int) false (k99.getD pc (0, 0, 0, [])) pc = true := chk_end (by decide +kernel) (chk_cat chk_0 ck_99_0)
theorem ck_100_0 : (List.range 14).all (fun j => jck 7 cX7_letterHere (some .int) false (k100.getD (0 + j) (0, 0, 0, [])) (0 + j)) = true := by decide +kernel
theorem cm_100 : ∀ pc : Nat, jck 7 cX7_letterHere (some .int) false (k100.getD pc (0, 0, 0, [])) pc = true := chk_end (by decide +kernel) (chk_cat chk_0 ck_100_0)
theorem ck_101_0 : (List.range 5).all (fun j => jck 7 cX7_codeSize (some .int) false (k101.getD (0 + j) (0, 0, 0, [])) (0 + j)) = true := by decide +kernel
theorem cm_101 : ∀ pc : Nat, jck 7 cX7_codeSize (some .int) false (k101.getD pc (0, 0, 0, [])) pc = true := chk_end (by decide +kernel) (chk_cat chk_0 ck_101_0)
theorem ck_102_0 : (List.range 33).all (fun j => jck 7 cX7_emit none false (k102.getD (0 + j) (0, 0, 0, [])) (0 + j)) = true := by decide +kernel
theorem cm_102 : ∀ pc : Nat, jck 7 cX7_emit none false (k102.getD pc (0, 0, 0, [])) pc = true := chk_end (by decide +kernel) (chk_cat chk_0 ck_102_0)
theorem ck_103_0 : (List.range 11).all (fun j => jck 7 cX7_beginFormula none false (k103.getD (0 + j) (0, 0, 0, [])) (0 + j)) = true := by decide +kernel
theorem cm_103 : ∀ pc : Nat, jck 7 cX7_beginFormula none false (k103.getD pc (0, 0, 0, [])) pc = true := chk_end (by decide +kernel) (chk_cat chk_0 ck_103_0)
theorem ck_104_0 : (List.range 9).all (fun j => jck 7 cX7_endFormula (some .boolean) false (k104.getD (0 + j) (0, 0, 0, [])) (0 + j)) = true := by decide +kernel
theorem cm_104 : ∀ pc : Nat, jck 7 cX7_endFormula (some .boolean) false (k104.getD pc (0, 0, 0, [])) pc = true := chk_end (by decide +kernel) (chk_cat chk_0 ck_104_0)
theorem ck_105_0 : (List.range 27).all (fun j => jck 7 cX7_openOne (some .boolean) false (k105.getD (0 + j) (0, 0, 0, [])) (0 + j)) = true := by decide +kernel
theorem cm_105 : ∀ pc : Nat, jck 7 cX7_openOne (some .boolean) false (k105.getD pc (0, 0, 0, [])) pc = true := chk_end (by decide +kernel) (chk_cat chk_0 ck_105_0)
theorem ck_106_0 : (List.range 12).all (fun j => jck 7 cX7_closeOne (some .boolean) false (k106.getD (0 + j) (0, 0, 0, [])) (0 + j)) = true := by decide +kernel
theorem cm_106 : ∀ pc : Nat, jck 7 cX7_closeOne (some .boolean) false (k106.getD pc (0, 0, 0, [])) pc = true := chk_end (by decide +kernel) (chk_cat chk_0 ck_106_0)
theorem ck_107_0 : (List.range 51).all (fun j => jck 7 cX7_readTest (some .boolean) false (k107.getD (0 + j) (0, 0, 0, [])) (0 + j)) = true := by decide +kernel
theorem cm_107 : ∀ pc : Nat, jck 7 cX7_readTest (some .boolean) false (k107.getD pc (0, 0, 0, [])) pc = true := chk_end (by decide +kernel) (chk_cat chk_0 ck_107_0)
theorem ck_108_0 : (List.range 51).all (fun j => jck 7 cX7_readBoth (some .boolean) false (k108.getD (0 + j) (0, 0, 0, [])) (0 + j)) = true := by decide +kernel
theorem cm_108 : ∀ pc : Nat, jck 7 cX7_readBoth (some .boolean) false (k108.getD pc (0, 0, 0, [])) pc = true := chk_end (by decide +kernel) (chk_cat chk_0 ck_108_0)
theorem ck_109_0 : (List.range 60).all (fun j => jck 7 cX7_readFact (some .boolean) false (k109.getD (0 + j) (0, 0, 0, [])) (0 + j)) = true := by decide +kernel
theorem ck_109_1 : (List.range 60).all (fun j => jck 7 cX7_readFact (some .boolean) false (k109.getD (60 + j) (0, 0, 0, [])) (60 + j)) = true := by decide +kernel
theorem ck_109_2 : (List.range 8).all (fun j => jck 7 cX7_readFact (some .boolean) false (k109.getD (120 + j) (0, 0, 0, [])) (120 + j)) = true := by decide +kernel
theorem cm_109 : ∀ pc : Nat, jck 7 cX7_readFact (some .boolean) false (k109.getD pc (0, 0, 0, [])) pc = true := chk_end (by decide +kernel) (chk_cat (chk_cat (chk_cat chk_0 ck_109_0) ck_109_1) ck_109_2)
theorem ck_110_0 : (List.range 43).all (fun j => jck 7 cX7_signHere (some .int) false (k110.getD (0 + j) (0, 0, 0, [])) (0 + j)) = true := by decide +kernel
theorem cm_110 : ∀ pc : Nat, jck 7 cX7_signHere (some .int) false (k110.getD pc (0, 0, 0, [])) pc = true := chk_end (by decide +kernel) (chk_cat chk_0 ck_110_0)
theorem ck_111_0 : (List.range 37).all (fun j => jck 7 cX7_readNot (some .boolean) false (k111.getD (0 + j) (0, 0, 0, [])) (0 + j)) = true := by decide +kernel
theorem cm_111 : ∀ pc : Nat, jck 7 cX7_readNot (some .boolean) false (k111.getD pc (0, 0, 0, [])) pc = true := chk_end (by decide +kernel) (chk_cat chk_0 ck_111_0)
theorem ck_112_0 : (List.range 60).all (fun j => jck 7 cX7_readSum (some .boolean) false (k112.getD (0 + j) (0, 0, 0, [])) (0 + j)) = true := by decide +kernel
theorem ck_112_1 : (List.range 17).all (fun j => jck 7 cX7_readSum (some .boolean) false (k112.getD (60 + j) (0, 0, 0, [])) (60 + j)) = true := by decide +kernel
theorem cm_112 : ∀ pc : Nat, jck 7 cX7_readSum (some .boolean) false (k112.getD pc (0, 0, 0, [])) pc = true := chk_end (by decide +kernel) (chk_cat (chk_cat chk_0 ck_112_0) ck_112_1)
theorem ck_113_0 : (List.range 60).all (fun j => jck 7 cX7_readProduct (some .boolean) false (k113.getD (0 + j) (0, 0, 0, [])) (0 + j)) = true := by decide +kernel
theorem ck_113_1 : (List.range 17).all (fun j => jck 7 cX7_readProduct (some .boolean) false (k113.getD (60 + j) (0, 0, 0, [])) (60 + j)) = true := by decide +kernel
theorem cm_113 : ∀ pc : Nat, jck 7 cX7_readProduct (some .boolean) false (k113.getD pc (0, 0, 0, [])) pc = true := chk_end (by decide +kernel) (chk_cat (chk_cat chk_0 ck_113_0) ck_113_1)
