theorem ck_114_0 : (List.range 60).all (fun j => jck 7 cX7_readPart (some .boolean) false (k114.getD (0 + j) (0, 0, 0, [])) (0 + j)) = true := by decide +kernel
theorem ck_114_1 : (List.range 60).all (fun j => jck 7 cX7_readPart (some .boolean) false (k114.getD (60 + j) (0, 0, 0, [])) (60 + j)) = true := by decide +kernel
theorem ck_114_2 : (List.range 15).all (fun j => jck 7 cX7_readPart (some .boolean) false (k114.getD (120 + j) (0, 0, 0, [])) (120 + j)) = true := by decide +kernel
theorem cm_114 : ∀ pc : Nat, jck 7 cX7_readPart (some .boolean) false (k114.getD pc (0, 0, 0, [])) pc = true := chk_end (by decide +kernel) (chk_cat (chk_cat (chk_cat chk_0 ck_114_0) ck_114_1) ck_114_2)
theorem ck_115_0 : (List.range 60).all (fun j => jck 7 cX7_readChoice (some .boolean) false (k115.getD (0 + j) (0, 0, 0, [])) (0 + j)) = true := by decide +kernel
theorem ck_115_1 : (List.range 33).all (fun j => jck 7 cX7_readChoice (some .boolean) false (k115.getD (60 + j) (0, 0, 0, [])) (60 + j)) = true := by decide +kernel
theorem cm_115 : ∀ pc : Nat, jck 7 cX7_readChoice (some .boolean) false (k115.getD pc (0, 0, 0, [])) pc = true := chk_end (by decide +kernel) (chk_cat (chk_cat chk_0 ck_115_0) ck_115_1)
theorem ck_116_0 : (List.range 37).all (fun j => jck 7 cX7_readTubs (some .boolean) false (k116.getD (0 + j) (0, 0, 0, [])) (0 + j)) = true := by decide +kernel
theorem cm_116 : ∀ pc : Nat, jck 7 cX7_readTubs (some .boolean) false (k116.getD pc (0, 0, 0, [])) pc = true := chk_end (by decide +kernel) (chk_cat chk_0 ck_116_0)
theorem ck_117_0 : (List.range 57).all (fun j => jck 7 cX7_factFor (some .int) false (k117.getD (0 + j) (0, 0, 0, [])) (0 + j)) = true := by decide +kernel
theorem cm_117 : ∀ pc : Nat, jck 7 cX7_factFor (some .int) false (k117.getD pc (0, 0, 0, [])) pc = true := chk_end (by decide +kernel) (chk_cat chk_0 ck_117_0)
theorem ck_118_0 : (List.range 46).all (fun j => jck 7 cX7_houseFact (some .int) false (k118.getD (0 + j) (0, 0, 0, [])) (0 + j)) = true := by decide +kernel
theorem cm_118 : ∀ pc : Nat, jck 7 cX7_houseFact (some .int) false (k118.getD pc (0, 0, 0, [])) pc = true := chk_end (by decide +kernel) (chk_cat chk_0 ck_118_0)
theorem ck_119_0 : (List.range 60).all (fun j => jck 7 cX7_cellFact (some .int) false (k119.getD (0 + j) (0, 0, 0, [])) (0 + j)) = true := by decide +kernel
theorem ck_119_1 : (List.range 31).all (fun j => jck 7 cX7_cellFact (some .int) false (k119.getD (60 + j) (0, 0, 0, [])) (60 + j)) = true := by decide +kernel
theorem cm_119 : ∀ pc : Nat, jck 7 cX7_cellFact (some .int) false (k119.getD pc (0, 0, 0, [])) pc = true := chk_end (by decide +kernel) (chk_cat (chk_cat chk_0 ck_119_0) ck_119_1)
theorem ck_120_0 : (List.range 45).all (fun j => jck 7 cX7_questionFact (some .int) false (k120.getD (0 + j) (0, 0, 0, [])) (0 + j)) = true := by decide +kernel
theorem cm_120 : ∀ pc : Nat, jck 7 cX7_questionFact (some .int) false (k120.getD pc (0, 0, 0, [])) pc = true := chk_end (by decide +kernel) (chk_cat chk_0 ck_120_0)
theorem ck_121_0 : (List.range 60).all (fun j => jck 8 cX8_init none true (k121.getD (0 + j) (0, 0, 0, [])) (0 + j)) = true := by decide +kernel
theorem ck_121_1 : (List.range 35).all (fun j => jck 8 cX8_init none true (k121.getD (60 + j) (0, 0, 0, [])) (60 + j)) = true := by decide +kernel
theorem cm_121 : ∀ pc : Nat, jck 8 cX8_init none true (k121.getD pc (0, 0, 0, [])) pc = true := chk_end (by decide +kernel) (chk_cat (chk_cat chk_0 ck_121_0) ck_121_1)
theorem ck_122_0 : (List.range 11).all (fun j => jck 8 cX8_forget none false (k122.getD (0 + j) (0, 0, 0, [])) (0 + j)) = true := by decide +kernel
theorem cm_122 : ∀ pc : Nat, jck 8 cX8_forget none false (k122.getD pc (0, 0, 0, [])) pc = true := chk_end (by decide +kernel) (chk_cat chk_0 ck_122_0)
theorem ck_123_0 : (List.range 60).all (fun j => jck 8 cX8_judgeOrder (some .int) false (k123.getD (0 + j) (0, 0, 0, [])) (0 + j)) = true := by decide +kernel
theorem ck_123_1 : (List.range 60).all (fun j => jck 8 cX8_judgeOrder (some .int) false (k123.getD (60 + j) (0, 0, 0, [])) (60 + j)) = true := by decide +kernel
theorem ck_123_2 : (List.range 34).all (fun j => jck 8 cX8_judgeOrder (some .int) false (k123.getD (120 + j) (0, 0, 0, [])) (120 + j)) = true := by decide +kernel
theorem cm_123 : ∀ pc : Nat, jck 8 cX8_judgeOrder (some .int) false (k123.getD pc (0, 0, 0, [])) pc = true := chk_end (by decide +kernel) (chk_cat (chk_cat (chk_cat chk_0 ck_123_0) ck_123_1) ck_123_2)
theorem ck_124_0 : (List.range 46).all (fun j => jck 8 cX8_isOrder (some .boolean) false (k124.getD (0 + j) (0, 0, 0, [])) (0 + j)) = true := by decide +kernel
theorem cm_124 : ∀ pc : Nat, jck 8 cX8_isOrder (some .boolean) false (k124.getD pc (0, 0, 0, [])) pc = true := chk_end (by decide +kernel) (chk_cat chk_0 ck_124_0)
theorem ck_125_0 : (List.range 60).all (fun j => jck 8 cX8_tellBest (some .int) false (k125.getD (0 + j) (0, 0, 0, [])) (0 + j)) = true := by decide +kernel
theorem ck_125_1 : (List.range 48).all (fun j => jck 8 cX8_tellBest (some .int) false (k125.getD (60 + j) (0, 0, 0, [])) (60 + j)) = true := by decide +kernel
theorem cm_125 : ∀ pc : Nat, jck 8 cX8_tellBest (some .int) false (k125.getD pc (0, 0, 0, [])) pc = true := chk_end (by decide +kernel) (chk_cat (chk_cat chk_0 ck_125_0) ck_125_1)
theorem ck_126_0 : (List.range 60).all (fun j => jck 8 cX8_tryAll none false (k126.getD (0 + j) (0, 0, 0, [])) (0 + j)) = true := by decide +kernel
theorem ck_126_1 : (List.range 54).all (fun j => jck 8 cX8_tryAll none false (k126.getD (60 + j) (0, 0, 0, [])) (60 + j)) = true := by decide +kernel
theorem cm_126 : ∀ pc : Nat, jck 8 cX8_tryAll none false (k126.getD pc (0, 0, 0, [])) pc = true := chk_end (by decide +kernel) (chk_cat (chk_cat chk_0 ck_126_0) ck_126_1)
theorem ck_127_0 : (List.range 49).all (fun j => jck 8 cX8_keepIfBetter none false (k127.getD (0 + j) (0, 0, 0, [])) (0 + j)) = true := by decide +kernel
theorem cm_127 : ∀ pc : Nat, jck 8 cX8_keepIfBetter none false (k127.getD pc (0, 0, 0, [])) pc = true := chk_end (by decide +kernel) (chk_cat chk_0 ck_127_0)
theorem ck_128_0 : (List.range 48).all (fun j => jck 8 cX8_digBelow none false (k128.getD (0 + j) (0, 0, 0, [])) (0 + j)) = true := by decide +kernel
theorem cm_128 : ∀ pc : Nat, jck 8 cX8_digBelow none false (k128.getD pc (0, 0, 0, [])) pc = true := chk_end (by decide +kernel) (chk_cat chk_0 ck_128_0)
theorem ck_129_0 : (List.range 60).all (fun j => jck 8 cX8_tellRivals (some .int) false (k129.getD (0 + j) (0, 0, 0, [])) (0 + j)) = true := by decide +kernel
theorem ck_129_1 : (List.range 4).all (fun j => jck 8 cX8_tellRivals (some .int) false (k129.getD (60 + j) (0, 0, 0, [])) (60 + j)) = true := by decide +kernel
theorem cm_129 : ∀ pc : Nat, jck 8 cX8_tellRivals (some .int) false (k129.getD pc (0, 0, 0, [])) pc = true := chk_end (by decide +kernel) (chk_cat (chk_cat chk_0 ck_129_0) ck_129_1)
theorem ck_130_0 : (List.range 60).all (fun j => jck 8 cX8_duel (some .int) false (k130.getD (0 + j) (0, 0, 0, [])) (0 + j)) = true := by decide +kernel
theorem ck_130_1 : (List.range 60).all (fun j => jck 8 cX8_duel (some .int) false (k130.getD (60 + j) (0, 0, 0, [])) (60 + j)) = true := by decide +kernel
theorem ck_130_2 : (List.range 13).all (fun j => jck 8 cX8_duel (some .int) false (k130.getD (120 + j) (0, 0, 0, [])) (120 + j)) = true := by decide +kernel
theorem cm_130 : ∀ pc : Nat, jck 8 cX8_duel (some .int) false (k130.getD pc (0, 0, 0, [])) pc = true := chk_end (by decide +kernel) (chk_cat (chk_cat (chk_cat chk_0 ck_130_0) ck_130_1) ck_130_2)
theorem ck_131_0 : (List.range 30).all (fun j => jck 8 cX8_keepLine none false (k131.getD (0 + j) (0, 0, 0, [])) (0 + j)) = true := by decide +kernel
theorem cm_131 : ∀ pc : Nat, jck 8 cX8_keepLine none false (k131.getD pc (0, 0, 0, [])) pc = true := chk_end (by decide +kernel) (chk_cat chk_0 ck_131_0)
theorem ck_132_0 : (List.range 44).all (fun j => jck 9 cX9_init none true (k132.getD (0 + j) (0, 0, 0, [])) (0 + j)) = true := by decide +kernel
theorem cm_132 : ∀ pc : Nat, jck 9 cX9_init none true (k132.getD pc (0, 0, 0, [])) pc = true := chk_end (by decide +kernel) (chk_cat chk_0 ck_132_0)
theorem ck_133_0 : (List.range 12).all (fun j => jck 9 cX9_kinds (some .int) false (k133.getD (0 + j) (0, 0, 0, [])) (0 + j)) = true := by decide +kernel
theorem cm_133 : ∀ pc : Nat, jck 9 cX9_kinds (some .int) false (k133.getD pc (0, 0, 0, [])) pc = true := chk_end (by decide +kernel) (chk_cat chk_0 ck_133_0)
theorem ck_134_0 : (List.range 35).all (fun j => jck 9 cX9_share (some .int) false (k134.getD (0 + j) (0, 0, 0, [])) (0 + j)) = true := by decide +kernel
theorem cm_134 : ∀ pc : Nat, jck 9 cX9_share (some .int) false (k134.getD pc (0, 0, 0, [])) pc = true := chk_end (by decide +kernel) (chk_cat chk_0 ck_134_0)
theorem ck_135_0 : (List.range 20).all (fun j => jck 9 cX9_storeOf (some .int) false (k135.getD (0 + j) (0, 0, 0, [])) (0 + j)) = true := by decide +kernel
theorem cm_135 : ∀ pc : Nat, jck 9 cX9_storeOf (some .int) false (k135.getD pc (0, 0, 0, [])) pc = true := chk_end (by decide +kernel) (chk_cat chk_0 ck_135_0)
theorem ck_136_0 : (List.range 60).all (fun j => jck 9 cX9_place (some .boolean) false (k136.getD (0 + j) (0, 0, 0, [])) (0 + j)) = true := by decide +kernel
theorem ck_136_1 : (List.range 12).all (fun j => jck 9 cX9_place (some .boolean) false (k136.getD (60 + j) (0, 0, 0, [])) (60 + j)) = true := by decide +kernel
theorem cm_136 : ∀ pc : Nat, jck 9 cX9_place (some .boolean) false (k136.getD pc (0, 0, 0, [])) pc = true := chk_end (by decide +kernel) (chk_cat (chk_cat chk_0 ck_136_0) ck_136_1)
theorem ck_137_0 : (List.range 43).all (fun j => jck 9 cX9_isFree (some .boolean) false (k137.getD (0 + j) (0, 0, 0, [])) (0 + j)) = true := by decide +kernel
theorem cm_137 : ∀ pc : Nat, jck 9 cX9_isFree (some .boolean) false (k137.getD pc (0, 0, 0, [])) pc = true := chk_end (by decide +kernel) (chk_cat chk_0 ck_137_0)
theorem ck_138_0 : (List.range 60).all (fun j => jck 9 cX9_countSets (some .int) false (k138.getD (0 + j) (0, 0, 0, [])) (0 + j)) = true := by decide +kernel
theorem ck_138_1 : (List.range 17).all (fun j => jck 9 cX9_countSets (some .int) false (k138.getD (60 + j) (0, 0, 0, [])) (60 + j)) = true := by decide +kernel
theorem cm_138 : ∀ pc : Nat, jck 9 cX9_countSets (some .int) false (k138.getD pc (0, 0, 0, [])) pc = true := chk_end (by decide +kernel) (chk_cat (chk_cat chk_0 ck_138_0) ck_138_1)
theorem ck_139_0 : (List.range 20).all (fun j => jck 9 cX9_fewestOf (some .int) false (k139.getD (0 + j) (0, 0, 0, [])) (0 + j)) = true := by decide +kernel
theorem cm_139 : ∀ pc : Nat, jck 9 cX9_fewestOf (some .int) false (k139.getD pc (0, 0, 0, [])) pc = true := chk_end (by decide +kernel) (chk_cat chk_0 ck_139_0)
theorem ck_140_0 : (List.range 60).all (fun j => jck 9 cX9_take none false (k140.getD (0 + j) (0, 0, 0, [])) (0 + j)) = true := by decide +kernel
theorem ck_140_1 : (List.range 60).all (fun j => jck 9 cX9_take none false (k140.getD (60 + j) (0, 0, 0, [])) (60 + j)) = true := by decide +kernel
theorem cm_140 : ∀ pc : Nat, jck 9 cX9_take none false (k140.getD pc (0, 0, 0, [])) pc = true := chk_end (by decide +kernel) (chk_cat (chk_cat chk_0 ck_140_0) ck_140_1)
theorem ck_141_0 : (List.range 60).all (fun j => jck 9 cX9_keepSet none false (k141.getD (0 + j) (0, 0, 0, [])) (0 + j)) = true := by decide +kernel
theorem ck_141_1 : (List.range 1).all (fun j => jck 9 cX9_keepSet none false (k141.getD (60 + j) (0, 0, 0, [])) (60 + j)) = true := by decide +kernel
theorem cm_141 : ∀ pc : Nat, jck 9 cX9_keepSet none false (k141.getD pc (0, 0, 0, [])) pc = true := chk_end (by decide +kernel) (chk_cat (chk_cat chk_0 ck_141_0) ck_141_1)
theorem ck_142_0 : (List.range 21).all (fun j => jck 10 cX10_init none true (k142.getD (0 + j) (0, 0, 0, [])) (0 + j)) = true := by decide +kernel
theorem cm_142 : ∀ pc : Nat, jck 10 cX10_init none true (k142.getD pc (0, 0, 0, [])) pc = true := chk_end (by decide +kernel) (chk_cat chk_0 ck_142_0)
theorem ck_143_0 : (List.range 5).all (fun j => jck 10 cX10_length (some .int) false (k143.getD (0 + j) (0, 0, 0, [])) (0 + j)) = true := by decide +kernel
theorem cm_143 : ∀ pc : Nat, jck 10 cX10_length (some .int) false (k143.getD pc (0, 0, 0, [])) pc = true := chk_end (by decide +kernel) (chk_cat chk_0 ck_143_0)
theorem ck_144_0 : (List.range 23).all (fun j => jck 10 cX10_at (some .int) false (k144.getD (0 + j) (0, 0, 0, [])) (0 + j)) = true := by decide +kernel
theorem cm_144 : ∀ pc : Nat, jck 10 cX10_at (some .int) false (k144.getD pc (0, 0, 0, [])) pc = true := chk_end (by decide +kernel) (chk_cat chk_0 ck_144_0)
theorem ck_145_0 : (List.range 18).all (fun j => jck 10 cX10_shorten none false (k145.getD (0 + j) (0, 0, 0, [])) (0 + j)) = true := by decide +kernel
theorem cm_145 : ∀ pc : Nat, jck 10 cX10_shorten none false (k145.getD pc (0, 0, 0, [])) pc = true := chk_end (by decide +kernel) (chk_cat chk_0 ck_145_0)
theorem ck_146_0 : (List.range 37).all (fun j => jck 10 cX10_add none false (k146.getD (0 + j) (0, 0, 0, [])) (0 + j)) = true := by decide +kernel
theorem cm_146 : ∀ pc : Nat, jck 10 cX10_add none false (k146.getD pc (0, 0, 0, [])) pc = true := chk_end (by decide +kernel) (chk_cat chk_0 ck_146_0)
theorem ck_147_0 : (List.range 22).all (fun j => jck 10 cX10_addThree none false (k147.getD (0 + j) (0, 0, 0, [])) (0 + j)) = true := by decide +kernel
theorem cm_147 : ∀ pc : Nat, jck 10 cX10_addThree none false (k147.getD pc (0, 0, 0, [])) pc = true := chk_end (by decide +kernel) (chk_cat chk_0 ck_147_0)
theorem ck_148_0 : (List.range 14).all (fun j => jck 10 cX10_addFour none false (k148.getD (0 + j) (0, 0, 0, [])) (0 + j)) = true := by decide +kernel
theorem cm_148 : ∀ pc : Nat, jck 10 cX10_addFour none false (k148.getD pc (0, 0, 0, [])) pc = true := chk_end (by decide +kernel) (chk_cat chk_0 ck_148_0)
theorem ck_149_0 : (List.range 28).all (fun j => jck 10 cX10_threeAt (some .int) false (k149.getD (0 + j) (0, 0, 0, [])) (0 + j)) = true := by decide +kernel
theorem cm_149 : ∀ pc : Nat, jck 10 cX10_threeAt (some .int) false (k149.getD pc (0, 0, 0, [])) pc = true := chk_end (by decide +kernel) (chk_cat chk_0 ck_149_0)
theorem ck_150_0 : (List.range 42).all (fun j => jck 10 cX10_guard (some .int) false (k150.getD (0 + j) (0, 0, 0, [])) (0 + j)) = true := by decide +kernel
theorem cm_150 : ∀ pc : Nat, jck 10 cX10_guard (some .int) false (k150.getD pc (0, 0, 0, [])) pc = true := chk_end (by decide +kernel) (chk_cat chk_0 ck_150_0)
theorem ck_151_0 : (List.range 60).all (fun j => jck 11 cX11_init none true (k151.getD (0 + j) (0, 0, 0, [])) (0 + j)) = true := by decide +kernel
theorem ck_151_1 : (List.range 60).all (fun j => jck 11 cX11_init none true (k151.getD (60 + j) (0, 0, 0, [])) (60 + j)) = true := by decide +kernel
theorem ck_151_2 : (List.range 60).all (fun j => jck 11 cX11_init none true (k151.getD (120 + j) (0, 0, 0, [])) (120 + j)) = true := by decide +kernel
theorem ck_151_3 : (List.range 43).all (fun j => jck 11 cX11_init none true (k151.getD (180 + j) (0, 0, 0, [])) (180 + j)) = true := by decide +kernel
theorem cm_151 : ∀ pc : Nat, jck 11 cX11_init none true (k151.getD pc (0, 0, 0, [])) pc = true := chk_end (by decide +kernel) (chk_cat (chk_cat (chk_cat (chk_cat chk_0 ck_151_0) ck_151_1) ck_151_2) ck_151_3)
theorem ck_152_0 : (List.range 60).all (fun j => jck 11 cX11_feed (some .int) false (k152.getD (0 + j) (0, 0, 0, [])) (0 + j)) = true := by decide +kernel
theorem ck_152_1 : (List.range 12).all (fun j => jck 11 cX11_feed (some .int) false (k152.getD (60 + j) (0, 0, 0, [])) (60 + j)) = true := by decide +kernel
theorem cm_152 : ∀ pc : Nat, jck 11 cX11_feed (some .int) false (k152.getD pc (0, 0, 0, [])) pc = true := chk_end (by decide +kernel) (chk_cat (chk_cat chk_0 ck_152_0) ck_152_1)
theorem ck_153_0 : (List.range 33).all (fun j => jck 11 cX11_end (some .boolean) false (k153.getD (0 + j) (0, 0, 0, [])) (0 + j)) = true := by decide +kernel
theorem cm_153 : ∀ pc : Nat, jck 11 cX11_end (some .boolean) false (k153.getD pc (0, 0, 0, [])) pc = true := chk_end (by decide +kernel) (chk_cat chk_0 ck_153_0)
