theorem ck_187_0 : (List.range 19).all (fun j => jck 12 cX12_isIn (some .boolean) false (k187.getD (0 + j) (0, 0, 0, [])) (0 + j)) = true := by decide +kernel
theorem cm_187 : ∀ pc : Nat, jck 12 cX12_isIn (some .boolean) false (k187.getD pc (0, 0, 0, [])) pc = true := chk_end (by decide +kernel) (chk_cat chk_0 ck_187_0)
theorem ck_188_0 : (List.range 60).all (fun j => jck 12 cX12_feed (some .int) false (k188.getD (0 + j) (0, 0, 0, [])) (0 + j)) = true := by decide +kernel
theorem ck_188_1 : (List.range 60).all (fun j => jck 12 cX12_feed (some .int) false (k188.getD (60 + j) (0, 0, 0, [])) (60 + j)) = true := by decide +kernel
theorem ck_188_2 : (List.range 9).all (fun j => jck 12 cX12_feed (some .int) false (k188.getD (120 + j) (0, 0, 0, [])) (120 + j)) = true := by decide +kernel
theorem cm_188 : ∀ pc : Nat, jck 12 cX12_feed (some .int) false (k188.getD pc (0, 0, 0, [])) pc = true := chk_end (by decide +kernel) (chk_cat (chk_cat (chk_cat chk_0 ck_188_0) ck_188_1) ck_188_2)
theorem ck_189_0 : (List.range 31).all (fun j => jck 12 cX12_end (some .boolean) false (k189.getD (0 + j) (0, 0, 0, [])) (0 + j)) = true := by decide +kernel
theorem cm_189 : ∀ pc : Nat, jck 12 cX12_end (some .boolean) false (k189.getD pc (0, 0, 0, [])) pc = true := chk_end (by decide +kernel) (chk_cat chk_0 ck_189_0)
theorem ck_190_0 : (List.range 19).all (fun j => jck 12 cX12_fail none false (k190.getD (0 + j) (0, 0, 0, [])) (0 + j)) = true := by decide +kernel
theorem cm_190 : ∀ pc : Nat, jck 12 cX12_fail none false (k190.getD pc (0, 0, 0, [])) pc = true := chk_end (by decide +kernel) (chk_cat chk_0 ck_190_0)
theorem ck_191_0 : (List.range 18).all (fun j => jck 12 cX12_isLetter (some .boolean) false (k191.getD (0 + j) (0, 0, 0, [])) (0 + j)) = true := by decide +kernel
theorem cm_191 : ∀ pc : Nat, jck 12 cX12_isLetter (some .boolean) false (k191.getD pc (0, 0, 0, [])) pc = true := chk_end (by decide +kernel) (chk_cat chk_0 ck_191_0)
theorem ck_192_0 : (List.range 18).all (fun j => jck 12 cX12_isDigit (some .boolean) false (k192.getD (0 + j) (0, 0, 0, [])) (0 + j)) = true := by decide +kernel
theorem cm_192 : ∀ pc : Nat, jck 12 cX12_isDigit (some .boolean) false (k192.getD pc (0, 0, 0, [])) pc = true := chk_end (by decide +kernel) (chk_cat chk_0 ck_192_0)
theorem ck_193_0 : (List.range 60).all (fun j => jck 12 cX12_look (some .int) false (k193.getD (0 + j) (0, 0, 0, [])) (0 + j)) = true := by decide +kernel
theorem ck_193_1 : (List.range 17).all (fun j => jck 12 cX12_look (some .int) false (k193.getD (60 + j) (0, 0, 0, [])) (60 + j)) = true := by decide +kernel
theorem cm_193 : ∀ pc : Nat, jck 12 cX12_look (some .int) false (k193.getD pc (0, 0, 0, [])) pc = true := chk_end (by decide +kernel) (chk_cat (chk_cat chk_0 ck_193_0) ck_193_1)
theorem ck_194_0 : (List.range 60).all (fun j => jck 12 cX12_isHere (some .boolean) false (k194.getD (0 + j) (0, 0, 0, [])) (0 + j)) = true := by decide +kernel
theorem ck_194_1 : (List.range 49).all (fun j => jck 12 cX12_isHere (some .boolean) false (k194.getD (60 + j) (0, 0, 0, [])) (60 + j)) = true := by decide +kernel
theorem cm_194 : ∀ pc : Nat, jck 12 cX12_isHere (some .boolean) false (k194.getD pc (0, 0, 0, [])) pc = true := chk_end (by decide +kernel) (chk_cat (chk_cat chk_0 ck_194_0) ck_194_1)
theorem ck_195_0 : (List.range 31).all (fun j => jck 12 cX12_takes (some .boolean) false (k195.getD (0 + j) (0, 0, 0, [])) (0 + j)) = true := by decide +kernel
theorem cm_195 : ∀ pc : Nat, jck 12 cX12_takes (some .boolean) false (k195.getD pc (0, 0, 0, [])) pc = true := chk_end (by decide +kernel) (chk_cat chk_0 ck_195_0)
theorem ck_196_0 : (List.range 25).all (fun j => jck 12 cX12_asks none false (k196.getD (0 + j) (0, 0, 0, [])) (0 + j)) = true := by decide +kernel
theorem cm_196 : ∀ pc : Nat, jck 12 cX12_asks none false (k196.getD pc (0, 0, 0, [])) pc = true := chk_end (by decide +kernel) (chk_cat chk_0 ck_196_0)
theorem ck_197_0 : (List.range 29).all (fun j => jck 12 cX12_takesSign (some .boolean) false (k197.getD (0 + j) (0, 0, 0, [])) (0 + j)) = true := by decide +kernel
theorem cm_197 : ∀ pc : Nat, jck 12 cX12_takesSign (some .boolean) false (k197.getD pc (0, 0, 0, [])) pc = true := chk_end (by decide +kernel) (chk_cat chk_0 ck_197_0)
theorem ck_198_0 : (List.range 25).all (fun j => jck 12 cX12_asksSign none false (k198.getD (0 + j) (0, 0, 0, [])) (0 + j)) = true := by decide +kernel
theorem cm_198 : ∀ pc : Nat, jck 12 cX12_asksSign none false (k198.getD pc (0, 0, 0, [])) pc = true := chk_end (by decide +kernel) (chk_cat chk_0 ck_198_0)
theorem ck_199_0 : (List.range 60).all (fun j => jck 12 cX12_number (some .int) false (k199.getD (0 + j) (0, 0, 0, [])) (0 + j)) = true := by decide +kernel
theorem ck_199_1 : (List.range 60).all (fun j => jck 12 cX12_number (some .int) false (k199.getD (60 + j) (0, 0, 0, [])) (60 + j)) = true := by decide +kernel
theorem ck_199_2 : (List.range 39).all (fun j => jck 12 cX12_number (some .int) false (k199.getD (120 + j) (0, 0, 0, [])) (120 + j)) = true := by decide +kernel
theorem cm_199 : ∀ pc : Nat, jck 12 cX12_number (some .int) false (k199.getD pc (0, 0, 0, [])) pc = true := chk_end (by decide +kernel) (chk_cat (chk_cat (chk_cat chk_0 ck_199_0) ck_199_1) ck_199_2)
theorem ck_200_0 : (List.range 60).all (fun j => jck 12 cX12_isOwnHere (some .boolean) false (k200.getD (0 + j) (0, 0, 0, [])) (0 + j)) = true := by decide +kernel
theorem ck_200_1 : (List.range 60).all (fun j => jck 12 cX12_isOwnHere (some .boolean) false (k200.getD (60 + j) (0, 0, 0, [])) (60 + j)) = true := by decide +kernel
theorem ck_200_2 : (List.range 60).all (fun j => jck 12 cX12_isOwnHere (some .boolean) false (k200.getD (120 + j) (0, 0, 0, [])) (120 + j)) = true := by decide +kernel
theorem ck_200_3 : (List.range 60).all (fun j => jck 12 cX12_isOwnHere (some .boolean) false (k200.getD (180 + j) (0, 0, 0, [])) (180 + j)) = true := by decide +kernel
theorem ck_200_4 : (List.range 60).all (fun j => jck 12 cX12_isOwnHere (some .boolean) false (k200.getD (240 + j) (0, 0, 0, [])) (240 + j)) = true := by decide +kernel
theorem ck_200_5 : (List.range 60).all (fun j => jck 12 cX12_isOwnHere (some .boolean) false (k200.getD (300 + j) (0, 0, 0, [])) (300 + j)) = true := by decide +kernel
theorem ck_200_6 : (List.range 7).all (fun j => jck 12 cX12_isOwnHere (some .boolean) false (k200.getD (360 + j) (0, 0, 0, [])) (360 + j)) = true := by decide +kernel
theorem cm_200 : ∀ pc : Nat, jck 12 cX12_isOwnHere (some .boolean) false (k200.getD pc (0, 0, 0, [])) pc = true := chk_end (by decide +kernel) (chk_cat (chk_cat (chk_cat (chk_cat (chk_cat (chk_cat (chk_cat chk_0 ck_200_0) ck_200_1) ck_200_2) ck_200_3) ck_200_4) ck_200_5) ck_200_6)
theorem ck_201_0 : (List.range 60).all (fun j => jck 12 cX12_name (some .long) false (k201.getD (0 + j) (0, 0, 0, [])) (0 + j)) = true := by decide +kernel
theorem ck_201_1 : (List.range 60).all (fun j => jck 12 cX12_name (some .long) false (k201.getD (60 + j) (0, 0, 0, [])) (60 + j)) = true := by decide +kernel
theorem ck_201_2 : (List.range 35).all (fun j => jck 12 cX12_name (some .long) false (k201.getD (120 + j) (0, 0, 0, [])) (120 + j)) = true := by decide +kernel
theorem cm_201 : ∀ pc : Nat, jck 12 cX12_name (some .long) false (k201.getD pc (0, 0, 0, [])) pc = true := chk_end (by decide +kernel) (chk_cat (chk_cat (chk_cat chk_0 ck_201_0) ck_201_1) ck_201_2)
theorem ck_202_0 : (List.range 47).all (fun j => jck 12 cX12_isAllowed (some .boolean) false (k202.getD (0 + j) (0, 0, 0, [])) (0 + j)) = true := by decide +kernel
theorem cm_202 : ∀ pc : Nat, jck 12 cX12_isAllowed (some .boolean) false (k202.getD pc (0, 0, 0, [])) pc = true := chk_end (by decide +kernel) (chk_cat chk_0 ck_202_0)
theorem ck_203_0 : (List.range 36).all (fun j => jck 12 cX12_isFull (some .boolean) false (k203.getD (0 + j) (0, 0, 0, [])) (0 + j)) = true := by decide +kernel
theorem cm_203 : ∀ pc : Nat, jck 12 cX12_isFull (some .boolean) false (k203.getD pc (0, 0, 0, [])) pc = true := chk_end (by decide +kernel) (chk_cat chk_0 ck_203_0)
theorem ck_204_0 : (List.range 33).all (fun j => jck 12 cX12_kindOf (some .int) false (k204.getD (0 + j) (0, 0, 0, [])) (0 + j)) = true := by decide +kernel
theorem cm_204 : ∀ pc : Nat, jck 12 cX12_kindOf (some .int) false (k204.getD pc (0, 0, 0, [])) pc = true := chk_end (by decide +kernel) (chk_cat chk_0 ck_204_0)
theorem ck_205_0 : (List.range 60).all (fun j => jck 12 cX12_newName (some .long) false (k205.getD (0 + j) (0, 0, 0, [])) (0 + j)) = true := by decide +kernel
theorem ck_205_1 : (List.range 20).all (fun j => jck 12 cX12_newName (some .long) false (k205.getD (60 + j) (0, 0, 0, [])) (60 + j)) = true := by decide +kernel
theorem cm_205 : ∀ pc : Nat, jck 12 cX12_newName (some .long) false (k205.getD pc (0, 0, 0, [])) pc = true := chk_end (by decide +kernel) (chk_cat (chk_cat chk_0 ck_205_0) ck_205_1)
theorem ck_206_0 : (List.range 55).all (fun j => jck 12 cX12_pitTold none false (k206.getD (0 + j) (0, 0, 0, [])) (0 + j)) = true := by decide +kernel
theorem cm_206 : ∀ pc : Nat, jck 12 cX12_pitTold none false (k206.getD pc (0, 0, 0, [])) pc = true := chk_end (by decide +kernel) (chk_cat chk_0 ck_206_0)
theorem ck_207_0 : (List.range 60).all (fun j => jck 12 cX12_kindTold none false (k207.getD (0 + j) (0, 0, 0, [])) (0 + j)) = true := by decide +kernel
theorem ck_207_1 : (List.range 60).all (fun j => jck 12 cX12_kindTold none false (k207.getD (60 + j) (0, 0, 0, [])) (60 + j)) = true := by decide +kernel
theorem ck_207_2 : (List.range 31).all (fun j => jck 12 cX12_kindTold none false (k207.getD (120 + j) (0, 0, 0, [])) (120 + j)) = true := by decide +kernel
theorem cm_207 : ∀ pc : Nat, jck 12 cX12_kindTold none false (k207.getD pc (0, 0, 0, [])) pc = true := chk_end (by decide +kernel) (chk_cat (chk_cat (chk_cat chk_0 ck_207_0) ck_207_1) ck_207_2)
theorem ck_208_0 : (List.range 60).all (fun j => jck 12 cX12_rowTold none false (k208.getD (0 + j) (0, 0, 0, [])) (0 + j)) = true := by decide +kernel
theorem ck_208_1 : (List.range 60).all (fun j => jck 12 cX12_rowTold none false (k208.getD (60 + j) (0, 0, 0, [])) (60 + j)) = true := by decide +kernel
theorem ck_208_2 : (List.range 60).all (fun j => jck 12 cX12_rowTold none false (k208.getD (120 + j) (0, 0, 0, [])) (120 + j)) = true := by decide +kernel
theorem ck_208_3 : (List.range 60).all (fun j => jck 12 cX12_rowTold none false (k208.getD (180 + j) (0, 0, 0, [])) (180 + j)) = true := by decide +kernel
theorem ck_208_4 : (List.range 2).all (fun j => jck 12 cX12_rowTold none false (k208.getD (240 + j) (0, 0, 0, [])) (240 + j)) = true := by decide +kernel
theorem cm_208 : ∀ pc : Nat, jck 12 cX12_rowTold none false (k208.getD pc (0, 0, 0, [])) pc = true := chk_end (by decide +kernel) (chk_cat (chk_cat (chk_cat (chk_cat (chk_cat chk_0 ck_208_0) ck_208_1) ck_208_2) ck_208_3) ck_208_4)
theorem ck_209_0 : (List.range 60).all (fun j => jck 12 cX12_houseTold none false (k209.getD (0 + j) (0, 0, 0, [])) (0 + j)) = true := by decide +kernel
theorem ck_209_1 : (List.range 27).all (fun j => jck 12 cX12_houseTold none false (k209.getD (60 + j) (0, 0, 0, [])) (60 + j)) = true := by decide +kernel
theorem cm_209 : ∀ pc : Nat, jck 12 cX12_houseTold none false (k209.getD pc (0, 0, 0, [])) pc = true := chk_end (by decide +kernel) (chk_cat (chk_cat chk_0 ck_209_0) ck_209_1)
theorem ck_210_0 : (List.range 45).all (fun j => jck 12 cX12_kindHere (some .int) false (k210.getD (0 + j) (0, 0, 0, [])) (0 + j)) = true := by decide +kernel
theorem cm_210 : ∀ pc : Nat, jck 12 cX12_kindHere (some .int) false (k210.getD pc (0, 0, 0, [])) pc = true := chk_end (by decide +kernel) (chk_cat chk_0 ck_210_0)
theorem ck_211_0 : (List.range 60).all (fun j => jck 12 cX12_mixTold none false (k211.getD (0 + j) (0, 0, 0, [])) (0 + j)) = true := by decide +kernel
theorem ck_211_1 : (List.range 52).all (fun j => jck 12 cX12_mixTold none false (k211.getD (60 + j) (0, 0, 0, [])) (60 + j)) = true := by decide +kernel
theorem cm_211 : ∀ pc : Nat, jck 12 cX12_mixTold none false (k211.getD pc (0, 0, 0, [])) pc = true := chk_end (by decide +kernel) (chk_cat (chk_cat chk_0 ck_211_0) ck_211_1)
