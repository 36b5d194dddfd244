theorem ck_154_0 : (List.range 60).all (fun j => jck 11 cX11_pit (some .int) false (k154.getD (0 + j) (0, 0, 0, [])) (0 + j)) = true := by decide +kernel
theorem ck_154_1 : (List.range 30).all (fun j => jck 11 cX11_pit (some .int) false (k154.getD (60 + j) (0, 0, 0, [])) (60 + j)) = true := by decide +kernel
theorem cm_154 : ∀ pc : Nat, jck 11 cX11_pit (some .int) false (k154.getD pc (0, 0, 0, [])) pc = true := chk_end (by decide +kernel) (chk_cat (chk_cat chk_0 ck_154_0) ck_154_1)
theorem ck_155_0 : (List.range 40).all (fun j => jck 11 cX11_fault (some .int) false (k155.getD (0 + j) (0, 0, 0, [])) (0 + j)) = true := by decide +kernel
theorem cm_155 : ∀ pc : Nat, jck 11 cX11_fault (some .int) false (k155.getD pc (0, 0, 0, [])) pc = true := chk_end (by decide +kernel) (chk_cat chk_0 ck_155_0)
theorem ck_156_0 : (List.range 60).all (fun j => jck 11 cX11_has (some .int) false (k156.getD (0 + j) (0, 0, 0, [])) (0 + j)) = true := by decide +kernel
theorem ck_156_1 : (List.range 60).all (fun j => jck 11 cX11_has (some .int) false (k156.getD (60 + j) (0, 0, 0, [])) (60 + j)) = true := by decide +kernel
theorem ck_156_2 : (List.range 60).all (fun j => jck 11 cX11_has (some .int) false (k156.getD (120 + j) (0, 0, 0, [])) (120 + j)) = true := by decide +kernel
theorem ck_156_3 : (List.range 19).all (fun j => jck 11 cX11_has (some .int) false (k156.getD (180 + j) (0, 0, 0, [])) (180 + j)) = true := by decide +kernel
theorem cm_156 : ∀ pc : Nat, jck 11 cX11_has (some .int) false (k156.getD pc (0, 0, 0, [])) pc = true := chk_end (by decide +kernel) (chk_cat (chk_cat (chk_cat (chk_cat chk_0 ck_156_0) ck_156_1) ck_156_2) ck_156_3)
theorem ck_157_0 : (List.range 60).all (fun j => jck 11 cX11_letter (some .int) false (k157.getD (0 + j) (0, 0, 0, [])) (0 + j)) = true := by decide +kernel
theorem ck_157_1 : (List.range 19).all (fun j => jck 11 cX11_letter (some .int) false (k157.getD (60 + j) (0, 0, 0, [])) (60 + j)) = true := by decide +kernel
theorem cm_157 : ∀ pc : Nat, jck 11 cX11_letter (some .int) false (k157.getD pc (0, 0, 0, [])) pc = true := chk_end (by decide +kernel) (chk_cat (chk_cat chk_0 ck_157_0) ck_157_1)
theorem ck_158_0 : (List.range 60).all (fun j => jck 11 cX11_kind (some .int) false (k158.getD (0 + j) (0, 0, 0, [])) (0 + j)) = true := by decide +kernel
theorem ck_158_1 : (List.range 58).all (fun j => jck 11 cX11_kind (some .int) false (k158.getD (60 + j) (0, 0, 0, [])) (60 + j)) = true := by decide +kernel
theorem cm_158 : ∀ pc : Nat, jck 11 cX11_kind (some .int) false (k158.getD pc (0, 0, 0, [])) pc = true := chk_end (by decide +kernel) (chk_cat (chk_cat chk_0 ck_158_0) ck_158_1)
theorem ck_159_0 : (List.range 60).all (fun j => jck 11 cX11_cell (some .int) false (k159.getD (0 + j) (0, 0, 0, [])) (0 + j)) = true := by decide +kernel
theorem ck_159_1 : (List.range 60).all (fun j => jck 11 cX11_cell (some .int) false (k159.getD (60 + j) (0, 0, 0, [])) (60 + j)) = true := by decide +kernel
theorem ck_159_2 : (List.range 24).all (fun j => jck 11 cX11_cell (some .int) false (k159.getD (120 + j) (0, 0, 0, [])) (120 + j)) = true := by decide +kernel
theorem cm_159 : ∀ pc : Nat, jck 11 cX11_cell (some .int) false (k159.getD pc (0, 0, 0, [])) pc = true := chk_end (by decide +kernel) (chk_cat (chk_cat (chk_cat chk_0 ck_159_0) ck_159_1) ck_159_2)
theorem ck_160_0 : (List.range 60).all (fun j => jck 11 cX11_house (some .int) false (k160.getD (0 + j) (0, 0, 0, [])) (0 + j)) = true := by decide +kernel
theorem ck_160_1 : (List.range 31).all (fun j => jck 11 cX11_house (some .int) false (k160.getD (60 + j) (0, 0, 0, [])) (60 + j)) = true := by decide +kernel
theorem cm_160 : ∀ pc : Nat, jck 11 cX11_house (some .int) false (k160.getD pc (0, 0, 0, [])) pc = true := chk_end (by decide +kernel) (chk_cat (chk_cat chk_0 ck_160_0) ck_160_1)
theorem ck_161_0 : (List.range 42).all (fun j => jck 11 cX11_judge (some .int) false (k161.getD (0 + j) (0, 0, 0, [])) (0 + j)) = true := by decide +kernel
theorem cm_161 : ∀ pc : Nat, jck 11 cX11_judge (some .int) false (k161.getD pc (0, 0, 0, [])) pc = true := chk_end (by decide +kernel) (chk_cat chk_0 ck_161_0)
theorem ck_162_0 : (List.range 29).all (fun j => jck 11 cX11_judged (some .int) false (k162.getD (0 + j) (0, 0, 0, [])) (0 + j)) = true := by decide +kernel
theorem cm_162 : ∀ pc : Nat, jck 11 cX11_judged (some .int) false (k162.getD pc (0, 0, 0, [])) pc = true := chk_end (by decide +kernel) (chk_cat chk_0 ck_162_0)
theorem ck_163_0 : (List.range 22).all (fun j => jck 11 cX11_best (some .int) false (k163.getD (0 + j) (0, 0, 0, [])) (0 + j)) = true := by decide +kernel
theorem cm_163 : ∀ pc : Nat, jck 11 cX11_best (some .int) false (k163.getD pc (0, 0, 0, [])) pc = true := chk_end (by decide +kernel) (chk_cat chk_0 ck_163_0)
theorem ck_164_0 : (List.range 34).all (fun j => jck 11 cX11_rivals (some .long) false (k164.getD (0 + j) (0, 0, 0, [])) (0 + j)) = true := by decide +kernel
theorem cm_164 : ∀ pc : Nat, jck 11 cX11_rivals (some .long) false (k164.getD pc (0, 0, 0, [])) pc = true := chk_end (by decide +kernel) (chk_cat chk_0 ck_164_0)
theorem ck_165_0 : (List.range 44).all (fun j => jck 11 cX11_stores (some .int) false (k165.getD (0 + j) (0, 0, 0, [])) (0 + j)) = true := by decide +kernel
theorem cm_165 : ∀ pc : Nat, jck 11 cX11_stores (some .int) false (k165.getD pc (0, 0, 0, [])) pc = true := chk_end (by decide +kernel) (chk_cat chk_0 ck_165_0)
theorem ck_166_0 : (List.range 48).all (fun j => jck 11 cX11_cut (some .int) false (k166.getD (0 + j) (0, 0, 0, [])) (0 + j)) = true := by decide +kernel
theorem cm_166 : ∀ pc : Nat, jck 11 cX11_cut (some .int) false (k166.getD pc (0, 0, 0, [])) pc = true := chk_end (by decide +kernel) (chk_cat chk_0 ck_166_0)
theorem ck_167_0 : (List.range 60).all (fun j => jck 11 cX11_prop (some .boolean) false (k167.getD (0 + j) (0, 0, 0, [])) (0 + j)) = true := by decide +kernel
theorem ck_167_1 : (List.range 11).all (fun j => jck 11 cX11_prop (some .boolean) false (k167.getD (60 + j) (0, 0, 0, [])) (60 + j)) = true := by decide +kernel
theorem cm_167 : ∀ pc : Nat, jck 11 cX11_prop (some .boolean) false (k167.getD pc (0, 0, 0, [])) pc = true := chk_end (by decide +kernel) (chk_cat (chk_cat chk_0 ck_167_0) ck_167_1)
theorem ck_168_0 : (List.range 60).all (fun j => jck 11 cX11_burn (some .boolean) false (k168.getD (0 + j) (0, 0, 0, [])) (0 + j)) = true := by decide +kernel
theorem ck_168_1 : (List.range 15).all (fun j => jck 11 cX11_burn (some .boolean) false (k168.getD (60 + j) (0, 0, 0, [])) (60 + j)) = true := by decide +kernel
theorem cm_168 : ∀ pc : Nat, jck 11 cX11_burn (some .boolean) false (k168.getD pc (0, 0, 0, [])) pc = true := chk_end (by decide +kernel) (chk_cat (chk_cat chk_0 ck_168_0) ck_168_1)
theorem ck_169_0 : (List.range 58).all (fun j => jck 11 cX11_days (some .int) false (k169.getD (0 + j) (0, 0, 0, [])) (0 + j)) = true := by decide +kernel
theorem cm_169 : ∀ pc : Nat, jck 11 cX11_days (some .int) false (k169.getD pc (0, 0, 0, [])) pc = true := chk_end (by decide +kernel) (chk_cat chk_0 ck_169_0)
theorem ck_170_0 : (List.range 31).all (fun j => jck 11 cX11_undo (some .boolean) false (k170.getD (0 + j) (0, 0, 0, [])) (0 + j)) = true := by decide +kernel
theorem cm_170 : ∀ pc : Nat, jck 11 cX11_undo (some .boolean) false (k170.getD pc (0, 0, 0, [])) pc = true := chk_end (by decide +kernel) (chk_cat chk_0 ck_170_0)
theorem ck_171_0 : (List.range 19).all (fun j => jck 11 cX11_seed (some .boolean) false (k171.getD (0 + j) (0, 0, 0, [])) (0 + j)) = true := by decide +kernel
theorem cm_171 : ∀ pc : Nat, jck 11 cX11_seed (some .boolean) false (k171.getD pc (0, 0, 0, [])) pc = true := chk_end (by decide +kernel) (chk_cat chk_0 ck_171_0)
theorem ck_172_0 : (List.range 35).all (fun j => jck 11 cX11_bores (some .int) false (k172.getD (0 + j) (0, 0, 0, [])) (0 + j)) = true := by decide +kernel
theorem cm_172 : ∀ pc : Nat, jck 11 cX11_bores (some .int) false (k172.getD pc (0, 0, 0, [])) pc = true := chk_end (by decide +kernel) (chk_cat chk_0 ck_172_0)
theorem ck_173_0 : (List.range 57).all (fun j => jck 11 cX11_fits (some .int) false (k173.getD (0 + j) (0, 0, 0, [])) (0 + j)) = true := by decide +kernel
theorem cm_173 : ∀ pc : Nat, jck 11 cX11_fits (some .int) false (k173.getD pc (0, 0, 0, [])) pc = true := chk_end (by decide +kernel) (chk_cat chk_0 ck_173_0)
theorem ck_174_0 : (List.range 53).all (fun j => jck 11 cX11_next (some .int) false (k174.getD (0 + j) (0, 0, 0, [])) (0 + j)) = true := by decide +kernel
theorem cm_174 : ∀ pc : Nat, jck 11 cX11_next (some .int) false (k174.getD pc (0, 0, 0, [])) pc = true := chk_end (by decide +kernel) (chk_cat chk_0 ck_174_0)
theorem ck_175_0 : (List.range 60).all (fun j => jck 11 cX11_theft (some .int) false (k175.getD (0 + j) (0, 0, 0, [])) (0 + j)) = true := by decide +kernel
theorem ck_175_1 : (List.range 8).all (fun j => jck 11 cX11_theft (some .int) false (k175.getD (60 + j) (0, 0, 0, [])) (60 + j)) = true := by decide +kernel
theorem cm_175 : ∀ pc : Nat, jck 11 cX11_theft (some .int) false (k175.getD pc (0, 0, 0, [])) pc = true := chk_end (by decide +kernel) (chk_cat (chk_cat chk_0 ck_175_0) ck_175_1)
theorem ck_176_0 : (List.range 60).all (fun j => jck 11 cX11_ask (some .long) false (k176.getD (0 + j) (0, 0, 0, [])) (0 + j)) = true := by decide +kernel
theorem ck_176_1 : (List.range 22).all (fun j => jck 11 cX11_ask (some .long) false (k176.getD (60 + j) (0, 0, 0, [])) (60 + j)) = true := by decide +kernel
theorem cm_176 : ∀ pc : Nat, jck 11 cX11_ask (some .long) false (k176.getD pc (0, 0, 0, [])) pc = true := chk_end (by decide +kernel) (chk_cat (chk_cat chk_0 ck_176_0) ck_176_1)
theorem ck_177_0 : (List.range 23).all (fun j => jck 11 cX11_image (some .int) false (k177.getD (0 + j) (0, 0, 0, [])) (0 + j)) = true := by decide +kernel
theorem cm_177 : ∀ pc : Nat, jck 11 cX11_image (some .int) false (k177.getD pc (0, 0, 0, [])) pc = true := chk_end (by decide +kernel) (chk_cat chk_0 ck_177_0)
theorem ck_178_0 : (List.range 9).all (fun j => jck 11 cX11_octet (some .int) false (k178.getD (0 + j) (0, 0, 0, [])) (0 + j)) = true := by decide +kernel
theorem cm_178 : ∀ pc : Nat, jck 11 cX11_octet (some .int) false (k178.getD pc (0, 0, 0, [])) pc = true := chk_end (by decide +kernel) (chk_cat chk_0 ck_178_0)
theorem ck_179_0 : (List.range 60).all (fun j => jck 11 cX11_on (some .boolean) false (k179.getD (0 + j) (0, 0, 0, [])) (0 + j)) = true := by decide +kernel
theorem ck_179_1 : (List.range 22).all (fun j => jck 11 cX11_on (some .boolean) false (k179.getD (60 + j) (0, 0, 0, [])) (60 + j)) = true := by decide +kernel
theorem cm_179 : ∀ pc : Nat, jck 11 cX11_on (some .boolean) false (k179.getD pc (0, 0, 0, [])) pc = true := chk_end (by decide +kernel) (chk_cat (chk_cat chk_0 ck_179_0) ck_179_1)
theorem ck_180_0 : (List.range 22).all (fun j => jck 11 cX11_status (some .int) false (k180.getD (0 + j) (0, 0, 0, [])) (0 + j)) = true := by decide +kernel
theorem cm_180 : ∀ pc : Nat, jck 11 cX11_status (some .int) false (k180.getD pc (0, 0, 0, [])) pc = true := chk_end (by decide +kernel) (chk_cat chk_0 ck_180_0)
theorem ck_181_0 : (List.range 12).all (fun j => jck 11 cX11_refuse (some .int) false (k181.getD (0 + j) (0, 0, 0, [])) (0 + j)) = true := by decide +kernel
theorem cm_181 : ∀ pc : Nat, jck 11 cX11_refuse (some .int) false (k181.getD pc (0, 0, 0, [])) pc = true := chk_end (by decide +kernel) (chk_cat chk_0 ck_181_0)
theorem ck_182_0 : (List.range 23).all (fun j => jck 11 cX11_keepFault none false (k182.getD (0 + j) (0, 0, 0, [])) (0 + j)) = true := by decide +kernel
theorem cm_182 : ∀ pc : Nat, jck 11 cX11_keepFault none false (k182.getD pc (0, 0, 0, [])) pc = true := chk_end (by decide +kernel) (chk_cat chk_0 ck_182_0)
theorem ck_183_0 : (List.range 19).all (fun j => jck 11 cX11_beginAct none false (k183.getD (0 + j) (0, 0, 0, [])) (0 + j)) = true := by decide +kernel
theorem cm_183 : ∀ pc : Nat, jck 11 cX11_beginAct none false (k183.getD pc (0, 0, 0, [])) pc = true := chk_end (by decide +kernel) (chk_cat chk_0 ck_183_0)
theorem ck_184_0 : (List.range 42).all (fun j => jck 11 cX11_draw (some .int) false (k184.getD (0 + j) (0, 0, 0, [])) (0 + j)) = true := by decide +kernel
theorem cm_184 : ∀ pc : Nat, jck 11 cX11_draw (some .int) false (k184.getD pc (0, 0, 0, [])) pc = true := chk_end (by decide +kernel) (chk_cat chk_0 ck_184_0)
theorem ck_185_0 : (List.range 60).all (fun j => jck 11 cX11_workOneDay (some .boolean) false (k185.getD (0 + j) (0, 0, 0, [])) (0 + j)) = true := by decide +kernel
theorem ck_185_1 : (List.range 22).all (fun j => jck 11 cX11_workOneDay (some .boolean) false (k185.getD (60 + j) (0, 0, 0, [])) (60 + j)) = true := by decide +kernel
theorem cm_185 : ∀ pc : Nat, jck 11 cX11_workOneDay (some .boolean) false (k185.getD pc (0, 0, 0, [])) pc = true := chk_end (by decide +kernel) (chk_cat (chk_cat chk_0 ck_185_0) ck_185_1)
