/-! all codes together -/
theorem cv_0 : jckM 0 := by
  intro pc
  have e : decide ((jy 0).name = "<init>") = true := by decide +kernel
  rw [e]
  exact cm_0 pc
theorem ca_1 : ∀ a : Nat, a < 1 → jckM a := lt_s (p := jckM) lt_0 cv_0
theorem cv_1 : jckM 1 := by
  intro pc
  have e : decide ((jy 1).name = "<init>") = false := by decide +kernel
  rw [e]
  exact cm_1 pc
theorem ca_2 : ∀ a : Nat, a < 2 → jckM a := lt_s (p := jckM) ca_1 cv_1
theorem cv_2 : jckM 2 := by
  intro pc
  have e : decide ((jy 2).name = "<init>") = false := by decide +kernel
  rw [e]
  exact cm_2 pc
theorem ca_3 : ∀ a : Nat, a < 3 → jckM a := lt_s (p := jckM) ca_2 cv_2
theorem cv_3 : jckM 3 := by
  intro pc
  have e : decide ((jy 3).name = "<init>") = false := by decide +kernel
  rw [e]
  exact cm_3 pc
theorem ca_4 : ∀ a : Nat, a < 4 → jckM a := lt_s (p := jckM) ca_3 cv_3
theorem cv_4 : jckM 4 := by
  intro pc
  have e : decide ((jy 4).name = "<init>") = false := by decide +kernel
  rw [e]
  exact cm_4 pc
theorem ca_5 : ∀ a : Nat, a < 5 → jckM a := lt_s (p := jckM) ca_4 cv_4
theorem cv_5 : jckM 5 := by
  intro pc
  have e : decide ((jy 5).name = "<init>") = false := by decide +kernel
  rw [e]
  exact cm_5 pc
theorem ca_6 : ∀ a : Nat, a < 6 → jckM a := lt_s (p := jckM) ca_5 cv_5
theorem cv_6 : jckM 6 := by
  intro pc
  have e : decide ((jy 6).name = "<init>") = false := by decide +kernel
  rw [e]
  exact cm_6 pc
theorem ca_7 : ∀ a : Nat, a < 7 → jckM a := lt_s (p := jckM) ca_6 cv_6
theorem cv_7 : jckM 7 := by
  intro pc
  have e : decide ((jy 7).name = "<init>") = false := by decide +kernel
  rw [e]
  exact cm_7 pc
theorem ca_8 : ∀ a : Nat, a < 8 → jckM a := lt_s (p := jckM) ca_7 cv_7
theorem cv_8 : jckM 8 := by
  intro pc
  have e : decide ((jy 8).name = "<init>") = false := by decide +kernel
  rw [e]
  exact cm_8 pc
theorem ca_9 : ∀ a : Nat, a < 9 → jckM a := lt_s (p := jckM) ca_8 cv_8
theorem cv_9 : jckM 9 := by
  intro pc
  have e : decide ((jy 9).name = "<init>") = false := by decide +kernel
  rw [e]
  exact cm_9 pc
theorem ca_10 : ∀ a : Nat, a < 10 → jckM a := lt_s (p := jckM) ca_9 cv_9
theorem cv_10 : jckM 10 := by
  intro pc
  have e : decide ((jy 10).name = "<init>") = true := by decide +kernel
  rw [e]
  exact cm_10 pc
theorem ca_11 : ∀ a : Nat, a < 11 → jckM a := lt_s (p := jckM) ca_10 cv_10
theorem cv_11 : jckM 11 := by
  intro pc
  have e : decide ((jy 11).name = "<init>") = false := by decide +kernel
  rw [e]
  exact cm_11 pc
theorem ca_12 : ∀ a : Nat, a < 12 → jckM a := lt_s (p := jckM) ca_11 cv_11
theorem cv_12 : jckM 12 := by
  intro pc
  have e : decide ((jy 12).name = "<init>") = false := by decide +kernel
  rw [e]
  exact cm_12 pc
theorem ca_13 : ∀ a : Nat, a < 13 → jckM a := lt_s (p := jckM) ca_12 cv_12
theorem cv_13 : jckM 13 := by
  intro pc
  have e : decide ((jy 13).name = "<init>") = false := by decide +kernel
  rw [e]
  exact cm_13 pc
theorem ca_14 : ∀ a : Nat, a < 14 → jckM a := lt_s (p := jckM) ca_13 cv_13
theorem cv_14 : jckM 14 := by
  intro pc
  have e : decide ((jy 14).name = "<init>") = false := by decide +kernel
  rw [e]
  exact cm_14 pc
theorem ca_15 : ∀ a : Nat, a < 15 → jckM a := lt_s (p := jckM) ca_14 cv_14
theorem cv_15 : jckM 15 := by
  intro pc
  have e : decide ((jy 15).name = "<init>") = false := by decide +kernel
  rw [e]
  exact cm_15 pc
theorem ca_16 : ∀ a : Nat, a < 16 → jckM a := lt_s (p := jckM) ca_15 cv_15
theorem cv_16 : jckM 16 := by
  intro pc
  have e : decide ((jy 16).name = "<init>") = false := by decide +kernel
  rw [e]
  exact cm_16 pc
theorem ca_17 : ∀ a : Nat, a < 17 → jckM a := lt_s (p := jckM) ca_16 cv_16
theorem cv_17 : jckM 17 := by
  intro pc
  have e : decide ((jy 17).name = "<init>") = false := by decide +kernel
  rw [e]
  exact cm_17 pc
theorem ca_18 : ∀ a : Nat, a < 18 → jckM a := lt_s (p := jckM) ca_17 cv_17
theorem cv_18 : jckM 18 := by
  intro pc
  have e : decide ((jy 18).name = "<init>") = false := by decide +kernel
  rw [e]
  exact cm_18 pc
theorem ca_19 : ∀ a : Nat, a < 19 → jckM a := lt_s (p := jckM) ca_18 cv_18
theorem cv_19 : jckM 19 := by
  intro pc
  have e : decide ((jy 19).name = "<init>") = false := by decide +kernel
  rw [e]
  exact cm_19 pc
theorem ca_20 : ∀ a : Nat, a < 20 → jckM a := lt_s (p := jckM) ca_19 cv_19
theorem cv_20 : jckM 20 := by
  intro pc
  have e : decide ((jy 20).name = "<init>") = false := by decide +kernel
  rw [e]
  exact cm_20 pc
theorem ca_21 : ∀ a : Nat, a < 21 → jckM a := lt_s (p := jckM) ca_20 cv_20
theorem cv_21 : jckM 21 := by
  intro pc
  have e : decide ((jy 21).name = "<init>") = true := by decide +kernel
  rw [e]
  exact cm_21 pc
theorem ca_22 : ∀ a : Nat, a < 22 → jckM a := lt_s (p := jckM) ca_21 cv_21
theorem cv_22 : jckM 22 := by
  intro pc
  have e : decide ((jy 22).name = "<init>") = false := by decide +kernel
  rw [e]
  exact cm_22 pc
theorem ca_23 : ∀ a : Nat, a < 23 → jckM a := lt_s (p := jckM) ca_22 cv_22
theorem cv_23 : jckM 23 := by
  intro pc
  have e : decide ((jy 23).name = "<init>") = false := by decide +kernel
  rw [e]
  exact cm_23 pc
theorem ca_24 : ∀ a : Nat, a < 24 → jckM a := lt_s (p := jckM) ca_23 cv_23
theorem cv_24 : jckM 24 := by
  intro pc
  have e : decide ((jy 24).name = "<init>") = false := by decide +kernel
  rw [e]
  exact cm_24 pc
theorem ca_25 : ∀ a : Nat, a < 25 → jckM a := lt_s (p := jckM) ca_24 cv_24
theorem cv_25 : jckM 25 := by
  intro pc
  have e : decide ((jy 25).name = "<init>") = false := by decide +kernel
  rw [e]
  exact cm_25 pc
theorem ca_26 : ∀ a : Nat, a < 26 → jckM a := lt_s (p := jckM) ca_25 cv_25
theorem cv_26 : jckM 26 := by
  intro pc
  have e : decide ((jy 26).name = "<init>") = true := by decide +kernel
  rw [e]
  exact cm_26 pc
theorem ca_27 : ∀ a : Nat, a < 27 → jckM a := lt_s (p := jckM) ca_26 cv_26
theorem cv_27 : jckM 27 := by
  intro pc
  have e : decide ((jy 27).name = "<init>") = false := by decide +kernel
  rw [e]
  exact cm_27 pc
theorem ca_28 : ∀ a : Nat, a < 28 → jckM a := lt_s (p := jckM) ca_27 cv_27
theorem cv_28 : jckM 28 := by
  intro pc
  have e : decide ((jy 28).name = "<init>") = false := by decide +kernel
  rw [e]
  exact cm_28 pc
theorem ca_29 : ∀ a : Nat, a < 29 → jckM a := lt_s (p := jckM) ca_28 cv_28
theorem cv_29 : jckM 29 := by
  intro pc
  have e : decide ((jy 29).name = "<init>") = false := by decide +kernel
  rw [e]
  exact cm_29 pc
theorem ca_30 : ∀ a : Nat, a < 30 → jckM a := lt_s (p := jckM) ca_29 cv_29
theorem cv_30 : jckM 30 := by
  intro pc
  have e : decide ((jy 30).name = "<init>") = false := by decide +kernel
  rw [e]
  exact cm_30 pc
theorem ca_31 : ∀ a : Nat, a < 31 → jckM a := lt_s (p := jckM) ca_30 cv_30
theorem cv_31 : jckM 31 := by
  intro pc
  have e : decide ((jy 31).name = "<init>") = false := by decide +kernel
  rw [e]
  exact cm_31 pc
theorem ca_32 : ∀ a : Nat, a < 32 → jckM a := lt_s (p := jckM) ca_31 cv_31
theorem cv_32 : jckM 32 := by
  intro pc
  have e : decide ((jy 32).name = "<init>") = false := by decide +kernel
  rw [e]
  exact cm_32 pc
theorem ca_33 : ∀ a : Nat, a < 33 → jckM a := lt_s (p := jckM) ca_32 cv_32
theorem cv_33 : jckM 33 := by
  intro pc
  have e : decide ((jy 33).name = "<init>") = false := by decide +kernel
  rw [e]
  exact cm_33 pc
theorem ca_34 : ∀ a : Nat, a < 34 → jckM a := lt_s (p := jckM) ca_33 cv_33
theorem cv_34 : jckM 34 := by
  intro pc
  have e : decide ((jy 34).name = "<init>") = false := by decide +kernel
  rw [e]
  exact cm_34 pc
theorem ca_35 : ∀ a : Nat, a < 35 → jckM a := lt_s (p := jckM) ca_34 cv_34
theorem cv_35 : jckM 35 := by
  intro pc
  have e : decide ((jy 35).name = "<init>") = false := by decide +kernel
  rw [e]
  exact cm_35 pc
theorem ca_36 : ∀ a : Nat, a < 36 → jckM a := lt_s (p := jckM) ca_35 cv_35
theorem cv_36 : jckM 36 := by
  intro pc
  have e : decide ((jy 36).name = "<init>") = false := by decide +kernel
  rw [e]
  exact cm_36 pc
theorem ca_37 : ∀ a : Nat, a < 37 → jckM a := lt_s (p := jckM) ca_36 cv_36
theorem cv_37 : jckM 37 := by
  intro pc
  have e : decide ((jy 37).name = "<init>") = false := by decide +kernel
  rw [e]
  exact cm_37 pc
theorem ca_38 : ∀ a : Nat, a < 38 → jckM a := lt_s (p := jckM) ca_37 cv_37
theorem cv_38 : jckM 38 := by
  intro pc
  have e : decide ((jy 38).name = "<init>") = false := by decide +kernel
  rw [e]
  exact cm_38 pc
theorem ca_39 : ∀ a : Nat, a < 39 → jckM a := lt_s (p := jckM) ca_38 cv_38
theorem cv_39 : jckM 39 := by
  intro pc
  have e : decide ((jy 39).name = "<init>") = false := by decide +kernel
  rw [e]
  exact cm_39 pc
theorem ca_40 : ∀ a : Nat, a < 40 → jckM a := lt_s (p := jckM) ca_39 cv_39
theorem cv_40 : jckM 40 := by
  intro pc
  have e : decide ((jy 40).name = "<init>") = false := by decide +kernel
  rw [e]
  exact cm_40 pc
theorem ca_41 : ∀ a : Nat, a < 41 → jckM a := lt_s (p := jckM) ca_40 cv_40
theorem cv_41 : jckM 41 := by
  intro pc
  have e : decide ((jy 41).name = "<init>") = false := by decide +kernel
  rw [e]
  exact cm_41 pc
theorem ca_42 : ∀ a : Nat, a < 42 → jckM a := lt_s (p := jckM) ca_41 cv_41
theorem cv_42 : jckM 42 := by
  intro pc
  have e : decide ((jy 42).name = "<init>") = false := by decide +kernel
  rw [e]
  exact cm_42 pc
theorem ca_43 : ∀ a : Nat, a < 43 → jckM a := lt_s (p := jckM) ca_42 cv_42
theorem cv_43 : jckM 43 := by
  intro pc
  have e : decide ((jy 43).name = "<init>") = false := by decide +kernel
  rw [e]
  exact cm_43 pc
theorem ca_44 : ∀ a : Nat, a < 44 → jckM a := lt_s (p := jckM) ca_43 cv_43
theorem cv_44 : jckM 44 := by
  intro pc
  have e : decide ((jy 44).name = "<init>") = false := by decide +kernel
  rw [e]
  exact cm_44 pc
theorem ca_45 : ∀ a : Nat, a < 45 → jckM a := lt_s (p := jckM) ca_44 cv_44
theorem cv_45 : jckM 45 := by
  intro pc
  have e : decide ((jy 45).name = "<init>") = false := by decide +kernel
  rw [e]
  exact cm_45 pc
theorem ca_46 : ∀ a : Nat, a < 46 → jckM a := lt_s (p := jckM) ca_45 cv_45
theorem cv_46 : jckM 46 := by
  intro pc
  have e : decide ((jy 46).name = "<init>") = false := by decide +kernel
  rw [e]
  exact cm_46 pc
theorem ca_47 : ∀ a : Nat, a < 47 → jckM a := lt_s (p := jckM) ca_46 cv_46
theorem cv_47 : jckM 47 := by
  intro pc
  have e : decide ((jy 47).name = "<init>") = false := by decide +kernel
  rw [e]
  exact cm_47 pc
theorem ca_48 : ∀ a : Nat, a < 48 → jckM a := lt_s (p := jckM) ca_47 cv_47
theorem cv_48 : jckM 48 := by
  intro pc
  have e : decide ((jy 48).name = "<init>") = false := by decide +kernel
  rw [e]
  exact cm_48 pc
theorem ca_49 : ∀ a : Nat, a < 49 → jckM a := lt_s (p := jckM) ca_48 cv_48
theorem cv_49 : jckM 49 := by
  intro pc
  have e : decide ((jy 49).name = "<init>") = false := by decide +kernel
  rw [e]
  exact cm_49 pc
theorem ca_50 : ∀ a : Nat, a < 50 → jckM a := lt_s (p := jckM) ca_49 cv_49
theorem cv_50 : jckM 50 := by
  intro pc
  have e : decide ((jy 50).name = "<init>") = true := by decide +kernel
  rw [e]
  exact cm_50 pc
theorem ca_51 : ∀ a : Nat, a < 51 → jckM a := lt_s (p := jckM) ca_50 cv_50
theorem cv_51 : jckM 51 := by
  intro pc
  have e : decide ((jy 51).name = "<init>") = false := by decide +kernel
  rw [e]
  exact cm_51 pc
theorem ca_52 : ∀ a : Nat, a < 52 → jckM a := lt_s (p := jckM) ca_51 cv_51
theorem cv_52 : jckM 52 := by
  intro pc
  have e : decide ((jy 52).name = "<init>") = false := by decide +kernel
  rw [e]
  exact cm_52 pc
theorem ca_53 : ∀ a : Nat, a < 53 → jckM a := lt_s (p := jckM) ca_52 cv_52
theorem cv_53 : jckM 53 := by
  intro pc
  have e : decide ((jy 53).name = "<init>") = false := by decide +kernel
  rw [e]
  exact cm_53 pc
theorem ca_54 : ∀ a : Nat, a < 54 → jckM a := lt_s (p := jckM) ca_53 cv_53
theorem cv_54 : jckM 54 := by
  intro pc
  have e : decide ((jy 54).name = "<init>") = false := by decide +kernel
  rw [e]
  exact cm_54 pc
theorem ca_55 : ∀ a : Nat, a < 55 → jckM a := lt_s (p := jckM) ca_54 cv_54
theorem cv_55 : jckM 55 := by
  intro pc
  have e : decide ((jy 55).name = "<init>") = false := by decide +kernel
  rw [e]
  exact cm_55 pc
theorem ca_56 : ∀ a : Nat, a < 56 → jckM a := lt_s (p := jckM) ca_55 cv_55
theorem cv_56 : jckM 56 := by
  intro pc
  have e : decide ((jy 56).name = "<init>") = false := by decide +kernel
  rw [e]
  exact cm_56 pc
theorem ca_57 : ∀ a : Nat, a < 57 → jckM a := lt_s (p := jckM) ca_56 cv_56
theorem cv_57 : jckM 57 := by
  intro pc
  have e : decide ((jy 57).name = "<init>") = false := by decide +kernel
  rw [e]
  exact cm_57 pc
theorem ca_58 : ∀ a : Nat, a < 58 → jckM a := lt_s (p := jckM) ca_57 cv_57
theorem cv_58 : jckM 58 := by
  intro pc
  have e : decide ((jy 58).name = "<init>") = false := by decide +kernel
  rw [e]
  exact cm_58 pc
theorem ca_59 : ∀ a : Nat, a < 59 → jckM a := lt_s (p := jckM) ca_58 cv_58
theorem cv_59 : jckM 59 := by
  intro pc
  have e : decide ((jy 59).name = "<init>") = false := by decide +kernel
  rw [e]
  exact cm_59 pc
theorem ca_60 : ∀ a : Nat, a < 60 → jckM a := lt_s (p := jckM) ca_59 cv_59
theorem cv_60 : jckM 60 := by
  intro pc
  have e : decide ((jy 60).name = "<init>") = false := by decide +kernel
  rw [e]
  exact cm_60 pc
theorem ca_61 : ∀ a : Nat, a < 61 → jckM a := lt_s (p := jckM) ca_60 cv_60
theorem cv_61 : jckM 61 := by
  intro pc
  have e : decide ((jy 61).name = "<init>") = false := by decide +kernel
  rw [e]
  exact cm_61 pc
theorem ca_62 : ∀ a : Nat, a < 62 → jckM a := lt_s (p := jckM) ca_61 cv_61
theorem cv_62 : jckM 62 := by
  intro pc
  have e : decide ((jy 62).name = "<init>") = false := by decide +kernel
  rw [e]
  exact cm_62 pc
theorem ca_63 : ∀ a : Nat, a < 63 → jckM a := lt_s (p := jckM) ca_62 cv_62
theorem cv_63 : jckM 63 := by
  intro pc
  have e : decide ((jy 63).name = "<init>") = false := by decide +kernel
  rw [e]
  exact cm_63 pc
theorem ca_64 : ∀ a : Nat, a < 64 → jckM a := lt_s (p := jckM) ca_63 cv_63
theorem cv_64 : jckM 64 := by
  intro pc
  have e : decide ((jy 64).name = "<init>") = false := by decide +kernel
  rw [e]
  exact cm_64 pc
theorem ca_65 : ∀ a : Nat, a < 65 → jckM a := lt_s (p := jckM) ca_64 cv_64
theorem cv_65 : jckM 65 := by
  intro pc
  have e : decide ((jy 65).name = "<init>") = false := by decide +kernel
  rw [e]
  exact cm_65 pc
theorem ca_66 : ∀ a : Nat, a < 66 → jckM a := lt_s (p := jckM) ca_65 cv_65
theorem cv_66 : jckM 66 := by
  intro pc
  have e : decide ((jy 66).name = "<init>") = true := by decide +kernel
  rw [e]
  exact cm_66 pc
theorem ca_67 : ∀ a : Nat, a < 67 → jckM a := lt_s (p := jckM) ca_66 cv_66
theorem cv_67 : jckM 67 := by
  intro pc
  have e : decide ((jy 67).name = "<init>") = false := by decide +kernel
  rw [e]
  exact cm_67 pc
theorem ca_68 : ∀ a : Nat, a < 68 → jckM a := lt_s (p := jckM) ca_67 cv_67
theorem cv_68 : jckM 68 := by
  intro pc
  have e : decide ((jy 68).name = "<init>") = false := by decide +kernel
  rw [e]
  exact cm_68 pc
theorem ca_69 : ∀ a : Nat, a < 69 → jckM a := lt_s (p := jckM) ca_68 cv_68
theorem cv_69 : jckM 69 := by
  intro pc
  have e : decide ((jy 69).name = "<init>") = false := by decide +kernel
  rw [e]
  exact cm_69 pc
theorem ca_70 : ∀ a : Nat, a < 70 → jckM a := lt_s (p := jckM) ca_69 cv_69
theorem cv_70 : jckM 70 := by
  intro pc
  have e : decide ((jy 70).name = "<init>") = false := by decide +kernel
  rw [e]
  exact cm_70 pc
theorem ca_71 : ∀ a : Nat, a < 71 → jckM a := lt_s (p := jckM) ca_70 cv_70
theorem cv_71 : jckM 71 := by
  intro pc
  have e : decide ((jy 71).name = "<init>") = false := by decide +kernel
  rw [e]
  exact cm_71 pc
theorem ca_72 : ∀ a : Nat, a < 72 → jckM a := lt_s (p := jckM) ca_71 cv_71
theorem cv_72 : jckM 72 := by
  intro pc
  have e : decide ((jy 72).name = "<init>") = false := by decide +kernel
  rw [e]
  exact cm_72 pc
theorem ca_73 : ∀ a : Nat, a < 73 → jckM a := lt_s (p := jckM) ca_72 cv_72
theorem cv_73 : jckM 73 := by
  intro pc
  have e : decide ((jy 73).name = "<init>") = false := by decide +kernel
  rw [e]
  exact cm_73 pc
theorem ca_74 : ∀ a : Nat, a < 74 → jckM a := lt_s (p := jckM) ca_73 cv_73
theorem cv_74 : jckM 74 := by
  intro pc
  have e : decide ((jy 74).name = "<init>") = false := by decide +kernel
  rw [e]
  exact cm_74 pc
theorem ca_75 : ∀ a : Nat, a < 75 → jckM a := lt_s (p := jckM) ca_74 cv_74
theorem cv_75 : jckM 75 := by
  intro pc
  have e : decide ((jy 75).name = "<init>") = false := by decide +kernel
  rw [e]
  exact cm_75 pc
theorem ca_76 : ∀ a : Nat, a < 76 → jckM a := lt_s (p := jckM) ca_75 cv_75
theorem cv_76 : jckM 76 := by
  intro pc
  have e : decide ((jy 76).name = "<init>") = false := by decide +kernel
  rw [e]
  exact cm_76 pc
theorem ca_77 : ∀ a : Nat, a < 77 → jckM a := lt_s (p := jckM) ca_76 cv_76
theorem cv_77 : jckM 77 := by
  intro pc
  have e : decide ((jy 77).name = "<init>") = false := by decide +kernel
  rw [e]
  exact cm_77 pc
theorem ca_78 : ∀ a : Nat, a < 78 → jckM a := lt_s (p := jckM) ca_77 cv_77
theorem cv_78 : jckM 78 := by
  intro pc
  have e : decide ((jy 78).name = "<init>") = false := by decide +kernel
  rw [e]
  exact cm_78 pc
theorem ca_79 : ∀ a : Nat, a < 79 → jckM a := lt_s (p := jckM) ca_78 cv_78
theorem cv_79 : jckM 79 := by
  intro pc
  have e : decide ((jy 79).name = "<init>") = true := by decide +kernel
  rw [e]
  exact cm_79 pc
theorem ca_80 : ∀ a : Nat, a < 80 → jckM a := lt_s (p := jckM) ca_79 cv_79
theorem cv_80 : jckM 80 := by
  intro pc
  have e : decide ((jy 80).name = "<init>") = false := by decide +kernel
  rw [e]
  exact cm_80 pc
theorem ca_81 : ∀ a : Nat, a < 81 → jckM a := lt_s (p := jckM) ca_80 cv_80
theorem cv_81 : jckM 81 := by
  intro pc
  have e : decide ((jy 81).name = "<init>") = false := by decide +kernel
  rw [e]
  exact cm_81 pc
theorem ca_82 : ∀ a : Nat, a < 82 → jckM a := lt_s (p := jckM) ca_81 cv_81
theorem cv_82 : jckM 82 := by
  intro pc
  have e : decide ((jy 82).name = "<init>") = false := by decide +kernel
  rw [e]
  exact cm_82 pc
theorem ca_83 : ∀ a : Nat, a < 83 → jckM a := lt_s (p := jckM) ca_82 cv_82
theorem cv_83 : jckM 83 := by
  intro pc
  have e : decide ((jy 83).name = "<init>") = false := by decide +kernel
  rw [e]
  exact cm_83 pc
theorem ca_84 : ∀ a : Nat, a < 84 → jckM a := lt_s (p := jckM) ca_83 cv_83
theorem cv_84 : jckM 84 := by
  intro pc
  have e : decide ((jy 84).name = "<init>") = true := by decide +kernel
  rw [e]
  exact cm_84 pc
theorem ca_85 : ∀ a : Nat, a < 85 → jckM a := lt_s (p := jckM) ca_84 cv_84
theorem cv_85 : jckM 85 := by
  intro pc
  have e : decide ((jy 85).name = "<init>") = false := by decide +kernel
  rw [e]
  exact cm_85 pc
theorem ca_86 : ∀ a : Nat, a < 86 → jckM a := lt_s (p := jckM) ca_85 cv_85
theorem cv_86 : jckM 86 := by
  intro pc
  have e : decide ((jy 86).name = "<init>") = false := by decide +kernel
  rw [e]
  exact cm_86 pc
theorem ca_87 : ∀ a : Nat, a < 87 → jckM a := lt_s (p := jckM) ca_86 cv_86
theorem cv_87 : jckM 87 := by
  intro pc
  have e : decide ((jy 87).name = "<init>") = false := by decide +kernel
  rw [e]
  exact cm_87 pc
theorem ca_88 : ∀ a : Nat, a < 88 → jckM a := lt_s (p := jckM) ca_87 cv_87
theorem cv_88 : jckM 88 := by
  intro pc
  have e : decide ((jy 88).name = "<init>") = false := by decide +kernel
  rw [e]
  exact cm_88 pc
theorem ca_89 : ∀ a : Nat, a < 89 → jckM a := lt_s (p := jckM) ca_88 cv_88
theorem cv_89 : jckM 89 := by
  intro pc
  have e : decide ((jy 89).name = "<init>") = false := by decide +kernel
  rw [e]
  exact cm_89 pc
theorem ca_90 : ∀ a : Nat, a < 90 → jckM a := lt_s (p := jckM) ca_89 cv_89
theorem cv_90 : jckM 90 := by
  intro pc
  have e : decide ((jy 90).name = "<init>") = false := by decide +kernel
  rw [e]
  exact cm_90 pc
theorem ca_91 : ∀ a : Nat, a < 91 → jckM a := lt_s (p := jckM) ca_90 cv_90
theorem cv_91 : jckM 91 := by
  intro pc
  have e : decide ((jy 91).name = "<init>") = false := by decide +kernel
  rw [e]
  exact cm_91 pc
theorem ca_92 : ∀ a : Nat, a < 92 → jckM a := lt_s (p := jckM) ca_91 cv_91
theorem cv_92 : jckM 92 := by
  intro pc
  have e : decide ((jy 92).name = "<init>") = false := by decide +kernel
  rw [e]
  exact cm_92 pc
theorem ca_93 : ∀ a : Nat, a < 93 → jckM a := lt_s (p := jckM) ca_92 cv_92
theorem cv_93 : jckM 93 := by
  intro pc
  have e : decide ((jy 93).name = "<init>") = false := by decide +kernel
  rw [e]
  exact cm_93 pc
theorem ca_94 : ∀ a : Nat, a < 94 → jckM a := lt_s (p := jckM) ca_93 cv_93
theorem cv_94 : jckM 94 := by
  intro pc
  have e : decide ((jy 94).name = "<init>") = false := by decide +kernel
  rw [e]
  exact cm_94 pc
theorem ca_95 : ∀ a : Nat, a < 95 → jckM a := lt_s (p := jckM) ca_94 cv_94
theorem cv_95 : jckM 95 := by
  intro pc
  have e : decide ((jy 95).name = "<init>") = false := by decide +kernel
  rw [e]
  exact cm_95 pc
theorem ca_96 : ∀ a : Nat, a < 96 → jckM a := lt_s (p := jckM) ca_95 cv_95
theorem cv_96 : jckM 96 := by
  intro pc
  have e : decide ((jy 96).name = "<init>") = false := by decide +kernel
  rw [e]
  exact cm_96 pc
theorem ca_97 : ∀ a : Nat, a < 97 → jckM a := lt_s (p := jckM) ca_96 cv_96
theorem cv_97 : jckM 97 := by
  intro pc
  have e : decide ((jy 97).name = "<init>") = false := by decide +kernel
  rw [e]
  exact cm_97 pc
theorem ca_98 : ∀ a : Nat, a < 98 → jckM a := lt_s (p := jckM) ca_97 cv_97
theorem cv_98 : jckM 98 := by
  intro pc
  have e : decide ((jy 98).name = "<init>") = false := by decide +kernel
  rw [e]
  exact cm_98 pc
theorem ca_99 : ∀ a : Nat, a < 99 → jckM a := lt_s (p := jckM) ca_98 cv_98
theorem cv_99 : jckM 99 := by
  intro pc
  have e : decide ((jy 99).name = "<init>") = false := by decide +kernel
  rw [e]
  exact cm_99 pc
theorem ca_100 : ∀ a : Nat, a < 100 → jckM a := lt_s (p := jckM) ca_99 cv_99
theorem cv_100 : jckM 100 := by
  intro pc
  have e : decide ((jy 100).name = "<init>") = false := by decide +kernel
  rw [e]
  exact cm_100 pc
theorem ca_101 : ∀ a : Nat, a < 101 → jckM a := lt_s (p := jckM) ca_100 cv_100
theorem cv_101 : jckM 101 := by
  intro pc
  have e : decide ((jy 101).name = "<init>") = false := by decide +kernel
  rw [e]
  exact cm_101 pc
theorem ca_102 : ∀ a : Nat, a < 102 → jckM a := lt_s (p := jckM) ca_101 cv_101
theorem cv_102 : jckM 102 := by
  intro pc
  have e : decide ((jy 102).name = "<init>") = false := by decide +kernel
  rw [e]
  exact cm_102 pc
theorem ca_103 : ∀ a : Nat, a < 103 → jckM a := lt_s (p := jckM) ca_102 cv_102
theorem cv_103 : jckM 103 := by
  intro pc
  have e : decide ((jy 103).name = "<init>") = false := by decide +kernel
  rw [e]
  exact cm_103 pc
theorem ca_104 : ∀ a : Nat, a < 104 → jckM a := lt_s (p := jckM) ca_103 cv_103
theorem cv_104 : jckM 104 := by
  intro pc
  have e : decide ((jy 104).name = "<init>") = false := by decide +kernel
  rw [e]
  exact cm_104 pc
theorem ca_105 : ∀ a : Nat, a < 105 → jckM a := lt_s (p := jckM) ca_104 cv_104
theorem cv_105 : jckM 105 := by
  intro pc
  have e : decide ((jy 105).name = "<init>") = false := by decide +kernel
  rw [e]
  exact cm_105 pc
theorem ca_106 : ∀ a : Nat, a < 106 → jckM a := lt_s (p := jckM) ca_105 cv_105
theorem cv_106 : jckM 106 := by
  intro pc
  have e : decide ((jy 106).name = "<init>") = false := by decide +kernel
  rw [e]
  exact cm_106 pc
theorem ca_107 : ∀ a : Nat, a < 107 → jckM a := lt_s (p := jckM) ca_106 cv_106
theorem cv_107 : jckM 107 := by
  intro pc
  have e : decide ((jy 107).name = "<init>") = false := by decide +kernel
  rw [e]
  exact cm_107 pc
theorem ca_108 : ∀ a : Nat, a < 108 → jckM a := lt_s (p := jckM) ca_107 cv_107
theorem cv_108 : jckM 108 := by
  intro pc
  have e : decide ((jy 108).name = "<init>") = false := by decide +kernel
  rw [e]
  exact cm_108 pc
theorem ca_109 : ∀ a : Nat, a < 109 → jckM a := lt_s (p := jckM) ca_108 cv_108
theorem cv_109 : jckM 109 := by
  intro pc
  have e : decide ((jy 109).name = "<init>") = false := by decide +kernel
  rw [e]
  exact cm_109 pc
theorem ca_110 : ∀ a : Nat, a < 110 → jckM a := lt_s (p := jckM) ca_109 cv_109
theorem cv_110 : jckM 110 := by
  intro pc
  have e : decide ((jy 110).name = "<init>") = false := by decide +kernel
  rw [e]
  exact cm_110 pc
theorem ca_111 : ∀ a : Nat, a < 111 → jckM a := lt_s (p := jckM) ca_110 cv_110
theorem cv_111 : jckM 111 := by
  intro pc
  have e : decide ((jy 111).name = "<init>") = false := by decide +kernel
  rw [e]
  exact cm_111 pc
theorem ca_112 : ∀ a : Nat, a < 112 → jckM a := lt_s (p := jckM) ca_111 cv_111
theorem cv_112 : jckM 112 := by
  intro pc
  have e : decide ((jy 112).name = "<init>") = false := by decide +kernel
  rw [e]
  exact cm_112 pc
theorem ca_113 : ∀ a : Nat, a < 113 → jckM a := lt_s (p := jckM) ca_112 cv_112
theorem cv_113 : jckM 113 := by
  intro pc
  have e : decide ((jy 113).name = "<init>") = false := by decide +kernel
  rw [e]
  exact cm_113 pc
theorem ca_114 : ∀ a : Nat, a < 114 → jckM a := lt_s (p := jckM) ca_113 cv_113
theorem cv_114 : jckM 114 := by
  intro pc
  have e : decide ((jy 114).name = "<init>") = false := by decide +kernel
  rw [e]
  exact cm_114 pc
theorem ca_115 : ∀ a : Nat, a < 115 → jckM a := lt_s (p := jckM) ca_114 cv_114
theorem cv_115 : jckM 115 := by
  intro pc
  have e : decide ((jy 115).name = "<init>") = false := by decide +kernel
  rw [e]
  exact cm_115 pc
theorem ca_116 : ∀ a : Nat, a < 116 → jckM a := lt_s (p := jckM) ca_115 cv_115
theorem cv_116 : jckM 116 := by
  intro pc
  have e : decide ((jy 116).name = "<init>") = false := by decide +kernel
  rw [e]
  exact cm_116 pc
theorem ca_117 : ∀ a : Nat, a < 117 → jckM a := lt_s (p := jckM) ca_116 cv_116
theorem cv_117 : jckM 117 := by
  intro pc
  have e : decide ((jy 117).name = "<init>") = false := by decide +kernel
  rw [e]
  exact cm_117 pc
theorem ca_118 : ∀ a : Nat, a < 118 → jckM a := lt_s (p := jckM) ca_117 cv_117
theorem cv_118 : jckM 118 := by
  intro pc
  have e : decide ((jy 118).name = "<init>") = false := by decide +kernel
  rw [e]
  exact cm_118 pc
theorem ca_119 : ∀ a : Nat, a < 119 → jckM a := lt_s (p := jckM) ca_118 cv_118
theorem cv_119 : jckM 119 := by
  intro pc
  have e : decide ((jy 119).name = "<init>") = false := by decide +kernel
  rw [e]
  exact cm_119 pc
theorem ca_120 : ∀ a : Nat, a < 120 → jckM a := lt_s (p := jckM) ca_119 cv_119
theorem cv_120 : jckM 120 := by
  intro pc
  have e : decide ((jy 120).name = "<init>") = false := by decide +kernel
  rw [e]
  exact cm_120 pc
theorem ca_121 : ∀ a : Nat, a < 121 → jckM a := lt_s (p := jckM) ca_120 cv_120
theorem cv_121 : jckM 121 := by
  intro pc
  have e : decide ((jy 121).name = "<init>") = true := by decide +kernel
  rw [e]
  exact cm_121 pc
theorem ca_122 : ∀ a : Nat, a < 122 → jckM a := lt_s (p := jckM) ca_121 cv_121
theorem cv_122 : jckM 122 := by
  intro pc
  have e : decide ((jy 122).name = "<init>") = false := by decide +kernel
  rw [e]
  exact cm_122 pc
theorem ca_123 : ∀ a : Nat, a < 123 → jckM a := lt_s (p := jckM) ca_122 cv_122
theorem cv_123 : jckM 123 := by
  intro pc
  have e : decide ((jy 123).name = "<init>") = false := by decide +kernel
  rw [e]
  exact cm_123 pc
theorem ca_124 : ∀ a : Nat, a < 124 → jckM a := lt_s (p := jckM) ca_123 cv_123
theorem cv_124 : jckM 124 := by
  intro pc
  have e : decide ((jy 124).name = "<init>") = false := by decide +kernel
  rw [e]
  exact cm_124 pc
theorem ca_125 : ∀ a : Nat, a < 125 → jckM a := lt_s (p := jckM) ca_124 cv_124
theorem cv_125 : jckM 125 := by
  intro pc
  have e : decide ((jy 125).name = "<init>") = false := by decide +kernel
  rw [e]
  exact cm_125 pc
theorem ca_126 : ∀ a : Nat, a < 126 → jckM a := lt_s (p := jckM) ca_125 cv_125
theorem cv_126 : jckM 126 := by
  intro pc
  have e : decide ((jy 126).name = "<init>") = false := by decide +kernel
  rw [e]
  exact cm_126 pc
theorem ca_127 : ∀ a : Nat, a < 127 → jckM a := lt_s (p := jckM) ca_126 cv_126
theorem cv_127 : jckM 127 := by
  intro pc
  have e : decide ((jy 127).name = "<init>") = false := by decide +kernel
  rw [e]
  exact cm_127 pc
theorem ca_128 : ∀ a : Nat, a < 128 → jckM a := lt_s (p := jckM) ca_127 cv_127
theorem cv_128 : jckM 128 := by
  intro pc
  have e : decide ((jy 128).name = "<init>") = false := by decide +kernel
  rw [e]
  exact cm_128 pc
theorem ca_129 : ∀ a : Nat, a < 129 → jckM a := lt_s (p := jckM) ca_128 cv_128
theorem cv_129 : jckM 129 := by
  intro pc
  have e : decide ((jy 129).name = "<init>") = false := by decide +kernel
  rw [e]
  exact cm_129 pc
theorem ca_130 : ∀ a : Nat, a < 130 → jckM a := lt_s (p := jckM) ca_129 cv_129
theorem cv_130 : jckM 130 := by
  intro pc
  have e : decide ((jy 130).name = "<init>") = false := by decide +kernel
  rw [e]
  exact cm_130 pc
theorem ca_131 : ∀ a : Nat, a < 131 → jckM a := lt_s (p := jckM) ca_130 cv_130
theorem cv_131 : jckM 131 := by
  intro pc
  have e : decide ((jy 131).name = "<init>") = false := by decide +kernel
  rw [e]
  exact cm_131 pc
theorem ca_132 : ∀ a : Nat, a < 132 → jckM a := lt_s (p := jckM) ca_131 cv_131
theorem cv_132 : jckM 132 := by
  intro pc
  have e : decide ((jy 132).name = "<init>") = true := by decide +kernel
  rw [e]
  exact cm_132 pc
theorem ca_133 : ∀ a : Nat, a < 133 → jckM a := lt_s (p := jckM) ca_132 cv_132
theorem cv_133 : jckM 133 := by
  intro pc
  have e : decide ((jy 133).name = "<init>") = false := by decide +kernel
  rw [e]
  exact cm_133 pc
theorem ca_134 : ∀ a : Nat, a < 134 → jckM a := lt_s (p := jckM) ca_133 cv_133
theorem cv_134 : jckM 134 := by
  intro pc
  have e : decide ((jy 134).name = "<init>") = false := by decide +kernel
  rw [e]
  exact cm_134 pc
theorem ca_135 : ∀ a : Nat, a < 135 → jckM a := lt_s (p := jckM) ca_134 cv_134
theorem cv_135 : jckM 135 := by
  intro pc
  have e : decide ((jy 135).name = "<init>") = false := by decide +kernel
  rw [e]
  exact cm_135 pc
theorem ca_136 : ∀ a : Nat, a < 136 → jckM a := lt_s (p := jckM) ca_135 cv_135
theorem cv_136 : jckM 136 := by
  intro pc
  have e : decide ((jy 136).name = "<init>") = false := by decide +kernel
  rw [e]
  exact cm_136 pc
theorem ca_137 : ∀ a : Nat, a < 137 → jckM a := lt_s (p := jckM) ca_136 cv_136
theorem cv_137 : jckM 137 := by
  intro pc
  have e : decide ((jy 137).name = "<init>") = false := by decide +kernel
  rw [e]
  exact cm_137 pc
theorem ca_138 : ∀ a : Nat, a < 138 → jckM a := lt_s (p := jckM) ca_137 cv_137
theorem cv_138 : jckM 138 := by
  intro pc
  have e : decide ((jy 138).name = "<init>") = false := by decide +kernel
  rw [e]
  exact cm_138 pc
theorem ca_139 : ∀ a : Nat, a < 139 → jckM a := lt_s (p := jckM) ca_138 cv_138
theorem cv_139 : jckM 139 := by
  intro pc
  have e : decide ((jy 139).name = "<init>") = false := by decide +kernel
  rw [e]
  exact cm_139 pc
theorem ca_140 : ∀ a : Nat, a < 140 → jckM a := lt_s (p := jckM) ca_139 cv_139
theorem cv_140 : jckM 140 := by
  intro pc
  have e : decide ((jy 140).name = "<init>") = false := by decide +kernel
  rw [e]
  exact cm_140 pc
theorem ca_141 : ∀ a : Nat, a < 141 → jckM a := lt_s (p := jckM) ca_140 cv_140
theorem cv_141 : jckM 141 := by
  intro pc
  have e : decide ((jy 141).name = "<init>") = false := by decide +kernel
  rw [e]
  exact cm_141 pc
theorem ca_142 : ∀ a : Nat, a < 142 → jckM a := lt_s (p := jckM) ca_141 cv_141
theorem cv_142 : jckM 142 := by
  intro pc
  have e : decide ((jy 142).name = "<init>") = true := by decide +kernel
  rw [e]
  exact cm_142 pc
theorem ca_143 : ∀ a : Nat, a < 143 → jckM a := lt_s (p := jckM) ca_142 cv_142
theorem cv_143 : jckM 143 := by
  intro pc
  have e : decide ((jy 143).name = "<init>") = false := by decide +kernel
  rw [e]
  exact cm_143 pc
theorem ca_144 : ∀ a : Nat, a < 144 → jckM a := lt_s (p := jckM) ca_143 cv_143
theorem cv_144 : jckM 144 := by
  intro pc
  have e : decide ((jy 144).name = "<init>") = false := by decide +kernel
  rw [e]
  exact cm_144 pc
theorem ca_145 : ∀ a : Nat, a < 145 → jckM a := lt_s (p := jckM) ca_144 cv_144
theorem cv_145 : jckM 145 := by
  intro pc
  have e : decide ((jy 145).name = "<init>") = false := by decide +kernel
  rw [e]
  exact cm_145 pc
theorem ca_146 : ∀ a : Nat, a < 146 → jckM a := lt_s (p := jckM) ca_145 cv_145
theorem cv_146 : jckM 146 := by
  intro pc
  have e : decide ((jy 146).name = "<init>") = false := by decide +kernel
  rw [e]
  exact cm_146 pc
theorem ca_147 : ∀ a : Nat, a < 147 → jckM a := lt_s (p := jckM) ca_146 cv_146
theorem cv_147 : jckM 147 := by
  intro pc
  have e : decide ((jy 147).name = "<init>") = false := by decide +kernel
  rw [e]
  exact cm_147 pc
theorem ca_148 : ∀ a : Nat, a < 148 → jckM a := lt_s (p := jckM) ca_147 cv_147
theorem cv_148 : jckM 148 := by
  intro pc
  have e : decide ((jy 148).name = "<init>") = false := by decide +kernel
  rw [e]
  exact cm_148 pc
theorem ca_149 : ∀ a : Nat, a < 149 → jckM a := lt_s (p := jckM) ca_148 cv_148
theorem cv_149 : jckM 149 := by
  intro pc
  have e : decide ((jy 149).name = "<init>") = false := by decide +kernel
  rw [e]
  exact cm_149 pc
theorem ca_150 : ∀ a : Nat, a < 150 → jckM a := lt_s (p := jckM) ca_149 cv_149
theorem cv_150 : jckM 150 := by
  intro pc
  have e : decide ((jy 150).name = "<init>") = false := by decide +kernel
  rw [e]
  exact cm_150 pc
theorem ca_151 : ∀ a : Nat, a < 151 → jckM a := lt_s (p := jckM) ca_150 cv_150
theorem cv_151 : jckM 151 := by
  intro pc
  have e : decide ((jy 151).name = "<init>") = true := by decide +kernel
  rw [e]
  exact cm_151 pc
theorem ca_152 : ∀ a : Nat, a < 152 → jckM a := lt_s (p := jckM) ca_151 cv_151
theorem cv_152 : jckM 152 := by
  intro pc
  have e : decide ((jy 152).name = "<init>") = false := by decide +kernel
  rw [e]
  exact cm_152 pc
theorem ca_153 : ∀ a : Nat, a < 153 → jckM a := lt_s (p := jckM) ca_152 cv_152
theorem cv_153 : jckM 153 := by
  intro pc
  have e : decide ((jy 153).name = "<init>") = false := by decide +kernel
  rw [e]
  exact cm_153 pc
theorem ca_154 : ∀ a : Nat, a < 154 → jckM a := lt_s (p := jckM) ca_153 cv_153
theorem cv_154 : jckM 154 := by
  intro pc
  have e : decide ((jy 154).name = "<init>") = false := by decide +kernel
  rw [e]
  exact cm_154 pc
theorem ca_155 : ∀ a : Nat, a < 155 → jckM a := lt_s (p := jckM) ca_154 cv_154
theorem cv_155 : jckM 155 := by
  intro pc
  have e : decide ((jy 155).name = "<init>") = false := by decide +kernel
  rw [e]
  exact cm_155 pc
theorem ca_156 : ∀ a : Nat, a < 156 → jckM a := lt_s (p := jckM) ca_155 cv_155
theorem cv_156 : jckM 156 := by
  intro pc
  have e : decide ((jy 156).name = "<init>") = false := by decide +kernel
  rw [e]
  exact cm_156 pc
theorem ca_157 : ∀ a : Nat, a < 157 → jckM a := lt_s (p := jckM) ca_156 cv_156
theorem cv_157 : jckM 157 := by
  intro pc
  have e : decide ((jy 157).name = "<init>") = false := by decide +kernel
  rw [e]
  exact cm_157 pc
theorem ca_158 : ∀ a : Nat, a < 158 → jckM a := lt_s (p := jckM) ca_157 cv_157
theorem cv_158 : jckM 158 := by
  intro pc
  have e : decide ((jy 158).name = "<init>") = false := by decide +kernel
  rw [e]
  exact cm_158 pc
theorem ca_159 : ∀ a : Nat, a < 159 → jckM a := lt_s (p := jckM) ca_158 cv_158
theorem cv_159 : jckM 159 := by
  intro pc
  have e : decide ((jy 159).name = "<init>") = false := by decide +kernel
  rw [e]
  exact cm_159 pc
theorem ca_160 : ∀ a : Nat, a < 160 → jckM a := lt_s (p := jckM) ca_159 cv_159
theorem cv_160 : jckM 160 := by
  intro pc
  have e : decide ((jy 160).name = "<init>") = false := by decide +kernel
  rw [e]
  exact cm_160 pc
theorem ca_161 : ∀ a : Nat, a < 161 → jckM a := lt_s (p := jckM) ca_160 cv_160
theorem cv_161 : jckM 161 := by
  intro pc
  have e : decide ((jy 161).name = "<init>") = false := by decide +kernel
  rw [e]
  exact cm_161 pc
theorem ca_162 : ∀ a : Nat, a < 162 → jckM a := lt_s (p := jckM) ca_161 cv_161
theorem cv_162 : jckM 162 := by
  intro pc
  have e : decide ((jy 162).name = "<init>") = false := by decide +kernel
  rw [e]
  exact cm_162 pc
theorem ca_163 : ∀ a : Nat, a < 163 → jckM a := lt_s (p := jckM) ca_162 cv_162
theorem cv_163 : jckM 163 := by
  intro pc
  have e : decide ((jy 163).name = "<init>") = false := by decide +kernel
  rw [e]
  exact cm_163 pc
theorem ca_164 : ∀ a : Nat, a < 164 → jckM a := lt_s (p := jckM) ca_163 cv_163
theorem cv_164 : jckM 164 := by
  intro pc
  have e : decide ((jy 164).name = "<init>") = false := by decide +kernel
  rw [e]
  exact cm_164 pc
theorem ca_165 : ∀ a : Nat, a < 165 → jckM a := lt_s (p := jckM) ca_164 cv_164
theorem cv_165 : jckM 165 := by
  intro pc
  have e : decide ((jy 165).name = "<init>") = false := by decide +kernel
  rw [e]
  exact cm_165 pc
theorem ca_166 : ∀ a : Nat, a < 166 → jckM a := lt_s (p := jckM) ca_165 cv_165
theorem cv_166 : jckM 166 := by
  intro pc
  have e : decide ((jy 166).name = "<init>") = false := by decide +kernel
  rw [e]
  exact cm_166 pc
theorem ca_167 : ∀ a : Nat, a < 167 → jckM a := lt_s (p := jckM) ca_166 cv_166
theorem cv_167 : jckM 167 := by
  intro pc
  have e : decide ((jy 167).name = "<init>") = false := by decide +kernel
  rw [e]
  exact cm_167 pc
theorem ca_168 : ∀ a : Nat, a < 168 → jckM a := lt_s (p := jckM) ca_167 cv_167
theorem cv_168 : jckM 168 := by
  intro pc
  have e : decide ((jy 168).name = "<init>") = false := by decide +kernel
  rw [e]
  exact cm_168 pc
theorem ca_169 : ∀ a : Nat, a < 169 → jckM a := lt_s (p := jckM) ca_168 cv_168
theorem cv_169 : jckM 169 := by
  intro pc
  have e : decide ((jy 169).name = "<init>") = false := by decide +kernel
  rw [e]
  exact cm_169 pc
theorem ca_170 : ∀ a : Nat, a < 170 → jckM a := lt_s (p := jckM) ca_169 cv_169
theorem cv_170 : jckM 170 := by
  intro pc
  have e : decide ((jy 170).name = "<init>") = false := by decide +kernel
  rw [e]
  exact cm_170 pc
theorem ca_171 : ∀ a : Nat, a < 171 → jckM a := lt_s (p := jckM) ca_170 cv_170
theorem cv_171 : jckM 171 := by
  intro pc
  have e : decide ((jy 171).name = "<init>") = false := by decide +kernel
  rw [e]
  exact cm_171 pc
theorem ca_172 : ∀ a : Nat, a < 172 → jckM a := lt_s (p := jckM) ca_171 cv_171
theorem cv_172 : jckM 172 := by
  intro pc
  have e : decide ((jy 172).name = "<init>") = false := by decide +kernel
  rw [e]
  exact cm_172 pc
theorem ca_173 : ∀ a : Nat, a < 173 → jckM a := lt_s (p := jckM) ca_172 cv_172
theorem cv_173 : jckM 173 := by
  intro pc
  have e : decide ((jy 173).name = "<init>") = false := by decide +kernel
  rw [e]
  exact cm_173 pc
theorem ca_174 : ∀ a : Nat, a < 174 → jckM a := lt_s (p := jckM) ca_173 cv_173
theorem cv_174 : jckM 174 := by
  intro pc
  have e : decide ((jy 174).name = "<init>") = false := by decide +kernel
  rw [e]
  exact cm_174 pc
theorem ca_175 : ∀ a : Nat, a < 175 → jckM a := lt_s (p := jckM) ca_174 cv_174
theorem cv_175 : jckM 175 := by
  intro pc
  have e : decide ((jy 175).name = "<init>") = false := by decide +kernel
  rw [e]
  exact cm_175 pc
theorem ca_176 : ∀ a : Nat, a < 176 → jckM a := lt_s (p := jckM) ca_175 cv_175
theorem cv_176 : jckM 176 := by
  intro pc
  have e : decide ((jy 176).name = "<init>") = false := by decide +kernel
  rw [e]
  exact cm_176 pc
theorem ca_177 : ∀ a : Nat, a < 177 → jckM a := lt_s (p := jckM) ca_176 cv_176
theorem cv_177 : jckM 177 := by
  intro pc
  have e : decide ((jy 177).name = "<init>") = false := by decide +kernel
  rw [e]
  exact cm_177 pc
theorem ca_178 : ∀ a : Nat, a < 178 → jckM a := lt_s (p := jckM) ca_177 cv_177
theorem cv_178 : jckM 178 := by
  intro pc
  have e : decide ((jy 178).name = "<init>") = false := by decide +kernel
  rw [e]
  exact cm_178 pc
theorem ca_179 : ∀ a : Nat, a < 179 → jckM a := lt_s (p := jckM) ca_178 cv_178
theorem cv_179 : jckM 179 := by
  intro pc
  have e : decide ((jy 179).name = "<init>") = false := by decide +kernel
  rw [e]
  exact cm_179 pc
theorem ca_180 : ∀ a : Nat, a < 180 → jckM a := lt_s (p := jckM) ca_179 cv_179
theorem cv_180 : jckM 180 := by
  intro pc
  have e : decide ((jy 180).name = "<init>") = false := by decide +kernel
  rw [e]
  exact cm_180 pc
theorem ca_181 : ∀ a : Nat, a < 181 → jckM a := lt_s (p := jckM) ca_180 cv_180
theorem cv_181 : jckM 181 := by
  intro pc
  have e : decide ((jy 181).name = "<init>") = false := by decide +kernel
  rw [e]
  exact cm_181 pc
theorem ca_182 : ∀ a : Nat, a < 182 → jckM a := lt_s (p := jckM) ca_181 cv_181
theorem cv_182 : jckM 182 := by
  intro pc
  have e : decide ((jy 182).name = "<init>") = false := by decide +kernel
  rw [e]
  exact cm_182 pc
theorem ca_183 : ∀ a : Nat, a < 183 → jckM a := lt_s (p := jckM) ca_182 cv_182
theorem cv_183 : jckM 183 := by
  intro pc
  have e : decide ((jy 183).name = "<init>") = false := by decide +kernel
  rw [e]
  exact cm_183 pc
theorem ca_184 : ∀ a : Nat, a < 184 → jckM a := lt_s (p := jckM) ca_183 cv_183
theorem cv_184 : jckM 184 := by
  intro pc
  have e : decide ((jy 184).name = "<init>") = false := by decide +kernel
  rw [e]
  exact cm_184 pc
theorem ca_185 : ∀ a : Nat, a < 185 → jckM a := lt_s (p := jckM) ca_184 cv_184
theorem cv_185 : jckM 185 := by
  intro pc
  have e : decide ((jy 185).name = "<init>") = false := by decide +kernel
  rw [e]
  exact cm_185 pc
theorem ca_186 : ∀ a : Nat, a < 186 → jckM a := lt_s (p := jckM) ca_185 cv_185
theorem cv_186 : jckM 186 := by
  intro pc
  have e : decide ((jy 186).name = "<init>") = true := by decide +kernel
  rw [e]
  exact cm_186 pc
theorem ca_187 : ∀ a : Nat, a < 187 → jckM a := lt_s (p := jckM) ca_186 cv_186
theorem cv_187 : jckM 187 := by
  intro pc
  have e : decide ((jy 187).name = "<init>") = false := by decide +kernel
  rw [e]
  exact cm_187 pc
theorem ca_188 : ∀ a : Nat, a < 188 → jckM a := lt_s (p := jckM) ca_187 cv_187
theorem cv_188 : jckM 188 := by
  intro pc
  have e : decide ((jy 188).name = "<init>") = false := by decide +kernel
  rw [e]
  exact cm_188 pc
theorem ca_189 : ∀ a : Nat, a < 189 → jckM a := lt_s (p := jckM) ca_188 cv_188
theorem cv_189 : jckM 189 := by
  intro pc
  have e : decide ((jy 189).name = "<init>") = false := by decide +kernel
  rw [e]
  exact cm_189 pc
theorem ca_190 : ∀ a : Nat, a < 190 → jckM a := lt_s (p := jckM) ca_189 cv_189
theorem cv_190 : jckM 190 := by
  intro pc
  have e : decide ((jy 190).name = "<init>") = false := by decide +kernel
  rw [e]
  exact cm_190 pc
theorem ca_191 : ∀ a : Nat, a < 191 → jckM a := lt_s (p := jckM) ca_190 cv_190
theorem cv_191 : jckM 191 := by
  intro pc
  have e : decide ((jy 191).name = "<init>") = false := by decide +kernel
  rw [e]
  exact cm_191 pc
theorem ca_192 : ∀ a : Nat, a < 192 → jckM a := lt_s (p := jckM) ca_191 cv_191
theorem cv_192 : jckM 192 := by
  intro pc
  have e : decide ((jy 192).name = "<init>") = false := by decide +kernel
  rw [e]
  exact cm_192 pc
theorem ca_193 : ∀ a : Nat, a < 193 → jckM a := lt_s (p := jckM) ca_192 cv_192
theorem cv_193 : jckM 193 := by
  intro pc
  have e : decide ((jy 193).name = "<init>") = false := by decide +kernel
  rw [e]
  exact cm_193 pc
theorem ca_194 : ∀ a : Nat, a < 194 → jckM a := lt_s (p := jckM) ca_193 cv_193
theorem cv_194 : jckM 194 := by
  intro pc
  have e : decide ((jy 194).name = "<init>") = false := by decide +kernel
  rw [e]
  exact cm_194 pc
theorem ca_195 : ∀ a : Nat, a < 195 → jckM a := lt_s (p := jckM) ca_194 cv_194
theorem cv_195 : jckM 195 := by
  intro pc
  have e : decide ((jy 195).name = "<init>") = false := by decide +kernel
  rw [e]
  exact cm_195 pc
theorem ca_196 : ∀ a : Nat, a < 196 → jckM a := lt_s (p := jckM) ca_195 cv_195
theorem cv_196 : jckM 196 := by
  intro pc
  have e : decide ((jy 196).name = "<init>") = false := by decide +kernel
  rw [e]
  exact cm_196 pc
theorem ca_197 : ∀ a : Nat, a < 197 → jckM a := lt_s (p := jckM) ca_196 cv_196
theorem cv_197 : jckM 197 := by
  intro pc
  have e : decide ((jy 197).name = "<init>") = false := by decide +kernel
  rw [e]
  exact cm_197 pc
theorem ca_198 : ∀ a : Nat, a < 198 → jckM a := lt_s (p := jckM) ca_197 cv_197
theorem cv_198 : jckM 198 := by
  intro pc
  have e : decide ((jy 198).name = "<init>") = false := by decide +kernel
  rw [e]
  exact cm_198 pc
theorem ca_199 : ∀ a : Nat, a < 199 → jckM a := lt_s (p := jckM) ca_198 cv_198
theorem cv_199 : jckM 199 := by
  intro pc
  have e : decide ((jy 199).name = "<init>") = false := by decide +kernel
  rw [e]
  exact cm_199 pc
theorem ca_200 : ∀ a : Nat, a < 200 → jckM a := lt_s (p := jckM) ca_199 cv_199
theorem cv_200 : jckM 200 := by
  intro pc
  have e : decide ((jy 200).name = "<init>") = false := by decide +kernel
  rw [e]
  exact cm_200 pc
theorem ca_201 : ∀ a : Nat, a < 201 → jckM a := lt_s (p := jckM) ca_200 cv_200
theorem cv_201 : jckM 201 := by
  intro pc
  have e : decide ((jy 201).name = "<init>") = false := by decide +kernel
  rw [e]
  exact cm_201 pc
theorem ca_202 : ∀ a : Nat, a < 202 → jckM a := lt_s (p := jckM) ca_201 cv_201
theorem cv_202 : jckM 202 := by
  intro pc
  have e : decide ((jy 202).name = "<init>") = false := by decide +kernel
  rw [e]
  exact cm_202 pc
theorem ca_203 : ∀ a : Nat, a < 203 → jckM a := lt_s (p := jckM) ca_202 cv_202
theorem cv_203 : jckM 203 := by
  intro pc
  have e : decide ((jy 203).name = "<init>") = false := by decide +kernel
  rw [e]
  exact cm_203 pc
theorem ca_204 : ∀ a : Nat, a < 204 → jckM a := lt_s (p := jckM) ca_203 cv_203
theorem cv_204 : jckM 204 := by
  intro pc
  have e : decide ((jy 204).name = "<init>") = false := by decide +kernel
  rw [e]
  exact cm_204 pc
theorem ca_205 : ∀ a : Nat, a < 205 → jckM a := lt_s (p := jckM) ca_204 cv_204
theorem cv_205 : jckM 205 := by
  intro pc
  have e : decide ((jy 205).name = "<init>") = false := by decide +kernel
  rw [e]
  exact cm_205 pc
theorem ca_206 : ∀ a : Nat, a < 206 → jckM a := lt_s (p := jckM) ca_205 cv_205
theorem cv_206 : jckM 206 := by
  intro pc
  have e : decide ((jy 206).name = "<init>") = false := by decide +kernel
  rw [e]
  exact cm_206 pc
theorem ca_207 : ∀ a : Nat, a < 207 → jckM a := lt_s (p := jckM) ca_206 cv_206
theorem cv_207 : jckM 207 := by
  intro pc
  have e : decide ((jy 207).name = "<init>") = false := by decide +kernel
  rw [e]
  exact cm_207 pc
theorem ca_208 : ∀ a : Nat, a < 208 → jckM a := lt_s (p := jckM) ca_207 cv_207
theorem cv_208 : jckM 208 := by
  intro pc
  have e : decide ((jy 208).name = "<init>") = false := by decide +kernel
  rw [e]
  exact cm_208 pc
theorem ca_209 : ∀ a : Nat, a < 209 → jckM a := lt_s (p := jckM) ca_208 cv_208
theorem cv_209 : jckM 209 := by
  intro pc
  have e : decide ((jy 209).name = "<init>") = false := by decide +kernel
  rw [e]
  exact cm_209 pc
theorem ca_210 : ∀ a : Nat, a < 210 → jckM a := lt_s (p := jckM) ca_209 cv_209
theorem cv_210 : jckM 210 := by
  intro pc
  have e : decide ((jy 210).name = "<init>") = false := by decide +kernel
  rw [e]
  exact cm_210 pc
theorem ca_211 : ∀ a : Nat, a < 211 → jckM a := lt_s (p := jckM) ca_210 cv_210
theorem cv_211 : jckM 211 := by
  intro pc
  have e : decide ((jy 211).name = "<init>") = false := by decide +kernel
  rw [e]
  exact cm_211 pc
theorem ca_212 : ∀ a : Nat, a < 212 → jckM a := lt_s (p := jckM) ca_211 cv_211
theorem cv_212 : jckM 212 := by
  intro pc
  have e : decide ((jy 212).name = "<init>") = false := by decide +kernel
  rw [e]
  exact cm_212 pc
theorem ca_213 : ∀ a : Nat, a < 213 → jckM a := lt_s (p := jckM) ca_212 cv_212
theorem cv_213 : jckM 213 := by
  intro pc
  have e : decide ((jy 213).name = "<init>") = false := by decide +kernel
  rw [e]
  exact cm_213 pc
theorem ca_214 : ∀ a : Nat, a < 214 → jckM a := lt_s (p := jckM) ca_213 cv_213
theorem cv_214 : jckM 214 := by
  intro pc
  have e : decide ((jy 214).name = "<init>") = false := by decide +kernel
  rw [e]
  exact cm_214 pc
theorem ca_215 : ∀ a : Nat, a < 215 → jckM a := lt_s (p := jckM) ca_214 cv_214
theorem cv_215 : jckM 215 := by
  intro pc
  have e : decide ((jy 215).name = "<init>") = false := by decide +kernel
  rw [e]
  exact cm_215 pc
theorem ca_216 : ∀ a : Nat, a < 216 → jckM a := lt_s (p := jckM) ca_215 cv_215
theorem cv_216 : jckM 216 := by
  intro pc
  have e : decide ((jy 216).name = "<init>") = false := by decide +kernel
  rw [e]
  exact cm_216 pc
theorem ca_217 : ∀ a : Nat, a < 217 → jckM a := lt_s (p := jckM) ca_216 cv_216
theorem cv_217 : jckM 217 := by
  intro pc
  have e : decide ((jy 217).name = "<init>") = false := by decide +kernel
  rw [e]
  exact cm_217 pc
theorem ca_218 : ∀ a : Nat, a < 218 → jckM a := lt_s (p := jckM) ca_217 cv_217
theorem cv_218 : jckM 218 := by
  intro pc
  have e : decide ((jy 218).name = "<init>") = false := by decide +kernel
  rw [e]
  exact cm_218 pc
theorem ca_219 : ∀ a : Nat, a < 219 → jckM a := lt_s (p := jckM) ca_218 cv_218
theorem cv_219 : jckM 219 := by
  intro pc
  have e : decide ((jy 219).name = "<init>") = false := by decide +kernel
  rw [e]
  exact cm_219 pc
theorem ca_220 : ∀ a : Nat, a < 220 → jckM a := lt_s (p := jckM) ca_219 cv_219
theorem cv_220 : jckM 220 := by
  intro pc
  have e : decide ((jy 220).name = "<init>") = false := by decide +kernel
  rw [e]
  exact cm_220 pc
theorem ca_221 : ∀ a : Nat, a < 221 → jckM a := lt_s (p := jckM) ca_220 cv_220
theorem cv_221 : jckM 221 := by
  intro pc
  have e : decide ((jy 221).name = "<init>") = false := by decide +kernel
  rw [e]
  exact cm_221 pc
theorem ca_222 : ∀ a : Nat, a < 222 → jckM a := lt_s (p := jckM) ca_221 cv_221
theorem cv_222 : jckM 222 := by
  intro pc
  have e : decide ((jy 222).name = "<init>") = false := by decide +kernel
  rw [e]
  exact cm_222 pc
theorem ca_223 : ∀ a : Nat, a < 223 → jckM a := lt_s (p := jckM) ca_222 cv_222
theorem cv_223 : jckM 223 := by
  intro pc
  have e : decide ((jy 223).name = "<init>") = false := by decide +kernel
  rw [e]
  exact cm_223 pc
theorem ca_224 : ∀ a : Nat, a < 224 → jckM a := lt_s (p := jckM) ca_223 cv_223
theorem cv_224 : jckM 224 := by
  intro pc
  have e : decide ((jy 224).name = "<init>") = false := by decide +kernel
  rw [e]
  exact cm_224 pc
theorem ca_225 : ∀ a : Nat, a < 225 → jckM a := lt_s (p := jckM) ca_224 cv_224
theorem cv_225 : jckM 225 := by
  intro pc
  have e : decide ((jy 225).name = "<init>") = false := by decide +kernel
  rw [e]
  exact cm_225 pc
theorem ca_226 : ∀ a : Nat, a < 226 → jckM a := lt_s (p := jckM) ca_225 cv_225
theorem cv_226 : jckM 226 := by
  intro pc
  have e : decide ((jy 226).name = "<init>") = false := by decide +kernel
  rw [e]
  exact cm_226 pc
theorem ca_227 : ∀ a : Nat, a < 227 → jckM a := lt_s (p := jckM) ca_226 cv_226
theorem cv_227 : jckM 227 := by
  intro pc
  have e : decide ((jy 227).name = "<init>") = false := by decide +kernel
  rw [e]
  exact cm_227 pc
theorem ca_228 : ∀ a : Nat, a < 228 → jckM a := lt_s (p := jckM) ca_227 cv_227
theorem cv_228 : jckM 228 := by
  intro pc
  have e : decide ((jy 228).name = "<init>") = false := by decide +kernel
  rw [e]
  exact cm_228 pc
theorem ca_229 : ∀ a : Nat, a < 229 → jckM a := lt_s (p := jckM) ca_228 cv_228
theorem cv_229 : jckM 229 := by
  intro pc
  have e : decide ((jy 229).name = "<init>") = false := by decide +kernel
  rw [e]
  exact cm_229 pc
theorem ca_230 : ∀ a : Nat, a < 230 → jckM a := lt_s (p := jckM) ca_229 cv_229
theorem cv_230 : jckM 230 := by
  intro pc
  have e : decide ((jy 230).name = "<init>") = false := by decide +kernel
  rw [e]
  exact cm_230 pc
theorem ca_231 : ∀ a : Nat, a < 231 → jckM a := lt_s (p := jckM) ca_230 cv_230
theorem cv_231 : jckM 231 := by
  intro pc
  have e : decide ((jy 231).name = "<init>") = false := by decide +kernel
  rw [e]
  exact cm_231 pc
theorem ca_232 : ∀ a : Nat, a < 232 → jckM a := lt_s (p := jckM) ca_231 cv_231
theorem cv_232 : jckM 232 := by
  intro pc
  have e : decide ((jy 232).name = "<init>") = false := by decide +kernel
  rw [e]
  exact cm_232 pc
theorem ca_233 : ∀ a : Nat, a < 233 → jckM a := lt_s (p := jckM) ca_232 cv_232
theorem cv_233 : jckM 233 := by
  intro pc
  have e : decide ((jy 233).name = "<init>") = false := by decide +kernel
  rw [e]
  exact cm_233 pc
theorem ca_234 : ∀ a : Nat, a < 234 → jckM a := lt_s (p := jckM) ca_233 cv_233
theorem cv_234 : jckM 234 := by
  intro pc
  have e : decide ((jy 234).name = "<init>") = false := by decide +kernel
  rw [e]
  exact cm_234 pc
theorem ca_235 : ∀ a : Nat, a < 235 → jckM a := lt_s (p := jckM) ca_234 cv_234
theorem cv_235 : jckM 235 := by
  intro pc
  have e : decide ((jy 235).name = "<init>") = false := by decide +kernel
  rw [e]
  exact cm_235 pc
theorem ca_236 : ∀ a : Nat, a < 236 → jckM a := lt_s (p := jckM) ca_235 cv_235
theorem cv_236 : jckM 236 := by
  intro pc
  have e : decide ((jy 236).name = "<init>") = false := by decide +kernel
  rw [e]
  exact cm_236 pc
theorem ca_237 : ∀ a : Nat, a < 237 → jckM a := lt_s (p := jckM) ca_236 cv_236
theorem cv_237 : jckM 237 := by
  intro pc
  have e : decide ((jy 237).name = "<init>") = false := by decide +kernel
  rw [e]
  exact cm_237 pc
theorem ca_238 : ∀ a : Nat, a < 238 → jckM a := lt_s (p := jckM) ca_237 cv_237
theorem cv_238 : jckM 238 := by
  intro pc
  have e : decide ((jy 238).name = "<init>") = false := by decide +kernel
  rw [e]
  exact cm_238 pc
theorem ca_239 : ∀ a : Nat, a < 239 → jckM a := lt_s (p := jckM) ca_238 cv_238
theorem cv_239 : jckM 239 := by
  intro pc
  have e : decide ((jy 239).name = "<init>") = false := by decide +kernel
  rw [e]
  exact cm_239 pc
theorem ca_240 : ∀ a : Nat, a < 240 → jckM a := lt_s (p := jckM) ca_239 cv_239
theorem cv_240 : jckM 240 := by
  intro pc
  have e : decide ((jy 240).name = "<init>") = false := by decide +kernel
  rw [e]
  exact cm_240 pc
theorem ca_241 : ∀ a : Nat, a < 241 → jckM a := lt_s (p := jckM) ca_240 cv_240
theorem cv_241 : jckM 241 := by
  intro pc
  have e : decide ((jy 241).name = "<init>") = false := by decide +kernel
  rw [e]
  exact cm_241 pc
theorem ca_242 : ∀ a : Nat, a < 242 → jckM a := lt_s (p := jckM) ca_241 cv_241
theorem cv_242 : jckM 242 := by
  intro pc
  have e : decide ((jy 242).name = "<init>") = false := by decide +kernel
  rw [e]
  exact cm_242 pc
theorem ca_243 : ∀ a : Nat, a < 243 → jckM a := lt_s (p := jckM) ca_242 cv_242
theorem cv_243 : jckM 243 := by
  intro pc
  have e : decide ((jy 243).name = "<init>") = false := by decide +kernel
  rw [e]
  exact cm_243 pc
theorem ca_244 : ∀ a : Nat, a < 244 → jckM a := lt_s (p := jckM) ca_243 cv_243
theorem cv_244 : jckM 244 := by
  intro pc
  have e : decide ((jy 244).name = "<init>") = false := by decide +kernel
  rw [e]
  exact cm_244 pc
theorem ca_245 : ∀ a : Nat, a < 245 → jckM a := lt_s (p := jckM) ca_244 cv_244
theorem cv_245 : jckM 245 := by
  intro pc
  have e : decide ((jy 245).name = "<init>") = false := by decide +kernel
  rw [e]
  exact cm_245 pc
theorem ca_246 : ∀ a : Nat, a < 246 → jckM a := lt_s (p := jckM) ca_245 cv_245
theorem cv_246 : jckM 246 := by
  intro pc
  have e : decide ((jy 246).name = "<init>") = false := by decide +kernel
  rw [e]
  exact cm_246 pc
theorem ca_247 : ∀ a : Nat, a < 247 → jckM a := lt_s (p := jckM) ca_246 cv_246
theorem cv_247 : jckM 247 := by
  intro pc
  have e : decide ((jy 247).name = "<init>") = false := by decide +kernel
  rw [e]
  exact cm_247 pc
theorem ca_248 : ∀ a : Nat, a < 248 → jckM a := lt_s (p := jckM) ca_247 cv_247
theorem cv_248 : jckM 248 := by
  intro pc
  have e : decide ((jy 248).name = "<init>") = false := by decide +kernel
  rw [e]
  exact cm_248 pc
theorem ca_249 : ∀ a : Nat, a < 249 → jckM a := lt_s (p := jckM) ca_248 cv_248
theorem cv_249 : jckM 249 := by
  intro pc
  have e : decide ((jy 249).name = "<init>") = false := by decide +kernel
  rw [e]
  exact cm_249 pc
theorem ca_250 : ∀ a : Nat, a < 250 → jckM a := lt_s (p := jckM) ca_249 cv_249
theorem cv_250 : jckM 250 := by
  intro pc
  have e : decide ((jy 250).name = "<init>") = false := by decide +kernel
  rw [e]
  exact cm_250 pc
theorem ca_251 : ∀ a : Nat, a < 251 → jckM a := lt_s (p := jckM) ca_250 cv_250
theorem cv_251 : jckM 251 := by
  intro pc
  have e : decide ((jy 251).name = "<init>") = false := by decide +kernel
  rw [e]
  exact cm_251 pc
theorem ca_252 : ∀ a : Nat, a < 252 → jckM a := lt_s (p := jckM) ca_251 cv_251
theorem cv_252 : jckM 252 := by
  intro pc
  have e : decide ((jy 252).name = "<init>") = false := by decide +kernel
  rw [e]
  exact cm_252 pc
theorem ca_253 : ∀ a : Nat, a < 253 → jckM a := lt_s (p := jckM) ca_252 cv_252
theorem cv_253 : jckM 253 := by
  intro pc
  have e : decide ((jy 253).name = "<init>") = false := by decide +kernel
  rw [e]
  exact cm_253 pc
theorem ca_254 : ∀ a : Nat, a < 254 → jckM a := lt_s (p := jckM) ca_253 cv_253
theorem cv_254 : jckM 254 := by
  intro pc
  have e : decide ((jy 254).name = "<init>") = false := by decide +kernel
  rw [e]
  exact cm_254 pc
theorem ca_255 : ∀ a : Nat, a < 255 → jckM a := lt_s (p := jckM) ca_254 cv_254
theorem cv_255 : jckM 255 := by
  intro pc
  have e : decide ((jy 255).name = "<init>") = false := by decide +kernel
  rw [e]
  exact cm_255 pc
theorem ca_256 : ∀ a : Nat, a < 256 → jckM a := lt_s (p := jckM) ca_255 cv_255
theorem cv_256 : jckM 256 := by
  intro pc
  have e : decide ((jy 256).name = "<init>") = false := by decide +kernel
  rw [e]
  exact cm_256 pc
theorem ca_257 : ∀ a : Nat, a < 257 → jckM a := lt_s (p := jckM) ca_256 cv_256
theorem cv_257 : jckM 257 := by
  intro pc
  have e : decide ((jy 257).name = "<init>") = false := by decide +kernel
  rw [e]
  exact cm_257 pc
theorem ca_258 : ∀ a : Nat, a < 258 → jckM a := lt_s (p := jckM) ca_257 cv_257
theorem cv_258 : jckM 258 := by
  intro pc
  have e : decide ((jy 258).name = "<init>") = false := by decide +kernel
  rw [e]
  exact cm_258 pc
theorem ca_259 : ∀ a : Nat, a < 259 → jckM a := lt_s (p := jckM) ca_258 cv_258
theorem cv_259 : jckM 259 := by
  intro pc
  have e : decide ((jy 259).name = "<init>") = false := by decide +kernel
  rw [e]
  exact cm_259 pc
theorem ca_260 : ∀ a : Nat, a < 260 → jckM a := lt_s (p := jckM) ca_259 cv_259
theorem cv_260 : jckM 260 := by
  intro pc
  have e : decide ((jy 260).name = "<init>") = false := by decide +kernel
  rw [e]
  exact cm_260 pc
theorem ca_261 : ∀ a : Nat, a < 261 → jckM a := lt_s (p := jckM) ca_260 cv_260
theorem cv_261 : jckM 261 := by
  intro pc
  have e : decide ((jy 261).name = "<init>") = false := by decide +kernel
  rw [e]
  exact cm_261 pc
theorem ca_262 : ∀ a : Nat, a < 262 → jckM a := lt_s (p := jckM) ca_261 cv_261
theorem cv_262 : jckM 262 := by
  intro pc
  have e : decide ((jy 262).name = "<init>") = false := by decide +kernel
  rw [e]
  exact cm_262 pc
theorem ca_263 : ∀ a : Nat, a < 263 → jckM a := lt_s (p := jckM) ca_262 cv_262
theorem cv_263 : jckM 263 := by
  intro pc
  have e : decide ((jy 263).name = "<init>") = false := by decide +kernel
  rw [e]
  exact cm_263 pc
theorem ca_264 : ∀ a : Nat, a < 264 → jckM a := lt_s (p := jckM) ca_263 cv_263
theorem cv_264 : jckM 264 := by
  intro pc
  have e : decide ((jy 264).name = "<init>") = false := by decide +kernel
  rw [e]
  exact cm_264 pc
theorem ca_265 : ∀ a : Nat, a < 265 → jckM a := lt_s (p := jckM) ca_264 cv_264
theorem cv_265 : jckM 265 := by
  intro pc
  have e : decide ((jy 265).name = "<init>") = false := by decide +kernel
  rw [e]
  exact cm_265 pc
theorem ca_266 : ∀ a : Nat, a < 266 → jckM a := lt_s (p := jckM) ca_265 cv_265
theorem cv_266 : jckM 266 := by
  intro pc
  have e : decide ((jy 266).name = "<init>") = false := by decide +kernel
  rw [e]
  exact cm_266 pc
theorem ca_267 : ∀ a : Nat, a < 267 → jckM a := lt_s (p := jckM) ca_266 cv_266
theorem cv_267 : jckM 267 := by
  intro pc
  have e : decide ((jy 267).name = "<init>") = false := by decide +kernel
  rw [e]
  exact cm_267 pc
theorem ca_268 : ∀ a : Nat, a < 268 → jckM a := lt_s (p := jckM) ca_267 cv_267
theorem cv_268 : jckM 268 := by
  intro pc
  have e : decide ((jy 268).name = "<init>") = false := by decide +kernel
  rw [e]
  exact cm_268 pc
theorem ca_269 : ∀ a : Nat, a < 269 → jckM a := lt_s (p := jckM) ca_268 cv_268
theorem cv_269 : jckM 269 := by
  intro pc
  have e : decide ((jy 269).name = "<init>") = false := by decide +kernel
  rw [e]
  exact cm_269 pc
theorem ca_270 : ∀ a : Nat, a < 270 → jckM a := lt_s (p := jckM) ca_269 cv_269
theorem cv_270 : jckM 270 := by
  intro pc
  have e : decide ((jy 270).name = "<init>") = false := by decide +kernel
  rw [e]
  exact cm_270 pc
theorem ca_271 : ∀ a : Nat, a < 271 → jckM a := lt_s (p := jckM) ca_270 cv_270
theorem cv_271 : jckM 271 := by
  intro pc
  have e : decide ((jy 271).name = "<init>") = false := by decide +kernel
  rw [e]
  exact cm_271 pc
theorem ca_272 : ∀ a : Nat, a < 272 → jckM a := lt_s (p := jckM) ca_271 cv_271
theorem cv_272 : jckM 272 := by
  intro pc
  have e : decide ((jy 272).name = "<init>") = false := by decide +kernel
  rw [e]
  exact cm_272 pc
theorem ca_273 : ∀ a : Nat, a < 273 → jckM a := lt_s (p := jckM) ca_272 cv_272
theorem cv_273 : jckM 273 := by
  intro pc
  have e : decide ((jy 273).name = "<init>") = false := by decide +kernel
  rw [e]
  exact cm_273 pc
theorem ca_274 : ∀ a : Nat, a < 274 → jckM a := lt_s (p := jckM) ca_273 cv_273
theorem cv_274 : jckM 274 := by
  intro pc
  have e : decide ((jy 274).name = "<init>") = false := by decide +kernel
  rw [e]
  exact cm_274 pc
theorem ca_275 : ∀ a : Nat, a < 275 → jckM a := lt_s (p := jckM) ca_274 cv_274
theorem cv_275 : jckM 275 := by
  intro pc
  have e : decide ((jy 275).name = "<init>") = false := by decide +kernel
  rw [e]
  exact cm_275 pc
theorem ca_276 : ∀ a : Nat, a < 276 → jckM a := lt_s (p := jckM) ca_275 cv_275
theorem cv_276 : jckM 276 := by
  intro pc
  have e : decide ((jy 276).name = "<init>") = false := by decide +kernel
  rw [e]
  exact cm_276 pc
theorem ca_277 : ∀ a : Nat, a < 277 → jckM a := lt_s (p := jckM) ca_276 cv_276
theorem cv_277 : jckM 277 := by
  intro pc
  have e : decide ((jy 277).name = "<init>") = false := by decide +kernel
  rw [e]
  exact cm_277 pc
theorem ca_278 : ∀ a : Nat, a < 278 → jckM a := lt_s (p := jckM) ca_277 cv_277
theorem cv_278 : jckM 278 := by
  intro pc
  have e : decide ((jy 278).name = "<init>") = false := by decide +kernel
  rw [e]
  exact cm_278 pc
theorem ca_279 : ∀ a : Nat, a < 279 → jckM a := lt_s (p := jckM) ca_278 cv_278
theorem cv_279 : jckM 279 := by
  intro pc
  have e : decide ((jy 279).name = "<init>") = false := by decide +kernel
  rw [e]
  exact cm_279 pc
theorem ca_280 : ∀ a : Nat, a < 280 → jckM a := lt_s (p := jckM) ca_279 cv_279
theorem cv_280 : jckM 280 := by
  intro pc
  have e : decide ((jy 280).name = "<init>") = false := by decide +kernel
  rw [e]
  exact cm_280 pc
theorem ca_281 : ∀ a : Nat, a < 281 → jckM a := lt_s (p := jckM) ca_280 cv_280
theorem cv_281 : jckM 281 := by
  intro pc
  have e : decide ((jy 281).name = "<init>") = false := by decide +kernel
  rw [e]
  exact cm_281 pc
theorem ca_282 : ∀ a : Nat, a < 282 → jckM a := lt_s (p := jckM) ca_281 cv_281
theorem cv_282 : jckM 282 := by
  intro pc
  have e : decide ((jy 282).name = "<init>") = false := by decide +kernel
  rw [e]
  exact cm_282 pc
theorem ca_283 : ∀ a : Nat, a < 283 → jckM a := lt_s (p := jckM) ca_282 cv_282
theorem cv_283 : jckM 283 := by
  intro pc
  have e : decide ((jy 283).name = "<init>") = false := by decide +kernel
  rw [e]
  exact cm_283 pc
theorem ca_284 : ∀ a : Nat, a < 284 → jckM a := lt_s (p := jckM) ca_283 cv_283
theorem cv_284 : jckM 284 := by
  intro pc
  have e : decide ((jy 284).name = "<init>") = false := by decide +kernel
  rw [e]
  exact cm_284 pc
theorem ca_285 : ∀ a : Nat, a < 285 → jckM a := lt_s (p := jckM) ca_284 cv_284
theorem cv_285 : jckM 285 := by
  intro pc
  have e : decide ((jy 285).name = "<init>") = false := by decide +kernel
  rw [e]
  exact cm_285 pc
theorem ca_286 : ∀ a : Nat, a < 286 → jckM a := lt_s (p := jckM) ca_285 cv_285
theorem cv_286 : jckM 286 := by
  intro pc
  have e : decide ((jy 286).name = "<init>") = false := by decide +kernel
  rw [e]
  exact cm_286 pc
theorem ca_287 : ∀ a : Nat, a < 287 → jckM a := lt_s (p := jckM) ca_286 cv_286
theorem cv_287 : jckM 287 := by
  intro pc
  have e : decide ((jy 287).name = "<init>") = false := by decide +kernel
  rw [e]
  exact cm_287 pc
theorem ca_288 : ∀ a : Nat, a < 288 → jckM a := lt_s (p := jckM) ca_287 cv_287
theorem cv_288 : jckM 288 := by
  intro pc
  have e : decide ((jy 288).name = "<init>") = false := by decide +kernel
  rw [e]
  exact cm_288 pc
theorem ca_289 : ∀ a : Nat, a < 289 → jckM a := lt_s (p := jckM) ca_288 cv_288
theorem cv_289 : jckM 289 := by
  intro pc
  have e : decide ((jy 289).name = "<init>") = false := by decide +kernel
  rw [e]
  exact cm_289 pc
theorem ca_290 : ∀ a : Nat, a < 290 → jckM a := lt_s (p := jckM) ca_289 cv_289
theorem cv_290 : jckM 290 := by
  intro pc
  have e : decide ((jy 290).name = "<init>") = false := by decide +kernel
  rw [e]
  exact cm_290 pc
theorem ca_291 : ∀ a : Nat, a < 291 → jckM a := lt_s (p := jckM) ca_290 cv_290
theorem cv_291 : jckM 291 := by
  intro pc
  have e : decide ((jy 291).name = "<init>") = false := by decide +kernel
  rw [e]
  exact cm_291 pc
theorem ca_292 : ∀ a : Nat, a < 292 → jckM a := lt_s (p := jckM) ca_291 cv_291
theorem cv_292 : jckM 292 := by
  intro pc
  have e : decide ((jy 292).name = "<init>") = false := by decide +kernel
  rw [e]
  exact cm_292 pc
theorem ca_293 : ∀ a : Nat, a < 293 → jckM a := lt_s (p := jckM) ca_292 cv_292
theorem cv_293 : jckM 293 := by
  intro pc
  have e : decide ((jy 293).name = "<init>") = false := by decide +kernel
  rw [e]
  exact cm_293 pc
theorem ca_294 : ∀ a : Nat, a < 294 → jckM a := lt_s (p := jckM) ca_293 cv_293
theorem cv_294 : jckM 294 := by
  intro pc
  have e : decide ((jy 294).name = "<init>") = false := by decide +kernel
  rw [e]
  exact cm_294 pc
theorem ca_295 : ∀ a : Nat, a < 295 → jckM a := lt_s (p := jckM) ca_294 cv_294
theorem cv_295 : jckM 295 := by
  intro pc
  have e : decide ((jy 295).name = "<init>") = false := by decide +kernel
  rw [e]
  exact cm_295 pc
theorem ca_296 : ∀ a : Nat, a < 296 → jckM a := lt_s (p := jckM) ca_295 cv_295
theorem cv_296 : jckM 296 := by
  intro pc
  have e : decide ((jy 296).name = "<init>") = false := by decide +kernel
  rw [e]
  exact cm_296 pc
theorem ca_297 : ∀ a : Nat, a < 297 → jckM a := lt_s (p := jckM) ca_296 cv_296
theorem cv_297 : jckM 297 := by
  intro pc
  have e : decide ((jy 297).name = "<init>") = false := by decide +kernel
  rw [e]
  exact cm_297 pc
theorem ca_298 : ∀ a : Nat, a < 298 → jckM a := lt_s (p := jckM) ca_297 cv_297
theorem cv_298 : jckM 298 := by
  intro pc
  have e : decide ((jy 298).name = "<init>") = false := by decide +kernel
  rw [e]
  exact cm_298 pc
theorem ca_299 : ∀ a : Nat, a < 299 → jckM a := lt_s (p := jckM) ca_298 cv_298
theorem cv_299 : jckM 299 := by
  intro pc
  have e : decide ((jy 299).name = "<init>") = false := by decide +kernel
  rw [e]
  exact cm_299 pc
theorem ca_300 : ∀ a : Nat, a < 300 → jckM a := lt_s (p := jckM) ca_299 cv_299
theorem cv_300 : jckM 300 := by
  intro pc
  have e : decide ((jy 300).name = "<init>") = false := by decide +kernel
  rw [e]
  exact cm_300 pc
theorem ca_301 : ∀ a : Nat, a < 301 → jckM a := lt_s (p := jckM) ca_300 cv_300
theorem cv_301 : jckM 301 := by
  intro pc
  have e : decide ((jy 301).name = "<init>") = false := by decide +kernel
  rw [e]
  exact cm_301 pc
theorem ca_302 : ∀ a : Nat, a < 302 → jckM a := lt_s (p := jckM) ca_301 cv_301
theorem cv_302 : jckM 302 := by
  intro pc
  have e : decide ((jy 302).name = "<init>") = false := by decide +kernel
  rw [e]
  exact cm_302 pc
theorem ca_303 : ∀ a : Nat, a < 303 → jckM a := lt_s (p := jckM) ca_302 cv_302
theorem cv_303 : jckM 303 := by
  intro pc
  have e : decide ((jy 303).name = "<init>") = false := by decide +kernel
  rw [e]
  exact cm_303 pc
theorem ca_304 : ∀ a : Nat, a < 304 → jckM a := lt_s (p := jckM) ca_303 cv_303
theorem cv_304 : jckM 304 := by
  intro pc
  have e : decide ((jy 304).name = "<init>") = false := by decide +kernel
  rw [e]
  exact cm_304 pc
theorem ca_305 : ∀ a : Nat, a < 305 → jckM a := lt_s (p := jckM) ca_304 cv_304
theorem cv_305 : jckM 305 := by
  intro pc
  have e : decide ((jy 305).name = "<init>") = false := by decide +kernel
  rw [e]
  exact cm_305 pc
theorem ca_306 : ∀ a : Nat, a < 306 → jckM a := lt_s (p := jckM) ca_305 cv_305
theorem cv_306 : jckM 306 := by
  intro pc
  have e : decide ((jy 306).name = "<init>") = false := by decide +kernel
  rw [e]
  exact cm_306 pc
theorem ca_307 : ∀ a : Nat, a < 307 → jckM a := lt_s (p := jckM) ca_306 cv_306
theorem cv_307 : jckM 307 := by
  intro pc
  have e : decide ((jy 307).name = "<init>") = false := by decide +kernel
  rw [e]
  exact cm_307 pc
theorem ca_308 : ∀ a : Nat, a < 308 → jckM a := lt_s (p := jckM) ca_307 cv_307
theorem cv_308 : jckM 308 := by
  intro pc
  have e : decide ((jy 308).name = "<init>") = false := by decide +kernel
  rw [e]
  exact cm_308 pc
theorem ca_309 : ∀ a : Nat, a < 309 → jckM a := lt_s (p := jckM) ca_308 cv_308
theorem cv_309 : jckM 309 := by
  intro pc
  have e : decide ((jy 309).name = "<init>") = false := by decide +kernel
  rw [e]
  exact cm_309 pc
theorem ca_310 : ∀ a : Nat, a < 310 → jckM a := lt_s (p := jckM) ca_309 cv_309
theorem cv_310 : jckM 310 := by
  intro pc
  have e : decide ((jy 310).name = "<init>") = false := by decide +kernel
  rw [e]
  exact cm_310 pc
theorem ca_311 : ∀ a : Nat, a < 311 → jckM a := lt_s (p := jckM) ca_310 cv_310
theorem cv_311 : jckM 311 := by
  intro pc
  have e : decide ((jy 311).name = "<init>") = false := by decide +kernel
  rw [e]
  exact cm_311 pc
theorem ca_312 : ∀ a : Nat, a < 312 → jckM a := lt_s (p := jckM) ca_311 cv_311
theorem cv_312 : jckM 312 := by
  intro pc
  have e : decide ((jy 312).name = "<init>") = false := by decide +kernel
  rw [e]
  exact cm_312 pc
theorem ca_313 : ∀ a : Nat, a < 313 → jckM a := lt_s (p := jckM) ca_312 cv_312
theorem cv_313 : jckM 313 := by
  intro pc
  have e : decide ((jy 313).name = "<init>") = false := by decide +kernel
  rw [e]
  exact cm_313 pc
theorem ca_314 : ∀ a : Nat, a < 314 → jckM a := lt_s (p := jckM) ca_313 cv_313
theorem cv_314 : jckM 314 := by
  intro pc
  have e : decide ((jy 314).name = "<init>") = false := by decide +kernel
  rw [e]
  exact cm_314 pc
theorem ca_315 : ∀ a : Nat, a < 315 → jckM a := lt_s (p := jckM) ca_314 cv_314
theorem cv_315 : jckM 315 := by
  intro pc
  have e : decide ((jy 315).name = "<init>") = false := by decide +kernel
  rw [e]
  exact cm_315 pc
theorem ca_316 : ∀ a : Nat, a < 316 → jckM a := lt_s (p := jckM) ca_315 cv_315
theorem cv_316 : jckM 316 := by
  intro pc
  have e : decide ((jy 316).name = "<init>") = false := by decide +kernel
  rw [e]
  exact cm_316 pc
theorem ca_317 : ∀ a : Nat, a < 317 → jckM a := lt_s (p := jckM) ca_316 cv_316
theorem cv_317 : jckM 317 := by
  intro pc
  have e : decide ((jy 317).name = "<init>") = false := by decide +kernel
  rw [e]
  exact cm_317 pc
theorem ca_318 : ∀ a : Nat, a < 318 → jckM a := lt_s (p := jckM) ca_317 cv_317
theorem cv_318 : jckM 318 := by
  intro pc
  have e : decide ((jy 318).name = "<init>") = false := by decide +kernel
  rw [e]
  exact cm_318 pc
theorem ca_319 : ∀ a : Nat, a < 319 → jckM a := lt_s (p := jckM) ca_318 cv_318
theorem cv_319 : jckM 319 := by
  intro pc
  have e : decide ((jy 319).name = "<init>") = false := by decide +kernel
  rw [e]
  exact cm_319 pc
theorem ca_320 : ∀ a : Nat, a < 320 → jckM a := lt_s (p := jckM) ca_319 cv_319
theorem cv_320 : jckM 320 := by
  intro pc
  have e : decide ((jy 320).name = "<init>") = false := by decide +kernel
  rw [e]
  exact cm_320 pc
theorem ca_321 : ∀ a : Nat, a < 321 → jckM a := lt_s (p := jckM) ca_320 cv_320
theorem cv_321 : jckM 321 := by
  intro pc
  have e : decide ((jy 321).name = "<init>") = false := by decide +kernel
  rw [e]
  exact cm_321 pc
theorem ca_322 : ∀ a : Nat, a < 322 → jckM a := lt_s (p := jckM) ca_321 cv_321
theorem cv_322 : jckM 322 := by
  intro pc
  have e : decide ((jy 322).name = "<init>") = false := by decide +kernel
  rw [e]
  exact cm_322 pc
theorem ca_323 : ∀ a : Nat, a < 323 → jckM a := lt_s (p := jckM) ca_322 cv_322
theorem cv_323 : jckM 323 := by
  intro pc
  have e : decide ((jy 323).name = "<init>") = false := by decide +kernel
  rw [e]
  exact cm_323 pc
theorem ca_324 : ∀ a : Nat, a < 324 → jckM a := lt_s (p := jckM) ca_323 cv_323
theorem cv_324 : jckM 324 := by
  intro pc
  have e : decide ((jy 324).name = "<init>") = false := by decide +kernel
  rw [e]
  exact cm_324 pc
theorem ca_325 : ∀ a : Nat, a < 325 → jckM a := lt_s (p := jckM) ca_324 cv_324
theorem cv_325 : jckM 325 := by
  intro pc
  have e : decide ((jy 325).name = "<init>") = false := by decide +kernel
  rw [e]
  exact cm_325 pc
theorem ca_326 : ∀ a : Nat, a < 326 → jckM a := lt_s (p := jckM) ca_325 cv_325
theorem cv_326 : jckM 326 := by
  intro pc
  have e : decide ((jy 326).name = "<init>") = false := by decide +kernel
  rw [e]
  exact cm_326 pc
theorem ca_327 : ∀ a : Nat, a < 327 → jckM a := lt_s (p := jckM) ca_326 cv_326
theorem cv_327 : jckM 327 := by
  intro pc
  have e : decide ((jy 327).name = "<init>") = false := by decide +kernel
  rw [e]
  exact cm_327 pc
theorem ca_328 : ∀ a : Nat, a < 328 → jckM a := lt_s (p := jckM) ca_327 cv_327
theorem cv_328 : jckM 328 := by
  intro pc
  have e : decide ((jy 328).name = "<init>") = false := by decide +kernel
  rw [e]
  exact cm_328 pc
theorem ca_329 : ∀ a : Nat, a < 329 → jckM a := lt_s (p := jckM) ca_328 cv_328
theorem cv_329 : jckM 329 := by
  intro pc
  have e : decide ((jy 329).name = "<init>") = false := by decide +kernel
  rw [e]
  exact cm_329 pc
theorem ca_330 : ∀ a : Nat, a < 330 → jckM a := lt_s (p := jckM) ca_329 cv_329
theorem cv_330 : jckM 330 := by
  intro pc
  have e : decide ((jy 330).name = "<init>") = false := by decide +kernel
  rw [e]
  exact cm_330 pc
theorem ca_331 : ∀ a : Nat, a < 331 → jckM a := lt_s (p := jckM) ca_330 cv_330
theorem cv_331 : jckM 331 := by
  intro pc
  have e : decide ((jy 331).name = "<init>") = false := by decide +kernel
  rw [e]
  exact cm_331 pc
theorem ca_332 : ∀ a : Nat, a < 332 → jckM a := lt_s (p := jckM) ca_331 cv_331
theorem cv_332 : jckM 332 := by
  intro pc
  have e : decide ((jy 332).name = "<init>") = false := by decide +kernel
  rw [e]
  exact cm_332 pc
theorem ca_333 : ∀ a : Nat, a < 333 → jckM a := lt_s (p := jckM) ca_332 cv_332
theorem cv_333 : jckM 333 := by
  intro pc
  have e : decide ((jy 333).name = "<init>") = false := by decide +kernel
  rw [e]
  exact cm_333 pc
theorem ca_334 : ∀ a : Nat, a < 334 → jckM a := lt_s (p := jckM) ca_333 cv_333
theorem cv_334 : jckM 334 := by
  intro pc
  have e : decide ((jy 334).name = "<init>") = false := by decide +kernel
  rw [e]
  exact cm_334 pc
theorem ca_335 : ∀ a : Nat, a < 335 → jckM a := lt_s (p := jckM) ca_334 cv_334
theorem cv_335 : jckM 335 := by
  intro pc
  have e : decide ((jy 335).name = "<init>") = false := by decide +kernel
  rw [e]
  exact cm_335 pc
theorem ca_336 : ∀ a : Nat, a < 336 → jckM a := lt_s (p := jckM) ca_335 cv_335
theorem cv_336 : jckM 336 := by
  intro pc
  have e : decide ((jy 336).name = "<init>") = false := by decide +kernel
  rw [e]
  exact cm_336 pc
theorem ca_337 : ∀ a : Nat, a < 337 → jckM a := lt_s (p := jckM) ca_336 cv_336
theorem cv_337 : jckM 337 := by
  intro pc
  have e : decide ((jy 337).name = "<init>") = false := by decide +kernel
  rw [e]
  exact cm_337 pc
theorem ca_338 : ∀ a : Nat, a < 338 → jckM a := lt_s (p := jckM) ca_337 cv_337
theorem cv_338 : jckM 338 := by
  intro pc
  have e : decide ((jy 338).name = "<init>") = false := by decide +kernel
  rw [e]
  exact cm_338 pc
theorem ca_339 : ∀ a : Nat, a < 339 → jckM a := lt_s (p := jckM) ca_338 cv_338
theorem cv_339 : jckM 339 := by
  intro pc
  have e : decide ((jy 339).name = "<init>") = false := by decide +kernel
  rw [e]
  exact cm_339 pc
theorem ca_340 : ∀ a : Nat, a < 340 → jckM a := lt_s (p := jckM) ca_339 cv_339
theorem cv_340 : jckM 340 := by
  intro pc
  have e : decide ((jy 340).name = "<init>") = false := by decide +kernel
  rw [e]
  exact cm_340 pc
theorem ca_341 : ∀ a : Nat, a < 341 → jckM a := lt_s (p := jckM) ca_340 cv_340
theorem cv_341 : jckM 341 := by
  intro pc
  have e : decide ((jy 341).name = "<init>") = false := by decide +kernel
  rw [e]
  exact cm_341 pc
theorem ca_342 : ∀ a : Nat, a < 342 → jckM a := lt_s (p := jckM) ca_341 cv_341
theorem jgood_1 : ∀ m, m < 342 → jml0 m = (jme m).2.2.1 := by decide +kernel
theorem jgood_2 : ∀ m, m < 342 → (jy m).cls = jcn.getD (jme m).2.2.2.2 "" ∧ (jme m).2.2.2.2 < 17 := by decide +kernel
theorem jgood_3 : ∀ c, c < 17 → c ≠ 15 → plainName (jcn.getD c "") = true
  | 0, _, _ => by decide | 1, _, _ => by decide | 2, _, _ => by decide | 3, _, _ => by decide | 4, _, _ => by decide | 5, _, _ => by decide | 6, _, _ => by decide | 7, _, _ => by decide | 8, _, _ => by decide | 9, _, _ => by decide | 10, _, _ => by decide | 11, _, _ => by decide | 12, _, _ => by decide | 13, _, _ => by decide | 14, _, _ => by decide | 16, _, _ => by decide
  | 15, _, h => absurd rfl h
  | n + 17, h, _ => absurd h (by omega)
theorem jgood_4 : ∀ m, m < 342 → (jme m).2.2.2.2 = 15 → plainFor (jy m) = true := by decide +kernel
theorem jgood_all (m : Nat) (h : m < 342) : jgoodM m := by
  refine ⟨?_, (jgood_2 m h).1, jgood_1 m h⟩
  by_cases e : (jme m).2.2.2.2 = 15
  · exact jgood_4 m h e
  · exact plainFor_of_name (by rw [(jgood_2 m h).1]; exact jgood_3 _ (jgood_2 m h).2 e)
/-- EVERY METHOD IS MET -/
theorem jmet (l : Launch) (F d m : Nat) (args : List jV) (S : jS) (z : Int) (S' : jS) (h : jeva F (d + 1) m args S = some (z, S')) : jMet l d m args S z S' := jmet_all l F (joth_m l) (fun m hm => ⟨ca_342 m hm, jgood_all m hm⟩) d m args S z S' h
