/-! SOUNDNESS, IX: every instruction; every method -/
theorem lkA_0 : ∀ a, a < 0 → lk_all (ml_o a) (ml_y a).name (ml_r a) (ml_b a) (am_tb a) = true := lt_0 (p := fun a => lk_all (ml_o a) (ml_y a).name (ml_r a) (ml_b a) (am_tb a) = true)
theorem ml_o_all : (List.range 257).all (fun k => Nat.ble (ml_o k + 1) 15) = true := by decide +kernel
theorem ml_o_lt {k : Nat} (h : k < 257) : ml_o k < 15 := Nat.le_of_ble_eq_true (List.all_eq_true.mp ml_o_all k (List.mem_range.mpr h))
theorem lkA_20 : ∀ a, a < 20 → lk_all (ml_o a) (ml_y a).name (ml_r a) (ml_b a) (am_tb a) = true := lt_s (p := fun a => lk_all (ml_o a) (ml_y a).name (ml_r a) (ml_b a) (am_tb a) = true) (lt_s (p := fun a => lk_all (ml_o a) (ml_y a).name (ml_r a) (ml_b a) (am_tb a) = true) (lt_s (p := fun a => lk_all (ml_o a) (ml_y a).name (ml_r a) (ml_b a) (am_tb a) = true) (lt_s (p := fun a => lk_all (ml_o a) (ml_y a).name (ml_r a) (ml_b a) (am_tb a) = true) (lt_s (p := fun a => lk_all (ml_o a) (ml_y a).name (ml_r a) (ml_b a) (am_tb a) = true) (lt_s (p := fun a => lk_all (ml_o a) (ml_y a).name (ml_r a) (ml_b a) (am_tb a) = true) (lt_s (p := fun a => lk_all (ml_o a) (ml_y a).name (ml_r a) (ml_b a) (am_tb a) = true) (lt_s (p := fun a => lk_all (ml_o a) (ml_y a).name (ml_r a) (ml_b a) (am_tb a) = true) (lt_s (p := fun a => lk_all (ml_o a) (ml_y a).name (ml_r a) (ml_b a) (am_tb a) = true) (lt_s (p := fun a => lk_all (ml_o a) (ml_y a).name (ml_r a) (ml_b a) (am_tb a) = true) (lt_s (p := fun a => lk_all (ml_o a) (ml_y a).name (ml_r a) (ml_b a) (am_tb a) = true) (lt_s (p := fun a => lk_all (ml_o a) (ml_y a).name (ml_r a) (ml_b a) (am_tb a) = true) (lt_s (p := fun a => lk_all (ml_o a) (ml_y a).name (ml_r a) (ml_b a) (am_tb a) = true) (lt_s (p := fun a => lk_all (ml_o a) (ml_y a).name (ml_r a) (ml_b a) (am_tb a) = true) (lt_s (p := fun a => lk_all (ml_o a) (ml_y a).name (ml_r a) (ml_b a) (am_tb a) = true) (lt_s (p := fun a => lk_all (ml_o a) (ml_y a).name (ml_r a) (ml_b a) (am_tb a) = true) (lt_s (p := fun a => lk_all (ml_o a) (ml_y a).name (ml_r a) (ml_b a) (am_tb a) = true) (lt_s (p := fun a => lk_all (ml_o a) (ml_y a).name (ml_r a) (ml_b a) (am_tb a) = true) (lt_s (p := fun a => lk_all (ml_o a) (ml_y a).name (ml_r a) (ml_b a) (am_tb a) = true) (lt_s (p := fun a => lk_all (ml_o a) (ml_y a).name (ml_r a) (ml_b a) (am_tb a) = true) (lkA_0) lk_0) lk_1) lk_2) lk_3) lk_4) lk_5) lk_6) lk_7) lk_8) lk_9) lk_10) lk_11) lk_12) lk_13) lk_14) lk_15) lk_16) lk_17) lk_18) lk_19
theorem lkA_40 : ∀ a, a < 40 → lk_all (ml_o a) (ml_y a).name (ml_r a) (ml_b a) (am_tb a) = true := lt_s (p := fun a => lk_all (ml_o a) (ml_y a).name (ml_r a) (ml_b a) (am_tb a) = true) (lt_s (p := fun a => lk_all (ml_o a) (ml_y a).name (ml_r a) (ml_b a) (am_tb a) = true) (lt_s (p := fun a => lk_all (ml_o a) (ml_y a).name (ml_r a) (ml_b a) (am_tb a) = true) (lt_s (p := fun a => lk_all (ml_o a) (ml_y a).name (ml_r a) (ml_b a) (am_tb a) = true) (lt_s (p := fun a => lk_all (ml_o a) (ml_y a).name (ml_r a) (ml_b a) (am_tb a) = true) (lt_s (p := fun a => lk_all (ml_o a) (ml_y a).name (ml_r a) (ml_b a) (am_tb a) = true) (lt_s (p := fun a => lk_all (ml_o a) (ml_y a).name (ml_r a) (ml_b a) (am_tb a) = true) (lt_s (p := fun a => lk_all (ml_o a) (ml_y a).name (ml_r a) (ml_b a) (am_tb a) = true) (lt_s (p := fun a => lk_all (ml_o a) (ml_y a).name (ml_r a) (ml_b a) (am_tb a) = true) (lt_s (p := fun a => lk_all (ml_o a) (ml_y a).name (ml_r a) (ml_b a) (am_tb a) = true) (lt_s (p := fun a => lk_all (ml_o a) (ml_y a).name (ml_r a) (ml_b a) (am_tb a) = true) (lt_s (p := fun a => lk_all (ml_o a) (ml_y a).name (ml_r a) (ml_b a) (am_tb a) = true) (lt_s (p := fun a => lk_all (ml_o a) (ml_y a).name (ml_r a) (ml_b a) (am_tb a) = true) (lt_s (p := fun a => lk_all (ml_o a) (ml_y a).name (ml_r a) (ml_b a) (am_tb a) = true) (lt_s (p := fun a => lk_all (ml_o a) (ml_y a).name (ml_r a) (ml_b a) (am_tb a) = true) (lt_s (p := fun a => lk_all (ml_o a) (ml_y a).name (ml_r a) (ml_b a) (am_tb a) = true) (lt_s (p := fun a => lk_all (ml_o a) (ml_y a).name (ml_r a) (ml_b a) (am_tb a) = true) (lt_s (p := fun a => lk_all (ml_o a) (ml_y a).name (ml_r a) (ml_b a) (am_tb a) = true) (lt_s (p := fun a => lk_all (ml_o a) (ml_y a).name (ml_r a) (ml_b a) (am_tb a) = true) (lt_s (p := fun a => lk_all (ml_o a) (ml_y a).name (ml_r a) (ml_b a) (am_tb a) = true) (lkA_20) lk_20) lk_21) lk_22) lk_23) lk_24) lk_25) lk_26) lk_27) lk_28) lk_29) lk_30) lk_31) lk_32) lk_33) lk_34) lk_35) lk_36) lk_37) lk_38) lk_39
theorem lkA_60 : ∀ a, a < 60 → lk_all (ml_o a) (ml_y a).name (ml_r a) (ml_b a) (am_tb a) = true := lt_s (p := fun a => lk_all (ml_o a) (ml_y a).name (ml_r a) (ml_b a) (am_tb a) = true) (lt_s (p := fun a => lk_all (ml_o a) (ml_y a).name (ml_r a) (ml_b a) (am_tb a) = true) (lt_s (p := fun a => lk_all (ml_o a) (ml_y a).name (ml_r a) (ml_b a) (am_tb a) = true) (lt_s (p := fun a => lk_all (ml_o a) (ml_y a).name (ml_r a) (ml_b a) (am_tb a) = true) (lt_s (p := fun a => lk_all (ml_o a) (ml_y a).name (ml_r a) (ml_b a) (am_tb a) = true) (lt_s (p := fun a => lk_all (ml_o a) (ml_y a).name (ml_r a) (ml_b a) (am_tb a) = true) (lt_s (p := fun a => lk_all (ml_o a) (ml_y a).name (ml_r a) (ml_b a) (am_tb a) = true) (lt_s (p := fun a => lk_all (ml_o a) (ml_y a).name (ml_r a) (ml_b a) (am_tb a) = true) (lt_s (p := fun a => lk_all (ml_o a) (ml_y a).name (ml_r a) (ml_b a) (am_tb a) = true) (lt_s (p := fun a => lk_all (ml_o a) (ml_y a).name (ml_r a) (ml_b a) (am_tb a) = true) (lt_s (p := fun a => lk_all (ml_o a) (ml_y a).name (ml_r a) (ml_b a) (am_tb a) = true) (lt_s (p := fun a => lk_all (ml_o a) (ml_y a).name (ml_r a) (ml_b a) (am_tb a) = true) (lt_s (p := fun a => lk_all (ml_o a) (ml_y a).name (ml_r a) (ml_b a) (am_tb a) = true) (lt_s (p := fun a => lk_all (ml_o a) (ml_y a).name (ml_r a) (ml_b a) (am_tb a) = true) (lt_s (p := fun a => lk_all (ml_o a) (ml_y a).name (ml_r a) (ml_b a) (am_tb a) = true) (lt_s (p := fun a => lk_all (ml_o a) (ml_y a).name (ml_r a) (ml_b a) (am_tb a) = true) (lt_s (p := fun a => lk_all (ml_o a) (ml_y a).name (ml_r a) (ml_b a) (am_tb a) = true) (lt_s (p := fun a => lk_all (ml_o a) (ml_y a).name (ml_r a) (ml_b a) (am_tb a) = true) (lt_s (p := fun a => lk_all (ml_o a) (ml_y a).name (ml_r a) (ml_b a) (am_tb a) = true) (lt_s (p := fun a => lk_all (ml_o a) (ml_y a).name (ml_r a) (ml_b a) (am_tb a) = true) (lkA_40) lk_40) lk_41) lk_42) lk_43) lk_44) lk_45) lk_46) lk_47) lk_48) lk_49) lk_50) lk_51) lk_52) lk_53) lk_54) lk_55) lk_56) lk_57) lk_58) lk_59
theorem lkA_80 : ∀ a, a < 80 → lk_all (ml_o a) (ml_y a).name (ml_r a) (ml_b a) (am_tb a) = true := lt_s (p := fun a => lk_all (ml_o a) (ml_y a).name (ml_r a) (ml_b a) (am_tb a) = true) (lt_s (p := fun a => lk_all (ml_o a) (ml_y a).name (ml_r a) (ml_b a) (am_tb a) = true) (lt_s (p := fun a => lk_all (ml_o a) (ml_y a).name (ml_r a) (ml_b a) (am_tb a) = true) (lt_s (p := fun a => lk_all (ml_o a) (ml_y a).name (ml_r a) (ml_b a) (am_tb a) = true) (lt_s (p := fun a => lk_all (ml_o a) (ml_y a).name (ml_r a) (ml_b a) (am_tb a) = true) (lt_s (p := fun a => lk_all (ml_o a) (ml_y a).name (ml_r a) (ml_b a) (am_tb a) = true) (lt_s (p := fun a => lk_all (ml_o a) (ml_y a).name (ml_r a) (ml_b a) (am_tb a) = true) (lt_s (p := fun a => lk_all (ml_o a) (ml_y a).name (ml_r a) (ml_b a) (am_tb a) = true) (lt_s (p := fun a => lk_all (ml_o a) (ml_y a).name (ml_r a) (ml_b a) (am_tb a) = true) (lt_s (p := fun a => lk_all (ml_o a) (ml_y a).name (ml_r a) (ml_b a) (am_tb a) = true) (lt_s (p := fun a => lk_all (ml_o a) (ml_y a).name (ml_r a) (ml_b a) (am_tb a) = true) (lt_s (p := fun a => lk_all (ml_o a) (ml_y a).name (ml_r a) (ml_b a) (am_tb a) = true) (lt_s (p := fun a => lk_all (ml_o a) (ml_y a).name (ml_r a) (ml_b a) (am_tb a) = true) (lt_s (p := fun a => lk_all (ml_o a) (ml_y a).name (ml_r a) (ml_b a) (am_tb a) = true) (lt_s (p := fun a => lk_all (ml_o a) (ml_y a).name (ml_r a) (ml_b a) (am_tb a) = true) (lt_s (p := fun a => lk_all (ml_o a) (ml_y a).name (ml_r a) (ml_b a) (am_tb a) = true) (lt_s (p := fun a => lk_all (ml_o a) (ml_y a).name (ml_r a) (ml_b a) (am_tb a) = true) (lt_s (p := fun a => lk_all (ml_o a) (ml_y a).name (ml_r a) (ml_b a) (am_tb a) = true) (lt_s (p := fun a => lk_all (ml_o a) (ml_y a).name (ml_r a) (ml_b a) (am_tb a) = true) (lt_s (p := fun a => lk_all (ml_o a) (ml_y a).name (ml_r a) (ml_b a) (am_tb a) = true) (lkA_60) lk_60) lk_61) lk_62) lk_63) lk_64) lk_65) lk_66) lk_67) lk_68) lk_69) lk_70) lk_71) lk_72) lk_73) lk_74) lk_75) lk_76) lk_77) lk_78) lk_79
theorem lkA_100 : ∀ a, a < 100 → lk_all (ml_o a) (ml_y a).name (ml_r a) (ml_b a) (am_tb a) = true := lt_s (p := fun a => lk_all (ml_o a) (ml_y a).name (ml_r a) (ml_b a) (am_tb a) = true) (lt_s (p := fun a => lk_all (ml_o a) (ml_y a).name (ml_r a) (ml_b a) (am_tb a) = true) (lt_s (p := fun a => lk_all (ml_o a) (ml_y a).name (ml_r a) (ml_b a) (am_tb a) = true) (lt_s (p := fun a => lk_all (ml_o a) (ml_y a).name (ml_r a) (ml_b a) (am_tb a) = true) (lt_s (p := fun a => lk_all (ml_o a) (ml_y a).name (ml_r a) (ml_b a) (am_tb a) = true) (lt_s (p := fun a => lk_all (ml_o a) (ml_y a).name (ml_r a) (ml_b a) (am_tb a) = true) (lt_s (p := fun a => lk_all (ml_o a) (ml_y a).name (ml_r a) (ml_b a) (am_tb a) = true) (lt_s (p := fun a => lk_all (ml_o a) (ml_y a).name (ml_r a) (ml_b a) (am_tb a) = true) (lt_s (p := fun a => lk_all (ml_o a) (ml_y a).name (ml_r a) (ml_b a) (am_tb a) = true) (lt_s (p := fun a => lk_all (ml_o a) (ml_y a).name (ml_r a) (ml_b a) (am_tb a) = true) (lt_s (p := fun a => lk_all (ml_o a) (ml_y a).name (ml_r a) (ml_b a) (am_tb a) = true) (lt_s (p := fun a => lk_all (ml_o a) (ml_y a).name (ml_r a) (ml_b a) (am_tb a) = true) (lt_s (p := fun a => lk_all (ml_o a) (ml_y a).name (ml_r a) (ml_b a) (am_tb a) = true) (lt_s (p := fun a => lk_all (ml_o a) (ml_y a).name (ml_r a) (ml_b a) (am_tb a) = true) (lt_s (p := fun a => lk_all (ml_o a) (ml_y a).name (ml_r a) (ml_b a) (am_tb a) = true) (lt_s (p := fun a => lk_all (ml_o a) (ml_y a).name (ml_r a) (ml_b a) (am_tb a) = true) (lt_s (p := fun a => lk_all (ml_o a) (ml_y a).name (ml_r a) (ml_b a) (am_tb a) = true) (lt_s (p := fun a => lk_all (ml_o a) (ml_y a).name (ml_r a) (ml_b a) (am_tb a) = true) (lt_s (p := fun a => lk_all (ml_o a) (ml_y a).name (ml_r a) (ml_b a) (am_tb a) = true) (lt_s (p := fun a => lk_all (ml_o a) (ml_y a).name (ml_r a) (ml_b a) (am_tb a) = true) (lkA_80) lk_80) lk_81) lk_82) lk_83) lk_84) lk_85) lk_86) lk_87) lk_88) lk_89) lk_90) lk_91) lk_92) lk_93) lk_94) lk_95) lk_96) lk_97) lk_98) lk_99
theorem lkA_120 : ∀ a, a < 120 → lk_all (ml_o a) (ml_y a).name (ml_r a) (ml_b a) (am_tb a) = true := lt_s (p := fun a => lk_all (ml_o a) (ml_y a).name (ml_r a) (ml_b a) (am_tb a) = true) (lt_s (p := fun a => lk_all (ml_o a) (ml_y a).name (ml_r a) (ml_b a) (am_tb a) = true) (lt_s (p := fun a => lk_all (ml_o a) (ml_y a).name (ml_r a) (ml_b a) (am_tb a) = true) (lt_s (p := fun a => lk_all (ml_o a) (ml_y a).name (ml_r a) (ml_b a) (am_tb a) = true) (lt_s (p := fun a => lk_all (ml_o a) (ml_y a).name (ml_r a) (ml_b a) (am_tb a) = true) (lt_s (p := fun a => lk_all (ml_o a) (ml_y a).name (ml_r a) (ml_b a) (am_tb a) = true) (lt_s (p := fun a => lk_all (ml_o a) (ml_y a).name (ml_r a) (ml_b a) (am_tb a) = true) (lt_s (p := fun a => lk_all (ml_o a) (ml_y a).name (ml_r a) (ml_b a) (am_tb a) = true) (lt_s (p := fun a => lk_all (ml_o a) (ml_y a).name (ml_r a) (ml_b a) (am_tb a) = true) (lt_s (p := fun a => lk_all (ml_o a) (ml_y a).name (ml_r a) (ml_b a) (am_tb a) = true) (lt_s (p := fun a => lk_all (ml_o a) (ml_y a).name (ml_r a) (ml_b a) (am_tb a) = true) (lt_s (p := fun a => lk_all (ml_o a) (ml_y a).name (ml_r a) (ml_b a) (am_tb a) = true) (lt_s (p := fun a => lk_all (ml_o a) (ml_y a).name (ml_r a) (ml_b a) (am_tb a) = true) (lt_s (p := fun a => lk_all (ml_o a) (ml_y a).name (ml_r a) (ml_b a) (am_tb a) = true) (lt_s (p := fun a => lk_all (ml_o a) (ml_y a).name (ml_r a) (ml_b a) (am_tb a) = true) (lt_s (p := fun a => lk_all (ml_o a) (ml_y a).name (ml_r a) (ml_b a) (am_tb a) = true) (lt_s (p := fun a => lk_all (ml_o a) (ml_y a).name (ml_r a) (ml_b a) (am_tb a) = true) (lt_s (p := fun a => lk_all (ml_o a) (ml_y a).name (ml_r a) (ml_b a) (am_tb a) = true) (lt_s (p := fun a => lk_all (ml_o a) (ml_y a).name (ml_r a) (ml_b a) (am_tb a) = true) (lt_s (p := fun a => lk_all (ml_o a) (ml_y a).name (ml_r a) (ml_b a) (am_tb a) = true) (lkA_100) lk_100) lk_101) lk_102) lk_103) lk_104) lk_105) lk_106) lk_107) lk_108) lk_109) lk_110) lk_111) lk_112) lk_113) lk_114) lk_115) lk_116) lk_117) lk_118) lk_119
theorem lkA_140 : ∀ a, a < 140 → lk_all (ml_o a) (ml_y a).name (ml_r a) (ml_b a) (am_tb a) = true := lt_s (p := fun a => lk_all (ml_o a) (ml_y a).name (ml_r a) (ml_b a) (am_tb a) = true) (lt_s (p := fun a => lk_all (ml_o a) (ml_y a).name (ml_r a) (ml_b a) (am_tb a) = true) (lt_s (p := fun a => lk_all (ml_o a) (ml_y a).name (ml_r a) (ml_b a) (am_tb a) = true) (lt_s (p := fun a => lk_all (ml_o a) (ml_y a).name (ml_r a) (ml_b a) (am_tb a) = true) (lt_s (p := fun a => lk_all (ml_o a) (ml_y a).name (ml_r a) (ml_b a) (am_tb a) = true) (lt_s (p := fun a => lk_all (ml_o a) (ml_y a).name (ml_r a) (ml_b a) (am_tb a) = true) (lt_s (p := fun a => lk_all (ml_o a) (ml_y a).name (ml_r a) (ml_b a) (am_tb a) = true) (lt_s (p := fun a => lk_all (ml_o a) (ml_y a).name (ml_r a) (ml_b a) (am_tb a) = true) (lt_s (p := fun a => lk_all (ml_o a) (ml_y a).name (ml_r a) (ml_b a) (am_tb a) = true) (lt_s (p := fun a => lk_all (ml_o a) (ml_y a).name (ml_r a) (ml_b a) (am_tb a) = true) (lt_s (p := fun a => lk_all (ml_o a) (ml_y a).name (ml_r a) (ml_b a) (am_tb a) = true) (lt_s (p := fun a => lk_all (ml_o a) (ml_y a).name (ml_r a) (ml_b a) (am_tb a) = true) (lt_s (p := fun a => lk_all (ml_o a) (ml_y a).name (ml_r a) (ml_b a) (am_tb a) = true) (lt_s (p := fun a => lk_all (ml_o a) (ml_y a).name (ml_r a) (ml_b a) (am_tb a) = true) (lt_s (p := fun a => lk_all (ml_o a) (ml_y a).name (ml_r a) (ml_b a) (am_tb a) = true) (lt_s (p := fun a => lk_all (ml_o a) (ml_y a).name (ml_r a) (ml_b a) (am_tb a) = true) (lt_s (p := fun a => lk_all (ml_o a) (ml_y a).name (ml_r a) (ml_b a) (am_tb a) = true) (lt_s (p := fun a => lk_all (ml_o a) (ml_y a).name (ml_r a) (ml_b a) (am_tb a) = true) (lt_s (p := fun a => lk_all (ml_o a) (ml_y a).name (ml_r a) (ml_b a) (am_tb a) = true) (lt_s (p := fun a => lk_all (ml_o a) (ml_y a).name (ml_r a) (ml_b a) (am_tb a) = true) (lkA_120) lk_120) lk_121) lk_122) lk_123) lk_124) lk_125) lk_126) lk_127) lk_128) lk_129) lk_130) lk_131) lk_132) lk_133) lk_134) lk_135) lk_136) lk_137) lk_138) lk_139
theorem lkA_160 : ∀ a, a < 160 → lk_all (ml_o a) (ml_y a).name (ml_r a) (ml_b a) (am_tb a) = true := lt_s (p := fun a => lk_all (ml_o a) (ml_y a).name (ml_r a) (ml_b a) (am_tb a) = true) (lt_s (p := fun a => lk_all (ml_o a) (ml_y a).name (ml_r a) (ml_b a) (am_tb a) = true) (lt_s (p := fun a => lk_all (ml_o a) (ml_y a).name (ml_r a) (ml_b a) (am_tb a) = true) (lt_s (p := fun a => lk_all (ml_o a) (ml_y a).name (ml_r a) (ml_b a) (am_tb a) = true) (lt_s (p := fun a => lk_all (ml_o a) (ml_y a).name (ml_r a) (ml_b a) (am_tb a) = true) (lt_s (p := fun a => lk_all (ml_o a) (ml_y a).name (ml_r a) (ml_b a) (am_tb a) = true) (lt_s (p := fun a => lk_all (ml_o a) (ml_y a).name (ml_r a) (ml_b a) (am_tb a) = true) (lt_s (p := fun a => lk_all (ml_o a) (ml_y a).name (ml_r a) (ml_b a) (am_tb a) = true) (lt_s (p := fun a => lk_all (ml_o a) (ml_y a).name (ml_r a) (ml_b a) (am_tb a) = true) (lt_s (p := fun a => lk_all (ml_o a) (ml_y a).name (ml_r a) (ml_b a) (am_tb a) = true) (lt_s (p := fun a => lk_all (ml_o a) (ml_y a).name (ml_r a) (ml_b a) (am_tb a) = true) (lt_s (p := fun a => lk_all (ml_o a) (ml_y a).name (ml_r a) (ml_b a) (am_tb a) = true) (lt_s (p := fun a => lk_all (ml_o a) (ml_y a).name (ml_r a) (ml_b a) (am_tb a) = true) (lt_s (p := fun a => lk_all (ml_o a) (ml_y a).name (ml_r a) (ml_b a) (am_tb a) = true) (lt_s (p := fun a => lk_all (ml_o a) (ml_y a).name (ml_r a) (ml_b a) (am_tb a) = true) (lt_s (p := fun a => lk_all (ml_o a) (ml_y a).name (ml_r a) (ml_b a) (am_tb a) = true) (lt_s (p := fun a => lk_all (ml_o a) (ml_y a).name (ml_r a) (ml_b a) (am_tb a) = true) (lt_s (p := fun a => lk_all (ml_o a) (ml_y a).name (ml_r a) (ml_b a) (am_tb a) = true) (lt_s (p := fun a => lk_all (ml_o a) (ml_y a).name (ml_r a) (ml_b a) (am_tb a) = true) (lt_s (p := fun a => lk_all (ml_o a) (ml_y a).name (ml_r a) (ml_b a) (am_tb a) = true) (lkA_140) lk_140) lk_141) lk_142) lk_143) lk_144) lk_145) lk_146) lk_147) lk_148) lk_149) lk_150) lk_151) lk_152) lk_153) lk_154) lk_155) lk_156) lk_157) lk_158) lk_159
theorem lkA_180 : ∀ a, a < 180 → lk_all (ml_o a) (ml_y a).name (ml_r a) (ml_b a) (am_tb a) = true := lt_s (p := fun a => lk_all (ml_o a) (ml_y a).name (ml_r a) (ml_b a) (am_tb a) = true) (lt_s (p := fun a => lk_all (ml_o a) (ml_y a).name (ml_r a) (ml_b a) (am_tb a) = true) (lt_s (p := fun a => lk_all (ml_o a) (ml_y a).name (ml_r a) (ml_b a) (am_tb a) = true) (lt_s (p := fun a => lk_all (ml_o a) (ml_y a).name (ml_r a) (ml_b a) (am_tb a) = true) (lt_s (p := fun a => lk_all (ml_o a) (ml_y a).name (ml_r a) (ml_b a) (am_tb a) = true) (lt_s (p := fun a => lk_all (ml_o a) (ml_y a).name (ml_r a) (ml_b a) (am_tb a) = true) (lt_s (p := fun a => lk_all (ml_o a) (ml_y a).name (ml_r a) (ml_b a) (am_tb a) = true) (lt_s (p := fun a => lk_all (ml_o a) (ml_y a).name (ml_r a) (ml_b a) (am_tb a) = true) (lt_s (p := fun a => lk_all (ml_o a) (ml_y a).name (ml_r a) (ml_b a) (am_tb a) = true) (lt_s (p := fun a => lk_all (ml_o a) (ml_y a).name (ml_r a) (ml_b a) (am_tb a) = true) (lt_s (p := fun a => lk_all (ml_o a) (ml_y a).name (ml_r a) (ml_b a) (am_tb a) = true) (lt_s (p := fun a => lk_all (ml_o a) (ml_y a).name (ml_r a) (ml_b a) (am_tb a) = true) (lt_s (p := fun a => lk_all (ml_o a) (ml_y a).name (ml_r a) (ml_b a) (am_tb a) = true) (lt_s (p := fun a => lk_all (ml_o a) (ml_y a).name (ml_r a) (ml_b a) (am_tb a) = true) (lt_s (p := fun a => lk_all (ml_o a) (ml_y a).name (ml_r a) (ml_b a) (am_tb a) = true) (lt_s (p := fun a => lk_all (ml_o a) (ml_y a).name (ml_r a) (ml_b a) (am_tb a) = true) (lt_s (p := fun a => lk_all (ml_o a) (ml_y a).name (ml_r a) (ml_b a) (am_tb a) = true) (lt_s (p := fun a => lk_all (ml_o a) (ml_y a).name (ml_r a) (ml_b a) (am_tb a) = true) (lt_s (p := fun a => lk_all (ml_o a) (ml_y a).name (ml_r a) (ml_b a) (am_tb a) = true) (lt_s (p := fun a => lk_all (ml_o a) (ml_y a).name (ml_r a) (ml_b a) (am_tb a) = true) (lkA_160) lk_160) lk_161) lk_162) lk_163) lk_164) lk_165) lk_166) lk_167) lk_168) lk_169) lk_170) lk_171) lk_172) lk_173) lk_174) lk_175) lk_176) lk_177) lk_178) lk_179
theorem lkA_200 : ∀ a, a < 200 → lk_all (ml_o a) (ml_y a).name (ml_r a) (ml_b a) (am_tb a) = true := lt_s (p := fun a => lk_all (ml_o a) (ml_y a).name (ml_r a) (ml_b a) (am_tb a) = true) (lt_s (p := fun a => lk_all (ml_o a) (ml_y a).name (ml_r a) (ml_b a) (am_tb a) = true) (lt_s (p := fun a => lk_all (ml_o a) (ml_y a).name (ml_r a) (ml_b a) (am_tb a) = true) (lt_s (p := fun a => lk_all (ml_o a) (ml_y a).name (ml_r a) (ml_b a) (am_tb a) = true) (lt_s (p := fun a => lk_all (ml_o a) (ml_y a).name (ml_r a) (ml_b a) (am_tb a) = true) (lt_s (p := fun a => lk_all (ml_o a) (ml_y a).name (ml_r a) (ml_b a) (am_tb a) = true) (lt_s (p := fun a => lk_all (ml_o a) (ml_y a).name (ml_r a) (ml_b a) (am_tb a) = true) (lt_s (p := fun a => lk_all (ml_o a) (ml_y a).name (ml_r a) (ml_b a) (am_tb a) = true) (lt_s (p := fun a => lk_all (ml_o a) (ml_y a).name (ml_r a) (ml_b a) (am_tb a) = true) (lt_s (p := fun a => lk_all (ml_o a) (ml_y a).name (ml_r a) (ml_b a) (am_tb a) = true) (lt_s (p := fun a => lk_all (ml_o a) (ml_y a).name (ml_r a) (ml_b a) (am_tb a) = true) (lt_s (p := fun a => lk_all (ml_o a) (ml_y a).name (ml_r a) (ml_b a) (am_tb a) = true) (lt_s (p := fun a => lk_all (ml_o a) (ml_y a).name (ml_r a) (ml_b a) (am_tb a) = true) (lt_s (p := fun a => lk_all (ml_o a) (ml_y a).name (ml_r a) (ml_b a) (am_tb a) = true) (lt_s (p := fun a => lk_all (ml_o a) (ml_y a).name (ml_r a) (ml_b a) (am_tb a) = true) (lt_s (p := fun a => lk_all (ml_o a) (ml_y a).name (ml_r a) (ml_b a) (am_tb a) = true) (lt_s (p := fun a => lk_all (ml_o a) (ml_y a).name (ml_r a) (ml_b a) (am_tb a) = true) (lt_s (p := fun a => lk_all (ml_o a) (ml_y a).name (ml_r a) (ml_b a) (am_tb a) = true) (lt_s (p := fun a => lk_all (ml_o a) (ml_y a).name (ml_r a) (ml_b a) (am_tb a) = true) (lt_s (p := fun a => lk_all (ml_o a) (ml_y a).name (ml_r a) (ml_b a) (am_tb a) = true) (lkA_180) lk_180) lk_181) lk_182) lk_183) lk_184) lk_185) lk_186) lk_187) lk_188) lk_189) lk_190) lk_191) lk_192) lk_193) lk_194) lk_195) lk_196) lk_197) lk_198) lk_199
theorem lkA_220 : ∀ a, a < 220 → lk_all (ml_o a) (ml_y a).name (ml_r a) (ml_b a) (am_tb a) = true := lt_s (p := fun a => lk_all (ml_o a) (ml_y a).name (ml_r a) (ml_b a) (am_tb a) = true) (lt_s (p := fun a => lk_all (ml_o a) (ml_y a).name (ml_r a) (ml_b a) (am_tb a) = true) (lt_s (p := fun a => lk_all (ml_o a) (ml_y a).name (ml_r a) (ml_b a) (am_tb a) = true) (lt_s (p := fun a => lk_all (ml_o a) (ml_y a).name (ml_r a) (ml_b a) (am_tb a) = true) (lt_s (p := fun a => lk_all (ml_o a) (ml_y a).name (ml_r a) (ml_b a) (am_tb a) = true) (lt_s (p := fun a => lk_all (ml_o a) (ml_y a).name (ml_r a) (ml_b a) (am_tb a) = true) (lt_s (p := fun a => lk_all (ml_o a) (ml_y a).name (ml_r a) (ml_b a) (am_tb a) = true) (lt_s (p := fun a => lk_all (ml_o a) (ml_y a).name (ml_r a) (ml_b a) (am_tb a) = true) (lt_s (p := fun a => lk_all (ml_o a) (ml_y a).name (ml_r a) (ml_b a) (am_tb a) = true) (lt_s (p := fun a => lk_all (ml_o a) (ml_y a).name (ml_r a) (ml_b a) (am_tb a) = true) (lt_s (p := fun a => lk_all (ml_o a) (ml_y a).name (ml_r a) (ml_b a) (am_tb a) = true) (lt_s (p := fun a => lk_all (ml_o a) (ml_y a).name (ml_r a) (ml_b a) (am_tb a) = true) (lt_s (p := fun a => lk_all (ml_o a) (ml_y a).name (ml_r a) (ml_b a) (am_tb a) = true) (lt_s (p := fun a => lk_all (ml_o a) (ml_y a).name (ml_r a) (ml_b a) (am_tb a) = true) (lt_s (p := fun a => lk_all (ml_o a) (ml_y a).name (ml_r a) (ml_b a) (am_tb a) = true) (lt_s (p := fun a => lk_all (ml_o a) (ml_y a).name (ml_r a) (ml_b a) (am_tb a) = true) (lt_s (p := fun a => lk_all (ml_o a) (ml_y a).name (ml_r a) (ml_b a) (am_tb a) = true) (lt_s (p := fun a => lk_all (ml_o a) (ml_y a).name (ml_r a) (ml_b a) (am_tb a) = true) (lt_s (p := fun a => lk_all (ml_o a) (ml_y a).name (ml_r a) (ml_b a) (am_tb a) = true) (lt_s (p := fun a => lk_all (ml_o a) (ml_y a).name (ml_r a) (ml_b a) (am_tb a) = true) (lkA_200) lk_200) lk_201) lk_202) lk_203) lk_204) lk_205) lk_206) lk_207) lk_208) lk_209) lk_210) lk_211) lk_212) lk_213) lk_214) lk_215) lk_216) lk_217) lk_218) lk_219
theorem lkA_240 : ∀ a, a < 240 → lk_all (ml_o a) (ml_y a).name (ml_r a) (ml_b a) (am_tb a) = true := lt_s (p := fun a => lk_all (ml_o a) (ml_y a).name (ml_r a) (ml_b a) (am_tb a) = true) (lt_s (p := fun a => lk_all (ml_o a) (ml_y a).name (ml_r a) (ml_b a) (am_tb a) = true) (lt_s (p := fun a => lk_all (ml_o a) (ml_y a).name (ml_r a) (ml_b a) (am_tb a) = true) (lt_s (p := fun a => lk_all (ml_o a) (ml_y a).name (ml_r a) (ml_b a) (am_tb a) = true) (lt_s (p := fun a => lk_all (ml_o a) (ml_y a).name (ml_r a) (ml_b a) (am_tb a) = true) (lt_s (p := fun a => lk_all (ml_o a) (ml_y a).name (ml_r a) (ml_b a) (am_tb a) = true) (lt_s (p := fun a => lk_all (ml_o a) (ml_y a).name (ml_r a) (ml_b a) (am_tb a) = true) (lt_s (p := fun a => lk_all (ml_o a) (ml_y a).name (ml_r a) (ml_b a) (am_tb a) = true) (lt_s (p := fun a => lk_all (ml_o a) (ml_y a).name (ml_r a) (ml_b a) (am_tb a) = true) (lt_s (p := fun a => lk_all (ml_o a) (ml_y a).name (ml_r a) (ml_b a) (am_tb a) = true) (lt_s (p := fun a => lk_all (ml_o a) (ml_y a).name (ml_r a) (ml_b a) (am_tb a) = true) (lt_s (p := fun a => lk_all (ml_o a) (ml_y a).name (ml_r a) (ml_b a) (am_tb a) = true) (lt_s (p := fun a => lk_all (ml_o a) (ml_y a).name (ml_r a) (ml_b a) (am_tb a) = true) (lt_s (p := fun a => lk_all (ml_o a) (ml_y a).name (ml_r a) (ml_b a) (am_tb a) = true) (lt_s (p := fun a => lk_all (ml_o a) (ml_y a).name (ml_r a) (ml_b a) (am_tb a) = true) (lt_s (p := fun a => lk_all (ml_o a) (ml_y a).name (ml_r a) (ml_b a) (am_tb a) = true) (lt_s (p := fun a => lk_all (ml_o a) (ml_y a).name (ml_r a) (ml_b a) (am_tb a) = true) (lt_s (p := fun a => lk_all (ml_o a) (ml_y a).name (ml_r a) (ml_b a) (am_tb a) = true) (lt_s (p := fun a => lk_all (ml_o a) (ml_y a).name (ml_r a) (ml_b a) (am_tb a) = true) (lt_s (p := fun a => lk_all (ml_o a) (ml_y a).name (ml_r a) (ml_b a) (am_tb a) = true) (lkA_220) lk_220) lk_221) lk_222) lk_223) lk_224) lk_225) lk_226) lk_227) lk_228) lk_229) lk_230) lk_231) lk_232) lk_233) lk_234) lk_235) lk_236) lk_237) lk_238) lk_239
theorem lkA_257 : ∀ a, a < 257 → lk_all (ml_o a) (ml_y a).name (ml_r a) (ml_b a) (am_tb a) = true := lt_s (p := fun a => lk_all (ml_o a) (ml_y a).name (ml_r a) (ml_b a) (am_tb a) = true) (lt_s (p := fun a => lk_all (ml_o a) (ml_y a).name (ml_r a) (ml_b a) (am_tb a) = true) (lt_s (p := fun a => lk_all (ml_o a) (ml_y a).name (ml_r a) (ml_b a) (am_tb a) = true) (lt_s (p := fun a => lk_all (ml_o a) (ml_y a).name (ml_r a) (ml_b a) (am_tb a) = true) (lt_s (p := fun a => lk_all (ml_o a) (ml_y a).name (ml_r a) (ml_b a) (am_tb a) = true) (lt_s (p := fun a => lk_all (ml_o a) (ml_y a).name (ml_r a) (ml_b a) (am_tb a) = true) (lt_s (p := fun a => lk_all (ml_o a) (ml_y a).name (ml_r a) (ml_b a) (am_tb a) = true) (lt_s (p := fun a => lk_all (ml_o a) (ml_y a).name (ml_r a) (ml_b a) (am_tb a) = true) (lt_s (p := fun a => lk_all (ml_o a) (ml_y a).name (ml_r a) (ml_b a) (am_tb a) = true) (lt_s (p := fun a => lk_all (ml_o a) (ml_y a).name (ml_r a) (ml_b a) (am_tb a) = true) (lt_s (p := fun a => lk_all (ml_o a) (ml_y a).name (ml_r a) (ml_b a) (am_tb a) = true) (lt_s (p := fun a => lk_all (ml_o a) (ml_y a).name (ml_r a) (ml_b a) (am_tb a) = true) (lt_s (p := fun a => lk_all (ml_o a) (ml_y a).name (ml_r a) (ml_b a) (am_tb a) = true) (lt_s (p := fun a => lk_all (ml_o a) (ml_y a).name (ml_r a) (ml_b a) (am_tb a) = true) (lt_s (p := fun a => lk_all (ml_o a) (ml_y a).name (ml_r a) (ml_b a) (am_tb a) = true) (lt_s (p := fun a => lk_all (ml_o a) (ml_y a).name (ml_r a) (ml_b a) (am_tb a) = true) (lt_s (p := fun a => lk_all (ml_o a) (ml_y a).name (ml_r a) (ml_b a) (am_tb a) = true) (lkA_240) lk_240) lk_241) lk_242) lk_243) lk_244) lk_245) lk_246) lk_247) lk_248) lk_249) lk_250) lk_251) lk_252) lk_253) lk_254) lk_255) lk_256
section SO
variable {p : Program} {l : Launch} {e : Env} {R : Room} {s : State} {m : MethodId} {args : Array Value} {below : List Frame} {meth : Method} {c : Code} {Q : State → Prop}
variable {cc : ByteArray} {G : so_G} {o nL z0 s0 zm sm d : Nat} {nm : String}
set_option maxHeartbeats 4000000 in
theorem so_one (F : so_Fx p s m args meth c cc o nL nm G R z0 s0 zm sm d) {C : am_C} (hC : so_C l G d C) (hS : so_Str l G) {rt : Option FieldType} {Rt : Option Value → am_M → Prop}
    (hI : ∀ (x : Int32) (pc : Nat) (L : am_L) (M : am_M), (rt = some .int ∨ rt = some .boolean) → decode cc pc = .ok (.ireturn, 1) → Rt (some (.int x)) M → so_X p l e R s m args below meth c Q G nL z0 s0 zm sm pc L [.int x] M)
    (hJ : ∀ (x : Int64) (pc : Nat) (L : am_L) (M : am_M), rt = some .long → decode cc pc = .ok (.lreturn, 1) → Rt (some (.long x)) M → so_X p l e R s m args below meth c Q G nL z0 s0 zm sm pc L [.long x] M)
    (hA : ∀ (x : Nat) (pc : Nat) (L : am_L) (M : am_M), (∃ t, rt = some t ∧ ((∃ n, t = .object n) ∨ ∃ u, t = .array u)) → decode cc pc = .ok (.areturn, 1) → Rt (some (.ref x)) M → so_X p l e R s m args below meth c Q G nL z0 s0 zm sm pc L [.ref x] M)
    (hV : ∀ (pc : Nat) (L : am_L) (M : am_M), rt = none → decode cc pc = .ok (.return_, 1) → Rt none M → so_X p l e R s m args below meth c Q G nL z0 s0 zm sm pc L [] M)
    {ins orig : Instr} {ln pc : Nat} {L : am_L} {st : List Value} {M : am_M} (hk : lkB o nm rt pc ins ln orig = true) (hd : decode cc pc = .ok (orig, ln)) (h : am_one am_mt C zm sm Rt ins ln pc L st M (so_X p l e R s m args below meth c Q G nL z0 s0 zm sm)) : so_X p l e R s m args below meth c Q G nL z0 s0 zm sm pc L st M := by
  cases ins
  case iaload => obtain ⟨rfl, rfl⟩ := lk_d hk; exact so_iaload F hd h
  case baload => obtain ⟨rfl, rfl⟩ := lk_d hk; exact so_baload F hd h
  case laload => obtain ⟨rfl, rfl⟩ := lk_d hk; exact so_laload F hd h
  case aaload => obtain ⟨rfl, rfl⟩ := lk_d hk; exact so_aaload F hd h
  case arraylength => obtain ⟨rfl, rfl⟩ := lk_d hk; exact so_alen F hd h
  case iastore => obtain ⟨rfl, rfl⟩ := lk_d hk; exact so_iastore F hd h
  case bastore => obtain ⟨rfl, rfl⟩ := lk_d hk; exact so_bastore F hd h
  case lastore => obtain ⟨rfl, rfl⟩ := lk_d hk; exact so_lastore F hd h
  case aastore => obtain ⟨rfl, rfl⟩ := lk_d hk; exact so_aastore F hd h
  case dup => obtain ⟨rfl, rfl⟩ := lk_d hk; exact so_dup F hd h
  case dup2 => obtain ⟨rfl, rfl⟩ := lk_d hk; exact so_dup2 F hd h
  case pop => obtain ⟨rfl, rfl⟩ := lk_d hk; exact so_pop F hd h
  case iadd => obtain ⟨rfl, rfl⟩ := lk_d hk; exact so_iadd F hd h
  case isub => obtain ⟨rfl, rfl⟩ := lk_d hk; exact so_isub F hd h
  case imul => obtain ⟨rfl, rfl⟩ := lk_d hk; exact so_imul F hd h
  case iand => obtain ⟨rfl, rfl⟩ := lk_d hk; exact so_iand F hd h
  case ior => obtain ⟨rfl, rfl⟩ := lk_d hk; exact so_ior F hd h
  case ixor => obtain ⟨rfl, rfl⟩ := lk_d hk; exact so_ixor F hd h
  case ishl => obtain ⟨rfl, rfl⟩ := lk_d hk; exact so_ishl F hd h
  case ishr => obtain ⟨rfl, rfl⟩ := lk_d hk; exact so_ishr F hd h
  case iushr => obtain ⟨rfl, rfl⟩ := lk_d hk; exact so_iushr F hd h
  case idiv => obtain ⟨rfl, rfl⟩ := lk_d hk; exact so_idiv F hd h
  case irem => obtain ⟨rfl, rfl⟩ := lk_d hk; exact so_irem F hd h
  case ineg => obtain ⟨rfl, rfl⟩ := lk_d hk; exact so_ineg F hd h
  case ladd => obtain ⟨rfl, rfl⟩ := lk_d hk; exact so_ladd F hd h
  case lmul => obtain ⟨rfl, rfl⟩ := lk_d hk; exact so_lmul F hd h
  case land => obtain ⟨rfl, rfl⟩ := lk_d hk; exact so_land F hd h
  case lor => obtain ⟨rfl, rfl⟩ := lk_d hk; exact so_lor F hd h
  case ldiv => obtain ⟨rfl, rfl⟩ := lk_d hk; exact so_ldiv F hd h
  case lrem => obtain ⟨rfl, rfl⟩ := lk_d hk; exact so_lrem F hd h
  case lshl => obtain ⟨rfl, rfl⟩ := lk_d hk; exact so_lshl F hd h
  case lcmp => obtain ⟨rfl, rfl⟩ := lk_d hk; exact so_lcmp F hd h
  case i2l => obtain ⟨rfl, rfl⟩ := lk_d hk; exact so_i2l F hd h
  case l2i => obtain ⟨rfl, rfl⟩ := lk_d hk; exact so_l2i F hd h
  case i2b => obtain ⟨rfl, rfl⟩ := lk_d hk; exact so_i2b F hd h
  case i2s => obtain ⟨rfl, rfl⟩ := lk_d hk; exact so_i2s F hd h
  case sipush v => exact so_const F hk hd h
  case jsr_w v => exact so_constL F hk hd h
  case iload i => exact so_iload F hk hd h
  case lload i => exact so_lload F hk hd h
  case aload i => exact so_aload F hk hd h
  case istore i => exact so_istore F hk hd h
  case astore i => exact so_astore F hk hd h
  case lstore i => exact so_lstore F hk hd h
  case getfield q => exact so_getfield F hk hd h
  case putfield q => exact so_putfield F hk hd h
  case getstatic q => exact so_getstatic F hk hd h
  case ldc q => exact so_ldcS F hk hd h
  case new q => exact so_new F hk hd h
  case newarray q => exact so_newarray F hk hd h
  case anewarray q => exact so_anewarray F hk hd h
  case multianewarray q r => exact so_multianewarray F hk hd h
  case monitorexit => exact so_objinit F hk hd h
  case tableswitch a b c d => exact so_tableswitch F hk hd h
  case lookupswitch a b => exact so_lookupswitch F hk hd h
  case iinc i v => obtain ⟨rfl, rfl⟩ := lk_d hk; exact so_iinc F hd h
  case invokestatic k => exact so_invstatic F hC hk hd h
  case invokevirtual k => exact so_invvirtual F hC hk hd h
  case invokespecial k => exact so_invspecial F hC hk hd h
  case invokeinterface a b => exact so_prim F hS hk hd h
  case goto t => 
    dsimp only [lkB] at hk
    split at hk
    · obtain ⟨k1, k2⟩ := am_bb hk
      cases Nat.eq_of_beq_eq_true k1
      exact so_goto F k2 hd h
    · cases hk
  case ifCond cnd t => 
    dsimp only [lkB] at hk
    split at hk
    · obtain ⟨hk, k3⟩ := am_bb hk
      obtain ⟨k1, k2⟩ := am_bb hk
      cases Nat.eq_of_beq_eq_true k1
      cases of_decide_eq_true k2
      cases cnd
      case eq => exact so_if_eq F k3 hd h
      case ne => exact so_if_ne F k3 hd h
      case lt => exact so_if_lt F k3 hd h
      case ge => exact so_if_ge F k3 hd h
      case gt => exact so_if_gt F k3 hd h
      case le => exact so_if_le F k3 hd h
    · cases hk
  case if_icmp cnd t => 
    dsimp only [lkB] at hk
    split at hk
    · obtain ⟨hk, k3⟩ := am_bb hk
      obtain ⟨k1, k2⟩ := am_bb hk
      cases Nat.eq_of_beq_eq_true k1
      cases of_decide_eq_true k2
      cases cnd
      case eq => exact so_icmp_eq F k3 hd h
      case ne => exact so_icmp_ne F k3 hd h
      case lt => exact so_icmp_lt F k3 hd h
      case ge => exact so_icmp_ge F k3 hd h
      case gt => exact so_icmp_gt F k3 hd h
      case le => exact so_icmp_le F k3 hd h
    · cases hk
  case ireturn => 
    obtain ⟨hk, k2⟩ := am_bb hk
    obtain ⟨rfl, rfl⟩ := lk_d hk
    obtain ⟨x, r, rfl, h_1⟩ := am_pi_inv h
    obtain ⟨hg, h_2⟩ := am_g_inv h_1
    cases List.isEmpty_iff.mp hg
    refine hI _ _ _ _ ?_ hd h_2
    rcases (Bool.or_eq_true _ _).mp k2 with q | q
    · exact Or.inl (of_decide_eq_true q)
    · exact Or.inr (of_decide_eq_true q)
  case lreturn => 
    obtain ⟨hk, k2⟩ := am_bb hk
    obtain ⟨rfl, rfl⟩ := lk_d hk
    obtain ⟨x, r, rfl, h_1⟩ := am_pl_inv h
    obtain ⟨hg, h_2⟩ := am_g_inv h_1
    cases List.isEmpty_iff.mp hg
    exact hJ _ _ _ _ (of_decide_eq_true k2) hd h_2
  case areturn => 
    obtain ⟨hk, k2⟩ := am_bb hk
    obtain ⟨rfl, rfl⟩ := lk_d hk
    obtain ⟨x, r, rfl, h_1⟩ := am_pr_inv h
    obtain ⟨hg, h_2⟩ := am_g_inv h_1
    cases List.isEmpty_iff.mp hg
    refine hA _ _ _ _ ?_ hd h_2
    split at k2
    · exact ⟨_, rfl, Or.inl ⟨_, rfl⟩⟩
    · exact ⟨_, rfl, Or.inr ⟨_, rfl⟩⟩
    · cases k2
  case return_ => 
    obtain ⟨hk, k2⟩ := am_bb hk
    obtain ⟨rfl, rfl⟩ := lk_d hk
    obtain ⟨hg, h_2⟩ := am_g_inv h
    cases List.isEmpty_iff.mp hg
    exact hV _ _ _ (of_decide_eq_true k2) hd h_2
  all_goals exact h.elim
/-- a run of the abstract machine is a run of the machine -/
theorem so_body (F : so_Fx p s m args meth c cc o nL nm G R z0 s0 zm sm d) {C : am_C} (hC : so_C l G d C) (hS : so_Str l G) {T : am_T} {rt : Option FieldType} (hT : lk_all o nm rt cc T = true) {Rt : Option Value → am_M → Prop}
    (hI : ∀ (x : Int32) (pc : Nat) (L : am_L) (M : am_M), (rt = some .int ∨ rt = some .boolean) → decode cc pc = .ok (.ireturn, 1) → Rt (some (.int x)) M → so_X p l e R s m args below meth c Q G nL z0 s0 zm sm pc L [.int x] M)
    (hJ : ∀ (x : Int64) (pc : Nat) (L : am_L) (M : am_M), rt = some .long → decode cc pc = .ok (.lreturn, 1) → Rt (some (.long x)) M → so_X p l e R s m args below meth c Q G nL z0 s0 zm sm pc L [.long x] M)
    (hA : ∀ (x : Nat) (pc : Nat) (L : am_L) (M : am_M), (∃ t, rt = some t ∧ ((∃ n, t = .object n) ∨ ∃ u, t = .array u)) → decode cc pc = .ok (.areturn, 1) → Rt (some (.ref x)) M → so_X p l e R s m args below meth c Q G nL z0 s0 zm sm pc L [.ref x] M)
    (hV : ∀ (pc : Nat) (L : am_L) (M : am_M), rt = none → decode cc pc = .ok (.return_, 1) → Rt none M → so_X p l e R s m args below meth c Q G nL z0 s0 zm sm pc L [] M)
    {pc : Nat} {L : am_L} {st : List Value} {M : am_M} (h : am_WP am_mt C T zm sm Rt pc L st M) : so_X p l e R s m args below meth c Q G nL z0 s0 zm sm pc L st M := by
  refine h _ fun pc L st M h => ?_
  unfold am_F at h
  split at h
  · rename_i q hq
    obtain ⟨orig, h1, h2⟩ := lk_at hT hq
    exact so_one F hC hS hI hJ hA hV h2 h1 h
  · exact h.elim
end SO
/-- a contract out of a walk, for a method that no entry runs instead -/
theorem so_ofW {l : Launch} {y : MethodName} {ws ws' : List Jvm.Cond} {rm : Room} {Pc : Array Value → State → Prop} {Qc : Array Value → State → Outcome → State → Prop} {mc ms : Nat} {free : Addr → Prop} {cc : ByteArray} {maxL : Nat} {ret : Option FieldType}
    (hy : plainFor y = true) (hw : ws = Jvm.Cond.code y cc maxL ret :: ws')
    (body : ∀ p e s m args below meth c s₁, BodyLoose p l y (headSpec ws rm) cc maxL ret e s m args below meth c s₁ → c.maxLocals = maxL → Pc args s →
      W p l e (headSpec ws rm).room s m args below meth c s.heap [] 0 0 (MQ below Qc args s mc ms free) (entryFrame m args maxL)) : Met l y ws rm Pc Qc mc ms free := by
  refine MetFree.of_bodySF (code := cc) (maxLocals := maxL) (ret := ret) hy ?_ ?_
  · intro args s m h hn
    obtain ⟨meth, c, h1, h2, h3, h4, h5, h6, -, -⟩ := Cond.code_spec hn (atoms_spec (ws := ws) h _ (by rw [hw]; exact List.mem_cons_self))
    exact ⟨meth, c, h1, h2, h3, h4, h5, h6⟩
  · intro p e s m args below meth c s₁ B hml hP _
    have hh0 : s₁.heap = s.heap := by rw [B.state]; rfl
    obtain ⟨t, a1, o, b1, b2, b3⟩ := body p e s m args below meth c s₁ B hml hP s₁ hh0 (Stand.of_body B)
    exact ⟨t, o, a1, b1, b2, ⟨b3.1, b3.2⟩⟩
theorem so_loc_len (G : so_G) : ∀ as : List Value, (lg_sl (as.map (so_v G))).length = (am_loc as).length
  | [] => rfl
  | v :: as => by
    have ih := so_loc_len G as
    unfold lg_sl at ih ⊢
    rw [List.map_cons, List.flatMap_cons, List.length_append, ih, so_v_cat]
    cases v <;> simp [am_loc, Value.category] <;> omega
theorem so_loc_at (G : so_G) : ∀ (as : List Value) (i0 j : Nat) (v : Value), am_nth (am_loc as) j = some v → (i0 + j, so_v G v) ∈ lv_args i0 (as.map (so_v G))
  | [], _, _, _, h => by cases h
  | w :: as, i0, 0, v, h => by
    cases h
    exact List.mem_cons_self
  | w :: as, i0, j + 1, v, h => by
    refine List.mem_cons_of_mem _ ?_
    rw [so_v_cat]
    by_cases h2 : w.category = 2
    · rw [if_pos h2]
      have h3 : am_nth (none :: am_loc as) j = some v := by cases w <;> first | exact h | cases h2
      cases j with
      | zero => cases h3
      | succ j =>
        have := so_loc_at G as (i0 + 2) j v h3
        rw [show i0 + (j + 1 + 1) = i0 + 2 + j by omega]
        exact this
    · rw [if_neg h2]
      have h3 : am_nth (am_loc as) j = some v := by cases w <;> first | exact h | exact absurd rfl h2
      have := so_loc_at G as (i0 + 1) j v h3
      rw [show i0 + (j + 1) = i0 + 1 + j by omega]
      exact this
theorem am_nth_app : ∀ (l : am_L) (n j : Nat) (v : Value), am_nth (l ++ List.replicate n none) j = some v → am_nth l j = some v
  | [], 0, _, _, h => h
  | [], n + 1, 0, _, h => by cases h
  | [], n + 1, j + 1, v, h => by
    have := am_nth_app [] n j v h
    cases this
  | _ :: _, _, 0, _, h => h
  | _ :: l, n, j + 1, v, h => am_nth_app l n j v h
theorem so_entry (G : so_G) {as : List Value} {n : Nat} (h : (am_loc as).length ≤ n) : so_L G ((lg_sl (as.map (so_v G)) ++ List.replicate (n - (lg_sl (as.map (so_v G))).length) Slot.unset).toArray) n (am_ent n as) := by
  have hl := lv_entry (as.map (so_v G)) (n := n) (by rw [so_loc_len]; exact h)
  refine ⟨hl.1, hl.2.1, by unfold am_ent; rw [List.length_append, List.length_replicate]; omega, fun i v hv => ?_⟩
  have := so_loc_at G as 0 i v (am_nth_app _ _ _ _ hv)
  rw [Nat.zero_add] at this
  exact hl.2.2 _ this
set_option maxHeartbeats 4000000 in
/-- calls of any depth are sound -/
theorem so_sound {l : Launch} {G : so_G} (hS : so_Str l G) : ∀ d : Nat, so_C l G d (am_AC d)
  | 0 => fun _ _ _ _ _ h => h.elim
  | d + 1 => fun k as M Q hk h => by
    have hC := so_sound hS d
    obtain ⟨b1, b2, b3, b4, b5, b6, b7, b8, b9, b10, b11, b12, b13⟩ := so_mlok hk
    obtain ⟨hlen, h⟩ := am_g_inv h
    have hlen : (am_loc as).length ≤ am_mL k := Nat.le_of_ble_eq_true hlen
    refine so_ofW (cc := ml_b k) (maxL := am_mL k) (ret := ml_r k) (ws' := lw_tbg) b6 rfl ?_
    intro p e s m args below meth c s₁ B hml hv
    obtain ⟨rfl, hK, hH⟩ := hv
    have hts : ∀ w ∈ lw_tbg, w.before (as.map (so_v G)).toArray s = true := fun w hw => atoms_spec (ws := so_ws k) B.pre w (List.mem_cons_of_mem _ hw)
    have hown : s.vm.findClass (cl_R (ml_o k)) = some m.cls := by rw [← b8]; exact findClass_of_methodNamed B.named
    have hname : meth.name = (ml_y k).name := (name_of_methodNamed B.named B.method).1
    have hlocks := B.notSynchronized
    have ho15 : ml_o k < 15 := ml_o_lt hk
    have F : so_Fx p s m (as.map (so_v G)).toArray meth c (ml_b k) (ml_o k) (am_mL k) (ml_y k).name G (headSpec (so_ws k) (so_rm (d + 1) k)).room M.2.2.2.1 M.2.2.2.2.1 (M.2.2.2.1 + (am_mt k).2.2.2.1) (M.2.2.2.2.1 + (am_mt k).2.2.2.2) d := ⟨B.exec, B.bytes, hml, hown, hts, hK, hname, Nat.le_refl _, Nat.le_refl _, by show d + 6 ≤ d + 1 + 5; omega, by show 40 * d + 240 ≤ 40 * (d + 1) + 200; omega, ho15⟩
    rw [lg_entry_eq]
    have hend : ∀ (v : Option Value) (M' : am_M) (H : Heap) (ls : Array Slot) (L : am_L) (locs : List Loc) (cells slots : Nat), am_R k M Q v M' → so_S G (am_mL k) M.2.2.2.1 M.2.2.2.2.1 (M.2.2.2.1 + (am_mt k).2.2.2.1) (M.2.2.2.2.1 + (am_mt k).2.2.2.2) s L M' H ls locs cells slots → Q v M' ∧ M'.2.2.2.1 = M.2.2.2.1 + (am_mt k).2.2.2.1 ∧ M'.2.2.2.2.1 = M.2.2.2.2.1 + (am_mt k).2.2.2.2 ∧ (ml_r k = some .boolean → ∀ x, v = some (.int x) → x = 0 ∨ x = 1) := by
      intro v M' H ls L locs cells slots hR S
      obtain ⟨S1, S2, S3, S4, S5, S6, S7⟩ := S
      have hz : (ml_r k = some .boolean → ∀ x, v = some (.int x) → x = 0 ∨ x = 1) ∧ cond (Nat.beq (am_mt k).2.2.2.1 0) (Q v M') ((M'.2.2.2.1 = M.2.2.2.1 + (am_mt k).2.2.2.1 ∧ M'.2.2.2.2.1 = M.2.2.2.2.1 + (am_mt k).2.2.2.2) ∧ Q v M') := by
        unfold am_R am_zq at hR
        rw [b13] at hR
        split at hR
        · rename_i q
          exact ⟨fun q2 => absurd q2 (of_decide_eq_false q), hR⟩
        · split at hR
          · rename_i y
            obtain ⟨h1, h2⟩ := am_g_inv hR
            refine ⟨fun _ x hx => ?_, h2⟩
            cases hx
            rcases (Bool.or_eq_true _ _).mp h1 with h1 | h1
            · exact Or.inl (of_decide_eq_true h1)
            · exact Or.inr (of_decide_eq_true h1)
          · exact hR.elim
      obtain ⟨hz1, hz2⟩ := hz
      cases hb : Nat.beq (am_mt k).2.2.2.1 0 with
      | true =>
        rw [hb] at hz2
        have h0 := Nat.eq_of_beq_eq_true hb
        have h00 := am_ms0 hk h0
        exact ⟨hz2, by omega, by omega, hz1⟩
      | false =>
        rw [hb] at hz2
        exact ⟨hz2.2, hz2.1.1, hz2.1.2, hz1⟩
    have hcells : ∀ {M' : am_M} {H : Heap} {ls : Array Slot} {L : am_L} {locs : List Loc} {cells slots : Nat}, so_S G (am_mL k) M.2.2.2.1 M.2.2.2.2.1 (M.2.2.2.1 + (am_mt k).2.2.2.1) (M.2.2.2.2.1 + (am_mt k).2.2.2.2) s L M' H ls locs cells slots → M'.2.2.2.1 = M.2.2.2.1 + (am_mt k).2.2.2.1 → M'.2.2.2.2.1 = M.2.2.2.2.1 + (am_mt k).2.2.2.2 → cells = (am_mt k).2.2.2.1 ∧ slots = (am_mt k).2.2.2.2 := by
      intro M' H ls L locs cells slots S q1 q2
      obtain ⟨S1, S2, S3, S4, S5, S6, S7⟩ := S
      omega
    refine so_body F hC hS (lkA_257 k hk) ?_ ?_ ?_ ?_ h s.heap _ [] 0 0 ⟨so_entry G hlen, hH, rfl, rfl, Nat.le_add_right _ _, Nat.le_add_right _ _, fun q hq => by cases hq⟩
    · intro x pc L M' hrt hdc hR H ls locs cells slots S
      obtain ⟨q1, q2, q3, q4⟩ := hend _ _ _ _ _ _ _ _ hR S
      obtain ⟨rfl, rfl⟩ := hcells S q2 q3
      have hfin : ∀ t : State, t.heap = H → s.WarmedH t.vm → so_Q G (am_mt k).2.2.2.1 (am_mt k).2.2.2.2 M Q (as.map (so_v G)).toArray s (.returned (some (.int x))) t := fun t ht hW => ⟨some (.int x), M', rfl, q1, q2, q3, by rw [ht]; exact S.2.1.moved hW.alike⟩
      rcases hrt with hrt | hrt
      · exact W.iret B.exec B.bytes (B.returns.trans hrt) hfin S.2.2.2.2.2.2 hdc hlocks
      · refine W.zret (ty := .boolean) B.exec B.bytes (B.returns.trans hrt) ?_ hfin S.2.2.2.2.2.2 hdc hlocks
        rcases q4 hrt x rfl with e | e <;> rw [e] <;> rfl
    · intro x pc L M' hrt hdc hR H ls locs cells slots S
      obtain ⟨q1, q2, q3, q4⟩ := hend _ _ _ _ _ _ _ _ hR S
      obtain ⟨rfl, rfl⟩ := hcells S q2 q3
      exact W.lret B.exec B.bytes (B.returns.trans hrt) (fun t ht hW => ⟨some (.long x), M', rfl, q1, q2, q3, by rw [ht]; exact S.2.1.moved hW.alike⟩) S.2.2.2.2.2.2 hdc hlocks
    · intro x pc L M' hrt hdc hR H ls locs cells slots S
      obtain ⟨q1, q2, q3, q4⟩ := hend _ _ _ _ _ _ _ _ hR S
      obtain ⟨rfl, rfl⟩ := hcells S q2 q3
      obtain ⟨t, ht, hto⟩ := hrt
      exact W.aret B.exec B.bytes (B.returns.trans ht) hto (Or.inr ⟨_, rfl⟩) (fun t ht hW => ⟨some (.ref x), M', rfl, q1, q2, q3, by rw [ht]; exact S.2.1.moved hW.alike⟩) S.2.2.2.2.2.2 hdc hlocks
    · intro pc L M' hrt hdc hR H ls locs cells slots S
      obtain ⟨q1, q2, q3, q4⟩ := hend _ _ _ _ _ _ _ _ hR S
      obtain ⟨rfl, rfl⟩ := hcells S q2 q3
      exact W.vret B.exec B.bytes (B.returns.trans hrt) (fun t ht hW => ⟨none, M', rfl, q1, q2, q3, by rw [ht]; exact S.2.1.moved hW.alike⟩) S.2.2.2.2.2.2 hdc hlocks
