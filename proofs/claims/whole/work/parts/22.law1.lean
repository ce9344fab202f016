/-! the law's table against its bytes -/
theorem lk_law_0 : lk_all 11 "" (some .boolean) code tb_law_0 = true := by decide +kernel
theorem lk_law_1 : lk_all 11 "" (some .boolean) code tb_law_1 = true := by decide +kernel
theorem lk_law_2 : lk_all 11 "" (some .boolean) code tb_law_2 = true := by decide +kernel
theorem lk_law_3 : lk_all 11 "" (some .boolean) code tb_law_3 = true := by decide +kernel
theorem lk_law_4 : lk_all 11 "" (some .boolean) code tb_law_4 = true := by decide +kernel
theorem lk_law_5 : lk_all 11 "" (some .boolean) code tb_law_5 = true := by decide +kernel
theorem lk_law_6 : lk_all 11 "" (some .boolean) code tb_law_6 = true := by decide +kernel
theorem lk_law_7 : lk_all 11 "" (some .boolean) code tb_law_7 = true := by decide +kernel
theorem lk_law_8 : lk_all 11 "" (some .boolean) code tb_law_8 = true := by decide +kernel
theorem lk_law_9 : lk_all 11 "" (some .boolean) code tb_law_9 = true := by decide +kernel
theorem lk_law_10 : lk_all 11 "" (some .boolean) code tb_law_10 = true := by decide +kernel
theorem lk_law_11 : lk_all 11 "" (some .boolean) code tb_law_11 = true := by decide +kernel
theorem lk_law_12 : lk_all 11 "" (some .boolean) code tb_law_12 = true := by decide +kernel
theorem lk_law_13 : lk_all 11 "" (some .boolean) code tb_law_13 = true := by decide +kernel
theorem lk_law_14 : lk_all 11 "" (some .boolean) code tb_law_14 = true := by decide +kernel
