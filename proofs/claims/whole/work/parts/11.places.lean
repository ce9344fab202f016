/-! places of words for the soundness -/
def pl_u (c : Nat) : List Nat := match c with
  | 0 => [220, 222, 224, 226, 228, 230, 232, 234, 236, 238]
  | 1 => [361, 363]
  | 2 => [189, 191, 193, 195, 197, 199]
  | 3 => [292, 294, 296]
  | 4 => [251, 253, 255, 257]
  | 5 => [345, 347, 349]
  | 6 => [279, 281, 283]
  | 7 => [314, 316, 318, 320, 322, 324, 326, 328]
  | 8 => [381, 383, 385, 387, 389, 391, 393, 395, 397, 399, 401]
  | 9 => [1076, 1078, 1080, 1082, 1084, 1086, 1088, 1090, 1092, 1094, 1096, 1098, 1100, 1102, 1104, 1106, 1108, 1110, 1112, 1114, 1116, 1118, 1120, 1122, 1124, 1126, 1128, 1130, 1132, 1134, 1136, 1138, 1140, 1142, 1144, 1146, 1148]
  | _ => []
theorem pl_u_ok : (List.range 10).all (fun c => (List.range (cl_N c)).all fun j => lw_is ((pl_u c).getD j 0) (u_lay (cl_R c) (cl_T c) j)) = true := by decide +kernel
def pl_n (c : Nat) : Nat × Nat := match c with
  | 0 => (204, 106)
  | 1 => (354, 113)
  | 2 => (138, 103)
  | 3 => (261, 108)
  | 4 => (242, 107)
  | 5 => (332, 111)
  | 6 => (267, 109)
  | 7 => (300, 110)
  | 8 => (121, 101)
  | 9 => (1002, 114)
  | _ => (0, 0)
theorem pl_n_ok : (List.range 10).all (fun c => lw_is (pl_n c).1 (.instantiable (cl_R c) (cl_N c)) && lw_is (pl_n c).2 (.initialized (cl_R c))) = true := by decide +kernel
theorem cl_ok : (List.range 10).all (fun c => decide (vwCl[c]?.map (fun q => (q.1, q.2.2)) = some (cl_R c, cl_N c)) && (List.range (cl_N c)).all (fun j => decide ((cl_T c j).1 = cl_R c) && decide (parseFieldDescriptor (cl_T c j).2.2.1 = some (cl_Y c j)) && (cond (Nat.beq (sh_f c j) 1) (match cl_Y c j with | .object _ => true | .array _ => true | _ => false) (cond (Nat.beq (sh_f c j) 0) (decide (cl_Y c j = .int)) (decide (cl_Y c j = .boolean) && Nat.beq (sh_f c j) 3)))) && (List.range (cl_N c)).all (fun a => (List.range (cl_N c)).all fun b => Nat.beq a b || decide ((cl_T c a).2.1 ≠ (cl_T c b).2.1))) = true := by decide +kernel
theorem cl_vw : ∀ c, c < 10 → vwCl[c]? = some (cl_R c, cl_T c, cl_N c)
  | 0, _ => rfl
  | 1, _ => rfl
  | 2, _ => rfl
  | 3, _ => rfl
  | 4, _ => rfl
  | 5, _ => rfl
  | 6, _ => rfl
  | 7, _ => rfl
  | 8, _ => rfl
  | 9, _ => rfl
  | _ + 10, h => by omega
theorem nb_hi {a k : Nat} (h : k < a) : Nat.ble a k = false := by
  cases e : Nat.ble a k with
  | false => rfl
  | true => exact absurd (Nat.le_of_ble_eq_true e) (by omega)
theorem sh_hi {a : Nat} (h : 1497 ≤ a) : sh_t a = 99 ∧ sh_n a = 0 := by
  unfold sh_t sh_n
  simp only [nb_hi (show 1395 < a by omega), nb_hi (show 1464 < a by omega), nb_hi (show 1482 < a by omega), nb_hi (show 1489 < a by omega), nb_hi (show 1493 < a by omega), nb_hi (show 1495 < a by omega), nb_hi (show 1496 < a by omega), cond_false, and_self]
theorem sh_obj_lo : (List.range 1497).all (fun a => cond (Nat.ble 10 (sh_t a)) (Nat.beq (sh_n a) (cl_N (sh_t a - 10)) && Nat.ble (sh_t a) 19) (Nat.ble (sh_t a) 6)) = true := by decide +kernel
theorem sh_obj {a c : Nat} (h : sh_t a = 10 + c) : sh_n a = cl_N c := by
  rcases Nat.lt_or_ge a 1497 with h1 | h1
  · have h2 := List.all_eq_true.mp sh_obj_lo a (List.mem_range.mpr h1)
    rw [h, show Nat.ble 10 (10 + c) = true from Nat.ble_eq_true_of_le (by omega), show 10 + c - 10 = c by omega] at h2
    exact Nat.eq_of_beq_eq_true ((Bool.and_eq_true _ _).mp h2).1
  · obtain ⟨h2, h3⟩ := sh_hi h1
    rw [h2] at h
    have : c = 89 := by omega
    subst this
    rw [h3]
    rfl
theorem lw_objI : (.instanceMethod Lib.objectInit : Jvm.Cond) ∈ lw_tbg := lw_is_in (p := 126) (by decide +kernel)
theorem lw_objC : (.code Lib.objectInit ⟨#[0xb1]⟩ 1 none : Jvm.Cond) ∈ lw_tbg := lw_is_in (p := 127) (by decide +kernel)
theorem lw_minS : (.static Lib.Math.min.name : Jvm.Cond) ∈ lw_tbg := lw_is_in (p := 446) (by decide +kernel)
theorem lw_minC : (.code Lib.Math.min.name Lib.Math.min.code 2 (some .int) : Jvm.Cond) ∈ lw_tbg := lw_is_in (p := 447) (by decide +kernel)
theorem lw_maxS : (.static Lib.Math.max.name : Jvm.Cond) ∈ lw_tbg := lw_is_in (p := 834) (by decide +kernel)
theorem lw_maxC : (.code Lib.Math.max.name Lib.Math.max.code 2 (some .int) : Jvm.Cond) ∈ lw_tbg := lw_is_in (p := 835) (by decide +kernel)
theorem lw_mathI : (.initialized "java/lang/Math" : Jvm.Cond) ∈ lw_tbg := lw_is_in (p := 104) (by decide +kernel)
theorem lw_cpyN : (.native arraycopyName : Jvm.Cond) ∈ lw_tbg := lw_is_in (p := 1000) (by decide +kernel)
theorem lw_cpyS : (.static arraycopyName : Jvm.Cond) ∈ lw_tbg := lw_is_in (p := 999) (by decide +kernel)
theorem lw_sysI : (.initialized "java/lang/System" : Jvm.Cond) ∈ lw_tbg := lw_is_in (p := 119) (by decide +kernel)
theorem lw_arI : (.arrayClass .int : Jvm.Cond) ∈ lw_tbg := lw_is_in (p := 202) (by decide +kernel)
theorem lw_arZ : (.arrayClass .boolean : Jvm.Cond) ∈ lw_tbg := lw_is_in (p := 1151) (by decide +kernel)
theorem lw_arJ : (.arrayClass .long : Jvm.Cond) ∈ lw_tbg := lw_is_in (p := 352) (by decide +kernel)
theorem lw_starts : (.fieldLink (cl_R 2) 48 "EightBlocks$Golay" "STARTS" "[I" : Jvm.Cond) ∈ lw_tbg := lw_is_in (p := 148) (by decide +kernel)
theorem lw_lenC : (.code ⟨"java/lang/String", "length", "()I"⟩ cJ0_length_8abf5 1 (some .int) : Jvm.Cond) ∈ lw_tbg := lw_is_in (p := 650) (by decide +kernel)
theorem lw_chrC : (.code ⟨"java/lang/String", "charAt", "(I)C"⟩ cJ0_charAt_5068e 2 (some .char) : Jvm.Cond) ∈ lw_tbg := lw_is_in (p := 660) (by decide +kernel)
theorem lw_lenI : (.instanceMethod ⟨"java/lang/String", "length", "()I"⟩ : Jvm.Cond) ∈ lw_tbg := lw_is_in (p := 648) (by decide +kernel)
theorem lw_chrI : (.instanceMethod ⟨"java/lang/String", "charAt", "(I)C"⟩ : Jvm.Cond) ∈ lw_tbg := lw_is_in (p := 658) (by decide +kernel)
theorem lw_lenS : (.selects "java/lang/String" ⟨"java/lang/String", "length", "()I"⟩ ⟨"java/lang/String", "length", "()I"⟩ : Jvm.Cond) ∈ lw_tbg := lw_is_in (p := 649) (by decide +kernel)
theorem lw_chrS : (.selects "java/lang/String" ⟨"java/lang/String", "charAt", "(I)C"⟩ ⟨"java/lang/String", "charAt", "(I)C"⟩ : Jvm.Cond) ∈ lw_tbg := lw_is_in (p := 659) (by decide +kernel)
theorem lw_strI : (.initialized "java/lang/String" : Jvm.Cond) ∈ lw_tbg := lw_is_in (p := 115) (by decide +kernel)
theorem sh_str {a : Nat} (h : sh_t a = 6) : 2 ≤ a ∧ a < 12 := by
  rcases Nat.lt_or_ge a 1497 with h1 | h1
  · have h2 : (List.range 1497).all (fun a => cond (Nat.beq (sh_t a) 6) (Nat.ble 2 a && Nat.ble (a + 1) 12) true) = true := by decide +kernel
    have h3 := List.all_eq_true.mp h2 a (List.mem_range.mpr h1)
    rw [h] at h3
    have h4 := (Bool.and_eq_true _ _).mp h3
    exact ⟨Nat.le_of_ble_eq_true h4.1, Nat.le_of_ble_eq_true h4.2⟩
  · rw [(sh_hi h1).1] at h; cases h
