/-! places of words for the soundness -/
def pl_u (c : Nat) : List Nat := match c with
  | 0 => [220, 222, 224, 226, 228, 230, 232, 234, 236]
  | 1 => [359, 361]
  | 2 => [190, 192, 194, 196, 198, 200]
  | 3 => [290, 292, 294]
  | 4 => [249, 251, 253, 255]
  | 5 => [343, 345, 347]
  | 6 => [277, 279, 281]
  | 7 => [312, 314, 316, 318, 320, 322, 324, 326]
  | 8 => [379, 381, 383, 385, 387, 389, 391, 393, 395, 397, 399]
  | 9 => [1077, 1079, 1081, 1083, 1085, 1087, 1089, 1091, 1093, 1095, 1097, 1099, 1101, 1103, 1105, 1107, 1109, 1111, 1113, 1115, 1117, 1119, 1121, 1123, 1125, 1127, 1129, 1131, 1133, 1135, 1137, 1139, 1141, 1143, 1145, 1147, 1149]
  | _ => []
theorem pl_u_ok : (List.range 10).all (fun c => (List.range (cl_N c)).all fun j => lw_is ((pl_u c).getD j 0) (u_lay (cl_R c) (cl_T c) j)) = true := by decide +kernel
def pl_n (c : Nat) : Nat × Nat := match c with
  | 0 => (205, 107)
  | 1 => (352, 114)
  | 2 => (139, 104)
  | 3 => (259, 109)
  | 4 => (240, 108)
  | 5 => (330, 112)
  | 6 => (265, 110)
  | 7 => (298, 111)
  | 8 => (122, 102)
  | 9 => (1003, 115)
  | _ => (0, 0)
theorem pl_n_ok : (List.range 10).all (fun c => lw_is (pl_n c).1 (.instantiable (cl_R c) (cl_N c)) && lw_is (pl_n c).2 (.initialized (cl_R c))) = true := by decide +kernel
theorem cl_ok : (List.range 10).all (fun c => decide (vwCl[c]?.map (fun q => (q.1, q.2.2)) = some (cl_R c, cl_N c)) && (List.range (cl_N c)).all (fun j => decide ((cl_T c j).1 = cl_R c) && decide (parseFieldDescriptor (cl_T c j).2.2.1 = some (cl_Y c j)) && (cond (Nat.beq (sh_f c j) 1) (match cl_Y c j with | .object _ => true | .array _ => true | _ => false) (cond (Nat.beq (sh_f c j) 0) (decide (cl_Y c j = .int)) (decide (cl_Y c j = .boolean) && Nat.beq (sh_f c j) 3)))) && (List.range (cl_N c)).all (fun a => (List.range (cl_N c)).all fun b => Nat.beq a b || decide ((cl_T c a).2.1 ≠ (cl_T c b).2.1))) = true := by decide +kernel
theorem cl_vw : ∀ c, c < 10 → vwCl[c]? = some (cl_R c, cl_T c, cl_N c)
  | 0, _ => rfl
  | 1, _ => rfl
  | 2, _ => rfl
  | 3, _ => rfl
  | 4, _ => rfl
  | 5, _ => rfl
  | 6, _ => rfl
  | 7, _ => rfl
  | 8, _ => rfl
  | 9, _ => rfl
  | _ + 10, h => by omega
theorem nb_hi {a k : Nat} (h : k < a) : Nat.ble a k = false := by
  cases e : Nat.ble a k with
  | false => rfl
  | true => exact absurd (Nat.le_of_ble_eq_true e) (by omega)
theorem sh_hi {a : Nat} (h : 1496 ≤ a) : sh_t a = 99 ∧ sh_n a = 0 := by
  unfold sh_t sh_n
  simp only [nb_hi (show 1394 < a by omega), nb_hi (show 1463 < a by omega), nb_hi (show 1481 < a by omega), nb_hi (show 1488 < a by omega), nb_hi (show 1492 < a by omega), nb_hi (show 1494 < a by omega), nb_hi (show 1495 < a by omega), cond_false, and_self]
theorem sh_obj_lo : (List.range 1496).all (fun a => cond (Nat.ble 10 (sh_t a)) (Nat.beq (sh_n a) (cl_N (sh_t a - 10)) && Nat.ble (sh_t a) 19) (Nat.ble (sh_t a) 6)) = true := by decide +kernel
theorem sh_obj {a c : Nat} (h : sh_t a = 10 + c) : sh_n a = cl_N c := by
  rcases Nat.lt_or_ge a 1496 with h1 | h1
  · have h2 := List.all_eq_true.mp sh_obj_lo a (List.mem_range.mpr h1)
    rw [h, show Nat.ble 10 (10 + c) = true from Nat.ble_eq_true_of_le (by omega), show 10 + c - 10 = c by omega] at h2
    exact Nat.eq_of_beq_eq_true ((Bool.and_eq_true _ _).mp h2).1
  · obtain ⟨h2, h3⟩ := sh_hi h1
    rw [h2] at h
    have : c = 89 := by omega
    subst this
    rw [h3]
    rfl
theorem lw_objI : (.instanceMethod Lib.objectInit : Jvm.Cond) ∈ lw_tbg := lw_is_in (p := 127) (by decide +kernel)
theorem lw_objC : (.code Lib.objectInit ⟨#[0xb1]⟩ 1 none : Jvm.Cond) ∈ lw_tbg := lw_is_in (p := 128) (by decide +kernel)
theorem lw_minS : (.static Lib.Math.min.name : Jvm.Cond) ∈ lw_tbg := lw_is_in (p := 444) (by decide +kernel)
theorem lw_minC : (.code Lib.Math.min.name Lib.Math.min.code 2 (some .int) : Jvm.Cond) ∈ lw_tbg := lw_is_in (p := 445) (by decide +kernel)
theorem lw_maxS : (.static Lib.Math.max.name : Jvm.Cond) ∈ lw_tbg := lw_is_in (p := 835) (by decide +kernel)
theorem lw_maxC : (.code Lib.Math.max.name Lib.Math.max.code 2 (some .int) : Jvm.Cond) ∈ lw_tbg := lw_is_in (p := 836) (by decide +kernel)
theorem lw_mathI : (.initialized "java/lang/Math" : Jvm.Cond) ∈ lw_tbg := lw_is_in (p := 105) (by decide +kernel)
theorem lw_cpyN : (.native arraycopyName : Jvm.Cond) ∈ lw_tbg := lw_is_in (p := 1001) (by decide +kernel)
theorem lw_cpyS : (.static arraycopyName : Jvm.Cond) ∈ lw_tbg := lw_is_in (p := 1000) (by decide +kernel)
theorem lw_sysI : (.initialized "java/lang/System" : Jvm.Cond) ∈ lw_tbg := lw_is_in (p := 120) (by decide +kernel)
theorem lw_arI : (.arrayClass .int : Jvm.Cond) ∈ lw_tbg := lw_is_in (p := 203) (by decide +kernel)
theorem lw_arZ : (.arrayClass .boolean : Jvm.Cond) ∈ lw_tbg := lw_is_in (p := 1152) (by decide +kernel)
theorem lw_arJ : (.arrayClass .long : Jvm.Cond) ∈ lw_tbg := lw_is_in (p := 350) (by decide +kernel)
theorem lw_starts : (.fieldLink (cl_R 2) 48 "EightBlocks$Golay" "STARTS" "[I" : Jvm.Cond) ∈ lw_tbg := lw_is_in (p := 149) (by decide +kernel)
theorem lw_lenC : (.code ⟨"java/lang/String", "length", "()I"⟩ cJ0_length_8abf5 1 (some .int) : Jvm.Cond) ∈ lw_tbg := lw_is_in (p := 652) (by decide +kernel)
theorem lw_chrC : (.code ⟨"java/lang/String", "charAt", "(I)C"⟩ cJ0_charAt_5068e 2 (some .char) : Jvm.Cond) ∈ lw_tbg := lw_is_in (p := 662) (by decide +kernel)
theorem lw_lenI : (.instanceMethod ⟨"java/lang/String", "length", "()I"⟩ : Jvm.Cond) ∈ lw_tbg := lw_is_in (p := 650) (by decide +kernel)
theorem lw_chrI : (.instanceMethod ⟨"java/lang/String", "charAt", "(I)C"⟩ : Jvm.Cond) ∈ lw_tbg := lw_is_in (p := 660) (by decide +kernel)
theorem lw_lenS : (.selects "java/lang/String" ⟨"java/lang/String", "length", "()I"⟩ ⟨"java/lang/String", "length", "()I"⟩ : Jvm.Cond) ∈ lw_tbg := lw_is_in (p := 651) (by decide +kernel)
theorem lw_chrS : (.selects "java/lang/String" ⟨"java/lang/String", "charAt", "(I)C"⟩ ⟨"java/lang/String", "charAt", "(I)C"⟩ : Jvm.Cond) ∈ lw_tbg := lw_is_in (p := 661) (by decide +kernel)
theorem lw_strI : (.initialized "java/lang/String" : Jvm.Cond) ∈ lw_tbg := lw_is_in (p := 116) (by decide +kernel)
theorem sh_str {a : Nat} (h : sh_t a = 6) : 2 ≤ a ∧ a < 12 := by
  rcases Nat.lt_or_ge a 1496 with h1 | h1
  · have h2 : (List.range 1496).all (fun a => cond (Nat.beq (sh_t a) 6) (Nat.ble 2 a && Nat.ble (a + 1) 12) true) = true := by decide +kernel
    have h3 := List.all_eq_true.mp h2 a (List.mem_range.mpr h1)
    rw [h] at h3
    have h4 := (Bool.and_eq_true _ _).mp h3
    exact ⟨Nat.le_of_ble_eq_true h4.1, Nat.le_of_ble_eq_true h4.2⟩
  · rw [(sh_hi h1).1] at h; cases h
