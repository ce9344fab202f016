/-! String.length and String.charAt: the contracts that so_Str asks -/
def jd_yCod : MethodName := ⟨"java/lang/String", "coder", "()B"⟩
def jd_yIsl : MethodName := ⟨"java/lang/String", "isLatin1", "()Z"⟩
def jd_yChk : MethodName := ⟨"java/lang/String", "checkIndex", "(II)V"⟩
def jd_yL1 : MethodName := ⟨"java/lang/StringLatin1", "charAt", "([BI)C"⟩
def jd_yPre : MethodName := ⟨"jdk/internal/util/Preconditions", "checkIndex", "(IILjava/util/function/BiFunction;)I"⟩
theorem jw_cs : (.fieldLink "java/lang/String" 38 "java/lang/String" "COMPACT_STRINGS" "Z" : Jvm.Cond) ∈ lw_tbg := lw_is_in (p := 655) (by decide +kernel)
theorem jw_cod : (.fieldLink "java/lang/String" 15 "java/lang/String" "coder" "B" : Jvm.Cond) ∈ lw_tbg := lw_is_in (p := 1564) (by decide +kernel)
theorem jw_val : (.fieldLink "java/lang/String" 9 "java/lang/String" "value" "[B" : Jvm.Cond) ∈ lw_tbg := lw_is_in (p := 1563) (by decide +kernel)
theorem jw_sio : (.fieldLink "java/lang/String" 1053 "jdk/internal/util/Preconditions" "SIOOBE_FORMATTER" "Ljava/util/function/BiFunction;" : Jvm.Cond) ∈ lw_tbg := lw_is_in (p := 671) (by decide +kernel)
theorem jw_coder_l : (.methodLink "java/lang/String" 335 jd_yCod : Jvm.Cond) ∈ lw_tbg := lw_is_in (p := 651) (by decide +kernel)
theorem jw_coder_i : (.instanceMethod jd_yCod : Jvm.Cond) ∈ lw_tbg := lw_is_in (p := 652) (by decide +kernel)
theorem jw_coder_s : (.selects "java/lang/String" jd_yCod jd_yCod : Jvm.Cond) ∈ lw_tbg := lw_is_in (p := 653) (by decide +kernel)
theorem jw_coder_c : (.code jd_yCod cJ0_coder_7d493 1 (some .byte) : Jvm.Cond) ∈ lw_tbg := lw_is_in (p := 654) (by decide +kernel)
theorem jw_isl_l : (.methodLink "java/lang/String" 492 jd_yIsl : Jvm.Cond) ∈ lw_tbg := lw_is_in (p := 661) (by decide +kernel)
theorem jw_isl_i : (.instanceMethod jd_yIsl : Jvm.Cond) ∈ lw_tbg := lw_is_in (p := 662) (by decide +kernel)
theorem jw_isl_s : (.selects "java/lang/String" jd_yIsl jd_yIsl : Jvm.Cond) ∈ lw_tbg := lw_is_in (p := 663) (by decide +kernel)
theorem jw_isl_c : (.code jd_yIsl cJ0_isLatin1_aae02 1 (some .boolean) : Jvm.Cond) ∈ lw_tbg := lw_is_in (p := 664) (by decide +kernel)
theorem jw_l1_l : (.methodLink "java/lang/String" 495 jd_yL1 : Jvm.Cond) ∈ lw_tbg := lw_is_in (p := 665) (by decide +kernel)
theorem jw_l1_t : (.static jd_yL1 : Jvm.Cond) ∈ lw_tbg := lw_is_in (p := 666) (by decide +kernel)
theorem jw_l1_c : (.code jd_yL1 cJ1_charAt_3b067 2 (some .char) : Jvm.Cond) ∈ lw_tbg := lw_is_in (p := 667) (by decide +kernel)
theorem jw_chk_l : (.methodLink "java/lang/StringLatin1" 9 jd_yChk : Jvm.Cond) ∈ lw_tbg := lw_is_in (p := 668) (by decide +kernel)
theorem jw_chk_t : (.static jd_yChk : Jvm.Cond) ∈ lw_tbg := lw_is_in (p := 669) (by decide +kernel)
theorem jw_chk_c : (.code jd_yChk cJ0_checkIndex_df160 2 none : Jvm.Cond) ∈ lw_tbg := lw_is_in (p := 670) (by decide +kernel)
theorem jw_pre_l : (.methodLink "java/lang/String" 1059 jd_yPre : Jvm.Cond) ∈ lw_tbg := lw_is_in (p := 673) (by decide +kernel)
theorem jw_pre_t : (.static jd_yPre : Jvm.Cond) ∈ lw_tbg := lw_is_in (p := 674) (by decide +kernel)
theorem jw_pre_c : (.code jd_yPre cJ3_checkIndex_8e157 3 (some .int) : Jvm.Cond) ∈ lw_tbg := lw_is_in (p := 675) (by decide +kernel)
theorem jw_l1_n : (.initialized "java/lang/StringLatin1" : Jvm.Cond) ∈ lw_tbg := lw_is_in (p := 116) (by decide +kernel)
theorem jw_pre_n : (.initialized "jdk/internal/util/Preconditions" : Jvm.Cond) ∈ lw_tbg := lw_is_in (p := 117) (by decide +kernel)
theorem jxJ0_length_8abf5_0 : decode cJ0_length_8abf5 0 = .ok (.aload_n 0, 1) := by decide +kernel
theorem jxJ0_length_8abf5_1 : decode cJ0_length_8abf5 1 = .ok (.getfield 9, 3) := by decide +kernel
theorem jxJ0_length_8abf5_4 : decode cJ0_length_8abf5 4 = .ok (.arraylength, 1) := by decide +kernel
theorem jxJ0_length_8abf5_5 : decode cJ0_length_8abf5 5 = .ok (.aload_n 0, 1) := by decide +kernel
theorem jxJ0_length_8abf5_6 : decode cJ0_length_8abf5 6 = .ok (.invokevirtual 335, 3) := by decide +kernel
theorem jxJ0_length_8abf5_9 : decode cJ0_length_8abf5 9 = .ok (.ishr, 1) := by decide +kernel
theorem jxJ0_length_8abf5_10 : decode cJ0_length_8abf5 10 = .ok (.ireturn, 1) := by decide +kernel
theorem jxJ0_charAt_5068e_0 : decode cJ0_charAt_5068e 0 = .ok (.aload_n 0, 1) := by decide +kernel
theorem jxJ0_charAt_5068e_1 : decode cJ0_charAt_5068e 1 = .ok (.invokevirtual 492, 3) := by decide +kernel
theorem jxJ0_charAt_5068e_4 : decode cJ0_charAt_5068e 4 = .ok (.ifCond .eq 12, 3) := by decide +kernel
theorem jxJ0_charAt_5068e_7 : decode cJ0_charAt_5068e 7 = .ok (.aload_n 0, 1) := by decide +kernel
theorem jxJ0_charAt_5068e_8 : decode cJ0_charAt_5068e 8 = .ok (.getfield 9, 3) := by decide +kernel
theorem jxJ0_charAt_5068e_11 : decode cJ0_charAt_5068e 11 = .ok (.iload_n 1, 1) := by decide +kernel
theorem jxJ0_charAt_5068e_12 : decode cJ0_charAt_5068e 12 = .ok (.invokestatic 495, 3) := by decide +kernel
theorem jxJ0_charAt_5068e_15 : decode cJ0_charAt_5068e 15 = .ok (.ireturn, 1) := by decide +kernel
theorem jxJ0_charAt_5068e_16 : decode cJ0_charAt_5068e 16 = .ok (.aload_n 0, 1) := by decide +kernel
theorem jxJ0_charAt_5068e_17 : decode cJ0_charAt_5068e 17 = .ok (.getfield 9, 3) := by decide +kernel
theorem jxJ0_charAt_5068e_20 : decode cJ0_charAt_5068e 20 = .ok (.iload_n 1, 1) := by decide +kernel
theorem jxJ0_charAt_5068e_21 : decode cJ0_charAt_5068e 21 = .ok (.invokestatic 498, 3) := by decide +kernel
theorem jxJ0_charAt_5068e_24 : decode cJ0_charAt_5068e 24 = .ok (.ireturn, 1) := by decide +kernel
theorem jxJ0_coder_7d493_0 : decode cJ0_coder_7d493 0 = .ok (.getstatic 38, 3) := by decide +kernel
theorem jxJ0_coder_7d493_3 : decode cJ0_coder_7d493 3 = .ok (.ifCond .eq 10, 3) := by decide +kernel
theorem jxJ0_coder_7d493_6 : decode cJ0_coder_7d493 6 = .ok (.aload_n 0, 1) := by decide +kernel
theorem jxJ0_coder_7d493_7 : decode cJ0_coder_7d493 7 = .ok (.getfield 15, 3) := by decide +kernel
theorem jxJ0_coder_7d493_10 : decode cJ0_coder_7d493 10 = .ok (.goto 4, 3) := by decide +kernel
theorem jxJ0_coder_7d493_13 : decode cJ0_coder_7d493 13 = .ok (.iconst 1, 1) := by decide +kernel
theorem jxJ0_coder_7d493_14 : decode cJ0_coder_7d493 14 = .ok (.ireturn, 1) := by decide +kernel
theorem jxJ0_isLatin1_aae02_0 : decode cJ0_isLatin1_aae02 0 = .ok (.getstatic 38, 3) := by decide +kernel
theorem jxJ0_isLatin1_aae02_3 : decode cJ0_isLatin1_aae02 3 = .ok (.ifCond .eq 14, 3) := by decide +kernel
theorem jxJ0_isLatin1_aae02_6 : decode cJ0_isLatin1_aae02 6 = .ok (.aload_n 0, 1) := by decide +kernel
theorem jxJ0_isLatin1_aae02_7 : decode cJ0_isLatin1_aae02 7 = .ok (.getfield 15, 3) := by decide +kernel
theorem jxJ0_isLatin1_aae02_10 : decode cJ0_isLatin1_aae02 10 = .ok (.ifCond .ne 7, 3) := by decide +kernel
theorem jxJ0_isLatin1_aae02_13 : decode cJ0_isLatin1_aae02 13 = .ok (.iconst 1, 1) := by decide +kernel
theorem jxJ0_isLatin1_aae02_14 : decode cJ0_isLatin1_aae02 14 = .ok (.goto 4, 3) := by decide +kernel
theorem jxJ0_isLatin1_aae02_17 : decode cJ0_isLatin1_aae02 17 = .ok (.iconst 0, 1) := by decide +kernel
theorem jxJ0_isLatin1_aae02_18 : decode cJ0_isLatin1_aae02 18 = .ok (.ireturn, 1) := by decide +kernel
theorem jxJ0_checkIndex_df160_0 : decode cJ0_checkIndex_df160 0 = .ok (.iload_n 0, 1) := by decide +kernel
theorem jxJ0_checkIndex_df160_1 : decode cJ0_checkIndex_df160 1 = .ok (.iload_n 1, 1) := by decide +kernel
theorem jxJ0_checkIndex_df160_2 : decode cJ0_checkIndex_df160 2 = .ok (.getstatic 1053, 3) := by decide +kernel
theorem jxJ0_checkIndex_df160_5 : decode cJ0_checkIndex_df160 5 = .ok (.invokestatic 1059, 3) := by decide +kernel
theorem jxJ0_checkIndex_df160_8 : decode cJ0_checkIndex_df160 8 = .ok (.pop, 1) := by decide +kernel
theorem jxJ0_checkIndex_df160_9 : decode cJ0_checkIndex_df160 9 = .ok (.return_, 1) := by decide +kernel
theorem jxJ1_charAt_3b067_0 : decode cJ1_charAt_3b067 0 = .ok (.iload_n 1, 1) := by decide +kernel
theorem jxJ1_charAt_3b067_1 : decode cJ1_charAt_3b067 1 = .ok (.aload_n 0, 1) := by decide +kernel
theorem jxJ1_charAt_3b067_2 : decode cJ1_charAt_3b067 2 = .ok (.arraylength, 1) := by decide +kernel
theorem jxJ1_charAt_3b067_3 : decode cJ1_charAt_3b067 3 = .ok (.invokestatic 9, 3) := by decide +kernel
theorem jxJ1_charAt_3b067_6 : decode cJ1_charAt_3b067 6 = .ok (.aload_n 0, 1) := by decide +kernel
theorem jxJ1_charAt_3b067_7 : decode cJ1_charAt_3b067 7 = .ok (.iload_n 1, 1) := by decide +kernel
theorem jxJ1_charAt_3b067_8 : decode cJ1_charAt_3b067 8 = .ok (.baload, 1) := by decide +kernel
theorem jxJ1_charAt_3b067_9 : decode cJ1_charAt_3b067 9 = .ok (.sipush 255, 3) := by decide +kernel
theorem jxJ1_charAt_3b067_12 : decode cJ1_charAt_3b067 12 = .ok (.iand, 1) := by decide +kernel
theorem jxJ1_charAt_3b067_13 : decode cJ1_charAt_3b067 13 = .ok (.i2c, 1) := by decide +kernel
theorem jxJ1_charAt_3b067_14 : decode cJ1_charAt_3b067 14 = .ok (.ireturn, 1) := by decide +kernel
theorem jxJ3_checkIndex_8e157_0 : decode cJ3_checkIndex_8e157 0 = .ok (.iload_n 0, 1) := by decide +kernel
theorem jxJ3_checkIndex_8e157_1 : decode cJ3_checkIndex_8e157 1 = .ok (.ifCond .lt 8, 3) := by decide +kernel
theorem jxJ3_checkIndex_8e157_4 : decode cJ3_checkIndex_8e157 4 = .ok (.iload_n 0, 1) := by decide +kernel
theorem jxJ3_checkIndex_8e157_5 : decode cJ3_checkIndex_8e157 5 = .ok (.iload_n 1, 1) := by decide +kernel
theorem jxJ3_checkIndex_8e157_6 : decode cJ3_checkIndex_8e157 6 = .ok (.if_icmp .lt 10, 3) := by decide +kernel
theorem jxJ3_checkIndex_8e157_9 : decode cJ3_checkIndex_8e157 9 = .ok (.aload_n 2, 1) := by decide +kernel
theorem jxJ3_checkIndex_8e157_10 : decode cJ3_checkIndex_8e157 10 = .ok (.iload_n 0, 1) := by decide +kernel
theorem jxJ3_checkIndex_8e157_11 : decode cJ3_checkIndex_8e157 11 = .ok (.iload_n 1, 1) := by decide +kernel
theorem jxJ3_checkIndex_8e157_12 : decode cJ3_checkIndex_8e157 12 = .ok (.invokestatic 95, 3) := by decide +kernel
theorem jxJ3_checkIndex_8e157_15 : decode cJ3_checkIndex_8e157 15 = .ok (.athrow, 1) := by decide +kernel
theorem jxJ3_checkIndex_8e157_16 : decode cJ3_checkIndex_8e157 16 = .ok (.iload_n 0, 1) := by decide +kernel
theorem jxJ3_checkIndex_8e157_17 : decode cJ3_checkIndex_8e157 17 = .ok (.ireturn, 1) := by decide +kernel

/-- a method that reads only, and answers v -/
def jd_Met (l : Launch) (G : so_G) (y : MethodName) (b : ByteArray) (n : Nat) (ret : Option FieldType) (fr lo : Nat) (as : List Value) (M : am_M) (B : State → Prop) (v : Option Value) : Prop :=
  Met l y (.code y b n ret :: lw_tbg) { frames := fr, cells := 0, slots := 0, locals := lo } (va_Pc as B) (so_Q G 0 0 M fun v' M' => v' = v ∧ M' = M) 0 0 (fun q => G.1 ≤ q)
/-- what holds in its body -/
def jd_F (p : Program) (s : State) (m : MethodId) (args : Array Value) (meth : Method) (c : Code) (cc : ByteArray) (own : String) (nL : Nat) (G : so_G) (ret : Option FieldType) : Prop :=
  p.tables.exec = Jvm.exec ∧ c.code = cc ∧ c.maxLocals = nL ∧ s.vm.findClass own = some m.cls ∧ (∀ w ∈ lw_tbg, w.before args s = true) ∧ so_K G s ∧ meth.sig.returnType = ret ∧ meth.locks = false
theorem jd_of {l : Launch} {G : so_G} {y : MethodName} {b : ByteArray} {n : Nat} {ret : Option FieldType} {fr lo : Nat} {as : List Value} {M : am_M} {B : State → Prop} {v : Option Value} (hB : ∀ U, B U → so_B G M U) (hy : plainFor y = true)
    (body : ∀ p e s m below meth c, jd_F p s m as.toArray meth c b y.cls n G ret → so_H G s M s.heap → B s →
      W p l e { frames := fr, cells := 0, slots := 0, locals := lo } s m as.toArray below meth c s.heap [] 0 0 (MQ below (so_Q G 0 0 M fun v' M' => v' = v ∧ M' = M) as.toArray s 0 0 (fun q => G.1 ≤ q)) (F0 m 0 ((lg_sl as ++ List.replicate (n - (lg_sl as).length) Slot.unset).toArray) [])) : jd_Met l G y b n ret fr lo as M B v := by
  refine so_ofW (cc := b) (maxL := n) (ret := ret) (ws' := lw_tbg) hy rfl ?_
  intro p e s m args below meth c s₁ D hml hv
  obtain ⟨rfl, hv⟩ := hv
  obtain ⟨hK, hH⟩ := hB _ hv
  rw [lg_entry_eq]
  exact body p e s m below meth c ⟨D.exec, D.bytes, hml, findClass_of_methodNamed D.named, fun w hw => atoms_spec (ws := .code y b n ret :: lw_tbg) D.pre w (List.mem_cons_of_mem _ hw), hK, D.returns, D.notSynchronized⟩ hH hv
section JD
variable {p : Program} {l : Launch} {e : Env} {R : Room} {s : State} {m : MethodId} {args : Array Value} {below : List Frame} {meth : Method} {c : Code} {Q : State → Prop}
variable {cc : ByteArray} {G : so_G} {nL : Nat} {pc : Nat} {M : am_M} {own : String} {ret : Option FieldType} {H : Heap} {ls : Array Slot} {locs : List Loc} {cells slots : Nat}
theorem jd_run {rest st0 : List Value} {a : Array Value} {v : Option Value} (hrun : va_Run p l e R s m args below meth c H locs cells slots 0 0 (F0 m pc ls st0) rest (so_Q G 0 0 M (fun v' M' => v' = v ∧ M' = M) a) (fun q => G.1 ≤ q)) (S7 : ∀ q ∈ locs, G.1 ≤ q.base)
    (k : ∀ H' locs', so_H G s M H' → (∀ q ∈ locs', G.1 ≤ q.base) → W p l e R s m args below meth c H' locs' cells slots Q (F0 m (pc + 3) ls ((v.map (so_v G)).toList ++ rest))) : W p l e R s m args below meth c H locs cells slots Q (F0 m pc ls st0) := by
  intro T hT X
  obtain ⟨v1, st₀, t, T', Lc, h0, X', hL, e1, e2, ⟨v', M', hv, ⟨hq1, hq2⟩, hz1, hs1, hH⟩, stp⟩ := hrun T hT X
  cases hv
  subst hq1 hq2
  have hal : t.vm.Alike s.vm := by rw [← e2]; exact X'.warmed.alike.symm
  obtain ⟨t2, a1, b1⟩ := k T'.heap (locs ++ Lc) (by rw [e1]; exact hH.moved hal) (fun q hq => by
    rcases List.mem_append.mp hq with h | h
    · exact S7 q h
    · exact hL q h) T' rfl X'
  exact ⟨t2, stp t2 a1, b1⟩
/-- a cell below the start of the law is as it was -/
theorem jd_cell (hH : so_H G s M H) {q : Nat} (h : ¬ G.1 ≤ q) : H[q]? = G.2.2.2.2[q]? := hH.2.2.2.1 q (Nat.not_le.mp h)
theorem jd_gets (F : jd_F p s m args meth c cc own nL G ret) (hH : so_H G s M H) {index : Nat} {C n d : String} {v : Value} {st : List Value} (hw : (.fieldLink own index C n d : Jvm.Cond) ∈ lw_tbg) (hZ : va_Z C n d v (fun q => G.1 ≤ q) s G.2.2.2.2) (hd : decode cc pc = .ok (.getstatic index, 3))
    (k : W p l e R s m args below meth c H locs cells slots Q (F0 m (pc + 3) ls (v :: st))) : W p l e R s m args below meth c H locs cells slots Q (F0 m pc ls st) := by
  obtain ⟨cf, kf, fi, f, a, cell, h1, h2, h3, h4, h5, h6, h7, h8⟩ := hZ
  exact W.gets F.1 F.2.1 F.2.2.2.1 (F.2.2.2.2.1 _ hw) h1 h2 h3 h4 (by rw [jd_cell hH h8]; exact h5) (fun e => by rw [e] at h6; cases h6) h7 rfl hd k
theorem jd_getf (F : jd_F p s m args meth c cc own nL G ret) (hH : so_H G s M H) {index : Nat} {C n d : String} {v : Value} {st : List Value} {t : Nat} (hw : (.fieldLink own index C n d : Jvm.Cond) ∈ lw_tbg) (hZ : va_OF C n d v t (fun q => G.1 ≤ q) s G.2.2.2.2) (hd : decode cc pc = .ok (.getfield index, 3))
    (k : W p l e R s m args below meth c H locs cells slots Q (F0 m (pc + 3) ls (v :: st))) : W p l e R s m args below meth c H locs cells slots Q (F0 m pc ls (.ref t :: st)) := by
  obtain ⟨cf, kf, fi, f, cell, h1, h2, h3, h4, h5, h6⟩ := hZ
  exact W.getf F.1 F.2.1 F.2.2.2.1 (F.2.2.2.2.1 _ hw) h1 h2 (by rw [jd_cell hH h6]; exact h3) h4 h5 rfl rfl hd k
theorem jd_fin (hH : so_H G s M H) {v : Option Value} {a : Array Value} (hv : v.map (so_v G) = v) : ∀ t : State, t.heap = H → s.WarmedH t.vm → so_Q G 0 0 M (fun v' M' => v' = v ∧ M' = M) a s (.returned v) t := fun t ht hW => ⟨v, M, by rw [hv], ⟨rfl, rfl⟩, rfl, rfl, by rw [ht]; exact hH.moved hW.alike⟩
theorem jd_callS (F : jd_F p s m args meth c cc own nL G ret) (hH : so_H G s M H) {y : MethodName} {b : ByteArray} {n fr lo index na : Nat} {rt : Option FieldType} {as st : List Value} {v : Option Value} {B : State → Prop} (hM : jd_Met l G y b n rt fr lo as M B v) (hbl : FrameBlind (va_Pc as B)) (hpre : ∀ U : State, U.heap = H → s.WarmedH U.vm → B U) (S7 : ∀ q ∈ locs, G.1 ≤ q.base)
    (w1 : (.methodLink own index y : Jvm.Cond) ∈ lw_tbg) (w2 : (.static y : Jvm.Cond) ∈ lw_tbg) (w3 : (.initialized y.cls : Jvm.Cond) ∈ lw_tbg) (w4 : (.code y b n rt : Jvm.Cond) ∈ lw_tbg) (hy : y.cls ≠ "java/lang/invoke/MethodHandle" ∧ y.cls ≠ "java/lang/invoke/VarHandle" ∧ (parseMethodDescriptor y.desc).map (fun d => d.parameters.length) = some na) (hna : as.length = na) (hR : fr + 1 ≤ R.frames ∧ 8 + (n + 11) + lo ≤ R.locals) (hls : ls.size = nL) (hcs : (st.map fun v => v.category).sum ≤ 8) (hcl : cells ≤ R.cells ∧ slots ≤ R.slots)
    (hd : decode cc pc = .ok (.invokestatic index, 3))
    (k : ∀ H' locs', so_H G s M H' → (∀ q ∈ locs', G.1 ≤ q.base) → W p l e R s m args below meth c H' locs' cells slots Q (F0 m (pc + 3) ls ((v.map (so_v G)).toList ++ st))) : W p l e R s m args below meth c H locs cells slots Q (F0 m pc ls (as.reverse ++ st)) := by
  refine jd_run (va_runS (Ts := lw_tbg) (own := own) (As := as) (n := na) ⟨F.1, F.2.1, F.2.2.1, F.2.2.2.1, F.2.2.2.2.1⟩ hM (va_cwS (bytes := b) (maxL := n) (ret := rt) (rm := { frames := fr, cells := 0, slots := 0, locals := lo }) na F.2.2.2.2.1 (so_good2 (y := y) w4 (ws := [.methodLink own index y, .static y, .initialized y.cls]) (fun w hw2 => ?_)) rfl rfl rfl hy hR) ⟨hbl, fun U hU hW => ⟨rfl, hpre U hU hW⟩⟩ rfl hna hls rfl (by show 2 * 0 + _ ≤ 8; omega) hd hcl) S7 k
  rcases List.mem_cons.mp hw2 with e | hw2
  · rw [e]; exact w1
  rcases List.mem_cons.mp hw2 with e | hw2
  · rw [e]; exact w2
  rcases List.mem_cons.mp hw2 with e | hw2
  · rw [e]; exact w3
  cases hw2
theorem jd_callV (F : jd_F p s m args meth c cc own nL G ret) (hH : so_H G s M H) {y : MethodName} {b : ByteArray} {n fr lo index na t : Nat} {rt : Option FieldType} {as st : List Value} {v : Option Value} {B : State → Prop} (hM : jd_Met l G y b n rt fr lo (.ref t :: as) M B v) (hbl : FrameBlind (va_Pc (.ref t :: as) B)) (hpre : ∀ U : State, U.heap = H → s.WarmedH U.vm → B U) (S7 : ∀ q ∈ locs, G.1 ≤ q.base)
    (w1 : (.methodLink own index y : Jvm.Cond) ∈ lw_tbg) (w2 : (.instanceMethod y : Jvm.Cond) ∈ lw_tbg) (w5 : (.selects y.cls y y : Jvm.Cond) ∈ lw_tbg) (w3 : (.initialized y.cls : Jvm.Cond) ∈ lw_tbg) (w4 : (.code y b n rt : Jvm.Cond) ∈ lw_tbg) (hy : y.cls ≠ "java/lang/invoke/MethodHandle" ∧ y.cls ≠ "java/lang/invoke/VarHandle" ∧ (parseMethodDescriptor y.desc).map (fun d => d.parameters.length) = some na) (hna : as.length = na) (hO : va_O y.cls t (fun q => G.1 ≤ q) s G.2.2.2.2) (hR : fr + 1 ≤ R.frames ∧ 8 + (n + 11) + lo ≤ R.locals) (hls : ls.size = nL) (hcs : (st.map fun v => v.category).sum ≤ 8) (hcl : cells ≤ R.cells ∧ slots ≤ R.slots)
    (hd : decode cc pc = .ok (.invokevirtual index, 3))
    (k : ∀ H' locs', so_H G s M H' → (∀ q ∈ locs', G.1 ≤ q.base) → W p l e R s m args below meth c H' locs' cells slots Q (F0 m (pc + 3) ls ((v.map (so_v G)).toList ++ st))) : W p l e R s m args below meth c H locs cells slots Q (F0 m pc ls (as.reverse ++ .ref t :: st)) := by
  obtain ⟨cell, g1, g2, g3, g4⟩ := hO
  refine jd_run (va_runV (Ts := lw_tbg) (own := own) (C := y.cls) (As := as) (n := na) ⟨F.1, F.2.1, F.2.2.1, F.2.2.2.1, F.2.2.2.2.1⟩ hM (cwV (C := y.cls) (bytes := b) (maxL := n) (ret := rt) (rm := { frames := fr, cells := 0, slots := 0, locals := lo }) na F.2.2.2.2.1 (so_good2 (y := y) w4 (ws := [.methodLink own index y, .instanceMethod y, .selects y.cls y y, .initialized y.cls]) (fun w hw2 => ?_)) rfl rfl rfl ⟨rfl, hy⟩ hR) ⟨hbl, ⟨cell, by rw [jd_cell hH g4]; exact g1, g2, g3⟩, fun U hU hW => ⟨rfl, hpre U hU hW⟩⟩ rfl hna hls rfl (by show 2 * 0 + _ ≤ 8; omega) hd hcl) S7 k
  rcases List.mem_cons.mp hw2 with e | hw2
  · rw [e]; exact w1
  rcases List.mem_cons.mp hw2 with e | hw2
  · rw [e]; exact w2
  rcases List.mem_cons.mp hw2 with e | hw2
  · rw [e]; exact w5
  rcases List.mem_cons.mp hw2 with e | hw2
  · rw [e]; exact w3
  cases hw2
end JD
theorem jd_nil {G : so_G} : ∀ q ∈ ([] : List Loc), G.1 ≤ q.base := fun q hq => by cases hq
theorem jd_coder (l : Launch) (G : so_G) (M : am_M) {t : Nat} (hc : ∀ s, so_K G s → va_OF "java/lang/String" "coder" "B" (.int 0) t (fun q => G.1 ≤ q) s G.2.2.2.2) : jd_Met l G jd_yCod cJ0_coder_7d493 1 (some .byte) 0 0 [.ref t] M (so_B G M) (some (.int 0)) := by
  refine jd_of (fun _ h => h) (by decide +kernel) ?_
  intro p e s m below meth c F hH _
  refine jd_gets F hH jw_cs F.2.2.2.2.2.1.2.2.2.2.2.2.2.1 jxJ0_coder_7d493_0 ?_
  refine lv_if_eq F.1 F.2.1 (tgt := 13) (off := 10) jxJ0_coder_7d493_3 (by decide) (fun q => absurd q (by decide)) (fun _ => ?_)
  refine lv_aload_n F.1 F.2.1 (k := 0) (i := 0) (x := t) jxJ0_coder_7d493_6 rfl rfl ?_
  refine jd_getf F hH jw_cod (hc s F.2.2.2.2.2.1) jxJ0_coder_7d493_7 ?_
  refine lv_goto F.1 F.2.1 (off := 4) (tgt := 14) jxJ0_coder_7d493_10 (by decide) ?_
  exact W.zret (ty := .byte) F.1 F.2.1 F.2.2.2.2.2.2.1 (by decide) (jd_fin hH rfl) jd_nil jxJ0_coder_7d493_14 F.2.2.2.2.2.2.2
theorem jd_isl (l : Launch) (G : so_G) (M : am_M) {t : Nat} (hc : ∀ s, so_K G s → va_OF "java/lang/String" "coder" "B" (.int 0) t (fun q => G.1 ≤ q) s G.2.2.2.2) : jd_Met l G jd_yIsl cJ0_isLatin1_aae02 1 (some .boolean) 0 0 [.ref t] M (so_B G M) (some (.int 1)) := by
  refine jd_of (fun _ h => h) (by decide +kernel) ?_
  intro p e s m below meth c F hH _
  refine jd_gets F hH jw_cs F.2.2.2.2.2.1.2.2.2.2.2.2.2.1 jxJ0_isLatin1_aae02_0 ?_
  refine lv_if_eq F.1 F.2.1 (tgt := 17) (off := 14) jxJ0_isLatin1_aae02_3 (by decide) (fun q => absurd q (by decide)) (fun _ => ?_)
  refine lv_aload_n F.1 F.2.1 (k := 0) (i := 0) (x := t) jxJ0_isLatin1_aae02_6 rfl rfl ?_
  refine jd_getf F hH jw_cod (hc s F.2.2.2.2.2.1) jxJ0_isLatin1_aae02_7 ?_
  refine lv_if_ne F.1 F.2.1 (tgt := 17) (off := 7) jxJ0_isLatin1_aae02_10 (by decide) (fun q => absurd rfl q) (fun _ => ?_)
  refine lv_iconst F.1 F.2.1 (n := 1) (v := 1) jxJ0_isLatin1_aae02_13 (by decide) ?_
  refine lv_goto F.1 F.2.1 (off := 4) (tgt := 18) jxJ0_isLatin1_aae02_14 (by decide) ?_
  exact W.zret (ty := .boolean) F.1 F.2.1 F.2.2.2.2.2.2.1 (by decide) (jd_fin hH rfl) jd_nil jxJ0_isLatin1_aae02_18 F.2.2.2.2.2.2.2
theorem jd_pre (l : Launch) (G : so_G) (M : am_M) {i n : Int32} (w : Value) (hw : w.category = 1) (h0 : ¬ i < 0) (h1 : i < n) : jd_Met l G jd_yPre cJ3_checkIndex_8e157 3 (some .int) 0 0 [.int i, .int n, w] M (so_B G M) (some (.int i)) := by
  refine jd_of (fun _ h => h) (by decide +kernel) ?_
  intro p e s m below meth c F hH _
  have e0 : lg_sl [.int i, .int n, w] = [.val (.int i), .val (.int n), .val w] := by
    cases w <;> first | rfl | cases hw
  rw [e0]
  refine lv_iload_n F.1 F.2.1 (k := 0) (i := 0) (x := i) jxJ3_checkIndex_8e157_0 rfl rfl ?_
  refine lv_if_lt F.1 F.2.1 (tgt := 9) (off := 8) jxJ3_checkIndex_8e157_1 (by decide) (fun q => absurd q h0) (fun _ => ?_)
  refine lv_iload_n F.1 F.2.1 (k := 0) (i := 0) (x := i) jxJ3_checkIndex_8e157_4 rfl rfl ?_
  refine lv_iload_n F.1 F.2.1 (k := 1) (i := 1) (x := n) jxJ3_checkIndex_8e157_5 rfl rfl ?_
  refine lv_icmp_lt F.1 F.2.1 (tgt := 16) (off := 10) jxJ3_checkIndex_8e157_6 (by decide) (fun _ => ?_) (fun q => absurd h1 q)
  refine lv_iload_n F.1 F.2.1 (k := 0) (i := 0) (x := i) jxJ3_checkIndex_8e157_16 rfl rfl ?_
  exact W.iret F.1 F.2.1 F.2.2.2.2.2.2.1 (jd_fin hH rfl) jd_nil jxJ3_checkIndex_8e157_17 F.2.2.2.2.2.2.2
theorem jd_chk (l : Launch) (G : so_G) (M : am_M) {i n : Int32} (h0 : ¬ i < 0) (h1 : i < n) : jd_Met l G jd_yChk cJ0_checkIndex_df160 2 none 1 40 [.int i, .int n] M (so_B G M) none := by
  refine jd_of (fun _ h => h) (by decide +kernel) ?_
  intro p e s m below meth c F hH _
  refine lv_iload_n F.1 F.2.1 (k := 0) (i := 0) (x := i) jxJ0_checkIndex_df160_0 rfl rfl ?_
  refine lv_iload_n F.1 F.2.1 (k := 1) (i := 1) (x := n) jxJ0_checkIndex_df160_1 rfl rfl ?_
  have hz : ∃ w : Value, w.category = 1 ∧ va_Z "jdk/internal/util/Preconditions" "SIOOBE_FORMATTER" "Ljava/util/function/BiFunction;" w (fun q => G.1 ≤ q) s G.2.2.2.2 := by
    rcases F.2.2.2.2.2.1.2.2.2.2.2.2.2.2 with h | ⟨t, h⟩
    · exact ⟨_, rfl, h⟩
    · exact ⟨_, rfl, h⟩
  obtain ⟨w, hw, hz⟩ := hz
  refine jd_gets F hH jw_sio hz jxJ0_checkIndex_df160_2 ?_
  refine jd_callS F hH (as := [.int i, .int n, w]) (st := []) (na := 3) (jd_pre l G M w hw h0 h1) so_B.blind (fun U hU hW => so_B.pre F.2.2.2.2.2.1 hH hU hW) jd_nil jw_pre_l jw_pre_t jw_pre_n jw_pre_c ⟨by decide, by decide, by decide +kernel⟩ rfl ⟨Nat.le_refl _, by show 8 + (3 + 11) + 0 ≤ 40; decide⟩ rfl (by decide) ⟨Nat.le_refl _, Nat.le_refl _⟩ jxJ0_checkIndex_df160_5 ?_
  intro H' locs' hH' S7
  refine lv_pop F.1 F.2.1 jxJ0_checkIndex_df160_8 rfl ?_
  exact W.vret F.1 F.2.1 F.2.2.2.2.2.2.1 (jd_fin hH' rfl) S7 jxJ0_checkIndex_df160_9 F.2.2.2.2.2.2.2
theorem jd_l1 (l : Launch) (G : so_G) (M : am_M) {t N : Nat} {f : Nat → Value} {i x r : Int32} (h0 : ¬ i < 0) (h1 : i < Int32.ofNat N) (h2 : i.toNatClampNeg < N) (hx : f i.toNatClampNeg = .int x) (hr : ((x &&& 255).toUInt32 % 65536).toInt32 = r) (hn : narrow .char (.int r) = .int r) : jd_Met l G jd_yL1 cJ1_charAt_3b067 2 (some .char) 2 80 [.ref t, .int i] M (fun U => so_B G M U ∧ va_T .byte t N f (fun q => G.1 ≤ q) U G.2.2.2.2) (some (.int r)) := by
  refine jd_of (fun _ h => h.1) (by decide +kernel) ?_
  intro p e s m below meth c F hH hT
  obtain ⟨cell, g1, g2, g3, g4, g5, g6, g7⟩ := hT.2
  refine lv_iload_n F.1 F.2.1 (k := 1) (i := 1) (x := i) jxJ1_charAt_3b067_0 rfl rfl ?_
  refine lv_aload_n F.1 F.2.1 (k := 0) (i := 0) (x := t) jxJ1_charAt_3b067_1 rfl rfl ?_
  refine W.alen F.1 F.2.1 (cell := cell) (by rw [jd_cell hH g7]; exact g1) g2 g5 rfl rfl jxJ1_charAt_3b067_2 ?_
  refine jd_callS F hH (as := [.int i, .int (Int32.ofNat N)]) (st := []) (na := 2) (jd_chk l G M h0 h1) so_B.blind (fun U hU hW => so_B.pre F.2.2.2.2.2.1 hH hU hW) jd_nil jw_chk_l jw_chk_t lw_strI jw_chk_c ⟨by decide, by decide, by decide +kernel⟩ rfl ⟨Nat.le_refl _, by show 8 + (2 + 11) + 40 ≤ 80; decide⟩ rfl (by decide) ⟨Nat.le_refl _, Nat.le_refl _⟩ jxJ1_charAt_3b067_3 ?_
  intro H' locs' hH' S7
  refine lv_aload_n F.1 F.2.1 (k := 0) (i := 0) (x := t) jxJ1_charAt_3b067_6 rfl rfl ?_
  refine lv_iload_n F.1 F.2.1 (k := 1) (i := 1) (x := i) jxJ1_charAt_3b067_7 rfl rfl ?_
  refine W.bald F.1 F.2.1 (cell := cell) (v := .int x) (by rw [jd_cell hH' g7]; exact g1) g2 g3 (by rintro (q | q); exact h0 q; omega) (by rw [g6 _ h2, hx]) rfl rfl jxJ1_charAt_3b067_8 ?_
  refine lv_sipush F.1 F.2.1 (n := 255) (v := 255) jxJ1_charAt_3b067_9 (by decide) ?_
  refine lv_iand F.1 F.2.1 jxJ1_charAt_3b067_12 ?_
  refine lv_i2c F.1 F.2.1 jxJ1_charAt_3b067_13 hr ?_
  exact W.zret (ty := .char) F.1 F.2.1 F.2.2.2.2.2.2.1 hn (jd_fin hH' rfl) S7 jxJ1_charAt_3b067_14 F.2.2.2.2.2.2.2
theorem jd_at {G : so_G} {s : State} (hK : so_K G s) {a : Nat} (ha : sh_t a = 6) : ∃ t : Nat, va_O "java/lang/String" (so_ad G a) (fun q => G.1 ≤ q) s G.2.2.2.2 ∧ va_OF "java/lang/String" "coder" "B" (.int 0) (so_ad G a) (fun q => G.1 ≤ q) s G.2.2.2.2 ∧ va_OF "java/lang/String" "value" "[B" (.ref t) (so_ad G a) (fun q => G.1 ≤ q) s G.2.2.2.2 ∧ va_T .byte t (sh_n a) (fun j => .int ((so_byt.getD (a - 2) []).getD j 0)) (fun q => G.1 ≤ q) s G.2.2.2.2 := by
  obtain ⟨adV, hv⟩ := hK.2.2.2.2.2.2.1
  obtain ⟨h2, h12⟩ := sh_str ha
  obtain ⟨g1, g2, g3, g4⟩ := hv.1 (a - 2) (by omega)
  have ea : 2 + (a - 2) = a := by omega
  have e1 : so_len.getD (a - 2) 0 = sh_n a := by
    unfold so_len
    rw [List.getD_eq_getElem?_getD, List.getElem?_map, List.getElem?_range (by omega)]
    show sh_n (2 + (a - 2)) = _
    rw [ea]
  rw [e1] at g4
  rw [so_ad_lo G h12]
  dsimp only at g1 g2 g3
  rw [ea] at g1 g2 g3
  exact ⟨adV (a - 2), g1, g2, g3, g4⟩
theorem jd_byt : ∀ i, i < 10 → ∀ j, j < sh_n (2 + i) → (so_byt.getD i []).getD j 0 = nI (sh_c (2 + i) j) ∧ ((nI (sh_c (2 + i) j) &&& 255).toUInt32 % 65536).toInt32 = nI (sh_c (2 + i) j) ∧ narrow .char (.int (nI (sh_c (2 + i) j))) = .int (nI (sh_c (2 + i) j)) := by decide +kernel
theorem jd_ls {G : so_G} (M : am_M) {l : Launch} {a : Nat} (ha : sh_t a = 6) : jd_Met l G so_yLen cJ0_length_8abf5 1 (some .int) 4 160 [.ref (so_ad G a)] M (so_B G M) (some (.int (nI (sh_n a)))) := by
  refine jd_of (fun _ h => h) (by decide +kernel) ?_
  intro p e s m below meth c F hH _
  obtain ⟨t, g1, g2, g3, cell, q1, q2, q3, q4, q5, q6, q7⟩ := jd_at F.2.2.2.2.2.1 ha
  refine lv_aload_n F.1 F.2.1 (k := 0) (i := 0) (x := so_ad G a) jxJ0_length_8abf5_0 rfl rfl ?_
  refine jd_getf F hH jw_val g3 jxJ0_length_8abf5_1 ?_
  refine W.alen F.1 F.2.1 (cell := cell) (by rw [jd_cell hH q7]; exact q1) q2 q5 rfl rfl jxJ0_length_8abf5_4 ?_
  refine lv_aload_n F.1 F.2.1 (k := 0) (i := 0) (x := so_ad G a) jxJ0_length_8abf5_5 rfl rfl ?_
  refine jd_callV F hH (as := []) (st := [.int (Int32.ofNat (sh_n a))]) (na := 0) (jd_coder l G M (fun s hK => ?_)) so_B.blind (fun U hU hW => so_B.pre F.2.2.2.2.2.1 hH hU hW) jd_nil jw_coder_l jw_coder_i jw_coder_s lw_strI jw_coder_c ⟨by decide, by decide, by decide +kernel⟩ rfl g1 ⟨by show 0 + 1 ≤ 4; decide, by show 8 + (1 + 11) + 0 ≤ 160; decide⟩ rfl (by show 1 + 0 ≤ 8; decide) ⟨Nat.le_refl _, Nat.le_refl _⟩ jxJ0_length_8abf5_6 ?_
  · obtain ⟨_, _, h, _⟩ := jd_at hK ha
    exact h
  intro H' locs' hH' S7
  refine lv_ishr F.1 F.2.1 jxJ0_length_8abf5_9 ?_
  have e0 : Int32.ofNat (sh_n a) >>> ((0 : Int32) &&& 31) = nI (sh_n a) := by
    rw [show ((0 : Int32) &&& 31) = 0 by decide]
    exact Int32.shiftRight_zero
  rw [e0]
  exact W.iret F.1 F.2.1 F.2.2.2.2.2.2.1 (jd_fin hH' rfl) S7 jxJ0_length_8abf5_10 F.2.2.2.2.2.2.2
theorem jd_cs {G : so_G} (M : am_M) {l : Launch} {a : Nat} {i : Int32} (ha : sh_t a = 6) (hi : am_un i < sh_n a) : jd_Met l G so_yChr cJ0_charAt_5068e 2 (some .char) 4 160 [.ref (so_ad G a), .int i] M (so_B G M) (some (.int (nI (sh_c a (am_un i))))) := by
  refine jd_of (fun _ h => h) (by decide +kernel) ?_
  intro p e s m below meth c F hH _
  obtain ⟨t, g1, g2, g3, g4⟩ := jd_at F.2.2.2.2.2.1 ha
  obtain ⟨h2, h12⟩ := sh_str ha
  have hlen := so_len_le a
  obtain ⟨s1, s2⟩ := so_int (i := i) rfl (by omega)
  have hiN : i < Int32.ofNat (sh_n a) := by
    have e1 : (Int32.ofNat (sh_n a)).toInt = (sh_n a : Int) := Int32.toInt_ofNat_of_lt (by omega)
    rw [Int32.lt_iff_toInt_lt, e1]
    have e2 : i.toInt = (i.toNatClampNeg : Int) := by
      have h0 : (0 : Int) ≤ i.toInt := by
        have := Int32.not_lt.mp s1
        simpa using Int32.le_iff_toInt_le.mp this
      show i.toInt = ((i.toInt.toNat : Nat) : Int)
      omega
    omega
  have ea : 2 + (a - 2) = a := by omega
  obtain ⟨b1, b2, b3⟩ := jd_byt (a - 2) (by omega) (am_un i) (by rw [ea]; exact hi)
  rw [ea] at b1 b2 b3
  refine lv_aload_n F.1 F.2.1 (k := 0) (i := 0) (x := so_ad G a) jxJ0_charAt_5068e_0 rfl rfl ?_
  refine jd_callV F hH (as := []) (st := []) (na := 0) (jd_isl l G M (fun s hK => ?_)) so_B.blind (fun U hU hW => so_B.pre F.2.2.2.2.2.1 hH hU hW) jd_nil jw_isl_l jw_isl_i jw_isl_s lw_strI jw_isl_c ⟨by decide, by decide, by decide +kernel⟩ rfl g1 ⟨by show 0 + 1 ≤ 4; decide, by show 8 + (1 + 11) + 0 ≤ 160; decide⟩ rfl (by decide) ⟨Nat.le_refl _, Nat.le_refl _⟩ jxJ0_charAt_5068e_1 ?_
  · obtain ⟨_, _, h, _⟩ := jd_at hK ha
    exact h
  intro H1 locs1 hH1 S1
  refine lv_if_eq F.1 F.2.1 (tgt := 16) (off := 12) jxJ0_charAt_5068e_4 (by decide) (fun q => absurd q (by decide)) (fun _ => ?_)
  refine lv_aload_n F.1 F.2.1 (k := 0) (i := 0) (x := so_ad G a) jxJ0_charAt_5068e_7 rfl rfl ?_
  refine jd_getf F hH1 jw_val g3 jxJ0_charAt_5068e_8 ?_
  refine lv_iload_n F.1 F.2.1 (k := 1) (i := 1) (x := i) jxJ0_charAt_5068e_11 rfl rfl ?_
  refine jd_callS F hH1 (as := [.ref t, .int i]) (st := []) (na := 2) (jd_l1 l G M (f := fun j => .int ((so_byt.getD (a - 2) []).getD j 0)) (t := t) (N := sh_n a) (x := nI (sh_c a (am_un i))) (r := nI (sh_c a (am_un i))) s1 hiN (by omega) ?_ b2 b3) (fun a U g mk h => ⟨h.1, (so_B.blind a U g mk ⟨h.1, h.2.1⟩).2, va_T.moved (u := U) (U := U.calling g mk a) (Vm.Alike.refl U.vm) h.2.2⟩) (fun U hU hW => ⟨so_B.pre F.2.2.2.2.2.1 hH1 hU hW, va_T.moved hW.alike g4⟩) S1 jw_l1_l jw_l1_t jw_l1_n jw_l1_c ⟨by decide, by decide, by decide +kernel⟩ rfl ⟨by show 2 + 1 ≤ 4; decide, by show 8 + (2 + 11) + 80 ≤ 160; decide⟩ rfl (by decide) ⟨Nat.le_refl _, Nat.le_refl _⟩ jxJ0_charAt_5068e_12 ?_
  · show Value.int ((so_byt.getD (a - 2) []).getD i.toNatClampNeg 0) = _
    rw [s2, b1]
  intro H' locs' hH' S7
  exact W.zret (ty := .char) F.1 F.2.1 F.2.2.2.2.2.2.1 b3 (jd_fin hH' rfl) S7 jxJ0_charAt_5068e_15 F.2.2.2.2.2.2.2
theorem jd_Str (l : Launch) (G : so_G) : so_Str l G := ⟨fun _ M ha => jd_ls M ha, fun _ M _ ha hi => jd_cs M ha hi⟩

