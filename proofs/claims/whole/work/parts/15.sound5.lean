/-! SOUNDNESS, V: numbers, branches (laid by a program) -/
theorem am_br_t {A p q : Prop} (h : am_br A p q) (a : A) : p := h.1 a
theorem am_br_f {A p q : Prop} (h : am_br A p q) (a : ¬ A) : q := h.2 a
section SO
variable {p : Program} {l : Launch} {e : Env} {R : Room} {s : State} {m : MethodId} {args : Array Value} {below : List Frame} {meth : Method} {c : Code} {Q : State → Prop}
variable {cc : ByteArray} {G : so_G} {o nL z0 s0 zm sm d : Nat} {nm : String} {pc : Nat} {L : am_L} {st : List Value} {M : am_M}
theorem so_iadd (F : so_Fx p s m args meth c cc o nL nm G R z0 s0 zm sm d) (hd : decode cc pc = .ok (.iadd, 1)) (h : am_pi st fun y st => am_pi st fun x r => so_X p l e R s m args below meth c Q G nL z0 s0 zm sm (pc + 1) L (.int (x + y) :: r) M) : so_X p l e R s m args below meth c Q G nL z0 s0 zm sm pc L st M := by
  obtain ⟨y, st1, rfl, h_1⟩ := am_pi_inv h
  obtain ⟨x, r, rfl, h_2⟩ := am_pi_inv h_1
  intro H ls locs cells slots S
  exact lv_iadd F.1 F.2.1 hd (h_2 H ls locs cells slots S)
theorem so_isub (F : so_Fx p s m args meth c cc o nL nm G R z0 s0 zm sm d) (hd : decode cc pc = .ok (.isub, 1)) (h : am_pi st fun y st => am_pi st fun x r => so_X p l e R s m args below meth c Q G nL z0 s0 zm sm (pc + 1) L (.int (x - y) :: r) M) : so_X p l e R s m args below meth c Q G nL z0 s0 zm sm pc L st M := by
  obtain ⟨y, st1, rfl, h_1⟩ := am_pi_inv h
  obtain ⟨x, r, rfl, h_2⟩ := am_pi_inv h_1
  intro H ls locs cells slots S
  exact lv_isub F.1 F.2.1 hd (h_2 H ls locs cells slots S)
theorem so_imul (F : so_Fx p s m args meth c cc o nL nm G R z0 s0 zm sm d) (hd : decode cc pc = .ok (.imul, 1)) (h : am_pi st fun y st => am_pi st fun x r => so_X p l e R s m args below meth c Q G nL z0 s0 zm sm (pc + 1) L (.int (x * y) :: r) M) : so_X p l e R s m args below meth c Q G nL z0 s0 zm sm pc L st M := by
  obtain ⟨y, st1, rfl, h_1⟩ := am_pi_inv h
  obtain ⟨x, r, rfl, h_2⟩ := am_pi_inv h_1
  intro H ls locs cells slots S
  exact lv_imul F.1 F.2.1 hd (h_2 H ls locs cells slots S)
theorem so_iand (F : so_Fx p s m args meth c cc o nL nm G R z0 s0 zm sm d) (hd : decode cc pc = .ok (.iand, 1)) (h : am_pi st fun y st => am_pi st fun x r => so_X p l e R s m args below meth c Q G nL z0 s0 zm sm (pc + 1) L (.int (x &&& y) :: r) M) : so_X p l e R s m args below meth c Q G nL z0 s0 zm sm pc L st M := by
  obtain ⟨y, st1, rfl, h_1⟩ := am_pi_inv h
  obtain ⟨x, r, rfl, h_2⟩ := am_pi_inv h_1
  intro H ls locs cells slots S
  exact lv_iand F.1 F.2.1 hd (h_2 H ls locs cells slots S)
theorem so_ior (F : so_Fx p s m args meth c cc o nL nm G R z0 s0 zm sm d) (hd : decode cc pc = .ok (.ior, 1)) (h : am_pi st fun y st => am_pi st fun x r => so_X p l e R s m args below meth c Q G nL z0 s0 zm sm (pc + 1) L (.int (x ||| y) :: r) M) : so_X p l e R s m args below meth c Q G nL z0 s0 zm sm pc L st M := by
  obtain ⟨y, st1, rfl, h_1⟩ := am_pi_inv h
  obtain ⟨x, r, rfl, h_2⟩ := am_pi_inv h_1
  intro H ls locs cells slots S
  exact lv_ior F.1 F.2.1 hd (h_2 H ls locs cells slots S)
theorem so_ixor (F : so_Fx p s m args meth c cc o nL nm G R z0 s0 zm sm d) (hd : decode cc pc = .ok (.ixor, 1)) (h : am_pi st fun y st => am_pi st fun x r => so_X p l e R s m args below meth c Q G nL z0 s0 zm sm (pc + 1) L (.int (x ^^^ y) :: r) M) : so_X p l e R s m args below meth c Q G nL z0 s0 zm sm pc L st M := by
  obtain ⟨y, st1, rfl, h_1⟩ := am_pi_inv h
  obtain ⟨x, r, rfl, h_2⟩ := am_pi_inv h_1
  intro H ls locs cells slots S
  exact lv_ixor F.1 F.2.1 hd (h_2 H ls locs cells slots S)
theorem so_ishl (F : so_Fx p s m args meth c cc o nL nm G R z0 s0 zm sm d) (hd : decode cc pc = .ok (.ishl, 1)) (h : am_pi st fun y st => am_pi st fun x r => so_X p l e R s m args below meth c Q G nL z0 s0 zm sm (pc + 1) L (.int (x <<< (y &&& 31)) :: r) M) : so_X p l e R s m args below meth c Q G nL z0 s0 zm sm pc L st M := by
  obtain ⟨y, st1, rfl, h_1⟩ := am_pi_inv h
  obtain ⟨x, r, rfl, h_2⟩ := am_pi_inv h_1
  intro H ls locs cells slots S
  exact lv_ishl F.1 F.2.1 hd (h_2 H ls locs cells slots S)
theorem so_ishr (F : so_Fx p s m args meth c cc o nL nm G R z0 s0 zm sm d) (hd : decode cc pc = .ok (.ishr, 1)) (h : am_pi st fun y st => am_pi st fun x r => so_X p l e R s m args below meth c Q G nL z0 s0 zm sm (pc + 1) L (.int (x >>> (y &&& 31)) :: r) M) : so_X p l e R s m args below meth c Q G nL z0 s0 zm sm pc L st M := by
  obtain ⟨y, st1, rfl, h_1⟩ := am_pi_inv h
  obtain ⟨x, r, rfl, h_2⟩ := am_pi_inv h_1
  intro H ls locs cells slots S
  exact lv_ishr F.1 F.2.1 hd (h_2 H ls locs cells slots S)
theorem so_iushr (F : so_Fx p s m args meth c cc o nL nm G R z0 s0 zm sm d) (hd : decode cc pc = .ok (.iushr, 1)) (h : am_pi st fun y st => am_pi st fun x r => so_X p l e R s m args below meth c Q G nL z0 s0 zm sm (pc + 1) L (.int (x.toUInt32 >>> (y.toUInt32 &&& Int32.toUInt32 31)).toInt32 :: r) M) : so_X p l e R s m args below meth c Q G nL z0 s0 zm sm pc L st M := by
  obtain ⟨y, st1, rfl, h_1⟩ := am_pi_inv h
  obtain ⟨x, r, rfl, h_2⟩ := am_pi_inv h_1
  intro H ls locs cells slots S
  exact lv_iushr F.1 F.2.1 hd rfl (h_2 H ls locs cells slots S)
theorem so_idiv (F : so_Fx p s m args meth c cc o nL nm G R z0 s0 zm sm d) (hd : decode cc pc = .ok (.idiv, 1)) (h : am_pi st fun y st => am_pi st fun x r => am_g (!decide (y = 0)) (so_X p l e R s m args below meth c Q G nL z0 s0 zm sm (pc + 1) L (.int (x / y) :: r) M)) : so_X p l e R s m args below meth c Q G nL z0 s0 zm sm pc L st M := by
  obtain ⟨y, st1, rfl, h_1⟩ := am_pi_inv h
  obtain ⟨x, r, rfl, h_2⟩ := am_pi_inv h_1
  obtain ⟨hg, h_3⟩ := am_g_inv h_2
  have hne : ¬ y = 0 := fun q => by rw [q] at hg; cases hg
  intro H ls locs cells slots S
  exact lv_idiv F.1 F.2.1 hd hne (h_3 H ls locs cells slots S)
theorem so_irem (F : so_Fx p s m args meth c cc o nL nm G R z0 s0 zm sm d) (hd : decode cc pc = .ok (.irem, 1)) (h : am_pi st fun y st => am_pi st fun x r => am_g (!decide (y = 0)) (so_X p l e R s m args below meth c Q G nL z0 s0 zm sm (pc + 1) L (.int (x - x / y * y) :: r) M)) : so_X p l e R s m args below meth c Q G nL z0 s0 zm sm pc L st M := by
  obtain ⟨y, st1, rfl, h_1⟩ := am_pi_inv h
  obtain ⟨x, r, rfl, h_2⟩ := am_pi_inv h_1
  obtain ⟨hg, h_3⟩ := am_g_inv h_2
  have hne : ¬ y = 0 := fun q => by rw [q] at hg; cases hg
  intro H ls locs cells slots S
  exact lv_irem F.1 F.2.1 hd hne (h_3 H ls locs cells slots S)
theorem so_ladd (F : so_Fx p s m args meth c cc o nL nm G R z0 s0 zm sm d) (hd : decode cc pc = .ok (.ladd, 1)) (h : am_pl st fun y st => am_pl st fun x r => so_X p l e R s m args below meth c Q G nL z0 s0 zm sm (pc + 1) L (.long (x + y) :: r) M) : so_X p l e R s m args below meth c Q G nL z0 s0 zm sm pc L st M := by
  obtain ⟨y, st1, rfl, h_1⟩ := am_pl_inv h
  obtain ⟨x, r, rfl, h_2⟩ := am_pl_inv h_1
  intro H ls locs cells slots S
  exact lv_ladd F.1 F.2.1 hd (h_2 H ls locs cells slots S)
theorem so_lmul (F : so_Fx p s m args meth c cc o nL nm G R z0 s0 zm sm d) (hd : decode cc pc = .ok (.lmul, 1)) (h : am_pl st fun y st => am_pl st fun x r => so_X p l e R s m args below meth c Q G nL z0 s0 zm sm (pc + 1) L (.long (x * y) :: r) M) : so_X p l e R s m args below meth c Q G nL z0 s0 zm sm pc L st M := by
  obtain ⟨y, st1, rfl, h_1⟩ := am_pl_inv h
  obtain ⟨x, r, rfl, h_2⟩ := am_pl_inv h_1
  intro H ls locs cells slots S
  exact lv_lmul F.1 F.2.1 hd (h_2 H ls locs cells slots S)
theorem so_land (F : so_Fx p s m args meth c cc o nL nm G R z0 s0 zm sm d) (hd : decode cc pc = .ok (.land, 1)) (h : am_pl st fun y st => am_pl st fun x r => so_X p l e R s m args below meth c Q G nL z0 s0 zm sm (pc + 1) L (.long (x &&& y) :: r) M) : so_X p l e R s m args below meth c Q G nL z0 s0 zm sm pc L st M := by
  obtain ⟨y, st1, rfl, h_1⟩ := am_pl_inv h
  obtain ⟨x, r, rfl, h_2⟩ := am_pl_inv h_1
  intro H ls locs cells slots S
  exact lv_land F.1 F.2.1 hd (h_2 H ls locs cells slots S)
theorem so_lor (F : so_Fx p s m args meth c cc o nL nm G R z0 s0 zm sm d) (hd : decode cc pc = .ok (.lor, 1)) (h : am_pl st fun y st => am_pl st fun x r => so_X p l e R s m args below meth c Q G nL z0 s0 zm sm (pc + 1) L (.long (x ||| y) :: r) M) : so_X p l e R s m args below meth c Q G nL z0 s0 zm sm pc L st M := by
  obtain ⟨y, st1, rfl, h_1⟩ := am_pl_inv h
  obtain ⟨x, r, rfl, h_2⟩ := am_pl_inv h_1
  intro H ls locs cells slots S
  exact lv_lor F.1 F.2.1 hd (h_2 H ls locs cells slots S)
theorem so_ldiv (F : so_Fx p s m args meth c cc o nL nm G R z0 s0 zm sm d) (hd : decode cc pc = .ok (.ldiv, 1)) (h : am_pl st fun y st => am_pl st fun x r => am_g (!decide (y = 0)) (so_X p l e R s m args below meth c Q G nL z0 s0 zm sm (pc + 1) L (.long (x / y) :: r) M)) : so_X p l e R s m args below meth c Q G nL z0 s0 zm sm pc L st M := by
  obtain ⟨y, st1, rfl, h_1⟩ := am_pl_inv h
  obtain ⟨x, r, rfl, h_2⟩ := am_pl_inv h_1
  obtain ⟨hg, h_3⟩ := am_g_inv h_2
  have hne : ¬ y = 0 := fun q => by rw [q] at hg; cases hg
  intro H ls locs cells slots S
  exact lv_ldiv F.1 F.2.1 hd hne (h_3 H ls locs cells slots S)
theorem so_lrem (F : so_Fx p s m args meth c cc o nL nm G R z0 s0 zm sm d) (hd : decode cc pc = .ok (.lrem, 1)) (h : am_pl st fun y st => am_pl st fun x r => am_g (!decide (y = 0)) (so_X p l e R s m args below meth c Q G nL z0 s0 zm sm (pc + 1) L (.long (x - x / y * y) :: r) M)) : so_X p l e R s m args below meth c Q G nL z0 s0 zm sm pc L st M := by
  obtain ⟨y, st1, rfl, h_1⟩ := am_pl_inv h
  obtain ⟨x, r, rfl, h_2⟩ := am_pl_inv h_1
  obtain ⟨hg, h_3⟩ := am_g_inv h_2
  have hne : ¬ y = 0 := fun q => by rw [q] at hg; cases hg
  intro H ls locs cells slots S
  exact lv_lrem F.1 F.2.1 hd hne (h_3 H ls locs cells slots S)
theorem so_lshl (F : so_Fx p s m args meth c cc o nL nm G R z0 s0 zm sm d) (hd : decode cc pc = .ok (.lshl, 1)) (h : am_pi st fun y st => am_pl st fun x r => so_X p l e R s m args below meth c Q G nL z0 s0 zm sm (pc + 1) L (.long (x <<< (y.toInt64 &&& 63)) :: r) M) : so_X p l e R s m args below meth c Q G nL z0 s0 zm sm pc L st M := by
  obtain ⟨y, st1, rfl, h_1⟩ := am_pi_inv h
  obtain ⟨x, r, rfl, h_2⟩ := am_pl_inv h_1
  intro H ls locs cells slots S
  exact lv_lshl F.1 F.2.1 hd rfl (h_2 H ls locs cells slots S)
theorem so_lcmp (F : so_Fx p s m args meth c cc o nL nm G R z0 s0 zm sm d) (hd : decode cc pc = .ok (.lcmp, 1)) (h : am_pl st fun y st => am_pl st fun x r => so_X p l e R s m args below meth c Q G nL z0 s0 zm sm (pc + 1) L (.int (lg_cmp x y) :: r) M) : so_X p l e R s m args below meth c Q G nL z0 s0 zm sm pc L st M := by
  obtain ⟨y, st1, rfl, h_1⟩ := am_pl_inv h
  obtain ⟨x, r, rfl, h_2⟩ := am_pl_inv h_1
  intro H ls locs cells slots S
  exact W.lcmp F.1 F.2.1 hd (h_2 H ls locs cells slots S)
theorem so_i2l (F : so_Fx p s m args meth c cc o nL nm G R z0 s0 zm sm d) (hd : decode cc pc = .ok (.i2l, 1)) (h : am_pi st fun x r => so_X p l e R s m args below meth c Q G nL z0 s0 zm sm (pc + 1) L (.long x.toInt64 :: r) M) : so_X p l e R s m args below meth c Q G nL z0 s0 zm sm pc L st M := by
  obtain ⟨x, r, rfl, h_1⟩ := am_pi_inv h
  intro H ls locs cells slots S
  exact lv_i2l F.1 F.2.1 hd rfl (h_1 H ls locs cells slots S)
theorem so_l2i (F : so_Fx p s m args meth c cc o nL nm G R z0 s0 zm sm d) (hd : decode cc pc = .ok (.l2i, 1)) (h : am_pl st fun x r => so_X p l e R s m args below meth c Q G nL z0 s0 zm sm (pc + 1) L (.int x.toInt32 :: r) M) : so_X p l e R s m args below meth c Q G nL z0 s0 zm sm pc L st M := by
  obtain ⟨x, r, rfl, h_1⟩ := am_pl_inv h
  intro H ls locs cells slots S
  exact lv_l2i F.1 F.2.1 hd rfl (h_1 H ls locs cells slots S)
theorem so_i2b (F : so_Fx p s m args meth c cc o nL nm G R z0 s0 zm sm d) (hd : decode cc pc = .ok (.i2b, 1)) (h : am_pi st fun x r => so_X p l e R s m args below meth c Q G nL z0 s0 zm sm (pc + 1) L (.int x.toInt8.toInt32 :: r) M) : so_X p l e R s m args below meth c Q G nL z0 s0 zm sm pc L st M := by
  obtain ⟨x, r, rfl, h_1⟩ := am_pi_inv h
  intro H ls locs cells slots S
  exact lv_i2b F.1 F.2.1 hd rfl (h_1 H ls locs cells slots S)
theorem so_i2s (F : so_Fx p s m args meth c cc o nL nm G R z0 s0 zm sm d) (hd : decode cc pc = .ok (.i2s, 1)) (h : am_pi st fun x r => so_X p l e R s m args below meth c Q G nL z0 s0 zm sm (pc + 1) L (.int x.toInt16.toInt32 :: r) M) : so_X p l e R s m args below meth c Q G nL z0 s0 zm sm pc L st M := by
  obtain ⟨x, r, rfl, h_1⟩ := am_pi_inv h
  intro H ls locs cells slots S
  exact lv_i2s F.1 F.2.1 hd rfl (h_1 H ls locs cells slots S)
theorem so_ineg (F : so_Fx p s m args meth c cc o nL nm G R z0 s0 zm sm d) (hd : decode cc pc = .ok (.ineg, 1)) (h : am_pi st fun x r => so_X p l e R s m args below meth c Q G nL z0 s0 zm sm (pc + 1) L (.int (0 - x) :: r) M) : so_X p l e R s m args below meth c Q G nL z0 s0 zm sm pc L st M := by
  obtain ⟨x, r, rfl, h_1⟩ := am_pi_inv h
  intro H ls locs cells slots S
  have k := h_1 H ls locs cells slots S
  rw [Int32.zero_sub] at k
  exact lv_ineg F.1 F.2.1 hd k
theorem so_dup (F : so_Fx p s m args meth c cc o nL nm G R z0 s0 zm sm d) (hd : decode cc pc = .ok (.dup, 1)) (h : am_p1 st fun v r => so_X p l e R s m args below meth c Q G nL z0 s0 zm sm (pc + 1) L (v :: v :: r) M) : so_X p l e R s m args below meth c Q G nL z0 s0 zm sm pc L st M := by
  obtain ⟨v, r, rfl, hc, h_1⟩ := am_p1_inv h
  intro H ls locs cells slots S
  exact lv_dup F.1 F.2.1 hd (by rw [so_v_cat]; exact hc) (h_1 H ls locs cells slots S)
theorem so_dup2 (F : so_Fx p s m args meth c cc o nL nm G R z0 s0 zm sm d) (hd : decode cc pc = .ok (.dup2, 1)) (h : am_p1 st fun v st => am_p1 st fun w r => so_X p l e R s m args below meth c Q G nL z0 s0 zm sm (pc + 1) L (v :: w :: v :: w :: r) M) : so_X p l e R s m args below meth c Q G nL z0 s0 zm sm pc L st M := by
  obtain ⟨v, st1, rfl, hc, h_1⟩ := am_p1_inv h
  obtain ⟨w, r, rfl, hc2, h_2⟩ := am_p1_inv h_1
  intro H ls locs cells slots S
  exact lv_dup2_11 F.1 F.2.1 hd (by rw [so_v_cat]; exact hc) (by rw [so_v_cat]; exact hc2) (h_2 H ls locs cells slots S)
theorem so_pop (F : so_Fx p s m args meth c cc o nL nm G R z0 s0 zm sm d) (hd : decode cc pc = .ok (.pop, 1)) (h : am_p1 st fun _ r => so_X p l e R s m args below meth c Q G nL z0 s0 zm sm (pc + 1) L r M) : so_X p l e R s m args below meth c Q G nL z0 s0 zm sm pc L st M := by
  obtain ⟨v, r, rfl, hc, h_1⟩ := am_p1_inv h
  intro H ls locs cells slots S
  exact lv_pop F.1 F.2.1 hd (by rw [so_v_cat]; exact hc) (h_1 H ls locs cells slots S)
theorem so_goto (F : so_Fx p s m args meth c cc o nL nm G R z0 s0 zm sm d) {off t : Int} (hk : lkT pc off t = true) (hd : decode cc pc = .ok (.goto off, 3)) (h : so_X p l e R s m args below meth c Q G nL z0 s0 zm sm t.toNat L st M) : so_X p l e R s m args below meth c Q G nL z0 s0 zm sm pc L st M := by
  intro H ls locs cells slots S
  exact lv_goto F.1 F.2.1 hd (lkT_to hk) (h H ls locs cells slots S)
theorem so_if_eq (F : so_Fx p s m args meth c cc o nL nm G R z0 s0 zm sm d) {off t : Int} (hk : lkT pc off t = true) (hd : decode cc pc = .ok (.ifCond .eq off, 3)) (h : am_pi st fun x r => am_br (x = 0) (so_X p l e R s m args below meth c Q G nL z0 s0 zm sm t.toNat L r M) (so_X p l e R s m args below meth c Q G nL z0 s0 zm sm (pc + 3) L r M)) : so_X p l e R s m args below meth c Q G nL z0 s0 zm sm pc L st M := by
  obtain ⟨x, r, rfl, h_2⟩ := am_pi_inv h
  intro H ls locs cells slots S
  exact lv_if_eq F.1 F.2.1 hd (lkT_to hk) (fun q => h_2.1 q H ls locs cells slots S) (fun q => h_2.2 q H ls locs cells slots S)
theorem so_if_ne (F : so_Fx p s m args meth c cc o nL nm G R z0 s0 zm sm d) {off t : Int} (hk : lkT pc off t = true) (hd : decode cc pc = .ok (.ifCond .ne off, 3)) (h : am_pi st fun x r => am_br (x = 0) (so_X p l e R s m args below meth c Q G nL z0 s0 zm sm (pc + 3) L r M) (so_X p l e R s m args below meth c Q G nL z0 s0 zm sm t.toNat L r M)) : so_X p l e R s m args below meth c Q G nL z0 s0 zm sm pc L st M := by
  obtain ⟨x, r, rfl, h_2⟩ := am_pi_inv h
  intro H ls locs cells slots S
  exact lv_if_ne F.1 F.2.1 hd (lkT_to hk) (fun q => h_2.2 q H ls locs cells slots S) (fun q => h_2.1 q H ls locs cells slots S)
theorem so_if_lt (F : so_Fx p s m args meth c cc o nL nm G R z0 s0 zm sm d) {off t : Int} (hk : lkT pc off t = true) (hd : decode cc pc = .ok (.ifCond .lt off, 3)) (h : am_pi st fun x r => am_br (x < 0) (so_X p l e R s m args below meth c Q G nL z0 s0 zm sm t.toNat L r M) (so_X p l e R s m args below meth c Q G nL z0 s0 zm sm (pc + 3) L r M)) : so_X p l e R s m args below meth c Q G nL z0 s0 zm sm pc L st M := by
  obtain ⟨x, r, rfl, h_2⟩ := am_pi_inv h
  intro H ls locs cells slots S
  exact lv_if_lt F.1 F.2.1 hd (lkT_to hk) (fun q => h_2.1 q H ls locs cells slots S) (fun q => h_2.2 q H ls locs cells slots S)
theorem so_if_ge (F : so_Fx p s m args meth c cc o nL nm G R z0 s0 zm sm d) {off t : Int} (hk : lkT pc off t = true) (hd : decode cc pc = .ok (.ifCond .ge off, 3)) (h : am_pi st fun x r => am_br (x < 0) (so_X p l e R s m args below meth c Q G nL z0 s0 zm sm (pc + 3) L r M) (so_X p l e R s m args below meth c Q G nL z0 s0 zm sm t.toNat L r M)) : so_X p l e R s m args below meth c Q G nL z0 s0 zm sm pc L st M := by
  obtain ⟨x, r, rfl, h_2⟩ := am_pi_inv h
  intro H ls locs cells slots S
  exact lv_if_ge F.1 F.2.1 hd (lkT_to hk) (fun q => h_2.2 (Int32.not_lt.mpr q) H ls locs cells slots S) (fun q => h_2.1 (Int32.not_le.mp q) H ls locs cells slots S)
theorem so_if_gt (F : so_Fx p s m args meth c cc o nL nm G R z0 s0 zm sm d) {off t : Int} (hk : lkT pc off t = true) (hd : decode cc pc = .ok (.ifCond .gt off, 3)) (h : am_pi st fun x r => am_br (0 < x) (so_X p l e R s m args below meth c Q G nL z0 s0 zm sm t.toNat L r M) (so_X p l e R s m args below meth c Q G nL z0 s0 zm sm (pc + 3) L r M)) : so_X p l e R s m args below meth c Q G nL z0 s0 zm sm pc L st M := by
  obtain ⟨x, r, rfl, h_2⟩ := am_pi_inv h
  intro H ls locs cells slots S
  exact lv_if_gt F.1 F.2.1 hd (lkT_to hk) (fun q => h_2.1 q H ls locs cells slots S) (fun q => h_2.2 q H ls locs cells slots S)
theorem so_if_le (F : so_Fx p s m args meth c cc o nL nm G R z0 s0 zm sm d) {off t : Int} (hk : lkT pc off t = true) (hd : decode cc pc = .ok (.ifCond .le off, 3)) (h : am_pi st fun x r => am_br (0 < x) (so_X p l e R s m args below meth c Q G nL z0 s0 zm sm (pc + 3) L r M) (so_X p l e R s m args below meth c Q G nL z0 s0 zm sm t.toNat L r M)) : so_X p l e R s m args below meth c Q G nL z0 s0 zm sm pc L st M := by
  obtain ⟨x, r, rfl, h_2⟩ := am_pi_inv h
  intro H ls locs cells slots S
  exact lv_if_le F.1 F.2.1 hd (lkT_to hk) (fun q => h_2.2 (Int32.not_lt.mpr q) H ls locs cells slots S) (fun q => h_2.1 (Int32.not_le.mp q) H ls locs cells slots S)
theorem so_icmp_eq (F : so_Fx p s m args meth c cc o nL nm G R z0 s0 zm sm d) {off t : Int} (hk : lkT pc off t = true) (hd : decode cc pc = .ok (.if_icmp .eq off, 3)) (h : am_pi st fun y st => am_pi st fun x r => am_br (x = y) (so_X p l e R s m args below meth c Q G nL z0 s0 zm sm t.toNat L r M) (so_X p l e R s m args below meth c Q G nL z0 s0 zm sm (pc + 3) L r M)) : so_X p l e R s m args below meth c Q G nL z0 s0 zm sm pc L st M := by
  obtain ⟨y, st1, rfl, h_1⟩ := am_pi_inv h
  obtain ⟨x, r, rfl, h_2⟩ := am_pi_inv h_1
  intro H ls locs cells slots S
  exact lv_icmp_eq F.1 F.2.1 hd (lkT_to hk) (fun q => h_2.1 q H ls locs cells slots S) (fun q => h_2.2 q H ls locs cells slots S)
theorem so_icmp_ne (F : so_Fx p s m args meth c cc o nL nm G R z0 s0 zm sm d) {off t : Int} (hk : lkT pc off t = true) (hd : decode cc pc = .ok (.if_icmp .ne off, 3)) (h : am_pi st fun y st => am_pi st fun x r => am_br (x = y) (so_X p l e R s m args below meth c Q G nL z0 s0 zm sm (pc + 3) L r M) (so_X p l e R s m args below meth c Q G nL z0 s0 zm sm t.toNat L r M)) : so_X p l e R s m args below meth c Q G nL z0 s0 zm sm pc L st M := by
  obtain ⟨y, st1, rfl, h_1⟩ := am_pi_inv h
  obtain ⟨x, r, rfl, h_2⟩ := am_pi_inv h_1
  intro H ls locs cells slots S
  exact lv_icmp_ne F.1 F.2.1 hd (lkT_to hk) (fun q => h_2.2 q H ls locs cells slots S) (fun q => h_2.1 q H ls locs cells slots S)
theorem so_icmp_lt (F : so_Fx p s m args meth c cc o nL nm G R z0 s0 zm sm d) {off t : Int} (hk : lkT pc off t = true) (hd : decode cc pc = .ok (.if_icmp .lt off, 3)) (h : am_pi st fun y st => am_pi st fun x r => am_br (x < y) (so_X p l e R s m args below meth c Q G nL z0 s0 zm sm t.toNat L r M) (so_X p l e R s m args below meth c Q G nL z0 s0 zm sm (pc + 3) L r M)) : so_X p l e R s m args below meth c Q G nL z0 s0 zm sm pc L st M := by
  obtain ⟨y, st1, rfl, h_1⟩ := am_pi_inv h
  obtain ⟨x, r, rfl, h_2⟩ := am_pi_inv h_1
  intro H ls locs cells slots S
  exact lv_icmp_lt F.1 F.2.1 hd (lkT_to hk) (fun q => h_2.1 q H ls locs cells slots S) (fun q => h_2.2 q H ls locs cells slots S)
theorem so_icmp_ge (F : so_Fx p s m args meth c cc o nL nm G R z0 s0 zm sm d) {off t : Int} (hk : lkT pc off t = true) (hd : decode cc pc = .ok (.if_icmp .ge off, 3)) (h : am_pi st fun y st => am_pi st fun x r => am_br (x < y) (so_X p l e R s m args below meth c Q G nL z0 s0 zm sm (pc + 3) L r M) (so_X p l e R s m args below meth c Q G nL z0 s0 zm sm t.toNat L r M)) : so_X p l e R s m args below meth c Q G nL z0 s0 zm sm pc L st M := by
  obtain ⟨y, st1, rfl, h_1⟩ := am_pi_inv h
  obtain ⟨x, r, rfl, h_2⟩ := am_pi_inv h_1
  intro H ls locs cells slots S
  exact lv_icmp_ge F.1 F.2.1 hd (lkT_to hk) (fun q => h_2.2 (Int32.not_lt.mpr q) H ls locs cells slots S) (fun q => h_2.1 (Int32.not_le.mp q) H ls locs cells slots S)
theorem so_icmp_gt (F : so_Fx p s m args meth c cc o nL nm G R z0 s0 zm sm d) {off t : Int} (hk : lkT pc off t = true) (hd : decode cc pc = .ok (.if_icmp .gt off, 3)) (h : am_pi st fun y st => am_pi st fun x r => am_br (y < x) (so_X p l e R s m args below meth c Q G nL z0 s0 zm sm t.toNat L r M) (so_X p l e R s m args below meth c Q G nL z0 s0 zm sm (pc + 3) L r M)) : so_X p l e R s m args below meth c Q G nL z0 s0 zm sm pc L st M := by
  obtain ⟨y, st1, rfl, h_1⟩ := am_pi_inv h
  obtain ⟨x, r, rfl, h_2⟩ := am_pi_inv h_1
  intro H ls locs cells slots S
  exact lv_icmp_gt F.1 F.2.1 hd (lkT_to hk) (fun q => h_2.1 q H ls locs cells slots S) (fun q => h_2.2 q H ls locs cells slots S)
theorem so_icmp_le (F : so_Fx p s m args meth c cc o nL nm G R z0 s0 zm sm d) {off t : Int} (hk : lkT pc off t = true) (hd : decode cc pc = .ok (.if_icmp .le off, 3)) (h : am_pi st fun y st => am_pi st fun x r => am_br (y < x) (so_X p l e R s m args below meth c Q G nL z0 s0 zm sm (pc + 3) L r M) (so_X p l e R s m args below meth c Q G nL z0 s0 zm sm t.toNat L r M)) : so_X p l e R s m args below meth c Q G nL z0 s0 zm sm pc L st M := by
  obtain ⟨y, st1, rfl, h_1⟩ := am_pi_inv h
  obtain ⟨x, r, rfl, h_2⟩ := am_pi_inv h_1
  intro H ls locs cells slots S
  exact lv_icmp_le F.1 F.2.1 hd (lkT_to hk) (fun q => h_2.2 (Int32.not_lt.mpr q) H ls locs cells slots S) (fun q => h_2.1 (Int32.not_le.mp q) H ls locs cells slots S)
theorem am_ofI {v : Int} (h1 : -2000 ≤ v) (h2 : v ≤ 2000) : (am_k v).toInt = v := by
  rw [am_k_eq]
  exact Int32.toInt_ofInt_of_le (by omega) (by omega)
theorem am_sw_out {x : Int32} {f : Nat → Prop} {dt : Nat} : ∀ (ts : List Int) (k : Int), -1000 ≤ k → k + ts.length ≤ 1001 → (x.toInt < k ∨ k + ts.length ≤ x.toInt) → am_sw x k ts f dt → f dt
  | [], _, _, _, _, h => h
  | t :: ts, k, h1, h2, h3, h => by
    rw [List.length_cons] at h2 h3
    have hne : ¬ x = am_k k := fun q => by
      have := congrArg Int32.toInt q
      rw [am_ofI (by omega) (by omega)] at this
      omega
    exact am_sw_out ts (k + 1) (by omega) (by omega) (by omega) (h.2 hne)
theorem am_sw_in {x : Int32} {f : Nat → Prop} {dt : Nat} : ∀ (ts : List Int) (k : Int), -1000 ≤ k → k + ts.length ≤ 1001 → k ≤ x.toInt → x.toInt < k + ts.length → am_sw x k ts f dt → ∃ t, ts[(x.toInt - k).toNat]? = some t ∧ f t.toNat
  | [], k, _, _, h3, h4, _ => by simp at h4; omega
  | t :: ts, k, h1, h2, h3, h4, h => by
    rw [List.length_cons] at h2 h4
    by_cases e : x.toInt = k
    · refine ⟨t, by rw [e]; simp, h.1 ?_⟩
      rw [← e, am_k_eq, Int32.ofInt_toInt]
    · have hne : ¬ x = am_k k := fun q => by
        have := congrArg Int32.toInt q
        rw [am_ofI (by omega) (by omega)] at this
        omega
      obtain ⟨t2, g1, g2⟩ := am_sw_in ts (k + 1) (by omega) (by omega) (by omega) (by omega) (h.2 hne)
      refine ⟨t2, ?_, g2⟩
      rw [show (x.toInt - k).toNat = (x.toInt - (k + 1)).toNat + 1 by omega]
      exact g1
theorem so_tableswitch (F : so_Fx p s m args meth c cc o nL nm G R z0 s0 zm sm d) {dd lo hi : Int} {ts : Array Int} {ln : Nat} {orig : Instr} {rt : Option FieldType} (hk : lkB o nm rt pc (.tableswitch dd lo hi ts) ln orig = true) (hd : decode cc pc = .ok (orig, ln)) (h : am_pi st fun x r => am_sw x lo ts.toList (fun t => so_X p l e R s m args below meth c Q G nL z0 s0 zm sm t L r M) dd.toNat) : so_X p l e R s m args below meth c Q G nL z0 s0 zm sm pc L st M := by
  obtain ⟨x, r, rfl, h_1⟩ := am_pi_inv h
  dsimp only [lkB] at hk
  split at hk
  · rename_i d' lo' hi' ts'
    obtain ⟨hk, k8⟩ := am_bb hk
    obtain ⟨hk, k7⟩ := am_bb hk
    obtain ⟨hk, k6⟩ := am_bb hk
    obtain ⟨hk, k5⟩ := am_bb hk
    obtain ⟨hk, k4⟩ := am_bb hk
    obtain ⟨hk, k3⟩ := am_bb hk
    obtain ⟨k1, k2⟩ := am_bb hk
    have k1 := of_decide_eq_true k1
    have k2 := of_decide_eq_true k2
    subst k1
    subst k2
    have k4 := of_decide_eq_true k4
    have k6 := of_decide_eq_true k6
    have k7 := of_decide_eq_true k7
    have k8 := of_decide_eq_true k8
    intro H ls locs cells slots S
    by_cases hin : lo' ≤ x.toInt ∧ x.toInt ≤ hi'
    · obtain ⟨t, g1, g2⟩ := am_sw_in ts.toList lo' k7 (by omega) hin.1 (by omega) h_1
      rw [← k4, List.getElem?_map] at g1
      cases g3 : ts'.toList[(x.toInt - lo').toNat]? with
      | none => rw [g3] at g1; cases g1
      | some u =>
        rw [g3] at g1
        have g4 : (pc : Int) + u = t := Option.some.inj g1
        have g5 : 0 ≤ t := of_decide_eq_true (List.all_eq_true.mp k5 t (by rw [← k4, ← g4]; exact List.mem_map.mpr ⟨u, List.mem_of_getElem? g3, rfl⟩))
        exact lv_tableIn F.1 F.2.1 hd (by omega) (by omega) (by rw [← Array.getElem?_toList]; exact g3) (by rw [g4, Int.toNat_of_nonneg g5]) (g2 H ls locs cells slots S)
    · exact lv_tableOut F.1 F.2.1 hd (by omega) (lkT_to k3) (am_sw_out ts.toList lo' k7 (by omega) (by omega) h_1 H ls locs cells slots S)
  · cases hk
theorem am_lw_in {x : Int32} {f : Nat → Prop} {pc : Nat} {d' dd : Int} (hdd : (pc : Int) + d' = ((dd.toNat : Nat) : Int)) : ∀ (ps : List (Int × Int)), (∀ q ∈ ps, 0 ≤ (pc : Int) + q.2 ∧ -1000 ≤ q.1 ∧ q.1 ≤ 1000) → am_lw x (ps.map fun t => (t.1, (pc : Int) + t.2)) f dd.toNat → ∃ tgt : Nat, (pc : Int) + Op.lookupswitch.offset ps d' x.toInt = (tgt : Int) ∧ f tgt
  | [], _, h => ⟨dd.toNat, hdd, h⟩
  | (a, b) :: ps, hq, h => by
    obtain ⟨q1, q2, q3⟩ := hq (a, b) List.mem_cons_self
    by_cases e : x = am_k a
    · refine ⟨((pc : Int) + b).toNat, ?_, h.1 e⟩
      rw [Int.toNat_of_nonneg q1]
      have e2 : x.toInt = a := by rw [e]; exact am_ofI (by omega) (by omega)
      simp [Op.lookupswitch.offset, e2]
    · rw [lv_osw (k := am_k a) e (am_ofI (by omega) (by omega))]
      exact am_lw_in hdd ps (fun q hq2 => hq q (List.mem_cons_of_mem _ hq2)) (h.2 e)
theorem so_lookupswitch (F : so_Fx p s m args meth c cc o nL nm G R z0 s0 zm sm d) {dd : Int} {ps : Array (Int × Int)} {ln : Nat} {orig : Instr} {rt : Option FieldType} (hk : lkB o nm rt pc (.lookupswitch dd ps) ln orig = true) (hd : decode cc pc = .ok (orig, ln)) (h : am_pi st fun x r => am_lw x ps.toList (fun t => so_X p l e R s m args below meth c Q G nL z0 s0 zm sm t L r M) dd.toNat) : so_X p l e R s m args below meth c Q G nL z0 s0 zm sm pc L st M := by
  obtain ⟨x, r, rfl, h_1⟩ := am_pi_inv h
  dsimp only [lkB] at hk
  split at hk
  · rename_i d' ps'
    obtain ⟨hk, k4⟩ := am_bb hk
    obtain ⟨hk, k3⟩ := am_bb hk
    obtain ⟨k1, k2⟩ := am_bb hk
    have k2 := of_decide_eq_true k2
    rw [← k2] at h_1 k3
    intro H ls locs cells slots S
    obtain ⟨tgt, g1, g2⟩ := am_lw_in (lkT_to k1) ps'.toList (fun q hq => by
      have h9 := List.all_eq_true.mp k3 (q.1, (pc : Int) + q.2) (List.mem_map.mpr ⟨q, hq, rfl⟩)
      obtain ⟨h9, h8⟩ := am_bb h9
      obtain ⟨h9, h7⟩ := am_bb h9
      exact ⟨of_decide_eq_true h9, of_decide_eq_true h7, of_decide_eq_true h8⟩) h_1
    exact lv_lookup F.1 F.2.1 hd k4 rfl g1 (g2 H ls locs cells slots S)
  · cases hk
end SO
