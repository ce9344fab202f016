/-! SOUNDNESS, VI: cells made; what the kit has as one row -/
theorem so_int {i : Int32} {n : Nat} (h : n = am_un i) (hn : n < 2 ^ 31) : ¬ i < 0 ∧ i.toNatClampNeg = n := by
  obtain ⟨h1, h2⟩ := so_in (i := i) (n := n + 1) (by omega) (by omega)
  exact ⟨fun q => h1 (Or.inl q), by rw [h2, h]⟩
theorem so_addr {G : so_G} {U : State} {M : am_M} {H : Heap} (S2 : so_H G U M H) : so_ad G M.2.2.2.1 = H.size := by
  rw [so_ad_hi G S2.2.1, S2.1]
theorem so_vRf (G : so_G) (r : Nat) : so_v G (.ref r) = .ref (so_ad G r) := rfl
theorem so_outer (c : ClassId) (N h0 : Nat) : ∀ i : Nat, Jvm.Free.Multi.outerC c N h0 i = arrV c N (fun j => va_rf (if j < i then some (h0 + 1 + j) else none))
  | 0 => by
    show ({ cls := c, slots := Array.replicate N .null, vm := .none } : Cell) = _
    rw [arrV_new]
    refine congrArg (arrV c N) (funext fun j => ?_)
    simp [va_rf]
  | i + 1 => by
    show (Jvm.Free.Multi.outerC c N h0 i).setSlot i (.ref (h0 + 1 + i)) = _
    rw [so_outer c N h0 i, arrV_store]
    refine congrArg (arrV c N) (funext fun j => ?_)
    by_cases e : j = i
    · subst e
      simp [updV, va_rf]
    · by_cases h : j < i
      · simp [updV, e, h, Nat.lt_succ_of_lt h]
      · simp [updV, e, h, show ¬ j < i + 1 by omega]
section SO
variable {p : Program} {l : Launch} {e : Env} {R : Room} {s : State} {m : MethodId} {args : Array Value} {below : List Frame} {meth : Method} {c : Code} {Q : State → Prop}
variable {cc : ByteArray} {G : so_G} {o nL z0 s0 zm sm d : Nat} {nm : String} {pc : Nat} {L : am_L} {st : List Value} {M : am_M}
theorem so_pc (ho : o < 15) {i q : Nat} (h : ((pl_c o).any fun e => Nat.beq e.1 i && Nat.beq e.2.1 q) = true) : (.classLink (cl_R o) i (cond (Nat.beq q 100) "[[I" (cond (Nat.beq q 101) "[[J" (cl_R q))) : Jvm.Cond) ∈ lw_tbg ∧ (q = 100 ∨ q = 101 ∨ q < 10) := by
  obtain ⟨x, hx⟩ := lk_any2 h
  have h1 := List.all_eq_true.mp (lk_all15 pc_ok ho) _ hx
  obtain ⟨h1, h3⟩ := am_bb h1
  refine ⟨lw_is_in h1, ?_⟩
  rcases (Bool.or_eq_true _ _).mp h3 with h3 | h3
  · rcases (Bool.or_eq_true _ _).mp h3 with h3 | h3
    · exact Or.inl (Nat.eq_of_beq_eq_true h3)
    · exact Or.inr (Or.inl (Nat.eq_of_beq_eq_true h3))
  · exact Or.inr (Or.inr (Nat.le_of_ble_eq_true h3))
/-- one cell is made -/
theorem so_made {H H1 : Heap} (S2 : so_H G s M H) (hs : H1.size = H.size + 1) (oq : ∀ q : Nat, q < H.size → H1[q]? = H[q]?) (hat : va_at G.2.2.1 vwCl (so_ad G M.2.2.2.1, so_e G (am_new M) M.2.2.2.1) H1) : so_H G s (am_new M) H1 := by
  refine S2.push (k := 1) (fun r hr => am_sr_ne _ _ (by omega)) (fun r hr => am_sr_ne _ _ (by omega)) (fun r hr => am_sr_ne _ _ (by omega)) rfl rfl hs oq fun r h1 h2 => ?_
  have : r = M.2.2.2.1 := by omega
  subst this
  exact hat
theorem so_new (F : so_Fx p s m args meth c cc o nL nm G R z0 s0 zm sm d) {ci ln : Nat} {orig : Instr} {rt : Option FieldType} (hk : lkB o nm rt pc (.new ci) ln orig = true) (hd : decode cc pc = .ok (orig, ln))
    (h : am_g (Nat.beq (sh_t M.2.2.2.1) (10 + ci)) ((M.2.2.2.1 + 1 ≤ zm ∧ M.2.2.2.2.1 + sh_n M.2.2.2.1 ≤ sm) ∧ so_X p l e R s m args below meth c Q G nL z0 s0 zm sm (pc + ln) L (.ref M.2.2.2.1 :: st) (am_new M))) : so_X p l e R s m args below meth c Q G nL z0 s0 zm sm pc L st M := by
  obtain ⟨hg, ⟨hz1, hs1⟩, h_1⟩ := am_g_inv h
  have ht := Nat.eq_of_beq_eq_true hg
  dsimp only [lkB] at hk
  split at hk
  · obtain ⟨k1, k2⟩ := am_bb hk
    cases Nat.eq_of_beq_eq_true k1
    obtain ⟨hw, hq⟩ := so_pc F.2.2.2.2.2.2.2.2.2.2.2 k2
    have hci : ci < 10 := by
      rcases hq with hq | hq | hq
      · subst hq
        rcases Nat.lt_or_ge M.2.2.2.1 1497 with h9 | h9
        · have h8 := List.all_eq_true.mp sh_obj_lo _ (List.mem_range.mpr h9)
          rw [ht] at h8
          cases (am_bb h8).2
        · rw [(sh_hi h9).1] at ht; omega
      · subst hq
        rcases Nat.lt_or_ge M.2.2.2.1 1497 with h9 | h9
        · have h8 := List.all_eq_true.mp sh_obj_lo _ (List.mem_range.mpr h9)
          rw [ht] at h8
          cases (am_bb h8).2
        · rw [(sh_hi h9).1] at ht; omega
      · exact hq
    rw [show cond (Nat.beq ci 100) "[[I" (cond (Nat.beq ci 101) "[[J" (cl_R ci)) = cl_R ci by rw [am_beq_ne (by omega), am_beq_ne (by omega)]; rfl] at hw
    obtain ⟨n1, n2⟩ := am_bb (lk_all10 pl_n_ok hci)
    obtain ⟨hvw, hfs, hnm⟩ := so_clok hci
    have hsn := sh_obj ht
    intro H ls locs cells slots S
    obtain ⟨S1, S2, S3, S4, S5, S6, S7⟩ := S
    have hKn := F.2.2.2.2.2.1.1.1 ci _ hvw
    have hc1 : cells + 1 ≤ R.cells := by have := F.2.2.2.2.2.2.2.1; omega
    have hc2 : slots + cl_N ci ≤ R.slots := by have := F.2.2.2.2.2.2.2.2.1; omega
    refine W.newcK F.1 F.2.1 F.2.2.2.1 (F.2.2.2.2.1 _ hw) (F.2.2.2.2.1 _ (lw_is_in n1)) (F.2.2.2.2.1 _ (lw_is_in n2)) rfl hd hc1 hc2 hKn.2.1 rfl fun H1 kC hkC e1 e2 e3 => ?_
    have k := h_1 H1 ls locs (cells + 1) (slots + cl_N ci) ⟨S1, so_made S2 e2 e3 ?_, by show _ = M.2.2.2.1 + 1; omega, by show _ = M.2.2.2.2.1 + sh_n M.2.2.2.1; omega, hz1, hs1, S7⟩
    · rw [List.map_cons, so_vRf, so_addr S2] at k
      exact k
    · rw [so_eo ht, so_addr S2]
      refine ⟨_, hvw, (u_born (cl_Y ci) F.2.2.2.2.1 (so_uws hci) hKn hkC e1 (fun k hk => (hfs k hk).2.1)).to fun k hk => ?_⟩
      have hk2 : k < cl_N ci := hk
      rw [so_vV G _ _ ci hk2]
      have hty := (hfs k hk2).2.2
      unfold so_f
      show _ = cond _ (va_rf (so_q G (am_sr M.2.2.1 M.2.2.2.1 (fun _ => none) M.2.2.2.1 k))) (.int (am_sr M.1 M.2.2.2.1 (fun _ => 0) M.2.2.2.1 k))
      rw [am_sr_eq, am_sr_eq]
      cases hb : Nat.beq (sh_f ci k) 1 with
      | true =>
        rw [hb] at hty
        dsimp only [cond] at hty
        split at hty
        · rename_i n q; rw [q]; rfl
        · rename_i n q; rw [q]; rfl
        · cases hty
      | false =>
        rw [hb] at hty
        cases h0 : Nat.beq (sh_f ci k) 0 with
        | true =>
          rw [h0] at hty
          rw [of_decide_eq_true hty]
          rfl
        | false =>
          rw [h0] at hty
          rw [of_decide_eq_true (am_bb hty).1]
          rfl
  · cases hk
theorem so_newarr (F : so_Fx p s m args meth c cc o nL nm G R z0 s0 zm sm d) {at' : ArrayType} {t : Nat} (hty : newarray.typeOf at' = so_ty t) (ht3 : t < 3) (hw : (.arrayClass (newarray.typeOf at') : Jvm.Cond) ∈ lw_tbg) (hcb : componentBytes (newarray.typeOf at') ≤ 8) (hd : decode cc pc = .ok (.newarray at', 2)) {x : Int32} {r : List Value} (ht : sh_t M.2.2.2.1 = t) (hx : sh_n M.2.2.2.1 = am_un x)
    (h : (M.2.2.2.1 + 1 ≤ zm ∧ M.2.2.2.2.1 + sh_n M.2.2.2.1 ≤ sm) ∧ so_X p l e R s m args below meth c Q G nL z0 s0 zm sm (pc + 2) L (.ref M.2.2.2.1 :: r) (am_new M)) : so_X p l e R s m args below meth c Q G nL z0 s0 zm sm pc L (.int x :: r) M := by
  obtain ⟨⟨hz1, hs1⟩, h_1⟩ := h
  have hl2 := so_len_le M.2.2.2.1
  obtain ⟨hx1, hx2⟩ := so_int hx (by omega)
  intro H ls locs cells slots S
  obtain ⟨S1, S2, S3, S4, S5, S6, S7⟩ := S
  have hc1 : cells + 1 ≤ R.cells := by have := F.2.2.2.2.2.2.2.1; omega
  have hc2 : slots + sh_n M.2.2.2.1 ≤ R.slots := by have := F.2.2.2.2.2.2.2.2.1; omega
  refine va_newaK F.1 F.2.1 (F.2.2.2.2.1 _ hw) rfl hd rfl hx1 hx2 (by have := Nat.mul_le_mul hl2 hcb; omega) hc1 hc2 rfl fun H1 cA e1 e2 e3 e4 e5 => ?_
  have hA : cA = G.2.2.2.1 t := by
    have q := (F.2.2.2.2.2.1.1.2 t _ (so_tys G t (by omega))).2
    rw [hty] at e5
    match t, ht3 with
    | 0, _ => exact Option.some.inj (e5.symm.trans q)
    | 1, _ => exact Option.some.inj (e5.symm.trans q)
    | 2, _ => exact Option.some.inj (e5.symm.trans q)
  subst hA
  have k := h_1 H1 ls locs (cells + 1) (slots + sh_n M.2.2.2.1) ⟨S1, so_made S2 e2 e3 ?_, by show _ = M.2.2.2.1 + 1; omega, by show _ = M.2.2.2.2.1 + sh_n M.2.2.2.1; omega, hz1, hs1, S7⟩
  · rw [List.map_cons, so_vRf, so_addr S2] at k
    exact k
  · rw [so_addr S2]
    rw [hty] at e1
    match t, ht3 with
    | 0, _ =>
      rw [so_e0 ht]
      show H1[H.size]? = some (arrV _ _ fun j => .int (am_sr M.1 M.2.2.2.1 (fun _ => 0) M.2.2.2.1 j))
      rw [am_sr_eq]
      exact e1
    | 1, _ =>
      rw [so_e1 ht]
      show H1[H.size]? = some (arrV _ _ fun j => .int (am_sr M.1 M.2.2.2.1 (fun _ => 0) M.2.2.2.1 j))
      rw [am_sr_eq]
      exact e1
    | 2, _ =>
      rw [so_e2 ht]
      show H1[H.size]? = some (arrV _ _ fun j => .long (am_sr M.2.1 M.2.2.2.1 (fun _ => 0) M.2.2.2.1 j))
      rw [am_sr_eq]
      exact e1
theorem so_newarray (F : so_Fx p s m args meth c cc o nL nm G R z0 s0 zm sm d) {at' : ArrayType} {ln : Nat} {orig : Instr} {rt : Option FieldType} (hk : lkB o nm rt pc (.newarray at') ln orig = true) (hd : decode cc pc = .ok (orig, ln))
    (h : am_pi st fun x r => am_g (Nat.beq (sh_t M.2.2.2.1) (match (generalizing := false) at' with | .int => 0 | .boolean => 1 | .long => 2 | _ => 9) && Nat.beq (sh_n M.2.2.2.1) (am_un x)) ((M.2.2.2.1 + 1 ≤ zm ∧ M.2.2.2.2.1 + sh_n M.2.2.2.1 ≤ sm) ∧ so_X p l e R s m args below meth c Q G nL z0 s0 zm sm (pc + ln) L (.ref M.2.2.2.1 :: r) (am_new M))) : so_X p l e R s m args below meth c Q G nL z0 s0 zm sm pc L st M := by
  obtain ⟨x, r, rfl, h_1⟩ := am_pi_inv h
  obtain ⟨hg, h_2⟩ := am_g_inv h_1
  obtain ⟨g1, g2⟩ := am_bb hg
  have g1 := Nat.eq_of_beq_eq_true g1
  have g2 := Nat.eq_of_beq_eq_true g2
  dsimp only [lkB] at hk
  obtain ⟨hk, k3⟩ := am_bb hk
  obtain ⟨k1, k2⟩ := am_bb hk
  cases Nat.eq_of_beq_eq_true k2
  rw [of_decide_eq_true k1] at hd
  rcases (Bool.or_eq_true _ _).mp k3 with k3 | k3
  · rcases (Bool.or_eq_true _ _).mp k3 with k3 | k3
    · cases of_decide_eq_true k3
      exact so_newarr F (at' := .int) (t := 0) rfl (by omega) lw_arI (by decide) hd g1 g2 h_2
    · cases of_decide_eq_true k3
      exact so_newarr F (at' := .boolean) (t := 1) rfl (by omega) lw_arZ (by decide) hd g1 g2 h_2
  · cases of_decide_eq_true k3
    exact so_newarr F (at' := .long) (t := 2) rfl (by omega) lw_arJ (by decide) hd g1 g2 h_2
theorem so_anewarray (F : so_Fx p s m args meth c cc o nL nm G R z0 s0 zm sm d) {z ln : Nat} {orig : Instr} {rt : Option FieldType} (hk : lkB o nm rt pc (.anewarray z) ln orig = true) (hd : decode cc pc = .ok (orig, ln))
    (h : am_pi st fun x r => am_g (Nat.beq (sh_t M.2.2.2.1) 5 && Nat.beq (sh_n M.2.2.2.1) (am_un x)) ((M.2.2.2.1 + 1 ≤ zm ∧ M.2.2.2.2.1 + sh_n M.2.2.2.1 ≤ sm) ∧ so_X p l e R s m args below meth c Q G nL z0 s0 zm sm (pc + ln) L (.ref M.2.2.2.1 :: r) (am_new M))) : so_X p l e R s m args below meth c Q G nL z0 s0 zm sm pc L st M := by
  obtain ⟨x, r, rfl, h_1⟩ := am_pi_inv h
  obtain ⟨hg, ⟨hz1, hs1⟩, h_2⟩ := am_g_inv h_1
  obtain ⟨g1, g2⟩ := am_bb hg
  have ht := Nat.eq_of_beq_eq_true g1
  have hx := Nat.eq_of_beq_eq_true g2
  have hl2 := so_len_le M.2.2.2.1
  obtain ⟨hx1, hx2⟩ := so_int hx (by omega)
  dsimp only [lkB] at hk
  split at hk
  · obtain ⟨k1, k2⟩ := am_bb hk
    cases Nat.eq_of_beq_eq_true k1
    obtain ⟨hw, -⟩ := so_pc F.2.2.2.2.2.2.2.2.2.2.2 k2
    intro H ls locs cells slots S
    obtain ⟨S1, S2, S3, S4, S5, S6, S7⟩ := S
    have hc1 : cells + 1 ≤ R.cells := by have := F.2.2.2.2.2.2.2.1; omega
    have hc2 : slots + sh_n M.2.2.2.1 ≤ R.slots := by have := F.2.2.2.2.2.2.2.2.1; omega
    refine W.anew (C := "EightBlocks$State") F.1 F.2.1 F.2.2.2.1 (F.2.2.2.2.1 _ hw) (va_AO.use (F.2.2.2.2.2.1.2.2.1 _ rfl)) rfl hd rfl hx1 (by rw [hx2]; omega) hc1 (by rw [hx2]; exact hc2) fun cA kA comp f1 f2 f3 f4 => ?_
    have hA : cA = G.2.2.2.1 5 := by
      obtain ⟨_, _, -, -, -, q⟩ := (F.2.2.2.2.2.1.1.2 5 _ (so_tys G 5 (by omega))).2
      exact Option.some.inj (f1.symm.trans q)
    subst hA
    rw [hx2]
    generalize hH1 : H.push ({ cls := G.2.2.2.1 5, slots := Array.replicate (sh_n M.2.2.2.1) .null, vm := .none } : Cell) = H1
    have z1 : H1.size = H.size + 1 := by rw [← hH1, Array.size_push]
    have e1 : H1[H.size]? = some (arrV (G.2.2.2.1 5) (sh_n M.2.2.2.1) (fun _ => .null)) := by rw [← hH1, Array.getElem?_push_size, ← arrV_new]
    have o1 : ∀ q : Nat, q < H.size → H1[q]? = H[q]? := fun q hq => by rw [← hH1, Array.getElem?_push, if_neg (Nat.ne_of_lt hq)]
    have k := h_2 H1 ls locs (cells + 1) (slots + sh_n M.2.2.2.1) ⟨S1, so_made S2 z1 o1 ?_, by show _ = M.2.2.2.1 + 1; omega, by show _ = M.2.2.2.2.1 + sh_n M.2.2.2.1; omega, hz1, hs1, S7⟩
    · rw [List.map_cons, so_vRf, so_addr S2] at k
      exact k
    · rw [so_addr S2, so_eq ht (by omega) (by omega)]
      show H1[H.size]? = some (arrV _ _ fun j => va_rf (so_q G (am_sr M.2.2.1 M.2.2.2.1 (fun _ => none) M.2.2.2.1 j)))
      rw [am_sr_eq]
      exact e1
  · cases hk
theorem am_zr_in {α : Type} (I : Nat → Nat → α) {a n b : Nat} (g : Nat → α) (h1 : a ≤ b) (h2 : b < a + n) : am_zr I a n g b = g := by
  unfold am_zr
  rw [Nat.ble_eq_true_of_le h1, Nat.ble_eq_true_of_le (show b + 1 ≤ a + n from h2)]
  rfl
theorem am_zr_lt {α : Type} (I : Nat → Nat → α) {a n b : Nat} (g : Nat → α) (h1 : b < a) : am_zr I a n g b = I b := by
  unfold am_zr
  rw [nb_hi h1]
  rfl
theorem so_multi (F : so_Fx p s m args meth c cc o nL nm G R z0 s0 zm sm d) {t i : Nat} (hd : decode cc pc = .ok (.multianewarray i 2, 4)) {ty : FieldType} {x k : Int32} {r : List Value} (ht : sh_t M.2.2.2.1 = t) (hx : sh_n M.2.2.2.1 = am_un x) (h24 : am_un k ≤ 24000) (ht3 : 3 ≤ t) (ht4 : t ≤ 4) (hty : so_ty t = .array ty) (hty2 : so_ty ((t - 3) * 2) = ty) (hcl : (.classLink (cl_R o) i ("[" ++ (FieldType.array ty).toString) : Jvm.Cond) ∈ lw_tbg) (har : (.arrayClass ty : Jvm.Cond) ∈ lw_tbg) (hov : (Jvm.Cond.arrayOver (.array ty)).before #[] s = true) (hcb : componentBytes ty ≤ 8)
    (h : (∀ j, j < am_un x → sh_t (M.2.2.2.1 + 1 + j) = (t - 3) * 2 ∧ sh_n (M.2.2.2.1 + 1 + j) = am_un k) ∧ (M.2.2.2.1 + 1 + am_un x ≤ zm ∧ M.2.2.2.2.1 + am_un x + am_un x * am_un k ≤ sm) ∧ so_X p l e R s m args below meth c Q G nL z0 s0 zm sm (pc + 4) L (.ref M.2.2.2.1 :: r) (am_mul M (am_un x) (am_un k))) : so_X p l e R s m args below meth c Q G nL z0 s0 zm sm pc L (.int k :: .int x :: r) M := by
  obtain ⟨hrows, ⟨hz1, hs1⟩, h_1⟩ := h
  have hl2 := so_len_le M.2.2.2.1
  obtain ⟨hx1, hx2⟩ := so_int (i := x) rfl (by omega)
  obtain ⟨hk1, hk2⟩ := so_int (i := k) rfl (by omega)
  intro H ls locs cells slots S
  obtain ⟨S1, S2, S3, S4, S5, S6, S7⟩ := S
  have hc1 : cells + (1 + am_un x) ≤ R.cells := by have := F.2.2.2.2.2.2.2.1; omega
  have hc2 : slots + (am_un x + am_un x * am_un k) ≤ R.slots := by have := F.2.2.2.2.2.2.2.2.1; omega
  intro T hT Xs
  have hb := F.2.1
  obtain ⟨vm₁, cA, comp, -, fA, fC, -, -, X', step⟩ := Xs.multianewarray2F F.1 F.2.2.2.1 (F.2.2.2.2.1 _ hcl) hov (F.2.2.2.2.1 _ har) (g := F0 m pc ls (.int k :: .int x :: r.map (so_v G))) rfl (by rw [hb]; exact hd) rfl hx1 hk1 (by rw [hx2]; omega) (by rw [hk2]; have := Nat.mul_le_mul h24 hcb; omega) (by rw [hk2]; omega) (by cases t; omega; rename_i t; match t, ht3, ht4, hty with | 2, _, _, hty => cases hty; rfl | 3, _, _, hty => cases hty; rfl) (by cases t; omega; rename_i t; match t, ht3, ht4, hty with | 2, _, _, hty => cases hty; rfl | 3, _, _, hty => cases hty; rfl) (by rw [hx2]; exact hc1) (by rw [hx2, hk2]; exact hc2)
  rw [hx2, hk2] at X' step
  have hcA : cA = G.2.2.2.1 t := by
    have q := (F.2.2.2.2.2.1.1.2 t _ (so_tys G t (by omega))).2
    rw [hty] at q
    exact Option.some.inj (fA.symm.trans q)
  have hcI : comp = G.2.2.2.1 ((t - 3) * 2) := by
    have q := (F.2.2.2.2.2.1.1.2 ((t - 3) * 2) _ (so_tys G ((t - 3) * 2) (by omega))).2
    rw [hty2] at q
    cases t; omega; rename_i t
    match t, ht3, ht4, hty with
    | 2, _, _, hty => cases hty; exact Option.some.inj (fC.symm.trans q)
    | 3, _, _, hty => cases hty; exact Option.some.inj (fC.symm.trans q)
  subst hcA
  subst hcI
  generalize hF : Jvm.Free.Multi.fill (T.setVm vm₁) (G.2.2.2.1 t) (G.2.2.2.1 ((t - 3) * 2)) (am_un x) (am_un k) (defaultValue ty) (am_un x) = Fs at X' step
  have hTh : (T.setVm vm₁).heap = H := hT
  obtain ⟨f1, f2, -, -⟩ := Jvm.Free.Multi.fill_facts (T.setVm vm₁) (G.2.2.2.1 t) (G.2.2.2.1 ((t - 3) * 2)) (am_un x) (am_un k) (defaultValue ty) (am_un x)
  rw [hF, hTh] at f1 f2
  have hold : ∀ q : Nat, q < H.size → Fs.heap[q]? = H[q]? := fun q hq => by
    have := Jvm.Free.Multi.fill_old (T.setVm vm₁) (G.2.2.2.1 t) (G.2.2.2.1 ((t - 3) * 2)) (am_un x) (am_un k) (defaultValue ty) (a := q) (by rw [hTh]; exact hq) (am_un x)
    rw [hF, hTh] at this
    exact this
  have hrow : ∀ j : Nat, j < am_un x → Fs.heap[H.size + 1 + j]? = some (Jvm.Free.Multi.innerC (G.2.2.2.1 ((t - 3) * 2)) (am_un k) (defaultValue ty)) := fun j hj => by
    have := Jvm.Free.Multi.fill_inner (T.setVm vm₁) (G.2.2.2.1 t) (G.2.2.2.1 ((t - 3) * 2)) (am_un x) (am_un k) (defaultValue ty) (am_un x) j hj
    rw [hF, hTh] at this
    exact this
  rw [so_outer] at f2
  have had : ∀ j, so_ad G (M.2.2.2.1 + 1 + j) = H.size + 1 + j := fun j => by
    have h12 := S2.2.1
    rw [so_ad_hi G (by omega), S2.1]
    omega
  have SH : so_H G s (am_mul M (am_un x) (am_un k)) Fs.heap := by
    refine S2.push (k := 1 + am_un x) (fun q hq => ?_) (fun q hq => ?_) (fun q hq => ?_) (by show M.2.2.2.1 + 1 + am_un x = _; omega) rfl (by rw [f1]; omega) hold fun q h1 h2 => ?_
    · exact (am_zr_lt _ _ (by omega)).trans (am_sr_ne _ _ (by omega))
    · exact (am_zr_lt _ _ (by omega)).trans (am_sr_ne _ _ (by omega))
    · exact (am_sr_ne _ _ (by omega)).trans (am_zr_lt _ _ (by omega))
    · by_cases e : q = M.2.2.2.1
      · subst e
        rw [so_addr S2, so_eq ht ht3 (by omega)]
        show Fs.heap[H.size]? = some (arrV _ _ fun j => va_rf (so_q G (am_sr _ M.2.2.2.1 _ M.2.2.2.1 j)))
        rw [am_sr_eq, f2, hx]
        congr 2
        funext j
        by_cases hj : j < am_un x
        · rw [if_pos hj, show cond (Nat.ble (j + 1) (am_un x)) (some (M.2.2.2.1 + 1 + j)) none = some (M.2.2.2.1 + 1 + j) by rw [Nat.ble_eq_true_of_le (show j + 1 ≤ am_un x from hj)]; rfl]
          show _ = Value.ref (so_ad G (M.2.2.2.1 + 1 + j))
          rw [had]
          rfl
        · rw [if_neg hj, show cond (Nat.ble (j + 1) (am_un x)) (some (M.2.2.2.1 + 1 + j)) none = none by rw [nb_hi (by omega)]; rfl]
          rfl
      · obtain ⟨j, rfl⟩ : ∃ j, q = M.2.2.2.1 + 1 + j := ⟨q - (M.2.2.2.1 + 1), by omega⟩
        have hj : j < am_un x := by omega
        obtain ⟨r1, r2⟩ := hrows j hj
        rw [had]
        have hr := hrow j hj
        cases t; omega; rename_i t
        match t, ht3, ht4, hty with
        | 2, _, _, hty =>
          cases hty
          rw [so_e0 r1, r2]
          show Fs.heap[H.size + 1 + j]? = some (arrV _ _ fun i => .int (am_zr _ (M.2.2.2.1 + 1) (am_un x) _ (M.2.2.2.1 + 1 + j) i))
          rw [am_zr_in _ _ (by omega) (by omega), hr]
          exact congrArg some (arrV_new _ _ _)
        | 3, _, _, hty =>
          cases hty
          rw [so_e2 r1, r2]
          show Fs.heap[H.size + 1 + j]? = some (arrV _ _ fun i => .long (am_zr _ (M.2.2.2.1 + 1) (am_un x) _ (M.2.2.2.1 + 1 + j) i))
          rw [am_zr_in _ _ (by omega) (by omega), hr]
          exact congrArg some (arrV_new _ _ _)
  have kk := h_1 Fs.heap ls locs (cells + 1 + am_un x) (slots + am_un x + am_un x * am_un k) ⟨S1, SH, by show _ = M.2.2.2.1 + 1 + am_un x; omega, by show _ = M.2.2.2.2.1 + am_un x + am_un x * am_un k; omega, hz1, hs1, S7⟩
  rw [List.map_cons, so_vRf, so_addr S2] at kk
  obtain ⟨t2, a1, b1⟩ := kk Fs rfl X'
  refine ⟨t2, step t2 ?_, b1⟩
  have e9 : T.heap.size = H.size := by rw [hT]
  rw [e9]
  exact a1
theorem so_multianewarray (F : so_Fx p s m args meth c cc o nL nm G R z0 s0 zm sm d) {t z ln : Nat} {orig : Instr} {rt : Option FieldType} (hk : lkB o nm rt pc (.multianewarray t z) ln orig = true) (hd : decode cc pc = .ok (orig, ln))
    (h : am_pi st fun k st => am_pi st fun n r => am_g (Nat.beq (sh_t M.2.2.2.1) t && Nat.beq (sh_n M.2.2.2.1) (am_un n) && Nat.ble 3 t && Nat.ble t 4 && Nat.ble (am_un k) 24000) ((∀ j, j < am_un n → sh_t (M.2.2.2.1 + 1 + j) = (t - 3) * 2 ∧ sh_n (M.2.2.2.1 + 1 + j) = am_un k) ∧ (M.2.2.2.1 + 1 + am_un n ≤ zm ∧ M.2.2.2.2.1 + am_un n + am_un n * am_un k ≤ sm) ∧ so_X p l e R s m args below meth c Q G nL z0 s0 zm sm (pc + ln) L (.ref M.2.2.2.1 :: r) (am_mul M (am_un n) (am_un k)))) : so_X p l e R s m args below meth c Q G nL z0 s0 zm sm pc L st M := by
  obtain ⟨k, st1, rfl, h_1⟩ := am_pi_inv h
  obtain ⟨n, r, rfl, h_2⟩ := am_pi_inv h_1
  obtain ⟨hg, h_3⟩ := am_g_inv h_2
  obtain ⟨hg, g5⟩ := am_bb hg
  obtain ⟨hg, g4⟩ := am_bb hg
  obtain ⟨hg, g3⟩ := am_bb hg
  obtain ⟨g1, g2⟩ := am_bb hg
  have ht := Nat.eq_of_beq_eq_true g1
  have hx := Nat.eq_of_beq_eq_true g2
  have h3 : 3 ≤ t := Nat.le_of_ble_eq_true g3
  have h4 : t ≤ 4 := Nat.le_of_ble_eq_true g4
  dsimp only [lkB] at hk
  split at hk
  · obtain ⟨hk, k3⟩ := am_bb hk
    obtain ⟨k1, k2⟩ := am_bb hk
    cases Nat.eq_of_beq_eq_true k1
    cases Nat.eq_of_beq_eq_true k2
    obtain ⟨hw, -⟩ := so_pc F.2.2.2.2.2.2.2.2.2.2.2 k3
    have hov := F.2.2.2.2.2.1.2.2.2.1
    rcases (show t = 3 ∨ t = 4 by omega) with e | e
    · subst e
      exact so_multi F hd ht hx (Nat.le_of_ble_eq_true g5) h3 h4 (ty := .int) rfl rfl hw lw_arI (hov _ (Or.inl rfl)) (by decide) h_3
    · subst e
      exact so_multi F hd ht hx (Nat.le_of_ble_eq_true g5) h3 h4 (ty := .long) rfl rfl hw lw_arJ (hov _ (Or.inr rfl)) (by decide) h_3
  · cases hk
theorem so_objinit (F : so_Fx p s m args meth c cc o nL nm G R z0 s0 zm sm d) {ln : Nat} {orig : Instr} {rt : Option FieldType} (hk : lkB o nm rt pc .monitorexit ln orig = true) (hd : decode cc pc = .ok (orig, ln)) (h : am_pr st fun _ r => am_g (Nat.ble (am_cs r) 8) (so_X p l e R s m args below meth c Q G nL z0 s0 zm sm (pc + ln) L r M)) : so_X p l e R s m args below meth c Q G nL z0 s0 zm sm pc L st M := by
  obtain ⟨a, r, rfl, h_1⟩ := am_pr_inv h
  obtain ⟨hg, h_2⟩ := am_g_inv h_1
  have h8 : am_cs r ≤ 8 := Nat.le_of_ble_eq_true hg
  dsimp only [lkB] at hk
  split at hk
  · obtain ⟨k1, k2⟩ := am_bb hk
    cases Nat.eq_of_beq_eq_true k1
    obtain ⟨⟨i, x⟩, hx, hi⟩ := List.any_eq_true.mp k2
    cases Nat.eq_of_beq_eq_true hi
    have hw := lw_is_in (List.all_eq_true.mp (lk_all15 po_ok F.2.2.2.2.2.2.2.2.2.2.2) _ hx)
    intro H ls locs cells slots S
    have hr := F.2.2.2.2.2.2.2.2.2
    exact W.objInit F.1 F.2.1 F.2.2.2.1 (F.2.2.2.2.1 _ hw) (F.2.2.2.2.1 _ lw_objI) (F.2.2.2.2.1 _ lw_objC) rfl (S.1.1.trans F.2.2.1.symm) rfl hd (by omega) (by rw [am_cs_eq]; show 2 * 0 + _ + 12 ≤ _; omega) (h_2 H ls locs cells slots S)
  · cases hk
end SO
