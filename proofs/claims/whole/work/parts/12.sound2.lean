/-! SOUNDNESS, II: each instruction -/
def so_S (G : so_G) (nL z0 s0 zm sm : Nat) (s : State) (L : am_L) (M : am_M) (H : Heap) (ls : Array Slot) (locs : List Loc) (cells slots : Nat) : Prop :=
  so_L G ls nL L ∧ so_H G s M H ∧ z0 + cells = M.2.2.2.1 ∧ s0 + slots = M.2.2.2.2.1 ∧ M.2.2.2.1 ≤ zm ∧ M.2.2.2.2.1 ≤ sm ∧ ∀ q ∈ locs, G.1 ≤ q.base
def so_X (p : Program) (l : Launch) (e : Env) (R : Room) (s : State) (m : MethodId) (args : Array Value) (below : List Frame) (meth : Method) (c : Code) (Q : State → Prop) (G : so_G) (nL z0 s0 zm sm : Nat) : am_K := fun pc L st M => ∀ (H : Heap) (ls : Array Slot) (locs : List Loc) (cells slots : Nat), so_S G nL z0 s0 zm sm s L M H ls locs cells slots → W p l e R s m args below meth c H locs cells slots Q (F0 m pc ls (st.map (so_v G)))
def so_Fx (p : Program) (s : State) (m : MethodId) (args : Array Value) (meth : Method) (c : Code) (cc : ByteArray) (o nL : Nat) (nm : String) (G : so_G) (R : Room) (z0 s0 zm sm d : Nat) : Prop :=
  p.tables.exec = Jvm.exec ∧ c.code = cc ∧ c.maxLocals = nL ∧ s.vm.findClass (cl_R o) = some m.cls ∧ (∀ w ∈ lw_tbg, w.before args s = true) ∧ so_K G s ∧ meth.name = nm ∧ zm ≤ z0 + R.cells ∧ sm ≤ s0 + R.slots ∧ d + 6 ≤ R.frames ∧ 40 * d + 240 ≤ R.locals ∧ o < 15
theorem lk_d {orig a : Instr} {ln n : Nat} (h : (decide (orig = a) && Nat.beq ln n) = true) : orig = a ∧ ln = n := ⟨of_decide_eq_true (am_bb h).1, Nat.eq_of_beq_eq_true (am_bb h).2⟩
theorem lk_any2 {α : Type} {l : List (Nat × Nat × α)} {i q : Nat} (h : (l.any fun e => Nat.beq e.1 i && Nat.beq e.2.1 q) = true) : ∃ x, (i, q, x) ∈ l := by
  obtain ⟨⟨a, b, x⟩, h1, h2⟩ := List.any_eq_true.mp h
  obtain ⟨h3, h4⟩ := am_bb h2
  cases Nat.eq_of_beq_eq_true h3
  cases Nat.eq_of_beq_eq_true h4
  exact ⟨x, h1⟩
theorem lk_anyI {l : List (Nat × Int × Nat)} {i : Nat} {v : Int} (h : (l.any fun e => Nat.beq e.1 i && decide (e.2.1 = v)) = true) : ∃ x, (i, v, x) ∈ l := by
  obtain ⟨⟨a, b, x⟩, h1, h2⟩ := List.any_eq_true.mp h
  obtain ⟨h3, h4⟩ := am_bb h2
  cases Nat.eq_of_beq_eq_true h3
  cases of_decide_eq_true h4
  exact ⟨x, h1⟩
theorem lk_all15 {f : Nat → Bool} (h : (List.range 15).all f = true) {o : Nat} (ho : o < 15) : f o = true := List.all_eq_true.mp h o (List.mem_range.mpr ho)
theorem lk_all10 {f : Nat → Bool} (h : (List.range 10).all f = true) {o : Nat} (ho : o < 10) : f o = true := List.all_eq_true.mp h o (List.mem_range.mpr ho)
theorem lkT_to {pc : Nat} {off t : Int} (h : lkT pc off t = true) : (pc : Int) + off = ((t.toNat : Nat) : Int) := by
  obtain ⟨h1, h2⟩ := am_bb h
  rw [of_decide_eq_true h1, Int.toNat_of_nonneg (of_decide_eq_true h2)]
theorem so_b8 {v : Int} (h1 : -128 ≤ v) (h2 : v < 128) : (Int8.ofInt v).toInt32 = Int32.ofInt v := by
  apply Int32.toInt_inj.mp
  rw [Int8.toInt_toInt32, Int8.toInt_ofInt_of_le (by simpa using h1) (by simpa using h2), Int32.toInt_ofInt_of_le (by omega) (by omega)]
theorem so_b16 {v : Int} (h1 : -32768 ≤ v) (h2 : v < 32768) : (Int16.ofInt v).toInt32 = Int32.ofInt v := by
  apply Int32.toInt_inj.mp
  rw [Int16.toInt_toInt32, Int16.toInt_ofInt_of_le (by simpa using h1) (by simpa using h2), Int32.toInt_ofInt_of_le (by omega) (by omega)]
section SO
variable {p : Program} {l : Launch} {e : Env} {R : Room} {s : State} {m : MethodId} {args : Array Value} {below : List Frame} {meth : Method} {c : Code} {Q : State → Prop}
variable {cc : ByteArray} {G : so_G} {o nL z0 s0 zm sm d : Nat} {nm : String} {pc : Nat} {L : am_L} {st : List Value} {M : am_M}
theorem so_const (F : so_Fx p s m args meth c cc o nL nm G R z0 s0 zm sm d) {v : Int} {ln : Nat} {orig : Instr} {rt : Option FieldType} (hk : lkB o nm rt pc (.sipush v) ln orig = true) (hd : decode cc pc = .ok (orig, ln)) (h : so_X p l e R s m args below meth c Q G nL z0 s0 zm sm (pc + ln) L (.int (am_k v) :: st) M) : so_X p l e R s m args below meth c Q G nL z0 s0 zm sm pc L st M := by
  intro H ls locs cells slots S
  have k := h H ls locs cells slots S
  rw [am_k_eq] at k
  dsimp only [lkB] at hk
  split at hk
  · obtain ⟨h1, h2⟩ := am_bb hk
    cases Nat.eq_of_beq_eq_true h1
    cases of_decide_eq_true h2
    exact lv_iconst F.1 F.2.1 hd rfl k
  · obtain ⟨h1, h4⟩ := am_bb hk
    obtain ⟨h1, h3⟩ := am_bb h1
    obtain ⟨h1, h2⟩ := am_bb h1
    cases Nat.eq_of_beq_eq_true h1
    cases of_decide_eq_true h2
    exact lv_bipush F.1 F.2.1 hd (so_b8 (of_decide_eq_true h3) (of_decide_eq_true h4)) k
  · obtain ⟨h1, h4⟩ := am_bb hk
    obtain ⟨h1, h3⟩ := am_bb h1
    obtain ⟨h1, h2⟩ := am_bb h1
    cases Nat.eq_of_beq_eq_true h1
    cases of_decide_eq_true h2
    exact lv_sipush F.1 F.2.1 hd (so_b16 (of_decide_eq_true h3) (of_decide_eq_true h4)) k
  · obtain ⟨h1, h2⟩ := am_bb hk
    cases Nat.eq_of_beq_eq_true h1
    obtain ⟨x, hx⟩ := lk_anyI h2
    exact lv_ldc F.1 F.2.1 F.2.2.2.1 (F.2.2.2.2.1 _ (lw_is_in (List.all_eq_true.mp (lk_all15 pi_ok F.2.2.2.2.2.2.2.2.2.2.2) _ hx))) hd k
  · obtain ⟨h1, h2⟩ := am_bb hk
    cases Nat.eq_of_beq_eq_true h1
    obtain ⟨x, hx⟩ := lk_anyI h2
    exact lv_ldcw F.1 F.2.1 F.2.2.2.1 (F.2.2.2.2.1 _ (lw_is_in (List.all_eq_true.mp (lk_all15 pi_ok F.2.2.2.2.2.2.2.2.2.2.2) _ hx))) hd k
  · cases hk
theorem so_constL (F : so_Fx p s m args meth c cc o nL nm G R z0 s0 zm sm d) {v : Int} {ln : Nat} {orig : Instr} {rt : Option FieldType} (hk : lkB o nm rt pc (.jsr_w v) ln orig = true) (hd : decode cc pc = .ok (orig, ln)) (h : so_X p l e R s m args below meth c Q G nL z0 s0 zm sm (pc + ln) L (.long (am_kl v) :: st) M) : so_X p l e R s m args below meth c Q G nL z0 s0 zm sm pc L st M := by
  intro H ls locs cells slots S
  have k := h H ls locs cells slots S
  rw [am_kl_eq] at k
  dsimp only [lkB] at hk
  split at hk
  · rename_i n
    obtain ⟨h1, h2⟩ := am_bb hk
    cases Nat.eq_of_beq_eq_true h1
    have h3 := of_decide_eq_true h2
    subst h3
    exact lv_lconst F.1 F.2.1 hd (by rcases n with ⟨n, hn⟩; match n, hn with | 0, _ => rfl | 1, _ => rfl) k
  · obtain ⟨h1, h2⟩ := am_bb hk
    cases Nat.eq_of_beq_eq_true h1
    obtain ⟨x, hx⟩ := lk_anyI h2
    exact lv_ldc2 F.1 F.2.1 F.2.2.2.1 (F.2.2.2.2.1 _ (lw_is_in (List.all_eq_true.mp (lk_all15 pll_ok F.2.2.2.2.2.2.2.2.2.2.2) _ hx))) hd k
  · cases hk
theorem so_iload (F : so_Fx p s m args meth c cc o nL nm G R z0 s0 zm sm d) {i : Nat} {ln : Nat} {orig : Instr} {rt : Option FieldType} (hk : lkB o nm rt pc (.iload i) ln orig = true) (hd : decode cc pc = .ok (orig, ln)) (h : am_li L i fun x => so_X p l e R s m args below meth c Q G nL z0 s0 zm sm (pc + ln) L (.int x :: st) M) : so_X p l e R s m args below meth c Q G nL z0 s0 zm sm pc L st M := by
  intro H ls locs cells slots S
  obtain ⟨x, hx, h⟩ := am_li_inv h
  have k := h H ls locs cells slots S
  have hl := S.1.2.2.2 _ _ hx
  dsimp only [lkB] at hk
  split at hk
  · obtain ⟨h1, h2⟩ := am_bb hk
    cases Nat.eq_of_beq_eq_true h1
    cases Nat.eq_of_beq_eq_true h2
    exact lv_iload F.1 F.2.1 hd hl k
  · obtain ⟨h1, h2⟩ := am_bb hk
    cases Nat.eq_of_beq_eq_true h1
    exact lv_iload_n F.1 F.2.1 hd (Nat.eq_of_beq_eq_true h2) hl k
  · cases hk
theorem so_lload (F : so_Fx p s m args meth c cc o nL nm G R z0 s0 zm sm d) {i : Nat} {ln : Nat} {orig : Instr} {rt : Option FieldType} (hk : lkB o nm rt pc (.lload i) ln orig = true) (hd : decode cc pc = .ok (orig, ln)) (h : am_ll L i fun x => so_X p l e R s m args below meth c Q G nL z0 s0 zm sm (pc + ln) L (.long x :: st) M) : so_X p l e R s m args below meth c Q G nL z0 s0 zm sm pc L st M := by
  intro H ls locs cells slots S
  obtain ⟨x, hx, h⟩ := am_ll_inv h
  have k := h H ls locs cells slots S
  have hl := S.1.2.2.2 _ _ hx
  dsimp only [lkB] at hk
  split at hk
  · obtain ⟨h1, h2⟩ := am_bb hk
    cases Nat.eq_of_beq_eq_true h1
    cases Nat.eq_of_beq_eq_true h2
    exact lv_lload F.1 F.2.1 hd hl k
  · obtain ⟨h1, h2⟩ := am_bb hk
    cases Nat.eq_of_beq_eq_true h1
    exact lv_lload_n F.1 F.2.1 hd (Nat.eq_of_beq_eq_true h2) hl k
  · cases hk
theorem so_aload (F : so_Fx p s m args meth c cc o nL nm G R z0 s0 zm sm d) {i : Nat} {ln : Nat} {orig : Instr} {rt : Option FieldType} (hk : lkB o nm rt pc (.aload i) ln orig = true) (hd : decode cc pc = .ok (orig, ln)) (h : am_lr L i fun x => so_X p l e R s m args below meth c Q G nL z0 s0 zm sm (pc + ln) L (.ref x :: st) M) : so_X p l e R s m args below meth c Q G nL z0 s0 zm sm pc L st M := by
  intro H ls locs cells slots S
  obtain ⟨x, hx, h⟩ := am_lr_inv h
  have k := h H ls locs cells slots S
  have hl := S.1.2.2.2 _ _ hx
  dsimp only [lkB] at hk
  split at hk
  · obtain ⟨h1, h2⟩ := am_bb hk
    cases Nat.eq_of_beq_eq_true h1
    cases Nat.eq_of_beq_eq_true h2
    exact lv_aload F.1 F.2.1 hd hl k
  · obtain ⟨h1, h2⟩ := am_bb hk
    cases Nat.eq_of_beq_eq_true h1
    exact lv_aload_n F.1 F.2.1 hd (Nat.eq_of_beq_eq_true h2) hl k
  · cases hk
theorem so_istore (F : so_Fx p s m args meth c cc o nL nm G R z0 s0 zm sm d) {i : Nat} {ln : Nat} {orig : Instr} {rt : Option FieldType} (hk : lkB o nm rt pc (.istore i) ln orig = true) (hd : decode cc pc = .ok (orig, ln)) (h : am_pi st fun x r => am_g (am_nl L i && Nat.ble (i + 1) L.length) (so_X p l e R s m args below meth c Q G nL z0 s0 zm sm (pc + ln) (am_set L i (some (.int x))) r M)) : so_X p l e R s m args below meth c Q G nL z0 s0 zm sm pc L st M := by
  obtain ⟨x, r, rfl, h⟩ := am_pi_inv h
  obtain ⟨hg, h⟩ := am_g_inv h
  obtain ⟨g1, g2⟩ := am_bb hg
  intro H ls locs cells slots S
  obtain ⟨S1, S2⟩ := S
  have hi : i < nL := by have := Nat.le_of_ble_eq_true g2; rw [S1.2.2.1] at this; exact this
  have k : ∀ ls' : Array Slot, lv_has ls' nL ((i, Value.int x) :: (so_pairs G L).filter (fun q => !(q.1 == i) && !(q.1 + 1 == i && q.2.category == 2))) → W p l e R s m args below meth c H locs cells slots Q (F0 m (pc + ln) ls' (r.map (so_v G))) := fun ls' hh => h H ls' locs cells slots ⟨S1.set1 (v := .int x) g1 hi hh, S2⟩
  dsimp only [lkB] at hk
  split at hk
  · obtain ⟨h1, h2⟩ := am_bb hk
    cases Nat.eq_of_beq_eq_true h1
    cases Nat.eq_of_beq_eq_true h2
    exact lv_istore F.1 F.2.1 hd S1.has hi rfl k
  · obtain ⟨h1, h2⟩ := am_bb hk
    cases Nat.eq_of_beq_eq_true h1
    exact lv_istore_n F.1 F.2.1 hd (Nat.eq_of_beq_eq_true h2) S1.has hi rfl k
  · cases hk
theorem so_astore (F : so_Fx p s m args meth c cc o nL nm G R z0 s0 zm sm d) {i : Nat} {ln : Nat} {orig : Instr} {rt : Option FieldType} (hk : lkB o nm rt pc (.astore i) ln orig = true) (hd : decode cc pc = .ok (orig, ln)) (h : am_pr st fun x r => am_g (am_nl L i && Nat.ble (i + 1) L.length) (so_X p l e R s m args below meth c Q G nL z0 s0 zm sm (pc + ln) (am_set L i (some (.ref x))) r M)) : so_X p l e R s m args below meth c Q G nL z0 s0 zm sm pc L st M := by
  obtain ⟨x, r, rfl, h⟩ := am_pr_inv h
  obtain ⟨hg, h⟩ := am_g_inv h
  obtain ⟨g1, g2⟩ := am_bb hg
  intro H ls locs cells slots S
  obtain ⟨S1, S2⟩ := S
  have hi : i < nL := by have := Nat.le_of_ble_eq_true g2; rw [S1.2.2.1] at this; exact this
  have k : ∀ ls' : Array Slot, lv_has ls' nL ((i, Value.ref (so_ad G x)) :: (so_pairs G L).filter (fun q => !(q.1 == i) && !(q.1 + 1 == i && q.2.category == 2))) → W p l e R s m args below meth c H locs cells slots Q (F0 m (pc + ln) ls' (r.map (so_v G))) := fun ls' hh => h H ls' locs cells slots ⟨S1.set1 (v := .ref x) g1 hi hh, S2⟩
  dsimp only [lkB] at hk
  split at hk
  · obtain ⟨h1, h2⟩ := am_bb hk
    cases Nat.eq_of_beq_eq_true h1
    cases Nat.eq_of_beq_eq_true h2
    exact lv_astore F.1 F.2.1 hd S1.has hi rfl k
  · obtain ⟨h1, h2⟩ := am_bb hk
    cases Nat.eq_of_beq_eq_true h1
    exact lv_astore_n F.1 F.2.1 hd (Nat.eq_of_beq_eq_true h2) S1.has hi rfl k
  · cases hk
theorem so_lstore (F : so_Fx p s m args meth c cc o nL nm G R z0 s0 zm sm d) {i : Nat} {ln : Nat} {orig : Instr} {rt : Option FieldType} (hk : lkB o nm rt pc (.lstore i) ln orig = true) (hd : decode cc pc = .ok (orig, ln)) (h : am_pl st fun x r => am_g (am_nl L i && Nat.ble (i + 2) L.length) (so_X p l e R s m args below meth c Q G nL z0 s0 zm sm (pc + ln) (am_set (am_set L i (some (.long x))) (i + 1) none) r M)) : so_X p l e R s m args below meth c Q G nL z0 s0 zm sm pc L st M := by
  obtain ⟨x, r, rfl, h⟩ := am_pl_inv h
  obtain ⟨hg, h⟩ := am_g_inv h
  obtain ⟨g1, g2⟩ := am_bb hg
  intro H ls locs cells slots S
  obtain ⟨S1, S2⟩ := S
  have hi : i + 1 < nL := by have := Nat.le_of_ble_eq_true g2; rw [S1.2.2.1] at this; exact this
  have k : ∀ ls' : Array Slot, lv_has ls' nL ((i, Value.long x) :: (so_pairs G L).filter (fun q => !(q.1 == i) && (!(q.1 == i + 1) && !(q.1 + 1 == i && q.2.category == 2)))) → W p l e R s m args below meth c H locs cells slots Q (F0 m (pc + ln) ls' (r.map (so_v G))) := fun ls' hh => h H ls' locs cells slots ⟨S1.set2 (v := .long x) g1 hi hh, S2⟩
  dsimp only [lkB] at hk
  split at hk
  · obtain ⟨h1, h2⟩ := am_bb hk
    cases Nat.eq_of_beq_eq_true h1
    cases Nat.eq_of_beq_eq_true h2
    exact lv_lstore F.1 F.2.1 hd S1.has hi rfl k
  · obtain ⟨h1, h2⟩ := am_bb hk
    cases Nat.eq_of_beq_eq_true h1
    exact lv_lstore_n F.1 F.2.1 hd (Nat.eq_of_beq_eq_true h2) S1.has hi rfl k
  · cases hk
theorem so_iinc (F : so_Fx p s m args meth c cc o nL nm G R z0 s0 zm sm d) {i : Nat} {n : Int} (hd : decode cc pc = .ok (.iinc i n, 3)) (h : am_li L i fun x => am_g (am_nl L i && Nat.ble (i + 1) L.length) (so_X p l e R s m args below meth c Q G nL z0 s0 zm sm (pc + 3) (am_set L i (some (.int (x + am_k n)))) st M)) : so_X p l e R s m args below meth c Q G nL z0 s0 zm sm pc L st M := by
  obtain ⟨x, hx, h⟩ := am_li_inv h
  obtain ⟨hg, h⟩ := am_g_inv h
  obtain ⟨g1, g2⟩ := am_bb hg
  intro H ls locs cells slots S
  obtain ⟨S1, S2⟩ := S
  have hi : i < nL := by have := Nat.le_of_ble_eq_true g2; rw [S1.2.2.1] at this; exact this
  have hm : (i, Value.int x) ∈ so_pairs G L := so_pairs_mem.mpr ⟨.int x, hx, rfl⟩
  obtain ⟨k, hk⟩ := List.getElem?_of_mem hm
  rw [am_k_eq] at h
  exact lv_iinc F.1 F.2.1 hd S1.has hk rfl hi rfl fun ls' hh => h H ls' locs cells slots ⟨S1.set1 (v := .int (x + Int32.ofInt n)) g1 hi hh, S2⟩
end SO
