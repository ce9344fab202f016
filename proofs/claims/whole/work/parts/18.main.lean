/-! SOUNDNESS, VIII: what the kit has as one row; the whole -/
/-- the two methods of String that are called, as contracts -/
def so_yLen : MethodName := ⟨"java/lang/String", "length", "()I"⟩
def so_yChr : MethodName := ⟨"java/lang/String", "charAt", "(I)C"⟩
def so_Str (l : Launch) (G : so_G) : Prop :=
  (∀ (a : Nat) (M : am_M), sh_t a = 6 → Met l so_yLen (.code so_yLen cJ0_length_8abf5 1 (some .int) :: lw_tbg) { frames := 4, cells := 0, slots := 0, locals := 160 } (va_Pc [.ref (so_ad G a)] (so_B G M)) (so_Q G 0 0 M fun v M' => v = some (.int (nI (sh_n a))) ∧ M' = M) 0 0 (fun q => G.1 ≤ q)) ∧
  (∀ (a : Nat) (M : am_M) (i : Int32), sh_t a = 6 → am_un i < sh_n a → Met l so_yChr (.code so_yChr cJ0_charAt_5068e 2 (some .char) :: lw_tbg) { frames := 4, cells := 0, slots := 0, locals := 160 } (va_Pc [.ref (so_ad G a), .int i] (so_B G M)) (so_Q G 0 0 M fun v M' => v = some (.int (nI (sh_c a (am_un i)))) ∧ M' = M) 0 0 (fun q => G.1 ≤ q))
theorem am_at_mem : ∀ {T : am_T} {pc : Nat} {q : Instr × Nat}, am_at T pc = some q → ∃ ch ∈ T, (pc, q) ∈ ch.2
  | [], _, _, h => by cases h
  | ch :: T, pc, q, h => by
    have h : cond (Nat.ble pc ch.1) (am_f1 ch.2 pc) (am_at T pc) = some q := h
    cases hb : Nat.ble pc ch.1 with
    | true =>
      rw [hb] at h
      have g : ∀ l : List (Nat × Instr × Nat), am_f1 l pc = some q → (pc, q) ∈ l := by
        intro l
        induction l with
        | nil => intro h; cases h
        | cons x l ih =>
          intro h
          have h : cond (Nat.beq x.1 pc) (some x.2) (am_f1 l pc) = some q := h
          cases hx : Nat.beq x.1 pc with
          | true =>
            rw [hx] at h
            cases h
            rw [← Nat.eq_of_beq_eq_true hx]
            exact List.mem_cons_self
          | false =>
            rw [hx] at h
            exact List.mem_cons_of_mem _ (ih h)
      exact ⟨ch, List.mem_cons_self, g _ h⟩
    | false =>
      rw [hb] at h
      obtain ⟨c2, h1, h2⟩ := am_at_mem (T := T) h
      exact ⟨c2, List.mem_cons_of_mem _ h1, h2⟩
theorem lk_at {o : Nat} {nm : String} {rt : Option FieldType} {bytes : ByteArray} {T : am_T} (h : lk_all o nm rt bytes T = true) {pc : Nat} {q : Instr × Nat} (hq : am_at T pc = some q) : ∃ orig, decode bytes pc = .ok (orig, q.2) ∧ lkB o nm rt pc q.1 q.2 orig = true := by
  obtain ⟨ch, h1, h2⟩ := am_at_mem hq
  have h3 := List.all_eq_true.mp (List.all_eq_true.mp h ch h1) _ h2
  dsimp only at h3
  split at h3
  · rename_i orig n hdec
    obtain ⟨h4, h5⟩ := am_bb h3
    cases Nat.eq_of_beq_eq_true h4
    exact ⟨orig, hdec, h5⟩
  · cases h3
theorem so_good2 {y : MethodName} {b : ByteArray} {n : Nat} {rt : Option FieldType} {ws : List Jvm.Cond} (hc : (.code y b n rt : Jvm.Cond) ∈ lw_tbg) (h : ∀ w ∈ ws, w ∈ lw_tbg) : GoodIn lw_tbg (ws ++ (.code y b n rt :: lw_tbg)) := fun w hw => by
  rcases List.mem_append.mp hw with hw | hw
  · exact lw_tbg_good w (h w hw)
  · rcases List.mem_cons.mp hw with hw | hw
    · rw [hw]; exact lw_tbg_good _ hc
    · exact lw_tbg_good w hw
section SO
variable {p : Program} {l : Launch} {e : Env} {R : Room} {s : State} {m : MethodId} {args : Array Value} {below : List Frame} {meth : Method} {c : Code} {Q : State → Prop}
variable {cc : ByteArray} {G : so_G} {o nL z0 s0 zm sm d : Nat} {nm : String} {pc : Nat} {L : am_L} {st : List Value} {M : am_M}
theorem so_pp (ho : o < 15) {i q : Nat} (h : ((pl_p o).any fun e => Nat.beq e.1 i && Nat.beq e.2.1 q) = true) : (.methodLink (cl_R o) i (pl_y q) : Jvm.Cond) ∈ lw_tbg := by
  obtain ⟨x, hx⟩ := lk_any2 h
  exact lw_is_in (List.all_eq_true.mp (lk_all15 pp_ok ho) _ hx)
theorem so_cpy {α : Type} (mk : α → Value) (c0 c1 : ClassId) (f g : Nat → α) {n0 n1 : Nat} {sp dp n : Int32} (h4 : sp.toNatClampNeg + n.toNatClampNeg ≤ n0) : copied (arrV c0 n0 (fun j => mk (f j))) (arrV c1 n1 (fun j => mk (g j))) sp dp n = arrV c1 n1 (fun j => mk (va_cpy f g sp.toNatClampNeg dp.toNatClampNeg n.toNatClampNeg j)) := va_copied mk c0 c1 f g h4
theorem so_cpy_eq (f g : Nat → Int64) (sp dp n : Nat) : va_cpy f g sp dp n = am_cpy f g sp dp n := by
  funext k
  unfold va_cpy am_cpy
  by_cases h : dp ≤ k ∧ k < dp + n
  · rw [if_pos h, Nat.ble_eq_true_of_le h.1, Nat.ble_eq_true_of_le (show k + 1 ≤ dp + n from h.2)]
    rfl
  · rw [if_neg h]
    rcases Nat.lt_or_ge k dp with h1 | h1
    · rw [nb_hi h1]
      rfl
    · rw [Nat.ble_eq_true_of_le h1, nb_hi (show dp + n < k + 1 by omega)]
      rfl
theorem so_prim (F : so_Fx p s m args meth c cc o nL nm G R z0 s0 zm sm d) (hS : so_Str l G) {mt : Nat → Nat × Nat × Nat × Nat × Nat} {C : am_C} {Rt : Option Value → am_M → Prop} {k z ln : Nat} {orig : Instr} {rt : Option FieldType} (hk : lkB o nm rt pc (.invokeinterface k z) ln orig = true) (hd : decode cc pc = .ok (orig, ln))
    (h : am_one mt C zm sm Rt (.invokeinterface k z) ln pc L st M (so_X p l e R s m args below meth c Q G nL z0 s0 zm sm)) : so_X p l e R s m args below meth c Q G nL z0 s0 zm sm pc L st M := by
  have hr := F.2.2.2.2.2.2.2.2.2
  have hsl : ∀ {ls : Array Slot}, so_L G ls nL L → c.maxLocals = ls.size := fun S1 => F.2.2.1.trans S1.1.symm
  dsimp only [lkB] at hk
  split at hk
  · rename_i i
    obtain ⟨hk, k3⟩ := am_bb hk
    obtain ⟨k1, k2⟩ := am_bb hk
    cases Nat.eq_of_beq_eq_true k1
    have hw := so_pp F.2.2.2.2.2.2.2.2.2.2.2 k2
    match k, k3, h, hw with
    | 0, _, h, hw =>
      obtain ⟨y, st1, rfl, h_1⟩ := am_pi_inv h
      obtain ⟨x, r, rfl, h_2⟩ := am_pi_inv h_1
      obtain ⟨hg, h_3⟩ := am_g_inv h_2
      have h8 : am_cs r ≤ 8 := Nat.le_of_ble_eq_true hg
      intro H ls locs cells slots S
      have hcell : cells ≤ R.cells ∧ slots ≤ R.slots := by
        obtain ⟨S1, S2, S3, S4, S5, S6, S7⟩ := S
        have := F.2.2.2.2.2.2.2.1
        have := F.2.2.2.2.2.2.2.2.1
        omega
      exact va_mmin F.1 F.2.1 (hsl S.1) F.2.2.2.1 (F.2.2.2.2.1 _ hw) (F.2.2.2.2.1 _ lw_minS) (F.2.2.2.2.1 _ lw_mathI) (F.2.2.2.2.1 _ lw_minC) (by omega) (by rw [am_cs_eq]; omega) hcell.1 hcell.2 hd (h_3 H ls locs cells slots S)
    | 1, _, h, hw =>
      obtain ⟨y, st1, rfl, h_1⟩ := am_pi_inv h
      obtain ⟨x, r, rfl, h_2⟩ := am_pi_inv h_1
      obtain ⟨hg, h_3⟩ := am_g_inv h_2
      have h8 : am_cs r ≤ 8 := Nat.le_of_ble_eq_true hg
      intro H ls locs cells slots S
      have hcell : cells ≤ R.cells ∧ slots ≤ R.slots := by
        obtain ⟨S1, S2, S3, S4, S5, S6, S7⟩ := S
        have := F.2.2.2.2.2.2.2.1
        have := F.2.2.2.2.2.2.2.2.1
        omega
      exact va_mmax F.1 F.2.1 (hsl S.1) F.2.2.2.1 (F.2.2.2.2.1 _ hw) (F.2.2.2.2.1 _ lw_maxS) (F.2.2.2.2.1 _ lw_mathI) (F.2.2.2.2.1 _ lw_maxC) (by omega) (by rw [am_cs_eq]; omega) hcell.1 hcell.2 hd (h_3 H ls locs cells slots S)
    | 4, _, h, hw =>
      obtain ⟨n, st1, rfl, h_1⟩ := am_pi_inv h
      obtain ⟨dp, st2, rfl, h_2⟩ := am_pi_inv h_1
      obtain ⟨b, st3, rfl, h_3⟩ := am_pr_inv h_2
      obtain ⟨sp, st4, rfl, h_4⟩ := am_pi_inv h_3
      obtain ⟨a, r, rfl, h_5⟩ := am_pr_inv h_4
      obtain ⟨hg, ⟨q1, q2⟩, h_6⟩ := am_g_inv h_5
      obtain ⟨hg, g5⟩ := am_bb hg
      obtain ⟨hg, g4⟩ := am_bb hg
      obtain ⟨hg, g3⟩ := am_bb hg
      obtain ⟨g1, g2⟩ := am_bb hg
      have h8 : am_cs r ≤ 8 := Nat.le_of_ble_eq_true g5
      have ha : 12 ≤ a := Nat.le_of_ble_eq_true g3
      have hb : 12 ≤ b := Nat.le_of_ble_eq_true g4
      obtain ⟨hta, hza⟩ := so_ok_t g1
      obtain ⟨htb, hzb⟩ := so_ok_t g2
      have hla := so_len_le a
      have hlb := so_len_le b
      obtain ⟨s1, s2⟩ := so_int (i := sp) rfl (by omega)
      obtain ⟨d1, d2⟩ := so_int (i := dp) rfl (by omega)
      obtain ⟨n1, n2⟩ := so_int (i := n) rfl (by omega)
      intro H ls locs cells slots S
      obtain ⟨S1, S2, S3, S4, S5, S6, S7⟩ := S
      have hata := S2.2.2.1 a ha hza
      rw [so_e2 hta] at hata
      have hca : H[so_ad G a]? = some (arrV (G.2.2.2.1 2) (sh_n a) (fun j => .long (M.2.1 a j))) := hata
      have hatb := S2.2.2.1 b hb hzb
      rw [so_e2 htb] at hatb
      have hcb : H[so_ad G b]? = some (arrV (G.2.2.2.1 2) (sh_n b) (fun j => .long (M.2.1 b j))) := hatb
      have hA : ArrOfT s (G.2.2.2.1 2) .long := (F.2.2.2.2.2.1.1.2 2 _ (so_tys G 2 (by omega))).1
      have hw7 : nativeFrameWords "java/lang/System" "arraycopy" 5 = 7 := by decide +kernel
      obtain ⟨-, k0, hk0, cm0, hkk0⟩ := hA (sh_n a) (fun j => .long (M.2.1 a j))
      obtain ⟨-, k1, hk1, cm1, hkk1⟩ := hA (sh_n b) (fun j => .long (M.2.1 b j))
      have nn : ∀ z : Int32, ¬ z < 0 → z.toInt = (z.toNatClampNeg : Int) := by
        intro z hz
        have hz0 : (0 : Int) ≤ z.toInt := by
          have := Int32.not_lt.mp hz
          simpa using Int32.le_iff_toInt_le.mp this
        show z.toInt = ((z.toInt.toNat : Nat) : Int)
        omega
      intro T hT X
      have hbb := F.2.1
      obtain ⟨vm', X', step⟩ := X.arraycopy F.1 F.2.2.2.1 (F.2.2.2.2.1 _ hw) (F.2.2.2.2.1 _ lw_cpyN) (F.2.2.2.2.1 _ lw_cpyS) (F.2.2.2.2.1 _ lw_sysI) (src := so_ad G a) (dst := so_ad G b) (cs := arrV (G.2.2.2.1 2) (sh_n a) (fun j => .long (M.2.1 a j))) (cd := arrV (G.2.2.2.1 2) (sh_n b) (fun j => .long (M.2.1 b j))) (srcPos := sp) (destPos := dp) (n := n) (by rw [hT]; exact hca) (by rw [hT]; exact hcb)
        (fun _ h => by cases h) (fun _ h => by cases h) (fun h => by cases h) (fun h => by cases h) hk0 hk1 hkk0 hkk1 (by decide) s1 d1 n1
        (by rw [nn sp s1, nn n n1, arrV_size, s2, n2]; omega) (by rw [nn dp d1, nn n n1, arrV_size, d2, n2]; omega)
        (fun vm₁ _ i hi => by
          have e : (arrV (G.2.2.2.1 2) (sh_n a) (fun j => Value.long (M.2.1 a j))).slots.getD (sp.toNatClampNeg + i) .null = .long (M.2.1 a (sp.toNatClampNeg + i)) := by
            rw [Array.getD_eq_getD_getElem?, arrV_read _ _ (by omega)]
            rfl
          refine ⟨?_, ?_⟩
          · rw [e]
            rfl
          · rw [e]
            exact trivial)
        (g := F0 m pc ls (.int n :: .int dp :: .ref (so_ad G b) :: .int sp :: .ref (so_ad G a) :: r.map (so_v G))) rfl (S1.1.trans F.2.2.1.symm) (rest := r.map (so_v G)) rfl (by rw [hbb]; exact hd) (by omega) (by rw [am_cs_eq, hw7]; show 2 * 0 + _ + (7 + 11) ≤ _; omega)
      rw [so_cpy (fun z => Value.long z) _ _ _ _ (by omega), so_cpy_eq, s2, d2, n2] at X' step
      have hl : so_ad G b < H.size := (Array.getElem?_eq_some_iff.mp hcb).1
      generalize hN : arrV (G.2.2.2.1 2) (sh_n b) (fun j => Value.long (am_cpy (M.2.1 a) (M.2.1 b) (am_un sp) (am_un dp) (am_un n) j)) = NC at X' step
      have hheap : ((T.setVm vm').setCell (so_ad G b) NC).heap = H.setIfInBounds (so_ad G b) NC := by rw [← hT]; rfl
      have oq : ∀ q : Nat, q ≠ so_ad G b → (H.setIfInBounds (so_ad G b) NC)[q]? = H[q]? := fun q hq => by simp [Array.getElem?_setIfInBounds, Ne.symm hq]
      have SH : so_H G s (am_sL M (am_sr M.2.1 b (am_cpy (M.2.1 a) (M.2.1 b) (am_un sp) (am_un dp) (am_un n)))) (H.setIfInBounds (so_ad G b) NC) := by
        refine S2.upd hb hzb (fun _ _ => rfl) (fun r hr => am_sr_ne _ _ hr) (fun _ _ => rfl) rfl (by simp) oq ?_
        rw [so_e2 htb]
        show (H.setIfInBounds (so_ad G b) NC)[so_ad G b]? = some (arrV _ _ fun j => .long (am_sr M.2.1 b _ b j))
        rw [am_sr_eq, hN]
        simp [Array.getElem?_setIfInBounds, hl]
      have hlo : ∀ (ls2 : List Loc), (∀ q ∈ ls2, q.base = so_ad G b) → ∀ q ∈ locs ++ ls2, G.1 ≤ q.base := fun ls2 h2 q hq => by
        rcases List.mem_append.mp hq with h | h
        · exact S7 q h
        · rw [h2 q h, so_ad_hi G hb]
          omega
      have kk := fun (ls2 : List Loc) (h2 : ∀ q ∈ ls2, q.base = so_ad G b) => h_6 (H.setIfInBounds (so_ad G b) NC) ls (locs ++ ls2) cells slots ⟨S1, SH, S3, S4, S5, S6, hlo ls2 h2⟩
      obtain ⟨t, a1, b1⟩ := kk _ (fun q hq => by
        obtain ⟨z, -, hz⟩ := List.mem_map.mp hq
        rw [← hz]) _ hheap X'
      exact ⟨t, step t a1, b1⟩
    | 2, k3, _, _ => cases k3
    | 3, k3, _, _ => cases k3
    | _ + 5, _, h, _ => exact h.elim
  · rename_i i
    obtain ⟨hk, k3⟩ := am_bb hk
    obtain ⟨k1, k2⟩ := am_bb hk
    cases Nat.eq_of_beq_eq_true k1
    have hw := so_pp F.2.2.2.2.2.2.2.2.2.2.2 k2
    have hrecv : ∀ {a : Nat} {H : Heap}, so_H G s M H → sh_t a = 6 → ∃ cellB : Cell, H[so_ad G a]? = some cellB ∧ cellB.vm.isStatics = false ∧ s.vm.findClass "java/lang/String" = some cellB.cls := by
      intro a H S2 ht
      have hlo : 2 ≤ a ∧ a < 12 := sh_str ht
      obtain ⟨⟨adV, hv⟩, -⟩ := F.2.2.2.2.2.1.2.2.2.2.2.2
      obtain ⟨⟨cell, g1, g2, g3, g4⟩, -⟩ := hv.1 (a - 2) (by omega)
      have ea : 2 + (a - 2) = a := by omega
      have g1 : G.2.2.2.2[G.2.1 (2 + (a - 2))]? = some cell := g1
      rw [ea] at g1
      exact ⟨cell, by rw [so_ad_lo G hlo.2, S2.2.2.2.1 _ (S2.2.2.2.2.1 a hlo.2)]; exact g1, g2, g3⟩
    match k, k3, h, hw with
    | 2, _, h, hw =>
      obtain ⟨a, r, rfl, h_1⟩ := am_pr_inv h
      obtain ⟨hg, h_2⟩ := am_g_inv h_1
      obtain ⟨hok, g2⟩ := am_bb hg
      have h8 : am_cs r ≤ 8 := Nat.le_of_ble_eq_true g2
      obtain ⟨ht, hz⟩ := so_ok_t hok
      intro H ls locs cells slots S
      have hcell : cells + 0 ≤ R.cells ∧ slots + 0 ≤ R.slots := by
        obtain ⟨S1, S2, S3, S4, S5, S6, S7⟩ := S
        have := F.2.2.2.2.2.2.2.1
        have := F.2.2.2.2.2.2.2.2.1
        omega
      refine so_run (rk := 1) (va_runV (Ts := lw_tbg) (own := cl_R o) (C := "java/lang/String") (As := []) ⟨F.1, F.2.1, F.2.2.1, F.2.2.2.1, F.2.2.2.2.1⟩ (hS.1 a M ht) (cwV (C := "java/lang/String") (bytes := cJ0_length_8abf5) (maxL := 1) (ret := some .int) 0 F.2.2.2.2.1 (so_good2 (y := so_yLen) lw_lenC (ws := [.methodLink (cl_R o) i so_yLen, .instanceMethod so_yLen, .selects "java/lang/String" so_yLen so_yLen, .initialized "java/lang/String"]) (fun w hw2 => ?_)) rfl rfl rfl ⟨rfl, by decide, by decide, by decide +kernel⟩ ⟨by show 4 + 1 ≤ _; omega, by show 8 + (1 + 11) + 160 ≤ _; omega⟩) ⟨so_B.blind, hrecv S.2.1 ht, fun U hU hW => ⟨rfl, so_B.pre F.2.2.2.2.2.1 S.2.1 hU hW⟩⟩ rfl rfl S.1.1 rfl (by rw [am_cs_eq]; show 2 * 0 + _ ≤ 8; omega) hd hcell) S ⟨S.2.2.2.2.1, S.2.2.2.2.2.1⟩ fun v M' q => ?_
      · rcases List.mem_cons.mp hw2 with e | hw2
        · rw [e]; exact hw
        rcases List.mem_cons.mp hw2 with e | hw2
        · rw [e]; exact lw_lenI
        rcases List.mem_cons.mp hw2 with e | hw2
        · rw [e]; exact lw_lenS
        rcases List.mem_cons.mp hw2 with e | hw2
        · rw [e]; exact lw_strI
        cases hw2
      · obtain ⟨q1, q2⟩ := q
        subst q2
        exact ⟨_, q1, h_2⟩
    | 3, _, h, hw =>
      obtain ⟨j, st1, rfl, h_0⟩ := am_pi_inv h
      obtain ⟨a, r, rfl, h_1⟩ := am_pr_inv h_0
      obtain ⟨hg, hj, h_2⟩ := am_g_inv h_1
      obtain ⟨hok, g2⟩ := am_bb hg
      have h8 : am_cs r ≤ 8 := Nat.le_of_ble_eq_true g2
      obtain ⟨ht, hz⟩ := so_ok_t hok
      intro H ls locs cells slots S
      have hcell : cells + 0 ≤ R.cells ∧ slots + 0 ≤ R.slots := by
        obtain ⟨S1, S2, S3, S4, S5, S6, S7⟩ := S
        have := F.2.2.2.2.2.2.2.1
        have := F.2.2.2.2.2.2.2.2.1
        omega
      refine so_run (rk := 1) (va_runV (Ts := lw_tbg) (own := cl_R o) (C := "java/lang/String") (As := [.int j]) ⟨F.1, F.2.1, F.2.2.1, F.2.2.2.1, F.2.2.2.2.1⟩ (hS.2 a M j ht hj) (cwV (C := "java/lang/String") (bytes := cJ0_charAt_5068e) (maxL := 2) (ret := some .char) 1 F.2.2.2.2.1 (so_good2 (y := so_yChr) lw_chrC (ws := [.methodLink (cl_R o) i so_yChr, .instanceMethod so_yChr, .selects "java/lang/String" so_yChr so_yChr, .initialized "java/lang/String"]) (fun w hw2 => ?_)) rfl rfl rfl ⟨rfl, by decide, by decide, by decide +kernel⟩ ⟨by show 4 + 1 ≤ _; omega, by show 8 + (2 + 11) + 160 ≤ _; omega⟩) ⟨so_B.blind, hrecv S.2.1 ht, fun U hU hW => ⟨rfl, so_B.pre F.2.2.2.2.2.1 S.2.1 hU hW⟩⟩ rfl rfl S.1.1 rfl (by rw [am_cs_eq]; show 2 * 0 + _ ≤ 8; omega) hd hcell) S ⟨S.2.2.2.2.1, S.2.2.2.2.2.1⟩ fun v M' q => ?_
      · rcases List.mem_cons.mp hw2 with e | hw2
        · rw [e]; exact hw
        rcases List.mem_cons.mp hw2 with e | hw2
        · rw [e]; exact lw_chrI
        rcases List.mem_cons.mp hw2 with e | hw2
        · rw [e]; exact lw_chrS
        rcases List.mem_cons.mp hw2 with e | hw2
        · rw [e]; exact lw_strI
        cases hw2
      · obtain ⟨q1, q2⟩ := q
        subst q2
        exact ⟨_, q1, h_2⟩
    | 0, k3, _, _ => cases k3
    | 1, k3, _, _ => cases k3
    | 4, k3, _, _ => cases k3
    | _ + 5, _, h, _ => exact h.elim
  · cases hk
end SO
