/-! SOUNDNESS, IV: fields, constants that are texts, cells made -/
theorem so_clok {c : Nat} (hc : c < 10) : (vwCl[c]? = some (cl_R c, cl_T c, cl_N c)) ∧ (∀ j, j < cl_N c → (cl_T c j).1 = cl_R c ∧ parseFieldDescriptor (cl_T c j).2.2.1 = some (cl_Y c j) ∧ (cond (Nat.beq (sh_f c j) 1) (match cl_Y c j with | .object _ => true | .array _ => true | _ => false) (cond (Nat.beq (sh_f c j) 0) (decide (cl_Y c j = .int)) (decide (cl_Y c j = .boolean) && Nat.beq (sh_f c j) 3))) = true) ∧ (∀ a, a < cl_N c → ∀ b, b < cl_N c → a ≠ b → (cl_T c a).2.1 ≠ (cl_T c b).2.1) := by
  have h := lk_all10 cl_ok hc
  obtain ⟨h1, h3⟩ := am_bb h
  obtain ⟨h1, h2⟩ := am_bb h1
  refine ⟨cl_vw c hc, fun j hj => ?_, fun a ha b hb hab => ?_⟩
  · have q := List.all_eq_true.mp h2 j (List.mem_range.mpr hj)
    obtain ⟨q1, q3⟩ := am_bb q
    obtain ⟨q1, q2⟩ := am_bb q1
    exact ⟨of_decide_eq_true q1, of_decide_eq_true q2, q3⟩
  · have q := List.all_eq_true.mp (List.all_eq_true.mp h3 a (List.mem_range.mpr ha)) b (List.mem_range.mpr hb)
    rcases (Bool.or_eq_true _ _).mp q with q | q
    · exact absurd (Nat.eq_of_beq_eq_true q) hab
    · exact of_decide_eq_true q
theorem so_uws {c : Nat} (hc : c < 10) : ∀ w ∈ u_ws (cl_R c) (cl_T c) (cl_N c), w ∈ lw_tbg := by
  intro w hw
  obtain ⟨j, hj, rfl⟩ := List.mem_map.mp hw
  exact lw_is_in (List.all_eq_true.mp (lk_all10 pl_u_ok hc) j hj)
theorem so_vV (G : so_G) (M : am_M) (a c : Nat) {j : Nat} (hj : j < cl_N c) : vp_V ((List.range (cl_N c)).map (so_f G M a c)) j = so_f G M a c j := by
  unfold vp_V
  rw [List.getD_eq_getElem?_getD, List.getElem?_map, List.getElem?_range hj]
  rfl
section SO
variable {p : Program} {l : Launch} {e : Env} {R : Room} {s : State} {m : MethodId} {args : Array Value} {below : List Frame} {meth : Method} {c : Code} {Q : State → Prop}
variable {cc : ByteArray} {G : so_G} {o nL z0 s0 zm sm d : Nat} {nm : String} {pc : Nat} {L : am_L} {st : List Value} {M : am_M}
/-- what the tables say of a field's link -/
theorem so_pf (ho : o < 15) {i q : Nat} (h : ((pl_f o).any fun e => Nat.beq e.1 i && Nat.beq e.2.1 q) = true) : (.fieldLink (cl_R o) i (cl_R (q / 64)) ((cl_T (q / 64)) (q % 64)).2.1 ((cl_T (q / 64)) (q % 64)).2.2.1 : Jvm.Cond) ∈ lw_tbg ∧ q / 64 < 10 ∧ q % 64 < cl_N (q / 64) := by
  obtain ⟨x, hx⟩ := lk_any2 h
  have h1 := List.all_eq_true.mp (lk_all15 pf_ok ho) _ hx
  obtain ⟨h1, h3⟩ := am_bb h1
  obtain ⟨h1, h2⟩ := am_bb h1
  exact ⟨lw_is_in h1, Nat.le_of_ble_eq_true h2, Nat.le_of_ble_eq_true h3⟩
theorem so_getfield (F : so_Fx p s m args meth c cc o nL nm G R z0 s0 zm sm d) {q ln : Nat} {orig : Instr} {rt : Option FieldType} (hk : lkB o nm rt pc (.getfield q) ln orig = true) (hd : decode cc pc = .ok (orig, ln))
    (h : am_pr st fun a r => am_g (am_ok M a (10 + q / 64)) (cond (Nat.beq (sh_f (q / 64) (q % 64)) 1) (am_ob (M.2.2.1 a (q % 64)) fun b => so_X p l e R s m args below meth c Q G nL z0 s0 zm sm (pc + ln) L (.ref b :: r) M) (so_X p l e R s m args below meth c Q G nL z0 s0 zm sm (pc + ln) L (.int (M.1 a (q % 64)) :: r) M))) : so_X p l e R s m args below meth c Q G nL z0 s0 zm sm pc L st M := by
  obtain ⟨a, r, rfl, h_1⟩ := am_pr_inv h
  obtain ⟨hok, h_2⟩ := am_g_inv h_1
  dsimp only [lkB] at hk
  split at hk
  · obtain ⟨k1, k2⟩ := am_bb hk
    cases Nat.eq_of_beq_eq_true k1
    obtain ⟨hw, hc10, hj⟩ := so_pf F.2.2.2.2.2.2.2.2.2.2.2 k2
    obtain ⟨hvw, hfs, hnm⟩ := so_clok hc10
    intro H ls locs cells slots S
    obtain ⟨ht, hz⟩ := so_ok_t hok
    have ha : 12 ≤ a := so_hi12 (by omega) (by omega)
    have hat := S.2.1.2.2.1 a ha hz
    rw [so_eo ht] at hat
    have hP : va_P G.2.2.1 vwCl [(so_ad G a, .inr (q / 64, (List.range (cl_N (q / 64))).map (so_f G M a (q / 64))))] H := fun k x hx => by
      match k, hx with
      | 0, hx => cases hx; exact hat
      | k + 1, hx => cases hx
    refine va_get (C := cl_R (q / 64)) (T := cl_T (q / 64)) (N := cl_N (q / 64)) (ci := q / 64) (Ts := lw_tbg) (own := cl_R o) (ref := cl_R (q / 64)) F.1 F.2.1 F.2.2.2.2.1 (so_uws hc10) F.2.2.2.1 F.2.2.2.2.2.1.1 hP 0 rfl hvw (q % 64) hj (F.2.2.2.2.1 _ hw) (fun x hx => by rw [← (hfs _ hj).1]; exact hx) (v := so_f G M a (q / 64) (q % 64)) (by rw [List.getElem?_map, List.getElem?_range hj]; rfl) hd ?_
    unfold so_f
    cases hb : Nat.beq (sh_f (q / 64) (q % 64)) 1 with
    | true =>
      rw [hb] at h_2
      obtain ⟨b, hb2, h_3⟩ := am_ob_inv h_2
      rw [hb2]
      exact h_3 H ls locs cells slots S
    | false =>
      rw [hb] at h_2
      exact h_2 H ls locs cells slots S
  · cases hk
/-- one field of one object changes -/
theorem so_field {H H1 : Heap} {a ci j : Nat} {v : Value} {M' : am_M} {cell : Cell} (hci : ci < 10) (hK : so_K G s) (own : String) (hts : ∀ w ∈ lw_tbg, w.before args s = true) (S2 : so_H G s M H) (ha : 12 ≤ a) (hz : a < M.2.2.2.1) (ht : sh_t a = 10 + ci) (hj : j < cl_N ci)
    (hI : ∀ r, r ≠ a → M'.1 r = M.1 r) (hL : ∀ r, r ≠ a → M'.2.1 r = M.2.1 r) (hR : ∀ r, r ≠ a → M'.2.2.1 r = M.2.2.1 r) (hM : M'.2.2.2 = M.2.2.2) (hv : so_f G M' a ci j = v) (ho : ∀ k, k < cl_N ci → k ≠ j → so_f G M' a ci k = so_f G M a ci k)
    (q2 : cell.cls = G.2.2.1.1 ci) (q3 : cell.vm = .none) (q4 : ∀ k, k < cl_N ci → cell.slots[G.2.2.1.2 ci k]? = some (vp_V ((List.range (cl_N ci)).map (so_f G M a ci)) k)) (e1 : H1[so_ad G a]? = some (cell.setSlot (G.2.2.1.2 ci j) v)) (e2 : H1.size = H.size) (e3 : ∀ q, q ≠ so_ad G a → H1[q]? = H[q]?) : so_H G s M' H1 := by
  obtain ⟨hvw, hfs, hnm⟩ := so_clok hci
  have hap := va_apart (own := own) hts (so_uws hci) (cl_Y ci) (fun k hk => (hfs k hk).2.1) hnm hK.1 hvw
  refine S2.upd ha hz hI hL hR hM e2 e3 ?_
  rw [so_eo ht]
  refine ⟨_, hvw, t_OB.to (V := updV (vp_V ((List.range (cl_N ci)).map (so_f G M a ci))) j v) ⟨_, e1, q2, q3, t_set q4 hap hj v⟩ (fun k hk => ?_)⟩
  have hk2 : k < cl_N ci := hk
  rw [so_vV G M' a ci hk2]
  unfold updV
  by_cases e : k = j
  · subst e
    rw [if_pos rfl, hv]
  · rw [if_neg e, so_vV G M a ci hk2, ho k hk2 e]
/-- the store itself -/
theorem so_put (F : so_Fx p s m args meth c cc o nL nm G R z0 s0 zm sm d) {q i : Nat} {v : Value} {r : List Value} {H : Heap} {ls : Array Slot} {locs : List Loc} {cells slots a : Nat} (hd : decode cc pc = .ok (.putfield i, 3)) (k2 : ((pl_f o).any fun e => Nat.beq e.1 i && Nat.beq e.2.1 q) = true) (k3 : (!((cl_T (q / 64)) (q % 64)).2.2.2 || (decide (nm = "<init>") && Nat.beq o (q / 64))) = true) (S2 : so_H G s M H) (ha : 12 ≤ a) (hz : a < M.2.2.2.1) (ht : sh_t a = 10 + q / 64)
    (hn : narrow (cl_Y (q / 64) (q % 64)) v = v) (hfit : fits (cl_Y (q / 64) (q % 64)) v = true)
    (kk : ∀ (H1 : Heap) (cell : Cell), cell.cls = G.2.2.1.1 (q / 64) → cell.vm = .none → (∀ k, k < cl_N (q / 64) → cell.slots[G.2.2.1.2 (q / 64) k]? = some (vp_V ((List.range (cl_N (q / 64))).map (so_f G M a (q / 64))) k)) → H1[so_ad G a]? = some (cell.setSlot (G.2.2.1.2 (q / 64) (q % 64)) v) → H1.size = H.size → (∀ q, q ≠ so_ad G a → H1[q]? = H[q]?) →
      W p l e R s m args below meth c H1 (locs ++ [⟨so_ad G a, G.2.2.1.2 (q / 64) (q % 64)⟩]) cells slots Q (F0 m (pc + 3) ls r)) : W p l e R s m args below meth c H locs cells slots Q (F0 m pc ls (v :: .ref (so_ad G a) :: r)) := by
  obtain ⟨hw, hc10, hj⟩ := so_pf F.2.2.2.2.2.2.2.2.2.2.2 k2
  obtain ⟨hvw, hfs, hnm⟩ := so_clok hc10
  have hat := S2.2.2.1 a ha hz
  rw [so_eo ht] at hat
  obtain ⟨r0, h1, cell, q1, q2, q3, q4⟩ := hat
  have hr : r0 = (cl_R (q / 64), cl_T (q / 64), cl_N (q / 64)) := Option.some.inj (h1.symm.trans hvw)
  subst hr
  obtain ⟨hS, hfc, kC, hkC, hkind⟩ := F.2.2.2.2.2.1.1.1 (q / 64) _ hvw
  obtain ⟨cf, kf, fi, f, hi, hsl⟩ := hS (q % 64) hj
  have hlink := F.2.2.2.2.1 _ hw
  have hsame : ∀ x, s.fieldFound? (cl_T (q / 64) (q % 64)).1 (cl_T (q / 64) (q % 64)).2.1 (cl_T (q / 64) (q % 64)).2.2.1 = some x → s.fieldFound? (cl_R (q / 64)) (cl_T (q / 64) (q % 64)).2.1 (cl_T (q / 64) (q % 64)).2.2.1 = some x := fun x hx => by rw [← (hfs _ hj).1]; exact hx
  have hst := (u_facts hfc hkC (u_lays F.2.2.2.2.1 (so_uws hc10) hj) hi).1
  have hlay := F.2.2.2.2.1 _ (so_uws hc10 _ (u_in_lay hj))
  unfold u_lay at hlay
  cases hfin : (cl_T (q / 64) (q % 64)).2.2.2 with
  | false =>
    rw [if_neg (by rw [hfin]; decide)] at hlay
    have h6 := u_store hfc hkC hkind hlay hi (hfs _ hj).2.1 hn hfit
    refine W.putK F.1 F.2.1 (f := f) ⟨F.2.2.2.1, hlink, ⟨_, _, _, hsame _ hi⟩, hst⟩ (by rw [q2]; exact h6) q1 q3 (by rw [hsl]; exact k2_hasslot (q4 _ hj)) rfl rfl hd fun H' e1 e2 e3 => ?_
    rw [hsl] at e1 ⊢
    exact kk H' cell q2 q3 q4 e1 e2 e3
  | true =>
    rw [if_pos hfin] at hlay
    rw [hfin] at k3
    obtain ⟨k4, k5⟩ := am_bb k3
    have hoc := Nat.eq_of_beq_eq_true k5
    have hcf : m.cls = cf := by
      obtain ⟨_, _, c', _, _, _, -, -, hf', -, -, -, hown2, -⟩ := Cond.laysFinal_spec hlay
      have e1 : c' = cf := by have := hi.symm.trans hf'; simp at this; exact this.1.symm
      rw [(hfs _ hj).1, ← hoc] at hown2
      rw [← e1]; exact Option.some.inj (F.2.2.2.1.symm.trans hown2)
    have h6 := u_fits hfc hkC hkind (Or.inr hlay) hi (hfs _ hj).2.1 hn hfit
    refine W.putFinK F.1 F.2.1 F.2.2.2.1 hlink (hsame _ hi) hst hcf (by rw [F.2.2.2.2.2.2.1]; exact of_decide_eq_true k4) (by rw [q2]; exact h6) q1 q3 (by rw [hsl]; exact k2_hasslot (q4 _ hj)) rfl rfl hd fun H' e1 e2 e3 => ?_
    rw [hsl] at e1 ⊢
    exact kk H' cell q2 q3 q4 e1 e2 e3
theorem so_putfield (F : so_Fx p s m args meth c cc o nL nm G R z0 s0 zm sm d) {q ln : Nat} {orig : Instr} {rt : Option FieldType} (hk : lkB o nm rt pc (.putfield q) ln orig = true) (hd : decode cc pc = .ok (orig, ln))
    (h : cond (Nat.beq (sh_f (q / 64) (q % 64)) 1)
      (am_pr st fun b st => am_pr st fun a r => am_g (am_ok M a (10 + q / 64) && Nat.ble 12 a) (so_X p l e R s m args below meth c Q G nL z0 s0 zm sm (pc + ln) L r (am_sR M (am_sr M.2.2.1 a (am_u1 (M.2.2.1 a) (q % 64) (some b))))))
      (am_pi st fun x st => am_pr st fun a r => am_g (am_ok M a (10 + q / 64) && Nat.ble 12 a && (Nat.beq (sh_f (q / 64) (q % 64)) 0 || decide (x = 0) || decide (x = 1))) (so_X p l e R s m args below meth c Q G nL z0 s0 zm sm (pc + ln) L r (am_sI M (am_sr M.1 a (am_u1 (M.1 a) (q % 64) x)))))) : so_X p l e R s m args below meth c Q G nL z0 s0 zm sm pc L st M := by
  dsimp only [lkB] at hk
  split at hk
  · obtain ⟨k1, k3⟩ := am_bb hk
    obtain ⟨k1, k2⟩ := am_bb k1
    cases Nat.eq_of_beq_eq_true k1
    obtain ⟨hw, hc10, hj⟩ := so_pf F.2.2.2.2.2.2.2.2.2.2.2 k2
    have hty := ((so_clok hc10).2.1 _ hj).2.2
    cases hb : Nat.beq (sh_f (q / 64) (q % 64)) 1 with
    | true =>
      rw [hb] at h hty
      obtain ⟨b, st1, rfl, h_1⟩ := am_pr_inv h
      obtain ⟨a, r, rfl, h_2⟩ := am_pr_inv h_1
      obtain ⟨hg, h_3⟩ := am_g_inv h_2
      obtain ⟨hok, h12⟩ := am_bb hg
      have ha : 12 ≤ a := Nat.le_of_ble_eq_true h12
      obtain ⟨ht, hz⟩ := so_ok_t hok
      intro H ls locs cells slots S
      obtain ⟨S1, S2, S3, S4, S5, S6, S7⟩ := S
      have hnf : narrow (cl_Y (q / 64) (q % 64)) (.ref (so_ad G b)) = .ref (so_ad G b) ∧ fits (cl_Y (q / 64) (q % 64)) (.ref (so_ad G b)) = true := by
        dsimp only [cond] at hty
        split at hty
        · rename_i n e; rw [e]; exact ⟨rfl, rfl⟩
        · rename_i n e; rw [e]; exact ⟨rfl, rfl⟩
        · cases hty
      refine so_put F hd k2 k3 S2 ha hz ht hnf.1 hnf.2 fun H1 cell q2 q3 q4 e1 e2 e3 => ?_
      refine h_3 H1 ls _ cells slots ⟨S1, so_field hc10 F.2.2.2.2.2.1 (cl_R o) F.2.2.2.2.1 S2 ha hz ht hj (fun _ _ => rfl) (fun _ _ => rfl) (fun r hr => am_sr_ne _ _ hr) rfl ?_ (fun k hk hkj => ?_) q2 q3 q4 e1 e2 e3, S3, S4, S5, S6, so_locs S7 ha⟩
      · unfold so_f
        rw [hb]
        show va_rf (so_q G (am_sr M.2.2.1 a (am_u1 (M.2.2.1 a) (q % 64) (some b)) a (q % 64))) = _
        rw [am_sr_eq, am_u1_eq]
        rfl
      · unfold so_f
        show cond _ (va_rf (so_q G (am_sr M.2.2.1 a (am_u1 (M.2.2.1 a) (q % 64) (some b)) a k))) _ = _
        rw [am_sr_eq, am_u1_ne _ _ hkj]
        rfl
    | false =>
      rw [hb] at h hty
      obtain ⟨x, st1, rfl, h_1⟩ := am_pi_inv h
      obtain ⟨a, r, rfl, h_2⟩ := am_pr_inv h_1
      obtain ⟨hg, h_3⟩ := am_g_inv h_2
      obtain ⟨hg, hx⟩ := am_bb hg
      obtain ⟨hok, h12⟩ := am_bb hg
      have ha : 12 ≤ a := Nat.le_of_ble_eq_true h12
      obtain ⟨ht, hz⟩ := so_ok_t hok
      intro H ls locs cells slots S
      obtain ⟨S1, S2, S3, S4, S5, S6, S7⟩ := S
      have hnf : narrow (cl_Y (q / 64) (q % 64)) (.int x) = .int x ∧ fits (cl_Y (q / 64) (q % 64)) (.int x) = true := by
        cases h0 : Nat.beq (sh_f (q / 64) (q % 64)) 0 with
        | true =>
          rw [h0] at hty
          rw [of_decide_eq_true hty]
          exact ⟨rfl, rfl⟩
        | false =>
          rw [h0] at hty hx
          rw [of_decide_eq_true (am_bb hty).1]
          rcases (Bool.or_eq_true _ _).mp hx with hx | hx
          · rw [of_decide_eq_true ((Bool.or_eq_true _ _).mp hx |>.resolve_left (by decide))]; exact ⟨rfl, rfl⟩
          · rw [of_decide_eq_true hx]; exact ⟨rfl, rfl⟩
      refine so_put F hd k2 k3 S2 ha hz ht hnf.1 hnf.2 fun H1 cell q2 q3 q4 e1 e2 e3 => ?_
      refine h_3 H1 ls _ cells slots ⟨S1, so_field hc10 F.2.2.2.2.2.1 (cl_R o) F.2.2.2.2.1 S2 ha hz ht hj (fun r hr => am_sr_ne _ _ hr) (fun _ _ => rfl) (fun _ _ => rfl) rfl ?_ (fun k hk hkj => ?_) q2 q3 q4 e1 e2 e3, S3, S4, S5, S6, so_locs S7 ha⟩
      · unfold so_f
        rw [hb]
        show Value.int (am_sr M.1 a (am_u1 (M.1 a) (q % 64) x) a (q % 64)) = _
        rw [am_sr_eq, am_u1_eq]
        rfl
      · unfold so_f
        show cond _ _ (Value.int (am_sr M.1 a (am_u1 (M.1 a) (q % 64) x) a k)) = _
        rw [am_sr_eq, am_u1_ne _ _ hkj]
        rfl
  · cases hk
theorem so_getstatic (F : so_Fx p s m args meth c cc o nL nm G R z0 s0 zm sm d) {z ln : Nat} {orig : Instr} {rt : Option FieldType} (hk : lkB o nm rt pc (.getstatic z) ln orig = true) (hd : decode cc pc = .ok (orig, ln)) (h : so_X p l e R s m args below meth c Q G nL z0 s0 zm sm (pc + ln) L (.ref 1 :: st) M) : so_X p l e R s m args below meth c Q G nL z0 s0 zm sm pc L st M := by
  dsimp only [lkB] at hk
  split at hk
  · obtain ⟨k1, k3⟩ := am_bb hk
    obtain ⟨k1, k2⟩ := am_bb k1
    cases Nat.eq_of_beq_eq_true k1
    cases Nat.eq_of_beq_eq_true k2
    cases Nat.eq_of_beq_eq_true k3
    intro H ls locs cells slots S
    have hZ := F.2.2.2.2.2.1.2.1
    obtain ⟨cf, kf, fi, f, a, cell, h1, h2, h3, h4, h5, h6, h7, h8⟩ := hZ
    exact W.gets F.1 F.2.1 F.2.2.2.1 (F.2.2.2.2.1 _ lw_starts) h1 h2 h3 h4 (by rw [S.2.1.2.2.2.1 a (Nat.not_le.mp h8)]; exact h5) (fun e => by rw [e] at h6; cases h6) h7 rfl hd (h H ls locs cells slots S)
  · cases hk
theorem so_ldcS (F : so_Fx p s m args meth c cc o nL nm G R z0 s0 zm sm d) {k ln : Nat} {orig : Instr} {rt : Option FieldType} (hk : lkB o nm rt pc (.ldc k) ln orig = true) (hd : decode cc pc = .ok (orig, ln)) (h : so_X p l e R s m args below meth c Q G nL z0 s0 zm sm (pc + ln) L (.ref (2 + k) :: st) M) : so_X p l e R s m args below meth c Q G nL z0 s0 zm sm pc L st M := by
  dsimp only [lkB] at hk
  split at hk
  · obtain ⟨k1, k2⟩ := am_bb hk
    cases Nat.eq_of_beq_eq_true k1
    obtain ⟨x, hx⟩ := lk_any2 k2
    have h1 := List.all_eq_true.mp (lk_all15 ps_ok F.2.2.2.2.2.2.2.2.2.2.2) _ hx
    obtain ⟨h1, h3⟩ := am_bb h1
    obtain ⟨h1, h2⟩ := am_bb h1
    have ho := Nat.eq_of_beq_eq_true h2
    have h10 : k < 10 := Nat.le_of_ble_eq_true h3
    subst ho
    intro H ls locs cells slots S
    have e : so_ad G (2 + k) = G.2.1 (2 + k) := so_ad_lo G (by omega)
    have hq := h H ls locs cells slots S
    rw [List.map_cons, show so_v G (.ref (2 + k)) = .ref (so_ad G (2 + k)) from rfl, e] at hq
    exact va_ldcS F.1 F.2.1 (own := "EightBlocks$Tape") F.2.2.2.1 (F.2.2.2.2.2.1.2.2.2.2.2.1 _ hx) hd hq
  · cases hk
end SO
