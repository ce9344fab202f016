/-! SOUNDNESS, III: arrays and fields -/
theorem am_beq_ne {a b : Nat} (h : a ≠ b) : Nat.beq a b = false := by
  cases e : Nat.beq a b with
  | false => rfl
  | true => exact absurd (Nat.eq_of_beq_eq_true e) h
theorem am_beq_rf (a : Nat) : Nat.beq a a = true := Nat.beq_refl a
theorem am_sr_eq {α : Type} (I : Nat → Nat → α) (a : Nat) (g : Nat → α) : am_sr I a g a = g := by
  unfold am_sr
  rw [am_beq_rf]
  rfl
theorem am_sr_ne {α : Type} (I : Nat → Nat → α) {a b : Nat} (g : Nat → α) (h : b ≠ a) : am_sr I a g b = I b := by
  unfold am_sr
  rw [am_beq_ne h]
  rfl
theorem am_u1_eq {α : Type} (f : Nat → α) (k : Nat) (x : α) : am_u1 f k x k = x := by
  unfold am_u1
  rw [am_beq_rf]
  rfl
theorem am_u1_ne {α : Type} (f : Nat → α) {k j : Nat} (x : α) (h : j ≠ k) : am_u1 f k x j = f j := by
  unfold am_u1
  rw [am_beq_ne h]
  rfl
theorem so_updV {α : Type} (mk : α → Value) (f : Nat → α) (k : Nat) (x : α) : updV (fun j => mk (f j)) k (mk x) = fun j => mk (am_u1 f k x j) := by
  funext j
  unfold updV
  by_cases h : j = k
  · subst h
    rw [if_pos rfl, am_u1_eq]
  · rw [if_neg h, am_u1_ne _ _ h]
theorem so_ok_t {M : am_M} {a t : Nat} (h : am_ok M a t = true) : sh_t a = t ∧ a < M.2.2.2.1 := ⟨Nat.eq_of_beq_eq_true (am_bb h).1, Nat.le_of_ble_eq_true (am_bb h).2⟩
theorem so_lo12 : ∀ a, a < 12 → sh_t a = 0 ∧ (a < 2) ∨ sh_t a = 6 := by decide +kernel
theorem so_hi12 {a : Nat} (h0 : sh_t a ≠ 0) (h6 : sh_t a ≠ 6) : 12 ≤ a := by
  rcases Nat.lt_or_ge a 12 with h | h
  · rcases so_lo12 a h with q | q
    · exact absurd q.1 h0
    · exact absurd q h6
  · exact h
theorem so_e0 {G : so_G} {M : am_M} {a : Nat} (h : sh_t a = 0) : so_e G M a = .inl (G.2.2.2.1 0, sh_n a, .inl (M.1 a)) := by
  unfold so_e; rw [h]; rfl
theorem so_e1 {G : so_G} {M : am_M} {a : Nat} (h : sh_t a = 1) : so_e G M a = .inl (G.2.2.2.1 1, sh_n a, .inl (M.1 a)) := by
  unfold so_e; rw [h]; rfl
theorem so_e2 {G : so_G} {M : am_M} {a : Nat} (h : sh_t a = 2) : so_e G M a = .inl (G.2.2.2.1 2, sh_n a, .inr (.inl (M.2.1 a))) := by
  unfold so_e; rw [h]; rfl
theorem so_eq {G : so_G} {M : am_M} {a t : Nat} (h : sh_t a = t) (ht : 3 ≤ t) (ht5 : t ≤ 5) : so_e G M a = .inl (G.2.2.2.1 t, sh_n a, .inr (.inr (.inr (.inr fun j => so_q G (M.2.2.1 a j))))) := by
  unfold so_e
  rw [h]
  match t, ht, ht5 with
  | 3, _, _ => rfl
  | 4, _, _ => rfl
  | 5, _, _ => rfl
theorem so_eo {G : so_G} {M : am_M} {a c : Nat} (h : sh_t a = 10 + c) : so_e G M a = .inr (c, (List.range (cl_N c)).map (so_f G M a c)) := by
  unfold so_e
  rw [h]
  have h1 : 10 + c - 10 = c := by omega
  split
  all_goals first
    | omega
    | (rw [h1])
theorem so_tys (G : so_G) : ∀ t, t < 6 → ((List.range 6).map fun t => (G.2.2.2.1 t, so_ty t))[t]? = some (G.2.2.2.1 t, so_ty t)
  | 0, _ => rfl
  | 1, _ => rfl
  | 2, _ => rfl
  | 3, _ => rfl
  | 4, _ => rfl
  | 5, _ => rfl
  | _ + 6, h => by omega
section SO
variable {p : Program} {l : Launch} {e : Env} {R : Room} {s : State} {m : MethodId} {args : Array Value} {below : List Frame} {meth : Method} {c : Code} {Q : State → Prop}
variable {cc : ByteArray} {G : so_G} {o nL z0 s0 zm sm d : Nat} {nm : String} {pc : Nat} {L : am_L} {st : List Value} {M : am_M}
theorem so_arr {H : Heap} {a : Nat} (hK : so_K G s) (hH : so_H G s M H) (h : am_ok M a 0 = true) : ∃ cell : Cell, H[so_ad G a]? = some cell ∧ s.isArrayOf cell .int ∧ cell.vm ≠ .unknown ∧ (am_len M a ≤ cell.slots.size ∧ cell.slots.size.toInt32 = nI (am_len M a)) ∧ am_len M a < 2 ^ 31 ∧ ∀ j, j < am_len M a → cell.slots[j]? = some (.int (M.1 a j)) := by
  obtain ⟨ht, hz⟩ := so_ok_t h
  obtain ⟨h1, h2, h3, h4, h5, h6⟩ := hH
  rcases Nat.lt_or_ge a 12 with ha | ha
  · rcases so_lo12 a ha with q | q
    · obtain ⟨cell, g1, g2⟩ := h6 a q.2
      refine ⟨cell, ?_, g2⟩
      rw [so_ad_lo G ha, h4 _ (h5 a ha)]
      exact g1
    · rw [ht] at q; cases q
  · have hat := h3 a ha hz
    rw [so_e0 ht] at hat
    have hc : H[so_ad G a]? = some (arrV (G.2.2.2.1 0) (sh_n a) (fun j => .int (M.1 a j))) := hat
    have hl := am_len_hi M (Nat.lt_of_lt_of_le (Nat.succ_pos 11) ha)
    have hl2 := so_len_le a
    refine ⟨_, hc, ((hK.1.2 0 _ (so_tys G 0 (by omega))).1 _ _), (fun q => by cases q), ⟨by rw [arrV_size, hl]; exact Nat.le_refl _, by rw [arrV_size, hl]; rfl⟩, by rw [hl]; omega, fun j hj => arrV_read _ _ (by rw [hl] at hj; exact hj)⟩
theorem so_iaload (F : so_Fx p s m args meth c cc o nL nm G R z0 s0 zm sm d) (hd : decode cc pc = .ok (.iaload, 1)) (h : am_pi st fun i st => am_pr st fun a r => am_g (am_ok M a 0) (am_un i < am_len M a ∧ so_X p l e R s m args below meth c Q G nL z0 s0 zm sm (pc + 1) L (.int (M.1 a (am_un i)) :: r) M)) : so_X p l e R s m args below meth c Q G nL z0 s0 zm sm pc L st M := by
  obtain ⟨i, st1, rfl, h_1⟩ := am_pi_inv h
  obtain ⟨a, r, rfl, h_2⟩ := am_pr_inv h_1
  obtain ⟨hok, hi, h_3⟩ := am_g_inv h_2
  intro H ls locs cells slots S
  obtain ⟨cell, g1, g2, g3, g4, g5, g6⟩ := so_arr F.2.2.2.2.2.1 S.2.1 hok
  obtain ⟨hin, hc⟩ := so_in hi (Nat.le_of_lt g5)
  exact W.iald F.1 F.2.1 g1 g2 g3 (fun q => hin (q.imp id (fun q => Nat.le_trans g4.1 q))) (v := .int (M.1 a (am_un i))) (by rw [hc]; exact g6 _ hi) rfl rfl hd (h_3 H ls locs cells slots S)
theorem so_baload (F : so_Fx p s m args meth c cc o nL nm G R z0 s0 zm sm d) (hd : decode cc pc = .ok (.baload, 1)) (h : am_pi st fun i st => am_pr st fun a r => am_g (am_ok M a 1) (am_un i < am_len M a ∧ so_X p l e R s m args below meth c Q G nL z0 s0 zm sm (pc + 1) L (.int (M.1 a (am_un i)) :: r) M)) : so_X p l e R s m args below meth c Q G nL z0 s0 zm sm pc L st M := by
  obtain ⟨i, st1, rfl, h_1⟩ := am_pi_inv h
  obtain ⟨a, r, rfl, h_2⟩ := am_pr_inv h_1
  obtain ⟨hok, hi, h_3⟩ := am_g_inv h_2
  intro H ls locs cells slots S
  obtain ⟨ht, hz⟩ := so_ok_t hok
  have ha : 12 ≤ a := so_hi12 (by rw [ht]; decide) (by rw [ht]; decide)
  have hat := S.2.1.2.2.1 a ha hz
  rw [so_e1 ht] at hat
  have hc : H[so_ad G a]? = some (arrV (G.2.2.2.1 1) (sh_n a) (fun j => .int (M.1 a j))) := hat
  rw [am_len_hi M (Nat.lt_of_lt_of_le (Nat.succ_pos 11) ha)] at hi
  have hl2 := so_len_le a
  obtain ⟨hin, hcl⟩ := so_in hi (by omega)
  exact W.zald F.1 F.2.1 hc ((F.2.2.2.2.2.1.1.2 1 _ (so_tys G 1 (by omega))).1 _ _) (fun q => by cases q) (by rw [arrV_size]; exact hin) (v := .int (M.1 a (am_un i))) (by rw [hcl, arrV_read _ _ hi]) rfl rfl hd (h_3 H ls locs cells slots S)
theorem so_laload (F : so_Fx p s m args meth c cc o nL nm G R z0 s0 zm sm d) (hd : decode cc pc = .ok (.laload, 1)) (h : am_pi st fun i st => am_pr st fun a r => am_g (am_ok M a 2) (am_un i < am_len M a ∧ so_X p l e R s m args below meth c Q G nL z0 s0 zm sm (pc + 1) L (.long (M.2.1 a (am_un i)) :: r) M)) : so_X p l e R s m args below meth c Q G nL z0 s0 zm sm pc L st M := by
  obtain ⟨i, st1, rfl, h_1⟩ := am_pi_inv h
  obtain ⟨a, r, rfl, h_2⟩ := am_pr_inv h_1
  obtain ⟨hok, hi, h_3⟩ := am_g_inv h_2
  intro H ls locs cells slots S
  obtain ⟨ht, hz⟩ := so_ok_t hok
  have ha : 12 ≤ a := so_hi12 (by rw [ht]; decide) (by rw [ht]; decide)
  have hat := S.2.1.2.2.1 a ha hz
  rw [so_e2 ht] at hat
  have hc : H[so_ad G a]? = some (arrV (G.2.2.2.1 2) (sh_n a) (fun j => .long (M.2.1 a j))) := hat
  rw [am_len_hi M (Nat.lt_of_lt_of_le (Nat.succ_pos 11) ha)] at hi
  have hl2 := so_len_le a
  obtain ⟨hin, hcl⟩ := so_in hi (by omega)
  exact W.lald F.1 F.2.1 hc ((F.2.2.2.2.2.1.1.2 2 _ (so_tys G 2 (by omega))).1 _ _) (fun q => by cases q) (by rw [arrV_size]; exact hin) (v := .long (M.2.1 a (am_un i))) (by rw [hcl, arrV_read _ _ hi]) rfl rfl hd (h_3 H ls locs cells slots S)
theorem so_aaload (F : so_Fx p s m args meth c cc o nL nm G R z0 s0 zm sm d) (hd : decode cc pc = .ok (.aaload, 1)) (h : am_pi st fun i st => am_pr st fun a r => am_g (am_ok M a 3 || am_ok M a 4 || am_ok M a 5) (am_un i < am_len M a ∧ am_ob (M.2.2.1 a (am_un i)) fun b => so_X p l e R s m args below meth c Q G nL z0 s0 zm sm (pc + 1) L (.ref b :: r) M)) : so_X p l e R s m args below meth c Q G nL z0 s0 zm sm pc L st M := by
  obtain ⟨i, st1, rfl, h_1⟩ := am_pi_inv h
  obtain ⟨a, r, rfl, h_2⟩ := am_pr_inv h_1
  obtain ⟨hok, hi, h_3⟩ := am_g_inv h_2
  obtain ⟨b, hb, h_4⟩ := am_ob_inv h_3
  intro H ls locs cells slots S
  have ht : ∃ t, sh_t a = t ∧ a < M.2.2.2.1 ∧ 3 ≤ t ∧ t ≤ 5 ∧ (so_ty t).isReference = true := by
    rcases (Bool.or_eq_true _ _).mp hok with q | q
    · rcases (Bool.or_eq_true _ _).mp q with q | q
      · exact ⟨3, (so_ok_t q).1, (so_ok_t q).2, by omega, by omega, rfl⟩
      · exact ⟨4, (so_ok_t q).1, (so_ok_t q).2, by omega, by omega, rfl⟩
    · exact ⟨5, (so_ok_t q).1, (so_ok_t q).2, by omega, by omega, rfl⟩
  obtain ⟨t, ht, hz, h3, h5, href⟩ := ht
  have ha : 12 ≤ a := so_hi12 (by omega) (by omega)
  have hat := S.2.1.2.2.1 a ha hz
  rw [so_eq ht h3 h5] at hat
  have hc : H[so_ad G a]? = some (arrV (G.2.2.2.1 t) (sh_n a) (fun j => va_rf (so_q G (M.2.2.1 a j)))) := hat
  rw [am_len_hi M (Nat.lt_of_lt_of_le (Nat.succ_pos 11) ha)] at hi
  have hl2 := so_len_le a
  obtain ⟨hin, hcl⟩ := so_in hi (by omega)
  exact W.aald F.1 F.2.1 hc ((F.2.2.2.2.2.1.1.2 t _ (so_tys G t (by omega))).1 _ _) href (fun q => by cases q) (by rw [arrV_size]; exact hin) (v := .ref (so_ad G b)) (by rw [hcl, arrV_read _ _ hi, hb]; rfl) rfl rfl hd (h_4 H ls locs cells slots S)
theorem so_alen (F : so_Fx p s m args meth c cc o nL nm G R z0 s0 zm sm d) (hd : decode cc pc = .ok (.arraylength, 1)) (h : am_pr st fun a r => am_g (Nat.ble (sh_t a) 5 && Nat.ble (a + 1) M.2.2.2.1) (so_X p l e R s m args below meth c Q G nL z0 s0 zm sm (pc + 1) L (.int (nI (am_len M a)) :: r) M)) : so_X p l e R s m args below meth c Q G nL z0 s0 zm sm pc L st M := by
  obtain ⟨a, r, rfl, h_1⟩ := am_pr_inv h
  obtain ⟨hg, h_2⟩ := am_g_inv h_1
  obtain ⟨g1, g2⟩ := am_bb hg
  have h5 : sh_t a ≤ 5 := Nat.le_of_ble_eq_true g1
  have hz : a < M.2.2.2.1 := Nat.le_of_ble_eq_true g2
  intro H ls locs cells slots S
  have k := h_2 H ls locs cells slots S
  by_cases h0 : sh_t a = 0
  · obtain ⟨cell, q1, q2, q3, q4, q5, q6⟩ := so_arr (M := M) F.2.2.2.2.2.1 S.2.1 (a := a) (by unfold am_ok; rw [h0, g2]; rfl)
    exact W.alen F.1 F.2.1 q1 q2 (n := nI (am_len M a)) q4.2 rfl rfl hd k
  · have ha : 12 ≤ a := so_hi12 h0 (by omega)
    have hat := S.2.1.2.2.1 a ha hz
    rw [am_len_hi M (Nat.lt_of_lt_of_le (Nat.succ_pos 11) ha)] at k
    by_cases h1 : sh_t a = 1
    · rw [so_e1 h1] at hat
      have hc : H[so_ad G a]? = some (arrV (G.2.2.2.1 1) (sh_n a) (fun j => .int (M.1 a j))) := hat
      exact W.alen F.1 F.2.1 hc ((F.2.2.2.2.2.1.1.2 1 _ (so_tys G 1 (by omega))).1 _ _) (n := nI (sh_n a)) (by rw [arrV_size]; rfl) rfl rfl hd k
    by_cases h2 : sh_t a = 2
    · rw [so_e2 h2] at hat
      have hc : H[so_ad G a]? = some (arrV (G.2.2.2.1 2) (sh_n a) (fun j => .long (M.2.1 a j))) := hat
      exact W.alen F.1 F.2.1 hc ((F.2.2.2.2.2.1.1.2 2 _ (so_tys G 2 (by omega))).1 _ _) (n := nI (sh_n a)) (by rw [arrV_size]; rfl) rfl rfl hd k
    · rw [so_eq (t := sh_t a) rfl (by omega) h5] at hat
      have hc : H[so_ad G a]? = some (arrV (G.2.2.2.1 (sh_t a)) (sh_n a) (fun j => va_rf (so_q G (M.2.2.1 a j)))) := hat
      exact W.alen F.1 F.2.1 hc ((F.2.2.2.2.2.1.1.2 _ _ (so_tys G (sh_t a) (by omega))).1 _ _) (n := nI (sh_n a)) (by rw [arrV_size]; rfl) rfl rfl hd k
theorem so_locs {locs : List Loc} (h : ∀ q ∈ locs, G.1 ≤ q.base) {a j : Nat} (ha : 12 ≤ a) : ∀ q ∈ locs ++ [⟨so_ad G a, j⟩], G.1 ≤ q.base := by
  intro q hq
  rcases List.mem_append.mp hq with q1 | q1
  · exact h q q1
  · rw [List.mem_singleton] at q1
    subst q1
    show G.1 ≤ so_ad G a
    rw [so_ad_hi G ha]
    omega
theorem so_iastore (F : so_Fx p s m args meth c cc o nL nm G R z0 s0 zm sm d) (hd : decode cc pc = .ok (.iastore, 1)) (h : am_pi st fun x st => am_pi st fun i st => am_pr st fun a r => am_g (am_ok M a 0 && Nat.ble 12 a) (am_un i < am_len M a ∧ so_X p l e R s m args below meth c Q G nL z0 s0 zm sm (pc + 1) L r (am_sI M (am_sr M.1 a (am_u1 (M.1 a) (am_un i) x))))) : so_X p l e R s m args below meth c Q G nL z0 s0 zm sm pc L st M := by
  obtain ⟨x, st1, rfl, h_1⟩ := am_pi_inv h
  obtain ⟨i, st2, rfl, h_2⟩ := am_pi_inv h_1
  obtain ⟨a, r, rfl, h_3⟩ := am_pr_inv h_2
  obtain ⟨hg, hi, h_4⟩ := am_g_inv h_3
  obtain ⟨hok, h12⟩ := am_bb hg
  have ha : 12 ≤ a := Nat.le_of_ble_eq_true h12
  intro H ls locs cells slots S
  obtain ⟨S1, S2, S3, S4, S5, S6, S7⟩ := S
  obtain ⟨ht, hz⟩ := so_ok_t hok
  have hat := S2.2.2.1 a ha hz
  rw [so_e0 ht] at hat
  have hc : H[so_ad G a]? = some (arrV (G.2.2.2.1 0) (sh_n a) (fun j => .int (M.1 a j))) := hat
  rw [am_len_hi M (Nat.lt_of_lt_of_le (Nat.succ_pos 11) ha)] at hi
  have hl2 := so_len_le a
  obtain ⟨hin, hcl⟩ := so_in hi (by omega)
  refine W.iast F.1 F.2.1 hc ((F.2.2.2.2.2.1.1.2 0 _ (so_tys G 0 (by omega))).1 _ _) (fun q => by cases q) (by rw [arrV_size]; exact hin) rfl rfl hd fun H1 e1 e2 e3 => ?_
  rw [hcl] at e1 ⊢
  refine h_4 H1 ls _ cells slots ⟨S1, S2.upd ha hz (fun r hr => am_sr_ne _ _ hr) (fun _ _ => rfl) (fun _ _ => rfl) rfl e2 e3 ?_, S3, S4, S5, S6, so_locs S7 ha⟩
  rw [so_e0 ht]
  show H1[so_ad G a]? = some (arrV (G.2.2.2.1 0) (sh_n a) (fun j => .int (am_sr M.1 a (am_u1 (M.1 a) (am_un i) x) a j)))
  rw [e1, arrV_store, am_sr_eq, so_updV]
theorem so_bastore (F : so_Fx p s m args meth c cc o nL nm G R z0 s0 zm sm d) (hd : decode cc pc = .ok (.bastore, 1)) (h : am_pi st fun x st => am_pi st fun i st => am_pr st fun a r => am_g (am_ok M a 1 && Nat.ble 12 a && (decide (x = 0) || decide (x = 1))) (am_un i < am_len M a ∧ so_X p l e R s m args below meth c Q G nL z0 s0 zm sm (pc + 1) L r (am_sI M (am_sr M.1 a (am_u1 (M.1 a) (am_un i) x))))) : so_X p l e R s m args below meth c Q G nL z0 s0 zm sm pc L st M := by
  obtain ⟨x, st1, rfl, h_1⟩ := am_pi_inv h
  obtain ⟨i, st2, rfl, h_2⟩ := am_pi_inv h_1
  obtain ⟨a, r, rfl, h_3⟩ := am_pr_inv h_2
  obtain ⟨hg, hi, h_4⟩ := am_g_inv h_3
  obtain ⟨hg, hx⟩ := am_bb hg
  obtain ⟨hok, h12⟩ := am_bb hg
  have ha : 12 ≤ a := Nat.le_of_ble_eq_true h12
  have hn : narrow .boolean (.int x) = .int x := by
    rcases (Bool.or_eq_true _ _).mp hx with q | q
    · rw [of_decide_eq_true q]; rfl
    · rw [of_decide_eq_true q]; rfl
  intro H ls locs cells slots S
  obtain ⟨S1, S2, S3, S4, S5, S6, S7⟩ := S
  obtain ⟨ht, hz⟩ := so_ok_t hok
  have hat := S2.2.2.1 a ha hz
  rw [so_e1 ht] at hat
  have hc : H[so_ad G a]? = some (arrV (G.2.2.2.1 1) (sh_n a) (fun j => .int (M.1 a j))) := hat
  rw [am_len_hi M (Nat.lt_of_lt_of_le (Nat.succ_pos 11) ha)] at hi
  have hl2 := so_len_le a
  obtain ⟨hin, hcl⟩ := so_in hi (by omega)
  refine W.zast F.1 F.2.1 hc ((F.2.2.2.2.2.1.1.2 1 _ (so_tys G 1 (by omega))).1 _ _) (fun q => by cases q) (by rw [arrV_size]; exact hin) rfl rfl hd fun H1 e1 e2 e3 => ?_
  rw [hcl, hn] at e1
  rw [hcl]
  refine h_4 H1 ls _ cells slots ⟨S1, S2.upd ha hz (fun r hr => am_sr_ne _ _ hr) (fun _ _ => rfl) (fun _ _ => rfl) rfl e2 e3 ?_, S3, S4, S5, S6, so_locs S7 ha⟩
  rw [so_e1 ht]
  show H1[so_ad G a]? = some (arrV (G.2.2.2.1 1) (sh_n a) (fun j => .int (am_sr M.1 a (am_u1 (M.1 a) (am_un i) x) a j)))
  rw [e1, arrV_store, am_sr_eq, so_updV]
theorem so_lastore (F : so_Fx p s m args meth c cc o nL nm G R z0 s0 zm sm d) (hd : decode cc pc = .ok (.lastore, 1)) (h : am_pl st fun x st => am_pi st fun i st => am_pr st fun a r => am_g (am_ok M a 2 && Nat.ble 12 a) (am_un i < am_len M a ∧ so_X p l e R s m args below meth c Q G nL z0 s0 zm sm (pc + 1) L r (am_sL M (am_sr M.2.1 a (am_u1 (M.2.1 a) (am_un i) x))))) : so_X p l e R s m args below meth c Q G nL z0 s0 zm sm pc L st M := by
  obtain ⟨x, st1, rfl, h_1⟩ := am_pl_inv h
  obtain ⟨i, st2, rfl, h_2⟩ := am_pi_inv h_1
  obtain ⟨a, r, rfl, h_3⟩ := am_pr_inv h_2
  obtain ⟨hg, hi, h_4⟩ := am_g_inv h_3
  obtain ⟨hok, h12⟩ := am_bb hg
  have ha : 12 ≤ a := Nat.le_of_ble_eq_true h12
  intro H ls locs cells slots S
  obtain ⟨S1, S2, S3, S4, S5, S6, S7⟩ := S
  obtain ⟨ht, hz⟩ := so_ok_t hok
  have hat := S2.2.2.1 a ha hz
  rw [so_e2 ht] at hat
  have hc : H[so_ad G a]? = some (arrV (G.2.2.2.1 2) (sh_n a) (fun j => .long (M.2.1 a j))) := hat
  rw [am_len_hi M (Nat.lt_of_lt_of_le (Nat.succ_pos 11) ha)] at hi
  have hl2 := so_len_le a
  obtain ⟨hin, hcl⟩ := so_in hi (by omega)
  refine W.last F.1 F.2.1 hc ((F.2.2.2.2.2.1.1.2 2 _ (so_tys G 2 (by omega))).1 _ _) (fun q => by cases q) (by rw [arrV_size]; exact hin) rfl rfl hd fun H1 e1 e2 e3 => ?_
  rw [hcl] at e1 ⊢
  refine h_4 H1 ls _ cells slots ⟨S1, S2.upd ha hz (fun _ _ => rfl) (fun r hr => am_sr_ne _ _ hr) (fun _ _ => rfl) rfl e2 e3 ?_, S3, S4, S5, S6, so_locs S7 ha⟩
  rw [so_e2 ht]
  show H1[so_ad G a]? = some (arrV (G.2.2.2.1 2) (sh_n a) (fun j => .long (am_sr M.2.1 a (am_u1 (M.2.1 a) (am_un i) x) a j)))
  rw [e1, arrV_store, am_sr_eq, so_updV]
theorem so_aastore (F : so_Fx p s m args meth c cc o nL nm G R z0 s0 zm sm d) (hd : decode cc pc = .ok (.aastore, 1)) (h : am_pr st fun b st => am_pi st fun i st => am_pr st fun a r => am_g (am_ok M a 5 && Nat.ble 12 a && am_ok M b 16 && Nat.ble 12 b) (am_un i < am_len M a ∧ so_X p l e R s m args below meth c Q G nL z0 s0 zm sm (pc + 1) L r (am_sR M (am_sr M.2.2.1 a (am_u1 (M.2.2.1 a) (am_un i) (some b)))))) : so_X p l e R s m args below meth c Q G nL z0 s0 zm sm pc L st M := by
  obtain ⟨b, st1, rfl, h_1⟩ := am_pr_inv h
  obtain ⟨i, st2, rfl, h_2⟩ := am_pi_inv h_1
  obtain ⟨a, r, rfl, h_3⟩ := am_pr_inv h_2
  obtain ⟨hg, hi, h_4⟩ := am_g_inv h_3
  obtain ⟨hg, hb12⟩ := am_bb hg
  obtain ⟨hg, hbk⟩ := am_bb hg
  obtain ⟨hok, h12⟩ := am_bb hg
  have ha : 12 ≤ a := Nat.le_of_ble_eq_true h12
  have hb : 12 ≤ b := Nat.le_of_ble_eq_true hb12
  intro H ls locs cells slots S
  obtain ⟨S1, S2, S3, S4, S5, S6, S7⟩ := S
  obtain ⟨ht, hz⟩ := so_ok_t hok
  obtain ⟨htb, hzb⟩ := so_ok_t hbk
  have hat := S2.2.2.1 a ha hz
  rw [so_eq ht (by omega) (by omega)] at hat
  have hc : H[so_ad G a]? = some (arrV (G.2.2.2.1 5) (sh_n a) (fun j => va_rf (so_q G (M.2.2.1 a j)))) := hat
  have hatb := S2.2.2.1 b hb hzb
  rw [so_eo (c := 6) htb] at hatb
  obtain ⟨r', hr', cellV, g1, g2, g3, -⟩ := hatb
  cases Option.some.inj (hr'.symm.trans (show vwCl[6]? = some (RX7, TX7, 3) from rfl))
  rw [am_len_hi M (Nat.lt_of_lt_of_le (Nat.succ_pos 11) ha)] at hi
  have hl2 := so_len_le a
  obtain ⟨hin, hcl⟩ := so_in hi (by omega)
  have hcls := (F.2.2.2.2.2.1.1.1 6 _ (show vwCl[6]? = some (RX7, TX7, 3) from rfl)).2
  obtain ⟨kA, comp, k1, k2, k3, -⟩ := (F.2.2.2.2.2.1.1.2 5 _ (so_tys G 5 (by omega))).2
  have hcomp : comp = G.2.2.1.1 6 := Option.some.inj (k3.symm.trans hcls.1)
  subst hcomp
  obtain ⟨kC, hkC, -⟩ := id hcls.2
  refine W.aast F.1 F.2.1 hc (fun q h => by cases h) (fun h => by cases h) k1 k2 rfl hkC ⟨fun q => hin (Or.inl q), by rw [arrV_size, hcl]; exact hi⟩ g1 (fun q h => by rw [g3] at h; cases h) (by rw [g2]; exact hkC) (by rw [g2]; exact va_assign hcls) rfl rfl hd fun H1 e1 e2 e3 => ?_
  rw [hcl] at e1 ⊢
  refine h_4 H1 ls _ cells slots ⟨S1, S2.upd ha hz (fun _ _ => rfl) (fun _ _ => rfl) (fun r hr => am_sr_ne _ _ hr) rfl e2 e3 ?_, S3, S4, S5, S6, so_locs S7 ha⟩
  rw [so_eq ht (by omega) (by omega)]
  show H1[so_ad G a]? = some (arrV (G.2.2.2.1 5) (sh_n a) (fun j => va_rf (so_q G (am_sr M.2.2.1 a (am_u1 (M.2.2.1 a) (am_un i) (some b)) a j))))
  rw [e1, arrV_store, am_sr_eq]
  exact congrArg (fun f => some (arrV (G.2.2.2.1 5) (sh_n a) f)) (so_updV (fun q => va_rf (so_q G q)) (M.2.2.1 a) (am_un i) (some b))
end SO
