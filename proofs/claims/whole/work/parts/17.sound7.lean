/-! SOUNDNESS, VII: calls -/
def so_B (G : so_G) (M : am_M) (U : State) : Prop := so_K G U ∧ so_H G U M U.heap
def so_Q (G : so_G) (mc ms : Nat) (M : am_M) (Q : Option Value → am_M → Prop) : Array Value → State → Outcome → State → Prop := fun _ _ oc t => ∃ (v : Option Value) (M' : am_M), oc = .returned (v.map (so_v G)) ∧ Q v M' ∧ M'.2.2.2.1 = M.2.2.2.1 + mc ∧ M'.2.2.2.2.1 = M.2.2.2.2.1 + ms ∧ so_H G t M' t.heap
def so_ws (k : Nat) : List Jvm.Cond := .code (ml_y k) (ml_b k) (am_mL k) (ml_r k) :: lw_tbg
def so_rm (d k : Nat) : Room := { frames := d + 5, cells := (am_mt k).2.2.2.1, slots := (am_mt k).2.2.2.2, locals := 40 * d + 200 }
/-- a relation of calls is sound: each is a contract of the method -/
def so_C (l : Launch) (G : so_G) (d : Nat) (C : am_C) : Prop := ∀ (k : Nat) (as : List Value) (M : am_M) (Q : Option Value → am_M → Prop), k < 257 → C k as M Q → Met l (ml_y k) (so_ws k) (so_rm d k) (va_Pc (as.map (so_v G)) (so_B G M)) (so_Q G (am_mt k).2.2.2.1 (am_mt k).2.2.2.2 M Q) (am_mt k).2.2.2.1 (am_mt k).2.2.2.2 (fun q => G.1 ≤ q)
theorem so_B.blind {G : so_G} {M : am_M} {as : List Value} : FrameBlind (va_Pc as (so_B G M)) := fun a U g mk h => by
  obtain ⟨h1, h2, h3⟩ := h
  exact ⟨h1, so_K.same (u := U) (U := U.calling g mk a) rfl h2, so_H.moved (u := U) (U := U.calling g mk a) (Vm.Alike.refl U.vm) h3⟩
theorem so_B.pre {G : so_G} {M : am_M} {s U : State} {H : Heap} (hK : so_K G s) (hH : so_H G s M H) (hU : U.heap = H) (hW : s.WarmedH U.vm) : so_B G M U := ⟨so_K.warm hW hK, by rw [hU]; exact hH.moved hW.alike⟩
theorem so_mlok {k : Nat} (h : k < 257) : (.code (ml_y k) (ml_b k) (am_mL k) (ml_r k) : Jvm.Cond) ∈ lw_tbg ∧ ((cond (ml_s k) (.static (ml_y k)) (.instanceMethod (ml_y k))) : Jvm.Cond) ∈ lw_tbg ∧ (ml_s k = true ∨ (ml_y k).name = "<init>" ∨ (.selects (ml_y k).cls (ml_y k) (ml_y k) : Jvm.Cond) ∈ lw_tbg) ∧ (.initialized (ml_y k).cls : Jvm.Cond) ∈ lw_tbg ∧ ((ml_y k).cls ≠ "java/lang/invoke/MethodHandle" ∧ (ml_y k).cls ≠ "java/lang/invoke/VarHandle") ∧ plainFor (ml_y k) = true ∧ ((parseMethodDescriptor (ml_y k).desc).map fun d => d.parameters.length + cond (ml_s k) 0 1) = some (am_mt k).1 ∧ (ml_y k).cls = cl_R (ml_o k) ∧ am_mL k ≤ 21 ∧ ((am_mt k).2.1 = match ml_r k with | none => 0 | some .long => 2 | some .int => 1 | some .boolean => 1 | _ => 3) ∧ (ml_s k = true ∨ (am_mt k).2.2.1 = ml_o k + 1) ∧ (ml_s k = true ∨ ml_o k < 10) ∧ am_bz k = decide (ml_r k = some .boolean) := by
  have h0 := ml_ok_all h
  unfold ml_ok at h0
  simp only [Bool.and_eq_true, Bool.or_eq_true, decide_eq_true_eq] at h0
  obtain ⟨⟨⟨⟨⟨⟨⟨⟨⟨⟨⟨⟨⟨⟨a1, a2⟩, a3⟩, a4⟩, a5⟩, a6⟩, a7⟩, a8⟩, a9⟩, a10⟩, a11⟩, a12⟩, a13⟩, a14⟩, -⟩ := h0
  refine ⟨lw_is_in a1, ?_, ?_, lw_is_in a4, ⟨a5, a6⟩, a7, a8, a9, Nat.le_of_ble_eq_true a10, a11, ?_, ?_, a13⟩
  · exact lw_is_in a2
  · rcases a3 with (a3 | a3) | a3
    · exact Or.inl a3
    · exact Or.inr (Or.inl a3)
    · exact Or.inr (Or.inr (lw_is_in a3))
  · rcases a12 with q | q
    · exact Or.inl q
    · exact Or.inr (Nat.eq_of_beq_eq_true q)
  · rcases a14 with q | q
    · exact Or.inl q
    · exact Or.inr (Nat.le_of_ble_eq_true q)
theorem am_aft_to {rk : Nat} {v : Option Value} {f : List Value → Prop} (h : am_aft rk v f) : f v.toList := by
  unfold am_aft at h
  split at h
  · obtain ⟨h1, h2⟩ := h; subst h1; exact h2
  · obtain ⟨x, h1, h2⟩ := h; subst h1; exact h2
  · obtain ⟨x, h1, h2⟩ := h; subst h1; exact h2
  · obtain ⟨x, h1, h2⟩ := h; subst h1; exact h2
theorem so_goodws {ws : List Jvm.Cond} {k : Nat} (hk : k < 257) (h : ∀ w ∈ ws, w ∈ lw_tbg) : GoodIn lw_tbg (ws ++ so_ws k) := fun w hw => by
  rcases List.mem_append.mp hw with hw | hw
  · exact lw_tbg_good w (h w hw)
  · rcases List.mem_cons.mp hw with hw | hw
    · rw [hw]; exact lw_tbg_good _ (so_mlok hk).1
    · exact lw_tbg_good w hw
theorem so_pm {o : Nat} (ho : o < 15) {i k x nst : Nat} (hx : (i, k, x, nst) ∈ pl_m o) : k < 257 ∧ ((nst = 0 ∧ (.methodLink (cl_R o) i (ml_y k) : Jvm.Cond) ∈ lw_tbg) ∨ (nst ≠ 0 ∧ ∃ q ∈ lw_nest, q.2 = .methodLinkNest (cl_R o) i (ml_y k) "EightBlocks")) := by
  have h1 := List.all_eq_true.mp (lk_all15 pm_ok ho) _ hx
  obtain ⟨h1, h2⟩ := am_bb h1
  refine ⟨Nat.le_of_ble_eq_true h1, ?_⟩
  cases hb : Nat.beq nst 0 with
  | true =>
    have h3 : cond (Nat.beq nst 0) _ _ = true := h2
    rw [hb] at h3
    exact Or.inl ⟨Nat.eq_of_beq_eq_true hb, lw_is_in h3⟩
  | false =>
    have h3 : cond (Nat.beq nst 0) _ _ = true := h2
    rw [hb] at h3
    obtain ⟨q, h4, h5⟩ := List.any_eq_true.mp h3
    exact Or.inr ⟨(fun e => by rw [e] at hb; cases hb), q, h4, of_decide_eq_true h5⟩
theorem am_ms_all : (List.range 257).all (fun k => (!Nat.beq (am_mt k).2.2.2.1 0 || Nat.beq (am_mt k).2.2.2.2 0) && (ml_s k || !decide ((ml_y k).name = "<init>") || !Nat.beq (am_mt k).2.2.2.1 0)) = true := by decide +kernel
theorem am_ms_st : (List.range 257).all (fun k => cond (ml_s k) (Nat.beq (am_mt k).2.2.1 0) true) = true := by decide +kernel
theorem am_ms0 {k : Nat} (hk : k < 257) (h : (am_mt k).2.2.2.1 = 0) : (am_mt k).2.2.2.2 = 0 := by
  have h1 := (am_bb (List.all_eq_true.mp am_ms_all k (List.mem_range.mpr hk))).1
  rw [h] at h1
  exact Nat.eq_of_beq_eq_true h1
theorem so_ninit {k : Nat} (hk : k < 257) (h1 : Nat.ble 1 (am_mt k).2.2.1 = true) (h2 : (ml_y k).name = "<init>") : (am_mt k).2.2.2.1 ≠ 0 := fun h3 => by
  have h4 := (am_bb (List.all_eq_true.mp am_ms_all k (List.mem_range.mpr hk))).2
  rw [h2, h3] at h4
  have h5 : ml_s k = true := by
    cases q : ml_s k with
    | true => rfl
    | false => rw [q] at h4; simp at h4
  have h6 := List.all_eq_true.mp am_ms_st k (List.mem_range.mpr hk)
  rw [h5] at h6
  have h7 : (am_mt k).2.2.1 = 0 := Nat.eq_of_beq_eq_true h6
  rw [h7] at h1
  cases h1
theorem lk_any4 {l : List (Nat × Nat × Nat × Nat)} {i q : Nat} (h : (l.any fun e => Nat.beq e.1 i && Nat.beq e.2.1 q && Nat.beq e.2.2.2 0) = true) : ∃ x, (i, q, x, 0) ∈ l := by
  obtain ⟨⟨a, b, x, y⟩, h1, h2⟩ := List.any_eq_true.mp h
  obtain ⟨h2, h5⟩ := am_bb h2
  obtain ⟨h3, h4⟩ := am_bb h2
  cases Nat.eq_of_beq_eq_true h3
  cases Nat.eq_of_beq_eq_true h4
  cases Nat.eq_of_beq_eq_true h5
  exact ⟨x, h1⟩
theorem lk_any3 {l : List (Nat × Nat × Nat × Nat)} {i q : Nat} (h : (l.any fun e => Nat.beq e.1 i && Nat.beq e.2.1 q) = true) : ∃ x y, (i, q, x, y) ∈ l := by
  obtain ⟨⟨a, b, x, y⟩, h1, h2⟩ := List.any_eq_true.mp h
  obtain ⟨h3, h4⟩ := am_bb h2
  cases Nat.eq_of_beq_eq_true h3
  cases Nat.eq_of_beq_eq_true h4
  exact ⟨x, y, h1⟩
section SO
variable {p : Program} {l : Launch} {e : Env} {R : Room} {s : State} {m : MethodId} {args : Array Value} {below : List Frame} {meth : Method} {c : Code} {Q : State → Prop}
variable {cc : ByteArray} {G : so_G} {o nL z0 s0 zm sm d : Nat} {nm : String} {pc : Nat} {L : am_L} {st : List Value} {M : am_M}
theorem so_run {mc ms : Nat} {H : Heap} {ls : Array Slot} {locs : List Loc} {cells slots rk : Nat} {r st0 : List Value} {a : Array Value} {Q' : Option Value → am_M → Prop} (hrun : va_Run p l e R s m args below meth c H locs cells slots mc ms (F0 m pc ls st0) (r.map (so_v G)) (so_Q G mc ms M Q' a) (fun q => G.1 ≤ q)) (S : so_S G nL z0 s0 zm sm s L M H ls locs cells slots) (hz : M.2.2.2.1 + mc ≤ zm ∧ M.2.2.2.2.1 + ms ≤ sm)
    (hQ : ∀ v M', Q' v M' → am_aft rk v fun w => so_X p l e R s m args below meth c Q G nL z0 s0 zm sm (pc + 3) L (w ++ r) M') : W p l e R s m args below meth c H locs cells slots Q (F0 m pc ls st0) := by
  intro T hT X
  obtain ⟨v, st₀, t, T', Lc, h0, X', hL, e1, e2, ⟨v', M', hv, hQ', hz1, hs1, hH⟩, stp⟩ := hrun T hT X
  cases hv
  obtain ⟨S1, S2, S3, S4, S5, S6, S7⟩ := S
  have hal : t.vm.Alike s.vm := by rw [← e2]; exact X'.warmed.alike.symm
  have k := am_aft_to (hQ v' M' hQ') T'.heap ls (locs ++ Lc) (cells + mc) (slots + ms) ⟨S1, by rw [e1]; exact hH.moved hal, by omega, by omega, by omega, by omega, fun q hq => by
    rcases List.mem_append.mp hq with h | h
    · exact S7 q h
    · exact hL q h⟩
  rw [show (v'.toList ++ r).map (so_v G) = (v'.map (so_v G)).toList ++ r.map (so_v G) by cases v' <;> rfl] at k
  obtain ⟨t2, a1, b1⟩ := k T' rfl X'
  exact ⟨t2, stp t2 a1, b1⟩
theorem so_invstatic (F : so_Fx p s m args meth c cc o nL nm G R z0 s0 zm sm d) {C : am_C} (hC : so_C l G d C) {k ln : Nat} {orig : Instr} {rt : Option FieldType} (hk : lkB o nm rt pc (.invokestatic k) ln orig = true) (hd : decode cc pc = .ok (orig, ln))
    (h : am_pop (am_mt k).1 st [] fun as r => am_g (Nat.ble (am_cs r) 8) (C k as M fun v M' => am_aft (am_mt k).2.1 v fun w => so_X p l e R s m args below meth c Q G nL z0 s0 zm sm (pc + ln) L (w ++ r) M')) : so_X p l e R s m args below meth c Q G nL z0 s0 zm sm pc L st M := by
  obtain ⟨as, r, rfl, hn, h_1⟩ := am_pop_inv _ h
  rw [List.append_nil] at h_1
  obtain ⟨hg, h_2⟩ := am_g_inv h_1
  have h8 : am_cs r ≤ 8 := Nat.le_of_ble_eq_true hg
  dsimp only [lkB] at hk
  split at hk
  · rename_i i
    obtain ⟨hk, k4⟩ := am_bb hk
    obtain ⟨hk, k3⟩ := am_bb hk
    obtain ⟨k1, k2⟩ := am_bb hk
    cases Nat.eq_of_beq_eq_true k1
    have hmc := Nat.eq_of_beq_eq_true k4
    obtain ⟨x, nst, hx⟩ := lk_any3 k2
    obtain ⟨hk258, hlink⟩ := so_pm F.2.2.2.2.2.2.2.2.2.2.2 hx
    obtain ⟨b1, b2, b3, b4, b5, b6, b7, b8, b9, b10, b11, b12, b13⟩ := so_mlok hk258
    rw [k3] at b2 b7
    have hM := hC k as M _ hk258 h_2
    have hr := F.2.2.2.2.2.2.2.2.2
    have hR : (so_rm d k).frames + 1 ≤ R.frames ∧ 8 + (am_mL k + 11) + (so_rm d k).locals ≤ R.locals := ⟨hr.1, by show 8 + (am_mL k + 11) + (40 * d + 200) ≤ _; omega⟩
    have hms : (am_mt k).2.2.2.2 = 0 := am_ms0 hk258 hmc
    intro H ls locs cells slots S
    have hcell : cells + (am_mt k).2.2.2.1 ≤ R.cells ∧ slots + (am_mt k).2.2.2.2 ≤ R.slots := by
      obtain ⟨S1, S2, S3, S4, S5, S6, S7⟩ := S
      have := F.2.2.2.2.2.2.2.1
      have := F.2.2.2.2.2.2.2.2.1
      omega
    have hlen : (as.map (so_v G)).length = (am_mt k).1 := by rw [List.length_map, hn]
    have hst : (as.reverse ++ r).map (so_v G) = (as.map (so_v G)).reverse ++ r.map (so_v G) := by rw [List.map_append, List.map_reverse]
    have hz : M.2.2.2.1 + (am_mt k).2.2.2.1 ≤ zm ∧ M.2.2.2.2.1 + (am_mt k).2.2.2.2 ≤ sm := by rw [hmc, hms]; exact ⟨S.2.2.2.2.1, S.2.2.2.2.2.1⟩
    have hp : PreS s H (va_Pc (as.map (so_v G)) (so_B G M)) (as.map (so_v G)) := ⟨so_B.blind, fun U hU hW => ⟨rfl, so_B.pre F.2.2.2.2.2.1 S.2.1 hU hW⟩⟩
    have hdesc : (parseMethodDescriptor (ml_y k).desc).map (fun d => d.parameters.length) = some (am_mt k).1 := b7
    have hWd : 2 * (F0 m pc ls ((as.reverse ++ r).map (so_v G))).monitorRoom + ((r.map (so_v G)).map fun v => v.category).sum ≤ 8 := by rw [am_cs_eq]; show 2 * 0 + _ ≤ 8; omega
    rcases hlink with ⟨-, hlink⟩ | ⟨hn0, q, hq, hlink⟩
    · refine so_run (va_runS (Ts := lw_tbg) (own := cl_R o) (As := as.map (so_v G)) ⟨F.1, F.2.1, F.2.2.1, F.2.2.2.1, F.2.2.2.2.1⟩ hM (va_cwS (bytes := ml_b k) (maxL := am_mL k) (ret := ml_r k) (am_mt k).1 F.2.2.2.2.1 (so_goodws hk258 (ws := [.methodLink (cl_R o) i (ml_y k), .static (ml_y k), .initialized (ml_y k).cls]) (fun w hw => ?_)) rfl rfl rfl ⟨b5.1, b5.2, hdesc⟩ hR) hp rfl hlen S.1.1 hst hWd hd hcell) S hz (fun v M' q => q)
      rcases List.mem_cons.mp hw with hw | hw
      · rw [hw]; exact hlink
      rcases List.mem_cons.mp hw with hw | hw
      · rw [hw]; exact b2
      rcases List.mem_cons.mp hw with hw | hw
      · rw [hw]; exact b4
      cases hw
    · have hnw := F.2.2.2.2.2.1.2.2.2.2.1 q hq
      rw [hlink] at hnw
      exact so_run (va_runSN (Ts := lw_tbg) (own := cl_R o) (As := as.map (so_v G)) ⟨F.1, F.2.1, F.2.2.1, F.2.2.2.1, F.2.2.2.2.1⟩ hM ⟨va_cnB (bytes := ml_b k) (maxL := am_mL k) (ret := ml_r k) (am_mt k).1 F.2.2.2.2.1 (so_goodws (ws := []) hk258 (fun w hw => by cases hw)) rfl rfl rfl hnw (F.2.2.2.2.1 _ b4) ⟨b5.1, b5.2, hdesc⟩ hR, F.2.2.2.2.1 _ b2, trivial⟩ hp rfl hlen S.1.1 hst hWd hd hcell) S hz (fun v M' q => q)
  · cases hk
theorem so_recv {H : Heap} {a ci : Nat} (hci : ci < 10) (hK : so_K G s) (hH : so_H G s M H) (hok : am_ok M a (10 + ci) = true) (ha : 12 ≤ a) : ∃ cellB : Cell, H[so_ad G a]? = some cellB ∧ cellB.vm.isStatics = false ∧ s.vm.findClass (cl_R ci) = some cellB.cls := by
  obtain ⟨ht, hz⟩ := so_ok_t hok
  have hat := hH.2.2.1 a ha hz
  rw [so_eo ht] at hat
  obtain ⟨r0, h1, cell, q1, q2, q3, q4⟩ := hat
  have hvw := cl_vw ci hci
  have hr : r0 = (cl_R ci, cl_T ci, cl_N ci) := Option.some.inj (h1.symm.trans hvw)
  subst hr
  exact ⟨cell, q1, by rw [q3]; rfl, by rw [q2]; exact (hK.1.1 ci _ hvw).2.1⟩
theorem so_invvirtual (F : so_Fx p s m args meth c cc o nL nm G R z0 s0 zm sm d) {C : am_C} (hC : so_C l G d C) {k ln : Nat} {orig : Instr} {rt : Option FieldType} (hk : lkB o nm rt pc (.invokevirtual k) ln orig = true) (hd : decode cc pc = .ok (orig, ln))
    (h : am_pop (am_mt k).1 st [] fun as r => am_pr as fun a _ => am_g (am_ok M a (9 + (am_mt k).2.2.1) && Nat.ble 12 a && Nat.ble (am_cs r) 8) (C k as M fun v M' => am_aft (am_mt k).2.1 v fun w => so_X p l e R s m args below meth c Q G nL z0 s0 zm sm (pc + ln) L (w ++ r) M')) : so_X p l e R s m args below meth c Q G nL z0 s0 zm sm pc L st M := by
  obtain ⟨as, r, rfl, hn, h_1⟩ := am_pop_inv _ h
  rw [List.append_nil] at h_1
  obtain ⟨a, as1, rfl, h_2⟩ := am_pr_inv h_1
  obtain ⟨hg, h_3⟩ := am_g_inv h_2
  obtain ⟨hg, g3⟩ := am_bb hg
  obtain ⟨hok, g2⟩ := am_bb hg
  have h8 : am_cs r ≤ 8 := Nat.le_of_ble_eq_true g3
  have ha : 12 ≤ a := Nat.le_of_ble_eq_true g2
  dsimp only [lkB] at hk
  split at hk
  · rename_i i
    obtain ⟨hk, k5⟩ := am_bb hk
    obtain ⟨hk, k4⟩ := am_bb hk
    obtain ⟨hk, k3⟩ := am_bb hk
    obtain ⟨k1, k2⟩ := am_bb hk
    cases Nat.eq_of_beq_eq_true k1
    have hmc := Nat.eq_of_beq_eq_true k4
    obtain ⟨x, hx⟩ := lk_any4 k2
    obtain ⟨hk258, hlink⟩ := so_pm F.2.2.2.2.2.2.2.2.2.2.2 hx
    obtain ⟨b1, b2, b3, b4, b5, b6, b7, b8, b9, b10, b11, b12, b13⟩ := so_mlok hk258
    have hs0 : ml_s k = false := by cases q : ml_s k; rfl; rw [q] at k3; cases k3
    rw [hs0] at b2 b7 b3 b11 b12
    have b11 := b11.resolve_left (by decide)
    have b12 := b12.resolve_left (by decide)
    rw [b11, show 9 + (ml_o k + 1) = 10 + ml_o k by omega] at hok
    have hM := hC k _ M _ hk258 h_3
    have hr := F.2.2.2.2.2.2.2.2.2
    have hR : (so_rm d k).frames + 1 ≤ R.frames ∧ 8 + (am_mL k + 11) + (so_rm d k).locals ≤ R.locals := ⟨hr.1, by show 8 + (am_mL k + 11) + (40 * d + 200) ≤ _; omega⟩
    have hms : (am_mt k).2.2.2.2 = 0 := am_ms0 hk258 hmc
    intro H ls locs cells slots S
    have hcell : cells + (am_mt k).2.2.2.1 ≤ R.cells ∧ slots + (am_mt k).2.2.2.2 ≤ R.slots := by
      obtain ⟨S1, S2, S3, S4, S5, S6, S7⟩ := S
      have := F.2.2.2.2.2.2.2.1
      have := F.2.2.2.2.2.2.2.2.1
      omega
    have hst : ((Value.ref a :: as1).reverse ++ r).map (so_v G) = (as1.map (so_v G)).reverse ++ .ref (so_ad G a) :: r.map (so_v G) := by
      rw [List.reverse_cons, List.append_assoc, List.map_append, List.map_reverse]
      rfl
    have hz : M.2.2.2.1 + (am_mt k).2.2.2.1 ≤ zm ∧ M.2.2.2.2.1 + (am_mt k).2.2.2.2 ≤ sm := by rw [hmc, hms]; exact ⟨S.2.2.2.2.1, S.2.2.2.2.2.1⟩
    have hp : PreV s H (ml_y k).cls (so_ad G a) (va_Pc ((Value.ref a :: as1).map (so_v G)) (so_B G M)) (as1.map (so_v G)) := ⟨so_B.blind, by rw [b8]; exact so_recv b12 F.2.2.2.2.2.1 S.2.1 hok ha, fun U hU hW => ⟨rfl, so_B.pre F.2.2.2.2.2.1 S.2.1 hU hW⟩⟩
    have hlen2 : as1.length + 1 = (am_mt k).1 := by rw [← hn]; rfl
    have hdesc : (parseMethodDescriptor (ml_y k).desc).map (fun d => d.parameters.length) = some as1.length := by
      cases hq : parseMethodDescriptor (ml_y k).desc with
      | none => rw [hq] at b7; cases b7
      | some dd =>
        rw [hq] at b7
        have h9 : dd.parameters.length + 1 = (am_mt k).1 := Option.some.inj b7
        show some dd.parameters.length = some as1.length
        congr 1
        omega
    have hWd : 2 * (F0 m pc ls (((Value.ref a :: as1).reverse ++ r).map (so_v G))).monitorRoom + ((r.map (so_v G)).map fun v => v.category).sum ≤ 8 := by rw [am_cs_eq]; show 2 * 0 + _ ≤ 8; omega
    rcases hlink with ⟨-, hlink⟩ | ⟨hn0, q, hq, hlink⟩
    · rcases b3 with b3 | b3 | b3
      · cases b3
      · exact absurd (so_ninit hk258 k5 b3) (by rw [hmc]; decide)
      refine so_run (va_runV (Ts := lw_tbg) (own := cl_R o) (As := as1.map (so_v G)) ⟨F.1, F.2.1, F.2.2.1, F.2.2.2.1, F.2.2.2.2.1⟩ hM (cwV (C := (ml_y k).cls) (bytes := ml_b k) (maxL := am_mL k) (ret := ml_r k) as1.length F.2.2.2.2.1 (so_goodws hk258 (ws := [.methodLink (cl_R o) i (ml_y k), .instanceMethod (ml_y k), .selects (ml_y k).cls (ml_y k) (ml_y k), .initialized (ml_y k).cls]) (fun w hw => ?_)) rfl rfl rfl ⟨rfl, b5.1, b5.2, hdesc⟩ hR) hp rfl (List.length_map _) S.1.1 hst hWd hd hcell) S hz (fun v M' q => q)
      rcases List.mem_cons.mp hw with hw | hw
      · rw [hw]; exact hlink
      rcases List.mem_cons.mp hw with hw | hw
      · rw [hw]; exact b2
      rcases List.mem_cons.mp hw with hw | hw
      · rw [hw]; exact b3
      rcases List.mem_cons.mp hw with hw | hw
      · rw [hw]; exact b4
      cases hw
    · exact absurd rfl hn0
  · cases hk
theorem so_invspecial (F : so_Fx p s m args meth c cc o nL nm G R z0 s0 zm sm d) {C : am_C} (hC : so_C l G d C) {k ln : Nat} {orig : Instr} {rt : Option FieldType} (hk : lkB o nm rt pc (.invokespecial k) ln orig = true) (hd : decode cc pc = .ok (orig, ln))
    (h : am_pop (am_mt k).1 st [] fun as r => am_pr as fun _ _ => am_g (Nat.ble (am_cs r) 8) ((M.2.2.2.1 + (am_mt k).2.2.2.1 ≤ zm ∧ M.2.2.2.2.1 + (am_mt k).2.2.2.2 ≤ sm) ∧ C k as M fun v M' => am_aft (am_mt k).2.1 v fun w => so_X p l e R s m args below meth c Q G nL z0 s0 zm sm (pc + ln) L (w ++ r) M')) : so_X p l e R s m args below meth c Q G nL z0 s0 zm sm pc L st M := by
  obtain ⟨as, r, rfl, hn, h_1⟩ := am_pop_inv _ h
  rw [List.append_nil] at h_1
  obtain ⟨a, as1, rfl, h_2⟩ := am_pr_inv h_1
  obtain ⟨g3, hz, h_3⟩ := am_g_inv h_2
  have h8 : am_cs r ≤ 8 := Nat.le_of_ble_eq_true g3
  dsimp only [lkB] at hk
  split at hk
  · rename_i i
    obtain ⟨hk, k5⟩ := am_bb hk
    obtain ⟨hk, k4⟩ := am_bb hk
    obtain ⟨hk, k3⟩ := am_bb hk
    obtain ⟨k1, k2⟩ := am_bb hk
    cases Nat.eq_of_beq_eq_true k1
    have hrk := Nat.eq_of_beq_eq_true k4
    have hnm := of_decide_eq_true k5
    obtain ⟨x, nst, hx⟩ := lk_any3 k2
    obtain ⟨hk258, hlink⟩ := so_pm F.2.2.2.2.2.2.2.2.2.2.2 hx
    obtain ⟨b1, b2, b3, b4, b5, b6, b7, b8, b9, b10, b11, b12, b13⟩ := so_mlok hk258
    have hs0 : ml_s k = false := by cases q : ml_s k; rfl; rw [q] at k3; cases k3
    rw [hs0] at b2 b7
    have hret : ml_r k = none := by
      rw [hrk] at b10
      cases hq : ml_r k with
      | none => rfl
      | some t => rw [hq] at b10; cases t <;> cases b10
    have hM := hC k _ M _ hk258 h_3
    have hr := F.2.2.2.2.2.2.2.2.2
    have hR : (so_rm d k).frames + 1 ≤ R.frames ∧ 8 + (am_mL k + 11) + (so_rm d k).locals ≤ R.locals := ⟨hr.1, by show 8 + (am_mL k + 11) + (40 * d + 200) ≤ _; omega⟩
    intro H ls locs cells slots S
    have hcell : cells + (am_mt k).2.2.2.1 ≤ R.cells ∧ slots + (am_mt k).2.2.2.2 ≤ R.slots := by
      obtain ⟨S1, S2, S3, S4, S5, S6, S7⟩ := S
      have := F.2.2.2.2.2.2.2.1
      have := F.2.2.2.2.2.2.2.2.1
      omega
    have hst : ((Value.ref a :: as1).reverse ++ r).map (so_v G) = (as1.map (so_v G)).reverse ++ .ref (so_ad G a) :: r.map (so_v G) := by
      rw [List.reverse_cons, List.append_assoc, List.map_append, List.map_reverse]
      rfl
    have hp : PreS s H (va_Pc ((Value.ref a :: as1).map (so_v G)) (so_B G M)) (.ref (so_ad G a) :: as1.map (so_v G)) := ⟨so_B.blind, fun U hU hW => ⟨rfl, so_B.pre F.2.2.2.2.2.1 S.2.1 hU hW⟩⟩
    have hlen2 : as1.length + 1 = (am_mt k).1 := by rw [← hn]; rfl
    have hdesc : (parseMethodDescriptor (ml_y k).desc).map (fun d => d.parameters.length) = some as1.length := by
      cases hq : parseMethodDescriptor (ml_y k).desc with
      | none => rw [hq] at b7; cases b7
      | some dd =>
        rw [hq] at b7
        have h9 : dd.parameters.length + 1 = (am_mt k).1 := Option.some.inj b7
        show some dd.parameters.length = some as1.length
        congr 1
        omega
    have hWd : 2 * (F0 m pc ls (((Value.ref a :: as1).reverse ++ r).map (so_v G))).monitorRoom + ((r.map (so_v G)).map fun v => v.category).sum ≤ 8 := by rw [am_cs_eq]; show 2 * 0 + _ ≤ 8; omega
    have hws : so_ws k = Jvm.Cond.code (ml_y k) (ml_b k) (am_mL k) none :: lw_tbg := by unfold so_ws; rw [hret]
    rcases hlink with ⟨-, hlink⟩ | ⟨hn0, q, hq, hlink⟩
    · exact so_run (va_runI (Ts := lw_tbg) (own := cl_R o) (As := as1.map (so_v G)) ⟨F.1, F.2.1, F.2.2.1, F.2.2.2.1, F.2.2.2.2.1⟩ hM (cwI (bytes := ml_b k) (maxL := am_mL k) as1.length F.2.2.2.2.1 (so_goodws (ws := []) hk258 (fun w hw => by cases hw)) hws rfl rfl (F.2.2.2.2.1 _ b4) (F.2.2.2.2.1 _ hlink) (F.2.2.2.2.1 _ b2) hnm ⟨b5.1, b5.2, hdesc⟩ hR) hp rfl (List.length_map _) S.1.1 hst hWd hd hcell) S hz (fun v M' q => q)
    · have hnw := F.2.2.2.2.2.1.2.2.2.2.1 q hq
      rw [hlink] at hnw
      exact so_run (va_runIN (Ts := lw_tbg) (own := cl_R o) (As := as1.map (so_v G)) ⟨F.1, F.2.1, F.2.2.1, F.2.2.2.1, F.2.2.2.2.1⟩ hM ⟨va_cnB (bytes := ml_b k) (maxL := am_mL k) (ret := none) as1.length F.2.2.2.2.1 (so_goodws (ws := []) hk258 (fun w hw => by cases hw)) hws rfl rfl hnw (F.2.2.2.2.1 _ b4) ⟨b5.1, b5.2, hdesc⟩ hR, hnm, F.2.2.2.2.1 _ b2⟩ hp rfl (List.length_map _) S.1.1 hst hWd hd hcell) S hz (fun v M' q => q)
  · cases hk
end SO
