/-! THE LAW'S START: what the abstract machine needs holds there -/
theorem lk_app {o : Nat} {nm : String} {rt : Option FieldType} {bytes : ByteArray} {A B : am_T} (h1 : lk_all o nm rt bytes A = true) (h2 : lk_all o nm rt bytes B = true) : lk_all o nm rt bytes (A ++ B) = true := by
  unfold lk_all at h1 h2 ⊢
  rw [List.all_append, h1, h2]
  rfl
theorem lk_law : lk_all 11 "" (some .boolean) code tb_257 = true := lk_app lk_law_0 (lk_app lk_law_1 (lk_app lk_law_2 (lk_app lk_law_3 (lk_app lk_law_4 (lk_app lk_law_5 (lk_app lk_law_6 (lk_app lk_law_7 (lk_app lk_law_8 (lk_app lk_law_9 (lk_app lk_law_10 (lk_app lk_law_11 (lk_app lk_law_12 (lk_app lk_law_13 lk_law_14)))))))))))))
theorem lkB_nm {o : Nat} {nm nm' : String} {rt : Option FieldType} {pc : Nat} {am : Instr} {ln : Nat} {orig : Instr} (h : ∀ q, am ≠ .putfield q) : lkB o nm rt pc am ln orig = lkB o nm' rt pc am ln orig := by
  cases am <;> first | rfl | exact absurd rfl (h _)
theorem lk_law_np : tb_257.all (fun q => q.2.all fun e => match e.2.1 with | .putfield _ => false | _ => true) = true := by decide +kernel
theorem lk_law_nm (nm : String) : lk_all 11 nm (some .boolean) code tb_257 = true := by
  have h := lk_law
  unfold lk_all at h ⊢
  refine List.all_eq_true.mpr fun q hq => List.all_eq_true.mpr fun e he => ?_
  have h1 := List.all_eq_true.mp (List.all_eq_true.mp h q hq) e he
  have h2 := List.all_eq_true.mp (List.all_eq_true.mp lk_law_np q hq) e he
  have h3 : ∀ z, e.2.1 ≠ .putfield z := fun z hz => by rw [hz] at h2; cases h2
  split at h1
  · rename_i orig n hdec
    rw [lkB_nm (nm' := "") h3]
    exact h1
  · cases h1
def ws_ix : List Nat := [110, 112, 114, 116, 118, 120, 122, 124, 126, 128]
def ws_t (i : Nat) : Term := .string "EightBlocks$Tape" (ws_ix.getD i 0)
def ws_flat : List Jvm.Cond := flatC (Jvm.Cond.and given_1 narrow_1)
theorem ws_ex : ∀ i, i < 10 → Jvm.Cond.exactly (ws_t i) "java/lang/String" ∈ ws_flat := by decide +kernel
theorem ws_co : ∀ i, i < 10 → Jvm.Cond.eq (.field (ws_t i) "java/lang/String" "coder" "B") (.int 0) ∈ ws_flat := by decide +kernel
theorem ws_ar : ∀ i, i < 10 → Jvm.Cond.arrayOf (.field (ws_t i) "java/lang/String" "value" "[B") .byte ∈ ws_flat := by decide +kernel
theorem ws_le : ∀ i, i < 10 → Jvm.Cond.eq (.length (.field (ws_t i) "java/lang/String" "value" "[B")) (.int (Int32.ofNat (so_len.getD i 0))) ∈ ws_flat := by decide +kernel
theorem ws_el : ∀ i, i < 10 → ∀ j, j < so_len.getD i 0 → Jvm.Cond.eq (.elem (.field (ws_t i) "java/lang/String" "value" "[B") (.int (Int32.ofNat j))) (.int ((so_byt.getD i []).getD j 0)) ∈ ws_flat := by decide +kernel
theorem ws_ne : ∀ i, i < 10 → ∀ j, j < 10 → i ≠ j → Jvm.Cond.not (.eq (ws_t i) (ws_t j)) ∈ ws_flat ∨ Jvm.Cond.not (.eq (ws_t j) (ws_t i)) ∈ ws_flat := by decide +kernel
theorem ws_l10 : ∀ i, i < 10 → so_len.getD i 0 < 2 ^ 31 := by decide +kernel
def st_v : List Int32 := [5, 7, 10, 11, 14, 15, 17, 19, 20, 21, 22]
theorem st_ar : Jvm.Cond.arrayOf (.static "EightBlocks$Golay" "STARTS" "[I") .int ∈ ws_flat := by decide +kernel
theorem st_le : Jvm.Cond.eq (.length (.static "EightBlocks$Golay" "STARTS" "[I")) (.int (Int32.ofNat 11)) ∈ ws_flat := by decide +kernel
theorem st_el : ∀ j, j < 11 → Jvm.Cond.eq (.elem (.static "EightBlocks$Golay" "STARTS" "[I") (.int (Int32.ofNat j))) (.int (st_v.getD j 0)) ∈ ws_flat := by decide +kernel
theorem st_cs : Jvm.Cond.eq (.static "java/lang/String" "COMPACT_STRINGS" "Z") (.int 1) ∈ ws_flat := by decide +kernel
theorem st_si : Jvm.Cond.isRef (.static "jdk/internal/util/Preconditions" "SIOOBE_FORMATTER" "Ljava/util/function/BiFunction;") ∈ ws_flat := by decide +kernel
theorem lw_all_in {p : Nat} {w : Jvm.Cond} (h : lw_nw p w = true) : w ∈ lw_tbl := List.mem_of_getElem? (of_decide_eq_true h)
theorem st_w1 : (.laysStatic "EightBlocks$Golay" "STARTS" "[I" : Jvm.Cond) ∈ lw_tbl := lw_all_in (p := 149) (by decide +kernel)
theorem st_w2 : (.laysStatic "java/lang/String" "COMPACT_STRINGS" "Z" : Jvm.Cond) ∈ lw_tbl := lw_all_in (p := 656) (by decide +kernel)
theorem st_w3 : (.laysStatic "jdk/internal/util/Preconditions" "SIOOBE_FORMATTER" "Ljava/util/function/BiFunction;" : Jvm.Cond) ∈ lw_tbl := lw_all_in (p := 672) (by decide +kernel)
theorem st_w4 : (.initialized "EightBlocks$Golay" : Jvm.Cond) ∈ lw_tbl := lw_all_in (p := 103) (by decide +kernel)
theorem st_w5 : (.initialized "java/lang/String" : Jvm.Cond) ∈ lw_tbl := lw_all_in (p := 115) (by decide +kernel)
theorem st_w6 : (.initialized "jdk/internal/util/Preconditions" : Jvm.Cond) ∈ lw_tbl := lw_all_in (p := 117) (by decide +kernel)
theorem st_o1 : (.arrayOver (.array .int) : Jvm.Cond) ∈ lw_tbl := lw_all_in (p := 129) (by decide +kernel)
theorem st_o2 : (.arrayOver (.array .long) : Jvm.Cond) ∈ lw_tbl := lw_all_in (p := 338) (by decide +kernel)
theorem st_o3 : (.arrayOver (.object "EightBlocks$State") : Jvm.Cond) ∈ lw_tbl := lw_all_in (p := 286) (by decide +kernel)
theorem st_ps : (pl_s 7).all (fun q => Nat.ble (q.2.1 + 1) 10 && Nat.beq (ws_ix.getD q.2.1 0) q.1) = true := by decide +kernel
theorem lw_tbg_in : ∀ w ∈ lw_tbg, w ∈ lw_tbl := fun w h => (List.mem_filter.mp h).1
theorem st_arr {s : State} {args : Array Value} {ty : FieldType} (h : (Jvm.Cond.arrayClass ty).before args s = true) : ∃ cA, ArrOfT s cA ty ∧ s.vm.findClass ("[" ++ ty.toString) = some cA := by
  obtain ⟨cA, k, comp, h1, h2, h3⟩ := Cond.arrayClass_spec h
  exact ⟨cA, fun n z => ⟨(fun q hq => by cases hq), k, h2, comp, h3⟩, h1⟩
set_option maxHeartbeats 4000000 in
/-- at the law's start there is a world of the abstract machine: the script, the texts, nothing made -/
theorem so_begin {s : State} {args : Array Value} {b n : Nat} {xs : Nat → Int32} (hts : ∀ w ∈ lw_tbl, w.before args s = true) (hgv : (Jvm.Cond.and given_1 narrow_1).before args s = true) (hX : va_X b n xs s s.heap) (hbl : b < s.heap.size) (hn : n < 2 ^ 31) :
    ∃ G : so_G, so_K G s ∧ G.1 = s.heap.size ∧ G.2.1 0 = b ∧ so_H G s ((fun a j => if a = 0 then xs j else st_v.getD j 0), (fun _ _ => 0), (fun _ _ => none), 12, 0, n) s.heap := by
  have hfl := flat_of_before _ hgv
  have hg : ∀ w ∈ ws_flat, w.before args s = true := hfl
  have hA : ∀ a : Nat, a < s.heap.size → ¬ (fun q : Nat => s.heap.size ≤ q) a := fun a h q => Nat.not_le.mpr h q
  have htg : ∀ w ∈ lw_tbg, w.before args s = true := fun w h => hts w (lw_tbg_in w h)
  obtain ⟨adK, adV, hS, hev⟩ := vk_Sof (N := 10) (tm := ws_t) (len := so_len) (byt := so_byt) (A := fun q => s.heap.size ≤ q) ws_l10 (fun i hi => hg _ (ws_ex i hi)) (fun i hi => hg _ (ws_co i hi)) (fun i hi => hg _ (ws_ar i hi)) (fun i hi => hg _ (ws_le i hi)) (fun i hi j hj => hg _ (ws_el i hi j hj)) (fun i j hi hj hij => (ws_ne i hi j hj hij).imp (hg _) (hg _)) hA
  obtain ⟨t, ht, hT⟩ := va_Tof (tm := .static "EightBlocks$Golay" "STARTS" "[I") (ty := .int) (N := 11) (f := fun j => .int (st_v.getD j 0)) (A := fun q => s.heap.size ≤ q) (by decide) (hg _ st_ar) (va_eqt (hg _ st_le)) (fun j hj => va_eqt (hg _ (st_el j hj))) hA
  have hZ1 := va_Zof (A := fun q => s.heap.size ≤ q) (hts _ st_w1) (hts _ st_w4) ht hA
  have hZ2 := va_Zof (A := fun q => s.heap.size ≤ q) (hts _ st_w2) (hts _ st_w5) (va_eqt (hg _ st_cs)) hA
  have hZ3 := va_Zqof (A := fun q => s.heap.size ≤ q) (hts _ st_w3) (hts _ st_w6) (hg _ st_si) hA
  have hcl : ∀ k, ∃ q : ClassId × (Nat → Nat), k < 10 → u_Kn s (cl_R k) (cl_T k) (cl_N k) q.1 q.2 := by
    intro k
    by_cases hk : k < 10
    · obtain ⟨cC, iS, h⟩ := u_known (ws := lw_tbg) (C := cl_R k) (T := cl_T k) (N := cl_N k) (n := cl_N k) htg (so_uws hk) (htg _ (lw_is_in (am_bb (lk_all10 pl_n_ok hk)).1))
      exact ⟨(cC, iS), fun _ => h⟩
    · exact ⟨(0, fun _ => 0), fun h => absurd h hk⟩
  obtain ⟨dq, hdq⟩ := Classical.axiomOfChoice hcl
  obtain ⟨a0, a01, a02⟩ := st_arr (htg _ lw_arI)
  obtain ⟨a1, a11, a12⟩ := st_arr (htg _ lw_arZ)
  obtain ⟨a2, a21, a22⟩ := st_arr (htg _ lw_arJ)
  obtain ⟨comp3, a3, k3, b31, -, b33, b34, b35⟩ := arrayOverA_spec (hts _ st_o1)
  obtain ⟨comp4, a4, k4, b41, -, b43, b44, b45⟩ := arrayOverA_spec (hts _ st_o2)
  obtain ⟨comp5, a5, k5, b51, -, b53, b54, b55⟩ := Cond.arrayOver_spec (hts _ st_o3)
  refine ⟨(s.heap.size, (fun r => if r = 0 then b else if r = 1 then t else adK (r - 2)), ((fun k => (dq k).1), (fun k => (dq k).2)), (fun k => match k with | 0 => a0 | 1 => a1 | 2 => a2 | 3 => a3 | 4 => a4 | _ => a5), s.heap), ?_, rfl, rfl, ?_⟩
  · refine ⟨⟨fun k q hq => ?_, fun k q hq => ?_⟩, hZ1, fun C hC => ?_, fun ty hty => ?_, fun q hq => ?_, fun q hq => ?_, ⟨adV, ?_⟩, hZ2, hZ3⟩
    · have hk : k < 10 := (List.getElem?_eq_some_iff.mp hq).1
      have e := Option.some.inj (hq.symm.trans (cl_vw k hk))
      subst e
      exact hdq k hk
    · have hk : k < 6 := (List.getElem?_eq_some_iff.mp hq).1
      match k, hk, hq with
      | 0, _, hq => cases hq; exact ⟨a01, a02⟩
      | 1, _, hq => cases hq; exact ⟨a11, a12⟩
      | 2, _, hq => cases hq; exact ⟨a21, a22⟩
      | 3, _, hq => cases hq; exact ⟨fun n z => ⟨(fun q hq => by cases hq), k3, b33, comp3, b34⟩, b35⟩
      | 4, _, hq => cases hq; exact ⟨fun n z => ⟨(fun q hq => by cases hq), k4, b43, comp4, b44⟩, b45⟩
      | 5, _, hq => cases hq; exact ⟨fun n z => ⟨(fun q hq => by cases hq), k5, b53, comp5, b54⟩, k5, comp5, b53, b54, b51, b55⟩
    · subst hC; exact va_AO.of (hts _ st_o3)
    · rcases hty with hty | hty
      · subst hty; exact hts _ st_o1
      · subst hty; exact hts _ st_o2
    · have h8 : q.2.onTables = true := by
        have h7 : ∀ q ∈ lw_nest, q.2.onTables = true := by decide +kernel
        exact h7 q hq
      exact va_Nw.of h8 (hts _ (lw_all_in (List.all_eq_true.mp lw_nest_in q hq)))
    · obtain ⟨i, j, z⟩ := q
      obtain ⟨q1, q2⟩ := am_bb (List.all_eq_true.mp st_ps _ hq)
      have hj : j < 10 := Nat.le_of_ble_eq_true q1
      have hi : ws_ix.getD j 0 = i := Nat.eq_of_beq_eq_true q2
      have hw := List.all_eq_true.mp (lk_all15 ps_ok (o := 7) (by decide)) _ hq
      obtain ⟨hw, -⟩ := am_bb hw
      obtain ⟨hw, -⟩ := am_bb hw
      have he := hev j hj
      unfold ws_t at he
      rw [hi] at he
      have h9 : (if 2 + j = 0 then b else if 2 + j = 1 then t else adK (2 + j - 2)) = adK j := by
        rw [if_neg (by omega), if_neg (by omega), show 2 + j - 2 = j by omega]
      show vk_R "EightBlocks$Tape" i (pl_t j) (if 2 + j = 0 then b else if 2 + j = 1 then t else adK (2 + j - 2)) s
      rw [h9]
      exact vk_R.of (hts _ (lw_all_in hw)) he
    · have hfun : (fun i => if 2 + i = 0 then b else if 2 + i = 1 then t else adK (2 + i - 2)) = adK := funext fun i => by rw [if_neg (by omega), if_neg (by omega), show 2 + i - 2 = i by omega]
      show vk_S 10 so_len so_byt (fun i => if 2 + i = 0 then b else if 2 + i = 1 then t else adK (2 + i - 2)) adV (fun q => s.heap.size ≤ q) s s.heap
      rw [hfun]
      exact hS
  · refine ⟨rfl, Nat.le_refl _, fun r h1 h2 => absurd h2 (Nat.not_lt.mpr h1), fun _ _ => rfl, fun r hr => ?_, fun r hr => ?_⟩
    · show (if r = 0 then b else if r = 1 then t else adK (r - 2)) < s.heap.size
      by_cases h0 : r = 0
      · rw [if_pos h0]; exact hbl
      rw [if_neg h0]
      by_cases h1 : r = 1
      · rw [if_pos h1]
        obtain ⟨cell, q1, -⟩ := hT
        exact (Array.getElem?_eq_some_iff.mp q1).1
      rw [if_neg h1]
      obtain ⟨⟨cell, q1, -⟩, -⟩ := hS.1 (r - 2) (by omega)
      exact (Array.getElem?_eq_some_iff.mp q1).1
    · match r, hr with
      | 0, _ =>
        obtain ⟨scr, q1, q2, q3, q4, q5⟩ := hX
        exact ⟨scr, q1, q2, q3, ⟨by show n ≤ _; rw [q4]; exact Nat.le_refl _, by show _ = nI n; rw [q4]; rfl⟩, hn, fun j hj => q5 j hj⟩
      | 1, _ =>
        obtain ⟨cell, q1, q2, q3, q4, q5, q6, q7⟩ := hT
        exact ⟨cell, q1, q2, q3, ⟨q4, q5⟩, by show 11 < 2 ^ 31; decide, fun j hj => q6 j hj⟩
/-- the whole walk out of a run of the law on the abstract machine -/
theorem so_whole {p : Program} {e : Env} {s : State} {m : MethodId} {below : List Frame} {meth : Method} {c : Code} (l : Launch) (hStr : ∀ G, so_Str l G) {b n : Nat} {xs : Nat → Int32} (hn : n ≤ 3072) (C0 : lw_At p s m meth c b n xs)
    (hrun : am_WP am_mt (am_AC 100) tb_257 1497 78378 (fun v _ => v = some (.int 1)) 0 [some (.ref 0), none, none, none] [] ((fun a j => if a = 0 then xs j else st_v.getD j 0), (fun _ _ => 0), (fun _ _ => none), 12, 0, n)) :
    W p l e room_1 s m #[Value.ref b] below meth c s.heap [] 0 0 (lw_Z below #[Value.ref b] s) (entryFrame m ([Value.ref b] : List Value).toArray 4) := by
  obtain ⟨hx, hb, hr, hml, hown, hts, hX, hbl, hlocks, hgv⟩ := C0
  obtain ⟨G, hK, hG1, hG0, hH⟩ := so_begin hts hgv hX hbl (by omega)
  have F : so_Fx p s m #[Value.ref b] meth c code 11 4 meth.name G room_1 12 0 1497 78378 100 := ⟨hx, hb, hml, hown, fun w h => hts w (lw_tbg_in w h), hK, rfl, by decide, by decide, by decide, by decide, by decide⟩
  rw [lg_entry_eq]
  have hent := so_entry G (as := [.ref 0]) (n := 4) (by decide)
  have e0 : ([Value.ref 0].map (so_v G)) = [Value.ref b] := by
    show [Value.ref (so_ad G 0)] = _
    rw [so_ad_lo G (by decide), hG0]
  rw [e0] at hent
  refine so_body F (so_sound (hStr G) 100) (hStr G) (lk_law_nm meth.name) ?_ ?_ ?_ ?_ hrun s.heap _ [] 0 0 ⟨hent, hH, rfl, rfl, (Nat.le_of_ble_eq_true rfl : (12 : Nat) ≤ 1497), (Nat.le_of_ble_eq_true rfl : (0 : Nat) ≤ 78378), fun q hq => by cases hq⟩
  · intro x pc L M hrt hdc hR H ls locs cells slots S
    cases hR
    obtain ⟨S1, S2, S3, S4, S5, S6, S7⟩ := S
    refine va_forget (fun q hq => by rw [← hG1]; exact S7 q hq) (W.widen (k := 600000) (n := 7302250) (by omega) (by omega) ?_)
    exact lw_ret hx hb hr hlocks hdc
  · intro x pc L M hrt
    cases hrt
  · intro x pc L M hrt
    obtain ⟨t, h1, h2⟩ := hrt
    cases h1
    rcases h2 with ⟨n, h2⟩ | ⟨u, h2⟩ <;> cases h2
  · intro pc L M hrt
    cases hrt
