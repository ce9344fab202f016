/-! THE MODEL'S CONSTRUCTOR: the tables -/
/-- the model's own ints at the start -/
def mf_G : Nat → Int32 := am_u1 (am_u1 (am_u1 (fun _ => 0) 21 (am_k (-1))) 31 (am_k (-1))) 3 (nI 12)
/-- the model is made -/
def mf (I J : Nat → Nat → Int32) : Prop :=
  (∀ b, b < 1469 → J b = I b) ∧ J 1469 = mf_G ∧ (∀ m, m < 5 → ∀ p, p < 24 → J 1470 (24 * m + p) = nI (g_nm m p)) ∧ J 1470 120 = nI (g_W 1) ∧ J 1470 121 = nI 1 ∧ (∀ k, k < 12 → J 1471 k = nI (g_U k)) ∧ (∀ k, k < 12 → J 1472 k = nI (g_V k)) ∧ (∀ k, k < 4096 → J 1473 k = nI (g_w k)) ∧ (∀ k, k < 759 → J 1474 k = nI ((g_ws 8 4096).getD k 0)) ∧ (∀ b, 1475 ≤ b → b < 1497 → ¬ b = 1492 → J b = fun _ => 0) ∧ ∀ k, k < 4 → J 1492 k = am_k (-1)
theorem am_u1_id {α : Type} (f : Nat → α) (i : Nat) : am_u1 f i (f i) = f := by
  funext j
  by_cases h : j = i
  · subst h
    rw [am_u1_at]
  · rw [am_u1_off _ _ h]
theorem cm_f12 : ∀ k, k < 12 → (cm_f 12).getD k 0 = g_U k := by decide +kernel
theorem cm_g12 : ∀ k, k < 12 → (cm_g 12).getD k 0 = g_V k := by decide +kernel
theorem m_basic_lt : ∀ k, k < 12 → m_basic k < 2 ^ 24 := by decide +kernel
section MI
variable {d : Nat} {K : Option Value → am_M → Prop} {I : Nat → Nat → Int32} {Lg : Nat → Nat → Int64} {n : Nat} {M0 : am_M}
theorem s_M_tables (hd : 3 ≤ d)
    (h : ∀ J, mf I J → am_R k_M_init M0 K none (am_st J Lg rr0 n)) (J0 : Nat → Nat → Int32) (hJ0 : ∀ b, b < 1469 → J0 b = I b) (hG : J0 1469 = am_u1 (am_u1 (fun _ => 0) 21 (am_k (-1))) 31 (am_k (-1))) (hZ : ∀ b, 1470 ≤ b → b < 1497 → J0 b = fun _ => 0) :
    am_St d k_M_init M0 K 238 [some (.ref 1469), none, none] [] (am_st J0 Lg rr0 n) := by
  have r69 : am_ro 1497 1470 122 := ⟨rfl, rfl, by decide, by decide⟩
  have r72 : am_ro 1497 1473 4096 := ⟨rfl, rfl, by decide, by decide⟩
  have r73 : am_ro 1497 1474 759 := ⟨rfl, rfl, by decide, by decide⟩
  have r70 : am_ro 1497 1471 12 := ⟨rfl, rfl, by decide, by decide⟩
  have r91 : am_ro 1497 1492 4 := ⟨rfl, rfl, by decide, by decide⟩
  -- the lanes
  have kd : ∀ q, q ≤ 4 → ∀ v1 : Int32, ∀ (J1 : Nat → Nat → Int32) (f : Nat → Int32), (∀ k, k < q → f k = am_k (-1)) → (∀ f, (∀ k, k < 4 → f k = am_k (-1)) → mf I (am_sr J1 1492 f)) → am_St d k_M_init M0 K 407 [some (.ref 1469), some (.int v1), some (.int (nI q))] [] (am_st (am_sr J1 1492 f) Lg rr0 n) := by
    refine lp_up _ (fun q hq ih => ?_) ?_
    · intro v1 J1 f hf hK
      refine am_step _ _ _ (d_M_init_407 ⟨fun _ => am_gi rfl (am_obi (b := 1492) rfl (am_gi r91.g3 ⟨?_, ?_⟩)), fun q2 => absurd (nI_lt hq (by decide)) q2⟩)
      · rw [r91.n, n_un (by omega)]
        exact hq
      · rw [n_un (by omega), am_sr_at, am_sr_sr, nI_add]
        refine ih v1 J1 _ (fun k hk => ?_) hK
        by_cases e : k = q
        · subst e
          rw [am_u1_at]
        · rw [am_u1_off _ _ e, hf k (by omega)]
    · intro v1 J1 f hf hK
      exact am_step _ _ _ (d_M_init_407 ⟨fun q2 => absurd q2 (by decide), fun _ => h _ (hK f hf)⟩)
  -- the words in order, the octads
  have kc : ∀ k, k ≤ 4096 → ∀ (J1 J : Nat → Nat → Int32), (∀ b, ¬ b = 1473 → ¬ b = 1474 → J b = J1 b) → (∀ j, j < 12 → J1 1471 j = nI (g_U j)) → (∀ j, j < k → J 1473 j = nI (g_w j)) → (∀ j, j < (g_ws 8 k).length → J 1474 j = nI ((g_ws 8 4096).getD j 0)) → (∀ J, (∀ b, ¬ b = 1473 → ¬ b = 1474 → J b = J1 b) → (∀ j, j < 4096 → J 1473 j = nI (g_w j)) → (∀ j, j < 759 → J 1474 j = nI ((g_ws 8 4096).getD j 0)) → ∀ f, (∀ k, k < 4 → f k = am_k (-1)) → mf I (am_sr J 1492 f)) → am_St d k_M_init M0 K 329 [some (.ref 1469), some (.int (nI (g_ws 8 k).length)), some (.int (nI k))] [] (am_st J Lg rr0 n) := by
    refine lp_up _ (fun k hk ih => ?_) ?_
    · intro J1 J h1 h2 h3 h4 hK
      have eu : am_un (nI k) = k := n_un (by omega)
      have lt8 := ws_len 8 (q := k) (r := 4096) (by omega)
      rw [ws_8] at lt8
      -- when the word is put
      have k379 : ∀ J, (∀ b, ¬ b = 1473 → ¬ b = 1474 → J b = J1 b) → (∀ j, j < k + 1 → J 1473 j = nI (g_w j)) → (∀ j, j < (g_ws 8 k).length → J 1474 j = nI ((g_ws 8 4096).getD j 0)) → am_St d k_M_init M0 K 379 [some (.ref 1469), some (.int (nI (g_ws 8 k).length)), some (.int (nI k))] [.int (nI (pcn (g_w k)))] (am_st J Lg rr0 n) := by
        intro J g1 g3 g4
        have pl := pcn_le 24 _ (g_w_lt k)
        refine am_step _ _ _ (d_M_init_379 ⟨fun q => am_gi rfl (am_obi (b := 1474) rfl (am_gi rfl (am_obi (b := 1473) rfl (am_gi r72.g2 ⟨?_, am_gi r73.g3 ⟨?_, ?_⟩⟩)))), fun q => ?_⟩)
        · rw [r72.n, eu]
          exact hk
        · rw [nI_eq (by omega) (by decide)] at q
          obtain ⟨a1, a2⟩ := ws_at q hk
          have a3 := ws_len 8 (q := k + 1) (r := 4096) (by omega)
          rw [ws_8] at a3
          rw [r73.n, n_un (by omega)]
          omega
        · rw [nI_eq (by omega) (by decide)] at q
          obtain ⟨a1, a2⟩ := ws_at q hk
          rw [eu, n_un (by omega), g3 k (by omega), nI_add, nI_add, ← a2]
          refine ih J1 _ (fun b b1 b2 => ?_) h2 (fun j hj => ?_) (fun j hj => ?_) hK
          · rw [am_sr_off _ _ b2, g1 b b1 b2]
          · rw [am_sr_off _ _ (by decide), g3 j hj]
          · rw [am_sr_at]
            by_cases e : j = (g_ws 8 k).length
            · subst e
              rw [am_u1_at, a1]
            · rw [am_u1_off _ _ e, g4 j (by omega)]
        · rw [nI_eq (by omega) (by decide)] at q
          rw [nI_add]
          have e : g_ws 8 (k + 1) = g_ws 8 k := by rw [ws_s, if_neg q]
          have ih2 := ih J1 J g1 h2 g3 (by rw [e]; exact g4) hK
          rw [e] at ih2
          exact ih2
      have put : ∀ v, v = nI (g_w k) → ∀ j, j < k + 1 → am_sr J 1473 (am_u1 (J 1473) k v) 1473 j = nI (g_w j) := by
        intro v hv j hj
        rw [am_sr_at]
        by_cases e : j = k
        · subst e
          rw [am_u1_at, hv]
        · rw [am_u1_off _ _ e, h3 j (by omega)]
      refine am_step _ _ _ (d_M_init_329 ⟨fun _ => am_gi rfl (am_obi (b := 1473) rfl ⟨fun q => am_gi r72.g3 ⟨?_, am_gi rfl (am_obi (b := 1473) rfl (am_gi r72.g2 ⟨?_, ?_⟩))⟩, fun q => am_gi rfl (am_obi (b := 1473) rfl (am_gi r72.g2 ⟨?_, am_gi rfl (am_obi (b := 1471) rfl ?_)⟩))⟩), fun q => absurd (nI_lt hk (by decide)) q⟩)
      · rw [r72.n, eu]
        exact hk
      · rw [r72.n, eu]
        exact hk
      · have k0 : k = 0 := by
          have : nI k = nI 0 := q
          rw [nI_eq (by omega) (by decide)] at this
          exact this
        have e0 : nI 0 = nI (g_w k) := by
          rw [k0]
          rfl
        rw [eu, put _ e0 k (by omega)]
        refine s_bits (by omega) (Nat.lt_trans (g_w_lt k) (by decide)) ⟨_, rfl, k379 _ (fun b b1 b2 => ?_) (put _ e0) (fun j hj => ?_)⟩
        · rw [am_sr_off _ _ b1, h1 b b1 b2]
        · rw [am_sr_off _ _ (by decide), h4 j hj]
      · have k0 : ¬ k = 0 := fun e => q (by rw [e]; rfl)
        obtain ⟨l1, l2, l3⟩ := low_w (by omega) hk
        rw [pk_sub (by omega), n_and, r72.n, n_un (by omega)]
        omega
      · have k0 : ¬ k = 0 := fun e => q (by rw [e]; rfl)
        obtain ⟨l1, l2, l3⟩ := low_w (by omega) hk
        rw [pk_sub (by omega), n_and, n_un (by omega), h3 _ l1]
        refine s_lowest (by omega) (by omega) ⟨_, rfl, am_step _ _ _ (d_M_init_367 (am_gi r70.g2 ⟨?_, am_gi r72.g3 ⟨?_, am_gi rfl (am_obi (b := 1473) rfl (am_gi r72.g2 ⟨?_, ?_⟩))⟩⟩))⟩
        · rw [r70.n, n_un (by omega)]
          exact l2
        · rw [r72.n, eu]
          exact hk
        · rw [r72.n, eu]
          exact hk
        · have ev : nI (g_w (k &&& (k - 1))) ^^^ J 1471 (am_un (nI (m_low k))) = nI (g_w k) := by
            rw [n_un (by omega), h1 1471 (by decide) (by decide), h2 _ l2, n_xor, ← l3]
          rw [eu, put _ ev k (by omega)]
          refine s_bits (by omega) (Nat.lt_trans (g_w_lt k) (by decide)) ⟨_, rfl, k379 _ (fun b b1 b2 => ?_) (put _ ev) (fun j hj => ?_)⟩
          · rw [am_sr_off _ _ b1, h1 b b1 b2]
          · rw [am_sr_off _ _ (by decide), h4 j hj]
    · intro J1 J h1 h2 h3 h4 hK
      rw [ws_8] at h4 ⊢
      refine am_step _ _ _ (d_M_init_329 ⟨fun q2 => absurd q2 (by decide), fun _ => ?_⟩)
      have k0 := kd 0 (by decide) (nI 759) J (J 1492) (fun k hk => absurd hk (Nat.not_lt_zero _)) (hK J h1 h3 h4)
      rw [am_sr_id] at k0
      exact k0
  -- the rows
  have kb : ∀ c, c ≤ 12 → ∀ (J1 J : Nat → Nat → Int32), J1 1469 3 = nI 0 → cm_M (am_sr J1 1469 (am_u1 (J1 1469) 3 (nI c))) (cm_f c) (cm_g c) J → (∀ J, cm_M (am_sr J1 1469 (am_u1 (J1 1469) 3 (nI 12))) (cm_f 12) (cm_g 12) J → ∀ J', (∀ b, ¬ b = 1473 → ¬ b = 1474 → J' b = J b) → (∀ j, j < 4096 → J' 1473 j = nI (g_w j)) → (∀ j, j < 759 → J' 1474 j = nI ((g_ws 8 4096).getD j 0)) → ∀ f, (∀ k, k < 4 → f k = am_k (-1)) → mf I (am_sr J' 1492 f)) → am_St d k_M_init M0 K 302 [some (.ref 1469), some (.int (nI c)), none] [] (am_st J Lg rr0 n) := by
    refine lp_up _ (fun c hc ih => ?_) ?_
    · intro J1 J h0 hJ hK
      refine am_step _ _ _ (d_M_init_302 ⟨fun _ => s_basic (by omega) (by omega) ⟨_, rfl, am_step _ _ _ (d_M_init_313 (am_gi rfl ?_))⟩, fun q => absurd (nI_lt hc (by decide)) q⟩)
      rw [n_p2 (by omega)]
      refine s_comes (by omega) hc (m_basic_lt c hc) hJ ?_ (fun J' hJ' => ⟨rfl, am_step _ _ _ (d_M_init_319 ?_)⟩)
      · rw [hJ.2.2.2 1469 (by decide) (by decide), am_sr_at, am_u1_at]
      · rw [am_sr_at, am_sr_sr, am_u1_u1, cm_ok c hc] at hJ'
        rw [nI_add]
        exact ih J1 J' h0 hJ' hK
    · intro J1 J h0 hJ hK
      refine am_step _ _ _ (d_M_init_302 ⟨fun q2 => absurd q2 (by decide), fun _ => ?_⟩)
      exact kc 0 (by decide) J J (fun _ _ _ => rfl) (fun j hj => by rw [hJ.2.1 j hj, cm_f12 j hj]) (fun j hj => absurd hj (Nat.not_lt_zero _)) (fun j hj => absurd hj (Nat.not_lt_zero _)) (hK J hJ)
  -- the moves
  have ka : ∀ m, m ≤ 5 → ∀ f, (∀ x, x < 24 * m → f x = nI (g_nm (x / 24) (x % 24))) → am_St d k_M_init M0 K 240 [some (.ref 1469), some (.int (nI m)), none] [] (am_st (am_sr J0 1470 f) Lg rr0 n) := by
    refine lp_up _ (fun m hm ih => ?_) ?_
    · intro f hf
      have kp : ∀ p, p ≤ 24 → ∀ f, (∀ x, x < 24 * m + p → f x = nI (g_nm (x / 24) (x % 24))) → am_St d k_M_init M0 K 247 [some (.ref 1469), some (.int (nI m)), some (.int (nI p))] [] (am_st (am_sr J0 1470 f) Lg rr0 n) := by
        refine lp_up _ (fun p hp ihp => ?_) ?_
        · intro f hf
          refine am_step _ _ _ (d_M_init_247 ⟨fun _ => am_gi rfl (am_obi (b := 1470) rfl (s_named hd hm hp ⟨_, rfl, am_step _ _ _ (d_M_init_268 (am_gi r69.g3 ⟨?_, ?_⟩))⟩)), fun q => absurd (nI_lt hp (by decide)) q⟩)
          · rw [pk_mul, nI_add, r69.n, n_un (by omega)]
            omega
          · rw [pk_mul, nI_add, nI_add, n_un (by omega), am_sr_at, am_sr_sr]
            refine ihp _ (fun x hx => ?_)
            by_cases e : x = 24 * m + p
            · subst e
              rw [am_u1_at, show (24 * m + p) / 24 = m by omega, show (24 * m + p) % 24 = p by omega]
            · rw [am_u1_off _ _ e, hf x (by omega)]
        · intro f hf
          refine am_step _ _ _ (d_M_init_247 ⟨fun q => absurd q (by decide), fun _ => ?_⟩)
          rw [nI_add]
          exact am_fg (le_same _ (le_same _ (le_int _ le_nil))) (ih f (fun x hx => hf x (by omega)))
      exact am_step _ _ _ (d_M_init_240 ⟨fun _ => kp 0 (by decide) f (fun x hx => hf x (by omega)), fun q => absurd (nI_lt hm (by decide)) q⟩)
    · intro f hf
      refine am_step _ _ _ (d_M_init_240 ⟨fun q => absurd q (by decide), fun _ => am_gi rfl (am_obi (b := 1470) rfl (am_gi r69.g3 ⟨?_, am_gi rfl (am_obi (b := 1470) rfl (s_basic (by omega) (by decide) ⟨_, rfl, am_step _ _ _ (d_M_init_299 (am_gi r69.g3 ⟨?_, ?_⟩))⟩))⟩))⟩)
      · rw [r69.n]
        decide
      · rw [r69.n]
        decide
      · rw [am_sr_at, am_sr_sr, am_sr_at, am_sr_sr, m_basic_B 0 (by decide), ← g_W_1]
        generalize hf2 : am_u1 (am_u1 f (am_un (nI 121)) (nI 1)) (am_un (nI 120)) (nI (g_W 1)) = f2
        have f2a : f2 120 = nI (g_W 1) := by
          rw [← hf2]
          exact am_u1_at _ 120 _
        have f2b : f2 121 = nI 1 := by
          rw [← hf2]
          exact (am_u1_off _ (j := 121) (i := 120) _ (by decide)).trans (am_u1_at _ 121 _)
        have f2c : ∀ x, x < 120 → f2 x = f x := by
          intro x hx
          rw [← hf2]
          exact (am_u1_off _ (j := x) (i := 120) _ (by omega)).trans (am_u1_off _ (j := x) (i := 121) _ (by omega))
        have g68 : am_sr J0 1470 f2 1469 = am_u1 (am_u1 (fun _ => 0) 21 (am_k (-1))) 31 (am_k (-1)) := by
          rw [am_sr_off _ _ (by decide), hG]
        have e0 : am_sr (am_sr J0 1470 f2) 1469 (am_u1 (am_sr J0 1470 f2 1469) 3 (nI 0)) = am_sr J0 1470 f2 := by
          have e3 : am_sr J0 1470 f2 1469 3 = nI 0 := by
            rw [g68]
            rfl
          rw [← e3, am_u1_id, am_sr_id]
        refine kb 0 (by decide) (am_sr J0 1470 f2) (am_sr J0 1470 f2) (by rw [g68]; rfl) ?_ ?_
        · rw [e0]
          refine ⟨⟨rfl, rfl, fun k => ?_⟩, fun k hk => ?_, fun k hk => ?_, fun _ _ _ => rfl⟩
          · rcases Nat.lt_or_ge k 12 with q | q
            · exact (show ∀ k, k < 12 → (cm_f 0).getD k 0 < 2 ^ 24 by decide +kernel) k q
            · rw [List.getD_eq_getElem?_getD, List.getElem?_eq_none (by exact q)]
              decide
          · rw [am_sr_off _ _ (by decide), hZ 1471 (by decide) (by decide)]
            exact congrArg nI ((show ∀ k, k < 12 → 0 = (cm_f 0).getD k 0 by decide +kernel) k hk)
          · rw [am_sr_off _ _ (by decide), hZ 1472 (by decide) (by decide)]
            exact congrArg nI ((show ∀ k, k < 12 → 0 = (cm_g 0).getD k 0 by decide +kernel) k hk)
        · intro J hJ J' h1 h2 h3 f9 hf9
          obtain ⟨_, c1, c2, c3⟩ := hJ
          have cb : ∀ b, ¬ b = 1469 → ¬ b = 1470 → ¬ b = 1471 → ¬ b = 1472 → ¬ b = 1473 → ¬ b = 1474 → J' b = J0 b := fun b b1 b2 b3 b4 b5 b6 => by
            rw [h1 b b5 b6, c3 b b3 b4, am_sr_off _ _ b1, am_sr_off _ _ b2]
          have c69 : J' 1470 = f2 := by
            rw [h1 1470 (by decide) (by decide), c3 1470 (by decide) (by decide), am_sr_off _ _ (by decide), am_sr_at]
          refine ⟨fun b hb => ?_, ?_, fun m hm p hp => ?_, ?_, ?_, fun k hk => ?_, fun k hk => ?_, fun k hk => ?_, fun k hk => ?_, fun b b1 b2 b3 => ?_, fun k hk => ?_⟩
          · rw [am_sr_off _ _ (by omega), cb b (by omega) (by omega) (by omega) (by omega) (by omega) (by omega), hJ0 b hb]
          · rw [am_sr_off _ _ (by decide), h1 1469 (by decide) (by decide), c3 1469 (by decide) (by decide), am_sr_at, g68]
            rfl
          · rw [am_sr_off _ _ (by decide), c69, f2c _ (by omega), hf _ (by omega), show (24 * m + p) / 24 = m by omega, show (24 * m + p) % 24 = p by omega]
          · rw [am_sr_off _ _ (by decide), c69, f2a]
          · rw [am_sr_off _ _ (by decide), c69, f2b]
          · rw [am_sr_off _ _ (by decide), h1 1471 (by decide) (by decide), c1 k hk, cm_f12 k hk]
          · rw [am_sr_off _ _ (by decide), h1 1472 (by decide) (by decide), c2 k hk, cm_g12 k hk]
          · rw [am_sr_off _ _ (by decide), h2 k hk]
          · rw [am_sr_off _ _ (by decide), h3 k hk]
          · rw [am_sr_off _ _ b3, cb b (by omega) (by omega) (by omega) (by omega) (by omega) (by omega), hZ b (by omega) b2]
          · rw [am_sr_at, hf9 k hk]
  have k0 := ka 0 (by decide) (J0 1470) (fun x hx => absurd hx (Nat.not_lt_zero _))
  rw [am_sr_id] at k0
  exact am_step _ _ _ (d_M_init_238 k0)
end MI
