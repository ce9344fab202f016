/-! TETRADS; the operation sextet -/
theorem lead_ex {r : Nat} (hr : r < 4096) : ∃ L, g_Lp r L := by
  by_cases h0 : r = 0
  · subst h0
    exact ⟨0, by decide, g_r_0, Or.inl (by rw [pcn_0]; decide)⟩
  · obtain ⟨a, b, c, h1, h2, h3, h4⟩ := ld_cov hr h0
    rcases h4 with h4 | ⟨h4, h5⟩
    · have := lp_abc h1 h2 h3
      rw [h4] at this
      exact ⟨_, this⟩
    · have := lp_abc1 h1 h2 h3 h4
      rw [h5] at this
      exact ⟨_, this⟩
/-- the octad through five places -/
noncomputable def g_oc (f : Nat) : Nat := Classical.epsilon fun o => g_io o ∧ g_sub f o
theorem oc_sp {f : Nat} (hf : f < 2 ^ 24) (h5 : pcn f = 5) : g_io (g_oc f) ∧ g_sub f (g_oc f) := by
  obtain ⟨L, hL⟩ := lead_ex (g_r_lt f)
  exact Classical.epsilon_spec (p := fun o => g_io o ∧ g_sub f o) ⟨_, io_five hf h5 hL⟩
theorem oc_uni {f o : Nat} (hf : f < 2 ^ 24) (h5 : pcn f = 5) (h1 : g_io o) (h2 : g_sub f o) : o = g_oc f := io_uni h1 (oc_sp hf h5).1 h2 (oc_sp hf h5).2 (by omega)
/-- the tetrad with p of the sextet of s -/
noncomputable def g_t (s p : Nat) : Nat := if s.testBit p then s else s ^^^ g_oc (s ||| 2 ^ p)
theorem isw_0 : g_isw 0 := by decide +kernel
section TE
variable {s p : Nat}
theorem or_lt {s p : Nat} (hs : s < 2 ^ 24) (hp : p < 24) : s ||| 2 ^ p < 2 ^ 24 := Nat.or_lt_two_pow hs (Nat.pow_lt_pow_right (by decide) hp)
theorem sub_or {s p o : Nat} (h : g_sub (s ||| 2 ^ p) o) : g_sub s o ∧ o.testBit p = true := by
  rw [sub_tb] at h
  refine ⟨sub_tb.mpr fun j hj => h j ?_, h p ?_⟩
  · rw [Nat.testBit_or, hj]
    rfl
  · rw [Nat.testBit_or, tb_p2, decide_eq_true rfl, Bool.or_true]
theorem t_all (hs : s < 2 ^ 24) (h4 : pcn s = 4) (hp : p < 24) : (g_t s p).testBit p = true ∧ pcn (g_t s p) = 4 ∧ g_isw (s ^^^ g_t s p) ∧ g_t s p < 2 ^ 24 := by
  unfold g_t
  cases hb : s.testBit p
  · rw [if_neg (by decide)]
    have h5 : pcn (s ||| 2 ^ p) = 5 := by
      rw [pcn_or, hb, h4]
      rfl
    obtain ⟨o1, o2⟩ := oc_sp (or_lt hs hp) h5
    generalize g_oc (s ||| 2 ^ p) = o at *
    obtain ⟨so, po⟩ := sub_or o2
    refine ⟨?_, ?_, ?_, xor_lt hs (io_lt o1)⟩
    · rw [Nat.testBit_xor, hb, po]
      rfl
    · rw [(pcn_sub so).2, o1.2, h4]
    · rw [← Nat.xor_assoc, Nat.xor_self, Nat.zero_xor]
      exact o1.1
  · rw [if_pos rfl]
    exact ⟨hb, h4, by rw [Nat.xor_self]; exact isw_0, hs⟩
/-- tetrads with a place in common are one -/
theorem te_uni {t u q : Nat} (ht : pcn t = 4) (hu : pcn u = 4) (w1 : g_isw (s ^^^ t)) (w2 : g_isw (s ^^^ u)) (q1 : t.testBit q = true) (q2 : u.testBit q = true) : t = u := by
  have w := isw_xor w1 w2
  rw [show s ^^^ t ^^^ (s ^^^ u) = t ^^^ u by rw [Nat.xor_comm s t, Nat.xor_assoc, ← Nat.xor_assoc s, Nat.xor_self, Nat.zero_xor]] at w
  have e := pcn_xa t u
  have sb : g_sub (2 ^ q) (t &&& u) := sub_tb.mpr fun j hj => by
    rw [tb_p2] at hj
    have := of_decide_eq_true hj
    subst this
    rw [Nat.testBit_and, q1, q2]
    rfl
  have := (pcn_sub sb).1
  rw [pcn_p2] at this
  exact xor_0 (isw_small w (by omega))
theorem t_same {q : Nat} (hs : s < 2 ^ 24) (h4 : pcn s = 4) (hp : p < 24) (hq : q < 24) (h : (g_t s p).testBit q = true) : g_t s q = g_t s p := by
  obtain ⟨a1, a2, a3, a4⟩ := t_all hs h4 hp
  obtain ⟨b1, b2, b3, b4⟩ := t_all hs h4 hq
  exact te_uni b2 a2 b3 a3 b1 h
/-- what the first i tetrads cover; the place behind; tetrad i -/
noncomputable def g_cov (s : Nat) (i : Nat) : Nat := itn (fun _ c => c ||| g_t s (m_low (g_dif 16777215 c))) 0 i
noncomputable def g_te (s i : Nat) : Nat := g_t s (m_low (g_dif 16777215 (g_cov s i)))
theorem cov_s (s i : Nat) : g_cov s (i + 1) = g_cov s i ||| g_te s i := rfl
theorem all_tb (j : Nat) : (16777215 : Nat).testBit j = decide (j < 24) := by
  rw [show (16777215 : Nat) = 2 ^ 24 - 1 by decide, Nat.testBit_two_pow_sub_one]
theorem all_lt : (16777215 : Nat) < 2 ^ 24 := by decide
theorem pcn_dis {a b : Nat} (h : ∀ j, a.testBit j = true → b.testBit j = true → False) : pcn (a ||| b) = pcn a + pcn b ∧ a ||| b = a ^^^ b := by
  have z : a &&& b = 0 := by
    apply Nat.eq_of_testBit_eq
    intro j
    rw [Nat.testBit_and, Nat.zero_testBit]
    cases ha : a.testBit j
    · rfl
    · cases hb : b.testBit j
      · rfl
      · exact (h j ha hb).elim
  have e : a ||| b = a ^^^ b := by
    apply Nat.eq_of_testBit_eq
    intro j
    rw [Nat.testBit_or, Nat.testBit_xor]
    cases ha : a.testBit j
    · cases b.testBit j <;> rfl
    · cases hb : b.testBit j
      · rfl
      · exact (h j ha hb).elim
  have q := pcn_xa a b
  rw [z, pcn_0] at q
  exact ⟨by rw [e]; omega, e⟩
theorem cov_all (hs : s < 2 ^ 24) (h4 : pcn s = 4) : ∀ i, i ≤ 6 → pcn (g_cov s i) = 4 * i ∧ g_cov s i < 2 ^ 24 ∧ ∀ j, (g_cov s i).testBit j = true → g_sub (g_t s j) (g_cov s i)
  | 0, _ => ⟨pcn_0, (show 0 < 2 ^ 24 by decide), fun j hj => by
      have : (0 : Nat).testBit j = true := hj
      rw [Nat.zero_testBit] at this
      cases this⟩
  | i + 1, hi => by
    obtain ⟨c1, c2, c3⟩ := cov_all hs h4 i (by omega)
    have o0 : ¬ g_dif 16777215 (g_cov s i) = 0 := fun e => by
      have sb := (dif_0 all_lt).mp e
      have := (pcn_sub sb).1
      rw [show pcn 16777215 = 24 by rw [← bc_eq all_lt]; decide +kernel] at this
      omega
    have lo := low_lo (Nat.lt_trans (dif_lt all_lt) (by decide)) o0
    have lt := tb_lt (dif_lt all_lt) lo.1
    have nb : (g_cov s i).testBit (m_low (g_dif 16777215 (g_cov s i))) = false := by
      have := lo.1
      rw [dif_tb all_lt] at this
      cases hb : (g_cov s i).testBit (m_low (g_dif 16777215 (g_cov s i)))
      · rfl
      · rw [hb] at this
        simp at this
    obtain ⟨t1, t2, t3, t4⟩ := t_all hs h4 lt
    rw [cov_s]
    unfold g_te
    generalize m_low (g_dif 16777215 (g_cov s i)) = p at *
    have dj : ∀ j, (g_cov s i).testBit j = true → (g_t s p).testBit j = true → False := fun j j1 j2 => by
      have e := t_same hs h4 lt (tb_lt t4 j2) j2
      have q := sub_tb.mp (c3 j j1) p (by rw [e]; exact t1)
      rw [nb] at q
      cases q
    refine ⟨by rw [(pcn_dis dj).1]; omega, Nat.or_lt_two_pow c2 t4, fun j hj => sub_tb.mpr fun x hx => ?_⟩
    rw [Nat.testBit_or] at hj ⊢
    cases hc : (g_cov s i).testBit j
    · rw [hc, Bool.false_or] at hj
      rw [t_same hs h4 lt (tb_lt t4 hj) hj] at hx
      rw [hx, Bool.or_true]
    · rw [sub_tb.mp (c3 j hc) x hx]
      rfl
/-- what is open before tetrad i -/
theorem open_i (hs : s < 2 ^ 24) (h4 : pcn s = 4) {i : Nat} (hi : i < 6) : g_lo (g_dif 16777215 (g_cov s i)) (m_low (g_dif 16777215 (g_cov s i))) ∧ m_low (g_dif 16777215 (g_cov s i)) < 24 := by
  obtain ⟨c1, c2, c3⟩ := cov_all hs h4 i (by omega)
  have o0 : ¬ g_dif 16777215 (g_cov s i) = 0 := fun e => by
    have sb := (dif_0 all_lt).mp e
    have := (pcn_sub sb).1
    rw [show pcn 16777215 = 24 by rw [← bc_eq all_lt]; decide +kernel] at this
    omega
  have lo := low_lo (Nat.lt_trans (dif_lt all_lt) (by decide)) o0
  exact ⟨lo, tb_lt (dif_lt all_lt) lo.1⟩
theorem dif_or (a b c : Nat) (ha : a < 2 ^ 24) : g_dif (g_dif a b) c = g_dif a (b ||| c) := by
  apply Nat.eq_of_testBit_eq
  intro j
  rw [dif_tb (dif_lt ha), dif_tb ha, dif_tb ha, Nat.testBit_or]
  cases a.testBit j <;> cases b.testBit j <;> cases c.testBit j <;> rfl
end TE
section SX
variable {d : Nat} {K : Option Value → am_M → Prop} {I : Nat → Nat → Int32} {Lg : Nat → Nat → Int64} {rr : Nat → Nat → Option Nat} {n : Nat} {G : (Nat → Nat → Int32) → Prop} {s : Nat}
theorem s_tetradWith {p : Nat} (hd : 4 ≤ d) (hT : vT I) (hs : s < 2 ^ 24) (h4 : pcn s = 4) (hp : p < 24) (h : K (some (.int (nI (g_t s p)))) (am_st I Lg rr n)) : am_AC d k_Go_tetradWith [.ref 19, .int (nI s), .int (nI (2 ^ p))] (am_st I Lg rr n) K := by
  obtain ⟨d, rfl, hd1⟩ := s_up hd
  unfold g_t at h
  refine am_in _ _ _ (am_step _ _ _ (b_Go_tetradWith_0 ?_))
  rw [n_and, n_or, and_p2]
  cases hb : s.testBit p
  · rw [hb, if_neg (by decide)] at h
    have h5 : pcn (s ||| 2 ^ p) = 5 := by
      rw [pcn_or, hb, h4]
      rfl
    refine ⟨fun _ => s_octadWith hd1 hT (or_lt hs hp) h5 fun o o1 o2 => ⟨_, rfl, am_step _ _ _ (b_Go_tetradWith_18 ?_)⟩, fun q => absurd rfl q⟩
    rw [oc_uni (or_lt hs hp) h5 o1 o2, n_xor]
    exact h
  · rw [hb, if_pos rfl] at h
    refine ⟨fun q => ?_, fun _ => h⟩
    have q : nI (2 ^ p) = nI 0 := q
    have := Nat.two_pow_pos p
    have := Nat.pow_lt_pow_right (show 1 < 2 by decide) hp
    rw [nI_eq (by omega) (by decide)] at q
    omega
theorem s_tetradAt {p : Nat} (hd : 2 ≤ d) (hT : vT I) (hs : s < 2 ^ 24) (h4 : pcn s = 4) (hp : p < 24) (h : K (some (.int (nI (g_t s p)))) (am_st I Lg rr n)) : am_AC d k_M_tetradAt [.ref 1469, .int (nI s), .int (nI p)] (am_st I Lg rr n) K := by
  obtain ⟨d, rfl, hd1⟩ := s_up hd
  unfold g_t at h
  refine am_in _ _ _ (am_step _ _ _ (b_M_tetradAt_0 (s_has hd1 ⟨_, rfl, am_step _ _ _ (b_M_tetradAt_5 ?_)⟩)))
  rw [m_has_n (by omega) (by omega), n_p2 (by omega), n_or]
  cases hb : s.testBit p
  · rw [hb, if_neg (by decide)] at h
    have h5 : pcn (s ||| 2 ^ p) = 5 := by
      rw [pcn_or, hb, h4]
      rfl
    refine ⟨fun _ => s_octadOf hd1 hT (or_lt hs hp) h5 fun o o1 o2 => ⟨_, rfl, am_step _ _ _ (b_M_tetradAt_21 ?_)⟩, fun q => absurd rfl q⟩
    rw [← oc_uni (or_lt hs hp) h5 o1 o2] at h
    rw [n_dif, dif_xor (io_lt o1) (sub_or o2).1, Nat.xor_comm]
    exact h
  · rw [hb, if_pos rfl] at h
    exact ⟨fun q => absurd q (by decide), fun _ => h⟩
theorem s_tetrad {k : Nat} (hd : 5 ≤ d) (hT : vT I) (hs : s < 2 ^ 24) (h4 : pcn s = 4) (hk : k < 6) (h : K (some (.int (nI (g_te s k)))) (am_st I Lg rr n)) : am_AC d k_Go_tetrad [.ref 19, .int (nI s), .int (nI k)] (am_st I Lg rr n) K := by
  obtain ⟨d, rfl, hd1⟩ := s_up hd
  have key : ∀ i, i ≤ k + 1 → ∀ y : Int32, (i = k + 1 → y = nI (g_te s k)) → am_St d k_Go_tetrad (am_st I Lg rr n) K 8 [some (.ref 19), some (.int (nI s)), some (.int (nI k)), some (.int (nI (g_cov s i))), some (.int y), some (.int (nI i)), none] [] (am_st I Lg rr n) := by
    refine lp_up _ (fun i hi ih => ?_) ?_
    · intro y hy
      obtain ⟨lo, lt⟩ := open_i hs h4 (show i < 6 by omega)
      have dl := dif_lt (b := g_cov s i) all_lt
      refine am_step _ _ _ (b_Go_tetrad_8 ⟨fun q => ?_, fun _ => ⟨fun _ => ?_, fun q => absurd (nI_lt (show i < 6 by omega) (by decide)) q⟩⟩)
      · rw [nI_ltI (by omega) (by omega)] at q
        omega
      · rw [n_dif, n_low (by omega) lo]
        refine s_tetradWith hd1 hT hs h4 lt ⟨_, rfl, am_step _ _ _ (b_Go_tetrad_40 ?_)⟩
        rw [n_or, nI_add]
        refine am_fg (le_same _ (le_same _ (le_same _ (le_same _ (le_same _ (le_same _ (le_int _ le_nil))))))) (ih _ (fun e => ?_))
        have : i = k := by omega
        subst this
        rfl
    · intro y hy
      refine am_step _ _ _ (b_Go_tetrad_8 ⟨fun _ => ?_, fun q => absurd (nI_lt (Nat.lt_succ_self k) (by omega)) q⟩)
      rw [hy rfl]
      exact h
  exact am_in _ _ _ (am_step _ _ _ (b_Go_tetrad_0 (key 0 (Nat.zero_le _) _ (fun e => by omega))))
theorem op_sextet (a0 a1 : Int32) : lw_Op (vV G) k_X_sextet k_M_sextet [.int a0, .int a1] := by
  refine op_pure fun I Lg rr n hV => ?_
  have hT := hV.1
  rcases set_cases a0 with ⟨s, s1, rfl, s3, s4⟩ | ⟨s3, s4⟩
  · have pl := pcn_le 24 _ s1
    rcases rng_cases a1 (N := 6) (by decide) (by decide) with ⟨k, k1, rfl, k3, k4, k5⟩ | ⟨k3, k4, k5⟩
    · by_cases h4 : pcn s = 4
      · refine ⟨nI (g_te s k), fun K hK => am_in _ _ _ (am_step _ _ _ (b_X_sextet_0 (s_isNoSet (by decide) ⟨_, rfl, am_step _ _ _ (b_X_sextet_4 ?_)⟩))), fun K hK => am_in _ _ _ (am_step _ _ _ (b_M_sextet_0 (s_isSet (by decide) ⟨_, rfl, am_step _ _ _ (b_M_sextet_4 ?_)⟩)))⟩
        · rw [s3]
          refine ⟨fun _ => s_isOutside (by decide) ⟨_, rfl, am_step _ _ _ (b_X_sextet_13 ?_)⟩, fun q => absurd rfl q⟩
          rw [k3]
          refine ⟨fun _ => s_bitCount (by decide) s1 ⟨_, rfl, am_step _ _ _ (b_X_sextet_22 ?_)⟩, fun q => absurd rfl q⟩
          rw [h4]
          exact ⟨fun _ => s_tetrad (by decide) hT s1 h4 k1 ⟨_, rfl, am_step _ _ _ (b_X_sextet_35 hK)⟩, fun q => absurd rfl q⟩
        · rw [s4]
          refine ⟨fun q => absurd q (by decide), fun _ => s_in (by decide) ⟨_, rfl, am_step _ _ _ (b_M_sextet_16 ?_)⟩⟩
          rw [k5]
          refine ⟨fun q => absurd q (by decide), fun _ => s_bits (by decide) (by omega) ⟨_, rfl, am_step _ _ _ (b_M_sextet_25 ?_)⟩⟩
          rw [h4]
          refine ⟨fun _ => ?_, fun q => absurd rfl q⟩
          have key : ∀ i, i ≤ k + 1 → ∀ y : Int32, (i = k + 1 → y = nI (g_te s k)) → am_St 99 k_M_sextet (am_st I Lg rr n) K 41 [some (.ref 1469), some (.int (nI s)), some (.int (nI k)), some (.int (nI (g_dif 16777215 (g_cov s i)))), some (.int y), some (.int (nI i))] [] (am_st I Lg rr n) := by
            refine lp_up _ (fun i hi ih => ?_) ?_
            · intro y hy
              obtain ⟨lo, lt⟩ := open_i s1 h4 (show i < 6 by omega)
              have dl := dif_lt (b := g_cov s i) all_lt
              refine am_step _ _ _ (b_M_sextet_41 ⟨fun q => ?_, fun _ => s_lowest (by decide) (by omega) ⟨_, rfl, am_step _ _ _ (b_M_sextet_53 (s_tetradAt (by decide) hT s1 h4 lt ⟨_, rfl, am_step _ _ _ (b_M_sextet_56 ?_)⟩))⟩⟩)
              · rw [nI_ltI (by omega) (by omega)] at q
                omega
              · rw [n_dif, dif_or _ _ _ all_lt, nI_add]
                refine ih _ (fun e => ?_)
                have : i = k := by omega
                subst this
                rfl
            · intro y hy
              refine am_step _ _ _ (b_M_sextet_41 ⟨fun _ => ?_, fun q => absurd (nI_lt (Nat.lt_succ_self k) (by omega)) q⟩)
              rw [hy rfl]
              exact hK
          have k0 := key 0 (Nat.zero_le _) (nI 0) (fun e => by omega)
          rw [show g_dif 16777215 (g_cov s 0) = 16777215 from (show g_dif 16777215 0 = 16777215 by decide +kernel)] at k0
          exact k0
      · refine ⟨am_k (-2), fun K hK => am_in _ _ _ (am_step _ _ _ (b_X_sextet_0 (s_isNoSet (by decide) ⟨_, rfl, am_step _ _ _ (b_X_sextet_4 ?_)⟩))), fun K hK => am_in _ _ _ (am_step _ _ _ (b_M_sextet_0 (s_isSet (by decide) ⟨_, rfl, am_step _ _ _ (b_M_sextet_4 ?_)⟩)))⟩
        · rw [s3]
          refine ⟨fun _ => s_isOutside (by decide) ⟨_, rfl, am_step _ _ _ (b_X_sextet_13 ?_)⟩, fun q => absurd rfl q⟩
          rw [k3]
          refine ⟨fun _ => s_bitCount (by decide) s1 ⟨_, rfl, am_step _ _ _ (b_X_sextet_22 ⟨fun q => ?_, fun _ => hK⟩)⟩, fun q => absurd rfl q⟩
          rw [nI_eq (by omega) (by decide)] at q
          exact absurd q h4
        · rw [s4]
          refine ⟨fun q => absurd q (by decide), fun _ => s_in (by decide) ⟨_, rfl, am_step _ _ _ (b_M_sextet_16 ?_)⟩⟩
          rw [k5]
          refine ⟨fun q => absurd q (by decide), fun _ => s_bits (by decide) (by omega) ⟨_, rfl, am_step _ _ _ (b_M_sextet_25 ⟨fun q => ?_, fun _ => hK⟩)⟩⟩
          rw [nI_eq (by omega) (by decide)] at q
          exact absurd q h4
    · refine ⟨am_k (-1), fun K hK => am_in _ _ _ (am_step _ _ _ (b_X_sextet_0 (s_isNoSet (by decide) ⟨_, rfl, am_step _ _ _ (b_X_sextet_4 ?_)⟩))), fun K hK => am_in _ _ _ (am_step _ _ _ (b_M_sextet_0 (s_isSet (by decide) ⟨_, rfl, am_step _ _ _ (b_M_sextet_4 ?_)⟩)))⟩
      · rw [s3]
        refine ⟨fun _ => s_isOutside (by decide) ⟨_, rfl, am_step _ _ _ (b_X_sextet_13 ?_)⟩, fun q => absurd rfl q⟩
        rw [k3]
        exact ⟨fun q => absurd q (by decide), fun _ => hK⟩
      · rw [s4]
        refine ⟨fun q => absurd q (by decide), fun _ => s_in (by decide) ⟨_, rfl, am_step _ _ _ (b_M_sextet_16 ?_)⟩⟩
        rw [k5]
        exact ⟨fun _ => hK, fun q => absurd rfl q⟩
  · refine ⟨am_k (-1), fun K hK => am_in _ _ _ (am_step _ _ _ (b_X_sextet_0 (s_isNoSet (by decide) ⟨_, rfl, am_step _ _ _ (b_X_sextet_4 ?_)⟩))), fun K hK => am_in _ _ _ (am_step _ _ _ (b_M_sextet_0 (s_isSet (by decide) ⟨_, rfl, am_step _ _ _ (b_M_sextet_4 ?_)⟩)))⟩
    · rw [s3]
      exact ⟨fun q => absurd q (by decide), fun _ => hK⟩
    · rw [s4]
      exact ⟨fun _ => hK, fun q => absurd rfl q⟩
end SX
