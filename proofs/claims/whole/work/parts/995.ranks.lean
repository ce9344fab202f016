/-! GROUPS: THE RANK IN THE CODE; RESTS OF FOURS -/
def g_a4 (F : Nat) : Nat := m_low (F &&& (F - 1))
def g_b4 (F : Nat) : Nat := m_low (g_dif (g_dif F 1) (2 ^ g_a4 F))
def g_rf (F : Nat) : Nat := g_rk (g_a4 F) (g_b4 F) (m_high F 23)
theorem high_at {F c : Nat} (hc : F.testBit c = true) (hn : ∀ j, c < j → F.testBit j = false) : ∀ k, c ≤ k → m_high F k = c
  | 0, h => by
    have : c = 0 := by omega
    rw [this]
    rfl
  | k + 1, h => by
    unfold m_high
    by_cases e : c = k + 1
    · rw [← e, hc, if_pos rfl]
    · rw [hn (k + 1) (by omega), if_neg (by decide)]
      exact high_at hc hn k (by omega)
theorem and_pred {F : Nat} (h : F.testBit 0 = true) (j : Nat) : (F &&& (F - 1)).testBit j = (F.testBit j && !decide (j = 0)) := by
  have o : F % 2 = 1 := by rw [Nat.testBit_zero] at h; exact of_decide_eq_true h
  have e : F - 1 = 2 * (F / 2) := by omega
  rw [Nat.testBit_and, e]
  cases j with
  | zero => rw [Nat.testBit_zero, Nat.testBit_zero, Nat.mul_mod_right]; simp
  | succ j =>
    rw [Nat.testBit_succ, Nat.testBit_succ, Nat.mul_div_cancel_left _ (by decide), Bool.and_self, decide_eq_false (by omega)]
    simp
theorem abc_4 {a b c : Nat} (h0 : 0 < a) (h1 : a < b) (h2 : b < c) (h3 : c < 24) : g_a4 (g_4 a b c) = a ∧ g_b4 (g_4 a b c) = b ∧ m_high (g_4 a b c) 23 = c := by
  obtain ⟨l24, _, _⟩ := is4_4 h0 h1 h2 h3
  have t0 : (g_4 a b c).testBit 0 = true := tb4_iff.mpr (Or.inl rfl)
  have no : ∀ j, ¬ (j = 0 ∨ j = a ∨ j = b ∨ j = c) → (g_4 a b c).testBit j = false := fun j hj => Bool.eq_false_iff.mpr fun q => hj (tb4_iff.mp q)
  have ea : g_a4 (g_4 a b c) = a := by
    have la : g_lo (g_4 a b c &&& (g_4 a b c - 1)) a := by
      refine ⟨?_, fun j hj => ?_⟩
      · rw [and_pred t0, tb4_iff.mpr (Or.inr (Or.inl rfl)), decide_eq_false (by omega)]
        rfl
      · rw [and_pred t0]
        by_cases c0 : j = 0
        · rw [decide_eq_true c0, Bool.not_true, Bool.and_false]
        · rw [no j (by omega)]
          rfl
    exact lo_uni (low_lo (Nat.lt_of_le_of_lt Nat.and_le_left (by omega)) (fun e => by have := la.1; rw [e, Nat.zero_testBit] at this; cases this)) la
  refine ⟨ea, ?_, high_at (tb4_iff.mpr (Or.inr (Or.inr (Or.inr rfl)))) (fun j hj => no j (by omega)) 23 (by omega)⟩
  unfold g_b4
  rw [ea]
  have dt : ∀ j, (g_dif (g_dif (g_4 a b c) 1) (2 ^ a)).testBit j = ((g_4 a b c).testBit j && !decide (0 = j) && !decide (a = j)) := fun j => by
    rw [dif_tb (dif_lt l24), dif_tb l24, tb_p2, show (1 : Nat) = 2 ^ 0 from rfl, tb_p2]
  have lb : g_lo (g_dif (g_dif (g_4 a b c) 1) (2 ^ a)) b := by
    refine ⟨?_, fun j hj => ?_⟩
    · rw [dt, tb4_iff.mpr (Or.inr (Or.inr (Or.inl rfl))), decide_eq_false (by omega), decide_eq_false (by omega)]
      rfl
    · rw [dt]
      by_cases c0 : 0 = j
      · rw [decide_eq_true c0, Bool.not_true, Bool.and_false, Bool.false_and]
      · by_cases c1 : a = j
        · rw [decide_eq_true c1, Bool.not_true, Bool.and_false]
        · rw [no j (by omega)]
          rfl
  exact lo_uni (low_lo (by have := dif_lt (b := 2 ^ a) (dif_lt (b := 1) l24); omega) (fun e => by have := lb.1; rw [e, Nat.zero_testBit] at this; cases this)) lb
theorem rf_4 {a b c : Nat} (h0 : 0 < a) (h1 : a < b) (h2 : b < c) (h3 : c < 24) : g_rf (g_4 a b c) = g_rk a b c := by
  obtain ⟨e1, e2, e3⟩ := abc_4 h0 h1 h2 h3
  unfold g_rf
  rw [e1, e2, e3]
theorem rf_lt {F : Nat} (h : is4 F) : g_rf F < 4096 := by
  obtain ⟨a, b, c, h0, h1, h2, h3, rfl⟩ := is4_ex h
  rw [rf_4 h0 h1 h2 h3]
  exact (rk_in c h3 b h2 a h1 h0).2.2.1
theorem rf_inj {F F' : Nat} (h : is4 F) (h' : is4 F') (e : g_rf F = g_rf F') : F = F' := by
  obtain ⟨a, b, c, h0, h1, h2, h3, rfl⟩ := is4_ex h
  obtain ⟨a', b', c', k0, k1, k2, k3, rfl⟩ := is4_ex h'
  rw [rf_4 h0 h1 h2 h3, rf_4 k0 k1 k2 k3] at e
  obtain ⟨rfl, rfl, rfl⟩ := rk_inj h0 h1 h2 h3 k0 k1 k2 k3 e
  rfl
theorem s_rankOf {d F : Nat} {M : am_M} {K : Option Value → am_M → Prop} (hd : 3 ≤ d) (h4 : is4 F) (h : K (some (.int (nI (g_rf F)))) M) : am_AC d k_M_rankOf [.int (nI F)] M K := by
  obtain ⟨d, rfl, hd1⟩ := s_up hd
  obtain ⟨a, b, c, h0, h1, h2, h3, rfl⟩ := is4_ex h4
  obtain ⟨e1, e2, e3⟩ := abc_4 h0 h1 h2 h3
  obtain ⟨l24, _, t0⟩ := h4
  have f1 : 1 ≤ g_4 a b c := by
    have := Nat.ge_two_pow_of_testBit t0
    exact this
  rw [rf_4 h0 h1 h2 h3] at h
  refine am_in _ _ _ (am_step _ _ _ (p_M_rankOf_0 ?_))
  rw [pk_sub f1, n_and]
  refine s_lowest hd1 (Nat.lt_of_le_of_lt Nat.and_le_left (by omega)) ⟨_, rfl, am_step _ _ _ (p_M_rankOf_8 ?_)⟩
  rw [show m_low (g_4 a b c &&& (g_4 a b c - 1)) = a from e1, n_p2 (by omega), show am_k (-2) = nI 1 ^^^ am_k (-1) by decide +kernel, n_dif, n_dif]
  unfold g_b4 at e2
  rw [e1] at e2
  refine s_lowest hd1 (by have := dif_lt (b := 2 ^ a) (dif_lt (b := 1) l24); omega) ⟨_, rfl, am_step _ _ _ (p_M_rankOf_22 (s_highest hd1 (by omega) ⟨_, rfl, am_step _ _ _ (p_M_rankOf_27 ?_)⟩))⟩
  rw [e2, e3]
  have q1 : nI c - nI 1 = nI (c - 1) := pk_sub (by omega)
  have q2 : nI c - nI 2 = nI (c - 2) := pk_sub (by omega)
  have q3 : nI c - nI 3 = nI (c - 3) := pk_sub (by omega)
  have q4 : nI b - nI 1 = nI (b - 1) := pk_sub (by omega)
  have q5 : nI b - nI 2 = nI (b - 2) := pk_sub (by omega)
  have m1 : (c - 1) * (c - 2) * (c - 3) < 2 ^ 31 := by
    have : (c - 1) * (c - 2) ≤ 22 * 22 := Nat.mul_le_mul (by omega) (by omega)
    have : (c - 1) * (c - 2) * (c - 3) ≤ 22 * 22 * 22 := Nat.mul_le_mul this (by omega)
    omega
  have m2 : (b - 1) * (b - 2) < 2 ^ 31 := by
    have : (b - 1) * (b - 2) ≤ 22 * 22 := Nat.mul_le_mul (by omega) (by omega)
    omega
  rw [q1, q2, q3, q4, q5, pk_mul, pk_mul, pk_mul, pk_div m1 (by decide) (by decide), pk_div m2 (by decide) (by decide), nI_add, nI_add, pk_sub (by omega)]
  exact h
theorem r_small {x : Nat} (h : x < 4096) : g_r x = x := by
  have : g_pl x = 0 := by
    unfold g_pl
    omega
  unfold g_r
  rw [this, g_w_0, Nat.xor_zero]
  exact Nat.mod_eq_of_lt h
theorem r_word {F : Nat} (h : F < 2 ^ 24) : g_isw (F ^^^ g_r F) := by
  have rl := g_r_lt F
  rw [isw_r (xor_lt h (by omega)), g_r_xor, r_small rl, Nat.xor_self]
theorem xor_eq0 {a b : Nat} (h : a ^^^ b = 0) : a = b := by
  have e : a ^^^ b ^^^ b = b := by rw [h, Nat.zero_xor]
  rw [Nat.xor_assoc, Nat.xor_self, Nat.xor_zero] at e
  exact e
theorem go_r {f : Nat → Nat} (hf : a_pm f) (hk : g_pvb f = true) {F : Nat} (h : F < 2 ^ 24) : g_go 2 f (g_r F) = g_r (g_im f F 24) := by
  have w := im_isw hf hk (r_word h)
  rw [im_xor hf, isw_r (xor_lt (im_lt hf.1 _ 24 (Nat.le_refl _)) (im_lt hf.1 _ 24 (Nat.le_refl _))), g_r_xor] at w
  unfold g_go
  rw [if_neg (by decide), if_neg (by decide)]
  exact (xor_eq0 w).symm
theorem four_inj {F F' : Nat} (h : is4 F) (h' : is4 F') (e : g_r F = g_r F') : F = F' := by
  obtain ⟨h1, h2, h3⟩ := h
  obtain ⟨k1, k2, k3⟩ := h'
  have w : g_isw (F ^^^ F') := (isw_r (xor_lt h1 k1)).mpr (by rw [g_r_xor, e, Nat.xor_self])
  have p := pcn_xa F F'
  have z : ¬ pcn (F &&& F') = 0 := fun q => by
    have q := pcn_z _ q
    have t : (F &&& F').testBit 0 = true := by rw [Nat.testBit_and, h3, k3]; rfl
    rw [q, Nat.zero_testBit] at t
    cases t
  exact xor_eq0 (isw_small w (by omega))
theorem four_by {f : Nat → Nat} (hf : a_pm f) (hk : g_pvb f = true) {F : Nat} (h : is4 F) : is4 (g_t (g_im f F 24) 0) ∧ g_r (g_t (g_im f F 24) 0) = g_go 2 f (g_r F) := by
  obtain ⟨h1, h2, h3⟩ := h
  have il := im_lt hf.1 F 24 (Nat.le_refl _)
  have ip : pcn (g_im f F 24) = 4 := by rw [im_pcn hf 24 (Nat.le_refl _) _ h1, h2]
  obtain ⟨t1, t2, t3, t4⟩ := t_all il ip (p := 0) (by decide)
  refine ⟨⟨t4, t2, t1⟩, ?_⟩
  rw [go_r hf hk h1]
  rw [isw_r (xor_lt il t4), g_r_xor] at t3
  exact (xor_eq0 t3).symm
