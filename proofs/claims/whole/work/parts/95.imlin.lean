/-! IMAGES ARE LINEAR -/
theorem im_tb (f : Nat → Nat) (s j : Nat) : ∀ q, (g_im f s q).testBit j = true ↔ ∃ p, p < q ∧ s.testBit p = true ∧ f p = j
  | 0 => by
    rw [show g_im f s 0 = 0 from rfl, Nat.zero_testBit]
    exact ⟨fun h => (by cases h), fun ⟨p, h, _⟩ => absurd h (Nat.not_lt_zero p)⟩
  | q + 1 => by
    rw [im_s, Nat.testBit_or, Bool.or_eq_true, im_tb f s j q]
    constructor
    · rintro (⟨p, h1, h2, h3⟩ | h)
      · exact ⟨p, by omega, h2, h3⟩
      · by_cases c : s.testBit q = true
        · rw [if_pos c, tb_p2] at h
          exact ⟨q, by omega, c, of_decide_eq_true h⟩
        · rw [if_neg c, Nat.zero_testBit] at h
          cases h
    · rintro ⟨p, h1, h2, h3⟩
      by_cases c : p = q
      · subst c
        rw [if_pos h2, tb_p2]
        exact Or.inr (decide_eq_true h3)
      · exact Or.inl ⟨p, by omega, h2, h3⟩
theorem im_at {f : Nat → Nat} (hf : a_pm f) {s p : Nat} (hp : p < 24) : (g_im f s 24).testBit (f p) = s.testBit p := by
  rw [Bool.eq_iff_iff, im_tb]
  constructor
  · rintro ⟨q, h1, h2, h3⟩
    rw [← hf.2 q p h1 hp h3]
    exact h2
  · intro h
    exact ⟨p, hp, h, rfl⟩
theorem im_xor {f : Nat → Nat} (hf : a_pm f) (a b : Nat) : g_im f (a ^^^ b) 24 = g_im f a 24 ^^^ g_im f b 24 := by
  refine Nat.eq_of_testBit_eq fun j => ?_
  by_cases c : ∃ p, p < 24 ∧ f p = j
  · obtain ⟨p, hp, rfl⟩ := c
    rw [Nat.testBit_xor, im_at hf hp, im_at hf hp, im_at hf hp, Nat.testBit_xor]
  · have no : ∀ s, (g_im f s 24).testBit j = false := fun s => Bool.eq_false_iff.mpr fun h => by
      obtain ⟨p, h1, h2, h3⟩ := (im_tb f s j 24).mp h
      exact c ⟨p, h1, h3⟩
    rw [Nat.testBit_xor, no, no, no]
    rfl
theorem W_basis : ∀ k, k < 12 → g_W (2 ^ k) = g_B k := by decide +kernel
theorem g_W_xor (a b : Nat) : g_W (a ^^^ b) = g_W a ^^^ g_W b := gs_xor _ _ _ _
theorem g_W_0 : g_W 0 = 0 := by decide +kernel
theorem tb_top {i q : Nat} (h : i < 2 ^ (q + 1)) (hb : i.testBit q = true) : i ^^^ 2 ^ q < 2 ^ q := by
  refine Nat.lt_pow_two_of_testBit _ fun j hj => ?_
  rw [Nat.testBit_xor, tb_p2]
  by_cases e : q = j
  · subst e
    rw [hb, decide_eq_true rfl]
    rfl
  · rw [Nat.testBit_lt_two_pow (Nat.lt_of_lt_of_le h (Nat.pow_le_pow_right (by decide) (show q + 1 ≤ j by omega)))]
    rw [decide_eq_false (by omega)]
    rfl
theorem tb_top0 {i q : Nat} (h : i < 2 ^ (q + 1)) (hb : ¬ i.testBit q = true) : i < 2 ^ q := by
  refine Nat.lt_pow_two_of_testBit _ fun j hj => ?_
  by_cases e : q = j
  · subst e
    exact Bool.eq_false_iff.mpr hb
  · exact Nat.testBit_lt_two_pow (Nat.lt_of_lt_of_le h (Nat.pow_le_pow_right (by decide) (show q + 1 ≤ j by omega)))
/-- a move that keeps the basis keeps all words -/
theorem im_word {f : Nat → Nat} (hf : a_pm f) (hk : g_pvb f = true) : ∀ q, q ≤ 12 → ∀ i, i < 2 ^ q → g_isw (g_im f (g_W i) 24)
  | 0, _, i, hi => by
    have : i = 0 := by omega
    subst this
    rw [g_W_0, im_0]
    exact isw_0
  | q + 1, hq, i, hi => by
    by_cases c : i.testBit q = true
    · have e : i = (i ^^^ 2 ^ q) ^^^ 2 ^ q := by rw [Nat.xor_assoc, Nat.xor_self, Nat.xor_zero]
      have h1 := im_word hf hk q (by omega) _ (tb_top hi c)
      rw [e, g_W_xor, im_xor hf, W_basis q (by omega)]
      exact isw_xor h1 ((pvq_b 12).mp hk q (by omega))
    · exact im_word hf hk q (by omega) i (tb_top0 hi c)
theorem im_isw {f : Nat → Nat} (hf : a_pm f) (hk : g_pvb f = true) {s : Nat} (h : g_isw s) : g_isw (g_im f s 24) := by
  have e : s = g_w (g_pl s) := h
  rw [e, ← g_W_N]
  exact im_word hf hk 12 (Nat.le_refl _) _ (g_N_lt _)
theorem im_pcn {f : Nat → Nat} (hf : a_pm f) : ∀ q, q ≤ 24 → ∀ s, s < 2 ^ q → pcn (g_im f s 24) = pcn s
  | 0, _, s, hs => by
    have : s = 0 := by omega
    subst this
    rw [im_0]
  | q + 1, hq, s, hs => by
    by_cases c : s.testBit q = true
    · have t := tb_top hs c
      have e : (s ^^^ 2 ^ q) ^^^ 2 ^ q = s := by rw [Nat.xor_assoc, Nat.xor_self, Nat.xor_zero]
      have ih := im_pcn hf q (by omega) _ t
      have b0 : (s ^^^ 2 ^ q).testBit q = false := by
        rw [Nat.testBit_xor, c, tb_p2, decide_eq_true rfl]
        rfl
      have i2 : g_im f (2 ^ q) 24 = 2 ^ f q := by
        refine Nat.eq_of_testBit_eq fun j => ?_
        rw [Bool.eq_iff_iff, im_tb, tb_p2]
        constructor
        · rintro ⟨p, h1, h2, h3⟩
          rw [tb_p2] at h2
          have := of_decide_eq_true h2
          rw [← this] at h3
          exact decide_eq_true h3
        · intro h
          exact ⟨q, by omega, by rw [tb_p2]; exact decide_eq_true rfl, of_decide_eq_true h⟩
      have n1 := pcn_flip q _ b0
      have n2 := pcn_flip (f q) (g_im f (s ^^^ 2 ^ q) 24) (by rw [im_at hf (by omega)]; exact b0)
      rw [e] at n1
      rw [← i2, ← im_xor hf, e] at n2
      omega
    · exact im_pcn hf q (by omega) s (tb_top0 hs c)
theorem im_inj {f : Nat → Nat} (hf : a_pm f) {a b : Nat} (ha : a < 2 ^ 24) (hb : b < 2 ^ 24) (e : g_im f a 24 = g_im f b 24) : a = b := by
  refine Nat.eq_of_testBit_eq fun j => ?_
  by_cases c : j < 24
  · rw [← im_at hf c, e, im_at hf c]
  · rw [Nat.testBit_lt_two_pow (Nat.lt_of_lt_of_le ha (Nat.pow_le_pow_right (by decide) (by omega))), Nat.testBit_lt_two_pow (Nat.lt_of_lt_of_le hb (Nat.pow_le_pow_right (by decide) (by omega)))]
