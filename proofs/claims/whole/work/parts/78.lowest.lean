/-! LOWEST PLACES, DIFFERENCES -/
/-- k is the lowest place of s -/
def g_lo (s k : Nat) : Prop := s.testBit k = true ∧ ∀ j, j < k → s.testBit j = false
theorem lo_uni {s k k' : Nat} (h : g_lo s k) (h' : g_lo s k') : k = k' := by
  rcases Nat.lt_trichotomy k k' with q | q | q
  · have := h'.2 k q
    rw [h.1] at this
    cases this
  · exact q
  · have := h.2 k' q
    rw [h'.1] at this
    cases this
theorem fa1_sp (s : Nat) : ∀ n k, n + k = 31 → (∃ j, k ≤ j ∧ j < 31 ∧ s.testBit j = true) → (∀ j, j < k → s.testBit j = false) → g_lo s (m_low.fa1 s n k)
  | 0, k, hk, ⟨j, j1, j2, _⟩, _ => by omega
  | n + 1, k, hk, ⟨j, j1, j2, j3⟩, h => by
    unfold m_low.fa1
    by_cases hb : s.testBit k = true
    · rw [if_pos hb]
      exact ⟨hb, h⟩
    · rw [if_neg hb]
      have hb2 : s.testBit k = false := by simpa using hb
      refine fa1_sp s n (k + 1) (by omega) ⟨j, ?_, j2, j3⟩ (fun i hi => ?_)
      · have : ¬ j = k := fun e => by rw [e, hb2] at j3; cases j3
        omega
      · by_cases e : i = k
        · rw [e, hb2]
        · exact h i (by omega)
theorem nz_tb {s : Nat} (h : ¬ s = 0) : ∃ j, s.testBit j = true := Nat.exists_testBit_of_ne_zero h
theorem tb_lt {s j n : Nat} (hs : s < 2 ^ n) (h : s.testBit j = true) : j < n := by
  rcases Nat.lt_or_ge j n with q | q
  · exact q
  · rw [Nat.testBit_lt_two_pow (Nat.lt_of_lt_of_le hs (Nat.pow_le_pow_right (by decide) q))] at h
    cases h
theorem low_lo {s : Nat} (hs : s < 2 ^ 31) (h0 : ¬ s = 0) : g_lo s (m_low s) := by
  obtain ⟨j, hj⟩ := nz_tb h0
  exact fa1_sp s 31 0 rfl ⟨j, Nat.zero_le _, tb_lt hs hj, hj⟩ (fun i hi => absurd hi (Nat.not_lt_zero i))
theorem and_compl {q m : Nat} (h : q < 2 ^ m) : q &&& (2 ^ m - (q + 1)) = 0 := by
  apply Nat.eq_of_testBit_eq
  intro j
  rw [Nat.testBit_and, Nat.testBit_two_pow_sub_succ h, Nat.zero_testBit]
  cases q.testBit j
  · rfl
  · rw [Bool.not_true, Bool.and_false]
    rfl
theorem low_form {s k : Nat} (h : g_lo s k) : s = 2 ^ k * (2 * (s / 2 ^ (k + 1)) + 1) := by
  apply Nat.eq_of_testBit_eq
  intro j
  rw [Nat.testBit_two_pow_mul]
  by_cases hj : k ≤ j
  · rw [decide_eq_true (show j ≥ k from hj), Bool.true_and]
    by_cases e : j = k
    · subst e
      rw [h.1, Nat.sub_self, Nat.testBit_zero]
      symm
      apply decide_eq_true
      omega
    · rw [show j - k = (j - k - 1) + 1 by omega, Nat.testBit_succ, show (2 * (s / 2 ^ (k + 1)) + 1) / 2 = s / 2 ^ (k + 1) by omega, Nat.testBit_div_two_pow]
      congr 1
      omega
  · rw [decide_eq_false hj, h.2 j (by omega)]
    rfl
theorem low_and {s k : Nat} (hs : s < 2 ^ 32) (h : g_lo s k) : s &&& (2 ^ 32 - s) = 2 ^ k := by
  have hk := tb_lt hs h.1
  have e := low_form h
  have hq : s / 2 ^ (k + 1) < 2 ^ (31 - k) := by
    rw [Nat.div_lt_iff_lt_mul (Nat.two_pow_pos _), ← Nat.pow_add, show 31 - k + (k + 1) = 32 by omega]
    exact hs
  generalize s / 2 ^ (k + 1) = q at *
  have e2 : 2 ^ 32 - s = 2 ^ k * (2 * (2 ^ (31 - k) - (q + 1)) + 1) := by
    have p1 : 2 ^ 32 = 2 ^ k * (2 * 2 ^ (31 - k)) := by
      rw [show 2 * 2 ^ (31 - k) = 2 ^ (31 - k + 1) by rw [Nat.pow_succ, Nat.mul_comm], ← Nat.pow_add, show k + (31 - k + 1) = 32 by omega]
    rw [p1, e, ← Nat.mul_sub]
    congr 1
    omega
  have a1 := n_spl (k := k) (a := 2 * q + 1) (b := 0) (c := 2 * (2 ^ (31 - k) - (q + 1)) + 1) (e := 0) (Nat.two_pow_pos k) (Nat.two_pow_pos k)
  simp only [Nat.add_zero, Nat.and_zero] at a1
  have a2 := n_spl (k := 1) (a := q) (b := 1) (c := 2 ^ (31 - k) - (q + 1)) (e := 1) (by decide) (by decide)
  rw [Nat.pow_one, and_compl hq] at a2
  rw [e2]
  conv => lhs; lhs; rw [e]
  rw [a1, a2]
  exact Nat.mul_one _
theorem n_negn {s : Nat} (h : s < 2 ^ 32) : 0 - nI s = nI (2 ^ 32 - s) := by
  have e : nI (2 ^ 32 - s) + nI s = nI 0 := by
    rw [nI_add, Nat.sub_add_cancel (by omega)]
    rfl
  have e2 : nI 0 - nI s = nI (2 ^ 32 - s) := by
    rw [← e, Int32.sub_eq_add_neg, Int32.add_assoc, ← Int32.sub_eq_add_neg, Int32.sub_self, Int32.add_zero]
  exact e2
/-- the lowest place as the class finds it -/
theorem n_low {s k : Nat} (hs : s < 2 ^ 32) (h : g_lo s k) : nI s &&& (0 - nI s) = nI (2 ^ k) := by
  rw [n_negn hs, n_and, low_and hs h]
/-- a without b -/
def g_dif (a b : Nat) : Nat := a &&& (b ^^^ 4294967295)
theorem n_dif (a b : Nat) : nI a &&& (nI b ^^^ am_k (-1)) = nI (g_dif a b) := by rw [am_m1, n_xor, n_and]; rfl
theorem dif_lt {a b : Nat} (h : a < 2 ^ 24) : g_dif a b < 2 ^ 24 := Nat.lt_of_le_of_lt Nat.and_le_left h
theorem dif_tb {a b : Nat} (h : a < 2 ^ 24) (j : Nat) : (g_dif a b).testBit j = (a.testBit j && !b.testBit j) := by
  unfold g_dif
  rw [Nat.testBit_and, Nat.testBit_xor]
  cases ha : a.testBit j
  · rfl
  · have hj := tb_lt h ha
    rw [show (4294967295 : Nat) = 2 ^ 32 - 1 by decide, Nat.testBit_two_pow_sub_one, decide_eq_true (show j < 32 by omega)]
    cases b.testBit j <;> rfl
theorem dif_xor {a b : Nat} (h : a < 2 ^ 24) (hs : g_sub b a) : g_dif a b = a ^^^ b := by
  apply Nat.eq_of_testBit_eq
  intro j
  rw [dif_tb h, Nat.testBit_xor]
  have q := sub_tb.mp hs j
  cases hb : b.testBit j
  · rw [Bool.not_false, Bool.and_true, Bool.xor_false]
  · rw [q hb]
    rfl
theorem dif_0 {a b : Nat} (h : a < 2 ^ 24) : g_dif a b = 0 ↔ g_sub a b := by
  rw [sub_tb]
  constructor
  · intro e j hj
    have q := dif_tb (b := b) h j
    rw [e, Nat.zero_testBit, hj] at q
    cases hb : b.testBit j
    · rw [hb] at q
      cases q
    · rfl
  · intro e
    apply Nat.eq_of_testBit_eq
    intro j
    rw [dif_tb h, Nat.zero_testBit]
    cases ha : a.testBit j
    · rfl
    · rw [e j ha]
      rfl
theorem and_p2 {s k : Nat} : s &&& 2 ^ k = if s.testBit k then 2 ^ k else 0 := by
  apply Nat.eq_of_testBit_eq
  intro j
  rw [Nat.testBit_and, tb_p2]
  by_cases e : k = j
  · subst e
    cases s.testBit k
    · rw [Bool.false_and]
      exact (Nat.zero_testBit k).symm
    · rw [decide_eq_true rfl, if_pos rfl, tb_p2, decide_eq_true rfl]
      rfl
  · rw [decide_eq_false e, Bool.and_false]
    split
    · rw [tb_p2, decide_eq_false e]
    · rw [Nat.zero_testBit]
