/-! GROUPS: SETS OF FOUR WITH THE PLACE 0, AND THEIR RANKS -/
def g_4 (a b c : Nat) : Nat := 1 ||| 2 ^ a ||| 2 ^ b ||| 2 ^ c
/-- a leader of four places -/
def is4 (F : Nat) : Prop := F < 2 ^ 24 ∧ pcn F = 4 ∧ F.testBit 0 = true
theorem tbq (a b c j : Nat) : (g_4 a b c).testBit j = (decide (0 = j) || decide (a = j) || decide (b = j) || decide (c = j)) := by
  unfold g_4
  rw [Nat.testBit_or, Nat.testBit_or, Nat.testBit_or, tb_p2, tb_p2, tb_p2, show (1 : Nat) = 2 ^ 0 from rfl, tb_p2]
theorem tb4_iff {a b c j : Nat} : (g_4 a b c).testBit j = true ↔ (j = 0 ∨ j = a ∨ j = b ∨ j = c) := by
  rw [tbq, Bool.or_eq_true, Bool.or_eq_true, Bool.or_eq_true, decide_eq_true_iff, decide_eq_true_iff, decide_eq_true_iff, decide_eq_true_iff]
  omega
theorem is4_4 {a b c : Nat} (h0 : 0 < a) (h1 : a < b) (h2 : b < c) (h3 : c < 24) : is4 (g_4 a b c) := by
  refine ⟨Nat.or_lt_two_pow (Nat.or_lt_two_pow (Nat.or_lt_two_pow (by decide) (Nat.pow_lt_pow_right (by decide) (by omega))) (Nat.pow_lt_pow_right (by decide) (by omega))) (Nat.pow_lt_pow_right (by decide) h3), ?_, tb4_iff.mpr (Or.inl rfl)⟩
  unfold g_4
  have n1 : ((1 : Nat) ||| 2 ^ a ||| 2 ^ b).testBit c = false := by
    rw [Nat.testBit_or, Nat.testBit_or, tb_p2, tb_p2, show (1 : Nat) = 2 ^ 0 from rfl, tb_p2, decide_eq_false (by omega), decide_eq_false (by omega), decide_eq_false (by omega)]
    rfl
  have n2 : ((1 : Nat) ||| 2 ^ a).testBit b = false := by
    rw [Nat.testBit_or, tb_p2, show (1 : Nat) = 2 ^ 0 from rfl, tb_p2, decide_eq_false (by omega), decide_eq_false (by omega)]
    rfl
  have n3 : (1 : Nat).testBit a = false := by
    rw [show (1 : Nat) = 2 ^ 0 from rfl, tb_p2, decide_eq_false (by omega)]
  rw [pcn_or, n1, if_neg (by decide), pcn_or, n2, if_neg (by decide), pcn_or, n3, if_neg (by decide), show (1 : Nat) = 2 ^ 0 from rfl, pcn_p2]
theorem rem_low {F : Nat} (h : ¬ F = 0) (hF : F < 2 ^ 24) : ∃ a, a < 24 ∧ F.testBit a = true ∧ (∀ j, j < a → F.testBit j = false) ∧ pcn F = pcn (F ^^^ 2 ^ a) + 1 ∧ F ^^^ 2 ^ a < 2 ^ 24 ∧ ∀ j, (F ^^^ 2 ^ a).testBit j = (F.testBit j && !decide (j = a)) := by
  have lo := low_lo (s := F) (by omega) h
  have l24 := tb_lt hF lo.1
  refine ⟨m_low F, l24, lo.1, lo.2, pcn_flip1 lo.1, xor_lt hF (Nat.pow_lt_pow_right (by decide) l24), fun j => ?_⟩
  rw [Nat.testBit_xor, tb_p2]
  by_cases c : j = m_low F
  · rw [c, lo.1, decide_eq_true rfl]
    rfl
  · rw [decide_eq_false c, decide_eq_false (fun q => c q.symm)]
    cases F.testBit j <;> rfl
theorem is4_ex {F : Nat} (h : is4 F) : ∃ a b c, 0 < a ∧ a < b ∧ b < c ∧ c < 24 ∧ F = g_4 a b c := by
  obtain ⟨h1, h2, h3⟩ := h
  obtain ⟨z, z1, z2, z3, z4, z5, z6⟩ := rem_low (F := F) (fun e => by rw [e, pcn_0] at h2; cases h2) h1
  have z0 : z = 0 := by
    by_cases c : z = 0
    · exact c
    · rw [z3 0 (by omega)] at h3
      cases h3
  subst z0
  obtain ⟨a, a1, a2, a3, a4, a5, a6⟩ := rem_low (F := F ^^^ 2 ^ 0) (fun e => by rw [e, pcn_0] at z4; omega) z5
  obtain ⟨b, b1, b2, b3, b4, b5, b6⟩ := rem_low (F := F ^^^ 2 ^ 0 ^^^ 2 ^ a) (fun e => by rw [e, pcn_0] at a4; omega) a5
  obtain ⟨c, c1, c2, c3, c4, c5, c6⟩ := rem_low (F := F ^^^ 2 ^ 0 ^^^ 2 ^ a ^^^ 2 ^ b) (fun e => by rw [e, pcn_0] at b4; omega) b5
  have e0 : F ^^^ 2 ^ 0 ^^^ 2 ^ a ^^^ 2 ^ b ^^^ 2 ^ c = 0 := pcn_z _ (by omega)
  have na : ¬ a = 0 := fun e => by
    rw [e, z6] at a2
    simp at a2
  have nb : a < b := by
    rw [a6, Bool.and_eq_true] at b2
    have n : ¬ b = a := by simpa using b2.2
    by_cases q : b < a
    · rw [a3 b q] at b2
      cases b2.1
    · omega
  have nc : b < c := by
    rw [b6, Bool.and_eq_true] at c2
    have n : ¬ c = b := by simpa using c2.2
    by_cases q : c < b
    · rw [b3 c q] at c2
      cases c2.1
    · omega
  refine ⟨a, b, c, by omega, nb, nc, c1, Nat.eq_of_testBit_eq fun j => ?_⟩
  have t : (F ^^^ 2 ^ 0 ^^^ 2 ^ a ^^^ 2 ^ b ^^^ 2 ^ c).testBit j = false := by rw [e0, Nat.zero_testBit]
  rw [c6, b6, a6, z6] at t
  rw [tbq]
  have ta : F.testBit a = true := by rw [z6, Bool.and_eq_true] at a2; exact a2.1
  have tb : F.testBit b = true := by rw [a6, z6, Bool.and_eq_true, Bool.and_eq_true] at b2; exact b2.1.1
  have tc : F.testBit c = true := by rw [b6, a6, z6, Bool.and_eq_true, Bool.and_eq_true, Bool.and_eq_true] at c2; exact c2.1.1.1
  by_cases q0 : j = 0
  · rw [q0, h3]; rfl
  · by_cases qa : j = a
    · rw [qa, ta, decide_eq_true rfl, Bool.or_true, Bool.true_or, Bool.true_or]
    · by_cases qb : j = b
      · rw [qb, tb, decide_eq_true (rfl : b = b), Bool.or_true, Bool.true_or]
      · by_cases qc : j = c
        · rw [qc, tc, decide_eq_true (rfl : c = c), Bool.or_true]
        · rw [decide_eq_false q0, decide_eq_false qa, decide_eq_false qb, decide_eq_false qc] at t
          rw [decide_eq_false (fun e => q0 e.symm), decide_eq_false (fun e => qa e.symm), decide_eq_false (fun e => qb e.symm), decide_eq_false (fun e => qc e.symm)]
          simpa using t
def g_f3 (c : Nat) : Nat := (c - 1) * (c - 2) * (c - 3) / 6
def g_f2 (b : Nat) : Nat := (b - 1) * (b - 2) / 2
def g_rk (a b c : Nat) : Nat := g_f3 c + g_f2 b + a - 1
def rk_c (a b c : Nat) : Bool := decide (0 < a) == false || (decide (g_f3 c ≤ g_rk a b c) && decide (g_rk a b c < g_f3 (c + 1)) && decide (g_rk a b c < 4096) && decide (g_f2 b + a - 1 < g_f2 (b + 1)) && decide (g_f2 b ≤ g_f2 b + a - 1) && decide (g_rk a b c = g_f3 c + (g_f2 b + a - 1)))
theorem rk_all : ∀ c, c < 24 → ∀ b, b < c → ∀ a, a < b → rk_c a b c = true := by decide +kernel
theorem rk_in : ∀ c, c < 24 → ∀ b, b < c → ∀ a, a < b → 0 < a → g_f3 c ≤ g_rk a b c ∧ g_rk a b c < g_f3 (c + 1) ∧ g_rk a b c < 4096 ∧ g_f2 b + a - 1 < g_f2 (b + 1) ∧ g_f2 b ≤ g_f2 b + a - 1 ∧ g_rk a b c = g_f3 c + (g_f2 b + a - 1) := by
  intro c h1 b h2 a h3 h4
  have h := rk_all c h1 b h2 a h3
  unfold rk_c at h
  rw [decide_eq_true h4, show ((true == false) = false) from rfl, Bool.false_or, Bool.and_eq_true, Bool.and_eq_true, Bool.and_eq_true, Bool.and_eq_true, Bool.and_eq_true, decide_eq_true_iff, decide_eq_true_iff, decide_eq_true_iff, decide_eq_true_iff, decide_eq_true_iff, decide_eq_true_iff] at h
  exact ⟨h.1.1.1.1.1, h.1.1.1.1.2, h.1.1.1.2, h.1.1.2, h.1.2, h.2⟩
theorem f3_up : ∀ c, c < 24 → ∀ e, e < 24 → c < e → g_f3 (c + 1) ≤ g_f3 e := by decide +kernel
theorem f2_up : ∀ c, c < 24 → ∀ e, e < 24 → c < e → g_f2 (c + 1) ≤ g_f2 e := by decide +kernel
theorem rk_inj {a b c a' b' c' : Nat} (h0 : 0 < a) (h1 : a < b) (h2 : b < c) (h3 : c < 24) (k0 : 0 < a') (k1 : a' < b') (k2 : b' < c') (k3 : c' < 24) (e : g_rk a b c = g_rk a' b' c') : a = a' ∧ b = b' ∧ c = c' := by
  obtain ⟨p1, p2, _, p3, p4, p5⟩ := rk_in c h3 b h2 a h1 h0
  obtain ⟨q1, q2, _, q3, q4, q5⟩ := rk_in c' k3 b' k2 a' k1 k0
  have ec : c = c' := by
    rcases Nat.lt_trichotomy c c' with r | r | r
    · have := f3_up c h3 c' k3 r
      omega
    · exact r
    · have := f3_up c' k3 c h3 r
      omega
  subst ec
  have eb : b = b' := by
    rcases Nat.lt_trichotomy b b' with r | r | r
    · have := f2_up b (by omega) b' (by omega) r
      omega
    · exact r
    · have := f2_up b' (by omega) b (by omega) r
      omega
  subst eb
  omega
