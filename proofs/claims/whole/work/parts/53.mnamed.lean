/-! THE MODEL'S CONSTRUCTOR -/
theorem nm_m0 : ∀ p, p < 23 → (nI p + nI 1) - (nI p + nI 1) / (nI 23) * (nI 23) = nI (g_nm 0 p) := by decide +kernel
theorem nm_m1 : ∀ p, p < 23 → (nI 2 * nI p) - (nI 2 * nI p) / (nI 23) * (nI 23) = nI (g_nm 1 p) := by decide +kernel
theorem nm_m2 : ∀ p, p < 24 → m_over p = g_nm 2 p := by decide +kernel
theorem nm_m3a : ∀ p, p < 23 → m_has (nI 340830) (nI p) = 0 → (((nI 9 * nI p) * nI p) * nI p) - (((nI 9 * nI p) * nI p) * nI p) / (nI 23) * (nI 23) = nI (g_nm 3 p) := by decide +kernel
theorem nm_m3b : ∀ p, p < 23 → ¬ m_has (nI 340830) (nI p) = 0 → (((nI 18 * nI p) * nI p) * nI p) - (((nI 18 * nI p) * nI p) * nI p) / (nI 23) * (nI 23) = nI (g_nm 3 p) := by decide +kernel
theorem nm_b24 : ∀ m, m < 5 → ∀ p, p < 24 → g_nm m p < 24 := by decide +kernel
section MN
variable {d : Nat} {K : Option Value → am_M → Prop} {M : am_M}
theorem s_named {m p : Nat} (hd : 3 ≤ d) (hm : m < 5) (hp : p < 24) (h : K (some (.int (nI (g_nm m p)))) M) : am_AC d k_M_named [.int (nI m), .int (nI p)] M K := by
  obtain ⟨d, rfl, hd1⟩ := s_up hd
  obtain ⟨q0, q1, q3, q2, q5⟩ := nm_23
  have hlt : ∀ {q : Prop}, ¬ nI p < nI 23 → (p = 23 → q) → q := fun h1 h2 => h2 (by
    rw [nI_ltI (by omega) (by decide)] at h1
    omega)
  have hlt2 : nI p < nI 23 → p < 23 := fun h1 => by
    rw [nI_ltI (by omega) (by decide)] at h1
    exact h1
  have hm5 : m = 0 ∨ m = 1 ∨ m = 2 ∨ m = 3 ∨ m = 4 := by omega
  refine am_in _ _ _ (am_step _ _ _ (p_M_named_0 ⟨fun q => ⟨fun q4 => ?_, fun q4 => ?_⟩, fun n0 => ⟨fun q => ⟨fun q4 => ?_, fun q4 => ?_⟩, fun n1 => ⟨fun q => ?_, fun n2 => ⟨fun q => ⟨fun q4 => ?_, fun q4 => ?_⟩, fun n3 => ?_⟩⟩⟩⟩))
  · rw [nI_eq (by omega) (by decide)] at q
    subst q
    rw [nm_m0 p (hlt2 q4)]
    exact h
  · rw [nI_eq (by omega) (by decide)] at q
    subst q
    refine hlt q4 fun e => ?_
    subst e
    rw [q0] at h
    exact h
  · rw [nI_eq (by omega) (by decide)] at q
    subst q
    rw [nm_m1 p (hlt2 q4)]
    exact h
  · rw [nI_eq (by omega) (by decide)] at q
    subst q
    refine hlt q4 fun e => ?_
    subst e
    rw [q1] at h
    exact h
  · rw [nI_eq (by omega) (by decide)] at q
    subst q
    refine s_overOf hd1 hp ⟨_, rfl, am_step _ _ _ (p_M_named_72 ?_)⟩
    rw [nm_m2 p hp]
    exact h
  · rw [nI_eq (by omega) (by decide)] at q
    subst q
    refine s_has (by omega) ⟨_, rfl, am_step _ _ _ (p_M_named_85 ⟨fun q6 => ?_, fun q6 => ?_⟩)⟩
    · rw [nm_m3a p (hlt2 q4) q6]
      exact h
    · rw [nm_m3b p (hlt2 q4) q6]
      exact h
  · rw [nI_eq (by omega) (by decide)] at q
    subst q
    refine hlt q4 fun e => ?_
    subst e
    rw [q3] at h
    exact h
  · rw [nI_eq (by omega) (by decide)] at n0 n1 n2 n3
    have : m = 4 := by omega
    subst this
    rw [nm_4 p hp] at h
    exact h
end MN
theorem m_basic_B : ∀ k, k < 12 → m_basic k = g_B k := by decide +kernel
theorem g_W_1 : g_W 1 = g_B 0 := by decide +kernel
theorem m_word_W (n : Nat) : m_word n = g_W n := gs_congr n 12 m_basic_B
theorem low_ok : ∀ x, x < 64 → ∀ y, y < 64 → (64 * x + y = 0 ∨ ((64 * x + y) &&& (64 * x + y - 1)) < 64 * x + y ∧ ((64 * x + y) &&& (64 * x + y - 1)) ^^^ 2 ^ m_low (64 * x + y) = 64 * x + y ∧ m_low (64 * x + y) < 12) := by decide +kernel
theorem low_w {k : Nat} (h0 : 0 < k) (hk : k < 4096) : (k &&& (k - 1)) < k ∧ m_low k < 12 ∧ g_w k = g_w (k &&& (k - 1)) ^^^ g_U (m_low k) := by
  have h := low_ok (k / 64) (by omega) (k % 64) (by omega)
  rw [show 64 * (k / 64) + k % 64 = k by omega] at h
  obtain ⟨h1, h2, h3⟩ := h.resolve_left (by omega)
  refine ⟨h1, h3, ?_⟩
  have e : g_w (2 ^ m_low k) = g_U (m_low k) := (show ∀ j, j < 12 → g_w (2 ^ j) = g_U j by decide +kernel) _ h3
  conv => lhs; rw [← h2]
  rw [g_w_xor, e]
