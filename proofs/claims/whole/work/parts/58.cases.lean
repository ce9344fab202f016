/-! THE SMALL QUESTIONS, BY CASES -/
theorem i_le (a b : Int32) : a ≤ b ↔ a.toInt ≤ b.toInt := Int32.le_iff_toInt_le
theorem i_nat {x : Int32} (h : 0 ≤ x.toInt) : x = nI x.toInt.toNat ∧ x.toInt.toNat < 2 ^ 31 := by
  have h2 := Int32.toInt_lt x
  have h3 : x.toInt.toNat < 2 ^ 31 := by omega
  refine ⟨Int32.toInt_inj.mp ?_, h3⟩
  rw [nI_toInt h3]
  omega
theorem rng_cases (x : Int32) {N : Nat} (h0 : 0 < N) (hN : N < 2 ^ 31) : (∃ k, k < N ∧ x = nI k ∧ m_out x (nI N) = nI 0 ∧ m_rng x 0 (N - 1) = nI 1 ∧ m_in x.toInt64 (lN 0) (lN (N - 1)) = nI 1) ∨ (m_out x (nI N) = nI 1 ∧ m_rng x 0 (N - 1) = nI 0 ∧ m_in x.toInt64 (lN 0) (lN (N - 1)) = nI 0) := by
  have e0 : (nI 0).toInt = 0 := rfl
  have eN : (nI N).toInt = N := nI_toInt hN
  have eM : (nI (N - 1)).toInt = (N - 1 : Nat) := nI_toInt (by omega)
  rw [m_in_i x (by decide) (by omega)]
  unfold m_out m_rng
  have z0 : (0 : Int32).toInt = 0 := rfl
  by_cases h : 0 ≤ x.toInt ∧ x.toInt < N
  · obtain ⟨h1, h2⟩ := i_nat h.1
    have c1 : ¬ (x < 0 ∨ nI N ≤ x) := by
      rw [fa0_lt, i_le, z0, eN]
      omega
    have c2 : nI 0 ≤ x ∧ x ≤ nI (N - 1) := by
      rw [i_le, i_le, e0, eM]
      omega
    rw [if_neg c1, if_pos c2]
    exact Or.inl ⟨x.toInt.toNat, by omega, h1, rfl, rfl, rfl⟩
  · have c1 : x < 0 ∨ nI N ≤ x := by
      rw [fa0_lt, i_le, z0, eN]
      omega
    have c2 : ¬ (nI 0 ≤ x ∧ x ≤ nI (N - 1)) := by
      rw [i_le, i_le, e0, eM]
      omega
    rw [if_pos c1, if_neg c2]
    exact Or.inr ⟨rfl, rfl, rfl⟩
theorem noset_out (x : Int32) : m_noset x = m_out x (nI 16777216) := by
  unfold m_noset m_out
  have e : (nI 16777215 < x) = (nI 16777216 ≤ x) := by
    rw [fa0_lt (nI 16777215), i_le, nI_toInt (by decide), nI_toInt (by decide)]
    apply propext
    omega
  simp only [e]
theorem set_cases (x : Int32) : (∃ s, s < 2 ^ 24 ∧ x = nI s ∧ m_noset x = nI 0 ∧ m_rng x 0 16777215 = nI 1) ∨ (m_noset x = nI 1 ∧ m_rng x 0 16777215 = nI 0) := by
  rw [noset_out]
  rcases rng_cases x (N := 16777216) (by decide) (by decide) with ⟨s, h1, h2, h3, h4, _⟩ | ⟨h3, h4, _⟩
  · exact Or.inl ⟨s, h1, h2, h3, h4⟩
  · exact Or.inr ⟨h3, h4⟩
theorem lane_cases (x y : Int32) : (∃ s l, s < 4 ∧ l < 4 ∧ x = nI s ∧ y = nI l ∧ m_nolane x y = nI 0 ∧ m_rng x 0 3 = nI 1 ∧ m_in y.toInt64 (lN 0) (lN 3) = nI 1) ∨ (m_nolane x y = nI 1 ∧ (m_rng x 0 3 = nI 0 ∨ (m_rng x 0 3 = nI 1 ∧ m_in y.toInt64 (lN 0) (lN 3) = nI 0))) := by
  have e : ∀ x : Int32, m_out x (nI 4) = if x < 0 ∨ nI 4 ≤ x then nI 1 else nI 0 := fun _ => rfl
  unfold m_nolane
  have g : ∀ z : Int32, m_out z (nI 4) = nI 0 → ¬ (z < 0 ∨ nI 4 ≤ z) := fun z h q => by
    rw [e, if_pos q] at h
    exact absurd h (by decide)
  have g1 : ∀ z : Int32, m_out z (nI 4) = nI 1 → (z < 0 ∨ nI 4 ≤ z) := fun z h => by
    rw [e] at h
    split at h
    · assumption
    · exact absurd h (by decide)
  rcases rng_cases x (N := 4) (by decide) (by decide) with ⟨s, h1, h2, h3, h4, h5⟩ | ⟨h3, h4, h5⟩
  · rcases rng_cases y (N := 4) (by decide) (by decide) with ⟨l, k1, k2, k3, k4, k5⟩ | ⟨k3, k4, k5⟩
    · rw [if_neg (fun q => q.elim (g x h3) (g y k3))]
      exact Or.inl ⟨s, l, h1, k1, h2, k2, rfl, h4, k5⟩
    · rw [if_pos (Or.inr (g1 y k3))]
      exact Or.inr ⟨rfl, Or.inr ⟨h4, k5⟩⟩
  · rw [if_pos (Or.inl (g1 x h3))]
    exact Or.inr ⟨rfl, Or.inl h4⟩
