/-! THE CLASS'S CODE, II: floorMod -/
def m_fm (x y : Int32) : Int32 := if (x ^^^ y) < 0 then (if x - x / y * y = 0 then x - x / y * y else (x - x / y * y) + y) else x - x / y * y
section G2
variable {d : Nat} {x y : Int32} {K : Option Value → am_M → Prop} {M : am_M}
theorem s_floorMod (hd : 1 ≤ d) (hy : ¬ y = 0) (h : K (some (.int (m_fm x y))) M) : am_AC d k_J_floorMod [.int x, .int y] M K := by
  obtain ⟨d, rfl, hd1⟩ := s_up hd
  unfold m_fm at h
  refine am_in _ _ _ (am_step _ _ _ (p_J_floorMod_0 (am_gi (by rw [decide_eq_false hy]; rfl) ⟨fun q => ⟨fun q2 => ?_, fun q2 => ?_⟩, fun q => ?_⟩)))
  · rw [if_pos q, if_pos q2] at h
    exact h
  · rw [if_pos q, if_neg q2] at h
    exact h
  · rw [if_neg q] at h
    exact h
end G2
theorem m_fm_23 : ∀ a, a < 23 → ∀ k, k < 12 → m_fm (nI a - nI k) (nI 23) = nI ((a + 23 - k) % 23) := by decide +kernel
