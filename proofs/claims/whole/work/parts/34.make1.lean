/-! WHAT THE CONSTRUCTORS MAKE, I -/
theorem am_zrI {α : Type} (I : Nat → Nat → α) {a n b : Nat} (g : Nat → α) (h1 : a ≤ b) (h2 : b < a + n) : am_zr I a n g b = g := by
  unfold am_zr
  rw [Nat.ble_eq_true_of_le h1, Nat.ble_eq_true_of_le (show b + 1 ≤ a + n from h2)]
  rfl
theorem am_zrO {α : Type} (I : Nat → Nat → α) {a n b : Nat} (g : Nat → α) (h : b < a ∨ a + n ≤ b) : am_zr I a n g b = I b := by
  unfold am_zr
  rcases h with h | h
  · rw [nb_hi h]
    rfl
  · rw [nb_hi (show a + n < b + 1 by omega)]
    cases Nat.ble a b <;> rfl
/-- w cells more, of zeros; what was there is as it was -/
def mk_z {α : Type} (o : α) (z w : Nat) (I I' : Nat → Nat → α) : Prop := (∀ b, b < z → I' b = I b) ∧ ∀ b, z ≤ b → b < z + w → I' b = fun _ => o
/-- the references of cells but v, and but the w new ones, are as they were -/
def mk_r (z w v : Nat) (R R' : Nat → Nat → Option Nat) : Prop := (∀ b, b < z → b ≠ v → R' b = R b) ∧ ∀ b, z + w ≤ b → R' b = R b
theorem mk_z.trans {α : Type} {o : α} {z w w' : Nat} {I I' I2 : Nat → Nat → α} (h : mk_z o z w I I') (h2 : mk_z o (z + w) w' I' I2) : mk_z o z (w + w') I I2 := by
  refine ⟨fun b hb => (h2.1 b (by omega)).trans (h.1 b hb), fun b h3 h4 => ?_⟩
  rcases Nat.lt_or_ge b (z + w) with h5 | h5
  · exact (h2.1 b h5).trans (h.2 b h3 h5)
  · exact h2.2 b h5 (by omega)
theorem mk_z1 {α : Type} {o : α} (z : Nat) (I : Nat → Nat → α) : mk_z o z 1 I (am_sr I z fun _ => o) := by
  refine ⟨fun b hb => am_sr_off _ _ (by omega), fun b h1 h2 => ?_⟩
  have : b = z := by omega
  subst this
  rw [am_sr_at]
theorem mk_zm {α : Type} {o : α} (z w : Nat) (I : Nat → Nat → α) : mk_z o z (1 + w) I (am_zr (am_sr I z fun _ => o) (z + 1) w fun _ => o) := by
  refine ⟨fun b hb => ?_, fun b h1 h2 => ?_⟩
  · rw [am_zrO _ _ (Or.inl (by omega)), am_sr_off _ _ (by omega)]
  · by_cases h : b = z
    · subst h
      rw [am_zrO _ _ (Or.inl (by omega)), am_sr_at]
    · rw [am_zrI _ _ (by omega) (by omega)]
section M1
variable {d : Nat} {K : Option Value → am_M → Prop} {I : Nat → Nat → Int32} {Lg : Nat → Nat → Int64} {R : Nat → Nat → Option Nat} {z ss n : Nat}
/-- the references to the rows of a table of w rows at z -/
def mk_t (z w : Nat) : Nat → Option Nat := fun j => cond (Nat.ble (j + 1) w) (some (z + 1 + j)) none
theorem s_St_init {v : Nat} (hd : 1 ≤ d) (hv : sh_t v = 16) (hv1 : v < z) (hv2 : 12 ≤ v) (t1 : sh_t z = 3) (t2 : sh_n z = 5) (t3 : ∀ j, j < 5 → sh_t (z + 1 + j) = 0 ∧ sh_n (z + 1 + j) = 24)
    (h : ∀ I' Lg' R', mk_z 0 z 6 I I' → mk_z 0 z 6 Lg Lg' → mk_r z 6 v R R' → R' v = am_u1 (R v) 0 (some z) → R' z = mk_t z 5 → (∀ j, j < 5 → R' (z + 1 + j) = fun _ => none) → K none (I', Lg', R', z + 6, ss + 125, n)) : am_AC d k_St_init [.ref v] (I, Lg, R, z, ss, n) K := by
  obtain ⟨d, rfl, hd1⟩ := s_up hd
  refine am_in _ _ _ (am_step _ _ _ (d_St_init_0 (am_gi ?_ ⟨?_, ⟨?_, ?_⟩, am_gi ?_ (am_step _ _ _ (d_St_init_15 ?_))⟩)))
  · rw [t1, t2]
    rfl
  · intro j hj
    exact t3 j hj
  · exact Nat.le_refl _
  · exact Nat.le_refl _
  · rw [hv, Nat.ble_eq_true_of_le hv2, Nat.ble_eq_true_of_le (show v + 1 ≤ z + 1 + am_un (nI 5) by omega)]
    rfl
  · refine ⟨⟨rfl, rfl⟩, ?_⟩
    refine h _ _ _ (mk_zm z 5 I) (mk_zm z 5 Lg) ⟨fun b h1 h2 => ?_, fun b h1 => ?_⟩ ?_ ?_ ?_
    · show am_sr (am_sr (am_zr R (z + 1) 5 _) z _) v _ b = _
      rw [am_sr_off _ _ h2, am_sr_off _ _ (by omega), am_zrO _ _ (Or.inl (by omega))]
    · show am_sr (am_sr (am_zr R (z + 1) 5 _) z _) v _ b = _
      rw [am_sr_off _ _ (by omega), am_sr_off _ _ (by omega), am_zrO _ _ (Or.inr (by omega))]
    · show am_sr (am_sr (am_zr R (z + 1) 5 _) z _) v (am_u1 (am_sr (am_zr R (z + 1) 5 _) z _ v) 0 _) v = _
      rw [am_sr_at, am_sr_off _ _ (by omega), am_zrO _ _ (Or.inl (by omega))]
    · show am_sr (am_sr (am_zr R (z + 1) 5 _) z _) v _ z = _
      rw [am_sr_off _ _ (by omega), am_sr_at]
      rfl
    · intro j hj
      show am_sr (am_sr (am_zr R (z + 1) 5 _) z _) v _ (z + 1 + j) = _
      rw [am_sr_off _ _ (by omega), am_sr_off _ _ (by omega), am_zrI _ _ (by omega) (by omega)]
end M1
