/-! ROWS: what is written; the methods that fill rows, over any memory -/
def am_fl {α : Type} (f g : Nat → α) (p : Nat) : Nat → α := fun j => if j < p then f j else g j
theorem am_fl_0 {α : Type} (f g : Nat → α) : am_fl f g 0 = g := funext fun j => if_neg (Nat.not_lt_zero j)
theorem am_u1_at {α : Type} (f : Nat → α) (i : Nat) (v : α) : am_u1 f i v i = v := by
  unfold am_u1
  rw [show Nat.beq _ _ = true from Nat.beq_refl _]
  rfl
theorem am_u1_off {α : Type} (f : Nat → α) {i j : Nat} (v : α) (h : j ≠ i) : am_u1 f i v j = f j := by
  unfold am_u1
  rw [show Nat.beq j i = false from Bool.eq_false_iff.mpr fun q => h (Nat.eq_of_beq_eq_true q)]
  rfl
theorem am_fl_s {α : Type} (f g : Nat → α) (p : Nat) : am_u1 (am_fl f g p) p (f p) = am_fl f g (p + 1) := by
  funext j
  by_cases h : j = p
  · subst h
    rw [am_u1_at]
    exact (if_pos (Nat.lt_succ_self _)).symm
  · rw [am_u1_off _ _ h]
    unfold am_fl
    by_cases h1 : j < p
    · rw [if_pos h1, if_pos (by omega)]
    · rw [if_neg h1, if_neg (by omega)]
theorem am_sr_at {α : Type} (I : Nat → Nat → α) (a : Nat) (g : Nat → α) : am_sr I a g a = g := by
  unfold am_sr
  rw [show Nat.beq _ _ = true from Nat.beq_refl _]
  rfl
theorem am_sr_off {α : Type} (I : Nat → Nat → α) {a b : Nat} (g : Nat → α) (h : b ≠ a) : am_sr I a g b = I b := by
  unfold am_sr
  rw [show Nat.beq b a = false from Bool.eq_false_iff.mpr fun q => h (Nat.eq_of_beq_eq_true q)]
  rfl
theorem am_sr_sr {α : Type} (I : Nat → Nat → α) (a : Nat) (g k : Nat → α) : am_sr (am_sr I a g) a k = am_sr I a k := by
  funext b
  by_cases h : b = a
  · subst h
    rw [am_sr_at, am_sr_at]
  · rw [am_sr_off _ _ h, am_sr_off _ _ h, am_sr_off _ _ h]
theorem am_sr_id {α : Type} (I : Nat → Nat → α) (a : Nat) : am_sr I a (I a) = I := by
  funext b
  by_cases h : b = a
  · subst h
    rw [am_sr_at]
  · rw [am_sr_off _ _ h]
theorem am_gi {b : Bool} {p : Prop} (h : b = true) (q : p) : am_g b p := by
  rw [h]
  exact q
theorem am_obi {o : Option Nat} {b : Nat} {f : Nat → Prop} (h : o = some b) (q : f b) : am_ob o f := by
  rw [h]
  exact q
theorem am_ba {a b : Bool} (h1 : a = true) (h2 : b = true) : (a && b) = true := by
  rw [h1, h2]
  rfl
/-- a is a row of N ints, made -/
def am_ro (z a N : Nat) : Prop := sh_t a = 0 ∧ sh_n a = N ∧ a < z ∧ 12 ≤ a
theorem am_ro.g1 {z a N : Nat} (h : am_ro z a N) : (Nat.ble (sh_t a) 5 && Nat.ble (a + 1) z) = true := am_ba (by rw [h.1]; rfl) (Nat.ble_eq_true_of_le h.2.2.1)
theorem am_ro.g2 {z a N : Nat} (h : am_ro z a N) : (Nat.beq (sh_t a) 0 && Nat.ble (a + 1) z) = true := am_ba (by rw [h.1]; rfl) (Nat.ble_eq_true_of_le h.2.2.1)
theorem am_ro.g3 {z a N : Nat} (h : am_ro z a N) : ((Nat.beq (sh_t a) 0 && Nat.ble (a + 1) z) && Nat.ble 12 a) = true := am_ba h.g2 (Nat.ble_eq_true_of_le h.2.2.2)
theorem am_ro.n {z a N n : Nat} (h : am_ro z a N) : am_lS n a = N := by
  unfold am_lS
  rw [show Nat.beq a 0 = false from Bool.eq_false_iff.mpr fun q => by have := Nat.eq_of_beq_eq_true q; have := h.2.2.2; omega]
  exact h.2.1
section R3
variable {d : Nat} {K : Option Value → am_M → Prop} {I : Nat → Nat → Int32} {Lg : Nat → Nat → Int64} {R : Nat → Nat → Option Nat} {z ss n : Nat}
theorem s_makeSame {a N : Nat} (hd : 1 ≤ d) (ha : am_ro z a N) (h : K none (am_sr I a (am_fl nI (I a) N), Lg, R, z, ss, n)) : am_AC d k_Mo_makeSame [.ref a] (I, Lg, R, z, ss, n) K := by
  obtain ⟨d, rfl, hd1⟩ := s_up hd
  have hN : N ≤ 4096 := by rw [← ha.2.1]; exact so_len_le a
  have key : ∀ p, p ≤ N → am_St d k_Mo_makeSame (I, Lg, R, z, ss, n) K 2 [some (.ref a), some (.int (nI p))] [] (am_sr I a (am_fl nI (I a) p), Lg, R, z, ss, n) := by
    refine lp_up _ (fun p hp ih => ?_) ?_
    · refine am_step _ _ _ (d_Mo_makeSame_2 (am_gi ha.g1 ⟨fun _ => am_gi ha.g3 ?_, fun q => ?_⟩))
      · rw [ha.n, n_un (by omega), am_sr_at, am_fl_s, am_sr_sr, nI_add]
        exact ⟨hp, ih⟩
      · rw [ha.n] at q
        exact absurd (nI_lt hp (by omega)) q
    · refine am_step _ _ _ (d_Mo_makeSame_2 (am_gi ha.g1 ⟨fun q => ?_, fun _ => h⟩))
      rw [ha.n] at q
      exact absurd q (nI_nlt (Nat.le_refl _) (by omega))
  have k0 := key 0 (Nat.zero_le _)
  rw [am_fl_0, am_sr_id] at k0
  exact am_in _ _ _ (am_step _ _ _ (d_Mo_makeSame_0 k0))
theorem s_assign {a b N : Nat} (hd : 1 ≤ d) (ha : am_ro z a N) (hb : am_ro z b N) (h : K none (am_sr I a (am_fl (I b) (I a) N), Lg, R, z, ss, n)) : am_AC d k_Mo_assign [.ref a, .ref b] (I, Lg, R, z, ss, n) K := by
  obtain ⟨d, rfl, hd1⟩ := s_up hd
  have hN : N ≤ 4096 := by rw [← ha.2.1]; exact so_len_le a
  have key : ∀ p, p ≤ N → am_St d k_Mo_assign (I, Lg, R, z, ss, n) K 2 [some (.ref a), some (.ref b), some (.int (nI p))] [] (am_sr I a (am_fl (I b) (I a) p), Lg, R, z, ss, n) := by
    refine lp_up _ (fun p hp ih => ?_) ?_
    · refine am_step _ _ _ (d_Mo_assign_2 (am_gi ha.g1 ⟨fun _ => am_gi hb.g1 ⟨fun _ => am_gi hb.g2 ?_, fun q => ?_⟩, fun q => ?_⟩))
      · rw [hb.n, n_un (by omega), ha.n]
        refine ⟨hp, am_gi ha.g3 ⟨hp, ?_⟩⟩
        have e : am_sr I a (am_fl (I b) (I a) p) b p = I b p := by
          by_cases hab : b = a
          · subst hab
            rw [am_sr_at]
            unfold am_fl
            split <;> rfl
          · rw [am_sr_off _ _ hab]
        rw [e, am_sr_at, am_fl_s, am_sr_sr, nI_add]
        exact ih
      · rw [hb.n] at q
        exact absurd (nI_lt hp (by omega)) q
      · rw [ha.n] at q
        exact absurd (nI_lt hp (by omega)) q
    · refine am_step _ _ _ (d_Mo_assign_2 (am_gi ha.g1 ⟨fun q => ?_, fun _ => h⟩))
      rw [ha.n] at q
      exact absurd q (nI_nlt (Nat.le_refl _) (by omega))
  have k0 := key 0 (Nat.zero_le _)
  rw [am_fl_0, am_sr_id] at k0
  exact am_in _ _ _ (am_step _ _ _ (d_Mo_assign_0 k0))
end R3
