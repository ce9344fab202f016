/-! STATES ARE COPIED -/
/-- the layout has a state at s -/
def st_A (s : Nat) : Prop := (sh_t s = 16 ∧ s + 7 ≤ 1497 ∧ 12 ≤ s) ∧ (sh_t (s + 1) = 3 ∧ sh_n (s + 1) = 5) ∧ (∀ j, j < 5 → sh_t (s + 2 + j) = 0 ∧ sh_n (s + 2 + j) = 24) ∧ (∀ rr, RR rr s 0 = some (s + 1)) ∧ ∀ rr, ∀ m, m < 5 → RR rr (s + 1) m = some (s + 2 + m)
theorem st_A_of {s : Nat} (h1 : (sh_t s = 16 ∧ s + 7 ≤ 1497 ∧ 12 ≤ s) ∧ (sh_t (s + 1) = 3 ∧ sh_n (s + 1) = 5) ∧ (∀ j, j < 5 → sh_t (s + 2 + j) = 0 ∧ sh_n (s + 2 + j) = 24) ∧ sh_r s 0 = some (s + 1) ∧ (∀ m, m < 5 → sh_r (s + 1) m = some (s + 2 + m)) ∧ ¬ s = 1344 ∧ ¬ s = 1395 ∧ ¬ s = 1438 ∧ ¬ s + 1 = 1344 ∧ ¬ s + 1 = 1395 ∧ ¬ s + 1 = 1438) : st_A s := by
  obtain ⟨a1, a2, a3, a4, a5, b1, b2, b3, b4, b5, b6⟩ := h1
  refine ⟨a1, a2, a3, fun rr => ?_, fun rr m hm => ?_⟩
  · rw [RR_sh b1 b2 b3, a4]
  · rw [RR_sh b4 b5 b6, a5 m hm]
theorem st_A_1336 : st_A 1337 := st_A_of (by decide +kernel)
theorem st_A_1387 : st_A 1388 := st_A_of (by decide +kernel)
theorem st_A_1344 : ∀ q, q < 6 → st_A (1345 + 7 * q) := fun q hq => st_A_of ((show ∀ q, q < 6 → (sh_t (1345 + 7 * q) = 16 ∧ (1345 + 7 * q) + 7 ≤ 1497 ∧ 12 ≤ (1345 + 7 * q)) ∧ (sh_t ((1345 + 7 * q) + 1) = 3 ∧ sh_n ((1345 + 7 * q) + 1) = 5) ∧ (∀ j, j < 5 → sh_t ((1345 + 7 * q) + 2 + j) = 0 ∧ sh_n ((1345 + 7 * q) + 2 + j) = 24) ∧ sh_r (1345 + 7 * q) 0 = some ((1345 + 7 * q) + 1) ∧ (∀ m, m < 5 → sh_r ((1345 + 7 * q) + 1) m = some ((1345 + 7 * q) + 2 + m)) ∧ ¬ (1345 + 7 * q) = 1344 ∧ ¬ (1345 + 7 * q) = 1395 ∧ ¬ (1345 + 7 * q) = 1438 ∧ ¬ (1345 + 7 * q) + 1 = 1344 ∧ ¬ (1345 + 7 * q) + 1 = 1395 ∧ ¬ (1345 + 7 * q) + 1 = 1438 by decide +kernel) q hq)
theorem st_A_1395 : ∀ q, q < 6 → st_A (1396 + 7 * q) := fun q hq => st_A_of ((show ∀ q, q < 6 → (sh_t (1396 + 7 * q) = 16 ∧ (1396 + 7 * q) + 7 ≤ 1497 ∧ 12 ≤ (1396 + 7 * q)) ∧ (sh_t ((1396 + 7 * q) + 1) = 3 ∧ sh_n ((1396 + 7 * q) + 1) = 5) ∧ (∀ j, j < 5 → sh_t ((1396 + 7 * q) + 2 + j) = 0 ∧ sh_n ((1396 + 7 * q) + 2 + j) = 24) ∧ sh_r (1396 + 7 * q) 0 = some ((1396 + 7 * q) + 1) ∧ (∀ m, m < 5 → sh_r ((1396 + 7 * q) + 1) m = some ((1396 + 7 * q) + 2 + m)) ∧ ¬ (1396 + 7 * q) = 1344 ∧ ¬ (1396 + 7 * q) = 1395 ∧ ¬ (1396 + 7 * q) = 1438 ∧ ¬ (1396 + 7 * q) + 1 = 1344 ∧ ¬ (1396 + 7 * q) + 1 = 1395 ∧ ¬ (1396 + 7 * q) + 1 = 1438 by decide +kernel) q hq)
theorem beq_r {a b : Nat} (h : a = b) : Nat.beq a b = true := by
  subst h
  exact Nat.beq_refl a
theorem oS_of {a t : Nat} (h : sh_t a = t) (h2 : a < 1497) : am_oS a t = true := am_ba (beq_r h) (Nat.ble_eq_true_of_le h2)
theorem oS_or {a t : Nat} (h : sh_t a = 3 ∨ sh_t a = 4 ∨ sh_t a = 5) (h2 : a < 1497) : (am_oS a 3 || am_oS a 4 || am_oS a 5) = true := by
  rcases h with h | h | h
  · rw [oS_of h h2]
    rfl
  · rw [oS_of h h2, Bool.or_true]
    rfl
  · rw [oS_of h h2, Bool.or_true]
theorem lS_of {a N n : Nat} (h : sh_n a = N) (h2 : 12 ≤ a) : am_lS n a = N := by
  unfold am_lS
  rw [show Nat.beq a 0 = false from Bool.eq_false_iff.mpr fun q => by have := Nat.eq_of_beq_eq_true q; omega]
  exact h
section SB
variable {d : Nat} {K : Option Value → am_M → Prop} {I : Nat → Nat → Int32} {Lg : Nat → Nat → Int64} {rr : Nat → Nat → Option Nat} {n : Nat}
theorem s_St_become {s t : Nat} (hd : 2 ≤ d) (hs : st_A s) (ht : st_A t) (hne : s + 7 ≤ t ∨ t + 7 ≤ s) (h : ∀ J, (∀ m, m < 5 → ∀ p, p < 24 → J (s + 2 + m) p = I (t + 2 + m) p) → J s 1 = I t 1 → J s 2 = I t 2 → (∀ b, b < s ∨ s + 7 ≤ b → J b = I b) → K none (am_st J Lg rr n)) : am_AC d k_St_become [.ref s, .ref t] (am_st I Lg rr n) K := by
  obtain ⟨d, rfl, hd1⟩ := s_up hd
  obtain ⟨⟨s1, s2, s3⟩, ⟨s4, s5⟩, s6, s7, s8⟩ := hs
  obtain ⟨⟨t1, t2, t3⟩, ⟨t4, t5⟩, t6, t7, t8⟩ := ht
  have gs := oS_of s1 (by omega)
  have gt := oS_of t1 (by omega)
  have gs2 := oS_or (t := 0) (Or.inl s4) (by omega)
  have gt2 := oS_or (t := 0) (Or.inl t4) (by omega)
  have ls : am_lS n (s + 1) = 5 := lS_of s5 (by omega)
  have lt : am_lS n (t + 1) = 5 := lS_of t5 (by omega)
  have rs : ∀ m, m < 5 → am_ro 1497 (s + 2 + m) 24 := fun m hm => ⟨(s6 m hm).1, (s6 m hm).2, by omega, by omega⟩
  have rt : ∀ m, m < 5 → am_ro 1497 (t + 2 + m) 24 := fun m hm => ⟨(t6 m hm).1, (t6 m hm).2, by omega, by omega⟩
  have key : ∀ m, m ≤ 5 → ∀ J, (∀ k, k < m → ∀ p, p < 24 → J (s + 2 + k) p = I (t + 2 + k) p) → (∀ b, b < s + 2 ∨ s + 7 ≤ b → J b = I b) → am_St d k_St_become (am_st I Lg rr n) K 2 [some (.ref s), some (.ref t), some (.int (nI m))] [] (am_st J Lg rr n) := by
    refine lp_up _ (fun m hm ih => ?_) ?_
    · intro J h1 h2
      have eu : am_un (nI m) = m := n_un (by omega)
      refine am_step _ _ _ (b_St_become_2 ⟨fun _ => am_gi gs (am_obi (s7 rr) (am_gi gs2 ?_)), fun q => absurd (nI_lt hm (by decide)) q⟩)
      rw [eu, ls]
      refine ⟨hm, am_obi (s8 rr m hm) (am_gi gt (am_obi (t7 rr) (am_gi gt2 ?_)))⟩
      rw [lt]
      refine ⟨hm, am_obi (t8 rr m hm) (s_assign hd1 (rs m hm) (rt m hm) ⟨rfl, am_step _ _ _ (b_St_become_22 ?_)⟩)⟩
      rw [nI_add]
      refine ih _ (fun k hk p hp => ?_) (fun b hb => ?_)
      · by_cases e : k = m
        · subst e
          rw [am_sr_at, am_fl_in _ _ hp, h2 (t + 2 + k) (by omega)]
        · rw [am_sr_off _ _ (by omega), h1 k (by omega) p hp]
      · rw [am_sr_off _ _ (by omega), h2 b hb]
    · intro J h1 h2
      have gs3 : (am_oS s 16 && Nat.ble 12 s && true) = true := am_ba (am_ba gs (Nat.ble_eq_true_of_le s3)) rfl
      refine am_step _ _ _ (b_St_become_2 ⟨fun q => absurd q (by decide), fun _ => am_gi gt (am_gi gs3 (am_gi gt (am_gi gs3 (h _ (fun m hm p hp => ?_) ?_ ?_ (fun b hb => ?_)))))⟩)
      · rw [am_sr_off _ _ (by omega), am_sr_off _ _ (by omega), h1 m hm p hp]
      · rw [am_sr_at, am_sr_at, am_u1_off _ _ (by decide), am_u1_at, h2 t (by omega)]
      · rw [am_sr_at, am_u1_at, am_sr_off _ _ (by omega), h2 t (by omega)]
      · rw [am_sr_off _ _ (by omega), am_sr_off _ _ (by omega), h2 b (by omega)]
  exact am_in _ _ _ (am_step _ _ _ (b_St_become_0 (key 0 (by decide) I (fun k hk => absurd hk (Nat.not_lt_zero _)) fun _ _ => rfl)))
theorem c_S.copy {I J : Nat → Nat → Int32} {s t : Nat} {S : a_S} (h : c_S I t S) (h1 : ∀ m, m < 5 → ∀ p, p < 24 → J (s + 2 + m) p = I (t + 2 + m) p) (h2 : J s 1 = I t 1) (h3 : J s 2 = I t 2) : c_S J s S := by
  obtain ⟨q1, q2, q3⟩ := h
  exact ⟨fun m hm p hp => by rw [h1 m hm p hp, q1 m hm p hp], by rw [h2, q2], by rw [h3, q3]⟩
theorem RR_put {rr : Nat → Nat → Option Nat} {l : Nat} (hl : l = 1344 ∨ l = 1395) (g : Nat → Option Nat) : am_sr (RR rr) l g = RR (am_sr rr l g) := by
  funext a j
  by_cases e : a = l
  · subst e
    rw [am_sr_at]
    unfold RR
    have : sh_d a j = true := by
      rcases hl with h | h <;> (subst h; rfl)
    rw [this]
    show _ = am_sr rr a g a j
    rw [am_sr_at]
  · rw [am_sr_off _ _ e]
    unfold RR
    rw [am_sr_off _ _ e]
theorem RR_l {rr : Nat → Nat → Option Nat} {l : Nat} (hl : l = 1344 ∨ l = 1395) : RR rr l = rr l := by
  funext j
  unfold RR
  have : sh_d l j = true := by
    rcases hl with h | h <;> (subst h; rfl)
  rw [this]
  rfl
end SB
