/-! WHAT THE CONSTRUCTORS MAKE, III: a history -/
/-- the layout has the states of a history's list from s on -/
def hs_sh (z : Nat) : Prop := st_sh z ∧ (sh_t (z + 7) = 5 ∧ sh_n (z + 7) = 6) ∧ ∀ k, k < 6 → st_sh (z + 8 + 7 * k)
/-- the list of the first k states from s on -/
def hs_l (s k : Nat) : Nat → Option Nat := fun j => if j < k then some (s + 7 * j) else none
section M3
variable {d : Nat} {K : Option Value → am_M → Prop} {I : Nat → Nat → Int32} {Lg : Nat → Nat → Int64} {R : Nat → Nat → Option Nat} {z ss n : Nat}
/-- what holds in the loop, with k states in the list -/
def hs_P (z v : Nat) (I : Nat → Nat → Int32) (Lg : Nat → Nat → Int64) (R : Nat → Nat → Option Nat) (k : Nat) (J : Nat → Nat → Int32) (L : Nat → Nat → Int64) (Q : Nat → Nat → Option Nat) : Prop :=
  mk_z 0 z (8 + 7 * k) I J ∧ mk_z 0 z (8 + 7 * k) Lg L ∧ mk_r z (8 + 7 * k) v R Q ∧ Q v = am_u1 (am_u1 (R v) 0 (some z)) 1 (some (z + 7)) ∧ st_R Q z ∧ Q (z + 7) = hs_l (z + 8) k ∧ ∀ q, q < k → st_R Q (z + 8 + 7 * q)
theorem s_Hi_init {v : Nat} (hd : 2 ≤ d) (hv : sh_t v = 13) (hv1 : v < z) (hv2 : 12 ≤ v) (hs : hs_sh z) (h : ∀ J L Q, hs_P z v I Lg R 6 J L Q → K none (J, L, Q, z + 50, ss + 902, n)) : am_AC d k_Hi_init [.ref v] (I, Lg, R, z, ss, n) K := by
  obtain ⟨d, rfl, hd1⟩ := s_up hd
  obtain ⟨g1, ⟨g2, g3⟩, g4⟩ := hs
  have key : ∀ k, k ≤ 6 → ∀ J L Q, hs_P z v I Lg R k J L Q → am_St d k_Hi_init (I, Lg, R, z, ss, n) K 26 [some (.ref v), some (.int (nI k))] [] (J, L, Q, z + 8 + 7 * k, ss + 134 + 128 * k, n) := by
    refine lp_up _ (fun k hk ih => ?_) ?_
    · intro J L Q hP
      obtain ⟨p1, p2, p3, p4, p5, p6, p7⟩ := hP
      obtain ⟨⟨a1, a2⟩, a3, a4⟩ := g4 k hk
      refine am_step _ _ _ (d_Hi_init_26 ⟨fun _ => am_gi ?_ (am_obi (b := z + 7) ?_ (am_gi ?_ ⟨?_, ?_, ?_⟩)), fun q => absurd (nI_lt hk (by omega)) q⟩)
      · rw [hv, Nat.ble_eq_true_of_le (show v + 1 ≤ z + 8 + 7 * k by omega)]
        rfl
      · rw [p4, am_u1_at]
      · rw [a1]
        rfl
      · rw [a2]
        exact ⟨show z + 8 + 7 * k + 1 ≤ z + 50 by omega, show ss + 134 + 128 * k + 3 ≤ ss + 902 by omega⟩
      · rw [a2]
        exact ⟨show z + 8 + 7 * k + 1 + 6 ≤ z + 50 by omega, show ss + 134 + 128 * k + 3 + 125 ≤ ss + 902 by omega⟩
      · refine s_newSt hd1 (by omega) (g4 k hk) ?_
        intro J' L' Q' q1 q2 q3 q4 q5
        refine ⟨rfl, am_step _ _ _ (d_Hi_init_44 (am_gi ?_ ⟨?_, am_step _ _ _ (d_Hi_init_45 ?_)⟩))⟩
        · rw [g2, a1, Nat.ble_eq_true_of_le (show z + 7 + 1 ≤ z + 8 + 7 * k + 7 by omega), Nat.ble_eq_true_of_le (show z + 8 + 7 * k + 1 ≤ z + 8 + 7 * k + 7 by omega), Nat.ble_eq_true_of_le (show 12 ≤ z + 7 by omega), Nat.ble_eq_true_of_le (show 12 ≤ z + 8 + 7 * k by omega)]
          rfl
        · rw [n_un (by omega)]
          unfold am_lS
          rw [show Nat.beq (z + 7) 0 = false from rfl]
          show k < sh_n (z + 7)
          rw [g3]
          exact hk
        · rw [nI_add, n_un (by omega)]
          have e1 : z + 8 + 7 * k + 7 = z + 8 + 7 * (k + 1) := by omega
          have e2 : ss + 134 + 128 * k + 128 = ss + 134 + 128 * (k + 1) := by omega
          have e3 : 8 + 7 * k + 7 = 8 + 7 * (k + 1) := by omega
          have e4 : z + (8 + 7 * k) = z + 8 + 7 * k := by omega
          rw [← e4] at q1 q2
          have r1 := p1.trans q1
          have r2 := p2.trans q2
          rw [e3] at r1 r2
          rw [e1, e2]
          refine ih J' L' _ ⟨r1, r2, ⟨fun b h1 h2 => ?_, fun b h1 => ?_⟩, ?_, ?_, ?_, fun q hq => ?_⟩
          · rw [am_sr_off _ _ (by omega), q3 b (by omega), p3.1 b h1 h2]
          · rw [am_sr_off _ _ (by omega), q4 b (by omega), p3.2 b (by omega)]
          · rw [am_sr_off _ _ (by omega), q3 v (by omega), p4]
          · refine p5.kept fun b h1 h2 => ?_
            rw [am_sr_off _ _ (by omega), q3 b (by omega)]
          · rw [am_sr_at, q3 _ (by omega), p6]
            funext j
            by_cases hj : j = k
            · subst hj
              rw [am_u1_at]
              exact (if_pos (Nat.lt_succ_self _)).symm
            · rw [am_u1_off _ _ hj]
              unfold hs_l
              by_cases hj2 : j < k
              · rw [if_pos hj2, if_pos (by omega)]
              · rw [if_neg hj2, if_neg (by omega)]
          · rcases Nat.lt_or_ge q k with hq2 | hq2
            · refine (p7 q hq2).kept fun b h1 h2 => ?_
              rw [am_sr_off _ _ (by omega), q3 b (by omega)]
            · have : q = k := by omega
              subst this
              refine q5.kept fun b h1 h2 => ?_
              rw [am_sr_off _ _ (by omega)]
    · intro J L Q hP
      refine am_step _ _ _ (d_Hi_init_26 ⟨fun q => absurd q (by decide), fun _ => ⟨⟨rfl, rfl⟩, h J L Q hP⟩⟩)
  obtain ⟨⟨a1, a2⟩, a3, a4⟩ := id g1
  refine am_in _ _ _ (am_step _ _ _ (d_Hi_init_0 (am_gi ?_ ⟨?_, ?_, s_newSt hd1 (by omega) g1 ?_⟩)))
  · rw [a1]
    rfl
  · rw [a2]
    exact ⟨show z + 1 ≤ z + 50 by omega, show ss + 3 ≤ ss + 902 by omega⟩
  · rw [a2]
    exact ⟨show z + 1 + 6 ≤ z + 50 by omega, show ss + 3 + 125 ≤ ss + 902 by omega⟩
  · intro J L Q q1 q2 q3 q4 q5
    refine ⟨rfl, am_step _ _ _ (d_Hi_init_12 (am_gi ?_ (am_step _ _ _ (d_Hi_init_15 (am_gi ?_ ⟨?_, am_gi ?_ (am_step _ _ _ (d_Hi_init_24 ?_))⟩)))))⟩
    · rw [hv, Nat.ble_eq_true_of_le (show v + 1 ≤ z + 7 by omega), Nat.ble_eq_true_of_le hv2]
      rfl
    · rw [g2, g3]
      rfl
    · rw [g3]
      exact ⟨show z + 7 + 1 ≤ z + 50 by omega, show ss + 128 + 6 ≤ ss + 902 by omega⟩
    · rw [hv, Nat.ble_eq_true_of_le (show v + 1 ≤ z + 7 + 1 by omega), Nat.ble_eq_true_of_le hv2]
      rfl
    · have e1 : z + 7 + 1 = z + 8 + 7 * 0 := by omega
      have e2 : ss + 128 + sh_n (z + 7) = ss + 134 + 128 * 0 := by rw [g3]
      rw [e1, e2]
      refine key 0 (by decide) _ _ _ ⟨q1.trans (mk_z1 _ _), q2.trans (mk_z1 _ _), ⟨fun b h1 h2 => ?_, fun b h1 => ?_⟩, ?_, ?_, ?_, fun q hq => absurd hq (Nat.not_lt_zero _)⟩
      · rw [am_sr_off _ _ h2, am_sr_off _ _ (by omega), am_sr_off _ _ h2, q3 b h1]
      · rw [am_sr_off _ _ (by omega), am_sr_off _ _ (by omega), am_sr_off _ _ (by omega), q4 b (by omega)]
      · rw [am_sr_at, am_sr_off _ _ (by omega), am_sr_at, q3 v hv1]
      · refine q5.kept fun b h1 h2 => ?_
        rw [am_sr_off _ _ (by omega), am_sr_off _ _ (by omega), am_sr_off _ _ (by omega)]
      · rw [am_sr_off _ _ (by omega), am_sr_at]
        rfl
end M3
