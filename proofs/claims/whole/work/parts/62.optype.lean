/-! THE OPERATION type -/
section OT
variable {G : (Nat → Nat → Int32) → Prop}
theorem rng_cases2 (x : Int32) {lo hi : Nat} (h1 : lo < 2 ^ 31) (h2 : hi < 2 ^ 31) : (∃ k, lo ≤ k ∧ k ≤ hi ∧ x = nI k ∧ m_rng x lo hi = nI 1 ∧ m_in x.toInt64 (lN lo) (lN hi) = nI 1) ∨ ((x < nI lo ∨ nI hi < x) ∧ m_rng x lo hi = nI 0 ∧ m_in x.toInt64 (lN lo) (lN hi) = nI 0) := by
  rw [m_in_i x h1 h2]
  unfold m_rng
  by_cases h : nI lo ≤ x ∧ x ≤ nI hi
  · rw [if_pos h]
    rw [i_le, i_le, nI_toInt h1, nI_toInt h2] at h
    obtain ⟨e1, e2⟩ := i_nat (x := x) (by omega)
    exact Or.inl ⟨x.toInt.toNat, by omega, by omega, e1, rfl, rfl⟩
  · rw [if_neg h]
    rw [i_le, i_le, nI_toInt h1, nI_toInt h2] at h
    refine Or.inr ⟨?_, rfl, rfl⟩
    rw [fa0_lt, fa0_lt, nI_toInt h1, nI_toInt h2]
    omega
theorem op_type (hG : g_fr G) (a0 : Int32) : lw_Op (vV G) k_X_type k_M_type [.int a0] := by
  intro I Lg rr n hV
  obtain ⟨tl, t, t1, t2, t3, t4⟩ := hV.2.2.2.1
  rcases rng_cases2 a0 (lo := 32) (hi := 126) (by decide) (by decide) with ⟨k, k1, k2, rfl, k3, k4⟩ | ⟨k1, k3, k4⟩
  · have n1 : ¬ nI k < nI 32 := nI_nlt k1 (by omega)
    have n2 : ¬ nI 126 < nI k := nI_nlt k2 (by omega)
    by_cases hf : tl < 100
    · have et : am_un (nI tl) = tl := n_un (by omega)
      refine am_in _ _ _ (am_step _ _ _ (b_X_type_0 ⟨fun q => absurd q n1, fun _ => ⟨fun q => absurd q n2, fun _ => am_in _ _ _ (am_step _ _ _ (b_Ta_append_0 ⟨fun _ => ⟨?_, ?_⟩, fun q => ?_⟩))⟩⟩))
      · rw [t2, et]
        exact hf
      · rw [t2, et]
        refine ⟨_, rfl, am_step _ _ _ (b_X_type_22 ⟨_, rfl, _, Lg, rr, rfl, ?_, ?_⟩)⟩
        · rw [am_sr_off _ _ (by decide), am_sr_off _ _ (by decide)]
        · generalize hJ : am_sr (am_sr I 1439 (am_u1 (I 1439) tl (nI k))) 1438 _ = J
          have j37 : J 1438 6 = nI (tl + 1) := by
            rw [← hJ, am_sr_at, am_u1_at, am_sr_off _ _ (by decide), t2, nI_add]
          have j38 : J 1439 = am_u1 (I 1439) tl (nI k) := by
            rw [← hJ, am_sr_off _ _ (by decide), am_sr_at]
          have j37o : ∀ j, ¬ j = 6 → J 1438 j = I 1438 j := fun j hj => by
            rw [← hJ, am_sr_at, am_u1_off _ _ hj, am_sr_off _ _ (by decide)]
          have jo : ∀ b, ¬ b = 1438 → ¬ b = 1439 → J b = I b := fun b b1 b2 => by
            rw [← hJ, am_sr_off _ _ b1, am_sr_off _ _ b2]
          have t3' : J 1469 9 = nI tl := by rw [jo 1469 (by decide) (by decide), t3]
          refine am_in _ _ _ (am_step _ _ _ (b_M_type_0 (s_in (by decide) ⟨_, rfl, am_step _ _ _ (b_M_type_11 ?_)⟩)))
          rw [k4, j37]
          refine ⟨fun q => absurd q (by decide), fun _ => ⟨fun q => ?_, fun _ => ⟨?_, ?_⟩⟩⟩
          · rw [t3', nI_eq (by omega) (by decide)] at q
            omega
          · rw [t3', et]
            exact hf
          · rw [t3', et]
            generalize hJ2 : am_sr (am_sr J 1476 (am_u1 (J 1476) tl (nI k))) 1469 _ = J2
            have j68 : J2 1469 9 = nI (tl + 1) := by
              rw [← hJ2, am_sr_at, am_u1_at, am_sr_off _ _ (by decide), t3', nI_add]
            have j68o : ∀ j, ¬ j = 9 → J2 1469 j = I 1469 j := fun j hj => by
              rw [← hJ2, am_sr_at, am_u1_off _ _ hj, am_sr_off _ _ (by decide), jo 1469 (by decide) (by decide)]
            have j75 : J2 1476 = am_u1 (J 1476) tl (nI k) := by
              rw [← hJ2, am_sr_off _ _ (by decide), am_sr_at]
            have jo2 : ∀ b, ¬ b = 1469 → ¬ b = 1476 → J2 b = J b := fun b b1 b2 => by
              rw [← hJ2, am_sr_off _ _ b1, am_sr_off _ _ b2]
            have jj : ∀ b, ¬ b = 1438 → ¬ b = 1439 → ¬ b = 1469 → ¬ b = 1476 → J2 b = I b := fun b b1 b2 b3 b4 => by
              rw [jo2 b b3 b4, jo b b1 b2]
            refine ⟨_, rfl, J2, Lg, rr, rfl, j68, ?_⟩
            obtain ⟨h1, h2, h3, h4, h5, h6⟩ := hV
            refine ⟨h1.fr (fun b b1 b2 => jj b (by omega) (by omega) (by omega) (by omega)) (fun b b1 b2 => jj b (by omega) (by omega) (by omega) (by omega)) (j68o 3 (by decide)), h2.fr (fun b b1 b2 => jj b (by omega) (by omega) (by omega) (by omega)) (jj _ (by decide) (by decide) (by decide) (by decide)) (jj _ (by decide) (by decide) (by decide) (by decide)) (j68o 28 (by decide)) rfl, h3.fr (fun b b1 b2 => jj b (by omega) (by omega) (by omega) (by omega)) (by rw [jj 12 (by decide) (by decide) (by decide) (by decide)]) (jj _ (by decide) (by decide) (by decide) (by decide)) (jj _ (by decide) (by decide) (by decide) (by decide)) (j68o 31 (by decide)) rfl, ⟨tl + 1, fun j => if j = tl then k else t j, by omega, by rw [jo2 1438 (by decide) (by decide), j37], j68, fun j hj => ?_⟩, h5.fr (jj _ (by decide) (by decide) (by decide) (by decide)) (jj _ (by decide) (by decide) (by decide) (by decide)) (jj _ (by decide) (by decide) (by decide) (by decide)) (jj _ (by decide) (by decide) (by decide) (by decide)) (fun _ _ => rfl) rfl, hG I J2 (fun b hb => jj b (by omega) (by omega) (by omega) (by omega)) (j68o 19 (by decide)) (j68o 21 (by decide)) (j68o 22 (by decide)) h6⟩
            rw [jo2 1439 (by decide) (by decide), j38, j75]
            by_cases e : j = tl
            · subst e
              dsimp only
              rw [if_pos rfl, am_u1_at, am_u1_at]
              exact ⟨k1, k2, rfl, rfl⟩
            · dsimp only
              rw [if_neg e, am_u1_off _ _ e, am_u1_off _ _ e, jo 1476 (by decide) (by decide)]
              exact t4 j (by omega)
      · rw [t2] at q
        exact absurd (nI_lt hf (by decide)) q
    · refine am_in _ _ _ (am_step _ _ _ (b_X_type_0 ⟨fun q => absurd q n1, fun _ => ⟨fun q => absurd q n2, fun _ => am_in _ _ _ (am_step _ _ _ (b_Ta_append_0 ⟨fun q => ?_, fun _ => ⟨_, rfl, am_step _ _ _ (b_X_type_22 ⟨am_k (-3), rfl, I, Lg, rr, rfl, rfl, am_in _ _ _ (am_step _ _ _ (b_M_type_0 (s_in (by decide) ⟨_, rfl, am_step _ _ _ (b_M_type_11 ?_)⟩)))⟩)⟩⟩))⟩⟩))
      · rw [t2] at q
        exact absurd q (nI_nlt (by omega) (by omega))
      · rw [k4, t3]
        refine ⟨fun q => absurd q (by decide), fun _ => ⟨fun _ => ⟨_, rfl, I, Lg, rr, rfl, rfl, hV⟩, fun q => absurd ?_ q⟩⟩
        rw [show tl = 100 by omega]
  · have model : ∀ K : Option Value → am_M → Prop, K (some (.int (am_k (-1)))) (am_st I Lg rr n) → am_AC 100 k_M_type [.ref 1469, .int a0] (am_st I Lg rr n) K := fun K hK => by
      refine am_in _ _ _ (am_step _ _ _ (b_M_type_0 (s_in (by decide) ⟨_, rfl, am_step _ _ _ (b_M_type_11 ?_)⟩)))
      rw [k4]
      exact ⟨fun _ => hK, fun q => absurd rfl q⟩
    refine am_in _ _ _ (am_step _ _ _ (b_X_type_0 ⟨fun _ => ⟨am_k (-1), rfl, I, Lg, rr, rfl, rfl, model _ ⟨_, rfl, I, Lg, rr, rfl, rfl, hV⟩⟩, fun q => ⟨fun _ => ⟨am_k (-1), rfl, I, Lg, rr, rfl, rfl, model _ ⟨_, rfl, I, Lg, rr, rfl, rfl, hV⟩⟩, fun q2 => ?_⟩⟩))
    exact absurd k1 (fun h => h.elim q q2)
end OT
