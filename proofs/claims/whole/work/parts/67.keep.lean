/-! A HISTORY KEEPS ITS STATE; takes it back -/
def g_ku (us : Nat) : Nat := if us = 6 then 6 else us + 1
def g_kk (us : Nat) (now : a_S) (ks : Nat → a_S) (k : Nat) : a_S := if us = 6 then (if k = 5 then now else ks (k + 1)) else (if k = us then now else ks k)
theorem g_kk_ok {us : Nat} {now : a_S} {ks : Nat → a_S} (hu : us ≤ 6) (h : a_ok now) (hk : ∀ k, k < us → a_ok (ks k)) : ∀ k, k < g_ku us → a_ok (g_kk us now ks k) := by
  intro k hk2
  unfold g_ku at hk2
  unfold g_kk
  by_cases e : us = 6
  · rw [if_pos e] at hk2 ⊢
    by_cases e2 : k = 5
    · rw [if_pos e2]
      exact h
    · rw [if_neg e2]
      exact hk _ (by omega)
  · rw [if_neg e] at hk2 ⊢
    by_cases e2 : k = us
    · rw [if_pos e2]
      exact h
    · rw [if_neg e2]
      exact hk _ (by omega)
theorem g_ku_le {us : Nat} (h : us ≤ 6) : g_ku us ≤ 6 := by
  unfold g_ku
  split <;> omega
section KP
variable {d : Nat} {K : Option Value → am_M → Prop} {I : Nat → Nat → Int32} {Lg : Nat → Nat → Int64} {rr : Nat → Nat → Option Nat} {n : Nat} {M0 : am_M}
theorem live_1 (rr : Nat → Nat → Option Nat) : RR rr 1336 1 = some 1344 := rfl
theorem live_0 (rr : Nat → Nat → Option Nat) : RR rr 1336 0 = some 1337 := rfl
theorem hi_out {k N : Nat} (hk : k < N) (hN : N < 2 ^ 31) : m_out (nI k) (nI N) = nI 0 := by
  unfold m_out
  rw [if_neg]
  rintro (q | q)
  · exact absurd q (show ¬ nI k < nI 0 from nI_nlt (Nat.zero_le _) (by omega))
  · exact absurd (nI_lt hk hN) (Int32.not_lt.mpr q)
theorem s_keep13 {now : a_S} {us : Nat} {ks : Nat → a_S} (hd : 2 ≤ d) (hu : us < 6) (hc : c_H I rr 1336 1337 1344 1345 now us ks) (h : ∀ J, c_H J rr 1336 1337 1344 1345 now (us + 1) (fun k => if k = us then now else ks k) → (∀ b, b < 1345 → ¬ b = 1336 → J b = I b) → (∀ b, 1387 ≤ b → J b = I b) → am_R k_Hi_keep M0 K none (am_st J Lg rr n)) : am_St d k_Hi_keep M0 K 16 [some (.ref 1336)] [] (am_st I Lg rr n) := by
  obtain ⟨q1, q2, q3, π, q4, q5, q6⟩ := hc
  have eu : am_un (nI us) = us := n_un (by omega)
  have hp := (q4 us hu).1
  have hr : RR rr 1344 us = some (1345 + 7 * π us) := by
    rw [RR_l (Or.inl rfl)]
    exact (q4 us hu).2
  have sA := st_A_1344 (π us) hp
  have gs : (am_oS (1345 + 7 * π us) 16 && Nat.ble 12 (1345 + 7 * π us) && true) = true := am_ba (am_ba (oS_of sA.1.1 (by omega)) (Nat.ble_eq_true_of_le (by omega))) rfl
  refine am_step _ _ _ (b_Hi_keep_16 (am_gi rfl (am_obi (live_1 rr) (am_gi rfl (am_gi rfl ?_)))))
  rw [q2, eu]
  refine ⟨hu, am_obi hr (am_gi rfl (am_obi (live_0 rr) (am_gi gs (s_St_become hd sA st_A_1336 (by omega) fun J h1 h2 h3 h4 => ⟨rfl, am_step _ _ _ (b_Hi_keep_32 (am_gi rfl (am_gi rfl (h _ ?_ (fun b b1 b2 => ?_) (fun b b1 => ?_)))))⟩))))⟩
  · have e2 : J 1336 2 = nI us := by rw [h4 1336 (by omega), q2]
    refine ⟨q1.fr fun b b1 b2 => ?_, ?_, by omega, π, q4, q5, fun k hk => ?_⟩
    · rw [am_sr_off _ _ (by omega), h4 b (by omega)]
    · rw [am_sr_at, am_u1_at, e2, nI_add]
    · dsimp only
      by_cases e : k = us
      · subst e
        rw [if_pos rfl]
        exact (q1.copy h1 h2 h3).fr fun b b1 b2 => am_sr_off _ _ (by omega)
      · rw [if_neg e]
        have pk := (q4 k (by omega)).1
        have pne : ¬ π k = π us := fun h => e (q5 k us (by omega) hu h)
        exact (q6 k (by omega)).fr fun b b1 b2 => by
          rw [am_sr_off _ _ (by omega), h4 b (by omega)]
  · rw [am_sr_off _ _ b2, h4 b (by omega)]
  · rw [am_sr_off _ _ (by omega), h4 b (by omega)]
theorem s_forget {now : a_S} {ks : Nat → a_S} (hd : 1 ≤ d) (hc : c_H I rr 1336 1337 1344 1345 now 6 ks) (h : ∀ J rr', c_H J rr' 1336 1337 1344 1345 now 5 (fun k => ks (k + 1)) → (∀ b, ¬ b = 1336 → J b = I b) → (∀ b, ¬ b = 1344 → rr' b = rr b) → K none (am_st J Lg rr' n)) : am_AC d k_Hi_forgetOldest [.ref 1336] (am_st I Lg rr n) K := by
  obtain ⟨d, rfl, hd1⟩ := s_up hd
  obtain ⟨q1, q2, q3, π, q4, q5, q6⟩ := hc
  have p0 := (q4 0 (by decide)).1
  have r0 : RR rr 1344 (am_un (nI 0)) = some (1345 + 7 * π 0) := by
    rw [RR_l (Or.inl rfl)]
    exact (q4 0 (by decide)).2
  have sA0 := st_A_1344 (π 0) p0
  have key : ∀ k, k ≤ 6 → 1 ≤ k → ∀ rr', (∀ j, j < 6 → rr' 1344 j = rr 1344 (if j < k - 1 then j + 1 else j)) → (∀ b, ¬ b = 1344 → rr' b = rr b) → am_St d k_Hi_forgetOldest (am_st I Lg rr n) K 9 [some (.ref 1336), some (.ref (1345 + 7 * π 0)), some (.int (nI k))] [] (am_st I Lg rr' n) := by
    refine lp_up _ (fun k hk ih => ?_) ?_
    · intro hk1 rr' h1 h2
      have eu : am_un (nI k) = k := n_un (by omega)
      have eu1 : am_un (nI k - nI 1) = k - 1 := by
        rw [pk_sub (by omega)]
        exact n_un (by omega)
      have pk := (q4 k hk).1
      have sA := st_A_1344 (π k) pk
      have rk : RR rr' 1344 k = some (1345 + 7 * π k) := by
        rw [RR_l (Or.inl rfl), h1 k hk, if_neg (by omega)]
        exact (q4 k hk).2
      have gk : (am_oS 1344 5 && Nat.ble 12 1344 && am_oS (1345 + 7 * π k) 16 && Nat.ble 12 (1345 + 7 * π k)) = true := am_ba (am_ba rfl (oS_of sA.1.1 (by omega))) (Nat.ble_eq_true_of_le (by omega))
      refine am_step _ _ _ (b_Hi_forgetOldest_9 ⟨fun _ => am_gi rfl (am_obi (live_1 rr') (am_gi rfl (am_obi (live_1 rr') (am_gi rfl ?_)))), fun q => absurd (nI_lt hk (by decide)) q⟩)
      rw [eu]
      refine ⟨hk, am_obi rk (am_gi gk ?_)⟩
      rw [eu1, RR_put (Or.inl rfl)]
      refine ⟨show k - 1 < 6 by omega, am_step _ _ _ (b_Hi_forgetOldest_29 ?_)⟩
      rw [nI_add]
      refine ih (by omega) _ (fun j hj => ?_) (fun b hb => ?_)
      · rw [am_sr_at]
        by_cases e : j = k - 1
        · subst e
          rw [am_u1_at, if_pos (by omega)]
          rw [show k - 1 + 1 = k by omega]
          exact (q4 k hk).2.symm
        · rw [am_u1_off _ _ e, RR_l (Or.inl rfl), h1 j hj]
          congr 1
          by_cases e2 : j < k - 1
          · rw [if_pos e2, if_pos (by omega)]
          · rw [if_neg e2, if_neg (by omega)]
      · rw [am_sr_off _ _ hb, h2 b hb]
    · intro _ rr' h1 h2
      have gk : (am_oS 1344 5 && Nat.ble 12 1344 && am_oS (1345 + 7 * π 0) 16 && Nat.ble 12 (1345 + 7 * π 0)) = true := am_ba (am_ba rfl (oS_of sA0.1.1 (by omega))) (Nat.ble_eq_true_of_le (by omega))
      refine am_step _ _ _ (b_Hi_forgetOldest_9 ⟨fun q => absurd q (by decide), fun _ => am_gi rfl (am_obi (live_1 rr') (am_gi gk ⟨show am_un (nI 5) < 6 by decide, ?_⟩))⟩)
      rw [RR_put (Or.inl rfl)]
      refine am_step _ _ _ (b_Hi_forgetOldest_42 (am_gi rfl (h _ _ ?_ (fun b hb => am_sr_off _ _ hb) (fun b hb => ?_))))
      · refine ⟨q1.fr fun b b1 b2 => am_sr_off _ _ (by omega), ?_, by decide, fun k => if k = 5 then π 0 else π (k + 1), fun k hk => ?_, fun i j hi hj e => ?_, fun k hk => ?_⟩
        · rw [am_sr_at, am_u1_at]
        · dsimp only
          by_cases e : k = 5
          · subst e
            rw [if_pos rfl, am_sr_at]
            exact ⟨p0, am_u1_at _ 5 _⟩
          · rw [if_neg e, am_sr_at]
            refine ⟨(q4 (k + 1) (by omega)).1, (am_u1_off _ (i := 5) _ e).trans ?_⟩
            rw [RR_l (Or.inl rfl), h1 k hk, if_pos (by omega)]
            exact (q4 (k + 1) (by omega)).2
        · dsimp only at e
          by_cases ei : i = 5
          · by_cases ej : j = 5
            · omega
            · rw [if_pos ei, if_neg ej] at e
              have := q5 0 (j + 1) (by decide) (by omega) e
              omega
          · by_cases ej : j = 5
            · rw [if_neg ei, if_pos ej] at e
              have := q5 (i + 1) 0 (by omega) (by decide) e
              omega
            · rw [if_neg ei, if_neg ej] at e
              have := q5 (i + 1) (j + 1) (by omega) (by omega) e
              omega
        · dsimp only
          have := (q4 (k + 1) (by omega)).1
          rw [if_neg (by omega)]
          exact (q6 (k + 1) (by omega)).fr fun b b1 b2 => am_sr_off _ _ (by omega)
      · rw [am_sr_off _ _ hb, h2 b hb]
  refine am_in _ _ _ (am_step _ _ _ (b_Hi_forgetOldest_0 (am_gi rfl (am_obi (live_1 rr) (am_gi rfl ⟨show am_un (nI 0) < 6 by decide, am_obi r0 (key 1 (by decide) (Nat.le_refl _) rr (fun j hj => ?_) fun _ _ => rfl)⟩)))))
  rw [if_neg (by omega)]
theorem s_keep {now : a_S} {us : Nat} {ks : Nat → a_S} (hd : 3 ≤ d) (hc : c_H I rr 1336 1337 1344 1345 now us ks) (h : ∀ J rr', c_H J rr' 1336 1337 1344 1345 now (g_ku us) (g_kk us now ks) → (∀ b, b < 1345 → ¬ b = 1336 → J b = I b) → (∀ b, 1387 ≤ b → J b = I b) → (∀ b, ¬ b = 1344 → rr' b = rr b) → K none (am_st J Lg rr' n)) : am_AC d k_Hi_keep [.ref 1336] (am_st I Lg rr n) K := by
  obtain ⟨d, rfl, hd1⟩ := s_up hd
  have hu := hc.2.2.1
  by_cases e : us = 6
  · subst e
    refine am_in _ _ _ (am_step _ _ _ (b_Hi_keep_0 (am_gi rfl ?_)))
    rw [hc.2.1]
    refine s_isOutside (by omega) ⟨_, rfl, am_step _ _ _ (b_Hi_keep_9 ⟨fun q => ?_, fun _ => am_gi rfl (s_forget (by omega) hc fun J rr' h1 h2 h3 => ⟨rfl, s_keep13 hd1 (by decide) h1 fun J2 g1 g2 g3 => ?_⟩)⟩)⟩
    · exact absurd q (by decide +kernel)
    · exact h J2 rr' g1 (fun b b1 b2 => by rw [g2 b b1 b2, h2 b b2]) (fun b b1 => by rw [g3 b b1, h2 b (by omega)]) h3
  · have e2 : g_ku us = us + 1 := if_neg e
    have e3 : g_kk us now ks = fun k => if k = us then now else ks k := funext fun k => if_neg e
    rw [e2, e3] at h
    refine am_in _ _ _ (am_step _ _ _ (b_Hi_keep_0 (am_gi rfl ?_)))
    rw [hc.2.1]
    refine s_isOutside (by omega) ⟨_, rfl, am_step _ _ _ (b_Hi_keep_9 ⟨fun _ => s_keep13 hd1 (by omega) hc fun J2 g1 g2 g3 => h J2 rr g1 g2 g3 fun _ _ => rfl, fun q => ?_⟩)⟩
    exact absurd (hi_out (by omega) (by decide)) q
theorem s_takeBack {now : a_S} {us : Nat} {ks : Nat → a_S} (hd : 3 ≤ d) (hc : c_H I rr 1336 1337 1344 1345 now us ks) (h0 : us = 0 → K (some (.int (am_k (-4)))) (am_st I Lg rr n)) (h : 0 < us → ∀ J, c_H J rr 1336 1337 1344 1345 (ks (us - 1)) (us - 1) ks → (∀ b, b < 1336 ∨ 1344 ≤ b → J b = I b) → K (some (.int (nI (us - 1)))) (am_st J Lg rr n)) : am_AC d k_Hi_takeBack [.ref 1336] (am_st I Lg rr n) K := by
  obtain ⟨d, rfl, hd1⟩ := s_up hd
  obtain ⟨q1, q2, q3, π, q4, q5, q6⟩ := hc
  refine am_in _ _ _ (am_step _ _ _ (b_Hi_takeBack_0 (am_gi rfl ⟨fun q => ?_, fun q => am_gi rfl ⟨fun q3 => ?_, fun _ => am_gi rfl (am_gi rfl (am_gi rfl (am_obi (live_0 rr) (am_gi rfl (am_obi (live_1 rr) (am_gi rfl (am_gi rfl ?_)))))))⟩⟩)))
  · rw [q2, nI_ltI (by omega) (by decide)] at q
    exact h0 (by omega)
  · rw [q2] at q3
    exact absurd q3 (nI_nlt (by omega) (by decide))
  · rw [q2, nI_ltI (by omega) (by decide)] at q
    have hu : 0 < us := by omega
    have e1 : am_un (am_sr I 1336 (am_u1 (I 1336) 2 (I 1336 2 - nI 1)) 1336 2) = us - 1 := by
      rw [am_sr_at, am_u1_at, q2, pk_sub (by omega)]
      exact n_un (by omega)
    have hp := (q4 (us - 1) (by omega)).1
    have sA := st_A_1344 (π (us - 1)) hp
    have hr : RR rr 1344 (us - 1) = some (1345 + 7 * π (us - 1)) := by
      rw [RR_l (Or.inl rfl)]
      exact (q4 (us - 1) (by omega)).2
    rw [e1]
    refine ⟨show us - 1 < 6 by omega, am_obi hr (am_gi rfl (s_St_become hd1 st_A_1336 sA (by omega) fun J h1 h2 h3 h4 => ⟨rfl, am_step _ _ _ (b_Hi_takeBack_46 (am_gi rfl ?_))⟩))⟩
    have e2 : J 1336 2 = nI (us - 1) := by
      rw [h4 1336 (by omega), am_sr_at, am_u1_at, q2, pk_sub (by omega)]
    rw [e2]
    have hb : ∀ b, b < 1336 ∨ 1344 ≤ b → J b = I b := fun b hb => by
      rw [h4 b (by omega), am_sr_off _ _ (by omega)]
    refine h hu J ⟨?_, e2, by omega, π, q4, q5, fun k hk => ?_⟩ hb
    · have := (q6 (us - 1) (by omega)).fr (I' := am_sr I 1336 (am_u1 (I 1336) 2 (I 1336 2 - nI 1))) fun b b1 b2 => am_sr_off _ _ (by omega)
      exact this.copy h1 h2 h3
    · exact (q6 k (by omega)).fr fun b b1 b2 => hb b (by omega)
end KP
