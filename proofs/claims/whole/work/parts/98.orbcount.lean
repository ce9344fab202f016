/-! GROUPS: COUNTS OF ORBITS BY THE CLASS -/
section OC
variable {d : Nat} {K : Option Value → am_M → Prop} {I J : Nat → Nat → Int32} {Lg : Nat → Nat → Int64} {rr : Nat → Nat → Option Nat} {n : Nat} {N kind : Nat} {ρ : Nat → Nat} {a : Nat} {S : Nat → Nat}
theorem s_number (hd : 1 ≤ d) (hN : N ≤ 4096) (hJ : oJ I kind N ρ J) (h : K (some (.int (nI (g_cnt (fun i => decide (ρ i = i)) N)))) (am_st J Lg rr n)) : am_AC d k_Or_number [.ref 1333] (am_st J Lg rr n) K := by
  obtain ⟨d, rfl, hd1⟩ := s_up hd
  obtain ⟨o1, o2, o3, P, hP⟩ := hJ
  have key : ∀ i, i ≤ N → am_St d k_Or_number (am_st J Lg rr n) K 4 [some (.ref 1333), some (.int (nI (g_cnt (fun i => decide (ρ i = i)) i))), some (.int (nI i))] [] (am_st J Lg rr n) := by
    refine lp_up _ (fun i hi ih => ?_) ?_
    · obtain ⟨p1, p2, _, _⟩ := hP i hi
      rw [cnt_s] at ih
      refine am_step _ _ _ (b_Or_number_4 ?_)
      rw [o3, n_un (by omega), p1, nI_add, nI_add]
      refine ⟨fun _ => ⟨by omega, fun q => ?_, fun q => ?_⟩, fun q => absurd (nI_lt hi (by omega)) q⟩
      · rw [nI_eq (by omega) (by omega)] at q
        rw [decide_eq_true ((uf_root hP hi).mp q), if_pos rfl] at ih
        exact ih
      · rw [nI_eq (by omega) (by omega)] at q
        rw [decide_eq_false (fun e => q ((uf_root hP hi).mpr e)), if_neg (by decide)] at ih
        exact ih
    · refine am_step _ _ _ (b_Or_number_4 ?_)
      rw [o3]
      exact ⟨fun q => absurd q (nI_nlt (Nat.le_refl _) (by omega)), fun _ => h⟩
  exact am_in _ _ _ (am_step _ _ _ (b_Or_number_0 (key 0 (Nat.zero_le _))))
theorem s_numberOfWeight {wt : Nat} (hd : 3 ≤ d) (hwt : wt < 25) (hJ : oJ I kind 4096 ρ J) (ha : am_ro 1497 a 4096) (hS : ∀ i, i < 4096 → J a i = nI (S i) ∧ S i < 2 ^ 24) (h : K (some (.int (nI (g_cnt (fun i => decide (ρ i = i) && decide (pcn (S i) = wt)) 4096)))) (am_st J Lg rr n)) : am_AC d k_Or_numberOfWeight [.ref 1333, .ref a, .int (nI wt)] (am_st J Lg rr n) K := by
  obtain ⟨d, rfl, hd1⟩ := s_up hd
  obtain ⟨o1, o2, o3, P, hP⟩ := hJ
  have key : ∀ i, i ≤ 4096 → am_St d k_Or_numberOfWeight (am_st J Lg rr n) K 5 [some (.ref 1333), some (.ref a), some (.int (nI wt)), some (.int (nI (g_cnt (fun i => decide (ρ i = i) && decide (pcn (S i) = wt)) i))), some (.int (nI i))] [] (am_st J Lg rr n) := by
    refine lp_up _ (fun i hi ih => ?_) ?_
    · obtain ⟨p1, p2, _, _⟩ := hP i hi
      obtain ⟨s1, s2⟩ := hS i hi
      have pl := pcn_le 24 _ s2
      rw [cnt_s] at ih
      refine am_step _ _ _ (b_Or_numberOfWeight_5 ?_)
      rw [o3, n_un (by omega), p1, nI_add, s1]
      refine ⟨fun _ => am_gi ha.g1 ?_, fun q => absurd (nI_lt hi (by omega)) q⟩
      rw [ha.n]
      refine ⟨fun _ => ⟨by omega, fun q => am_gi (oS_ro ha) ?_, fun q => ?_⟩, fun q => absurd (nI_lt hi (by omega)) q⟩
      · rw [nI_eq (by omega) (by omega)] at q
        rw [decide_eq_true ((uf_root hP hi).mp q), Bool.true_and] at ih
        refine ⟨by omega, s_bitCount (by omega) s2 ⟨_, rfl, am_step _ _ _ (b_Or_numberOfWeight_40 ?_)⟩⟩
        rw [nI_add, nI_add]
        refine ⟨fun q2 => ?_, fun q2 => ?_⟩
        · rw [nI_eq (by omega) (by omega)] at q2
          rw [decide_eq_true q2, if_pos rfl] at ih
          exact ih
        · rw [nI_eq (by omega) (by omega)] at q2
          rw [decide_eq_false q2, if_neg (by decide)] at ih
          exact ih
      · rw [nI_eq (by omega) (by omega)] at q
        rw [decide_eq_false (fun e => q ((uf_root hP hi).mpr e)), Bool.false_and, if_neg (by decide)] at ih
        exact ih
    · refine am_step _ _ _ (b_Or_numberOfWeight_5 ?_)
      rw [o3]
      exact ⟨fun q => absurd q (by decide), fun _ => h⟩
  exact am_in _ _ _ (am_step _ _ _ (b_Or_numberOfWeight_0 (key 0 (Nat.zero_le _))))
theorem s_sizeOf {x : Nat} (hd : 3 ≤ d) (hN : N ≤ 4096) (hx : x < N) (hJ : oJ I kind N ρ J) (h : ∀ J', oJ I kind N ρ J' → K (some (.int (nI (g_cnt (fun i => decide (ρ i = ρ x)) N)))) (am_st J' Lg rr n)) : am_AC d k_Or_sizeOf [.ref 1333, .int (nI x)] (am_st J Lg rr n) K := by
  obtain ⟨d, rfl, hd1⟩ := s_up hd
  obtain ⟨o1, o2, o3, o4⟩ := hJ
  have rl : ρ x < N := by
    obtain ⟨P, hP⟩ := o4
    have key : ∀ i, i < N → ρ i < N := by
      intro i
      induction i using Nat.strongRecOn with
      | ind i ih =>
        intro hi
        obtain ⟨_, p2, p3, p4⟩ := hP i hi
        by_cases e : P i = i
        · rw [p4 e]; exact hi
        · rw [← p3]
          exact ih _ (by omega) (by omega)
    exact key x hx
  have rb : ∀ i, i < N → ρ i < N := by
    obtain ⟨P, hP⟩ := o4
    intro i
    induction i using Nat.strongRecOn with
    | ind i ih =>
      intro hi
      obtain ⟨_, p2, p3, p4⟩ := hP i hi
      by_cases e : P i = i
      · rw [p4 e]; exact hi
      · rw [← p3]
        exact ih _ (by omega) (by omega)
  have key : ∀ i, i ≤ N → ∀ J', uo J N ρ J' → am_St d k_Or_sizeOf (am_st J Lg rr n) K 11 [some (.ref 1333), some (.int (nI x)), some (.int (nI (ρ x))), some (.int (nI (g_cnt (fun i => decide (ρ i = ρ x)) i))), some (.int (nI i))] [] (am_st J' Lg rr n) := by
    refine lp_up _ (fun i hi ih => ?_) ?_
    · intro J' u
      have b := rb i hi
      refine am_step _ _ _ (b_Or_sizeOf_11 ?_)
      rw [u.1 1333 (by decide), o3]
      refine ⟨fun _ => s_Or_root (by omega) hN o3 hi u fun J2 u2 => ⟨_, rfl, am_step _ _ _ (b_Or_sizeOf_26 ?_)⟩, fun q => absurd (nI_lt hi (by omega)) q⟩
      have ih2 := ih J2 u2
      rw [cnt_s] at ih2
      rw [nI_add, nI_add]
      refine ⟨fun q => ?_, fun q => ?_⟩
      · rw [nI_eq (by omega) (by omega)] at q
        rw [decide_eq_true q, if_pos rfl] at ih2
        exact ih2
      · rw [nI_eq (by omega) (by omega)] at q
        rw [decide_eq_false q, if_neg (by decide)] at ih2
        exact ih2
    · intro J' u
      refine am_step _ _ _ (b_Or_sizeOf_11 ?_)
      rw [u.1 1333 (by decide), o3]
      refine ⟨fun q => absurd q (nI_nlt (Nat.le_refl _) (by omega)), fun _ => h J' ⟨fun b b1 b2 b3 => by rw [u.1 b b2]; exact o1 b b1 b2 b3, by rw [u.1 1333 (by decide), o2], by rw [u.1 1333 (by decide), o3], u.2⟩⟩
  exact am_in _ _ _ (am_step _ _ _ (b_Or_sizeOf_0 (s_Or_root (by omega) hN o3 hx ⟨fun b _ => rfl, o4⟩ fun J1 u1 => ⟨_, rfl, am_step _ _ _ (b_Or_sizeOf_5 (key 0 (Nat.zero_le _) J1 u1))⟩)))
end OC
