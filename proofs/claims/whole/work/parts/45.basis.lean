/-! THE CLASS'S CODE, III: the basis -/
def g_st (j : Nat) : Nat := [5, 7, 10, 11, 14, 15, 17, 19, 20, 21, 22].getD j 0
def g_bas (k q : Nat) : Nat := itn (fun j w => w ||| 2 ^ ((g_st j + 23 - k) % 23)) 8388608 q
def g_B (k : Nat) : Nat := g_bas k 11
theorem g_st_lt : ∀ j, j < 11 → g_st j < 23 := by decide +kernel
theorem ro24 {z : Nat} (hz : 25 ≤ z) : am_ro z 24 12 := ⟨rfl, rfl, hz, by decide⟩
theorem am_u1_u1 {α : Type} (f : Nat → α) (i : Nat) (v w : α) : am_u1 (am_u1 f i v) i w = am_u1 f i w := by
  funext j
  by_cases h : j = i
  · subst h
    rw [am_u1_at, am_u1_at]
  · rw [am_u1_off _ _ h, am_u1_off _ _ h, am_u1_off _ _ h]
section G3
variable {d : Nat} {K : Option Value → am_M → Prop} {I : Nat → Nat → Int32} {Lg : Nat → Nat → Int64} {R : Nat → Nat → Option Nat} {z ss n : Nat}
theorem s_fillBasis (hd : 2 ≤ d) (hz : 25 ≤ z) (hR : R 19 4 = some 24) (hS : ∀ j, j < 11 → I 1 j = nI (g_st j)) (h : K none (am_sr I 24 (am_fl (fun k => nI (g_B k)) (I 24) 12), Lg, R, z, ss, n)) : am_AC d k_Go_fillBasis [.ref 19] (I, Lg, R, z, ss, n) K := by
  obtain ⟨d, rfl, hd1⟩ := s_up hd
  have ro := ro24 hz
  have key : ∀ k, k ≤ 12 → am_St d k_Go_fillBasis (I, Lg, R, z, ss, n) K 2 [some (.ref 19), some (.int (nI k)), none, none, none, none] [] (am_sr I 24 (am_fl (fun k => nI (g_B k)) (I 24) k), Lg, R, z, ss, n) := by
    refine lp_up _ (fun k hk ih => ?_) ?_
    · have inner : ∀ q, q ≤ 11 → am_St d k_Go_fillBasis (I, Lg, R, z, ss, n) K 26 [some (.ref 19), some (.int (nI k)), some (.ref 1), some (.int (nI 11)), some (.int (nI q)), none] [] (am_sr I 24 (am_u1 (am_fl (fun k => nI (g_B k)) (I 24) k) k (nI (g_bas k q))), Lg, R, z, ss, n) := by
        refine lp_up _ (fun q hq ih2 => ?_) ?_
        · have hlt := g_st_lt q hq
          refine am_step _ _ _ (d_Go_fillBasis_26 ⟨fun _ => am_gi (Nat.ble_eq_true_of_le (by omega)) ⟨?_, am_gi (Nat.ble_eq_true_of_le (by omega)) (am_obi hR (am_gi ro.g2 ⟨?_, s_floorMod hd1 (by decide) ⟨_, rfl, am_step _ _ _ (d_Go_fillBasis_55 (am_gi ro.g3 ⟨?_, ?_⟩))⟩⟩))⟩, fun q2 => absurd (nI_lt hq (by decide)) q2⟩)
          · rw [n_un (by omega)]
            exact hq
          · rw [ro.n, n_un (by omega)]
            exact hk
          · rw [ro.n, n_un (by omega)]
            exact hk
          · rw [n_un (by omega), n_un (by omega), am_sr_at, am_u1_at, am_sr_off _ _ (by decide), hS q hq, m_fm_23 _ hlt _ hk, n_p2 (by omega), n_or, am_u1_u1, am_sr_sr, nI_add]
            refine am_fg ?_ ih2
            exact le_same _ (le_same _ (le_same _ (le_same _ (le_same _ (le_int _ le_nil)))))
        · refine am_step _ _ _ (d_Go_fillBasis_26 ⟨fun q2 => absurd q2 (by decide), fun _ => ?_⟩)
          rw [nI_add]
          refine am_fg ?_ (am_fl_s (fun k => nI (g_B k)) (I 24) k ▸ ih)
          exact le_same _ (le_same _ (le_ref _ (le_int _ (le_int _ (le_same _ le_nil)))))
      refine am_step _ _ _ (d_Go_fillBasis_2 ⟨fun _ => am_gi (Nat.ble_eq_true_of_le (by omega)) (am_obi hR (am_gi ro.g3 ⟨?_, am_gi (Nat.ble_eq_true_of_le (by omega)) ?_⟩)), fun q2 => absurd (nI_lt hk (by decide)) q2⟩)
      · rw [ro.n, n_un (by omega)]
        exact hk
      · rw [n_un (by omega), am_sr_at, am_sr_sr]
        exact inner 0 (by decide)
    · exact am_step _ _ _ (d_Go_fillBasis_2 ⟨fun q2 => absurd q2 (by decide), fun _ => h⟩)
  have k0 := key 0 (by decide)
  rw [am_fl_0, am_sr_id] at k0
  exact am_in _ _ _ (am_step _ _ _ (d_Go_fillBasis_0 k0))
end G3
