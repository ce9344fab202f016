/-! WHAT THE CONSTRUCTORS MAKE, VII: the code -/
/-- the tables of the code are there -/
def go_P (J : Nat → Nat → Int32) : Prop := (∀ p, p < 4096 → J 20 p = nI (g_w p)) ∧ (∀ k, k < 759 → J 21 k = nI ((g_ws 8 4096).getD k 0)) ∧ (∀ k, k < 2576 → J 22 k = nI ((g_ws 12 4096).getD k 0)) ∧ (∀ r, r < 4096 → g_Q (J 23) r) ∧ (∀ k, k < 12 → J 24 k = nI (g_B k)) ∧ ∀ p, p < 4096 → J 25 p = nI (g_N p)
theorem am_fl_in {α : Type} (f g : Nat → α) {p j : Nat} (h : j < p) : am_fl f g p j = f j := if_pos h
section G5
variable {d : Nat} {K : Option Value → am_M → Prop} {I : Nat → Nat → Int32} {Lg : Nat → Nat → Int64} {R : Nat → Nat → Option Nat} {z ss n : Nat}
/-- words and numbers, as far as the first q words go -/
def go_I (J1 : Nat → Nat → Int32) (q : Nat) (J : Nat → Nat → Int32) : Prop := (∀ p, p < 4096 → g_N p < q → J 20 p = nI (g_w p)) ∧ (∀ p, p < 4096 → g_N p < q → J 25 p = nI (g_N p)) ∧ ∀ b, ¬ b = 20 → ¬ b = 25 → J b = J1 b
theorem go_I.next {J1 J : Nat → Nat → Int32} {q : Nat} (hq : q < 4096) (h : go_I J1 q J) : go_I J1 (q + 1) (am_sr (am_sr J 20 (am_u1 (J 20) (g_pl (g_W q)) (nI (g_W q)))) 25 (am_u1 (am_sr J 20 (am_u1 (J 20) (g_pl (g_W q)) (nI (g_W q))) 25) (g_pl (g_W q)) (nI q))) := by
  obtain ⟨h1, h2, h3⟩ := h
  refine ⟨fun p hp hn => ?_, fun p hp hn => ?_, fun b b1 b2 => ?_⟩
  · rw [am_sr_off _ _ (by decide), am_sr_at]
    by_cases e : p = g_pl (g_W q)
    · subst e
      rw [am_u1_at, g_w_pl]
    · rw [am_u1_off _ _ e]
      refine h1 p hp ?_
      have : ¬ g_N p = q := fun e2 => e (by rw [← e2, g_W_N, pl_w hp])
      omega
  · rw [am_sr_at, am_sr_off _ _ (by decide)]
    by_cases e : p = g_pl (g_W q)
    · subst e
      rw [am_u1_at, g_N_pl hq]
    · rw [am_u1_off _ _ e]
      refine h2 p hp ?_
      have : ¬ g_N p = q := fun e2 => e (by rw [← e2, g_W_N, pl_w hp])
      omega
  · rw [am_sr_off _ _ b2, am_sr_off _ _ b1, h3 b b1 b2]
theorem s_Go_loop {M0 : am_M} {Q : Nat → Nat → Option Nat} {J1 : Nat → Nat → Int32} (hd : 2 ≤ d) (hz : 26 ≤ z) (hR0 : Q 19 0 = some 20) (hR4 : Q 19 4 = some 24) (hR5 : Q 19 5 = some 25) (hB : ∀ k, k < 12 → J1 24 k = nI (g_B k)) (h : ∀ J, go_I J1 4096 J → am_St d k_Go_init M0 K 63 [some (.ref 19), some (.int (nI 4096)), none] [] (J, Lg, Q, z, ss, n)) :
    ∀ q, q ≤ 4096 → ∀ J, go_I J1 q J → am_St d k_Go_init M0 K 63 [some (.ref 19), some (.int (nI q)), none] [] (J, Lg, Q, z, ss, n) := by
  have r20 : am_ro z 20 4096 := ⟨rfl, rfl, by omega, by decide⟩
  have r25 : am_ro z 25 4096 := ⟨rfl, rfl, by omega, by decide⟩
  refine lp_up _ (fun q hq ih => ?_) h
  intro J hJ
  have ep : g_pl (g_W q) < 2 ^ 32 := Nat.lt_trans (pl_lt _) (by decide)
  have hW := Nat.lt_trans (g_W_lt q) (show 2 ^ 24 < 2 ^ 31 by decide)
  refine am_step _ _ _ (d_Go_init_63 ⟨fun _ => am_gi (am_ba (am_ba (Nat.ble_eq_true_of_le (by omega)) rfl) rfl) ?_, fun q2 => absurd (nI_lt hq (by decide)) q2⟩)
  refine s_GwordOf (B := g_B) (by omega) (by omega) (by omega) hR4 (fun k hk => by rw [hJ.2.2 24 (by decide) (by decide), hB k hk]) ⟨_, rfl, am_step _ _ _ (d_Go_init_75 (am_gi (Nat.ble_eq_true_of_le (by omega)) (am_obi hR0 ?_)))⟩
  refine s_place (by omega) hW ⟨_, rfl, am_step _ _ _ (d_Go_init_84 (am_gi r20.g3 ⟨?_, am_gi (Nat.ble_eq_true_of_le (by omega)) (am_obi hR5 ?_)⟩))⟩
  · rw [r20.n]
    show am_un (nI (g_pl (g_W q))) < 4096
    rw [n_un ep]
    exact pl_lt _
  · refine s_place (by omega) hW ⟨_, rfl, am_step _ _ _ (d_Go_init_94 (am_gi r25.g3 ⟨?_, ?_⟩))⟩
    · rw [r25.n]
      show am_un (nI (g_pl (g_W q))) < 4096
      rw [n_un ep]
      exact pl_lt _
    · show am_St d _ _ K 63 _ _ (am_sr (am_sr J 20 (am_u1 (J 20) (am_un (nI (g_pl (g_W q)))) (nI (g_W q)))) 25 (am_u1 (am_sr J 20 (am_u1 (J 20) (am_un (nI (g_pl (g_W q)))) (nI (g_W q))) 25) (am_un (nI (g_pl (g_W q)))) (nI q)), Lg, Q, z, ss, n)
      rw [n_un ep, nI_add]
      exact am_fg (le_same _ (le_same _ (le_int _ le_nil))) (ih _ (hJ.next hq))
theorem s_Go_init (hd : 4 ≤ d) (hS : ∀ j, j < 11 → I 1 j = nI (g_st j)) (h : ∀ J0 J L Q, cs_P 20 19 6 (am_u1 (am_u1 (am_u1 (am_u1 (am_u1 (am_u1 (R 19) 0 (some 20)) 1 (some 21)) 2 (some 22)) 3 (some 23)) 4 (some 24)) 5 (some 25)) I Lg R J0 L Q → (∀ b, b < 20 ∨ 26 ≤ b → J b = J0 b) → go_P J → ∀ s, s = ss + 15635 → K none (J, L, Q, 26, s, n)) : am_AC d k_Go_init [.ref 19] (I, Lg, R, 20, ss, n) K := by
  obtain ⟨d, rfl, hd1⟩ := s_up hd
  have p0 := cs_0 20 19 I Lg R
  have p1 := cs_row 0 (by decide) p0 (sr_int (b := 20) (by decide) rfl)
  have p2 := cs_row 1 (by decide) p1 (sr_int (b := 21) (by decide) rfl)
  have p3 := cs_row 2 (by decide) p2 (sr_int (b := 22) (by decide) rfl)
  have p4 := cs_row 3 (by decide) p3 (sr_int (b := 23) (by decide) rfl)
  have p5 := cs_row 4 (by decide) p4 (sr_int (b := 24) (by decide) rfl)
  have p6 := cs_row 5 (by decide) p5 (sr_int (b := 25) (by decide) rfl)
  refine am_in _ _ _ (am_step _ _ _ (d_Go_init_0 (am_gi rfl ⟨⟨?_, ?_⟩, am_gi rfl (am_step _ _ _ (d_Go_init_13 (am_gi rfl ⟨⟨?_, ?_⟩, am_gi rfl (am_step _ _ _ (d_Go_init_22 (am_gi rfl ⟨⟨?_, ?_⟩, am_gi rfl (am_step _ _ _ (d_Go_init_31 (am_gi rfl ⟨⟨?_, ?_⟩, am_gi rfl (am_step _ _ _ (d_Go_init_40 (am_gi rfl ⟨⟨?_, ?_⟩, am_gi rfl (am_step _ _ _ (d_Go_init_48 (am_gi rfl ⟨⟨?_, ?_⟩, am_gi rfl ?_⟩)))⟩)))⟩)))⟩)))⟩)))⟩)))
  · show 20 + 1 ≤ 20 + 6
    decide
  · show ss + 4096 ≤ ss + 15635
    omega
  · show 20 + 1 + 1 ≤ 20 + 6
    decide
  · show ss + 4096 + 759 ≤ ss + 15635
    omega
  · show 20 + 1 + 1 + 1 ≤ 20 + 6
    decide
  · show ss + 4096 + 759 + 2576 ≤ ss + 15635
    omega
  · show 20 + 1 + 1 + 1 + 1 ≤ 20 + 6
    decide
  · show ss + 4096 + 759 + 2576 + 4096 ≤ ss + 15635
    omega
  · show 20 + 1 + 1 + 1 + 1 + 1 ≤ 20 + 6
    decide
  · show ss + 4096 + 759 + 2576 + 4096 + 12 ≤ ss + 15635
    omega
  · show 20 + 1 + 1 + 1 + 1 + 1 + 1 ≤ 20 + 6
    decide
  · show ss + 4096 + 759 + 2576 + 4096 + 12 + 4096 ≤ ss + 15635
    omega
  · have es : ∀ s, s = ss + 15635 → ∀ J0 L Q, cs_P 20 19 6 (am_u1 (am_u1 (am_u1 (am_u1 (am_u1 (am_u1 (R 19) 0 (some 20)) 1 (some 21)) 2 (some 22)) 3 (some 23)) 4 (some 24)) 5 (some 25)) I Lg R J0 L Q → am_St d k_Go_init (I, Lg, R, 20, ss, n) K 57 [some (.ref 19), none, none] [] (J0, L, Q, 26, s, n) := by
      intro s hs J0 L Q hP
      have hF := hP.2.2.2.2.1
      have f0 : Q 19 0 = some 20 := by rw [hF]; rfl
      have f1 : Q 19 1 = some 21 := by rw [hF]; rfl
      have f2 : Q 19 2 = some 22 := by rw [hF]; rfl
      have f3 : Q 19 3 = some 23 := by rw [hF]; rfl
      have f4 : Q 19 4 = some 24 := by rw [hF]; rfl
      have f5 : Q 19 5 = some 25 := by rw [hF]; rfl
      refine am_step _ _ _ (d_Go_init_57 (am_gi rfl ?_))
      refine s_fillBasis (by omega) (by decide) f4 (fun j hj => by rw [hP.1.1 1 (by decide), hS j hj]) ⟨rfl, am_step _ _ _ (d_Go_init_61 ?_)⟩
      refine s_Go_loop (J1 := am_sr J0 24 (am_fl (fun k => nI (g_B k)) (J0 24) 12)) (by omega) (by decide) f0 f4 f5 (fun k hk => by rw [am_sr_at, am_fl_in _ _ hk]) (fun J hJ => ?_) 0 (by decide) _ ⟨fun p _ h => absurd h (Nat.not_lt_zero _), fun p _ h => absurd h (Nat.not_lt_zero _), fun _ _ _ => rfl⟩
      obtain ⟨j1, j2, j3⟩ := hJ
      have j1 : ∀ p, p < 4096 → J 20 p = nI (g_w p) := fun p hp => j1 p hp (g_N_lt p)
      refine am_step _ _ _ (d_Go_init_63 ⟨fun q2 => absurd q2 (by decide), fun _ => am_gi rfl (am_obi f1 (am_gi rfl ?_))⟩)
      refine s_fillWords (N := 759) (by omega) ⟨rfl, rfl, by decide, by decide⟩ (by decide) (by decide) f0 j1 (by decide) (by rw [ws_8]; decide) ⟨rfl, am_step _ _ _ (d_Go_init_112 (am_gi rfl (am_obi f2 (am_gi rfl ?_))))⟩
      refine s_fillWords (N := 2576) (by omega) ⟨rfl, rfl, by decide, by decide⟩ (by decide) (by decide) f0 (fun p hp => by rw [am_sr_off _ _ (by decide), j1 p hp]) (by decide) (by rw [ws_12]; decide) ⟨rfl, am_step _ _ _ (d_Go_init_122 (am_gi rfl ?_))⟩
      refine s_fillLeaders (by omega) (by decide) f0 f3 (fun p hp => by rw [am_sr_off _ _ (by decide), am_sr_off _ _ (by decide), j1 p hp]) ?_ (fun f hf => ⟨rfl, am_step _ _ _ (d_Go_init_126 ?_)⟩)
      · rw [am_sr_off _ _ (by decide), am_sr_off _ _ (by decide), j3 23 (by decide) (by decide), am_sr_off _ _ (by decide), hP.1.2 23 (by decide) (by decide)]
        rfl
      · refine ⟨⟨rfl, hs⟩, h J0 _ L Q hP (fun b hb => ?_) ⟨fun p hp => ?_, fun k hk => ?_, fun k hk => ?_, ?_, fun k hk => ?_, fun p hp => ?_⟩ s hs⟩
        · rw [am_sr_off _ _ (by omega), am_sr_off _ _ (by omega), am_sr_off _ _ (by omega), j3 b (by omega) (by omega), am_sr_off _ _ (by omega)]
        · rw [am_sr_off _ _ (by decide), am_sr_off _ _ (by decide), am_sr_off _ _ (by decide), j1 p hp]
        · rw [am_sr_off _ _ (by decide), am_sr_off _ _ (by decide), am_sr_at, am_fl_in _ _ (by rw [ws_8]; exact hk)]
        · rw [am_sr_off _ _ (by decide), am_sr_at, am_fl_in _ _ (by rw [ws_12]; exact hk)]
        · rw [am_sr_at]
          exact hf
        · rw [am_sr_off _ _ (by decide), am_sr_off _ _ (by decide), am_sr_off _ _ (by decide), j3 24 (by decide) (by decide), am_sr_at, am_fl_in _ _ hk]
        · rw [am_sr_off _ _ (by decide), am_sr_off _ _ (by decide), am_sr_off _ _ (by decide), j2 p hp (g_N_lt p)]
    refine es _ ?_ _ _ _ p6
    show ss + 4096 + 759 + 2576 + 4096 + 12 + 4096 = ss + 15635
    omega
end G5
