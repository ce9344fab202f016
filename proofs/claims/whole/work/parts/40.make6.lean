/-! WHAT THE CONSTRUCTORS MAKE, VI: fills; sheets -/
section M6
variable {d : Nat} {K : Option Value → am_M → Prop} {I : Nat → Nat → Int32} {Lg : Nat → Nat → Int64} {R : Nat → Nat → Option Nat} {z ss n : Nat}
theorem s_fillI {a N : Nat} {x : Int32} (hd : 1 ≤ d) (ha : am_ro z a N) (h : K none (am_sr I a (am_fl (fun _ => x) (I a) N), Lg, R, z, ss, n)) : am_AC d k_J_fill2 [.ref a, .int x] (I, Lg, R, z, ss, n) K := by
  obtain ⟨d, rfl, hd1⟩ := s_up hd
  have hN : N ≤ 4096 := by rw [← ha.2.1]; exact so_len_le a
  have key : ∀ p, p ≤ N → am_St d k_J_fill2 (I, Lg, R, z, ss, n) K 5 [some (.ref a), some (.int x), some (.int (nI p)), some (.int (nI N))] [] (am_sr I a (am_fl (fun _ => x) (I a) p), Lg, R, z, ss, n) := by
    refine lp_up _ (fun p hp ih => ?_) ?_
    · refine am_step _ _ _ (d_J_fill2_5 ⟨fun _ => am_gi ha.g3 ?_, fun q => absurd (nI_lt hp (by omega)) q⟩)
      rw [ha.n, n_un (by omega), am_sr_at, am_sr_sr, nI_add]
      have e := am_fl_s (fun _ => x) (I a) p
      rw [e]
      exact ⟨hp, ih⟩
    · exact am_step _ _ _ (d_J_fill2_5 ⟨fun q => absurd q (nI_nlt (Nat.le_refl _) (by omega)), fun _ => h⟩)
  have k0 := key 0 (Nat.zero_le _)
  rw [am_fl_0, am_sr_id] at k0
  refine am_in _ _ _ (am_step _ _ _ (d_J_fill2_0 (am_gi ha.g1 ?_)))
  rw [ha.n]
  exact k0
theorem s_fillL {a N : Nat} {x : Int64} (hd : 1 ≤ d) (t1 : sh_t a = 2) (t2 : sh_n a = N) (t3 : a < z) (t4 : 12 ≤ a) (h : K none (I, am_sr Lg a (am_fl (fun _ => x) (Lg a) N), R, z, ss, n)) : am_AC d k_J_fill [.ref a, .long x] (I, Lg, R, z, ss, n) K := by
  obtain ⟨d, rfl, hd1⟩ := s_up hd
  have hN : N ≤ 4096 := by rw [← t2]; exact so_len_le a
  have hn : am_lS n a = N := by
    unfold am_lS
    rw [show Nat.beq a 0 = false from Bool.eq_false_iff.mpr fun q => by have := Nat.eq_of_beq_eq_true q; omega]
    exact t2
  have g1 : (Nat.ble (sh_t a) 5 && Nat.ble (a + 1) z) = true := am_ba (by rw [t1]; rfl) (Nat.ble_eq_true_of_le t3)
  have g3 : ((Nat.beq (sh_t a) 2 && Nat.ble (a + 1) z) && Nat.ble 12 a) = true := am_ba (am_ba (by rw [t1]; rfl) (Nat.ble_eq_true_of_le t3)) (Nat.ble_eq_true_of_le t4)
  have key : ∀ p, p ≤ N → am_St d k_J_fill (I, Lg, R, z, ss, n) K 6 [some (.ref a), some (.long x), none, some (.int (nI p)), some (.int (nI N))] [] (I, am_sr Lg a (am_fl (fun _ => x) (Lg a) p), R, z, ss, n) := by
    refine lp_up _ (fun p hp ih => ?_) ?_
    · refine am_step _ _ _ (d_J_fill_6 ⟨fun _ => am_gi g3 ?_, fun q => absurd (nI_lt hp (by omega)) q⟩)
      rw [hn, n_un (by omega), am_sr_at, am_sr_sr, nI_add]
      have e := am_fl_s (fun _ => x) (Lg a) p
      rw [e]
      exact ⟨hp, ih⟩
    · exact am_step _ _ _ (d_J_fill_6 ⟨fun q => absurd q (nI_nlt (Nat.le_refl _) (by omega)), fun _ => h⟩)
  have k0 := key 0 (Nat.zero_le _)
  rw [am_fl_0, am_sr_id] at k0
  refine am_in _ _ _ (am_step _ _ _ (d_J_fill_0 (am_gi g1 ?_)))
  rw [hn]
  exact k0
set_option maxRecDepth 20000 in
theorem s_Sh_init (hd : 2 ≤ d) (h : ∀ J L Q, cs_P 1458 1457 7 (am_u1 (am_u1 (am_u1 (R 1457) 0 (some 1458)) 1 (some 1463)) 2 (some 1464)) I Lg R J L Q → ∀ s, s = ss + 140 → K none (am_sr J 1463 (am_fl (fun _ => am_k (-4)) (J 1463) 4), L, Q, 1465, s, n)) : am_AC d k_Sh_init [.ref 1457] (I, Lg, R, 1458, ss, n) K := by
  obtain ⟨d, rfl, hd1⟩ := s_up hd
  have p0 := cs_0 1458 1457 I Lg R
  have q1 : ∀ j, j < 4 → sh_t (1458 + 1 + j) = 2 ∧ sh_n (1458 + 1 + j) = 32 := by decide +kernel
  have p1 := cs_tab 0 4 (by decide) p0 (rfl : sh_r 1458 = mk_t 1458 4) (fun j hj => sr_row (b := 1458 + 1 + j) (by omega) (by rw [(q1 j hj).1]; rfl))
  have p2 := cs_row 1 (by decide) p1 (sr_int (b := 1463) (by decide) rfl)
  have p3 := cs_row 2 (by decide) p2 (sr_int (b := 1464) (by decide) rfl)
  refine am_in _ _ _ (am_step _ _ _ (d_Sh_init_0 (am_gi rfl ⟨?_, ⟨?_, ?_⟩, am_gi rfl (am_step _ _ _ (d_Sh_init_15 (am_gi rfl ⟨⟨?_, ?_⟩, am_gi rfl (am_step _ _ _ (d_Sh_init_22 (am_gi rfl ⟨⟨?_, ?_⟩, am_gi rfl (am_step _ _ _ (d_Sh_init_29 (am_gi rfl (am_obi (b := 1463) ?_ (s_fillI (N := 4) hd1 ?_ ⟨rfl, am_step _ _ _ (d_Sh_init_38 ⟨⟨rfl, ?_⟩, h _ _ _ p3 _ ?_⟩)⟩)))))⟩)))⟩)))⟩)))
  · exact q1
  · show 1458 + 1 + 4 ≤ 1458 + 7
    omega
  · show ss + 4 + 4 * 32 ≤ ss + 140
    omega
  · show 1458 + 1 + 4 + 1 ≤ 1458 + 7
    omega
  · show ss + 4 + 4 * 32 + 4 ≤ ss + 140
    omega
  · show 1458 + 1 + 4 + 1 + 1 ≤ 1458 + 7
    omega
  · show ss + 4 + 4 * 32 + 4 + 4 ≤ ss + 140
    omega
  · exact congrFun p3.2.2.2.2.1 1
  · exact ⟨rfl, rfl, by decide, by decide⟩
  · show ss + 4 + 4 * 32 + 4 + 4 = ss + 140
    omega
  · show ss + 4 + 4 * 32 + 4 + 4 = ss + 140
    omega
end M6
