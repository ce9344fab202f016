/-! WHAT THE CONSTRUCTORS MAKE, V: chain, tape -/
section M5
theorem cs_put {I J : Nat → Nat → Int32} {Lg L : Nat → Nat → Int64} {R Q : Nat → Nat → Option Nat} {z v w : Nat} {F : Nat → Option Nat} (f r : Nat) (hv : v < z) (h : cs_P z v w F I Lg R J L Q) : cs_P z v w (am_u1 F f (some r)) I Lg R J L (am_sr Q v (am_u1 (Q v) f (some r))) := by
  obtain ⟨h1, h2, h3, h4, h5, h6⟩ := h
  refine ⟨h1, h2, fun b b1 b2 => ?_, fun b b1 => ?_, ?_, fun b b1 b2 => ?_⟩
  · rw [am_sr_off _ _ b2, h3 b b1 b2]
  · rw [am_sr_off _ _ (by omega), h4 b b1]
  · rw [am_sr_at, h5]
  · rw [am_sr_off _ _ (by omega), h6 b b1 b2]
variable {d : Nat} {K : Option Value → am_M → Prop} {I J : Nat → Nat → Int32} {Lg L : Nat → Nat → Int64} {R Q : Nat → Nat → Option Nat} {ss n : Nat}
set_option maxRecDepth 20000 in
theorem s_Ch_init (hd : 1 ≤ d) (h : ∀ J L Q, cs_P 27 26 1306 (am_u1 (am_u1 (am_u1 (am_u1 (am_u1 (am_u1 (am_u1 (am_u1 (am_u1 (am_u1 (R 26) 0 (some 27)) 1 (some 28)) 2 (some 29)) 3 (some 30)) 4 (some 55)) 5 (some 632)) 6 (some 633)) 7 (some 1306)) 8 (some 1331)) 9 (some 1332)) I Lg R J L Q → ∀ s, s = ss + 32544 → K none (J, L, Q, 1333, s, n)) : am_AC d k_Ch_init [.ref 26] (I, Lg, R, 27, ss, n) K := by
  obtain ⟨d, rfl, hd1⟩ := s_up hd
  have p0 := cs_0 27 26 I Lg R
  have p1 := cs_row 0 (by decide) p0 (sr_int (b := 27) (by decide) rfl)
  have p2 := cs_row 1 (by decide) p1 (sr_int (b := 28) (by decide) rfl)
  have p3 := cs_row 2 (by decide) p2 (sr_int (b := 29) (by decide) rfl)
  have q4 : ∀ j, j < 24 → sh_t (30 + 1 + j) = 0 ∧ sh_n (30 + 1 + j) = 24 := by decide +kernel
  have p4 := cs_tab 3 24 (by decide) p3 (rfl : sh_r 30 = mk_t 30 24) (fun j hj => sr_int (b := 30 + 1 + j) (by omega) (q4 j hj).1)
  have q5 : ∀ j, j < 576 → sh_t (55 + 1 + j) = 0 ∧ sh_n (55 + 1 + j) = 24 := by decide +kernel
  have p5 := cs_tab 4 576 (by decide) p4 (rfl : sh_r 55 = mk_t 55 576) (fun j hj => sr_int (b := 55 + 1 + j) (by omega) (q5 j hj).1)
  have p6 := cs_row 5 (by decide) p5 (sr_int (b := 632) (by decide) rfl)
  have q7 : ∀ j, j < 672 → sh_t (633 + 1 + j) = 0 ∧ sh_n (633 + 1 + j) = 24 := by decide +kernel
  have p7 := cs_tab 6 672 (by decide) p6 (rfl : sh_r 633 = mk_t 633 672) (fun j hj => sr_int (b := 633 + 1 + j) (by omega) (q7 j hj).1)
  have q8 : ∀ j, j < 24 → sh_t (1306 + 1 + j) = 0 ∧ sh_n (1306 + 1 + j) = 24 := by decide +kernel
  have p8 := cs_tab 7 24 (by decide) p7 (rfl : sh_r 1306 = mk_t 1306 24) (fun j hj => sr_int (b := 1306 + 1 + j) (by omega) (q8 j hj).1)
  have p9 := cs_row 8 (by decide) p8 (sr_int (b := 1331) (by decide) rfl)
  have p10 := cs_row 9 (by decide) p9 (sr_int (b := 1332) (by decide) rfl)
  refine am_in _ _ _ (am_step _ _ _ (d_Ch_init_0 (am_gi rfl ⟨⟨?_, ?_⟩, am_gi rfl (am_step _ _ _ (d_Ch_init_12 (am_gi rfl ⟨⟨?_, ?_⟩, am_gi rfl (am_step _ _ _ (d_Ch_init_20 (am_gi rfl ⟨⟨?_, ?_⟩, am_gi rfl (am_step _ _ _ (d_Ch_init_28 (am_gi rfl ⟨?_, ⟨?_, ?_⟩, am_gi rfl (am_step _ _ _ (d_Ch_init_40 (am_gi rfl ⟨?_, ⟨?_, ?_⟩, am_gi rfl (am_step _ _ _ (d_Ch_init_53 (am_gi rfl ⟨⟨?_, ?_⟩, am_gi rfl (am_step _ _ _ (d_Ch_init_61 (am_gi rfl ⟨?_, ⟨?_, ?_⟩, am_gi rfl (am_step _ _ _ (d_Ch_init_74 (am_gi rfl ⟨?_, ⟨?_, ?_⟩, am_gi rfl (am_step _ _ _ (d_Ch_init_86 (am_gi rfl ⟨⟨?_, ?_⟩, am_gi rfl (am_step _ _ _ (d_Ch_init_94 (am_gi rfl ⟨⟨?_, ?_⟩, am_gi rfl (am_step _ _ _ (d_Ch_init_102 ⟨⟨rfl, ?_⟩, h _ _ _ p10 _ ?_⟩))⟩)))⟩)))⟩)))⟩)))⟩)))⟩)))⟩)))⟩)))⟩)))⟩)))
  · show 27 + 1 ≤ 27 + 1306
    omega
  · show ss + 24 ≤ ss + 32544
    omega
  · show 27 + 1 + 1 ≤ 27 + 1306
    omega
  · show ss + 24 + 24 ≤ ss + 32544
    omega
  · show 27 + 1 + 1 + 1 ≤ 27 + 1306
    omega
  · show ss + 24 + 24 + 24 ≤ ss + 32544
    omega
  · exact q4
  · show 27 + 1 + 1 + 1 + 1 + 24 ≤ 27 + 1306
    omega
  · show ss + 24 + 24 + 24 + 24 + 24 * 24 ≤ ss + 32544
    omega
  · exact q5
  · show 27 + 1 + 1 + 1 + 1 + 24 + 1 + 576 ≤ 27 + 1306
    omega
  · show ss + 24 + 24 + 24 + 24 + 24 * 24 + 576 + 576 * 24 ≤ ss + 32544
    omega
  · show 27 + 1 + 1 + 1 + 1 + 24 + 1 + 576 + 1 ≤ 27 + 1306
    omega
  · show ss + 24 + 24 + 24 + 24 + 24 * 24 + 576 + 576 * 24 + 24 ≤ ss + 32544
    omega
  · exact q7
  · show 27 + 1 + 1 + 1 + 1 + 24 + 1 + 576 + 1 + 1 + 672 ≤ 27 + 1306
    omega
  · show ss + 24 + 24 + 24 + 24 + 24 * 24 + 576 + 576 * 24 + 24 + 672 + 672 * 24 ≤ ss + 32544
    omega
  · exact q8
  · show 27 + 1 + 1 + 1 + 1 + 24 + 1 + 576 + 1 + 1 + 672 + 1 + 24 ≤ 27 + 1306
    omega
  · show ss + 24 + 24 + 24 + 24 + 24 * 24 + 576 + 576 * 24 + 24 + 672 + 672 * 24 + 24 + 24 * 24 ≤ ss + 32544
    omega
  · show 27 + 1 + 1 + 1 + 1 + 24 + 1 + 576 + 1 + 1 + 672 + 1 + 24 + 1 ≤ 27 + 1306
    omega
  · show ss + 24 + 24 + 24 + 24 + 24 * 24 + 576 + 576 * 24 + 24 + 672 + 672 * 24 + 24 + 24 * 24 + 24 ≤ ss + 32544
    omega
  · show 27 + 1 + 1 + 1 + 1 + 24 + 1 + 576 + 1 + 1 + 672 + 1 + 24 + 1 + 1 ≤ 27 + 1306
    omega
  · show ss + 24 + 24 + 24 + 24 + 24 * 24 + 576 + 576 * 24 + 24 + 672 + 672 * 24 + 24 + 24 * 24 + 24 + 24 ≤ ss + 32544
    omega
  · show ss + 24 + 24 + 24 + 24 + 24 * 24 + 576 + 576 * 24 + 24 + 672 + 672 * 24 + 24 + 24 * 24 + 24 + 24 = ss + 32544
    omega
  · show ss + 24 + 24 + 24 + 24 + 24 * 24 + 576 + 576 * 24 + 24 + 672 + 672 * 24 + 24 + 24 * 24 + 24 + 24 = ss + 32544
    omega
set_option maxRecDepth 20000 in
theorem s_Ta_init (hd : 1 ≤ d) (h : ∀ J L Q, cs_P 1439 1438 18 (am_u1 (am_u1 (am_u1 (am_u1 (am_u1 (am_u1 (R 1438) 0 (some 1439)) 2 (some 1440)) 3 (some 1448)) 4 (some 1456)) 1 (some 13)) 5 (some 13)) I Lg R J L Q → ∀ s, s = ss + 474 → K none (J, L, Q, 1457, s, n)) : am_AC d k_Ta_init [.ref 1438, .ref 13] (I, Lg, R, 1439, ss, n) K := by
  obtain ⟨d, rfl, hd1⟩ := s_up hd
  have p0 := cs_0 1439 1438 I Lg R
  have p1 := cs_row 0 (by decide) p0 (sr_int (b := 1439) (by decide) rfl)
  have q2 : ∀ j, j < 7 → sh_t (1440 + 1 + j) = 0 ∧ sh_n (1440 + 1 + j) = 24 := by decide +kernel
  have p2 := cs_tab 2 7 (by decide) p1 (rfl : sh_r 1440 = mk_t 1440 7) (fun j hj => sr_int (b := 1440 + 1 + j) (by omega) (q2 j hj).1)
  have q3 : ∀ j, j < 7 → sh_t (1448 + 1 + j) = 0 ∧ sh_n (1448 + 1 + j) = 24 := by decide +kernel
  have p3 := cs_tab 3 7 (by decide) p2 (rfl : sh_r 1448 = mk_t 1448 7) (fun j hj => sr_int (b := 1448 + 1 + j) (by omega) (q3 j hj).1)
  have p4 := cs_row 4 (by decide) p3 (sr_int (b := 1456) (by decide) rfl)
  have p5 := cs_put 1 13 (by decide) p4
  have p6 := cs_put 5 13 (by decide) p5
  refine am_in _ _ _ (am_step _ _ _ (d_Ta_init_0 (am_gi rfl ⟨⟨?_, ?_⟩, am_gi rfl (am_step _ _ _ (d_Ta_init_12 (am_gi rfl ⟨?_, ⟨?_, ?_⟩, am_gi rfl (am_step _ _ _ (d_Ta_init_24 (am_gi rfl ⟨?_, ⟨?_, ?_⟩, am_gi rfl (am_step _ _ _ (d_Ta_init_36 (am_gi rfl ⟨⟨?_, ?_⟩, am_gi rfl (am_step _ _ _ (d_Ta_init_44 (am_gi rfl (am_step _ _ _ (d_Ta_init_49 (am_gi rfl (am_step _ _ _ (d_Ta_init_54 ⟨⟨rfl, ?_⟩, h _ _ _ p6 _ ?_⟩))))))))⟩)))⟩)))⟩)))⟩)))
  · show 1439 + 1 ≤ 1439 + 18
    omega
  · show ss + 100 ≤ ss + 474
    omega
  · exact q2
  · show 1439 + 1 + 1 + 7 ≤ 1439 + 18
    omega
  · show ss + 100 + 7 + 7 * 24 ≤ ss + 474
    omega
  · exact q3
  · show 1439 + 1 + 1 + 7 + 1 + 7 ≤ 1439 + 18
    omega
  · show ss + 100 + 7 + 7 * 24 + 7 + 7 * 24 ≤ ss + 474
    omega
  · show 1439 + 1 + 1 + 7 + 1 + 7 + 1 ≤ 1439 + 18
    omega
  · show ss + 100 + 7 + 7 * 24 + 7 + 7 * 24 + 24 ≤ ss + 474
    omega
  · show ss + 100 + 7 + 7 * 24 + 7 + 7 * 24 + 24 = ss + 474
    omega
  · show ss + 100 + 7 + 7 * 24 + 7 + 7 * 24 + 24 = ss + 474
    omega
end M5
