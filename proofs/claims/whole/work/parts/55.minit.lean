/-! THE MODEL'S CONSTRUCTOR: its rows -/
theorem cs_g {I J : Nat → Nat → Int32} {Lg L : Nat → Nat → Int64} {R Q : Nat → Nat → Option Nat} {z v w : Nat} {F : Nat → Option Nat} {g g2 : Nat → Int32} (hv : v < z) (h : cs_P z v w F (am_sr I v g) Lg R J L Q) : J v = g ∧ cs_P z v w F (am_sr I v g2) Lg R (am_sr J v g2) L Q := by
  obtain ⟨⟨h1, h1b⟩, h2, h3, h4, h5, h6⟩ := h
  refine ⟨?_, ⟨fun b hb => ?_, fun b b1 b2 => ?_⟩, h2, h3, h4, h5, h6⟩
  · rw [h1 v hv, am_sr_at]
  · by_cases e : b = v
    · subst e
      rw [am_sr_at, am_sr_at]
    · rw [am_sr_off _ _ e, am_sr_off _ _ e, h1 b hb, am_sr_off _ _ e]
  · rw [am_sr_off _ _ (by omega), h1b b b1 b2]
theorem sr_hi {b : Nat} (hb : 1497 ≤ b) : sh_r b = fun _ => none := by
  funext j
  unfold sh_r
  rw [nb_hi (show 1380 < b by omega), nb_hi (show 1424 < b by omega), nb_hi (show 1447 < b by omega), nb_hi (show 1464 < b by omega), nb_hi (show 1468 < b by omega), nb_hi (show 1469 < b by omega), nb_hi (show 1496 < b by omega)]
  rfl
set_option maxRecDepth 20000 in
theorem xr_1468 : (am_u1 (am_u1 (am_u1 (am_u1 (am_u1 (am_u1 (am_u1 (am_u1 (am_u1 (am_u1 (am_u1 (am_u1 (am_u1 (am_u1 (am_u1 (am_u1 (am_u1 (am_u1 (am_u1 (am_u1 (am_u1 (am_u1 (am_u1 (am_u1 (am_u1 (am_u1 (am_u1 (fun _ => none) 0 (some 1470)) 1 (some 1471)) 2 (some 1472)) 4 (some 1473)) 5 (some 1474)) 6 (some 1475)) 8 (some 1476)) 11 (some 1477)) 12 (some 1478)) 13 (some 1479)) 15 (some 1480)) 16 (some 1481)) 17 (some 1482)) 18 (some 1483)) 20 (some 1484)) 23 (some 1485)) 24 (some 1486)) 25 (some 1487)) 26 (some 1488)) 27 (some 1489)) 29 (some 1490)) 30 (some 1491)) 32 (some 1492)) 33 (some 1493)) 34 (some 1494)) 35 (some 1495)) 36 (some 1496)) = RR rr0 1469 := funext (fun j => match j with | 0 => rfl | 1 => rfl | 2 => rfl | 3 => rfl | 4 => rfl | 5 => rfl | 6 => rfl | 7 => rfl | 8 => rfl | 9 => rfl | 10 => rfl | 11 => rfl | 12 => rfl | 13 => rfl | 14 => rfl | 15 => rfl | 16 => rfl | 17 => rfl | 18 => rfl | 19 => rfl | 20 => rfl | 21 => rfl | 22 => rfl | 23 => rfl | 24 => rfl | 25 => rfl | 26 => rfl | 27 => rfl | 28 => rfl | 29 => rfl | 30 => rfl | 31 => rfl | 32 => rfl | 33 => rfl | 34 => rfl | 35 => rfl | 36 => rfl | _ + 37 => rfl)
section MA
variable {d : Nat} {K : Option Value → am_M → Prop} {I : Nat → Nat → Int32} {Lg : Nat → Nat → Int64} {R : Nat → Nat → Option Nat} {n : Nat}
set_option maxRecDepth 20000 in
theorem s_M_init (hd : 4 ≤ d) (hI : I 1469 = fun _ => 0) (hL : ∀ b, b < 1470 → Lg b = fun _ => 0) (hR : ∀ b, b < 1469 → R b = RR rr0 b) (hR1 : R 1469 = fun _ => none) (hR2 : ∀ b, 1469 < b → R b = fun _ => none) (h : ∀ J L, mf I J → (∀ b, b < 1497 → L b = fun _ => 0) → K none (am_st J L rr0 n)) : am_AC d k_M_init [.ref 1469] (I, Lg, R, 1470, 59123, n) K := by
  obtain ⟨d, rfl, hd1⟩ := s_up hd
  have k238 : ∀ F g J L Q, F = RR rr0 1469 → g = am_u1 (am_u1 (fun _ => 0) 21 (am_k (-1))) 31 (am_k (-1)) → cs_P 1470 1469 27 F (am_sr I 1469 g) Lg R J L Q → am_St d k_M_init (I, Lg, R, 1470, 59123, n) K 238 [some (.ref 1469), none, none] [] (J, L, Q, 1497, 78378, n) := by
    intro F g J L Q eF eG hP
    obtain ⟨p1, p2, p3, p4, p5, p6⟩ := hP
    have hQ : Q = RR rr0 := by
      funext b
      rcases Nat.lt_or_ge b 1469 with q | q
      · rw [p3 b (by omega) (by omega), hR b q]
      · by_cases e : b = 1469
        · subst e
          rw [p5, eF]
        · rw [RR_sh (by omega) (by omega) (by omega)]
          rcases Nat.lt_or_ge b 1497 with q2 | q2
          · exact p6 b (by omega) q2
          · rw [p4 b q2, hR2 b (by omega), sr_hi q2]
    subst hQ
    refine s_M_tables (I := I) hd1 (fun J hJ => ⟨⟨rfl, rfl⟩, h J L hJ fun b hb => ?_⟩) J (fun b hb => ?_) ?_ (fun b b1 b2 => p1.2 b b1 b2)
    · rcases Nat.lt_or_ge b 1470 with q | q
      · rw [p2.1 b q, hL b q]
      · exact p2.2 b q hb
    · rw [p1.1 b (by omega), am_sr_off _ _ (by omega)]
    · rw [p1.1 1469 (by decide), am_sr_at, eG]
  have k230 : ∀ F g J L Q, (am_u1 F 36 (some 1496)) = RR rr0 1469 → g = am_u1 (am_u1 (fun _ => 0) 21 (am_k (-1))) 31 (am_k (-1)) → cs_P 1470 1469 26 F (am_sr I 1469 g) Lg R J L Q → am_St d k_M_init (I, Lg, R, 1470, 59123, n) K 230 [some (.ref 1469), none, none] [] (J, L, Q, 1496, 78354, n) := by
    intro F g J L Q eF eG hP
    refine am_step _ _ _ (d_M_init_230 (am_gi rfl ⟨⟨?_, ?_⟩, am_gi rfl (k238 _ _ _ _ _ eF eG (cs_row 36 (by decide) hP (sr_row (b := 1496) (by decide) rfl)))⟩))
    · show 1496 + 1 ≤ 1470 + 27
      omega
    · show 78354 + 24 ≤ 59123 + 19255
      omega
  have k222 : ∀ F g J L Q, (am_u1 (am_u1 F 35 (some 1495)) 36 (some 1496)) = RR rr0 1469 → g = am_u1 (am_u1 (fun _ => 0) 21 (am_k (-1))) 31 (am_k (-1)) → cs_P 1470 1469 25 F (am_sr I 1469 g) Lg R J L Q → am_St d k_M_init (I, Lg, R, 1470, 59123, n) K 222 [some (.ref 1469), none, none] [] (J, L, Q, 1495, 78322, n) := by
    intro F g J L Q eF eG hP
    refine am_step _ _ _ (d_M_init_222 (am_gi rfl ⟨⟨?_, ?_⟩, am_gi rfl (k230 _ _ _ _ _ eF eG (cs_row 35 (by decide) hP (sr_row (b := 1495) (by decide) rfl)))⟩))
    · show 1495 + 1 ≤ 1470 + 27
      omega
    · show 78322 + 32 ≤ 59123 + 19255
      omega
  have k213 : ∀ F g J L Q, (am_u1 (am_u1 (am_u1 F 34 (some 1494)) 35 (some 1495)) 36 (some 1496)) = RR rr0 1469 → g = am_u1 (am_u1 (fun _ => 0) 21 (am_k (-1))) 31 (am_k (-1)) → cs_P 1470 1469 24 F (am_sr I 1469 g) Lg R J L Q → am_St d k_M_init (I, Lg, R, 1470, 59123, n) K 213 [some (.ref 1469), none, none] [] (J, L, Q, 1494, 78194, n) := by
    intro F g J L Q eF eG hP
    refine am_step _ _ _ (d_M_init_213 (am_gi rfl ⟨⟨?_, ?_⟩, am_gi rfl (k222 _ _ _ _ _ eF eG (cs_row 34 (by decide) hP (sr_row (b := 1494) (by decide) rfl)))⟩))
    · show 1494 + 1 ≤ 1470 + 27
      omega
    · show 78194 + 128 ≤ 59123 + 19255
      omega
  have k206 : ∀ F g J L Q, (am_u1 (am_u1 (am_u1 (am_u1 F 33 (some 1493)) 34 (some 1494)) 35 (some 1495)) 36 (some 1496)) = RR rr0 1469 → g = am_u1 (am_u1 (fun _ => 0) 21 (am_k (-1))) 31 (am_k (-1)) → cs_P 1470 1469 23 F (am_sr I 1469 g) Lg R J L Q → am_St d k_M_init (I, Lg, R, 1470, 59123, n) K 206 [some (.ref 1469), none, none] [] (J, L, Q, 1493, 78190, n) := by
    intro F g J L Q eF eG hP
    refine am_step _ _ _ (d_M_init_206 (am_gi rfl ⟨⟨?_, ?_⟩, am_gi rfl (k213 _ _ _ _ _ eF eG (cs_row 33 (by decide) hP (sr_row (b := 1493) (by decide) rfl)))⟩))
    · show 1493 + 1 ≤ 1470 + 27
      omega
    · show 78190 + 4 ≤ 59123 + 19255
      omega
  have k194 : ∀ F g J L Q, (am_u1 (am_u1 (am_u1 (am_u1 (am_u1 F 32 (some 1492)) 33 (some 1493)) 34 (some 1494)) 35 (some 1495)) 36 (some 1496)) = RR rr0 1469 → (am_u1 g 31 (am_k (-1))) = am_u1 (am_u1 (fun _ => 0) 21 (am_k (-1))) 31 (am_k (-1)) → cs_P 1470 1469 22 F (am_sr I 1469 g) Lg R J L Q → am_St d k_M_init (I, Lg, R, 1470, 59123, n) K 194 [some (.ref 1469), none, none] [] (J, L, Q, 1492, 78186, n) := by
    intro F g J L Q eF eG hP
    obtain ⟨e1, hP2⟩ := cs_g (g2 := am_u1 g 31 (am_k (-1))) (by decide) hP
    refine am_step _ _ _ (d_M_init_194 (am_gi rfl (am_gi rfl ⟨⟨?_, ?_⟩, am_gi rfl ?_⟩)))
    · show 1492 + 1 ≤ 1470 + 27
      omega
    · show 78186 + 4 ≤ 59123 + 19255
      omega
    · rw [e1]
      exact k206 _ _ _ _ _ eF eG (cs_row 32 (by decide) hP2 (sr_row (b := 1492) (by decide) rfl))
  have k185 : ∀ F g J L Q, (am_u1 (am_u1 (am_u1 (am_u1 (am_u1 (am_u1 F 30 (some 1491)) 32 (some 1492)) 33 (some 1493)) 34 (some 1494)) 35 (some 1495)) 36 (some 1496)) = RR rr0 1469 → (am_u1 g 31 (am_k (-1))) = am_u1 (am_u1 (fun _ => 0) 21 (am_k (-1))) 31 (am_k (-1)) → cs_P 1470 1469 21 F (am_sr I 1469 g) Lg R J L Q → am_St d k_M_init (I, Lg, R, 1470, 59123, n) K 185 [some (.ref 1469), none, none] [] (J, L, Q, 1491, 77454, n) := by
    intro F g J L Q eF eG hP
    refine am_step _ _ _ (d_M_init_185 (am_gi rfl ⟨⟨?_, ?_⟩, am_gi rfl (k194 _ _ _ _ _ eF eG (cs_row 30 (by decide) hP (sr_row (b := 1491) (by decide) rfl)))⟩))
    · show 1491 + 1 ≤ 1470 + 27
      omega
    · show 77454 + 732 ≤ 59123 + 19255
      omega
  have k177 : ∀ F g J L Q, (am_u1 (am_u1 (am_u1 (am_u1 (am_u1 (am_u1 (am_u1 F 29 (some 1490)) 30 (some 1491)) 32 (some 1492)) 33 (some 1493)) 34 (some 1494)) 35 (some 1495)) 36 (some 1496)) = RR rr0 1469 → (am_u1 g 31 (am_k (-1))) = am_u1 (am_u1 (fun _ => 0) 21 (am_k (-1))) 31 (am_k (-1)) → cs_P 1470 1469 20 F (am_sr I 1469 g) Lg R J L Q → am_St d k_M_init (I, Lg, R, 1470, 59123, n) K 177 [some (.ref 1469), none, none] [] (J, L, Q, 1490, 77332, n) := by
    intro F g J L Q eF eG hP
    refine am_step _ _ _ (d_M_init_177 (am_gi rfl ⟨⟨?_, ?_⟩, am_gi rfl (k185 _ _ _ _ _ eF eG (cs_row 29 (by decide) hP (sr_row (b := 1490) (by decide) rfl)))⟩))
    · show 1490 + 1 ≤ 1470 + 27
      omega
    · show 77332 + 122 ≤ 59123 + 19255
      omega
  have k168 : ∀ F g J L Q, (am_u1 (am_u1 (am_u1 (am_u1 (am_u1 (am_u1 (am_u1 (am_u1 F 27 (some 1489)) 29 (some 1490)) 30 (some 1491)) 32 (some 1492)) 33 (some 1493)) 34 (some 1494)) 35 (some 1495)) 36 (some 1496)) = RR rr0 1469 → (am_u1 g 31 (am_k (-1))) = am_u1 (am_u1 (fun _ => 0) 21 (am_k (-1))) 31 (am_k (-1)) → cs_P 1470 1469 19 F (am_sr I 1469 g) Lg R J L Q → am_St d k_M_init (I, Lg, R, 1470, 59123, n) K 168 [some (.ref 1469), none, none] [] (J, L, Q, 1489, 76600, n) := by
    intro F g J L Q eF eG hP
    refine am_step _ _ _ (d_M_init_168 (am_gi rfl ⟨⟨?_, ?_⟩, am_gi rfl (k177 _ _ _ _ _ eF eG (cs_row 27 (by decide) hP (sr_row (b := 1489) (by decide) rfl)))⟩))
    · show 1489 + 1 ≤ 1470 + 27
      omega
    · show 76600 + 732 ≤ 59123 + 19255
      omega
  have k159 : ∀ F g J L Q, (am_u1 (am_u1 (am_u1 (am_u1 (am_u1 (am_u1 (am_u1 (am_u1 (am_u1 F 26 (some 1488)) 27 (some 1489)) 29 (some 1490)) 30 (some 1491)) 32 (some 1492)) 33 (some 1493)) 34 (some 1494)) 35 (some 1495)) 36 (some 1496)) = RR rr0 1469 → (am_u1 g 31 (am_k (-1))) = am_u1 (am_u1 (fun _ => 0) 21 (am_k (-1))) 31 (am_k (-1)) → cs_P 1470 1469 18 F (am_sr I 1469 g) Lg R J L Q → am_St d k_M_init (I, Lg, R, 1470, 59123, n) K 159 [some (.ref 1469), none, none] [] (J, L, Q, 1488, 72504, n) := by
    intro F g J L Q eF eG hP
    refine am_step _ _ _ (d_M_init_159 (am_gi rfl ⟨⟨?_, ?_⟩, am_gi rfl (k168 _ _ _ _ _ eF eG (cs_row 26 (by decide) hP (sr_row (b := 1488) (by decide) rfl)))⟩))
    · show 1488 + 1 ≤ 1470 + 27
      omega
    · show 72504 + 4096 ≤ 59123 + 19255
      omega
  have k150 : ∀ F g J L Q, (am_u1 (am_u1 (am_u1 (am_u1 (am_u1 (am_u1 (am_u1 (am_u1 (am_u1 (am_u1 F 25 (some 1487)) 26 (some 1488)) 27 (some 1489)) 29 (some 1490)) 30 (some 1491)) 32 (some 1492)) 33 (some 1493)) 34 (some 1494)) 35 (some 1495)) 36 (some 1496)) = RR rr0 1469 → (am_u1 g 31 (am_k (-1))) = am_u1 (am_u1 (fun _ => 0) 21 (am_k (-1))) 31 (am_k (-1)) → cs_P 1470 1469 17 F (am_sr I 1469 g) Lg R J L Q → am_St d k_M_init (I, Lg, R, 1470, 59123, n) K 150 [some (.ref 1469), none, none] [] (J, L, Q, 1487, 68408, n) := by
    intro F g J L Q eF eG hP
    refine am_step _ _ _ (d_M_init_150 (am_gi rfl ⟨⟨?_, ?_⟩, am_gi rfl (k159 _ _ _ _ _ eF eG (cs_row 25 (by decide) hP (sr_row (b := 1487) (by decide) rfl)))⟩))
    · show 1487 + 1 ≤ 1470 + 27
      omega
    · show 68408 + 4096 ≤ 59123 + 19255
      omega
  have k142 : ∀ F g J L Q, (am_u1 (am_u1 (am_u1 (am_u1 (am_u1 (am_u1 (am_u1 (am_u1 (am_u1 (am_u1 (am_u1 F 24 (some 1486)) 25 (some 1487)) 26 (some 1488)) 27 (some 1489)) 29 (some 1490)) 30 (some 1491)) 32 (some 1492)) 33 (some 1493)) 34 (some 1494)) 35 (some 1495)) 36 (some 1496)) = RR rr0 1469 → (am_u1 g 31 (am_k (-1))) = am_u1 (am_u1 (fun _ => 0) 21 (am_k (-1))) 31 (am_k (-1)) → cs_P 1470 1469 16 F (am_sr I 1469 g) Lg R J L Q → am_St d k_M_init (I, Lg, R, 1470, 59123, n) K 142 [some (.ref 1469), none, none] [] (J, L, Q, 1486, 68360, n) := by
    intro F g J L Q eF eG hP
    refine am_step _ _ _ (d_M_init_142 (am_gi rfl ⟨⟨?_, ?_⟩, am_gi rfl (k150 _ _ _ _ _ eF eG (cs_row 24 (by decide) hP (sr_row (b := 1486) (by decide) rfl)))⟩))
    · show 1486 + 1 ≤ 1470 + 27
      omega
    · show 68360 + 48 ≤ 59123 + 19255
      omega
  have k129 : ∀ F g J L Q, (am_u1 (am_u1 (am_u1 (am_u1 (am_u1 (am_u1 (am_u1 (am_u1 (am_u1 (am_u1 (am_u1 (am_u1 F 23 (some 1485)) 24 (some 1486)) 25 (some 1487)) 26 (some 1488)) 27 (some 1489)) 29 (some 1490)) 30 (some 1491)) 32 (some 1492)) 33 (some 1493)) 34 (some 1494)) 35 (some 1495)) 36 (some 1496)) = RR rr0 1469 → (am_u1 (am_u1 g 21 (am_k (-1))) 31 (am_k (-1))) = am_u1 (am_u1 (fun _ => 0) 21 (am_k (-1))) 31 (am_k (-1)) → cs_P 1470 1469 15 F (am_sr I 1469 g) Lg R J L Q → am_St d k_M_init (I, Lg, R, 1470, 59123, n) K 129 [some (.ref 1469), none, none] [] (J, L, Q, 1485, 68264, n) := by
    intro F g J L Q eF eG hP
    obtain ⟨e1, hP2⟩ := cs_g (g2 := am_u1 g 21 (am_k (-1))) (by decide) hP
    refine am_step _ _ _ (d_M_init_129 (am_gi rfl (am_gi rfl ⟨⟨?_, ?_⟩, am_gi rfl ?_⟩)))
    · show 1485 + 1 ≤ 1470 + 27
      omega
    · show 68264 + 96 ≤ 59123 + 19255
      omega
    · rw [e1]
      exact k142 _ _ _ _ _ eF eG (cs_row 23 (by decide) hP2 (sr_row (b := 1485) (by decide) rfl))
  have k121 : ∀ F g J L Q, (am_u1 (am_u1 (am_u1 (am_u1 (am_u1 (am_u1 (am_u1 (am_u1 (am_u1 (am_u1 (am_u1 (am_u1 (am_u1 F 20 (some 1484)) 23 (some 1485)) 24 (some 1486)) 25 (some 1487)) 26 (some 1488)) 27 (some 1489)) 29 (some 1490)) 30 (some 1491)) 32 (some 1492)) 33 (some 1493)) 34 (some 1494)) 35 (some 1495)) 36 (some 1496)) = RR rr0 1469 → (am_u1 (am_u1 g 21 (am_k (-1))) 31 (am_k (-1))) = am_u1 (am_u1 (fun _ => 0) 21 (am_k (-1))) 31 (am_k (-1)) → cs_P 1470 1469 14 F (am_sr I 1469 g) Lg R J L Q → am_St d k_M_init (I, Lg, R, 1470, 59123, n) K 121 [some (.ref 1469), none, none] [] (J, L, Q, 1484, 68240, n) := by
    intro F g J L Q eF eG hP
    refine am_step _ _ _ (d_M_init_121 (am_gi rfl ⟨⟨?_, ?_⟩, am_gi rfl (k129 _ _ _ _ _ eF eG (cs_row 20 (by decide) hP (sr_row (b := 1484) (by decide) rfl)))⟩))
    · show 1484 + 1 ≤ 1470 + 27
      omega
    · show 68240 + 24 ≤ 59123 + 19255
      omega
  have k113 : ∀ F g J L Q, (am_u1 (am_u1 (am_u1 (am_u1 (am_u1 (am_u1 (am_u1 (am_u1 (am_u1 (am_u1 (am_u1 (am_u1 (am_u1 (am_u1 F 18 (some 1483)) 20 (some 1484)) 23 (some 1485)) 24 (some 1486)) 25 (some 1487)) 26 (some 1488)) 27 (some 1489)) 29 (some 1490)) 30 (some 1491)) 32 (some 1492)) 33 (some 1493)) 34 (some 1494)) 35 (some 1495)) 36 (some 1496)) = RR rr0 1469 → (am_u1 (am_u1 g 21 (am_k (-1))) 31 (am_k (-1))) = am_u1 (am_u1 (fun _ => 0) 21 (am_k (-1))) 31 (am_k (-1)) → cs_P 1470 1469 13 F (am_sr I 1469 g) Lg R J L Q → am_St d k_M_init (I, Lg, R, 1470, 59123, n) K 113 [some (.ref 1469), none, none] [] (J, L, Q, 1483, 68116, n) := by
    intro F g J L Q eF eG hP
    refine am_step _ _ _ (d_M_init_113 (am_gi rfl ⟨⟨?_, ?_⟩, am_gi rfl (k121 _ _ _ _ _ eF eG (cs_row 18 (by decide) hP (sr_row (b := 1483) (by decide) rfl)))⟩))
    · show 1483 + 1 ≤ 1470 + 27
      omega
    · show 68116 + 124 ≤ 59123 + 19255
      omega
  have k104 : ∀ F g J L Q, (am_u1 (am_u1 (am_u1 (am_u1 (am_u1 (am_u1 (am_u1 (am_u1 (am_u1 (am_u1 (am_u1 (am_u1 (am_u1 (am_u1 (am_u1 F 17 (some 1482)) 18 (some 1483)) 20 (some 1484)) 23 (some 1485)) 24 (some 1486)) 25 (some 1487)) 26 (some 1488)) 27 (some 1489)) 29 (some 1490)) 30 (some 1491)) 32 (some 1492)) 33 (some 1493)) 34 (some 1494)) 35 (some 1495)) 36 (some 1496)) = RR rr0 1469 → (am_u1 (am_u1 g 21 (am_k (-1))) 31 (am_k (-1))) = am_u1 (am_u1 (fun _ => 0) 21 (am_k (-1))) 31 (am_k (-1)) → cs_P 1470 1469 12 F (am_sr I 1469 g) Lg R J L Q → am_St d k_M_init (I, Lg, R, 1470, 59123, n) K 104 [some (.ref 1469), none, none] [] (J, L, Q, 1482, 65140, n) := by
    intro F g J L Q eF eG hP
    refine am_step _ _ _ (d_M_init_104 (am_gi rfl ⟨⟨?_, ?_⟩, am_gi rfl (k113 _ _ _ _ _ eF eG (cs_row 17 (by decide) hP (sr_row (b := 1482) (by decide) rfl)))⟩))
    · show 1482 + 1 ≤ 1470 + 27
      omega
    · show 65140 + 2976 ≤ 59123 + 19255
      omega
  have k95 : ∀ F g J L Q, (am_u1 (am_u1 (am_u1 (am_u1 (am_u1 (am_u1 (am_u1 (am_u1 (am_u1 (am_u1 (am_u1 (am_u1 (am_u1 (am_u1 (am_u1 (am_u1 F 16 (some 1481)) 17 (some 1482)) 18 (some 1483)) 20 (some 1484)) 23 (some 1485)) 24 (some 1486)) 25 (some 1487)) 26 (some 1488)) 27 (some 1489)) 29 (some 1490)) 30 (some 1491)) 32 (some 1492)) 33 (some 1493)) 34 (some 1494)) 35 (some 1495)) 36 (some 1496)) = RR rr0 1469 → (am_u1 (am_u1 g 21 (am_k (-1))) 31 (am_k (-1))) = am_u1 (am_u1 (fun _ => 0) 21 (am_k (-1))) 31 (am_k (-1)) → cs_P 1470 1469 11 F (am_sr I 1469 g) Lg R J L Q → am_St d k_M_init (I, Lg, R, 1470, 59123, n) K 95 [some (.ref 1469), none, none] [] (J, L, Q, 1481, 64564, n) := by
    intro F g J L Q eF eG hP
    refine am_step _ _ _ (d_M_init_95 (am_gi rfl ⟨⟨?_, ?_⟩, am_gi rfl (k104 _ _ _ _ _ eF eG (cs_row 16 (by decide) hP (sr_row (b := 1481) (by decide) rfl)))⟩))
    · show 1481 + 1 ≤ 1470 + 27
      omega
    · show 64564 + 576 ≤ 59123 + 19255
      omega
  have k87 : ∀ F g J L Q, (am_u1 (am_u1 (am_u1 (am_u1 (am_u1 (am_u1 (am_u1 (am_u1 (am_u1 (am_u1 (am_u1 (am_u1 (am_u1 (am_u1 (am_u1 (am_u1 (am_u1 F 15 (some 1480)) 16 (some 1481)) 17 (some 1482)) 18 (some 1483)) 20 (some 1484)) 23 (some 1485)) 24 (some 1486)) 25 (some 1487)) 26 (some 1488)) 27 (some 1489)) 29 (some 1490)) 30 (some 1491)) 32 (some 1492)) 33 (some 1493)) 34 (some 1494)) 35 (some 1495)) 36 (some 1496)) = RR rr0 1469 → (am_u1 (am_u1 g 21 (am_k (-1))) 31 (am_k (-1))) = am_u1 (am_u1 (fun _ => 0) 21 (am_k (-1))) 31 (am_k (-1)) → cs_P 1470 1469 10 F (am_sr I 1469 g) Lg R J L Q → am_St d k_M_init (I, Lg, R, 1470, 59123, n) K 87 [some (.ref 1469), none, none] [] (J, L, Q, 1480, 64540, n) := by
    intro F g J L Q eF eG hP
    refine am_step _ _ _ (d_M_init_87 (am_gi rfl ⟨⟨?_, ?_⟩, am_gi rfl (k95 _ _ _ _ _ eF eG (cs_row 15 (by decide) hP (sr_row (b := 1480) (by decide) rfl)))⟩))
    · show 1480 + 1 ≤ 1470 + 27
      omega
    · show 64540 + 24 ≤ 59123 + 19255
      omega
  have k79 : ∀ F g J L Q, (am_u1 (am_u1 (am_u1 (am_u1 (am_u1 (am_u1 (am_u1 (am_u1 (am_u1 (am_u1 (am_u1 (am_u1 (am_u1 (am_u1 (am_u1 (am_u1 (am_u1 (am_u1 F 13 (some 1479)) 15 (some 1480)) 16 (some 1481)) 17 (some 1482)) 18 (some 1483)) 20 (some 1484)) 23 (some 1485)) 24 (some 1486)) 25 (some 1487)) 26 (some 1488)) 27 (some 1489)) 29 (some 1490)) 30 (some 1491)) 32 (some 1492)) 33 (some 1493)) 34 (some 1494)) 35 (some 1495)) 36 (some 1496)) = RR rr0 1469 → (am_u1 (am_u1 g 21 (am_k (-1))) 31 (am_k (-1))) = am_u1 (am_u1 (fun _ => 0) 21 (am_k (-1))) 31 (am_k (-1)) → cs_P 1470 1469 9 F (am_sr I 1469 g) Lg R J L Q → am_St d k_M_init (I, Lg, R, 1470, 59123, n) K 79 [some (.ref 1469), none, none] [] (J, L, Q, 1479, 64516, n) := by
    intro F g J L Q eF eG hP
    refine am_step _ _ _ (d_M_init_79 (am_gi rfl ⟨⟨?_, ?_⟩, am_gi rfl (k87 _ _ _ _ _ eF eG (cs_row 13 (by decide) hP (sr_row (b := 1479) (by decide) rfl)))⟩))
    · show 1479 + 1 ≤ 1470 + 27
      omega
    · show 64516 + 24 ≤ 59123 + 19255
      omega
  have k70 : ∀ F g J L Q, (am_u1 (am_u1 (am_u1 (am_u1 (am_u1 (am_u1 (am_u1 (am_u1 (am_u1 (am_u1 (am_u1 (am_u1 (am_u1 (am_u1 (am_u1 (am_u1 (am_u1 (am_u1 (am_u1 F 12 (some 1478)) 13 (some 1479)) 15 (some 1480)) 16 (some 1481)) 17 (some 1482)) 18 (some 1483)) 20 (some 1484)) 23 (some 1485)) 24 (some 1486)) 25 (some 1487)) 26 (some 1488)) 27 (some 1489)) 29 (some 1490)) 30 (some 1491)) 32 (some 1492)) 33 (some 1493)) 34 (some 1494)) 35 (some 1495)) 36 (some 1496)) = RR rr0 1469 → (am_u1 (am_u1 g 21 (am_k (-1))) 31 (am_k (-1))) = am_u1 (am_u1 (fun _ => 0) 21 (am_k (-1))) 31 (am_k (-1)) → cs_P 1470 1469 8 F (am_sr I 1469 g) Lg R J L Q → am_St d k_M_init (I, Lg, R, 1470, 59123, n) K 70 [some (.ref 1469), none, none] [] (J, L, Q, 1478, 64348, n) := by
    intro F g J L Q eF eG hP
    refine am_step _ _ _ (d_M_init_70 (am_gi rfl ⟨⟨?_, ?_⟩, am_gi rfl (k79 _ _ _ _ _ eF eG (cs_row 12 (by decide) hP (sr_row (b := 1478) (by decide) rfl)))⟩))
    · show 1478 + 1 ≤ 1470 + 27
      omega
    · show 64348 + 168 ≤ 59123 + 19255
      omega
  have k62 : ∀ F g J L Q, (am_u1 (am_u1 (am_u1 (am_u1 (am_u1 (am_u1 (am_u1 (am_u1 (am_u1 (am_u1 (am_u1 (am_u1 (am_u1 (am_u1 (am_u1 (am_u1 (am_u1 (am_u1 (am_u1 (am_u1 F 11 (some 1477)) 12 (some 1478)) 13 (some 1479)) 15 (some 1480)) 16 (some 1481)) 17 (some 1482)) 18 (some 1483)) 20 (some 1484)) 23 (some 1485)) 24 (some 1486)) 25 (some 1487)) 26 (some 1488)) 27 (some 1489)) 29 (some 1490)) 30 (some 1491)) 32 (some 1492)) 33 (some 1493)) 34 (some 1494)) 35 (some 1495)) 36 (some 1496)) = RR rr0 1469 → (am_u1 (am_u1 g 21 (am_k (-1))) 31 (am_k (-1))) = am_u1 (am_u1 (fun _ => 0) 21 (am_k (-1))) 31 (am_k (-1)) → cs_P 1470 1469 7 F (am_sr I 1469 g) Lg R J L Q → am_St d k_M_init (I, Lg, R, 1470, 59123, n) K 62 [some (.ref 1469), none, none] [] (J, L, Q, 1477, 64324, n) := by
    intro F g J L Q eF eG hP
    refine am_step _ _ _ (d_M_init_62 (am_gi rfl ⟨⟨?_, ?_⟩, am_gi rfl (k70 _ _ _ _ _ eF eG (cs_row 11 (by decide) hP (sr_row (b := 1477) (by decide) rfl)))⟩))
    · show 1477 + 1 ≤ 1470 + 27
      omega
    · show 64324 + 24 ≤ 59123 + 19255
      omega
  have k54 : ∀ F g J L Q, (am_u1 (am_u1 (am_u1 (am_u1 (am_u1 (am_u1 (am_u1 (am_u1 (am_u1 (am_u1 (am_u1 (am_u1 (am_u1 (am_u1 (am_u1 (am_u1 (am_u1 (am_u1 (am_u1 (am_u1 (am_u1 F 8 (some 1476)) 11 (some 1477)) 12 (some 1478)) 13 (some 1479)) 15 (some 1480)) 16 (some 1481)) 17 (some 1482)) 18 (some 1483)) 20 (some 1484)) 23 (some 1485)) 24 (some 1486)) 25 (some 1487)) 26 (some 1488)) 27 (some 1489)) 29 (some 1490)) 30 (some 1491)) 32 (some 1492)) 33 (some 1493)) 34 (some 1494)) 35 (some 1495)) 36 (some 1496)) = RR rr0 1469 → (am_u1 (am_u1 g 21 (am_k (-1))) 31 (am_k (-1))) = am_u1 (am_u1 (fun _ => 0) 21 (am_k (-1))) 31 (am_k (-1)) → cs_P 1470 1469 6 F (am_sr I 1469 g) Lg R J L Q → am_St d k_M_init (I, Lg, R, 1470, 59123, n) K 54 [some (.ref 1469), none, none] [] (J, L, Q, 1476, 64224, n) := by
    intro F g J L Q eF eG hP
    refine am_step _ _ _ (d_M_init_54 (am_gi rfl ⟨⟨?_, ?_⟩, am_gi rfl (k62 _ _ _ _ _ eF eG (cs_row 8 (by decide) hP (sr_row (b := 1476) (by decide) rfl)))⟩))
    · show 1476 + 1 ≤ 1470 + 27
      omega
    · show 64224 + 100 ≤ 59123 + 19255
      omega
  have k46 : ∀ F g J L Q, (am_u1 (am_u1 (am_u1 (am_u1 (am_u1 (am_u1 (am_u1 (am_u1 (am_u1 (am_u1 (am_u1 (am_u1 (am_u1 (am_u1 (am_u1 (am_u1 (am_u1 (am_u1 (am_u1 (am_u1 (am_u1 (am_u1 F 6 (some 1475)) 8 (some 1476)) 11 (some 1477)) 12 (some 1478)) 13 (some 1479)) 15 (some 1480)) 16 (some 1481)) 17 (some 1482)) 18 (some 1483)) 20 (some 1484)) 23 (some 1485)) 24 (some 1486)) 25 (some 1487)) 26 (some 1488)) 27 (some 1489)) 29 (some 1490)) 30 (some 1491)) 32 (some 1492)) 33 (some 1493)) 34 (some 1494)) 35 (some 1495)) 36 (some 1496)) = RR rr0 1469 → (am_u1 (am_u1 g 21 (am_k (-1))) 31 (am_k (-1))) = am_u1 (am_u1 (fun _ => 0) 21 (am_k (-1))) 31 (am_k (-1)) → cs_P 1470 1469 5 F (am_sr I 1469 g) Lg R J L Q → am_St d k_M_init (I, Lg, R, 1470, 59123, n) K 46 [some (.ref 1469), none, none] [] (J, L, Q, 1475, 64124, n) := by
    intro F g J L Q eF eG hP
    refine am_step _ _ _ (d_M_init_46 (am_gi rfl ⟨⟨?_, ?_⟩, am_gi rfl (k54 _ _ _ _ _ eF eG (cs_row 6 (by decide) hP (sr_row (b := 1475) (by decide) rfl)))⟩))
    · show 1475 + 1 ≤ 1470 + 27
      omega
    · show 64124 + 100 ≤ 59123 + 19255
      omega
  have k37 : ∀ F g J L Q, (am_u1 (am_u1 (am_u1 (am_u1 (am_u1 (am_u1 (am_u1 (am_u1 (am_u1 (am_u1 (am_u1 (am_u1 (am_u1 (am_u1 (am_u1 (am_u1 (am_u1 (am_u1 (am_u1 (am_u1 (am_u1 (am_u1 (am_u1 F 5 (some 1474)) 6 (some 1475)) 8 (some 1476)) 11 (some 1477)) 12 (some 1478)) 13 (some 1479)) 15 (some 1480)) 16 (some 1481)) 17 (some 1482)) 18 (some 1483)) 20 (some 1484)) 23 (some 1485)) 24 (some 1486)) 25 (some 1487)) 26 (some 1488)) 27 (some 1489)) 29 (some 1490)) 30 (some 1491)) 32 (some 1492)) 33 (some 1493)) 34 (some 1494)) 35 (some 1495)) 36 (some 1496)) = RR rr0 1469 → (am_u1 (am_u1 g 21 (am_k (-1))) 31 (am_k (-1))) = am_u1 (am_u1 (fun _ => 0) 21 (am_k (-1))) 31 (am_k (-1)) → cs_P 1470 1469 4 F (am_sr I 1469 g) Lg R J L Q → am_St d k_M_init (I, Lg, R, 1470, 59123, n) K 37 [some (.ref 1469), none, none] [] (J, L, Q, 1474, 63365, n) := by
    intro F g J L Q eF eG hP
    refine am_step _ _ _ (d_M_init_37 (am_gi rfl ⟨⟨?_, ?_⟩, am_gi rfl (k46 _ _ _ _ _ eF eG (cs_row 5 (by decide) hP (sr_row (b := 1474) (by decide) rfl)))⟩))
    · show 1474 + 1 ≤ 1470 + 27
      omega
    · show 63365 + 759 ≤ 59123 + 19255
      omega
  have k28 : ∀ F g J L Q, (am_u1 (am_u1 (am_u1 (am_u1 (am_u1 (am_u1 (am_u1 (am_u1 (am_u1 (am_u1 (am_u1 (am_u1 (am_u1 (am_u1 (am_u1 (am_u1 (am_u1 (am_u1 (am_u1 (am_u1 (am_u1 (am_u1 (am_u1 (am_u1 F 4 (some 1473)) 5 (some 1474)) 6 (some 1475)) 8 (some 1476)) 11 (some 1477)) 12 (some 1478)) 13 (some 1479)) 15 (some 1480)) 16 (some 1481)) 17 (some 1482)) 18 (some 1483)) 20 (some 1484)) 23 (some 1485)) 24 (some 1486)) 25 (some 1487)) 26 (some 1488)) 27 (some 1489)) 29 (some 1490)) 30 (some 1491)) 32 (some 1492)) 33 (some 1493)) 34 (some 1494)) 35 (some 1495)) 36 (some 1496)) = RR rr0 1469 → (am_u1 (am_u1 g 21 (am_k (-1))) 31 (am_k (-1))) = am_u1 (am_u1 (fun _ => 0) 21 (am_k (-1))) 31 (am_k (-1)) → cs_P 1470 1469 3 F (am_sr I 1469 g) Lg R J L Q → am_St d k_M_init (I, Lg, R, 1470, 59123, n) K 28 [some (.ref 1469), none, none] [] (J, L, Q, 1473, 59269, n) := by
    intro F g J L Q eF eG hP
    refine am_step _ _ _ (d_M_init_28 (am_gi rfl ⟨⟨?_, ?_⟩, am_gi rfl (k37 _ _ _ _ _ eF eG (cs_row 4 (by decide) hP (sr_row (b := 1473) (by decide) rfl)))⟩))
    · show 1473 + 1 ≤ 1470 + 27
      omega
    · show 59269 + 4096 ≤ 59123 + 19255
      omega
  have k20 : ∀ F g J L Q, (am_u1 (am_u1 (am_u1 (am_u1 (am_u1 (am_u1 (am_u1 (am_u1 (am_u1 (am_u1 (am_u1 (am_u1 (am_u1 (am_u1 (am_u1 (am_u1 (am_u1 (am_u1 (am_u1 (am_u1 (am_u1 (am_u1 (am_u1 (am_u1 (am_u1 F 2 (some 1472)) 4 (some 1473)) 5 (some 1474)) 6 (some 1475)) 8 (some 1476)) 11 (some 1477)) 12 (some 1478)) 13 (some 1479)) 15 (some 1480)) 16 (some 1481)) 17 (some 1482)) 18 (some 1483)) 20 (some 1484)) 23 (some 1485)) 24 (some 1486)) 25 (some 1487)) 26 (some 1488)) 27 (some 1489)) 29 (some 1490)) 30 (some 1491)) 32 (some 1492)) 33 (some 1493)) 34 (some 1494)) 35 (some 1495)) 36 (some 1496)) = RR rr0 1469 → (am_u1 (am_u1 g 21 (am_k (-1))) 31 (am_k (-1))) = am_u1 (am_u1 (fun _ => 0) 21 (am_k (-1))) 31 (am_k (-1)) → cs_P 1470 1469 2 F (am_sr I 1469 g) Lg R J L Q → am_St d k_M_init (I, Lg, R, 1470, 59123, n) K 20 [some (.ref 1469), none, none] [] (J, L, Q, 1472, 59257, n) := by
    intro F g J L Q eF eG hP
    refine am_step _ _ _ (d_M_init_20 (am_gi rfl ⟨⟨?_, ?_⟩, am_gi rfl (k28 _ _ _ _ _ eF eG (cs_row 2 (by decide) hP (sr_row (b := 1472) (by decide) rfl)))⟩))
    · show 1472 + 1 ≤ 1470 + 27
      omega
    · show 59257 + 12 ≤ 59123 + 19255
      omega
  have k12 : ∀ F g J L Q, (am_u1 (am_u1 (am_u1 (am_u1 (am_u1 (am_u1 (am_u1 (am_u1 (am_u1 (am_u1 (am_u1 (am_u1 (am_u1 (am_u1 (am_u1 (am_u1 (am_u1 (am_u1 (am_u1 (am_u1 (am_u1 (am_u1 (am_u1 (am_u1 (am_u1 (am_u1 F 1 (some 1471)) 2 (some 1472)) 4 (some 1473)) 5 (some 1474)) 6 (some 1475)) 8 (some 1476)) 11 (some 1477)) 12 (some 1478)) 13 (some 1479)) 15 (some 1480)) 16 (some 1481)) 17 (some 1482)) 18 (some 1483)) 20 (some 1484)) 23 (some 1485)) 24 (some 1486)) 25 (some 1487)) 26 (some 1488)) 27 (some 1489)) 29 (some 1490)) 30 (some 1491)) 32 (some 1492)) 33 (some 1493)) 34 (some 1494)) 35 (some 1495)) 36 (some 1496)) = RR rr0 1469 → (am_u1 (am_u1 g 21 (am_k (-1))) 31 (am_k (-1))) = am_u1 (am_u1 (fun _ => 0) 21 (am_k (-1))) 31 (am_k (-1)) → cs_P 1470 1469 1 F (am_sr I 1469 g) Lg R J L Q → am_St d k_M_init (I, Lg, R, 1470, 59123, n) K 12 [some (.ref 1469), none, none] [] (J, L, Q, 1471, 59245, n) := by
    intro F g J L Q eF eG hP
    refine am_step _ _ _ (d_M_init_12 (am_gi rfl ⟨⟨?_, ?_⟩, am_gi rfl (k20 _ _ _ _ _ eF eG (cs_row 1 (by decide) hP (sr_row (b := 1471) (by decide) rfl)))⟩))
    · show 1471 + 1 ≤ 1470 + 27
      omega
    · show 59245 + 12 ≤ 59123 + 19255
      omega
  have k0 : ∀ F g J L Q, (am_u1 (am_u1 (am_u1 (am_u1 (am_u1 (am_u1 (am_u1 (am_u1 (am_u1 (am_u1 (am_u1 (am_u1 (am_u1 (am_u1 (am_u1 (am_u1 (am_u1 (am_u1 (am_u1 (am_u1 (am_u1 (am_u1 (am_u1 (am_u1 (am_u1 (am_u1 (am_u1 F 0 (some 1470)) 1 (some 1471)) 2 (some 1472)) 4 (some 1473)) 5 (some 1474)) 6 (some 1475)) 8 (some 1476)) 11 (some 1477)) 12 (some 1478)) 13 (some 1479)) 15 (some 1480)) 16 (some 1481)) 17 (some 1482)) 18 (some 1483)) 20 (some 1484)) 23 (some 1485)) 24 (some 1486)) 25 (some 1487)) 26 (some 1488)) 27 (some 1489)) 29 (some 1490)) 30 (some 1491)) 32 (some 1492)) 33 (some 1493)) 34 (some 1494)) 35 (some 1495)) 36 (some 1496)) = RR rr0 1469 → (am_u1 (am_u1 g 21 (am_k (-1))) 31 (am_k (-1))) = am_u1 (am_u1 (fun _ => 0) 21 (am_k (-1))) 31 (am_k (-1)) → cs_P 1470 1469 0 F (am_sr I 1469 g) Lg R J L Q → am_St d k_M_init (I, Lg, R, 1470, 59123, n) K 0 [some (.ref 1469), none, none] [] (J, L, Q, 1470, 59123, n) := by
    intro F g J L Q eF eG hP
    refine am_step _ _ _ (d_M_init_0 (am_gi rfl ⟨⟨?_, ?_⟩, am_gi rfl (k12 _ _ _ _ _ eF eG (cs_row 0 (by decide) hP (sr_row (b := 1470) (by decide) rfl)))⟩))
    · show 1470 + 1 ≤ 1470 + 27
      omega
    · show 59123 + 122 ≤ 59123 + 19255
      omega
  have eF : (am_u1 (am_u1 (am_u1 (am_u1 (am_u1 (am_u1 (am_u1 (am_u1 (am_u1 (am_u1 (am_u1 (am_u1 (am_u1 (am_u1 (am_u1 (am_u1 (am_u1 (am_u1 (am_u1 (am_u1 (am_u1 (am_u1 (am_u1 (am_u1 (am_u1 (am_u1 (am_u1 (R 1469) 0 (some 1470)) 1 (some 1471)) 2 (some 1472)) 4 (some 1473)) 5 (some 1474)) 6 (some 1475)) 8 (some 1476)) 11 (some 1477)) 12 (some 1478)) 13 (some 1479)) 15 (some 1480)) 16 (some 1481)) 17 (some 1482)) 18 (some 1483)) 20 (some 1484)) 23 (some 1485)) 24 (some 1486)) 25 (some 1487)) 26 (some 1488)) 27 (some 1489)) 29 (some 1490)) 30 (some 1491)) 32 (some 1492)) 33 (some 1493)) 34 (some 1494)) 35 (some 1495)) 36 (some 1496)) = RR rr0 1469 := by
    rw [hR1]
    exact xr_1468
  have eG : (am_u1 (am_u1 (I 1469) 21 (am_k (-1))) 31 (am_k (-1))) = am_u1 (am_u1 (fun _ => 0) 21 (am_k (-1))) 31 (am_k (-1)) := by
    rw [hI]
  refine am_in _ _ _ (k0 (R 1469) (I 1469) I Lg R eF eG ?_)
  rw [am_sr_id]
  exact cs_0 1470 1469 I Lg R
end MA
