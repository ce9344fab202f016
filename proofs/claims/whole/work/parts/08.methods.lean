/-! the methods' facts, ten at a time, and their tables against their bytes -/
theorem ml_ok_0 : (List.range 10).all (fun i => ml_ok (0 + i)) = true := by decide +kernel
theorem ml_ok_1 : (List.range 10).all (fun i => ml_ok (10 + i)) = true := by decide +kernel
theorem ml_ok_2 : (List.range 10).all (fun i => ml_ok (20 + i)) = true := by decide +kernel
theorem ml_ok_3 : (List.range 10).all (fun i => ml_ok (30 + i)) = true := by decide +kernel
theorem ml_ok_4 : (List.range 10).all (fun i => ml_ok (40 + i)) = true := by decide +kernel
theorem ml_ok_5 : (List.range 10).all (fun i => ml_ok (50 + i)) = true := by decide +kernel
theorem ml_ok_6 : (List.range 10).all (fun i => ml_ok (60 + i)) = true := by decide +kernel
theorem ml_ok_7 : (List.range 10).all (fun i => ml_ok (70 + i)) = true := by decide +kernel
theorem ml_ok_8 : (List.range 10).all (fun i => ml_ok (80 + i)) = true := by decide +kernel
theorem ml_ok_9 : (List.range 10).all (fun i => ml_ok (90 + i)) = true := by decide +kernel
theorem ml_ok_10 : (List.range 10).all (fun i => ml_ok (100 + i)) = true := by decide +kernel
theorem ml_ok_11 : (List.range 10).all (fun i => ml_ok (110 + i)) = true := by decide +kernel
theorem ml_ok_12 : (List.range 10).all (fun i => ml_ok (120 + i)) = true := by decide +kernel
theorem ml_ok_13 : (List.range 10).all (fun i => ml_ok (130 + i)) = true := by decide +kernel
theorem ml_ok_14 : (List.range 10).all (fun i => ml_ok (140 + i)) = true := by decide +kernel
theorem ml_ok_15 : (List.range 10).all (fun i => ml_ok (150 + i)) = true := by decide +kernel
theorem ml_ok_16 : (List.range 10).all (fun i => ml_ok (160 + i)) = true := by decide +kernel
theorem ml_ok_17 : (List.range 10).all (fun i => ml_ok (170 + i)) = true := by decide +kernel
theorem ml_ok_18 : (List.range 10).all (fun i => ml_ok (180 + i)) = true := by decide +kernel
theorem ml_ok_19 : (List.range 10).all (fun i => ml_ok (190 + i)) = true := by decide +kernel
theorem ml_ok_20 : (List.range 10).all (fun i => ml_ok (200 + i)) = true := by decide +kernel
theorem ml_ok_21 : (List.range 10).all (fun i => ml_ok (210 + i)) = true := by decide +kernel
theorem ml_ok_22 : (List.range 10).all (fun i => ml_ok (220 + i)) = true := by decide +kernel
theorem ml_ok_23 : (List.range 10).all (fun i => ml_ok (230 + i)) = true := by decide +kernel
theorem ml_ok_24 : (List.range 10).all (fun i => ml_ok (240 + i)) = true := by decide +kernel
theorem ml_ok_25 : (List.range 7).all (fun i => ml_ok (250 + i)) = true := by decide +kernel
theorem ml_ok_all {k : Nat} (h : k < 257) : ml_ok k = true := by
  have g : ∀ (a m : Nat), (List.range m).all (fun i => ml_ok (a + i)) = true → a ≤ k → k < a + m → ml_ok k = true := fun a m q h1 h2 => by
    have := List.all_eq_true.mp q (k - a) (List.mem_range.mpr (by omega))
    rwa [show a + (k - a) = k by omega] at this
  rcases Nat.lt_or_ge k 10 with h0 | h0
  · exact g 0 10 ml_ok_0 (by omega) (by omega)
  rcases Nat.lt_or_ge k 20 with h1 | h1
  · exact g 10 10 ml_ok_1 (by omega) (by omega)
  rcases Nat.lt_or_ge k 30 with h2 | h2
  · exact g 20 10 ml_ok_2 (by omega) (by omega)
  rcases Nat.lt_or_ge k 40 with h3 | h3
  · exact g 30 10 ml_ok_3 (by omega) (by omega)
  rcases Nat.lt_or_ge k 50 with h4 | h4
  · exact g 40 10 ml_ok_4 (by omega) (by omega)
  rcases Nat.lt_or_ge k 60 with h5 | h5
  · exact g 50 10 ml_ok_5 (by omega) (by omega)
  rcases Nat.lt_or_ge k 70 with h6 | h6
  · exact g 60 10 ml_ok_6 (by omega) (by omega)
  rcases Nat.lt_or_ge k 80 with h7 | h7
  · exact g 70 10 ml_ok_7 (by omega) (by omega)
  rcases Nat.lt_or_ge k 90 with h8 | h8
  · exact g 80 10 ml_ok_8 (by omega) (by omega)
  rcases Nat.lt_or_ge k 100 with h9 | h9
  · exact g 90 10 ml_ok_9 (by omega) (by omega)
  rcases Nat.lt_or_ge k 110 with h10 | h10
  · exact g 100 10 ml_ok_10 (by omega) (by omega)
  rcases Nat.lt_or_ge k 120 with h11 | h11
  · exact g 110 10 ml_ok_11 (by omega) (by omega)
  rcases Nat.lt_or_ge k 130 with h12 | h12
  · exact g 120 10 ml_ok_12 (by omega) (by omega)
  rcases Nat.lt_or_ge k 140 with h13 | h13
  · exact g 130 10 ml_ok_13 (by omega) (by omega)
  rcases Nat.lt_or_ge k 150 with h14 | h14
  · exact g 140 10 ml_ok_14 (by omega) (by omega)
  rcases Nat.lt_or_ge k 160 with h15 | h15
  · exact g 150 10 ml_ok_15 (by omega) (by omega)
  rcases Nat.lt_or_ge k 170 with h16 | h16
  · exact g 160 10 ml_ok_16 (by omega) (by omega)
  rcases Nat.lt_or_ge k 180 with h17 | h17
  · exact g 170 10 ml_ok_17 (by omega) (by omega)
  rcases Nat.lt_or_ge k 190 with h18 | h18
  · exact g 180 10 ml_ok_18 (by omega) (by omega)
  rcases Nat.lt_or_ge k 200 with h19 | h19
  · exact g 190 10 ml_ok_19 (by omega) (by omega)
  rcases Nat.lt_or_ge k 210 with h20 | h20
  · exact g 200 10 ml_ok_20 (by omega) (by omega)
  rcases Nat.lt_or_ge k 220 with h21 | h21
  · exact g 210 10 ml_ok_21 (by omega) (by omega)
  rcases Nat.lt_or_ge k 230 with h22 | h22
  · exact g 220 10 ml_ok_22 (by omega) (by omega)
  rcases Nat.lt_or_ge k 240 with h23 | h23
  · exact g 230 10 ml_ok_23 (by omega) (by omega)
  rcases Nat.lt_or_ge k 250 with h24 | h24
  · exact g 240 10 ml_ok_24 (by omega) (by omega)
  rcases Nat.lt_or_ge k 257 with h25 | h25
  · exact g 250 7 ml_ok_25 (by omega) (by omega)
  omega
