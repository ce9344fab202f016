/-! WHAT THE CONSTRUCTORS MAKE, IX: the object -/
/-- the references that change, at the start -/
def rr0 (a j : Nat) : Option Nat := if a = 1344 then hs_l 1345 6 j else if a = 1395 then hs_l 1396 6 j else some 13
theorem RR_sh {rr : Nat → Nat → Option Nat} {b : Nat} (h1 : ¬ b = 1344) (h2 : ¬ b = 1395) (h3 : ¬ b = 1438) : RR rr b = sh_r b := by
  have e : ∀ x y : Nat, ¬ x = y → Nat.beq x y = false := fun x y h => Bool.eq_false_iff.mpr fun q => h (Nat.eq_of_beq_eq_true q)
  funext j
  unfold RR sh_d
  rw [e _ _ h1, e _ _ h2, e _ _ h3]
  rfl
theorem go_P.kept {J J' : Nat → Nat → Int32} (h : go_P J) (hk : ∀ b, 20 ≤ b → b < 26 → J' b = J b) : go_P J' := by
  obtain ⟨h1, h2, h3, h4, h5, h6⟩ := h
  refine ⟨fun p hp => ?_, fun p hp => ?_, fun p hp => ?_, fun p hp => ?_, fun p hp => ?_, fun p hp => ?_⟩
  · rw [hk 20 (by decide) (by decide), h1 p hp]
  · rw [hk 21 (by decide) (by decide), h2 p hp]
  · rw [hk 22 (by decide) (by decide), h3 p hp]
  · rw [hk 23 (by decide) (by decide)]
    exact h4 p hp
  · rw [hk 24 (by decide) (by decide), h5 p hp]
  · rw [hk 25 (by decide) (by decide), h6 p hp]
/-- the object is being made: cells before z are there -/
def xi (z : Nat) (F : Nat → Option Nat) (I J : Nat → Nat → Int32) (L : Nat → Nat → Int64) (Q : Nat → Nat → Option Nat) : Prop :=
  (∀ b, b < 12 → J b = I b) ∧ J 12 = (fun _ => 0) ∧ nm_P J ∧ (26 ≤ z → go_P J) ∧ (∀ b, 26 ≤ b → b < z → ¬ b = 1463 → J b = fun _ => 0) ∧ (1465 ≤ z → ∀ k, k < 4 → J 1463 k = am_k (-4)) ∧ (∀ b, b < z → L b = fun _ => 0) ∧ (∀ b, b < z → ¬ b = 12 → Q b = RR rr0 b) ∧ (∀ b, z ≤ b → Q b = fun _ => none) ∧ Q 12 = F
theorem xi_up {z z' i : Nat} {F : Nat → Option Nat} {I J J' : Nat → Nat → Int32} {L L' : Nat → Nat → Int64} {Q Q' : Nat → Nat → Option Nat} (hz : 19 ≤ z) (hzz : z ≤ z') (h : xi z F I J L Q)
    (j1 : ∀ b, b < z → J' b = J b) (j2 : 26 ≤ z' → go_P J') (j3 : ∀ b, 26 ≤ b → z ≤ b → b < z' → ¬ b = 1463 → J' b = fun _ => 0) (j4 : 1465 ≤ z' → ∀ k, k < 4 → J' 1463 k = am_k (-4)) (l1 : ∀ b, b < z → L' b = L b) (l2 : ∀ b, z ≤ b → b < z' → L' b = fun _ => 0) (q1 : ∀ b, b < z → Q' b = Q b) (q2 : ∀ b, z ≤ b → b < z' → Q' b = RR rr0 b) (q3 : ∀ b, z' ≤ b → Q' b = fun _ => none) :
    xi z' (am_u1 F i (some z)) I J' L' (am_sr Q' 12 (am_u1 (Q' 12) i (some z))) := by
  obtain ⟨h1, h2, h3, h4, h5, h6, h7, h8, h9, h10⟩ := h
  refine ⟨fun b hb => ?_, ?_, fun m hm x hx => ?_, j2, fun b b1 b2 b3 => ?_, j4, fun b hb => ?_, fun b b1 b2 => ?_, fun b hb => ?_, ?_⟩
  · rw [j1 b (by omega), h1 b hb]
  · rw [j1 12 (by omega), h2]
  · rw [j1 _ (by omega), h3 m hm x hx]
  · rcases Nat.lt_or_ge b z with q | q
    · rw [j1 b q, h5 b b1 q b3]
    · exact j3 b b1 q b2 b3
  · rcases Nat.lt_or_ge b z with q | q
    · rw [l1 b q, h7 b q]
    · exact l2 b q hb
  · rw [am_sr_off _ _ b2]
    rcases Nat.lt_or_ge b z with q | q
    · rw [q1 b q, h8 b q b2]
    · exact q2 b q b1
  · rw [am_sr_off _ _ (by omega), q3 b hb]
  · rw [am_sr_at, q1 12 (by omega), h10]
theorem xi_cs {z w i : Nat} {F F' : Nat → Option Nat} {I J J' : Nat → Nat → Int32} {L L' : Nat → Nat → Int64} {Q Q' : Nat → Nat → Option Nat} (hz : 26 ≤ z) (h : xi z F I J L Q) (hP : cs_P (z + 1) z w F' (am_sr J z fun _ => 0) (am_sr L z fun _ => 0) (am_sr Q z fun _ => none) J' L' Q')
    (h62 : z + 1 + w ≤ 1463 ∨ 1465 ≤ z) (hF : F' = RR rr0 z) (hr : ∀ b, z < b → b < z + 1 + w → ¬ b = 1344 ∧ ¬ b = 1395 ∧ ¬ b = 1438) :
    xi (z + 1 + w) (am_u1 F i (some z)) I J' L' (am_sr Q' 12 (am_u1 (Q' 12) i (some z))) := by
  obtain ⟨p1, p2, p3, p4, p5, p6⟩ := hP
  have j1 : ∀ b, b < z → J' b = J b := fun b hb => (p1.1 b (by omega)).trans (am_sr_off _ _ (by omega))
  refine xi_up (by omega) (by omega) h j1 (fun _ => (h.2.2.2.1 (by omega)).kept fun b _ b2 => j1 b (by omega)) (fun b b1 b2 b3 b4 => ?_) (fun q k hk => ?_) (fun b hb => ?_) (fun b b1 b2 => ?_) (fun b hb => ?_) (fun b b1 b2 => ?_) (fun b hb => ?_)
  · by_cases e : b = z
    · subst e
      rw [p1.1 b (by omega), am_sr_at]
    · exact p1.2 b (by omega) b3
  · rcases h62 with q2 | q2
    · omega
    · rw [j1 1463 (by omega), h.2.2.2.2.2.1 q2 k hk]
  · rw [p2.1 b (by omega), am_sr_off _ _ (by omega)]
  · by_cases e : b = z
    · subst e
      rw [p2.1 b (by omega), am_sr_at]
    · exact p2.2 b (by omega) b2
  · rw [p3 b (by omega) (by omega), am_sr_off _ _ (by omega)]
  · by_cases e : b = z
    · subst e
      rw [p5, hF]
    · obtain ⟨r1, r2, r3⟩ := hr b (by omega) b2
      rw [p6 b (by omega) b2, RR_sh r1 r2 r3]
  · rw [p4 b hb, am_sr_off _ _ (by omega), h.2.2.2.2.2.2.2.2.1 b (by omega)]
/-- the cells of a state, by the layout -/
theorem st_Rsh {Q : Nat → Nat → Option Nat} {s : Nat} (h : st_R Q s) (e0 : sh_r s = am_u1 (fun _ => none) 0 (some (s + 1))) (e1 : sh_r (s + 1) = mk_t (s + 1) 5) (e2 : ∀ j, j < 5 → sh_r (s + 1 + 1 + j) = fun _ => none) : ∀ b, s ≤ b → b < s + 7 → Q b = sh_r b := by
  intro b b1 b2
  by_cases q0 : b = s
  · subst q0
    rw [h.1, e0]
  · by_cases q1 : b = s + 1
    · subst q1
      rw [h.2.1, e1]
    · have q2 : b = s + 1 + 1 + (b - s - 2) := by omega
      rw [q2, h.2.2 _ (by omega), e2 _ (by omega)]
theorem u1_0 (f : Nat → Option Nat) (s : Nat) (h0 : f 0 = some s) (h1 : ∀ j, f (j + 1) = none) : f = am_u1 (fun _ => none) 0 (some s) := by
  funext j
  cases j with
  | zero => rw [h0, am_u1_at]
  | succ j => rw [h1, am_u1_off _ _ (Nat.succ_ne_zero j)]
theorem xi_hs {z i : Nat} {F : Nat → Option Nat} {I J J' : Nat → Nat → Int32} {L L' : Nat → Nat → Int64} {Q Q' : Nat → Nat → Option Nat} (hz : z = 1336 ∨ z = 1387) (h : xi z F I J L Q) (hP : hs_P (z + 1) z (am_sr J z fun _ => 0) (am_sr L z fun _ => 0) (am_sr Q z fun _ => none) 6 J' L' Q')
    (hF : am_u1 (am_u1 (fun _ => none) 0 (some (z + 1))) 1 (some (z + 1 + 7)) = RR rr0 z) (hl : hs_l (z + 1 + 8) 6 = RR rr0 (z + 1 + 7))
    (e0 : ∀ q, q < 7 → ∀ s, s = (if q = 6 then z + 1 else z + 1 + 8 + 7 * q) → sh_r s = am_u1 (fun _ => none) 0 (some (s + 1)) ∧ sh_r (s + 1) = mk_t (s + 1) 5 ∧ ∀ j, j < 5 → sh_r (s + 1 + 1 + j) = fun _ => none) :
    xi (z + 1 + 50) (am_u1 F i (some z)) I J' L' (am_sr Q' 12 (am_u1 (Q' 12) i (some z))) := by
  obtain ⟨p1, p2, p3, p4, p5, p6, p7⟩ := hP
  have j1 : ∀ b, b < z → J' b = J b := fun b hb => (p1.1 b (by omega)).trans (am_sr_off _ _ (by omega))
  refine xi_up (by omega) (by omega) h j1 (fun _ => (h.2.2.2.1 (by omega)).kept fun b _ b2 => j1 b (by omega)) (fun b b1 b2 b3 b4 => ?_) (fun q k hk => by omega) (fun b hb => ?_) (fun b b1 b2 => ?_) (fun b hb => ?_) (fun b b1 b2 => ?_) (fun b hb => ?_)
  · by_cases e : b = z
    · subst e
      rw [p1.1 b (by omega), am_sr_at]
    · exact p1.2 b (by omega) b3
  · rw [p2.1 b (by omega), am_sr_off _ _ (by omega)]
  · by_cases e : b = z
    · subst e
      rw [p2.1 b (by omega), am_sr_at]
    · exact p2.2 b (by omega) b2
  · rw [p3.1 b (by omega) (by omega), am_sr_off _ _ (by omega)]
  · by_cases c0 : b = z
    · subst c0
      rw [p4, am_sr_at, hF]
    · by_cases c1 : b = z + 1 + 7
      · subst c1
        rw [p6, hl]
      · rw [RR_sh (by omega) (by omega) (by omega)]
        by_cases c2 : b < z + 1 + 7
        · obtain ⟨a1, a2, a3⟩ := e0 6 (by decide) (z + 1) rfl
          exact st_Rsh p5 a1 a2 a3 b (by omega) (by omega)
        · have hq : (b - (z + 1 + 8)) / 7 < 6 := by omega
          obtain ⟨a1, a2, a3⟩ := e0 ((b - (z + 1 + 8)) / 7) (by omega) (z + 1 + 8 + 7 * ((b - (z + 1 + 8)) / 7)) (by rw [if_neg (by omega)])
          exact st_Rsh (p7 _ hq) a1 a2 a3 b (by omega) (by omega)
  · rw [p3.2 b (by omega), am_sr_off _ _ (by omega), h.2.2.2.2.2.2.2.2.1 b (by omega)]
set_option maxRecDepth 20000 in
theorem st_e_1336 : sh_r 1337 = am_u1 (fun _ => none) 0 (some (1337 + 1)) ∧ sh_r (1337 + 1) = mk_t (1337 + 1) 5 ∧ ∀ j, j < 5 → sh_r (1337 + 1 + 1 + j) = fun _ => none := ⟨u1_0 _ _ rfl (fun j => match j with | 0 => rfl | 1 => rfl | _ + 2 => rfl), (rfl : sh_r 1338 = mk_t 1338 5), fun j hj => sr_int (by omega) ((show ∀ j, j < 5 → sh_t (1337 + 1 + 1 + j) = 0 by decide +kernel) j hj)⟩
set_option maxRecDepth 20000 in
theorem st_e_1344 : sh_r 1345 = am_u1 (fun _ => none) 0 (some (1345 + 1)) ∧ sh_r (1345 + 1) = mk_t (1345 + 1) 5 ∧ ∀ j, j < 5 → sh_r (1345 + 1 + 1 + j) = fun _ => none := ⟨u1_0 _ _ rfl (fun j => match j with | 0 => rfl | 1 => rfl | _ + 2 => rfl), (rfl : sh_r 1346 = mk_t 1346 5), fun j hj => sr_int (by omega) ((show ∀ j, j < 5 → sh_t (1345 + 1 + 1 + j) = 0 by decide +kernel) j hj)⟩
set_option maxRecDepth 20000 in
theorem st_e_1351 : sh_r 1352 = am_u1 (fun _ => none) 0 (some (1352 + 1)) ∧ sh_r (1352 + 1) = mk_t (1352 + 1) 5 ∧ ∀ j, j < 5 → sh_r (1352 + 1 + 1 + j) = fun _ => none := ⟨u1_0 _ _ rfl (fun j => match j with | 0 => rfl | 1 => rfl | _ + 2 => rfl), (rfl : sh_r 1353 = mk_t 1353 5), fun j hj => sr_int (by omega) ((show ∀ j, j < 5 → sh_t (1352 + 1 + 1 + j) = 0 by decide +kernel) j hj)⟩
set_option maxRecDepth 20000 in
theorem st_e_1358 : sh_r 1359 = am_u1 (fun _ => none) 0 (some (1359 + 1)) ∧ sh_r (1359 + 1) = mk_t (1359 + 1) 5 ∧ ∀ j, j < 5 → sh_r (1359 + 1 + 1 + j) = fun _ => none := ⟨u1_0 _ _ rfl (fun j => match j with | 0 => rfl | 1 => rfl | _ + 2 => rfl), (rfl : sh_r 1360 = mk_t 1360 5), fun j hj => sr_int (by omega) ((show ∀ j, j < 5 → sh_t (1359 + 1 + 1 + j) = 0 by decide +kernel) j hj)⟩
set_option maxRecDepth 20000 in
theorem st_e_1365 : sh_r 1366 = am_u1 (fun _ => none) 0 (some (1366 + 1)) ∧ sh_r (1366 + 1) = mk_t (1366 + 1) 5 ∧ ∀ j, j < 5 → sh_r (1366 + 1 + 1 + j) = fun _ => none := ⟨u1_0 _ _ rfl (fun j => match j with | 0 => rfl | 1 => rfl | _ + 2 => rfl), (rfl : sh_r 1367 = mk_t 1367 5), fun j hj => sr_int (by omega) ((show ∀ j, j < 5 → sh_t (1366 + 1 + 1 + j) = 0 by decide +kernel) j hj)⟩
set_option maxRecDepth 20000 in
theorem st_e_1372 : sh_r 1373 = am_u1 (fun _ => none) 0 (some (1373 + 1)) ∧ sh_r (1373 + 1) = mk_t (1373 + 1) 5 ∧ ∀ j, j < 5 → sh_r (1373 + 1 + 1 + j) = fun _ => none := ⟨u1_0 _ _ rfl (fun j => match j with | 0 => rfl | 1 => rfl | _ + 2 => rfl), (rfl : sh_r 1374 = mk_t 1374 5), fun j hj => sr_int (by omega) ((show ∀ j, j < 5 → sh_t (1373 + 1 + 1 + j) = 0 by decide +kernel) j hj)⟩
set_option maxRecDepth 20000 in
theorem st_e_1379 : sh_r 1380 = am_u1 (fun _ => none) 0 (some (1380 + 1)) ∧ sh_r (1380 + 1) = mk_t (1380 + 1) 5 ∧ ∀ j, j < 5 → sh_r (1380 + 1 + 1 + j) = fun _ => none := ⟨u1_0 _ _ rfl (fun j => match j with | 0 => rfl | 1 => rfl | _ + 2 => rfl), (rfl : sh_r 1381 = mk_t 1381 5), fun j hj => sr_int (by omega) ((show ∀ j, j < 5 → sh_t (1380 + 1 + 1 + j) = 0 by decide +kernel) j hj)⟩
set_option maxRecDepth 20000 in
theorem st_e_1387 : sh_r 1388 = am_u1 (fun _ => none) 0 (some (1388 + 1)) ∧ sh_r (1388 + 1) = mk_t (1388 + 1) 5 ∧ ∀ j, j < 5 → sh_r (1388 + 1 + 1 + j) = fun _ => none := ⟨u1_0 _ _ rfl (fun j => match j with | 0 => rfl | 1 => rfl | _ + 2 => rfl), (rfl : sh_r 1389 = mk_t 1389 5), fun j hj => sr_int (by omega) ((show ∀ j, j < 5 → sh_t (1388 + 1 + 1 + j) = 0 by decide +kernel) j hj)⟩
set_option maxRecDepth 20000 in
theorem st_e_1395 : sh_r 1396 = am_u1 (fun _ => none) 0 (some (1396 + 1)) ∧ sh_r (1396 + 1) = mk_t (1396 + 1) 5 ∧ ∀ j, j < 5 → sh_r (1396 + 1 + 1 + j) = fun _ => none := ⟨u1_0 _ _ rfl (fun j => match j with | 0 => rfl | 1 => rfl | _ + 2 => rfl), (rfl : sh_r 1397 = mk_t 1397 5), fun j hj => sr_int (by omega) ((show ∀ j, j < 5 → sh_t (1396 + 1 + 1 + j) = 0 by decide +kernel) j hj)⟩
set_option maxRecDepth 20000 in
theorem st_e_1402 : sh_r 1403 = am_u1 (fun _ => none) 0 (some (1403 + 1)) ∧ sh_r (1403 + 1) = mk_t (1403 + 1) 5 ∧ ∀ j, j < 5 → sh_r (1403 + 1 + 1 + j) = fun _ => none := ⟨u1_0 _ _ rfl (fun j => match j with | 0 => rfl | 1 => rfl | _ + 2 => rfl), (rfl : sh_r 1404 = mk_t 1404 5), fun j hj => sr_int (by omega) ((show ∀ j, j < 5 → sh_t (1403 + 1 + 1 + j) = 0 by decide +kernel) j hj)⟩
set_option maxRecDepth 20000 in
theorem st_e_1409 : sh_r 1410 = am_u1 (fun _ => none) 0 (some (1410 + 1)) ∧ sh_r (1410 + 1) = mk_t (1410 + 1) 5 ∧ ∀ j, j < 5 → sh_r (1410 + 1 + 1 + j) = fun _ => none := ⟨u1_0 _ _ rfl (fun j => match j with | 0 => rfl | 1 => rfl | _ + 2 => rfl), (rfl : sh_r 1411 = mk_t 1411 5), fun j hj => sr_int (by omega) ((show ∀ j, j < 5 → sh_t (1410 + 1 + 1 + j) = 0 by decide +kernel) j hj)⟩
set_option maxRecDepth 20000 in
theorem st_e_1416 : sh_r 1417 = am_u1 (fun _ => none) 0 (some (1417 + 1)) ∧ sh_r (1417 + 1) = mk_t (1417 + 1) 5 ∧ ∀ j, j < 5 → sh_r (1417 + 1 + 1 + j) = fun _ => none := ⟨u1_0 _ _ rfl (fun j => match j with | 0 => rfl | 1 => rfl | _ + 2 => rfl), (rfl : sh_r 1418 = mk_t 1418 5), fun j hj => sr_int (by omega) ((show ∀ j, j < 5 → sh_t (1417 + 1 + 1 + j) = 0 by decide +kernel) j hj)⟩
set_option maxRecDepth 20000 in
theorem st_e_1423 : sh_r 1424 = am_u1 (fun _ => none) 0 (some (1424 + 1)) ∧ sh_r (1424 + 1) = mk_t (1424 + 1) 5 ∧ ∀ j, j < 5 → sh_r (1424 + 1 + 1 + j) = fun _ => none := ⟨u1_0 _ _ rfl (fun j => match j with | 0 => rfl | 1 => rfl | _ + 2 => rfl), (rfl : sh_r 1425 = mk_t 1425 5), fun j hj => sr_int (by omega) ((show ∀ j, j < 5 → sh_t (1424 + 1 + 1 + j) = 0 by decide +kernel) j hj)⟩
set_option maxRecDepth 20000 in
theorem st_e_1430 : sh_r 1431 = am_u1 (fun _ => none) 0 (some (1431 + 1)) ∧ sh_r (1431 + 1) = mk_t (1431 + 1) 5 ∧ ∀ j, j < 5 → sh_r (1431 + 1 + 1 + j) = fun _ => none := ⟨u1_0 _ _ rfl (fun j => match j with | 0 => rfl | 1 => rfl | _ + 2 => rfl), (rfl : sh_r 1432 = mk_t 1432 5), fun j hj => sr_int (by omega) ((show ∀ j, j < 5 → sh_t (1431 + 1 + 1 + j) = 0 by decide +kernel) j hj)⟩
theorem st_es_1335 : ∀ q, q < 7 → ∀ s, s = (if q = 6 then 1336 + 1 else 1336 + 1 + 8 + 7 * q) → sh_r s = am_u1 (fun _ => none) 0 (some (s + 1)) ∧ sh_r (s + 1) = mk_t (s + 1) 5 ∧ ∀ j, j < 5 → sh_r (s + 1 + 1 + j) = fun _ => none := by
  intro q hq s hs
  have hq : q = 0 ∨ q = 1 ∨ q = 2 ∨ q = 3 ∨ q = 4 ∨ q = 5 ∨ q = 6 := by omega
  rcases hq with rfl | rfl | rfl | rfl | rfl | rfl | rfl
  · have : s = 1345 := hs
    subst this
    exact st_e_1344
  · have : s = 1352 := hs
    subst this
    exact st_e_1351
  · have : s = 1359 := hs
    subst this
    exact st_e_1358
  · have : s = 1366 := hs
    subst this
    exact st_e_1365
  · have : s = 1373 := hs
    subst this
    exact st_e_1372
  · have : s = 1380 := hs
    subst this
    exact st_e_1379
  · have : s = 1337 := hs
    subst this
    exact st_e_1336
theorem st_es_1386 : ∀ q, q < 7 → ∀ s, s = (if q = 6 then 1387 + 1 else 1387 + 1 + 8 + 7 * q) → sh_r s = am_u1 (fun _ => none) 0 (some (s + 1)) ∧ sh_r (s + 1) = mk_t (s + 1) 5 ∧ ∀ j, j < 5 → sh_r (s + 1 + 1 + j) = fun _ => none := by
  intro q hq s hs
  have hq : q = 0 ∨ q = 1 ∨ q = 2 ∨ q = 3 ∨ q = 4 ∨ q = 5 ∨ q = 6 := by omega
  rcases hq with rfl | rfl | rfl | rfl | rfl | rfl | rfl
  · have : s = 1396 := hs
    subst this
    exact st_e_1395
  · have : s = 1403 := hs
    subst this
    exact st_e_1402
  · have : s = 1410 := hs
    subst this
    exact st_e_1409
  · have : s = 1417 := hs
    subst this
    exact st_e_1416
  · have : s = 1424 := hs
    subst this
    exact st_e_1423
  · have : s = 1431 := hs
    subst this
    exact st_e_1430
  · have : s = 1388 := hs
    subst this
    exact st_e_1387
set_option maxRecDepth 20000 in
theorem xr_26 : (am_u1 (am_u1 (am_u1 (am_u1 (am_u1 (am_u1 (am_u1 (am_u1 (am_u1 (am_u1 (fun _ => none) 0 (some 27)) 1 (some 28)) 2 (some 29)) 3 (some 30)) 4 (some 55)) 5 (some 632)) 6 (some 633)) 7 (some 1306)) 8 (some 1331)) 9 (some 1332)) = RR rr0 26 := funext (fun j => match j with | 0 => rfl | 1 => rfl | 2 => rfl | 3 => rfl | 4 => rfl | 5 => rfl | 6 => rfl | 7 => rfl | 8 => rfl | 9 => rfl | _ + 10 => rfl)
set_option maxRecDepth 20000 in
theorem xr_1332 : (am_u1 (am_u1 (fun _ => none) 0 (some 1334)) 1 (some 1335)) = RR rr0 1333 := funext (fun j => match j with | 0 => rfl | 1 => rfl | 2 => rfl | 3 => rfl | _ + 4 => rfl)
set_option maxRecDepth 20000 in
theorem xr_1335 : (am_u1 (am_u1 (fun _ => none) 0 (some (1336 + 1))) 1 (some (1336 + 1 + 7))) = RR rr0 1336 := funext (fun j => match j with | 0 => rfl | 1 => rfl | 2 => rfl | _ + 3 => rfl)
set_option maxRecDepth 20000 in
theorem xr_1386 : (am_u1 (am_u1 (fun _ => none) 0 (some (1387 + 1))) 1 (some (1387 + 1 + 7))) = RR rr0 1387 := funext (fun j => match j with | 0 => rfl | 1 => rfl | 2 => rfl | _ + 3 => rfl)
set_option maxRecDepth 20000 in
theorem xr_1437 : (am_u1 (am_u1 (am_u1 (am_u1 (am_u1 (am_u1 (fun _ => none) 0 (some 1439)) 2 (some 1440)) 3 (some 1448)) 4 (some 1456)) 1 (some 13)) 5 (some 13)) = RR rr0 1438 := funext (fun j => match j with | 0 => rfl | 1 => rfl | 2 => rfl | 3 => rfl | 4 => rfl | 5 => rfl | 6 => rfl | 7 => rfl | _ + 8 => rfl)
set_option maxRecDepth 20000 in
theorem xr_1456 : (am_u1 (am_u1 (am_u1 (fun _ => none) 0 (some 1458)) 1 (some 1463)) 2 (some 1464)) = RR rr0 1457 := funext (fun j => match j with | 0 => rfl | 1 => rfl | 2 => rfl | _ + 3 => rfl)
set_option maxRecDepth 20000 in
theorem xr_1464 : (am_u1 (fun _ => none) 0 (some 1466)) = RR rr0 1465 := funext (fun j => match j with | 0 => rfl | 1 => rfl | _ + 2 => rfl)
set_option maxRecDepth 20000 in
theorem xr_19 : (am_u1 (am_u1 (am_u1 (am_u1 (am_u1 (am_u1 (fun _ => none) 0 (some 20)) 1 (some 21)) 2 (some 22)) 3 (some 23)) 4 (some 24)) 5 (some 25)) = RR rr0 19 := funext (fun j => match j with | 0 => rfl | 1 => rfl | 2 => rfl | 3 => rfl | 4 => rfl | 5 => rfl | _ + 6 => rfl)
set_option maxRecDepth 20000 in
theorem xr_12 : (am_u1 (am_u1 (am_u1 (am_u1 (am_u1 (am_u1 (am_u1 (am_u1 (am_u1 (am_u1 (fun _ => none) 0 (some 19)) 1 (some 26)) 2 (some 1333)) 3 (some 1336)) 4 (some 1387)) 5 (some 1438)) 6 (some 1457)) 7 (some 1465)) 8 (some 1467)) 9 (some 1468)) = RR rr0 12 := funext (fun j => match j with | 0 => rfl | 1 => rfl | 2 => rfl | 3 => rfl | 4 => rfl | 5 => rfl | 6 => rfl | 7 => rfl | 8 => rfl | 9 => rfl | 10 => rfl | _ + 11 => rfl)
set_option maxRecDepth 20000 in
theorem xl_1335 : hs_l (1336 + 1 + 8) 6 = RR rr0 (1336 + 1 + 7) := rfl
set_option maxRecDepth 20000 in
theorem xl_1386 : hs_l (1387 + 1 + 8) 6 = RR rr0 (1387 + 1 + 7) := rfl
