/-! CELLS WITHOUT REFERENCES THAT STAY -/
theorem sr_0 {b : Nat} (h1 : 0 ≤ b) (h2 : b ≤ 11) : sh_r b = fun _ => none := by
  funext j
  unfold sh_r
  rw [show Nat.ble b 1379 = true from Nat.ble_eq_true_of_le (by omega), show Nat.ble b 1335 = true from Nat.ble_eq_true_of_le (by omega), show Nat.ble b 30 = true from Nat.ble_eq_true_of_le (by omega), show Nat.ble b 18 = true from Nat.ble_eq_true_of_le (by omega), show Nat.ble b 12 = true from Nat.ble_eq_true_of_le (by omega), show Nat.ble b 11 = true from Nat.ble_eq_true_of_le (by omega)]
  rfl
theorem sr_14 {b : Nat} (h1 : 14 ≤ b) (h2 : b ≤ 18) : sh_r b = fun _ => none := by
  funext j
  unfold sh_r
  rw [show Nat.ble b 1379 = true from Nat.ble_eq_true_of_le (by omega), show Nat.ble b 1335 = true from Nat.ble_eq_true_of_le (by omega), show Nat.ble b 30 = true from Nat.ble_eq_true_of_le (by omega), show Nat.ble b 18 = true from Nat.ble_eq_true_of_le (by omega), nb_hi (show 12 < b by omega), nb_hi (show 13 < b by omega)]
  rfl
theorem sr_20 {b : Nat} (h1 : 20 ≤ b) (h2 : b ≤ 25) : sh_r b = fun _ => none := by
  funext j
  unfold sh_r
  rw [show Nat.ble b 1379 = true from Nat.ble_eq_true_of_le (by omega), show Nat.ble b 1335 = true from Nat.ble_eq_true_of_le (by omega), show Nat.ble b 30 = true from Nat.ble_eq_true_of_le (by omega), nb_hi (show 18 < b by omega), show Nat.ble b 25 = true from Nat.ble_eq_true_of_le (by omega), nb_hi (show 19 < b by omega)]
  rfl
theorem sr_27 {b : Nat} (h1 : 27 ≤ b) (h2 : b ≤ 29) : sh_r b = fun _ => none := by
  funext j
  unfold sh_r
  rw [show Nat.ble b 1379 = true from Nat.ble_eq_true_of_le (by omega), show Nat.ble b 1335 = true from Nat.ble_eq_true_of_le (by omega), show Nat.ble b 30 = true from Nat.ble_eq_true_of_le (by omega), nb_hi (show 18 < b by omega), nb_hi (show 25 < b by omega), nb_hi (show 26 < b by omega), show Nat.ble b 29 = true from Nat.ble_eq_true_of_le (by omega)]
  rfl
theorem sr_31 {b : Nat} (h1 : 31 ≤ b) (h2 : b ≤ 54) : sh_r b = fun _ => none := by
  funext j
  unfold sh_r
  rw [show Nat.ble b 1379 = true from Nat.ble_eq_true_of_le (by omega), show Nat.ble b 1335 = true from Nat.ble_eq_true_of_le (by omega), nb_hi (show 30 < b by omega), show Nat.ble b 1305 = true from Nat.ble_eq_true_of_le (by omega), show Nat.ble b 55 = true from Nat.ble_eq_true_of_le (by omega), show Nat.ble b 54 = true from Nat.ble_eq_true_of_le (by omega)]
  rfl
theorem sr_56 {b : Nat} (h1 : 56 ≤ b) (h2 : b ≤ 632) : sh_r b = fun _ => none := by
  funext j
  unfold sh_r
  rw [show Nat.ble b 1379 = true from Nat.ble_eq_true_of_le (by omega), show Nat.ble b 1335 = true from Nat.ble_eq_true_of_le (by omega), nb_hi (show 30 < b by omega), show Nat.ble b 1305 = true from Nat.ble_eq_true_of_le (by omega), nb_hi (show 55 < b by omega), show Nat.ble b 632 = true from Nat.ble_eq_true_of_le (by omega)]
  rfl
theorem sr_634 {b : Nat} (h1 : 634 ≤ b) (h2 : b ≤ 1305) : sh_r b = fun _ => none := by
  funext j
  unfold sh_r
  rw [show Nat.ble b 1379 = true from Nat.ble_eq_true_of_le (by omega), show Nat.ble b 1335 = true from Nat.ble_eq_true_of_le (by omega), nb_hi (show 30 < b by omega), show Nat.ble b 1305 = true from Nat.ble_eq_true_of_le (by omega), nb_hi (show 55 < b by omega), nb_hi (show 632 < b by omega), nb_hi (show 633 < b by omega)]
  rfl
theorem sr_1307 {b : Nat} (h1 : 1307 ≤ b) (h2 : b ≤ 1331) : sh_r b = fun _ => none := by
  funext j
  unfold sh_r
  rw [show Nat.ble b 1379 = true from Nat.ble_eq_true_of_le (by omega), show Nat.ble b 1335 = true from Nat.ble_eq_true_of_le (by omega), nb_hi (show 30 < b by omega), nb_hi (show 1305 < b by omega), show Nat.ble b 1331 = true from Nat.ble_eq_true_of_le (by omega), nb_hi (show 1306 < b by omega)]
  rfl
theorem sr_1333 {b : Nat} (h1 : 1333 ≤ b) (h2 : b ≤ 1334) : sh_r b = fun _ => none := by
  funext j
  unfold sh_r
  rw [show Nat.ble b 1379 = true from Nat.ble_eq_true_of_le (by omega), show Nat.ble b 1335 = true from Nat.ble_eq_true_of_le (by omega), nb_hi (show 30 < b by omega), nb_hi (show 1305 < b by omega), nb_hi (show 1331 < b by omega), nb_hi (show 1332 < b by omega), show Nat.ble b 1334 = true from Nat.ble_eq_true_of_le (by omega)]
  rfl
theorem sr_1338 {b : Nat} (h1 : 1338 ≤ b) (h2 : b ≤ 1343) : sh_r b = fun _ => none := by
  funext j
  unfold sh_r
  rw [show Nat.ble b 1379 = true from Nat.ble_eq_true_of_le (by omega), nb_hi (show 1335 < b by omega), show Nat.ble b 1357 = true from Nat.ble_eq_true_of_le (by omega), show Nat.ble b 1344 = true from Nat.ble_eq_true_of_le (by omega), nb_hi (show 1337 < b by omega), show Nat.ble b 1343 = true from Nat.ble_eq_true_of_le (by omega)]
  rfl
theorem sr_1346 {b : Nat} (h1 : 1346 ≤ b) (h2 : b ≤ 1350) : sh_r b = fun _ => none := by
  funext j
  unfold sh_r
  rw [show Nat.ble b 1379 = true from Nat.ble_eq_true_of_le (by omega), nb_hi (show 1335 < b by omega), show Nat.ble b 1357 = true from Nat.ble_eq_true_of_le (by omega), nb_hi (show 1344 < b by omega), show Nat.ble b 1350 = true from Nat.ble_eq_true_of_le (by omega), nb_hi (show 1345 < b by omega)]
  rfl
theorem sr_1353 {b : Nat} (h1 : 1353 ≤ b) (h2 : b ≤ 1357) : sh_r b = fun _ => none := by
  funext j
  unfold sh_r
  rw [show Nat.ble b 1379 = true from Nat.ble_eq_true_of_le (by omega), nb_hi (show 1335 < b by omega), show Nat.ble b 1357 = true from Nat.ble_eq_true_of_le (by omega), nb_hi (show 1344 < b by omega), nb_hi (show 1350 < b by omega), nb_hi (show 1351 < b by omega), nb_hi (show 1352 < b by omega)]
  rfl
theorem sr_1360 {b : Nat} (h1 : 1360 ≤ b) (h2 : b ≤ 1364) : sh_r b = fun _ => none := by
  funext j
  unfold sh_r
  rw [show Nat.ble b 1379 = true from Nat.ble_eq_true_of_le (by omega), nb_hi (show 1335 < b by omega), nb_hi (show 1357 < b by omega), show Nat.ble b 1366 = true from Nat.ble_eq_true_of_le (by omega), nb_hi (show 1359 < b by omega), show Nat.ble b 1364 = true from Nat.ble_eq_true_of_le (by omega)]
  rfl
theorem sr_1367 {b : Nat} (h1 : 1367 ≤ b) (h2 : b ≤ 1371) : sh_r b = fun _ => none := by
  funext j
  unfold sh_r
  rw [show Nat.ble b 1379 = true from Nat.ble_eq_true_of_le (by omega), nb_hi (show 1335 < b by omega), nb_hi (show 1357 < b by omega), nb_hi (show 1366 < b by omega), show Nat.ble b 1372 = true from Nat.ble_eq_true_of_le (by omega), show Nat.ble b 1371 = true from Nat.ble_eq_true_of_le (by omega)]
  rfl
theorem sr_1374 {b : Nat} (h1 : 1374 ≤ b) (h2 : b ≤ 1378) : sh_r b = fun _ => none := by
  funext j
  unfold sh_r
  rw [show Nat.ble b 1379 = true from Nat.ble_eq_true_of_le (by omega), nb_hi (show 1335 < b by omega), nb_hi (show 1357 < b by omega), nb_hi (show 1366 < b by omega), nb_hi (show 1372 < b by omega), nb_hi (show 1373 < b by omega), show Nat.ble b 1378 = true from Nat.ble_eq_true_of_le (by omega)]
  rfl
theorem sr_1381 {b : Nat} (h1 : 1381 ≤ b) (h2 : b ≤ 1385) : sh_r b = fun _ => none := by
  funext j
  unfold sh_r
  rw [nb_hi (show 1379 < b by omega), show Nat.ble b 1423 = true from Nat.ble_eq_true_of_le (by omega), show Nat.ble b 1401 = true from Nat.ble_eq_true_of_le (by omega), show Nat.ble b 1387 = true from Nat.ble_eq_true_of_le (by omega), show Nat.ble b 1385 = true from Nat.ble_eq_true_of_le (by omega), nb_hi (show 1380 < b by omega)]
  rfl
theorem sr_1389 {b : Nat} (h1 : 1389 ≤ b) (h2 : b ≤ 1394) : sh_r b = fun _ => none := by
  funext j
  unfold sh_r
  rw [nb_hi (show 1379 < b by omega), show Nat.ble b 1423 = true from Nat.ble_eq_true_of_le (by omega), show Nat.ble b 1401 = true from Nat.ble_eq_true_of_le (by omega), nb_hi (show 1387 < b by omega), show Nat.ble b 1394 = true from Nat.ble_eq_true_of_le (by omega), nb_hi (show 1388 < b by omega)]
  rfl
theorem sr_1397 {b : Nat} (h1 : 1397 ≤ b) (h2 : b ≤ 1401) : sh_r b = fun _ => none := by
  funext j
  unfold sh_r
  rw [nb_hi (show 1379 < b by omega), show Nat.ble b 1423 = true from Nat.ble_eq_true_of_le (by omega), show Nat.ble b 1401 = true from Nat.ble_eq_true_of_le (by omega), nb_hi (show 1387 < b by omega), nb_hi (show 1394 < b by omega), nb_hi (show 1395 < b by omega), nb_hi (show 1396 < b by omega)]
  rfl
theorem sr_1404 {b : Nat} (h1 : 1404 ≤ b) (h2 : b ≤ 1408) : sh_r b = fun _ => none := by
  funext j
  unfold sh_r
  rw [nb_hi (show 1379 < b by omega), show Nat.ble b 1423 = true from Nat.ble_eq_true_of_le (by omega), nb_hi (show 1401 < b by omega), show Nat.ble b 1410 = true from Nat.ble_eq_true_of_le (by omega), nb_hi (show 1403 < b by omega), show Nat.ble b 1408 = true from Nat.ble_eq_true_of_le (by omega)]
  rfl
theorem sr_1411 {b : Nat} (h1 : 1411 ≤ b) (h2 : b ≤ 1415) : sh_r b = fun _ => none := by
  funext j
  unfold sh_r
  rw [nb_hi (show 1379 < b by omega), show Nat.ble b 1423 = true from Nat.ble_eq_true_of_le (by omega), nb_hi (show 1401 < b by omega), nb_hi (show 1410 < b by omega), show Nat.ble b 1416 = true from Nat.ble_eq_true_of_le (by omega), show Nat.ble b 1415 = true from Nat.ble_eq_true_of_le (by omega)]
  rfl
theorem sr_1418 {b : Nat} (h1 : 1418 ≤ b) (h2 : b ≤ 1422) : sh_r b = fun _ => none := by
  funext j
  unfold sh_r
  rw [nb_hi (show 1379 < b by omega), show Nat.ble b 1423 = true from Nat.ble_eq_true_of_le (by omega), nb_hi (show 1401 < b by omega), nb_hi (show 1410 < b by omega), nb_hi (show 1416 < b by omega), nb_hi (show 1417 < b by omega), show Nat.ble b 1422 = true from Nat.ble_eq_true_of_le (by omega)]
  rfl
theorem sr_1425 {b : Nat} (h1 : 1425 ≤ b) (h2 : b ≤ 1429) : sh_r b = fun _ => none := by
  funext j
  unfold sh_r
  rw [nb_hi (show 1379 < b by omega), nb_hi (show 1423 < b by omega), show Nat.ble b 1446 = true from Nat.ble_eq_true_of_le (by omega), show Nat.ble b 1431 = true from Nat.ble_eq_true_of_le (by omega), show Nat.ble b 1429 = true from Nat.ble_eq_true_of_le (by omega), nb_hi (show 1424 < b by omega)]
  rfl
theorem sr_1432 {b : Nat} (h1 : 1432 ≤ b) (h2 : b ≤ 1436) : sh_r b = fun _ => none := by
  funext j
  unfold sh_r
  rw [nb_hi (show 1379 < b by omega), nb_hi (show 1423 < b by omega), show Nat.ble b 1446 = true from Nat.ble_eq_true_of_le (by omega), nb_hi (show 1431 < b by omega), show Nat.ble b 1437 = true from Nat.ble_eq_true_of_le (by omega), show Nat.ble b 1436 = true from Nat.ble_eq_true_of_le (by omega)]
  rfl
theorem sr_1438 {b : Nat} (h1 : 1438 ≤ b) (h2 : b ≤ 1438) : sh_r b = fun _ => none := by
  funext j
  unfold sh_r
  rw [nb_hi (show 1379 < b by omega), nb_hi (show 1423 < b by omega), show Nat.ble b 1446 = true from Nat.ble_eq_true_of_le (by omega), nb_hi (show 1431 < b by omega), nb_hi (show 1437 < b by omega), show Nat.ble b 1438 = true from Nat.ble_eq_true_of_le (by omega)]
  rfl
theorem sr_1440 {b : Nat} (h1 : 1440 ≤ b) (h2 : b ≤ 1446) : sh_r b = fun _ => none := by
  funext j
  unfold sh_r
  rw [nb_hi (show 1379 < b by omega), nb_hi (show 1423 < b by omega), show Nat.ble b 1446 = true from Nat.ble_eq_true_of_le (by omega), nb_hi (show 1431 < b by omega), nb_hi (show 1437 < b by omega), nb_hi (show 1438 < b by omega), nb_hi (show 1439 < b by omega)]
  rfl
theorem sr_1448 {b : Nat} (h1 : 1448 ≤ b) (h2 : b ≤ 1455) : sh_r b = fun _ => none := by
  funext j
  unfold sh_r
  rw [nb_hi (show 1379 < b by omega), nb_hi (show 1423 < b by omega), nb_hi (show 1446 < b by omega), show Nat.ble b 1463 = true from Nat.ble_eq_true_of_le (by omega), show Nat.ble b 1455 = true from Nat.ble_eq_true_of_le (by omega), nb_hi (show 1447 < b by omega)]
  rfl
theorem sr_1458 {b : Nat} (h1 : 1458 ≤ b) (h2 : b ≤ 1463) : sh_r b = fun _ => none := by
  funext j
  unfold sh_r
  rw [nb_hi (show 1379 < b by omega), nb_hi (show 1423 < b by omega), nb_hi (show 1446 < b by omega), show Nat.ble b 1463 = true from Nat.ble_eq_true_of_le (by omega), nb_hi (show 1455 < b by omega), nb_hi (show 1456 < b by omega), nb_hi (show 1457 < b by omega)]
  rfl
theorem sr_1465 {b : Nat} (h1 : 1465 ≤ b) (h2 : b ≤ 1467) : sh_r b = fun _ => none := by
  funext j
  unfold sh_r
  rw [nb_hi (show 1379 < b by omega), nb_hi (show 1423 < b by omega), nb_hi (show 1446 < b by omega), nb_hi (show 1463 < b by omega), show Nat.ble b 1467 = true from Nat.ble_eq_true_of_le (by omega), nb_hi (show 1464 < b by omega)]
  rfl
theorem sr_1469 {b : Nat} (h1 : 1469 ≤ b) (h2 : b ≤ 1495) : sh_r b = fun _ => none := by
  funext j
  unfold sh_r
  rw [nb_hi (show 1379 < b by omega), nb_hi (show 1423 < b by omega), nb_hi (show 1446 < b by omega), nb_hi (show 1463 < b by omega), nb_hi (show 1467 < b by omega), nb_hi (show 1468 < b by omega), show Nat.ble b 1495 = true from Nat.ble_eq_true_of_le (by omega)]
  rfl
theorem sr_1496 {b : Nat} (h1 : 1496 ≤ b) : sh_r b = fun _ => none := by
  funext j
  unfold sh_r
  rw [nb_hi (show 1379 < b by omega), nb_hi (show 1423 < b by omega), nb_hi (show 1446 < b by omega), nb_hi (show 1463 < b by omega), nb_hi (show 1467 < b by omega), nb_hi (show 1468 < b by omega), nb_hi (show 1495 < b by omega)]
  rfl
def sr_iv : List (Nat × Nat) := [(0, 11), (14, 18), (20, 25), (27, 29), (31, 54), (56, 632), (634, 1305), (1307, 1331), (1333, 1334), (1338, 1343), (1346, 1350), (1353, 1357), (1360, 1364), (1367, 1371), (1374, 1378), (1381, 1385), (1389, 1394), (1397, 1401), (1404, 1408), (1411, 1415), (1418, 1422), (1425, 1429), (1432, 1436), (1438, 1438), (1440, 1446), (1448, 1455), (1458, 1463), (1465, 1467), (1469, 1495)]
theorem sr_iv_ok : ∀ q ∈ sr_iv, ∀ b, q.1 ≤ b → b ≤ q.2 → sh_r b = fun _ => none := List.forall_mem_cons.mpr ⟨fun _ h1 h2 => sr_0 h1 h2, List.forall_mem_cons.mpr ⟨fun _ h1 h2 => sr_14 h1 h2, List.forall_mem_cons.mpr ⟨fun _ h1 h2 => sr_20 h1 h2, List.forall_mem_cons.mpr ⟨fun _ h1 h2 => sr_27 h1 h2, List.forall_mem_cons.mpr ⟨fun _ h1 h2 => sr_31 h1 h2, List.forall_mem_cons.mpr ⟨fun _ h1 h2 => sr_56 h1 h2, List.forall_mem_cons.mpr ⟨fun _ h1 h2 => sr_634 h1 h2, List.forall_mem_cons.mpr ⟨fun _ h1 h2 => sr_1307 h1 h2, List.forall_mem_cons.mpr ⟨fun _ h1 h2 => sr_1333 h1 h2, List.forall_mem_cons.mpr ⟨fun _ h1 h2 => sr_1338 h1 h2, List.forall_mem_cons.mpr ⟨fun _ h1 h2 => sr_1346 h1 h2, List.forall_mem_cons.mpr ⟨fun _ h1 h2 => sr_1353 h1 h2, List.forall_mem_cons.mpr ⟨fun _ h1 h2 => sr_1360 h1 h2, List.forall_mem_cons.mpr ⟨fun _ h1 h2 => sr_1367 h1 h2, List.forall_mem_cons.mpr ⟨fun _ h1 h2 => sr_1374 h1 h2, List.forall_mem_cons.mpr ⟨fun _ h1 h2 => sr_1381 h1 h2, List.forall_mem_cons.mpr ⟨fun _ h1 h2 => sr_1389 h1 h2, List.forall_mem_cons.mpr ⟨fun _ h1 h2 => sr_1397 h1 h2, List.forall_mem_cons.mpr ⟨fun _ h1 h2 => sr_1404 h1 h2, List.forall_mem_cons.mpr ⟨fun _ h1 h2 => sr_1411 h1 h2, List.forall_mem_cons.mpr ⟨fun _ h1 h2 => sr_1418 h1 h2, List.forall_mem_cons.mpr ⟨fun _ h1 h2 => sr_1425 h1 h2, List.forall_mem_cons.mpr ⟨fun _ h1 h2 => sr_1432 h1 h2, List.forall_mem_cons.mpr ⟨fun _ h1 h2 => sr_1438 h1 h2, List.forall_mem_cons.mpr ⟨fun _ h1 h2 => sr_1440 h1 h2, List.forall_mem_cons.mpr ⟨fun _ h1 h2 => sr_1448 h1 h2, List.forall_mem_cons.mpr ⟨fun _ h1 h2 => sr_1458 h1 h2, List.forall_mem_cons.mpr ⟨fun _ h1 h2 => sr_1465 h1 h2, List.forall_mem_cons.mpr ⟨fun _ h1 h2 => sr_1469 h1 h2, (fun _ h => by cases h)⟩⟩⟩⟩⟩⟩⟩⟩⟩⟩⟩⟩⟩⟩⟩⟩⟩⟩⟩⟩⟩⟩⟩⟩⟩⟩⟩⟩⟩
theorem sr_cov : (List.range 1496).all (fun b => cond (Nat.ble (sh_t b) 2 || Nat.beq (sh_t b) 5 || Nat.beq (sh_t b) 6) (sr_iv.any fun q => Nat.ble q.1 b && Nat.ble b q.2) true) = true := by decide +kernel
theorem sr_row {b : Nat} (hb : b < 1496) (h : (Nat.ble (sh_t b) 2 || Nat.beq (sh_t b) 5 || Nat.beq (sh_t b) 6) = true) : sh_r b = fun _ => none := by
  have h1 := List.all_eq_true.mp sr_cov b (List.mem_range.mpr hb)
  rw [h] at h1
  obtain ⟨q, h2, h3⟩ := List.any_eq_true.mp h1
  obtain ⟨h4, h5⟩ := am_bb h3
  exact sr_iv_ok q h2 b (Nat.le_of_ble_eq_true h4) (Nat.le_of_ble_eq_true h5)
theorem sr_int {b : Nat} (hb : b < 1496) (h : sh_t b = 0) : sh_r b = fun _ => none := sr_row hb (by rw [h]; rfl)
