/-! CELLS WITHOUT REFERENCES THAT STAY -/
theorem sr_0 {b : Nat} (h1 : 0 ≤ b) (h2 : b ≤ 11) : sh_r b = fun _ => none := by
  funext j
  unfold sh_r
  rw [show Nat.ble b 1380 = true from Nat.ble_eq_true_of_le (by omega), show Nat.ble b 1336 = true from Nat.ble_eq_true_of_le (by omega), show Nat.ble b 30 = true from Nat.ble_eq_true_of_le (by omega), show Nat.ble b 18 = true from Nat.ble_eq_true_of_le (by omega), show Nat.ble b 12 = true from Nat.ble_eq_true_of_le (by omega), show Nat.ble b 11 = true from Nat.ble_eq_true_of_le (by omega)]
  rfl
theorem sr_14 {b : Nat} (h1 : 14 ≤ b) (h2 : b ≤ 18) : sh_r b = fun _ => none := by
  funext j
  unfold sh_r
  rw [show Nat.ble b 1380 = true from Nat.ble_eq_true_of_le (by omega), show Nat.ble b 1336 = true from Nat.ble_eq_true_of_le (by omega), show Nat.ble b 30 = true from Nat.ble_eq_true_of_le (by omega), show Nat.ble b 18 = true from Nat.ble_eq_true_of_le (by omega), nb_hi (show 12 < b by omega), nb_hi (show 13 < b by omega)]
  rfl
theorem sr_20 {b : Nat} (h1 : 20 ≤ b) (h2 : b ≤ 25) : sh_r b = fun _ => none := by
  funext j
  unfold sh_r
  rw [show Nat.ble b 1380 = true from Nat.ble_eq_true_of_le (by omega), show Nat.ble b 1336 = true from Nat.ble_eq_true_of_le (by omega), show Nat.ble b 30 = true from Nat.ble_eq_true_of_le (by omega), nb_hi (show 18 < b by omega), show Nat.ble b 25 = true from Nat.ble_eq_true_of_le (by omega), nb_hi (show 19 < b by omega)]
  rfl
theorem sr_27 {b : Nat} (h1 : 27 ≤ b) (h2 : b ≤ 29) : sh_r b = fun _ => none := by
  funext j
  unfold sh_r
  rw [show Nat.ble b 1380 = true from Nat.ble_eq_true_of_le (by omega), show Nat.ble b 1336 = true from Nat.ble_eq_true_of_le (by omega), show Nat.ble b 30 = true from Nat.ble_eq_true_of_le (by omega), nb_hi (show 18 < b by omega), nb_hi (show 25 < b by omega), nb_hi (show 26 < b by omega), show Nat.ble b 29 = true from Nat.ble_eq_true_of_le (by omega)]
  rfl
theorem sr_31 {b : Nat} (h1 : 31 ≤ b) (h2 : b ≤ 54) : sh_r b = fun _ => none := by
  funext j
  unfold sh_r
  rw [show Nat.ble b 1380 = true from Nat.ble_eq_true_of_le (by omega), show Nat.ble b 1336 = true from Nat.ble_eq_true_of_le (by omega), nb_hi (show 30 < b by omega), show Nat.ble b 1305 = true from Nat.ble_eq_true_of_le (by omega), show Nat.ble b 55 = true from Nat.ble_eq_true_of_le (by omega), show Nat.ble b 54 = true from Nat.ble_eq_true_of_le (by omega)]
  rfl
theorem sr_56 {b : Nat} (h1 : 56 ≤ b) (h2 : b ≤ 632) : sh_r b = fun _ => none := by
  funext j
  unfold sh_r
  rw [show Nat.ble b 1380 = true from Nat.ble_eq_true_of_le (by omega), show Nat.ble b 1336 = true from Nat.ble_eq_true_of_le (by omega), nb_hi (show 30 < b by omega), show Nat.ble b 1305 = true from Nat.ble_eq_true_of_le (by omega), nb_hi (show 55 < b by omega), show Nat.ble b 632 = true from Nat.ble_eq_true_of_le (by omega)]
  rfl
theorem sr_634 {b : Nat} (h1 : 634 ≤ b) (h2 : b ≤ 1305) : sh_r b = fun _ => none := by
  funext j
  unfold sh_r
  rw [show Nat.ble b 1380 = true from Nat.ble_eq_true_of_le (by omega), show Nat.ble b 1336 = true from Nat.ble_eq_true_of_le (by omega), nb_hi (show 30 < b by omega), show Nat.ble b 1305 = true from Nat.ble_eq_true_of_le (by omega), nb_hi (show 55 < b by omega), nb_hi (show 632 < b by omega), nb_hi (show 633 < b by omega)]
  rfl
theorem sr_1307 {b : Nat} (h1 : 1307 ≤ b) (h2 : b ≤ 1332) : sh_r b = fun _ => none := by
  funext j
  unfold sh_r
  rw [show Nat.ble b 1380 = true from Nat.ble_eq_true_of_le (by omega), show Nat.ble b 1336 = true from Nat.ble_eq_true_of_le (by omega), nb_hi (show 30 < b by omega), nb_hi (show 1305 < b by omega), show Nat.ble b 1332 = true from Nat.ble_eq_true_of_le (by omega), nb_hi (show 1306 < b by omega)]
  rfl
theorem sr_1334 {b : Nat} (h1 : 1334 ≤ b) (h2 : b ≤ 1335) : sh_r b = fun _ => none := by
  funext j
  unfold sh_r
  rw [show Nat.ble b 1380 = true from Nat.ble_eq_true_of_le (by omega), show Nat.ble b 1336 = true from Nat.ble_eq_true_of_le (by omega), nb_hi (show 30 < b by omega), nb_hi (show 1305 < b by omega), nb_hi (show 1332 < b by omega), nb_hi (show 1333 < b by omega), show Nat.ble b 1335 = true from Nat.ble_eq_true_of_le (by omega)]
  rfl
theorem sr_1339 {b : Nat} (h1 : 1339 ≤ b) (h2 : b ≤ 1344) : sh_r b = fun _ => none := by
  funext j
  unfold sh_r
  rw [show Nat.ble b 1380 = true from Nat.ble_eq_true_of_le (by omega), nb_hi (show 1336 < b by omega), show Nat.ble b 1358 = true from Nat.ble_eq_true_of_le (by omega), show Nat.ble b 1345 = true from Nat.ble_eq_true_of_le (by omega), nb_hi (show 1338 < b by omega), show Nat.ble b 1344 = true from Nat.ble_eq_true_of_le (by omega)]
  rfl
theorem sr_1347 {b : Nat} (h1 : 1347 ≤ b) (h2 : b ≤ 1351) : sh_r b = fun _ => none := by
  funext j
  unfold sh_r
  rw [show Nat.ble b 1380 = true from Nat.ble_eq_true_of_le (by omega), nb_hi (show 1336 < b by omega), show Nat.ble b 1358 = true from Nat.ble_eq_true_of_le (by omega), nb_hi (show 1345 < b by omega), show Nat.ble b 1351 = true from Nat.ble_eq_true_of_le (by omega), nb_hi (show 1346 < b by omega)]
  rfl
theorem sr_1354 {b : Nat} (h1 : 1354 ≤ b) (h2 : b ≤ 1358) : sh_r b = fun _ => none := by
  funext j
  unfold sh_r
  rw [show Nat.ble b 1380 = true from Nat.ble_eq_true_of_le (by omega), nb_hi (show 1336 < b by omega), show Nat.ble b 1358 = true from Nat.ble_eq_true_of_le (by omega), nb_hi (show 1345 < b by omega), nb_hi (show 1351 < b by omega), nb_hi (show 1352 < b by omega), nb_hi (show 1353 < b by omega)]
  rfl
theorem sr_1361 {b : Nat} (h1 : 1361 ≤ b) (h2 : b ≤ 1365) : sh_r b = fun _ => none := by
  funext j
  unfold sh_r
  rw [show Nat.ble b 1380 = true from Nat.ble_eq_true_of_le (by omega), nb_hi (show 1336 < b by omega), nb_hi (show 1358 < b by omega), show Nat.ble b 1367 = true from Nat.ble_eq_true_of_le (by omega), nb_hi (show 1360 < b by omega), show Nat.ble b 1365 = true from Nat.ble_eq_true_of_le (by omega)]
  rfl
theorem sr_1368 {b : Nat} (h1 : 1368 ≤ b) (h2 : b ≤ 1372) : sh_r b = fun _ => none := by
  funext j
  unfold sh_r
  rw [show Nat.ble b 1380 = true from Nat.ble_eq_true_of_le (by omega), nb_hi (show 1336 < b by omega), nb_hi (show 1358 < b by omega), nb_hi (show 1367 < b by omega), show Nat.ble b 1373 = true from Nat.ble_eq_true_of_le (by omega), show Nat.ble b 1372 = true from Nat.ble_eq_true_of_le (by omega)]
  rfl
theorem sr_1375 {b : Nat} (h1 : 1375 ≤ b) (h2 : b ≤ 1379) : sh_r b = fun _ => none := by
  funext j
  unfold sh_r
  rw [show Nat.ble b 1380 = true from Nat.ble_eq_true_of_le (by omega), nb_hi (show 1336 < b by omega), nb_hi (show 1358 < b by omega), nb_hi (show 1367 < b by omega), nb_hi (show 1373 < b by omega), nb_hi (show 1374 < b by omega), show Nat.ble b 1379 = true from Nat.ble_eq_true_of_le (by omega)]
  rfl
theorem sr_1382 {b : Nat} (h1 : 1382 ≤ b) (h2 : b ≤ 1386) : sh_r b = fun _ => none := by
  funext j
  unfold sh_r
  rw [nb_hi (show 1380 < b by omega), show Nat.ble b 1424 = true from Nat.ble_eq_true_of_le (by omega), show Nat.ble b 1402 = true from Nat.ble_eq_true_of_le (by omega), show Nat.ble b 1388 = true from Nat.ble_eq_true_of_le (by omega), show Nat.ble b 1386 = true from Nat.ble_eq_true_of_le (by omega), nb_hi (show 1381 < b by omega)]
  rfl
theorem sr_1390 {b : Nat} (h1 : 1390 ≤ b) (h2 : b ≤ 1395) : sh_r b = fun _ => none := by
  funext j
  unfold sh_r
  rw [nb_hi (show 1380 < b by omega), show Nat.ble b 1424 = true from Nat.ble_eq_true_of_le (by omega), show Nat.ble b 1402 = true from Nat.ble_eq_true_of_le (by omega), nb_hi (show 1388 < b by omega), show Nat.ble b 1395 = true from Nat.ble_eq_true_of_le (by omega), nb_hi (show 1389 < b by omega)]
  rfl
theorem sr_1398 {b : Nat} (h1 : 1398 ≤ b) (h2 : b ≤ 1402) : sh_r b = fun _ => none := by
  funext j
  unfold sh_r
  rw [nb_hi (show 1380 < b by omega), show Nat.ble b 1424 = true from Nat.ble_eq_true_of_le (by omega), show Nat.ble b 1402 = true from Nat.ble_eq_true_of_le (by omega), nb_hi (show 1388 < b by omega), nb_hi (show 1395 < b by omega), nb_hi (show 1396 < b by omega), nb_hi (show 1397 < b by omega)]
  rfl
theorem sr_1405 {b : Nat} (h1 : 1405 ≤ b) (h2 : b ≤ 1409) : sh_r b = fun _ => none := by
  funext j
  unfold sh_r
  rw [nb_hi (show 1380 < b by omega), show Nat.ble b 1424 = true from Nat.ble_eq_true_of_le (by omega), nb_hi (show 1402 < b by omega), show Nat.ble b 1411 = true from Nat.ble_eq_true_of_le (by omega), nb_hi (show 1404 < b by omega), show Nat.ble b 1409 = true from Nat.ble_eq_true_of_le (by omega)]
  rfl
theorem sr_1412 {b : Nat} (h1 : 1412 ≤ b) (h2 : b ≤ 1416) : sh_r b = fun _ => none := by
  funext j
  unfold sh_r
  rw [nb_hi (show 1380 < b by omega), show Nat.ble b 1424 = true from Nat.ble_eq_true_of_le (by omega), nb_hi (show 1402 < b by omega), nb_hi (show 1411 < b by omega), show Nat.ble b 1417 = true from Nat.ble_eq_true_of_le (by omega), show Nat.ble b 1416 = true from Nat.ble_eq_true_of_le (by omega)]
  rfl
theorem sr_1419 {b : Nat} (h1 : 1419 ≤ b) (h2 : b ≤ 1423) : sh_r b = fun _ => none := by
  funext j
  unfold sh_r
  rw [nb_hi (show 1380 < b by omega), show Nat.ble b 1424 = true from Nat.ble_eq_true_of_le (by omega), nb_hi (show 1402 < b by omega), nb_hi (show 1411 < b by omega), nb_hi (show 1417 < b by omega), nb_hi (show 1418 < b by omega), show Nat.ble b 1423 = true from Nat.ble_eq_true_of_le (by omega)]
  rfl
theorem sr_1426 {b : Nat} (h1 : 1426 ≤ b) (h2 : b ≤ 1430) : sh_r b = fun _ => none := by
  funext j
  unfold sh_r
  rw [nb_hi (show 1380 < b by omega), nb_hi (show 1424 < b by omega), show Nat.ble b 1447 = true from Nat.ble_eq_true_of_le (by omega), show Nat.ble b 1432 = true from Nat.ble_eq_true_of_le (by omega), show Nat.ble b 1430 = true from Nat.ble_eq_true_of_le (by omega), nb_hi (show 1425 < b by omega)]
  rfl
theorem sr_1433 {b : Nat} (h1 : 1433 ≤ b) (h2 : b ≤ 1437) : sh_r b = fun _ => none := by
  funext j
  unfold sh_r
  rw [nb_hi (show 1380 < b by omega), nb_hi (show 1424 < b by omega), show Nat.ble b 1447 = true from Nat.ble_eq_true_of_le (by omega), nb_hi (show 1432 < b by omega), show Nat.ble b 1438 = true from Nat.ble_eq_true_of_le (by omega), show Nat.ble b 1437 = true from Nat.ble_eq_true_of_le (by omega)]
  rfl
theorem sr_1439 {b : Nat} (h1 : 1439 ≤ b) (h2 : b ≤ 1439) : sh_r b = fun _ => none := by
  funext j
  unfold sh_r
  rw [nb_hi (show 1380 < b by omega), nb_hi (show 1424 < b by omega), show Nat.ble b 1447 = true from Nat.ble_eq_true_of_le (by omega), nb_hi (show 1432 < b by omega), nb_hi (show 1438 < b by omega), show Nat.ble b 1439 = true from Nat.ble_eq_true_of_le (by omega)]
  rfl
theorem sr_1441 {b : Nat} (h1 : 1441 ≤ b) (h2 : b ≤ 1447) : sh_r b = fun _ => none := by
  funext j
  unfold sh_r
  rw [nb_hi (show 1380 < b by omega), nb_hi (show 1424 < b by omega), show Nat.ble b 1447 = true from Nat.ble_eq_true_of_le (by omega), nb_hi (show 1432 < b by omega), nb_hi (show 1438 < b by omega), nb_hi (show 1439 < b by omega), nb_hi (show 1440 < b by omega)]
  rfl
theorem sr_1449 {b : Nat} (h1 : 1449 ≤ b) (h2 : b ≤ 1456) : sh_r b = fun _ => none := by
  funext j
  unfold sh_r
  rw [nb_hi (show 1380 < b by omega), nb_hi (show 1424 < b by omega), nb_hi (show 1447 < b by omega), show Nat.ble b 1464 = true from Nat.ble_eq_true_of_le (by omega), show Nat.ble b 1456 = true from Nat.ble_eq_true_of_le (by omega), nb_hi (show 1448 < b by omega)]
  rfl
theorem sr_1459 {b : Nat} (h1 : 1459 ≤ b) (h2 : b ≤ 1464) : sh_r b = fun _ => none := by
  funext j
  unfold sh_r
  rw [nb_hi (show 1380 < b by omega), nb_hi (show 1424 < b by omega), nb_hi (show 1447 < b by omega), show Nat.ble b 1464 = true from Nat.ble_eq_true_of_le (by omega), nb_hi (show 1456 < b by omega), nb_hi (show 1457 < b by omega), nb_hi (show 1458 < b by omega)]
  rfl
theorem sr_1466 {b : Nat} (h1 : 1466 ≤ b) (h2 : b ≤ 1468) : sh_r b = fun _ => none := by
  funext j
  unfold sh_r
  rw [nb_hi (show 1380 < b by omega), nb_hi (show 1424 < b by omega), nb_hi (show 1447 < b by omega), nb_hi (show 1464 < b by omega), show Nat.ble b 1468 = true from Nat.ble_eq_true_of_le (by omega), nb_hi (show 1465 < b by omega)]
  rfl
theorem sr_1470 {b : Nat} (h1 : 1470 ≤ b) (h2 : b ≤ 1496) : sh_r b = fun _ => none := by
  funext j
  unfold sh_r
  rw [nb_hi (show 1380 < b by omega), nb_hi (show 1424 < b by omega), nb_hi (show 1447 < b by omega), nb_hi (show 1464 < b by omega), nb_hi (show 1468 < b by omega), nb_hi (show 1469 < b by omega), show Nat.ble b 1496 = true from Nat.ble_eq_true_of_le (by omega)]
  rfl
theorem sr_1497 {b : Nat} (h1 : 1497 ≤ b) : sh_r b = fun _ => none := by
  funext j
  unfold sh_r
  rw [nb_hi (show 1380 < b by omega), nb_hi (show 1424 < b by omega), nb_hi (show 1447 < b by omega), nb_hi (show 1464 < b by omega), nb_hi (show 1468 < b by omega), nb_hi (show 1469 < b by omega), nb_hi (show 1496 < b by omega)]
  rfl
def sr_iv : List (Nat × Nat) := [(0, 11), (14, 18), (20, 25), (27, 29), (31, 54), (56, 632), (634, 1305), (1307, 1332), (1334, 1335), (1339, 1344), (1347, 1351), (1354, 1358), (1361, 1365), (1368, 1372), (1375, 1379), (1382, 1386), (1390, 1395), (1398, 1402), (1405, 1409), (1412, 1416), (1419, 1423), (1426, 1430), (1433, 1437), (1439, 1439), (1441, 1447), (1449, 1456), (1459, 1464), (1466, 1468), (1470, 1496)]
theorem sr_iv_ok : ∀ q ∈ sr_iv, ∀ b, q.1 ≤ b → b ≤ q.2 → sh_r b = fun _ => none := List.forall_mem_cons.mpr ⟨fun _ h1 h2 => sr_0 h1 h2, List.forall_mem_cons.mpr ⟨fun _ h1 h2 => sr_14 h1 h2, List.forall_mem_cons.mpr ⟨fun _ h1 h2 => sr_20 h1 h2, List.forall_mem_cons.mpr ⟨fun _ h1 h2 => sr_27 h1 h2, List.forall_mem_cons.mpr ⟨fun _ h1 h2 => sr_31 h1 h2, List.forall_mem_cons.mpr ⟨fun _ h1 h2 => sr_56 h1 h2, List.forall_mem_cons.mpr ⟨fun _ h1 h2 => sr_634 h1 h2, List.forall_mem_cons.mpr ⟨fun _ h1 h2 => sr_1307 h1 h2, List.forall_mem_cons.mpr ⟨fun _ h1 h2 => sr_1334 h1 h2, List.forall_mem_cons.mpr ⟨fun _ h1 h2 => sr_1339 h1 h2, List.forall_mem_cons.mpr ⟨fun _ h1 h2 => sr_1347 h1 h2, List.forall_mem_cons.mpr ⟨fun _ h1 h2 => sr_1354 h1 h2, List.forall_mem_cons.mpr ⟨fun _ h1 h2 => sr_1361 h1 h2, List.forall_mem_cons.mpr ⟨fun _ h1 h2 => sr_1368 h1 h2, List.forall_mem_cons.mpr ⟨fun _ h1 h2 => sr_1375 h1 h2, List.forall_mem_cons.mpr ⟨fun _ h1 h2 => sr_1382 h1 h2, List.forall_mem_cons.mpr ⟨fun _ h1 h2 => sr_1390 h1 h2, List.forall_mem_cons.mpr ⟨fun _ h1 h2 => sr_1398 h1 h2, List.forall_mem_cons.mpr ⟨fun _ h1 h2 => sr_1405 h1 h2, List.forall_mem_cons.mpr ⟨fun _ h1 h2 => sr_1412 h1 h2, List.forall_mem_cons.mpr ⟨fun _ h1 h2 => sr_1419 h1 h2, List.forall_mem_cons.mpr ⟨fun _ h1 h2 => sr_1426 h1 h2, List.forall_mem_cons.mpr ⟨fun _ h1 h2 => sr_1433 h1 h2, List.forall_mem_cons.mpr ⟨fun _ h1 h2 => sr_1439 h1 h2, List.forall_mem_cons.mpr ⟨fun _ h1 h2 => sr_1441 h1 h2, List.forall_mem_cons.mpr ⟨fun _ h1 h2 => sr_1449 h1 h2, List.forall_mem_cons.mpr ⟨fun _ h1 h2 => sr_1459 h1 h2, List.forall_mem_cons.mpr ⟨fun _ h1 h2 => sr_1466 h1 h2, List.forall_mem_cons.mpr ⟨fun _ h1 h2 => sr_1470 h1 h2, (fun _ h => by cases h)⟩⟩⟩⟩⟩⟩⟩⟩⟩⟩⟩⟩⟩⟩⟩⟩⟩⟩⟩⟩⟩⟩⟩⟩⟩⟩⟩⟩⟩
theorem sr_cov : (List.range 1497).all (fun b => cond (Nat.ble (sh_t b) 2 || Nat.beq (sh_t b) 5 || Nat.beq (sh_t b) 6) (sr_iv.any fun q => Nat.ble q.1 b && Nat.ble b q.2) true) = true := by decide +kernel
theorem sr_row {b : Nat} (hb : b < 1497) (h : (Nat.ble (sh_t b) 2 || Nat.beq (sh_t b) 5 || Nat.beq (sh_t b) 6) = true) : sh_r b = fun _ => none := by
  have h1 := List.all_eq_true.mp sr_cov b (List.mem_range.mpr hb)
  rw [h] at h1
  obtain ⟨q, h2, h3⟩ := List.any_eq_true.mp h1
  obtain ⟨h4, h5⟩ := am_bb h3
  exact sr_iv_ok q h2 b (Nat.le_of_ble_eq_true h4) (Nat.le_of_ble_eq_true h5)
theorem sr_int {b : Nat} (hb : b < 1497) (h : sh_t b = 0) : sh_r b = fun _ => none := sr_row hb (by rw [h]; rfl)
