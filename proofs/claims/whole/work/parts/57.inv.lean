/-! WHAT HOLDS BETWEEN TWO CALLS -/
/-- a state: the moves, the chosen dodecad, the number behind the next random one -/
abbrev a_S : Type := (Nat → Nat → Nat) × Nat × Nat
/-- f is a permutation of the 24 places -/
def a_pm (f : Nat → Nat) : Prop := (∀ p, p < 24 → f p < 24) ∧ ∀ p q, p < 24 → q < 24 → f p = f q → p = q
def a_dd (c : Nat) : Prop := ∃ k, k < 4096 ∧ c = g_w k ∧ pcn (g_w k) = 12
def a_ok (S : a_S) : Prop := (∀ m, m < 5 → a_pm (S.1 m)) ∧ a_dd S.2.1 ∧ S.2.2 < 2 ^ 31
/-- the class's state at s -/
def c_S (I : Nat → Nat → Int32) (s : Nat) (S : a_S) : Prop := (∀ m, m < 5 → ∀ p, p < 24 → I (s + 2 + m) p = nI (S.1 m p)) ∧ I s 1 = nI S.2.1 ∧ I s 2 = nI S.2.2
/-- the model's state from o on in the row f -/
def m_S (f : Nat → Int32) (o : Nat) (S : a_S) : Prop := (∀ m, m < 5 → ∀ p, p < 24 → f (o + (24 * m + p)) = nI (S.1 m p)) ∧ f (o + 120) = nI S.2.1 ∧ f (o + 121) = nI S.2.2
/-- the class's history at h: its state at s, its list at l, of states from b on -/
def c_H (I : Nat → Nat → Int32) (rr : Nat → Nat → Option Nat) (h s l b : Nat) (now : a_S) (us : Nat) (ks : Nat → a_S) : Prop :=
  c_S I s now ∧ I h 2 = nI us ∧ us ≤ 6 ∧ ∃ π : Nat → Nat, (∀ k, k < 6 → π k < 6 ∧ rr l k = some (b + 7 * π k)) ∧ (∀ i j, i < 6 → j < 6 → π i = π j → i = j) ∧ ∀ k, k < us → c_S I (b + 7 * π k) (ks k)
def m_H (f g : Nat → Int32) (now : a_S) (us : Nat) (ks : Nat → a_S) : Prop := m_S f 0 now ∧ ∀ k, k < us → m_S g (122 * k) (ks k)
/-- the tables -/
def vT (I : Nat → Nat → Int32) : Prop := nm_P I ∧ go_P I ∧ I 1469 3 = nI 12 ∧ (∀ k, k < 12 → I 1471 k = nI (g_U k)) ∧ (∀ k, k < 12 → I 1472 k = nI (g_V k)) ∧ (∀ k, k < 4096 → I 1473 k = nI (g_w k)) ∧ ∀ k, k < 759 → I 1474 k = nI ((g_ws 8 4096).getD k 0)
/-- the state, and what can be undone -/
def vSt (I : Nat → Nat → Int32) (rr : Nat → Nat → Option Nat) : Prop := ∃ now us ks, a_ok now ∧ (∀ k, k < us → a_ok (ks k)) ∧ c_H I rr 1336 1337 1344 1345 now us ks ∧ m_H (I 1470) (I 1489) now us ks ∧ I 1469 28 = nI us
/-- the image -/
def vSv (I : Nat → Nat → Int32) (rr : Nat → Nat → Option Nat) : Prop := ∃ now us ks, c_H I rr 1387 1388 1395 1396 now us ks ∧ ((I 12 10 = nI 0 ∧ I 1469 31 = am_k (-1)) ∨ (I 12 10 = nI 1 ∧ I 1469 31 = nI us ∧ a_ok now ∧ (∀ k, k < us → a_ok (ks k)) ∧ m_H (I 1490) (I 1491) now us ks))
/-- the tape -/
def vTp (I : Nat → Nat → Int32) : Prop := ∃ (tl : Nat) (t : Nat → Nat), tl ≤ 100 ∧ I 1438 6 = nI tl ∧ I 1469 9 = nI tl ∧ ∀ k, k < tl → 32 ≤ t k ∧ t k ≤ 126 ∧ I 1439 k = nI (t k) ∧ I 1476 k = nI (t k)
/-- the sheets -/
def vSh (I : Nat → Nat → Int32) (Lg : Nat → Nat → Int64) : Prop := ∃ (la sz : Nat → Nat) (v : Nat → Nat → Int64), ∀ s, s < 4 → sz s ≤ 32 ∧ I 1464 s = nI (sz s) ∧ I 1493 s = nI (sz s) ∧ (∀ i, i < 32 → Lg (1459 + s) i = v s i ∧ Lg 1494 (32 * s + i) = v s i) ∧ ((la s = 4 ∧ I 1463 s = am_k (-4) ∧ I 1492 s = am_k (-1)) ∨ (la s < 4 ∧ I 1463 s = nI (la s) ∧ I 1492 s = nI (la s)))
/-- G speaks of the table of the group alone -/
def g_fr (G : (Nat → Nat → Int32) → Prop) : Prop := ∀ I I', (∀ b, (1480 ≤ b ∧ b ≤ 1483) ∨ b = 1485 → I' b = I b) → I' 1469 19 = I 1469 19 → I' 1469 21 = I 1469 21 → I' 1469 22 = I 1469 22 → G I → G I'
def vV (G : (Nat → Nat → Int32) → Prop) : lw_V := fun I Lg rr _ => vT I ∧ vSt I rr ∧ vSv I rr ∧ vTp I ∧ vSh I Lg ∧ G I
theorem c_S.fr {I I' : Nat → Nat → Int32} {s : Nat} {S : a_S} (h : c_S I s S) (hk : ∀ b, s ≤ b → b < s + 7 → I' b = I b) : c_S I' s S := by
  obtain ⟨h1, h2, h3⟩ := h
  refine ⟨fun m hm p hp => ?_, ?_, ?_⟩
  · rw [hk _ (by omega) (by omega), h1 m hm p hp]
  · rw [hk s (by omega) (by omega), h2]
  · rw [hk s (by omega) (by omega), h3]
theorem c_H.fr {I I' : Nat → Nat → Int32} {rr rr' : Nat → Nat → Option Nat} {h s l b : Nat} {now : a_S} {us : Nat} {ks : Nat → a_S} (q : c_H I rr h s l b now us ks) (hk : ∀ a, (s ≤ a ∧ a < s + 7) ∨ (b ≤ a ∧ a < b + 42) → I' a = I a) (hh : I' h 2 = I h 2) (hr : rr' l = rr l) : c_H I' rr' h s l b now us ks := by
  obtain ⟨q1, q2, q3, π, q4, q5, q6⟩ := q
  refine ⟨q1.fr fun a a1 a2 => hk a (Or.inl ⟨a1, a2⟩), by rw [hh, q2], q3, π, fun k hk => by rw [hr]; exact q4 k hk, q5, fun k hk2 => (q6 k hk2).fr fun a a1 a2 => hk a (Or.inr ?_)⟩
  have := (q4 k (by omega)).1
  omega
theorem vT.fr {I I' : Nat → Nat → Int32} (h : vT I) (h1 : ∀ b, 14 ≤ b → b ≤ 25 → I' b = I b) (h2 : ∀ b, 1471 ≤ b → b ≤ 1474 → I' b = I b) (h3 : I' 1469 3 = I 1469 3) : vT I' := by
  obtain ⟨t1, t2, t3, t4, t5, t6, t7⟩ := h
  refine ⟨fun m hm x hx => ?_, t2.kept fun b b1 b2 => h1 b (by omega) (by omega), by rw [h3, t3], fun k hk => ?_, fun k hk => ?_, fun k hk => ?_, fun k hk => ?_⟩
  · rw [h1 _ (by omega) (by omega), t1 m hm x hx]
  · rw [h2 1471 (by decide) (by decide), t4 k hk]
  · rw [h2 1472 (by decide) (by decide), t5 k hk]
  · rw [h2 1473 (by decide) (by decide), t6 k hk]
  · rw [h2 1474 (by decide) (by decide), t7 k hk]
theorem vSt.fr {I I' : Nat → Nat → Int32} {rr rr' : Nat → Nat → Option Nat} (h : vSt I rr) (h1 : ∀ b, 1336 ≤ b → b ≤ 1386 → I' b = I b) (h2 : I' 1470 = I 1470) (h3 : I' 1489 = I 1489) (h4 : I' 1469 28 = I 1469 28) (hr : rr' 1344 = rr 1344) : vSt I' rr' := by
  obtain ⟨now, us, ks, a1, a2, a3, a4, a5⟩ := h
  refine ⟨now, us, ks, a1, a2, a3.fr (fun a q => h1 a (by omega) (by omega)) (by rw [h1 1336 (by decide) (by decide)]) hr, ?_, by rw [h4, a5]⟩
  rw [h2, h3]
  exact a4
theorem vSv.fr {I I' : Nat → Nat → Int32} {rr rr' : Nat → Nat → Option Nat} (h : vSv I rr) (h1 : ∀ b, 1387 ≤ b → b ≤ 1437 → I' b = I b) (h0 : I' 12 10 = I 12 10) (h2 : I' 1490 = I 1490) (h3 : I' 1491 = I 1491) (h4 : I' 1469 31 = I 1469 31) (hr : rr' 1395 = rr 1395) : vSv I' rr' := by
  obtain ⟨now, us, ks, a1, a2⟩ := h
  refine ⟨now, us, ks, a1.fr (fun a q => h1 a (by omega) (by omega)) (by rw [h1 1387 (by decide) (by decide)]) hr, ?_⟩
  rw [h0, h2, h3, h4]
  exact a2
theorem vTp.fr {I I' : Nat → Nat → Int32} (h : vTp I) (h1 : I' 1438 6 = I 1438 6) (h2 : I' 1469 9 = I 1469 9) (h3 : I' 1439 = I 1439) (h4 : I' 1476 = I 1476) : vTp I' := by
  unfold vTp
  rw [h1, h2, h3, h4]
  exact h
theorem vSh.fr {I I' : Nat → Nat → Int32} {Lg Lg' : Nat → Nat → Int64} (h : vSh I Lg) (h1 : I' 1463 = I 1463) (h2 : I' 1464 = I 1464) (h3 : I' 1492 = I 1492) (h4 : I' 1493 = I 1493) (h5 : ∀ s, s < 4 → Lg' (1459 + s) = Lg (1459 + s)) (h6 : Lg' 1494 = Lg 1494) : vSh I' Lg' := by
  obtain ⟨la, sz, v, q⟩ := h
  refine ⟨la, sz, v, fun s hs => ?_⟩
  rw [h1, h2, h3, h4, h5 s hs, h6]
  exact q s hs
/-- only what every call writes anew was written -/
def scr (I I' : Nat → Nat → Int32) : Prop := (∀ b, (b ≤ 25 ∨ (1336 ≤ b ∧ b ≤ 1437) ∨ b = 1439 ∨ (1457 ≤ b ∧ b ≤ 1464) ∨ (1470 ≤ b ∧ b ≤ 1474) ∨ b = 1476 ∨ (1480 ≤ b ∧ b ≤ 1483) ∨ b = 1485 ∨ (1489 ≤ b ∧ b ≤ 1494)) → I' b = I b) ∧ I' 1438 6 = I 1438 6 ∧ ∀ j, ¬ j = 7 → ¬ j = 10 → ¬ j = 14 → I' 1469 j = I 1469 j
theorem vV.scr {G : (Nat → Nat → Int32) → Prop} (hG : g_fr G) {I I' : Nat → Nat → Int32} {Lg Lg' : Nat → Nat → Int64} {rr rr' : Nat → Nat → Option Nat} {n : Nat} (h : vV G I Lg rr n) (hs : scr I I') (hL : ∀ b, ¬ b = 1495 → Lg' b = Lg b) (hr : ∀ b, ¬ b = 1438 → rr' b = rr b) : vV G I' Lg' rr' n := by
  obtain ⟨h1, h2, h3, h4, h5, h6⟩ := h
  obtain ⟨s1, s2, s3⟩ := hs
  refine ⟨h1.fr (fun b b1 b2 => s1 b (by omega)) (fun b b1 b2 => s1 b (by omega)) (s3 3 (by decide) (by decide) (by decide)), h2.fr (fun b b1 b2 => s1 b (by omega)) (s1 _ (by omega)) (s1 _ (by omega)) (s3 28 (by decide) (by decide) (by decide)) (hr _ (by decide)), h3.fr (fun b b1 b2 => s1 b (by omega)) (by rw [s1 12 (by omega)]) (s1 _ (by omega)) (s1 _ (by omega)) (s3 31 (by decide) (by decide) (by decide)) (hr _ (by decide)), h4.fr s2 (s3 9 (by decide) (by decide) (by decide)) (s1 _ (by omega)) (s1 _ (by omega)), h5.fr (s1 _ (by omega)) (s1 _ (by omega)) (s1 _ (by omega)) (s1 _ (by omega)) (fun s hs => hL _ (by omega)) (hL _ (by decide)), hG I I' (fun b hb => s1 b (by omega)) (s3 19 (by decide) (by decide) (by decide)) (s3 21 (by decide) (by decide) (by decide)) (s3 22 (by decide) (by decide) (by decide)) h6⟩
/-- an operation that writes nothing, on either side -/
theorem op_pure {V : lw_V} {kx km : Nat} {as : List Value} (h : ∀ I Lg rr n, V I Lg rr n → ∃ r : Int32, (∀ K : Option Value → am_M → Prop, K (some (.int r)) (am_st I Lg rr n) → am_AC 100 kx (.ref 12 :: as) (am_st I Lg rr n) K) ∧ ∀ K : Option Value → am_M → Prop, K (some (.int r)) (am_st I Lg rr n) → am_AC 100 km (.ref 1469 :: as) (am_st I Lg rr n) K) : lw_Op V kx km as := by
  intro I Lg rr n hV
  obtain ⟨r, h1, h2⟩ := h I Lg rr n hV
  refine h1 _ ⟨r, rfl, I, Lg, rr, rfl, rfl, h2 _ ⟨r, rfl, I, Lg, rr, rfl, rfl, hV⟩⟩
/-- it holds at the start -/
theorem vV_start {G : (Nat → Nat → Int32) → Prop} (hG : ∀ J, J 1469 21 = am_k (-1) → G J) {J : Nat → Nat → Int32} {L : Nat → Nat → Int64} {n : Nat} (h : vs J L) : vV G J L rr0 n := by
  obtain ⟨⟨I0, I1, L1, Q1, hx, hm⟩, hL⟩ := h
  obtain ⟨x1, x2, x3, x4, x5, x6, x7, x8, x9, x10, x11, x12⟩ := hx
  obtain ⟨m1, m2, m3, m4, m5, m6, m7, m8, m9, m10, m11⟩ := hm
  have e68 : ∀ j v, mf_G j = v → J 1469 j = v := fun j v h => by rw [m2, h]
  have dd : a_dd (g_W 1) := ⟨g_pl (g_W 1), pl_lt _, (g_w_pl 1).symm, by
    rw [g_w_pl, ← bc_eq (g_W_lt 1)]
    decide +kernel⟩
  have nmp : ∀ m, m < 5 → a_pm (g_nm m) := fun m hm => ⟨nm_b24 m hm, (show ∀ m, m < 5 → ∀ p q, p < 24 → q < 24 → g_nm m p = g_nm m q → p = q from fun m hm p q hp hq => (show ∀ m, m < 5 → ∀ p, p < 24 → ∀ q, q < 24 → g_nm m p = g_nm m q → p = q by decide +kernel) m hm p hp q hq) m hm⟩
  refine ⟨⟨fun m hm x hx => ?_, x4.kept fun b b1 b2 => m1 b (by omega), e68 3 _ rfl, m6, m7, m8, m9⟩, ⟨(g_nm, g_W 1, 1), 0, fun _ => (g_nm, g_W 1, 1), ⟨nmp, dd, by decide⟩, fun k hk => absurd hk (Nat.not_lt_zero _), ⟨⟨fun m hm p hp => ?_, ?_, ?_⟩, ?_, Nat.zero_le _, id, fun k hk => ⟨hk, ?_⟩, fun i j _ _ h => h, fun k hk => absurd hk (Nat.not_lt_zero _)⟩, ⟨⟨fun m hm p hp => ?_, ?_, ?_⟩, fun k hk => absurd hk (Nat.not_lt_zero _)⟩, e68 28 _ rfl⟩, ⟨(fun _ _ => 0, 0, 0), 0, fun _ => (fun _ _ => 0, 0, 0), ⟨⟨fun m hm p hp => ?_, ?_, ?_⟩, ?_, Nat.zero_le _, id, fun k hk => ⟨hk, ?_⟩, fun i j _ _ h => h, fun k hk => absurd hk (Nat.not_lt_zero _)⟩, Or.inl ⟨?_, e68 31 _ rfl⟩⟩, ⟨0, fun _ => 0, by decide, ?_, e68 9 _ rfl, fun k hk => absurd hk (Nat.not_lt_zero _)⟩, ⟨fun _ => 4, fun _ => 0, fun _ _ => 0, fun s hs => ⟨Nat.zero_le _, ?_, ?_, fun i hi => ⟨?_, ?_⟩, Or.inl ⟨rfl, ?_, ?_⟩⟩⟩, hG J (e68 21 _ rfl)⟩
  · rw [m1 _ (by omega), x3 m hm x hx]
  · rw [show 1337 + 2 + m = 1339 + m by omega, m1 _ (by omega), x5 m hm p hp]
  · rw [m1 _ (by omega), x6]
  · rw [m1 _ (by omega), x7]
  · rw [m1 _ (by omega), x8 1336 (by decide) (by decide) (by decide) (by decide)]
    rfl
  · exact (if_pos rfl).trans (if_pos hk)
  · rw [Nat.zero_add, m3 m hm p hp]
  · exact m4
  · exact m5
  · rw [m1 _ (by omega), x8 _ (by omega) (by omega) (by omega) (by omega)]
    rfl
  · rw [m1 _ (by omega), x8 1388 (by decide) (by decide) (by decide) (by decide)]
    rfl
  · rw [m1 _ (by omega), x8 1388 (by decide) (by decide) (by decide) (by decide)]
    rfl
  · rw [m1 _ (by omega), x8 1387 (by decide) (by decide) (by decide) (by decide)]
    rfl
  · exact (if_neg (by decide)).trans ((if_pos rfl).trans (if_pos hk))
  · rw [m1 _ (by omega), x2]
    rfl
  · rw [m1 _ (by omega), x8 1438 (by decide) (by decide) (by decide) (by decide)]
    rfl
  · rw [m1 _ (by omega), x8 1464 (by decide) (by decide) (by decide) (by decide)]
    rfl
  · rw [m10 1493 (by decide) (by decide) (by decide)]
    rfl
  · rw [hL _ (by omega)]
  · rw [hL _ (by omega)]
  · rw [m1 _ (by omega), x9 s hs]
  · exact m11 s hs
