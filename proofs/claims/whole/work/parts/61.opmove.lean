/-! OPERATIONS THAT READ OR WRITE A PLACE OR TWO: move, seed, type -/
theorem RR_now (rr : Nat → Nat → Option Nat) : ∀ m, m < 5 → RR rr 1338 m = some (1339 + m) := fun m hm => by
  rw [RR_sh (by decide) (by decide) (by decide)]
  exact (show ∀ m, m < 5 → sh_r 1338 m = some (1339 + m) by decide +kernel) m hm
theorem ro_now {m : Nat} (hm : m < 5) : am_ro 1497 (1339 + m) 24 := ⟨(rows_now m hm).1, (rows_now m hm).2, by omega, by omega⟩
theorem oS_ro {a N : Nat} (h : am_ro 1497 a N) : am_oS a 0 = true := h.g2
theorem vSt.put {I I' : Nat → Nat → Int32} {rr : Nat → Nat → Option Nat} {now now' : a_S} {us : Nat} {ks : Nat → a_S} (hks : ∀ k, k < us → a_ok (ks k)) (hc : c_H I rr 1336 1337 1344 1345 now us ks) (hm : m_H (I 1470) (I 1489) now us ks) (h28 : I 1469 28 = nI us) (ok : a_ok now') (f1 : ∀ b, 1345 ≤ b → b ≤ 1386 → I' b = I b) (f2 : I' 1336 2 = I 1336 2) (f3 : I' 1489 = I 1489) (f4 : I' 1469 28 = I 1469 28) (g1 : c_S I' 1337 now') (g2 : m_S (I' 1470) 0 now') : vSt I' rr := by
  obtain ⟨q1, q2, q3, π, q4, q5, q6⟩ := hc
  refine ⟨now', us, ks, ok, hks, ⟨g1, by rw [f2, q2], q3, π, q4, q5, fun k hk => (q6 k hk).fr fun a a1 a2 => ?_⟩, ⟨g2, ?_⟩, by rw [f4, h28]⟩
  · have := (q4 k (by omega)).1
    exact f1 a (by omega) (by omega)
  · rw [f3]
    exact hm.2
theorem m_in_01 (v lo hi : Int64) : (decide (m_in v lo hi = 0) || decide (m_in v lo hi = 1)) = true := by
  unfold m_in
  split <;> rfl
theorem s_isPlace {d : Nat} {v : Int64} {K : Option Value → am_M → Prop} {M : am_M} (hd : 2 ≤ d) (h : K (some (.int (m_in v (lN 0) (lN 23)))) M) : am_AC d k_M_isPlace [.long v] M K := by
  obtain ⟨d, rfl, hd1⟩ := s_up hd
  exact am_in _ _ _ (am_step _ _ _ (p_M_isPlace_0 (s_in hd1 ⟨_, rfl, am_step _ _ _ (p_M_isPlace_8 (am_zg (m_in_01 _ _ _) h))⟩)))
section OS
variable {G : (Nat → Nat → Int32) → Prop}
theorem op_move (a0 a1 : Int32) : lw_Op (vV G) k_X_move k_M_move [.int a0, .int a1] := by
  refine op_pure fun I Lg rr n hV => ?_
  obtain ⟨now, us, ks, ok, hks, hc, hm, h28⟩ := hV.2.1
  rcases rng_cases a0 (N := 5) (by decide) (by decide) with ⟨m, m1, rfl, m3, m4, m5⟩ | ⟨m3, m4, m5⟩
  · rcases rng_cases a1 (N := 24) (by decide) (by decide) with ⟨p, c1, rfl, c3, c4, c5⟩ | ⟨c3, c4, c5⟩
    · have e1 : am_un (nI m) = m := n_un (by omega)
      have e2 : am_un (nI p) = p := n_un (by omega)
      have ro := ro_now m1
      refine ⟨nI (now.1 m p), fun K hK => am_in _ _ _ (am_step _ _ _ (b_X_move_0 (s_isOutside (by decide) ⟨_, rfl, am_step _ _ _ (b_X_move_5 ?_)⟩))), fun K hK => am_in _ _ _ (am_step _ _ _ (b_M_move_0 (s_isMove (by decide) ⟨_, rfl, am_step _ _ _ (b_M_move_4 ?_)⟩)))⟩
      · rw [m3]
        refine ⟨fun _ => s_isOutside (by decide) ⟨_, rfl, am_step _ _ _ (b_X_move_14 ?_)⟩, fun q => absurd rfl q⟩
        rw [c3, e1, e2]
        refine ⟨fun _ => ⟨m1, am_obi (RR_now rr m m1) (am_gi (oS_ro ro) ?_)⟩, fun q => absurd rfl q⟩
        rw [ro.n]
        refine ⟨c1, ?_⟩
        have := hc.1.1 m m1 p c1
        rw [show 1337 + 2 + m = 1339 + m by omega] at this
        rw [this]
        exact hK
      · rw [m4]
        refine ⟨fun q => absurd q (by decide), fun _ => s_isPlace (by decide) ⟨_, rfl, am_step _ _ _ (b_M_move_12 ?_)⟩⟩
        rw [c5]
        refine ⟨fun q => absurd q (by decide), fun _ => am_in _ _ _ (am_step _ _ _ (b_M_to_0 ?_))⟩
        rw [pk_mul, nI_add, n_un (by omega)]
        refine ⟨by omega, ⟨_, rfl, am_step _ _ _ (b_M_move_21 ?_)⟩⟩
        have := hm.1.1 m m1 p c1
        rw [Nat.zero_add] at this
        rw [this]
        exact hK
    · refine ⟨am_k (-1), fun K hK => am_in _ _ _ (am_step _ _ _ (b_X_move_0 (s_isOutside (by decide) ⟨_, rfl, am_step _ _ _ (b_X_move_5 ?_)⟩))), fun K hK => am_in _ _ _ (am_step _ _ _ (b_M_move_0 (s_isMove (by decide) ⟨_, rfl, am_step _ _ _ (b_M_move_4 ?_)⟩)))⟩
      · rw [m3]
        refine ⟨fun _ => s_isOutside (by decide) ⟨_, rfl, am_step _ _ _ (b_X_move_14 ?_)⟩, fun q => absurd rfl q⟩
        rw [c3]
        exact ⟨fun q => absurd q (by decide), fun _ => hK⟩
      · rw [m4]
        refine ⟨fun q => absurd q (by decide), fun _ => s_isPlace (by decide) ⟨_, rfl, am_step _ _ _ (b_M_move_12 ?_)⟩⟩
        rw [c5]
        exact ⟨fun _ => hK, fun q => absurd rfl q⟩
  · refine ⟨am_k (-1), fun K hK => am_in _ _ _ (am_step _ _ _ (b_X_move_0 (s_isOutside (by decide) ⟨_, rfl, am_step _ _ _ (b_X_move_5 ?_)⟩))), fun K hK => am_in _ _ _ (am_step _ _ _ (b_M_move_0 (s_isMove (by decide) ⟨_, rfl, am_step _ _ _ (b_M_move_4 ?_)⟩)))⟩
    · rw [m3]
      exact ⟨fun q => absurd q (by decide), fun _ => hK⟩
    · rw [m4]
      exact ⟨fun _ => hK, fun q => absurd rfl q⟩
theorem m_S.put121 {f : Nat → Int32} {S : a_S} {r : Nat} (h : m_S f 0 S) : m_S (am_u1 f 121 (nI r)) 0 (S.1, S.2.1, r) := by
  obtain ⟨h1, h2, h3⟩ := h
  refine ⟨fun m hm p hp => ?_, ?_, ?_⟩
  · rw [am_u1_off _ _ (by omega)]
    exact h1 m hm p hp
  · rw [am_u1_off _ _ (by decide)]
    exact h2
  · exact am_u1_at _ 121 _
theorem m_S.put120 {f : Nat → Int32} {S : a_S} {c : Nat} (h : m_S f 0 S) : m_S (am_u1 f 120 (nI c)) 0 (S.1, c, S.2.2) := by
  obtain ⟨h1, h2, h3⟩ := h
  refine ⟨fun m hm p hp => ?_, ?_, ?_⟩
  · rw [am_u1_off _ _ (by omega)]
    exact h1 m hm p hp
  · exact am_u1_at _ 120 _
  · rw [am_u1_off _ _ (by decide)]
    exact h3
theorem c_S.put2 {I : Nat → Nat → Int32} {S : a_S} {r : Nat} (h : c_S I 1337 S) : c_S (am_sr I 1337 (am_u1 (I 1337) 2 (nI r))) 1337 (S.1, S.2.1, r) := by
  obtain ⟨h1, h2, h3⟩ := h
  refine ⟨fun m hm p hp => ?_, ?_, ?_⟩
  · rw [am_sr_off _ _ (by omega)]
    exact h1 m hm p hp
  · rw [am_sr_at, am_u1_off _ _ (by decide)]
    exact h2
  · rw [am_sr_at, am_u1_at]
theorem c_S.put1 {I : Nat → Nat → Int32} {S : a_S} {c : Nat} (h : c_S I 1337 S) : c_S (am_sr I 1337 (am_u1 (I 1337) 1 (nI c))) 1337 (S.1, c, S.2.2) := by
  obtain ⟨h1, h2, h3⟩ := h
  refine ⟨fun m hm p hp => ?_, ?_, ?_⟩
  · rw [am_sr_off _ _ (by omega)]
    exact h1 m hm p hp
  · rw [am_sr_at, am_u1_at]
  · rw [am_sr_at, am_u1_off _ _ (by decide)]
    exact h3
/-- V when only the state of both changed -/
theorem vV.now {I I' : Nat → Nat → Int32} {Lg : Nat → Nat → Int64} {rr : Nat → Nat → Option Nat} {n : Nat} (hG : g_fr G) (h : vV G I Lg rr n) (hs : vSt I' rr) (hk : ∀ b, ¬ (1337 ≤ b ∧ b ≤ 1343) → ¬ b = 1470 → I' b = I b) : vV G I' Lg rr n := by
  obtain ⟨h1, h2, h3, h4, h5, h6⟩ := h
  exact ⟨h1.fr (fun b b1 b2 => hk b (by omega) (by omega)) (fun b b1 b2 => hk b (by omega) (by omega)) (by rw [hk 1469 (by omega) (by omega)]), hs, h3.fr (fun b b1 b2 => hk b (by omega) (by omega)) (by rw [hk 12 (by omega) (by omega)]) (hk _ (by omega) (by omega)) (hk _ (by omega) (by omega)) (by rw [hk 1469 (by omega) (by omega)]) rfl, h4.fr (by rw [hk 1438 (by omega) (by omega)]) (by rw [hk 1469 (by omega) (by omega)]) (hk _ (by omega) (by omega)) (hk _ (by omega) (by omega)), h5.fr (hk _ (by omega) (by omega)) (hk _ (by omega) (by omega)) (hk _ (by omega) (by omega)) (hk _ (by omega) (by omega)) (fun _ _ => rfl) rfl, hG I I' (fun b hb => hk b (by omega) (by omega)) (by rw [hk 1469 (by omega) (by omega)]) (by rw [hk 1469 (by omega) (by omega)]) (by rw [hk 1469 (by omega) (by omega)]) h6⟩
theorem op_seed (hG : g_fr G) (a0 : Int32) : lw_Op (vV G) k_X_seed k_M_seed [.int a0] := by
  intro I Lg rr n hV
  obtain ⟨now, us, ks, ok, hks, hc, hm, h28⟩ := hV.2.1
  by_cases hneg : a0 < 0
  · refine am_in _ _ _ (am_step _ _ _ (b_X_seed_0 ⟨fun _ => ⟨am_k (-1), rfl, I, Lg, rr, rfl, rfl, am_in _ _ _ (am_step _ _ _ (b_M_seed_0 ⟨fun _ => ⟨am_k (-1), rfl, I, Lg, rr, rfl, rfl, hV⟩, fun q => absurd hneg q⟩))⟩, fun q => absurd hneg q⟩))
  · have hn : 0 ≤ a0.toInt := by
      rw [fa0_lt] at hneg
      have : (0 : Int32).toInt = 0 := rfl
      omega
    obtain ⟨r, rr0, er⟩ : ∃ r, r < 2 ^ 31 ∧ a0 = nI r := ⟨_, (i_nat hn).2, (i_nat hn).1⟩
    subst er
    refine am_in _ _ _ (am_step _ _ _ (b_X_seed_0 ⟨fun q => absurd q hneg, fun _ => ⟨_, rfl, _, Lg, rr, rfl, am_sr_off _ _ (by decide), am_in _ _ _ (am_step _ _ _ (b_M_seed_0 ⟨fun q => absurd q hneg, fun _ => ⟨by decide, by decide, ?_⟩⟩))⟩⟩))
    have e1 : am_sr I 1337 (am_u1 (I 1337) 2 (nI r)) 1470 = I 1470 := am_sr_off _ _ (by decide)
    have h121 : I 1470 121 = nI now.2.2 := hm.1.2.2
    refine ⟨_, rfl, _, Lg, rr, rfl, ?_, ?_⟩
    · rw [e1]
      exact h121.trans hc.1.2.2.symm
    · rw [e1]
      have g1 := hc.1.put2 (r := r)
      have g2 : m_S (am_sr (am_sr I 1337 (am_u1 (I 1337) 2 (nI r))) 1470 (am_u1 (I 1470) 121 (nI r)) 1470) 0 (now.1, now.2.1, r) := by
        rw [am_sr_at]
        exact hm.1.put121
      refine hV.now hG (vSt.put (now' := (now.1, now.2.1, r)) hks hc hm h28 ⟨ok.1, ok.2.1, rr0⟩ (fun b b1 b2 => ?_) ?_ ?_ ?_ (g1.fr fun b b1 b2 => am_sr_off _ _ (by omega)) g2) (fun b b1 b2 => ?_)
      · show am_sr (am_sr I 1337 _) 1470 _ b = _
        rw [am_sr_off _ _ (by omega), am_sr_off _ _ (by omega)]
      · show am_sr (am_sr I 1337 _) 1470 _ 1336 2 = _
        rw [am_sr_off _ _ (by omega), am_sr_off _ _ (by omega)]
      · show am_sr (am_sr I 1337 _) 1470 _ 1489 = _
        rw [am_sr_off _ _ (by omega), am_sr_off _ _ (by omega)]
      · show am_sr (am_sr I 1337 _) 1470 _ 1469 28 = _
        rw [am_sr_off _ _ (by omega), am_sr_off _ _ (by omega)]
      · show am_sr (am_sr I 1337 _) 1470 _ b = _
        rw [am_sr_off _ _ (by omega), am_sr_off _ _ (by omega)]
end OS
