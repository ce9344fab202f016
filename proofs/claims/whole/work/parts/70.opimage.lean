/-! A HISTORY BECOMES ANOTHER; the operations image, restore -/
/-- the layout has a history at h -/
def hi_A (h : Nat) : Prop := (sh_t h = 13 ∧ 12 ≤ h ∧ h + 51 ≤ 1497) ∧ (sh_t (h + 8) = 5 ∧ sh_n (h + 8) = 6) ∧ st_A (h + 1) ∧ (∀ q, q < 6 → st_A (h + 9 + 7 * q)) ∧ (∀ rr, RR rr h 0 = some (h + 1) ∧ RR rr h 1 = some (h + 8)) ∧ (h + 8 = 1344 ∨ h + 8 = 1395)
theorem hi_A_l : hi_A 1336 := ⟨by decide +kernel, by decide +kernel, st_A_1336, st_A_1344, fun rr => ⟨rfl, rfl⟩, Or.inl rfl⟩
theorem hi_A_s : hi_A 1387 := ⟨by decide +kernel, by decide +kernel, st_A_1387, st_A_1395, fun rr => ⟨rfl, rfl⟩, Or.inr rfl⟩
section BE
variable {d : Nat} {K : Option Value → am_M → Prop} {I : Nat → Nat → Int32} {Lg : Nat → Nat → Int64} {rr : Nat → Nat → Option Nat} {n : Nat} {G : (Nat → Nat → Int32) → Prop}
theorem s_Hi_become {h h' : Nat} {now : a_S} {us : Nat} {ks : Nat → a_S} {π : Nat → Nat} (hd : 3 ≤ d) (hA : hi_A h) (hA' : hi_A h') (hne : h + 51 ≤ h' ∨ h' + 51 ≤ h) (hp1 : ∀ k, k < 6 → π k < 6 ∧ rr (h + 8) k = some (h + 9 + 7 * π k)) (hp2 : ∀ i j, i < 6 → j < 6 → π i = π j → i = j) (hc : c_H I rr h' (h' + 1) (h' + 8) (h' + 9) now us ks)
    (hK : ∀ J, c_H J rr h (h + 1) (h + 8) (h + 9) now us ks → (∀ b, b < h ∨ h + 51 ≤ b → J b = I b) → K none (am_st J Lg rr n)) : am_AC d k_Hi_become [.ref h, .ref h'] (am_st I Lg rr n) K := by
  obtain ⟨d, rfl, hd1⟩ := s_up hd
  obtain ⟨⟨a1, a2, a3⟩, ⟨a4, a5⟩, a6, a7, a8, a9⟩ := hA
  obtain ⟨⟨b1, b2, b3⟩, ⟨b4, b5⟩, b6, b7, b8, b9⟩ := hA'
  obtain ⟨q1, q2, q3, π', q4, q5, q6⟩ := hc
  have gh := oS_of a1 (by omega)
  have gh' := oS_of b1 (by omega)
  have gl := oS_or (t := 0) (Or.inr (Or.inr a4)) (by omega)
  have gl' := oS_or (t := 0) (Or.inr (Or.inr b4)) (by omega)
  have gs : (am_oS (h + 1) 16 && Nat.ble 12 (h + 1) && true) = true := am_ba (am_ba (oS_of a6.1.1 (by omega)) (Nat.ble_eq_true_of_le (by omega))) rfl
  have gh3 : (am_oS h 13 && Nat.ble 12 h && true) = true := am_ba (am_ba gh (Nat.ble_eq_true_of_le (by omega))) rfl
  have key : ∀ k, k ≤ 6 → ∀ J, c_S J (h + 1) now → (∀ j, j < k → j < us → c_S J (h + 9 + 7 * π j) (ks j)) → (∀ b, b < h + 1 ∨ h + 51 ≤ b → J b = I b) → am_St d k_Hi_become (am_st I Lg rr n) K 13 [some (.ref h), some (.ref h'), some (.int (nI k))] [] (am_st J Lg rr n) := by
    refine lp_up _ (fun k hk ih => ?_) ?_
    · intro J h1 h2 h3
      have eu : am_un (nI k) = k := n_un (by omega)
      have ll : am_lS n (h + 8) = 6 := lS_of a5 (by omega)
      have ll' : am_lS n (h' + 8) = 6 := lS_of b5 (by omega)
      obtain ⟨p1, p2⟩ := hp1 k hk
      obtain ⟨p1', p2'⟩ := q4 k hk
      have sA := a7 (π k) p1
      have sB := b7 (π' k) p1'
      have gk : (am_oS (h + 9 + 7 * π k) 16 && Nat.ble 12 (h + 9 + 7 * π k) && true) = true := am_ba (am_ba (oS_of sA.1.1 (by omega)) (Nat.ble_eq_true_of_le (by omega))) rfl
      refine am_step _ _ _ (b_Hi_become_13 ⟨fun _ => am_gi gh (am_obi (a8 rr).2 (am_gi gl ?_)), fun q => absurd (nI_lt hk (by decide)) q⟩)
      rw [eu, ll]
      refine ⟨hk, am_obi (by rw [RR_l a9]; exact p2) (am_gi gh' (am_obi (b8 rr).2 (am_gi gl' ?_)))⟩
      rw [ll']
      refine ⟨hk, am_obi (by rw [RR_l b9]; exact p2') (am_gi gk (s_St_become hd1 sA sB (by omega) fun J2 g1 g2 g3 g4 => ⟨rfl, am_step _ _ _ (b_Hi_become_34 ?_)⟩))⟩
      rw [nI_add]
      refine ih J2 (h1.fr fun b c1 c2 => g4 b (by omega)) (fun j hj hju => ?_) (fun b hb => ?_)
      · by_cases e : j = k
        · subst e
          have cs : c_S J (h' + 9 + 7 * π' j) (ks j) := (q6 j hju).fr fun b c1 c2 => h3 b (by omega)
          exact cs.copy g1 g2 g3
        · have pj := (hp1 j (by omega)).1
          have pne : ¬ π j = π k := fun q => e (hp2 j k (by omega) hk q)
          exact (h2 j (by omega) hju).fr fun b c1 c2 => g4 b (by omega)
      · rw [g4 b (by omega), h3 b hb]
    · intro J h1 h2 h3
      refine am_step _ _ _ (b_Hi_become_13 ⟨fun q => absurd q (by decide), fun _ => am_gi gh' (am_gi gh3 (hK _ ?_ (fun b hb => ?_)))⟩)
      · refine ⟨h1.fr fun b c1 c2 => am_sr_off _ _ (by omega), ?_, q3, π, hp1, hp2, fun k hk => ?_⟩
        · rw [am_sr_at, am_u1_at, h3 h' (by omega), q2]
        · exact (h2 k (by omega) hk).fr fun b c1 c2 => am_sr_off _ _ (by omega)
      · rw [am_sr_off _ _ (by omega), h3 b (by omega)]
  refine am_in _ _ _ (am_step _ _ _ (b_Hi_become_0 (am_gi gh (am_obi (a8 rr).1 (am_gi gh' (am_obi (b8 rr).1 (am_gi gs (s_St_become hd1 a6 b6 (by omega) fun J2 g1 g2 g3 g4 => ⟨rfl, am_step _ _ _ (b_Hi_become_11 ?_)⟩))))))))
  exact key 0 (by decide) J2 (q1.copy g1 g2 g3) (fun j hj => absurd hj (Nat.not_lt_zero j)) (fun b hb => g4 b (by omega))
/-- V when states, what can be undone, and the image changed -/
theorem vV.hist2 {I I' : Nat → Nat → Int32} {Lg : Nat → Nat → Int64} {rr rr' : Nat → Nat → Option Nat} {n : Nat} (hG : g_fr G) (h : vV G I Lg rr n) (hs : vSt I' rr') (hv : vSv I' rr') (hk : ∀ b, ¬ b = 12 → ¬ (1336 ≤ b ∧ b ≤ 1437) → ¬ b = 1469 → ¬ b = 1470 → ¬ (1489 ≤ b ∧ b ≤ 1491) → I' b = I b) (h68 : ∀ j, ¬ j = 28 → ¬ j = 31 → I' 1469 j = I 1469 j) : vV G I' Lg rr' n := by
  obtain ⟨h1, h2, h3, h4, h5, h6⟩ := h
  have k : ∀ b, ¬ b = 12 ∧ ¬ (1336 ≤ b ∧ b ≤ 1437) ∧ ¬ b = 1469 ∧ ¬ b = 1470 ∧ ¬ (1489 ≤ b ∧ b ≤ 1491) → I' b = I b := fun b q => hk b q.1 q.2.1 q.2.2.1 q.2.2.2.1 q.2.2.2.2
  exact ⟨h1.fr (fun b b1 b2 => k b (by omega)) (fun b b1 b2 => k b (by omega)) (h68 _ (by decide) (by decide)), hs, hv, h4.fr (by rw [k 1438 (by omega)]) (h68 _ (by decide) (by decide)) (k _ (by omega)) (k _ (by omega)), h5.fr (k _ (by omega)) (k _ (by omega)) (k _ (by omega)) (k _ (by omega)) (fun _ _ => rfl) rfl, hG I I' (fun b hb => k b (by omega)) (h68 _ (by decide) (by decide)) (h68 _ (by decide) (by decide)) (h68 _ (by decide) (by decide)) h6⟩
theorem op_image (hG : g_fr G) : lw_Op (vV G) k_X_image k_M_image [] := by
  intro I Lg rr n hV
  obtain ⟨now, us, ks, ok, hks, hc, hm, h28⟩ := hV.2.1
  obtain ⟨now2, us2, ks2, hc2, hs2⟩ := hV.2.2.1
  have hu := hc.2.2.1
  obtain ⟨_, _, _, π, r4, r5, _⟩ := hc2
  refine am_in _ _ _ (am_step _ _ _ (b_X_image_0 (s_Hi_become (h := 1387) (h' := 1336) (by decide) hi_A_s hi_A_l (by omega) r4 r5 hc fun J hJ hb => ⟨rfl, am_step _ _ _ (b_X_image_11 ⟨_, rfl, _, Lg, rr, rfl, ?_, ?_⟩)⟩)))
  · rw [am_sr_off _ _ (by decide), hb 0 (by omega)]
  · generalize hJ2 : am_sr J 12 (am_u1 (J 12) 10 (nI 1)) = J2
    have jb : ∀ b, ¬ b = 12 → ¬ (1387 ≤ b ∧ b < 1438) → J2 b = I b := fun b c1 c2 => by
      rw [← hJ2, am_sr_off _ _ c1, hb b (by omega)]
    have j12 : J2 12 10 = nI 1 := by rw [← hJ2, am_sr_at, am_u1_at]
    have jc : c_H J2 rr 1387 1388 1395 1396 now us ks := by
      refine hJ.fr (fun a q => ?_) ?_ rfl
      · rw [← hJ2, am_sr_off _ _ (by omega)]
      · rw [← hJ2, am_sr_off _ _ (by omega)]
    have k2 : ∀ k, k ≤ 732 → ∀ f g, (∀ j, j < 122 → f j = I 1470 j) → (∀ j, j < k → g j = I 1489 j) → am_St 99 k_M_image (am_st J2 Lg rr n) (am_qi fun y M2 => ∃ I2 Lg2 rr2, M2 = am_st I2 Lg2 rr2 n ∧ y = nI 1 ∧ vV G I2 Lg2 rr2 n) 28 [some (.ref 1469), some (.int (nI k))] [] (am_st (am_sr (am_sr J2 1490 f) 1491 g) Lg rr n) := by
      refine lp_up _ (fun k hk ih => ?_) ?_
      · intro f g hf hg
        have eu : am_un (nI k) = k := n_un (by omega)
        refine am_step _ _ _ (b_M_image_28 ⟨fun _ => ?_, fun q => absurd (nI_lt hk (by decide)) q⟩)
        rw [eu, am_sr_at, am_sr_sr, am_sr_off _ _ (show ¬ 1489 = 1491 by decide), am_sr_off _ _ (show ¬ 1489 = 1490 by decide), jb 1489 (by decide) (by decide), nI_add]
        refine ⟨hk, hk, ih f _ hf (fun j hj => ?_)⟩
        by_cases e : j = k
        · subst e
          rw [am_u1_at]
        · rw [am_u1_off _ _ e, hg j (by omega)]
      · intro f g hf hg
        refine am_step _ _ _ (b_M_image_28 ⟨fun q => absurd q (by decide), fun _ => ⟨_, rfl, _, Lg, rr, rfl, rfl, ?_⟩⟩)
        rw [am_sr_off _ _ (show ¬ 1469 = 1491 by decide), am_sr_off _ _ (show ¬ 1469 = 1490 by decide), jb 1469 (by decide) (by decide), h28]
        have o : ∀ b, ¬ b = 1469 → ¬ b = 1490 → ¬ b = 1491 → am_sr (am_sr (am_sr J2 1490 f) 1491 g) 1469 (am_u1 (I 1469) 31 (nI us)) b = J2 b := fun b c1 c2 c3 => by
          rw [am_sr_off _ _ c1, am_sr_off _ _ c3, am_sr_off _ _ c2]
        refine hV.hist2 hG ⟨now, us, ks, ok, hks, hc.fr2 (fun b c1 c2 => ?_) rfl, ?_, ?_⟩ ⟨now, us, ks, jc.fr (fun a q => o a (by omega) (by omega) (by omega)) (by rw [o 1387 (by omega) (by omega) (by omega)]) rfl, Or.inr ⟨?_, ?_, ok, hks, ?_, fun k hk => ?_⟩⟩ (fun b c1 c2 c3 c4 c5 => ?_) (fun j c1 c2 => ?_)
        · rw [o b (by omega) (by omega) (by omega), jb b (by omega) (by omega)]
        · rw [o 1470 (by omega) (by omega) (by omega), o 1489 (by omega) (by omega) (by omega), jb 1470 (by omega) (by omega), jb 1489 (by omega) (by omega)]
          exact hm
        · rw [am_sr_at, am_u1_off _ _ (by decide), h28]
        · rw [o 12 (by omega) (by omega) (by omega), j12]
        · rw [am_sr_at, am_u1_at]
        · rw [am_sr_off _ _ (by decide), am_sr_off _ _ (by decide), am_sr_at]
          refine hm.1.of fun j hj => ?_
          rw [Nat.zero_add, hf j hj]
        · rw [am_sr_off _ _ (by decide), am_sr_at]
          refine (hm.2 k hk).of fun j hj => ?_
          exact hg _ (by omega)
        · rw [o b (by omega) (by omega) (by omega), jb b (by omega) (by omega)]
        · rw [am_sr_at, am_u1_off _ _ c2]
    have k1 : ∀ k, k ≤ 122 → ∀ f, (∀ j, j < k → f j = I 1470 j) → am_St 99 k_M_image (am_st J2 Lg rr n) (am_qi fun y M2 => ∃ I2 Lg2 rr2, M2 = am_st I2 Lg2 rr2 n ∧ y = nI 1 ∧ vV G I2 Lg2 rr2 n) 2 [some (.ref 1469), some (.int (nI k))] [] (am_st (am_sr J2 1490 f) Lg rr n) := by
      refine lp_up _ (fun k hk ih => ?_) ?_
      · intro f hf
        have eu : am_un (nI k) = k := n_un (by omega)
        refine am_step _ _ _ (b_M_image_2 ⟨fun _ => ?_, fun q => absurd (nI_lt hk (by decide)) q⟩)
        rw [eu, am_sr_at, am_sr_sr, am_sr_off _ _ (show ¬ 1470 = 1490 by decide), jb 1470 (by decide) (by decide), nI_add]
        refine ⟨hk, hk, ih _ (fun j hj => ?_)⟩
        by_cases e : j = k
        · subst e
          rw [am_u1_at]
        · rw [am_u1_off _ _ e, hf j (by omega)]
      · intro f hf
        refine am_step _ _ _ (b_M_image_2 ⟨fun q => absurd q (by decide), fun _ => ?_⟩)
        have k0 := k2 0 (by decide) f (J2 1491) hf (fun j hj => absurd hj (Nat.not_lt_zero j))
        have e9 : am_sr (am_sr J2 1490 f) 1491 (J2 1491) = am_sr J2 1490 f := by
          funext b
          by_cases e : b = 1491
          · subst e
            rw [am_sr_at, am_sr_off _ _ (by decide)]
          · rw [am_sr_off _ _ e]
        rw [e9] at k0
        exact k0
    have k0 := k1 0 (by decide) (J2 1490) (fun j hj => absurd hj (Nat.not_lt_zero j))
    rw [am_sr_id] at k0
    exact am_in _ _ _ (am_step _ _ _ (b_M_image_0 k0))
theorem op_restore (hG : g_fr G) : lw_Op (vV G) k_X_restore k_M_restore [] := by
  intro I Lg rr n hV
  obtain ⟨now, us, ks, ok, hks, hc, hm, h28⟩ := hV.2.1
  obtain ⟨now2, us2, ks2, hc2, hs2⟩ := hV.2.2.1
  rcases hs2 with ⟨s1, s2⟩ | ⟨s1, s2, ok2, hks2, hm2⟩
  · refine am_in _ _ _ (am_step _ _ _ (b_X_restore_0 ?_))
    rw [s1]
    refine ⟨fun _ => ⟨_, rfl, I, Lg, rr, rfl, rfl, am_in _ _ _ (am_step _ _ _ (b_M_restore_0 ?_))⟩, fun q => absurd rfl q⟩
    rw [s2]
    exact ⟨fun _ => ⟨_, rfl, I, Lg, rr, rfl, rfl, hV⟩, fun q => absurd (show am_k (-1) < 0 by decide) q⟩
  · have hu := hc2.2.2.1
    obtain ⟨_, _, _, π, r4, r5, _⟩ := hc
    refine am_in _ _ _ (am_step _ _ _ (b_X_restore_0 ?_))
    rw [s1]
    refine ⟨fun q => absurd q (by decide), fun _ => s_Hi_become (h := 1336) (h' := 1387) (by decide) hi_A_l hi_A_s (by omega) r4 r5 hc2 fun J hJ hb => ⟨rfl, am_step _ _ _ (b_X_restore_21 ⟨_, rfl, _, Lg, rr, rfl, hb 0 (by omega), ?_⟩)⟩⟩
    refine am_in _ _ _ (am_step _ _ _ (b_M_restore_0 ?_))
    rw [hb 1469 (by omega), s2]
    refine ⟨fun q => absurd q (show ¬ nI us2 < nI 0 from nI_nlt (Nat.zero_le _) (by omega)), fun _ => ?_⟩
    have k2 : ∀ k, k ≤ 732 → ∀ f g, (∀ j, j < 122 → f j = I 1490 j) → (∀ j, j < k → g j = I 1491 j) → am_St 99 k_M_restore (am_st J Lg rr n) (am_qi fun y M2 => ∃ I2 Lg2 rr2, M2 = am_st I2 Lg2 rr2 n ∧ y = nI 1 ∧ vV G I2 Lg2 rr2 n) 38 [some (.ref 1469), some (.int (nI k))] [] (am_st (am_sr (am_sr J 1470 f) 1489 g) Lg rr n) := by
      refine lp_up _ (fun k hk ih => ?_) ?_
      · intro f g hf hg
        have eu : am_un (nI k) = k := n_un (by omega)
        refine am_step _ _ _ (b_M_restore_38 ⟨fun _ => ?_, fun q => absurd (nI_lt hk (by decide)) q⟩)
        rw [eu, am_sr_at, am_sr_sr, am_sr_off _ _ (show ¬ 1491 = 1489 by decide), am_sr_off _ _ (show ¬ 1491 = 1470 by decide), hb 1491 (by omega), nI_add]
        refine ⟨hk, hk, ih f _ hf (fun j hj => ?_)⟩
        by_cases e : j = k
        · subst e
          rw [am_u1_at]
        · rw [am_u1_off _ _ e, hg j (by omega)]
      · intro f g hf hg
        refine am_step _ _ _ (b_M_restore_38 ⟨fun q => absurd q (by decide), fun _ => ⟨_, rfl, _, Lg, rr, rfl, rfl, ?_⟩⟩)
        rw [am_sr_off _ _ (show ¬ 1469 = 1489 by decide), am_sr_off _ _ (show ¬ 1469 = 1470 by decide), hb 1469 (by omega), s2]
        have o : ∀ b, ¬ b = 1469 → ¬ b = 1470 → ¬ b = 1489 → am_sr (am_sr (am_sr J 1470 f) 1489 g) 1469 (am_u1 (I 1469) 28 (nI us2)) b = J b := fun b c1 c2 c3 => by
          rw [am_sr_off _ _ c1, am_sr_off _ _ c3, am_sr_off _ _ c2]
        refine hV.hist2 hG ⟨now2, us2, ks2, ok2, hks2, hJ.fr2 (fun b c1 c2 => o b (by omega) (by omega) (by omega)) rfl, ⟨?_, fun k hk => ?_⟩, ?_⟩ ⟨now2, us2, ks2, hc2.fr (fun a q => ?_) ?_ rfl, Or.inr ⟨?_, ?_, ok2, hks2, ?_⟩⟩ (fun b c1 c2 c3 c4 c5 => ?_) (fun j c1 c2 => ?_)
        · rw [am_sr_off _ _ (by decide), am_sr_off _ _ (by decide), am_sr_at]
          refine hm2.1.of fun j hj => ?_
          rw [Nat.zero_add, hf j hj]
        · rw [am_sr_off _ _ (by decide), am_sr_at]
          refine (hm2.2 k hk).of fun j hj => ?_
          exact hg _ (by omega)
        · rw [am_sr_at, am_u1_at]
        · rw [o a (by omega) (by omega) (by omega), hb a (by omega)]
        · rw [o 1387 (by omega) (by omega) (by omega), hb 1387 (by omega)]
        · rw [o 12 (by omega) (by omega) (by omega), hb 12 (by omega), s1]
        · rw [am_sr_at, am_u1_off _ _ (by decide), s2]
        · rw [o 1490 (by omega) (by omega) (by omega), o 1491 (by omega) (by omega) (by omega), hb 1490 (by omega), hb 1491 (by omega)]
          exact hm2
        · rw [o b (by omega) (by omega) (by omega), hb b (by omega)]
        · rw [am_sr_at, am_u1_off _ _ c1]
    have k1 : ∀ k, k ≤ 122 → ∀ f, (∀ j, j < k → f j = I 1490 j) → am_St 99 k_M_restore (am_st J Lg rr n) (am_qi fun y M2 => ∃ I2 Lg2 rr2, M2 = am_st I2 Lg2 rr2 n ∧ y = nI 1 ∧ vV G I2 Lg2 rr2 n) 12 [some (.ref 1469), some (.int (nI k))] [] (am_st (am_sr J 1470 f) Lg rr n) := by
      refine lp_up _ (fun k hk ih => ?_) ?_
      · intro f hf
        have eu : am_un (nI k) = k := n_un (by omega)
        refine am_step _ _ _ (b_M_restore_12 ⟨fun _ => ?_, fun q => absurd (nI_lt hk (by decide)) q⟩)
        rw [eu, am_sr_at, am_sr_sr, am_sr_off _ _ (show ¬ 1490 = 1470 by decide), hb 1490 (by omega), nI_add]
        refine ⟨hk, hk, ih _ (fun j hj => ?_)⟩
        by_cases e : j = k
        · subst e
          rw [am_u1_at]
        · rw [am_u1_off _ _ e, hf j (by omega)]
      · intro f hf
        refine am_step _ _ _ (b_M_restore_12 ⟨fun q => absurd q (by decide), fun _ => ?_⟩)
        have k0 := k2 0 (by decide) f (J 1489) hf (fun j hj => absurd hj (Nat.not_lt_zero j))
        have e9 : am_sr (am_sr J 1470 f) 1489 (J 1489) = am_sr J 1470 f := by
          funext b
          by_cases e : b = 1489
          · subst e
            rw [am_sr_at, am_sr_off _ _ (by decide)]
          · rw [am_sr_off _ _ e]
        rw [e9] at k0
        exact k0
    have k0 := k1 0 (by decide) (J 1470) (fun j hj => absurd hj (Nat.not_lt_zero j))
    rw [am_sr_id] at k0
    exact k0
end BE
