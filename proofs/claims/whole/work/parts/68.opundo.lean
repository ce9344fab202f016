/-! THE MODEL KEEPS ITS STATE; the operations undo, choose -/
section NT
variable {d : Nat} {K : Option Value → am_M → Prop} {I : Nat → Nat → Int32} {Lg : Nat → Nat → Int64} {rr : Nat → Nat → Option Nat} {n : Nat} {M0 : am_M} {G : (Nat → Nat → Int32) → Prop}
theorem m_S.of {f g : Nat → Int32} {o o' : Nat} {S : a_S} (h : m_S f o S) (hk : ∀ j, j < 122 → g (o' + j) = f (o + j)) : m_S g o' S := by
  obtain ⟨h1, h2, h3⟩ := h
  exact ⟨fun m hm p hp => by rw [hk _ (by omega), h1 m hm p hp], by rw [hk _ (by omega), h2], by rw [hk _ (by omega), h3]⟩
theorem s_notes47 {us : Nat} {f : Nat → Int32} (hu : us < 6) (h28 : I 1469 28 = nI us) (h : ∀ g, (∀ j, g j = if 122 * us ≤ j ∧ j < 122 * us + 122 then I 1470 (j - 122 * us) else f j) → am_R k_M_notes M0 K none (am_st (am_sr (am_sr I 1489 g) 1469 (am_u1 (I 1469) 28 (nI (us + 1)))) Lg rr n)) : am_St d k_M_notes M0 K 47 [some (.ref 1469), some (.int (nI 0))] [] (am_st (am_sr I 1489 f) Lg rr n) := by
  have key : ∀ k, k ≤ 122 → ∀ g, (∀ j, g j = if 122 * us ≤ j ∧ j < 122 * us + k then I 1470 (j - 122 * us) else f j) → am_St d k_M_notes M0 K 47 [some (.ref 1469), some (.int (nI k))] [] (am_st (am_sr I 1489 g) Lg rr n) := by
    refine lp_up _ (fun k hk ih => ?_) ?_
    · intro g hg
      have eu : am_un (nI k) = k := n_un (by omega)
      have e28 : am_sr I 1489 g 1469 28 = nI us := by rw [am_sr_off _ _ (by decide), h28]
      have ei : am_un (nI 122 * nI us + nI k) = 122 * us + k := by
        rw [pk_mul, nI_add]
        exact n_un (by omega)
      refine am_step _ _ _ (b_M_notes_47 ⟨fun _ => ?_, fun q => absurd (nI_lt hk (by decide)) q⟩)
      rw [e28, ei, eu, am_sr_off _ _ (show ¬ 1470 = 1489 by decide), am_sr_at, am_sr_sr, nI_add]
      refine ⟨hk, by omega, ih _ (fun j => ?_)⟩
      by_cases e : j = 122 * us + k
      · subst e
        rw [am_u1_at, if_pos (by omega), show 122 * us + k - 122 * us = k by omega]
      · rw [am_u1_off _ _ e, hg j]
        by_cases e2 : 122 * us ≤ j ∧ j < 122 * us + k
        · rw [if_pos e2, if_pos (by omega)]
        · rw [if_neg e2, if_neg (by omega)]
    · intro g hg
      have e28 : am_sr I 1489 g 1469 28 = nI us := by rw [am_sr_off _ _ (by decide), h28]
      refine am_step _ _ _ (b_M_notes_47 ⟨fun q => absurd q (by decide), fun _ => ?_⟩)
      rw [e28, am_sr_off _ _ (show ¬ 1469 = 1489 by decide), nI_add]
      exact h g hg
  exact key 0 (by decide) f (fun j => by rw [if_neg (by omega)])
theorem s_notes {now : a_S} {us : Nat} {ks : Nat → a_S} (hd : 1 ≤ d) (hu : us ≤ 6) (hm : m_H (I 1470) (I 1489) now us ks) (h28 : I 1469 28 = nI us) (h : ∀ J, m_H (J 1470) (J 1489) now (g_ku us) (g_kk us now ks) → J 1469 28 = nI (g_ku us) → (∀ j, ¬ j = 28 → J 1469 j = I 1469 j) → (∀ b, ¬ b = 1489 → ¬ b = 1469 → J b = I b) → K none (am_st J Lg rr n)) : am_AC d k_M_notes [.ref 1469] (am_st I Lg rr n) K := by
  obtain ⟨d, rfl, hd1⟩ := s_up hd
  by_cases e : us = 6
  · subst e
    have key : ∀ q, q ≤ 610 → ∀ f, (∀ j, f j = if j < q then I 1489 (j + 122) else I 1489 j) → am_St d k_M_notes (am_st I Lg rr n) K 12 [some (.ref 1469), some (.int (nI (q + 122)))] [] (am_st (am_sr I 1489 f) Lg rr n) := by
      refine lp_up _ (fun q hq ih => ?_) ?_
      · intro f hf
        have eu : am_un (nI (q + 122)) = q + 122 := n_un (by omega)
        have eu2 : am_un (nI (q + 122) - nI 122) = q := by
          rw [pk_sub (by omega), Nat.add_sub_cancel]
          exact n_un (by omega)
        refine am_step _ _ _ (b_M_notes_12 ⟨fun _ => ?_, fun q2 => absurd (nI_lt (show q + 122 < 732 by omega) (by decide)) q2⟩)
        rw [eu, eu2, am_sr_at, am_sr_sr, nI_add]
        refine ⟨by omega, by omega, ?_⟩
        rw [show q + 122 + 1 = q + 1 + 122 by omega]
        refine ih _ (fun j => ?_)
        by_cases e : j = q
        · subst e
          rw [am_u1_at, if_pos (by omega), hf, if_neg (by omega)]
        · rw [am_u1_off _ _ e, hf j]
          by_cases e2 : j < q
          · rw [if_pos e2, if_pos (by omega)]
          · rw [if_neg e2, if_neg (by omega)]
      · intro f hf
        refine am_step _ _ _ (b_M_notes_12 ⟨fun q => absurd q (by decide), fun _ => ?_⟩)
        rw [am_sr_off _ _ (show ¬ 1469 = 1489 by decide)]
        have sw : am_sr (am_sr I 1489 f) 1469 (am_u1 (I 1469) 28 (nI 5)) = am_sr (am_sr I 1469 (am_u1 (I 1469) 28 (nI 5))) 1489 f := by
          funext b
          by_cases e1 : b = 1469
          · subst e1
            rw [am_sr_at, am_sr_off _ _ (by decide), am_sr_at]
          · rw [am_sr_off _ _ e1]
            by_cases e2 : b = 1489
            · subst e2
              rw [am_sr_at, am_sr_at]
            · rw [am_sr_off _ _ e2, am_sr_off _ _ e2, am_sr_off _ _ e1]
        rw [sw]
        refine s_notes47 (us := 5) (by decide) (by rw [am_sr_at, am_u1_at]) (fun g hg => ?_)
        refine h _ ⟨?_, fun k hk => ?_⟩ ?_ (fun j hj => ?_) (fun b b1 b2 => ?_)
        · refine hm.1.of fun j hj => ?_
          rw [am_sr_off _ _ (by decide), am_sr_off _ _ (by decide), am_sr_off _ _ (by decide)]
        · have hk6 : k < 6 := hk
          rw [am_sr_off _ _ (by decide), am_sr_at]
          show m_S g (122 * k) (if k = 5 then now else ks (k + 1))
          by_cases e1 : k = 5
          · subst e1
            rw [if_pos rfl]
            refine hm.1.of fun j hj => ?_
            rw [hg, if_pos (by omega), am_sr_off _ _ (by decide), show 122 * 5 + j - 122 * 5 = 0 + j by omega]
          · rw [if_neg e1]
            refine (hm.2 (k + 1) (by omega)).of fun j hj => ?_
            rw [hg, if_neg (by omega), hf, if_pos (by omega)]
            congr 1
            omega
        · rw [am_sr_at, am_u1_at]
          rfl
        · rw [am_sr_at, am_sr_at, am_u1_off _ _ hj, am_u1_off _ _ hj]
        · rw [am_sr_off _ _ b2, am_sr_off _ _ b1, am_sr_off _ _ b2]
    refine am_in _ _ _ (am_step _ _ _ (b_M_notes_0 ⟨fun _ => ?_, fun q => absurd h28 q⟩))
    have k0 := key 0 (by decide) (I 1489) (fun j => by rw [if_neg (Nat.not_lt_zero j)])
    rw [am_sr_id] at k0
    exact k0
  · have e2 : g_ku us = us + 1 := if_neg e
    have e3 : g_kk us now ks = fun k => if k = us then now else ks k := funext fun k => if_neg e
    refine am_in _ _ _ (am_step _ _ _ (b_M_notes_0 ⟨fun q => ?_, fun _ => ?_⟩))
    · rw [h28, nI_eq (by omega) (by decide)] at q
      exact absurd q e
    · have k0 := s_notes47 (d := d) (M0 := am_st I Lg rr n) (K := K) (Lg := Lg) (rr := rr) (n := n) (us := us) (f := I 1489) (by omega) h28 (fun g hg => ?_)
      · rw [am_sr_id] at k0
        exact k0
      · refine h _ ⟨?_, fun k hk => ?_⟩ ?_ (fun j hj => ?_) (fun b b1 b2 => ?_)
        · refine hm.1.of fun j hj => ?_
          rw [am_sr_off _ _ (by decide), am_sr_off _ _ (by decide)]
        · rw [e2] at hk
          rw [e3, am_sr_off _ _ (by decide), am_sr_at]
          dsimp only
          by_cases e1 : k = us
          · subst e1
            rw [if_pos rfl]
            refine hm.1.of fun j hj => ?_
            rw [hg, if_pos (by omega)]
            congr 1
            omega
          · rw [if_neg e1]
            refine (hm.2 k (by omega)).of fun j hj => ?_
            rw [hg, if_neg (by omega)]
        · rw [am_sr_at, am_u1_at, e2]
        · rw [am_sr_at, am_u1_off _ _ hj]
        · rw [am_sr_off _ _ b2, am_sr_off _ _ b1]
/-- V when states and what can be undone changed -/
theorem vV.hist {I I' : Nat → Nat → Int32} {Lg : Nat → Nat → Int64} {rr rr' : Nat → Nat → Option Nat} {n : Nat} (hG : g_fr G) (h : vV G I Lg rr n) (hs : vSt I' rr') (hk : ∀ b, ¬ (1336 ≤ b ∧ b ≤ 1386) → ¬ b = 1469 → ¬ b = 1470 → ¬ b = 1489 → I' b = I b) (h68 : ∀ j, ¬ j = 28 → I' 1469 j = I 1469 j) (hr : ∀ b, ¬ b = 1344 → rr' b = rr b) : vV G I' Lg rr' n := by
  obtain ⟨h1, h2, h3, h4, h5, h6⟩ := h
  have k : ∀ b, ¬ (1336 ≤ b ∧ b ≤ 1386) ∧ ¬ b = 1469 ∧ ¬ b = 1470 ∧ ¬ b = 1489 → I' b = I b := fun b q => hk b q.1 q.2.1 q.2.2.1 q.2.2.2
  exact ⟨h1.fr (fun b b1 b2 => k b (by omega)) (fun b b1 b2 => k b (by omega)) (h68 _ (by decide)), hs, h3.fr (fun b b1 b2 => k b (by omega)) (by rw [k 12 (by omega)]) (k _ (by omega)) (k _ (by omega)) (h68 _ (by decide)) (hr _ (by decide)), h4.fr (by rw [k 1438 (by omega)]) (h68 _ (by decide)) (k _ (by omega)) (k _ (by omega)), h5.fr (k _ (by omega)) (k _ (by omega)) (k _ (by omega)) (k _ (by omega)) (fun _ _ => rfl) rfl, hG I I' (fun b hb => k b (by omega)) (h68 _ (by decide)) (h68 _ (by decide)) (h68 _ (by decide)) h6⟩
theorem c_H.fr2 {I I' : Nat → Nat → Int32} {rr rr' : Nat → Nat → Option Nat} {now : a_S} {us : Nat} {ks : Nat → a_S} (q : c_H I rr 1336 1337 1344 1345 now us ks) (hk : ∀ b, 1336 ≤ b → b ≤ 1386 → I' b = I b) (hr : rr' 1344 = rr 1344) : c_H I' rr' 1336 1337 1344 1345 now us ks := q.fr (fun a h => hk a (by omega) (by omega)) (by rw [hk 1336 (by decide) (by decide)]) hr
theorem op_undo (hG : g_fr G) : lw_Op (vV G) k_X_undo k_M_undo [] := by
  intro I Lg rr n hV
  obtain ⟨now, us, ks, ok, hks, hc, hm, h28⟩ := hV.2.1
  have hu := hc.2.2.1
  refine am_in _ _ _ (am_step _ _ _ (b_X_undo_0 (s_takeBack (by decide) hc (fun h0 => ?_) (fun h0 J hJ hb => ?_))))
  · refine ⟨_, rfl, am_step _ _ _ (b_X_undo_7 ⟨_, rfl, I, Lg, rr, rfl, rfl, am_in _ _ _ (am_step _ _ _ (b_M_undo_0 ⟨fun _ => ⟨_, rfl, I, Lg, rr, rfl, rfl, hV⟩, fun q => ?_⟩))⟩)⟩
    rw [h28, h0] at q
    exact absurd rfl q
  · refine ⟨_, rfl, am_step _ _ _ (b_X_undo_7 ⟨_, rfl, J, Lg, rr, rfl, hb 0 (by omega), am_in _ _ _ (am_step _ _ _ (b_M_undo_0 ⟨fun q => ?_, fun _ => ?_⟩))⟩)⟩
    · rw [hb 1469 (by omega), h28] at q
      have : nI us = nI 0 := q
      rw [nI_eq (by omega) (by decide)] at this
      omega
    · have e68 : J 1469 = I 1469 := hb 1469 (by omega)
      rw [e68, h28, pk_sub (by omega)]
      have key : ∀ k, k ≤ 122 → ∀ f, (∀ j, j < k → f j = I 1489 (122 * (us - 1) + j)) → am_St 99 k_M_undo (am_st J Lg rr n) (am_qi fun y M2 => ∃ I2 Lg2 rr2, M2 = am_st I2 Lg2 rr2 n ∧ y = nI (us - 1) ∧ vV G I2 Lg2 rr2 n) 22 [some (.ref 1469), some (.int (nI k))] [] (am_st (am_sr (am_sr J 1469 (am_u1 (I 1469) 28 (nI (us - 1)))) 1470 f) Lg rr n) := by
        refine lp_up _ (fun k hk ih => ?_) ?_
        · intro f hf
          have eu : am_un (nI k) = k := n_un (by omega)
          have e28 : am_sr (am_sr J 1469 (am_u1 (I 1469) 28 (nI (us - 1)))) 1470 f 1469 28 = nI (us - 1) := by
            rw [am_sr_off _ _ (by decide), am_sr_at, am_u1_at]
          have ei : am_un (nI 122 * nI (us - 1) + nI k) = 122 * (us - 1) + k := by
            rw [pk_mul, nI_add]
            exact n_un (by omega)
          refine am_step _ _ _ (b_M_undo_22 ⟨fun _ => ?_, fun q => absurd (nI_lt hk (by decide)) q⟩)
          rw [e28, ei, eu, am_sr_at, am_sr_sr, am_sr_off _ _ (show ¬ 1489 = 1470 by decide), am_sr_off _ _ (show ¬ 1489 = 1469 by decide), nI_add, hb 1489 (by omega)]
          refine ⟨by omega, hk, ih _ (fun j hj => ?_)⟩
          by_cases e : j = k
          · subst e
            rw [am_u1_at]
          · rw [am_u1_off _ _ e, hf j (by omega)]
        · intro f hf
          have e28 : am_sr (am_sr J 1469 (am_u1 (I 1469) 28 (nI (us - 1)))) 1470 f 1469 28 = nI (us - 1) := by
            rw [am_sr_off _ _ (by decide), am_sr_at, am_u1_at]
          refine am_step _ _ _ (b_M_undo_22 ⟨fun q => absurd q (by decide), fun _ => ?_⟩)
          rw [e28]
          refine ⟨_, rfl, _, Lg, rr, rfl, rfl, hV.hist hG ⟨ks (us - 1), us - 1, ks, hks _ (by omega), fun k hk => hks k (by omega), hJ.fr2 (fun b b1 b2 => ?_) rfl, ⟨?_, fun k hk => ?_⟩, e28⟩ (fun b b1 b2 b3 b4 => ?_) (fun j hj => ?_) fun _ _ => rfl⟩
          · rw [am_sr_off _ _ (by omega), am_sr_off _ _ (by omega)]
          · rw [am_sr_at]
            refine (hm.2 (us - 1) (by omega)).of fun j hj => ?_
            rw [Nat.zero_add, hf j hj]
          · rw [am_sr_off _ _ (by decide), am_sr_off _ _ (by decide), hb 1489 (by omega)]
            exact hm.2 k (by omega)
          · rw [am_sr_off _ _ b3, am_sr_off _ _ b2, hb b (by omega)]
          · rw [am_sr_off _ _ (by decide), am_sr_at, am_u1_off _ _ hj]
      have k0 := key 0 (by decide) (J 1470) (fun j hj => absurd hj (Nat.not_lt_zero j))
      have e9 : am_sr (am_sr J 1469 (am_u1 (I 1469) 28 (nI (us - 1)))) 1470 (J 1470) = am_sr J 1469 (am_u1 (I 1469) 28 (nI (us - 1))) := by
        funext b
        by_cases e : b = 1470
        · subst e
          rw [am_sr_at, am_sr_off _ _ (by decide)]
        · rw [am_sr_off _ _ e]
      rw [e9] at k0
      exact k0
end NT
