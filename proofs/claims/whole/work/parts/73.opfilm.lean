/-! THE OPERATIONS film, copy -/
section FI
variable {G : (Nat → Nat → Int32) → Prop}
theorem op_film (hG : g_fr G) (a0 a1 a2 a3 : Int32) : lw_Op (vV G) k_X_film k_M_film [.int a0, .int a1, .int a2, .int a3] := by
  intro I Lg rr n hV
  obtain ⟨now, us, ks, ok, hks, hc, hm, h28⟩ := hV.2.1
  obtain ⟨la, sz, v, hS⟩ := hV.2.2.2.2.1
  have hW : sh_W I Lg la sz v := hS
  have bad : ∀ K : Option Value → am_M → Prop, (m_rng a0 0 4 = nI 0 ∨ (m_rng a0 0 4 = nI 1 ∧ (m_rng a1 0 3 = nI 0 ∨ (m_rng a1 0 3 = nI 1 ∧ m_in a2.toInt64 (lN 0) (lN 3) = nI 0)))) → K (some (.int (am_k (-1)))) (am_st I Lg rr n) → am_AC 100 k_M_film [.ref 1469, .int a0, .int a1, .int a2, .int a3] (am_st I Lg rr n) K := by
    intro K hc hK
    refine am_in _ _ _ (am_step _ _ _ (b_M_film_0 (s_isMove (by decide) ⟨_, rfl, am_step _ _ _ (b_M_film_4 ?_)⟩)))
    rcases hc with hc | ⟨hc, hc2⟩
    · rw [hc]
      exact ⟨fun _ => hK, fun q => absurd rfl q⟩
    · rw [hc]
      refine ⟨fun q => absurd q (by decide), fun _ => s_isSheet (by decide) ⟨_, rfl, am_step _ _ _ (b_M_film_11 ?_)⟩⟩
      rcases hc2 with hc2 | ⟨hc2, hc3⟩
      · rw [hc2]
        exact ⟨fun _ => hK, fun q => absurd rfl q⟩
      · rw [hc2]
        refine ⟨fun q => absurd q (by decide), fun _ => s_in (by decide) ⟨_, rfl, am_step _ _ _ (b_M_film_23 ?_)⟩⟩
        rw [hc3]
        exact ⟨fun _ => hK, fun q => absurd rfl q⟩
  rcases rng_cases a0 (N := 5) (by decide) (by decide) with ⟨m, m1, rfl, m3, m4, m5⟩ | ⟨m3, m4, m5⟩
  · have em : am_un (nI m) = m := n_un (by omega)
    have hf := (ok.1 m m1).1
    rcases lane_cases a1 a2 with ⟨s, l, s1, l1, rfl, rfl, c3, c4, c5⟩ | ⟨c3, c4⟩
    · have hT := hW.T s1
      have t1 := hT.1
      refine am_in _ _ _ (am_step _ _ _ (b_X_film_0 (s_isOutside (by decide) ⟨_, rfl, am_step _ _ _ (b_X_film_5 ?_)⟩)))
      rw [m3]
      refine ⟨fun _ => s_isNoLane (by decide) ⟨_, rfl, am_step _ _ _ (b_X_film_13 ?_)⟩, fun q => absurd rfl q⟩
      rw [c3]
      refine ⟨fun _ => s_fault (by decide) s1 l1 (by decide) hT ⟨_, rfl, am_step _ _ _ (b_X_film_31 ?_)⟩, fun q => absurd rfl q⟩
      have mdl : ∀ Lg, ∀ K : Option Value → am_M → Prop, (¬ g_fa (la s) (sz s) l a3 24 = 0 → K (some (.int (g_fa (la s) (sz s) l a3 24))) (am_st I Lg rr n)) → (g_fa (la s) (sz s) l a3 24 = 0 → ∀ i, a3 = nI i → i + 24 ≤ sz s → ∀ g, (∀ j, g j = if 32 * s + i ≤ j ∧ j < 32 * s + i + 24 then (nI (now.1 m (j - (32 * s + i)))).toInt64 else Lg 1494 j) → K (some (.int (nI 24))) (am_st I (am_sr Lg 1494 g) rr n)) → am_AC 100 k_M_film [.ref 1469, .int (nI m), .int (nI s), .int (nI l), .int a3] (am_st I Lg rr n) K := by
        intro Lg K h1 h2
        refine am_in _ _ _ (am_step _ _ _ (b_M_film_0 (s_isMove (by decide) ⟨_, rfl, am_step _ _ _ (b_M_film_4 ?_)⟩)))
        rw [m4]
        refine ⟨fun q => absurd q (by decide), fun _ => s_isSheet (by decide) ⟨_, rfl, am_step _ _ _ (b_M_film_11 ?_)⟩⟩
        rw [c4]
        refine ⟨fun q => absurd q (by decide), fun _ => s_in (by decide) ⟨_, rfl, am_step _ _ _ (b_M_film_23 ?_)⟩⟩
        rw [c5]
        refine ⟨fun q => absurd q (by decide), fun _ => s_why (by decide) s1 l1 (by decide) hT ⟨_, rfl, am_step _ _ _ (b_M_film_38 ?_)⟩⟩
        rcases fa_cases (la s) (sz s) l a3 24 with ⟨f1, f2, i, rfl, f3⟩ | ⟨f1, f2⟩
        · rw [f1]
          refine ⟨fun q => absurd q (by decide), fun _ => ?_⟩
          have key : ∀ p, p ≤ 24 → ∀ g, (∀ j, g j = if 32 * s + i ≤ j ∧ j < 32 * s + i + p then (nI (now.1 m (j - (32 * s + i)))).toInt64 else Lg 1494 j) → am_St 99 k_M_film (am_st I Lg rr n) K 51 [some (.ref 1469), some (.int (nI m)), some (.int (nI s)), some (.int (nI l)), some (.int (nI i)), some (.int (nI 0)), some (.int (nI p))] [] (am_st I (am_sr Lg 1494 g) rr n) := by
            refine lp_up _ (fun p hp ih => ?_) ?_
            · intro g hg
              refine am_step _ _ _ (b_M_film_51 ⟨fun _ => s_Mto (by decide) m1 hp (now_m hm.1 m1 p hp) ⟨_, rfl, am_step _ _ _ (b_M_film_79 ?_)⟩, fun q => absurd (nI_lt hp (by decide)) q⟩)
              have ei : am_un (nI 32 * nI s + nI i + nI p) = 32 * s + i + p := by
                rw [pk_mul, nI_add, nI_add]
                exact n_un (by omega)
              rw [ei, am_sr_at, am_sr_sr, nI_add]
              refine ⟨by omega, ih _ (fun j => ?_)⟩
              by_cases e : j = 32 * s + i + p
              · subst e
                rw [am_u1_at, if_pos (by omega), show 32 * s + i + p - (32 * s + i) = p by omega]
              · rw [am_u1_off _ _ e, hg j]
                by_cases e2 : 32 * s + i ≤ j ∧ j < 32 * s + i + p
                · rw [if_pos e2, if_pos (by omega)]
                · rw [if_neg e2, if_neg (by omega)]
            · intro g hg
              exact am_step _ _ _ (b_M_film_51 ⟨fun q => absurd q (by decide), fun _ => h2 f1 i rfl f3 g hg⟩)
          have k0 := key 0 (by decide) (Lg 1494) (fun j => by rw [if_neg (by omega)])
          rw [am_sr_id] at k0
          exact k0
        · exact ⟨fun _ => h1 f1, fun q => absurd f2 q⟩
      rcases fa_cases (la s) (sz s) l a3 24 with ⟨f1, f2, i, rfl, f3⟩ | ⟨f1, f2⟩
      · rw [f1]
        refine ⟨fun _ => ?_, fun q => absurd rfl q⟩
        have key : ∀ p, p ≤ 24 → ∀ g, (∀ j, g j = if i ≤ j ∧ j < i + p then (nI (now.1 m (j - i))).toInt64 else Lg (1459 + s) j) → am_St 99 k_X_film (am_st I Lg rr n) (am_qi fun x M1 => ∃ I1 Lg1 rr1, M1 = am_st I1 Lg1 rr1 n ∧ I1 0 = I 0 ∧ am_AC 100 k_M_film [.ref 1469, .int (nI m), .int (nI s), .int (nI l), .int (nI i)] M1 (am_qi fun y M2 => ∃ I2 Lg2 rr2, M2 = am_st I2 Lg2 rr2 n ∧ y = x ∧ vV G I2 Lg2 rr2 n)) 44 [some (.ref 12), some (.int (nI m)), some (.int (nI s)), some (.int (nI l)), some (.int (nI i)), some (.int (nI 0)), some (.int (nI p))] [] (am_st I (am_sr Lg (1459 + s) g) rr n) := by
          refine lp_up _ (fun p hp ih => ?_) ?_
          · intro g hg
            have ep : am_un (nI p) = p := n_un (by omega)
            have ro := ro_now m1
            refine am_step _ _ _ (b_X_film_44 ⟨fun _ => ?_, fun q => absurd (nI_lt hp (by decide)) q⟩)
            rw [em, ep]
            refine ⟨m1, am_obi (RR_now rr m m1) (am_gi (oS_ro ro) ?_)⟩
            rw [ro.n, now_x hc.1 m1 p hp, nI_add]
            refine ⟨hp, s_put (by decide) s1 hT (by omega) (show i + p < sz s by omega) ⟨rfl, am_step _ _ _ (b_X_film_80 ?_)⟩⟩
            rw [am_sr_at, am_sr_sr, nI_add, f2, ct_small l l1 _ (hf p hp)]
            refine ih _ (fun j => ?_)
            by_cases e : j = i + p
            · subst e
              rw [am_u1_at, if_pos (by omega), show i + p - i = p by omega]
            · rw [am_u1_off _ _ e, hg j]
              by_cases e2 : i ≤ j ∧ j < i + p
              · rw [if_pos e2, if_pos (by omega)]
              · rw [if_neg e2, if_neg (by omega)]
          · intro g hg
            refine am_step _ _ _ (b_X_film_44 ⟨fun q => absurd q (by decide), fun _ => ⟨_, rfl, I, _, rr, rfl, rfl, mdl _ _ (fun q => absurd f1 q) (fun _ i2 e2 e3 g2 hg2 => ?_)⟩⟩)
            rw [nI_eq (by omega) (by omega)] at e2
            subst e2
            refine ⟨_, rfl, _, _, rr, rfl, rfl, hV.sh hG (vSh.lg (s := s) (w := fun j => if i ≤ j ∧ j < i + 24 then (nI (now.1 m (j - i))).toInt64 else v s j) hW (fun x hx hne j hj => ⟨?_, ?_⟩) (fun j hj => ⟨?_, ?_⟩)) (fun _ _ _ _ _ => rfl)⟩
            · rw [am_sr_off _ _ (by omega), am_sr_off _ _ (by omega)]
            · rw [am_sr_at, hg2, if_neg (by omega), am_sr_off _ _ (by omega)]
            · rw [am_sr_off _ _ (by omega), am_sr_at, hg]
              rw [((hW s s1).2.2.2.1 j hj).1]
            · rw [am_sr_at, hg2, am_sr_off _ _ (show ¬ 1494 = 1459 + s by omega)]
              rw [((hW s s1).2.2.2.1 j hj).2]
              by_cases e2 : i ≤ j ∧ j < i + 24
              · rw [if_pos e2, if_pos (by omega), show 32 * s + j - (32 * s + i) = j - i by omega]
              · rw [if_neg e2, if_neg (by omega)]
        have k0 := key 0 (by decide) (Lg (1459 + s)) (fun j => by rw [if_neg (by omega)])
        rw [am_sr_id] at k0
        exact k0
      · exact ⟨fun q => absurd q f1, fun _ => ⟨_, rfl, I, Lg, rr, rfl, rfl, mdl Lg _ (fun _ => ⟨_, rfl, I, Lg, rr, rfl, rfl, hV⟩) (fun q => absurd q f1)⟩⟩
    · refine am_in _ _ _ (am_step _ _ _ (b_X_film_0 (s_isOutside (by decide) ⟨_, rfl, am_step _ _ _ (b_X_film_5 ?_)⟩)))
      rw [m3]
      refine ⟨fun _ => s_isNoLane (by decide) ⟨_, rfl, am_step _ _ _ (b_X_film_13 ?_)⟩, fun q => absurd rfl q⟩
      rw [c3]
      exact ⟨fun q => absurd q (by decide), fun _ => ⟨_, rfl, I, Lg, rr, rfl, rfl, bad _ (Or.inr ⟨m4, c4⟩) ⟨_, rfl, I, Lg, rr, rfl, rfl, hV⟩⟩⟩
  · refine am_in _ _ _ (am_step _ _ _ (b_X_film_0 (s_isOutside (by decide) ⟨_, rfl, am_step _ _ _ (b_X_film_5 ?_)⟩)))
    rw [m3]
    exact ⟨fun q => absurd q (by decide), fun _ => ⟨_, rfl, I, Lg, rr, rfl, rfl, bad _ (Or.inl m4) ⟨_, rfl, I, Lg, rr, rfl, rfl, hV⟩⟩⟩
end FI
