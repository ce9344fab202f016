/-! THE OPERATIONS complete, hexad, pair -/
section OW
variable {d : Nat} {K : Option Value → am_M → Prop} {I : Nat → Nat → Int32} {Lg : Nat → Nat → Int64} {rr : Nat → Nat → Option Nat} {n : Nat} {G : (Nat → Nat → Int32) → Prop}
theorem s_Xrest {s : Nat} (hd : 2 ≤ d) (hT : vT I) (hs : s < 2 ^ 24) (h : K (some (.int (nI (g_r s)))) (am_st I Lg rr n)) : am_AC d k_Go_rest [.ref 19, .int (nI s)] (am_st I Lg rr n) K := s_rest (W := g_w) hd (by omega) (by decide) rfl hT.2.1.1 h
theorem five_ex {s : Nat} (hT : vT I) (hs : s < 2 ^ 24) (h5 : pcn s = 5) : ∃ o, g_io o ∧ g_sub s o := by
  obtain ⟨L, l1, l2⟩ := hT.2.1.2.2.2.1 (g_r s) (g_r_lt s)
  exact ⟨_, io_five hs h5 l2⟩
theorem s_octadWith {s : Nat} (hd : 3 ≤ d) (hT : vT I) (hs : s < 2 ^ 24) (h5 : pcn s = 5) (h : ∀ o, g_io o → g_sub s o → K (some (.int (nI o))) (am_st I Lg rr n)) : am_AC d k_Go_octadWith [.ref 19, .int (nI s)] (am_st I Lg rr n) K := by
  obtain ⟨d, rfl, hd1⟩ := s_up hd
  obtain ⟨L, l1, l2⟩ := hT.2.1.2.2.2.1 (g_r s) (g_r_lt s)
  obtain ⟨q1, q2⟩ := io_five hs h5 l2
  have rl := g_r_lt s
  refine am_in _ _ _ (am_step _ _ _ (b_Go_octadWith_0 (s_Xrest hd1 hT hs ⟨_, rfl, am_step _ _ _ (b_Go_octadWith_10 ?_)⟩)))
  rw [n_un (by omega), l1, n_xor]
  exact ⟨rl, h _ q1 q2⟩
theorem io_lt {o : Nat} (h : g_io o) : o < 2 ^ 24 := isw_lt h.1
theorem s_octadOf {s : Nat} (hd : 1 ≤ d) (hT : vT I) (hs : s < 2 ^ 24) (h5 : pcn s = 5) (h : ∀ o, g_io o → g_sub s o → K (some (.int (nI o))) (am_st I Lg rr n)) : am_AC d k_M_octadOf [.ref 1469, .int (nI s)] (am_st I Lg rr n) K := by
  obtain ⟨d, rfl, hd1⟩ := s_up hd
  obtain ⟨o, o1, o2⟩ := five_ex hT hs h5
  obtain ⟨j, j1, j2⟩ := io_oct o1
  have hO := hT.2.2.2.2.2.2
  have key : ∀ k, k ≤ 758 → k ≤ j → am_St d k_M_octadOf (am_st I Lg rr n) K 2 [some (.ref 1469), some (.int (nI s)), some (.int (nI k))] [] (am_st I Lg rr n) := by
    refine lp_up _ (fun k hk ih => ?_) ?_
    · intro hkj
      have eu : am_un (nI k) = k := n_un (by omega)
      have eo : I 1474 k = nI (g_oct k) := hO k (by omega)
      have ol := oct_lt (j := k) (by omega)
      refine am_step _ _ _ (b_M_octadOf_2 ⟨fun _ => ?_, fun q => absurd (nI_lt hk (by decide)) q⟩)
      rw [eu, eo, nI_add]
      refine ⟨by omega, fun q => ⟨by omega, ?_⟩, fun q => ?_⟩
      · rw [n_diff hs ol] at q
        exact h _ (oct_io (by omega)) q
      · rw [n_diff hs ol] at q
        have : ¬ k = j := fun e => q (by rw [e, j2]; exact o2)
        exact ih (by omega)
    · intro hkj
      have : j = 758 := by omega
      subst this
      refine am_step _ _ _ (b_M_octadOf_2 ⟨fun q => absurd q (by decide), fun _ => ⟨by decide, ?_⟩⟩)
      rw [show I 1474 (am_un (nI 758)) = nI (g_oct 758) from hO 758 (by decide)]
      exact h _ (oct_io (by decide)) (by rw [j2]; exact o2)
  exact am_in _ _ _ (am_step _ _ _ (b_M_octadOf_0 (key 0 (by decide) (Nat.zero_le _))))
theorem op_complete (a0 : Int32) : lw_Op (vV G) k_X_complete k_M_complete [.int a0] := by
  refine op_pure fun I Lg rr n hV => ?_
  have hT := hV.1
  rcases set_cases a0 with ⟨s, s1, rfl, s3, s4⟩ | ⟨s3, s4⟩
  · have pl := pcn_le 24 _ s1
    by_cases h5 : pcn s = 5
    · obtain ⟨o, o1, o2⟩ := five_ex hT s1 h5
      have uni : ∀ o', g_io o' → g_sub s o' → o' = o := fun o' q1 q2 => io_uni q1 o1 q2 o2 (by omega)
      refine ⟨nI o, fun K hK => am_in _ _ _ (am_step _ _ _ (b_X_complete_0 (s_isNoSet (by decide) ⟨_, rfl, am_step _ _ _ (b_X_complete_4 ?_)⟩))), fun K hK => am_in _ _ _ (am_step _ _ _ (b_M_complete_0 (s_isSet (by decide) ⟨_, rfl, am_step _ _ _ (b_M_complete_4 ?_)⟩)))⟩
      · rw [s3]
        refine ⟨fun _ => s_bitCount (by decide) s1 ⟨_, rfl, am_step _ _ _ (b_X_complete_13 ?_)⟩, fun q => absurd rfl q⟩
        rw [h5]
        exact ⟨fun _ => s_octadWith (by decide) hT s1 h5 fun o' q1 q2 => ⟨_, rfl, am_step _ _ _ (b_X_complete_25 (by rw [uni o' q1 q2]; exact hK))⟩, fun q => absurd rfl q⟩
      · rw [s4]
        refine ⟨fun q => absurd q (by decide), fun _ => s_bits (by decide) (by omega) ⟨_, rfl, am_step _ _ _ (b_M_complete_15 ?_)⟩⟩
        rw [h5]
        exact ⟨fun _ => s_octadOf (by decide) hT s1 h5 fun o' q1 q2 => ⟨_, rfl, am_step _ _ _ (b_M_complete_29 (by rw [uni o' q1 q2]; exact hK))⟩, fun q => absurd rfl q⟩
    · refine ⟨am_k (-2), fun K hK => am_in _ _ _ (am_step _ _ _ (b_X_complete_0 (s_isNoSet (by decide) ⟨_, rfl, am_step _ _ _ (b_X_complete_4 ?_)⟩))), fun K hK => am_in _ _ _ (am_step _ _ _ (b_M_complete_0 (s_isSet (by decide) ⟨_, rfl, am_step _ _ _ (b_M_complete_4 ?_)⟩)))⟩
      · rw [s3]
        refine ⟨fun _ => s_bitCount (by decide) s1 ⟨_, rfl, am_step _ _ _ (b_X_complete_13 ⟨fun q => ?_, fun _ => hK⟩)⟩, fun q => absurd rfl q⟩
        rw [nI_eq (by omega) (by decide)] at q
        exact absurd q h5
      · rw [s4]
        refine ⟨fun q => absurd q (by decide), fun _ => s_bits (by decide) (by omega) ⟨_, rfl, am_step _ _ _ (b_M_complete_15 ⟨fun q => ?_, fun _ => am_step _ _ _ (b_M_complete_29 hK)⟩)⟩⟩
        rw [nI_eq (by omega) (by decide)] at q
        exact absurd q h5
  · refine ⟨am_k (-1), fun K hK => am_in _ _ _ (am_step _ _ _ (b_X_complete_0 (s_isNoSet (by decide) ⟨_, rfl, am_step _ _ _ (b_X_complete_4 ?_)⟩))), fun K hK => am_in _ _ _ (am_step _ _ _ (b_M_complete_0 (s_isSet (by decide) ⟨_, rfl, am_step _ _ _ (b_M_complete_4 ?_)⟩)))⟩
    · rw [s3]
      exact ⟨fun q => absurd q (by decide), fun _ => hK⟩
    · rw [s4]
      exact ⟨fun _ => am_step _ _ _ (b_M_complete_29 hK), fun q => absurd rfl q⟩
theorem op_hexad (a0 : Int32) : lw_Op (vV G) k_X_hexad k_M_hexad [.int a0] := by
  refine op_pure fun I Lg rr n hV => ?_
  have hT := hV.1
  obtain ⟨now, us, ks, ok, hks, hc, hm, h28⟩ := hV.2.1
  have cl := dd_lt ok.2.1
  have em : I 1470 (am_un (nI 120)) = nI now.2.1 := hm.1.2.1
  have ec : I 1337 1 = nI now.2.1 := hc.1.2.1
  rcases set_cases a0 with ⟨s, s1, rfl, s3, s4⟩ | ⟨s3, s4⟩
  · have pl := pcn_le 24 _ s1
    by_cases h5 : pcn s = 5 ∧ g_sub s now.2.1
    · obtain ⟨h5, hsub⟩ := h5
      obtain ⟨o, o1, o2⟩ := five_ex hT s1 h5
      have uni : ∀ o', g_io o' → g_sub s o' → o' = o := fun o' q1 q2 => io_uni q1 o1 q2 o2 (by omega)
      refine ⟨nI (o &&& now.2.1), fun K hK => am_in _ _ _ (am_step _ _ _ (b_X_hexad_0 (s_isNoSet (by decide) ⟨_, rfl, am_step _ _ _ (b_X_hexad_4 ?_)⟩))), fun K hK => am_in _ _ _ (am_step _ _ _ (b_M_hexad_0 (s_isSet (by decide) ⟨_, rfl, am_step _ _ _ (b_M_hexad_4 ?_)⟩)))⟩
      · rw [s3, ec]
        refine ⟨fun _ => s_bitCount (by decide) s1 ⟨_, rfl, am_step _ _ _ (b_X_hexad_24 ?_)⟩, fun q => absurd rfl q⟩
        rw [h5]
        refine ⟨fun _ => ⟨fun _ => s_octadWith (by decide) hT s1 h5 fun o' q1 q2 => ⟨_, rfl, am_step _ _ _ (b_X_hexad_47 ?_)⟩, fun q => absurd ((n_diff s1 cl).mpr hsub) q⟩, fun q => absurd rfl q⟩
        rw [uni o' q1 q2, n_and]
        exact hK
      · rw [s4]
        refine ⟨fun q => absurd q (by decide), fun _ => s_bits (by decide) (by omega) ⟨_, rfl, am_step _ _ _ (b_M_hexad_13 ?_)⟩⟩
        rw [h5, em]
        refine ⟨fun _ => ⟨by decide, fun _ => s_octadOf (by decide) hT s1 h5 fun o' q1 q2 => ⟨_, rfl, am_step _ _ _ (b_M_hexad_41 ⟨by decide, ?_⟩)⟩, fun q => absurd ((n_diff s1 cl).mpr hsub) q⟩, fun q => absurd rfl q⟩
        rw [uni o' q1 q2, em, n_and]
        exact hK
    · refine ⟨am_k (-2), fun K hK => am_in _ _ _ (am_step _ _ _ (b_X_hexad_0 (s_isNoSet (by decide) ⟨_, rfl, am_step _ _ _ (b_X_hexad_4 ?_)⟩))), fun K hK => am_in _ _ _ (am_step _ _ _ (b_M_hexad_0 (s_isSet (by decide) ⟨_, rfl, am_step _ _ _ (b_M_hexad_4 ?_)⟩)))⟩
      · rw [s3, ec]
        refine ⟨fun _ => s_bitCount (by decide) s1 ⟨_, rfl, am_step _ _ _ (b_X_hexad_24 ⟨fun q => ⟨fun q2 => ?_, fun _ => hK⟩, fun _ => hK⟩)⟩, fun q => absurd rfl q⟩
        rw [nI_eq (by omega) (by decide)] at q
        exact absurd ⟨q, (n_diff s1 cl).mp q2⟩ h5
      · rw [s4]
        refine ⟨fun q => absurd q (by decide), fun _ => s_bits (by decide) (by omega) ⟨_, rfl, am_step _ _ _ (b_M_hexad_13 ?_)⟩⟩
        rw [em]
        refine ⟨fun q => ⟨by decide, fun q2 => ?_, fun _ => hK⟩, fun _ => hK⟩
        rw [nI_eq (by omega) (by decide)] at q
        exact absurd ⟨q, (n_diff s1 cl).mp q2⟩ h5
  · refine ⟨am_k (-1), fun K hK => am_in _ _ _ (am_step _ _ _ (b_X_hexad_0 (s_isNoSet (by decide) ⟨_, rfl, am_step _ _ _ (b_X_hexad_4 ?_)⟩))), fun K hK => am_in _ _ _ (am_step _ _ _ (b_M_hexad_0 (s_isSet (by decide) ⟨_, rfl, am_step _ _ _ (b_M_hexad_4 ?_)⟩)))⟩
    · rw [s3]
      exact ⟨fun q => absurd q (by decide), fun _ => hK⟩
    · rw [s4]
      exact ⟨fun _ => hK, fun q => absurd rfl q⟩
theorem pcn_flip1 {s k : Nat} (h : s.testBit k = true) : pcn s = pcn (s ^^^ 2 ^ k) + 1 := by
  have e : (s ^^^ 2 ^ k).testBit k = false := by rw [Nat.testBit_xor, h, tb_p2, decide_eq_true rfl]; rfl
  have q := pcn_flip k _ e
  rw [Nat.xor_assoc, Nat.xor_self, Nat.xor_zero] at q
  exact q
theorem op_pair (a0 : Int32) : lw_Op (vV G) k_X_pair k_M_pair [.int a0] := by
  refine op_pure fun I Lg rr n hV => ?_
  have hT := hV.1
  obtain ⟨now, us, ks, ok, hks, hc, hm, h28⟩ := hV.2.1
  have cl := dd_lt ok.2.1
  have em : I 1470 (am_un (nI 120)) = nI now.2.1 := hm.1.2.1
  have ec : I 1337 1 = nI now.2.1 := hc.1.2.1
  rcases set_cases a0 with ⟨s, s1, rfl, s3, s4⟩ | ⟨s3, s4⟩
  · have pl := pcn_le 24 _ s1
    by_cases h6 : pcn s = 6
    · have s0 : ¬ s = 0 := fun e => by rw [e, pcn_0] at h6; cases h6
      have lo := low_lo (Nat.lt_trans s1 (by decide)) s0
      generalize hk : m_low s = k at lo
      have k24 := tb_lt s1 lo.1
      have p5 : pcn (s ^^^ 2 ^ k) = 5 := by
        have := pcn_flip1 lo.1
        omega
      have f1 : s ^^^ 2 ^ k < 2 ^ 24 := xor_lt s1 (Nat.pow_lt_pow_right (by decide) k24)
      have fs : g_sub (s ^^^ 2 ^ k) s := sub_tb.mpr fun j hj => by
        rw [Nat.testBit_xor, tb_p2] at hj
        by_cases e : k = j
        · rw [← e]
          exact lo.1
        · rw [decide_eq_false e, Bool.xor_false] at hj
          exact hj
      obtain ⟨o, o1, o2⟩ := five_ex hT f1 p5
      have uni : ∀ o', g_io o' → g_sub (s ^^^ 2 ^ k) o' → o' = o := fun o' q1 q2 => io_uni q1 o1 q2 o2 (by omega)
      have ol := io_lt o1
      have mdl : ∀ K : Option Value → am_M → Prop, K (some (.int (if o &&& now.2.1 = s then nI (o ^^^ s) else am_k (-2)))) (am_st I Lg rr n) → am_AC 100 k_M_pair [.ref 1469, .int (nI s)] (am_st I Lg rr n) K := fun K hK => by
        refine am_in _ _ _ (am_step _ _ _ (b_M_pair_0 (s_isSet (by decide) ⟨_, rfl, am_step _ _ _ (b_M_pair_4 ?_)⟩)))
        rw [s4]
        refine ⟨fun q => absurd q (by decide), fun _ => ?_⟩
        obtain ⟨jo, jo1, jo2⟩ := io_oct o1
        have key : ∀ q, q ≤ 759 → ∀ v : Int32, (v = am_k (-2) ∨ (v = nI (o ^^^ s) ∧ o &&& now.2.1 = s)) → (jo < q → o &&& now.2.1 = s → v = nI (o ^^^ s)) → am_St 99 k_M_pair (am_st I Lg rr n) K 14 [some (.ref 1469), some (.int (nI s)), some (.int v), some (.int (nI q))] [] (am_st I Lg rr n) := by
          refine lp_up _ (fun q hq ih => ?_) ?_
          · intro v v1 v2
            have eu : am_un (nI q) = q := n_un (by omega)
            have eo : I 1474 q = nI (g_oct q) := hT.2.2.2.2.2.2 q hq
            have qo := oct_io hq
            have ql := oct_lt hq
            have al := and_lt24 (b := now.2.1) ql
            refine am_step _ _ _ (b_M_pair_14 ⟨fun _ => s_bits (by decide) (by omega) ⟨_, rfl, am_step _ _ _ (b_M_pair_25 ?_)⟩, fun q2 => absurd (nI_lt hq (by decide)) q2⟩)
            rw [h6, eu, eo, em, n_and, nI_add]
            refine ⟨fun _ => ⟨hq, by decide, fun q2 => ⟨hq, ?_⟩, fun q2 => ?_⟩, fun q2 => absurd rfl q2⟩
            · rw [nI_eq (by omega) (by omega)] at q2
              have so : g_sub s (g_oct q) := by
                rw [← q2]
                exact sub_tb.mpr fun j hj => by
                  rw [Nat.testBit_and] at hj
                  exact (Bool.and_eq_true _ _ ▸ hj : _ ∧ _).1
              have e := uni _ qo (sub_trans fs so)
              rw [e] at q2 so ⊢
              rw [n_dif, dif_xor ol so]
              exact ih _ (Or.inr ⟨rfl, q2⟩) (fun _ _ => rfl)
            · refine ih v v1 (fun h1 h2 => ?_)
              by_cases e : q = jo
              · subst e
                rw [jo2] at q2
                exact absurd (by rw [h2]) q2
              · exact v2 (by omega) h2
          · intro v v1 v2
            refine am_step _ _ _ (b_M_pair_14 ⟨fun q2 => absurd q2 (by decide), fun _ => ?_⟩)
            by_cases e : o &&& now.2.1 = s
            · rw [if_pos e] at hK
              rw [v2 jo1 e]
              exact hK
            · rw [if_neg e] at hK
              rcases v1 with q | q
              · rw [q]
                exact hK
              · exact absurd q.2 e
        exact key 0 (by decide) _ (Or.inl rfl) (fun h => absurd h (Nat.not_lt_zero _))
      refine ⟨if o &&& now.2.1 = s then nI (o ^^^ s) else am_k (-2), fun K hK => am_in _ _ _ (am_step _ _ _ (b_X_pair_0 (s_isNoSet (by decide) ⟨_, rfl, am_step _ _ _ (b_X_pair_4 ?_)⟩))), mdl⟩
      rw [s3]
      refine ⟨fun _ => s_bitCount (by decide) s1 ⟨_, rfl, am_step _ _ _ (b_X_pair_13 ?_)⟩, fun q => absurd rfl q⟩
      rw [h6, n_low (by omega) lo, n_xor]
      refine ⟨fun _ => s_octadWith (by decide) hT f1 p5 fun o' q1 q2 => ⟨_, rfl, am_step _ _ _ (b_X_pair_36 ?_)⟩, fun q => absurd rfl q⟩
      have al := and_lt24 (b := now.2.1) ol
      rw [uni o' q1 q2, ec, n_and, n_xor]
      refine ⟨fun q => ?_, fun q => ?_⟩
      · rw [nI_eq (by omega) (by omega)] at q
        rw [if_pos q] at hK
        exact hK
      · have q : ¬ o &&& now.2.1 = s := fun e => q (by rw [e])
        rw [if_neg q] at hK
        exact hK
    · refine ⟨am_k (-2), fun K hK => am_in _ _ _ (am_step _ _ _ (b_X_pair_0 (s_isNoSet (by decide) ⟨_, rfl, am_step _ _ _ (b_X_pair_4 ?_)⟩))), fun K hK => am_in _ _ _ (am_step _ _ _ (b_M_pair_0 (s_isSet (by decide) ⟨_, rfl, am_step _ _ _ (b_M_pair_4 ?_)⟩)))⟩
      · rw [s3]
        refine ⟨fun _ => s_bitCount (by decide) s1 ⟨_, rfl, am_step _ _ _ (b_X_pair_13 ⟨fun q => ?_, fun _ => hK⟩)⟩, fun q => absurd rfl q⟩
        rw [nI_eq (by omega) (by decide)] at q
        exact absurd q h6
      · rw [s4]
        refine ⟨fun q => absurd q (by decide), fun _ => ?_⟩
        have key : ∀ q, q ≤ 759 → am_St 99 k_M_pair (am_st I Lg rr n) K 14 [some (.ref 1469), some (.int (nI s)), some (.int (am_k (-2))), some (.int (nI q))] [] (am_st I Lg rr n) := by
          refine lp_up _ (fun q hq ih => ?_) ?_
          · refine am_step _ _ _ (b_M_pair_14 ⟨fun _ => s_bits (by decide) (by omega) ⟨_, rfl, am_step _ _ _ (b_M_pair_25 ⟨fun q2 => ?_, fun _ => ?_⟩)⟩, fun q2 => absurd (nI_lt hq (by decide)) q2⟩)
            · rw [nI_eq (by omega) (by decide)] at q2
              exact absurd q2 h6
            · rw [nI_add]
              exact ih
          · exact am_step _ _ _ (b_M_pair_14 ⟨fun q2 => absurd q2 (by decide), fun _ => hK⟩)
        exact key 0 (by decide)
  · refine ⟨am_k (-1), fun K hK => am_in _ _ _ (am_step _ _ _ (b_X_pair_0 (s_isNoSet (by decide) ⟨_, rfl, am_step _ _ _ (b_X_pair_4 ?_)⟩))), fun K hK => am_in _ _ _ (am_step _ _ _ (b_M_pair_0 (s_isSet (by decide) ⟨_, rfl, am_step _ _ _ (b_M_pair_4 ?_)⟩)))⟩
    · rw [s3]
      exact ⟨fun q => absurd q (by decide), fun _ => hK⟩
    · rw [s4]
      exact ⟨fun _ => hK, fun q => absurd rfl q⟩
end OW
