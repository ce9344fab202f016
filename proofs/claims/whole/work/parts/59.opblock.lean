/-! THE OPERATION block -/
section OB
variable {G : (Nat → Nat → Int32) → Prop}
theorem n_sub0 (a : Nat) : nI a - nI 0 = nI a := pk_sub (Nat.zero_le _)
theorem s_dodecad {d k : Nat} {K : Option Value → am_M → Prop} {I : Nat → Nat → Int32} {Lg : Nat → Nat → Int64} {rr : Nat → Nat → Option Nat} {n : Nat} (hd : 2 ≤ d) (hT : vT I) (hk : k < 2576) (h : K (some (.int (nI ((g_ws 12 4096).getD k 0)))) (am_st I Lg rr n)) : am_AC d k_M_dodecad [.ref 1469, .int (nI k)] (am_st I Lg rr n) K := by
  obtain ⟨d, rfl, hd1⟩ := s_up hd
  have hW := hT.2.2.2.2.2.1
  have key : ∀ a, a ≤ 4095 → (g_ws 12 a).length ≤ k → am_St d k_M_dodecad (am_st I Lg rr n) K 4 [some (.ref 1469), some (.int (nI k)), some (.int (nI (k - (g_ws 12 a).length))), some (.int (nI a))] [] (am_st I Lg rr n) := by
    refine lp_up _ (fun a ha ih => ?_) ?_
    · intro hl
      have eu : am_un (nI a) = a := n_un (by omega)
      have e12 : am_un (nI a) < 4096 := by
        rw [eu]
        omega
      have hb := pcn_le 24 _ (g_w_lt a)
      have lw : g_w a < 2 ^ 31 := Nat.lt_trans (g_w_lt a) (by decide)
      have k39 : (pcn (g_w a) = 12 → (g_ws 12 a).length < k) → am_St d k_M_dodecad (am_st I Lg rr n) K 39 [some (.ref 1469), some (.int (nI k)), some (.int (nI (k - (g_ws 12 a).length))), some (.int (nI a))] [.int (nI (pcn (g_w a))), .int (nI (k - (g_ws 12 a).length))] (am_st I Lg rr n) := by
        intro hlt
        refine am_step _ _ _ (b_M_dodecad_39 ⟨fun q => ?_, fun q => ?_⟩)
        · rw [nI_eq (by omega) (by decide)] at q
          have e := (ws_at q (r := 4096) (by omega)).2
          have hlt := hlt q
          rw [pk_sub (by omega), nI_add]
          have ih2 := ih (by omega)
          rw [e, ← Nat.sub_sub] at ih2
          exact ih2
        · rw [nI_eq (by omega) (by decide)] at q
          have e : g_ws 12 (a + 1) = g_ws 12 a := by rw [ws_s, if_neg q]
          rw [n_sub0, nI_add]
          rw [e] at ih
          exact ih hl
      refine am_step _ _ _ (b_M_dodecad_4 ⟨fun _ => ⟨fun q => ⟨e12, ?_⟩, fun q => ⟨e12, ?_⟩⟩, fun q => absurd (nI_lt ha (by decide)) q⟩)
      · rw [eu, hW a (by omega)]
        have q1 : 0 < k - (g_ws 12 a).length := by
          have : nI 0 < nI (k - (g_ws 12 a).length) := q
          rw [nI_ltI (by decide) (by omega)] at this
          exact this
        exact s_bits (by omega) lw ⟨_, rfl, k39 (fun _ => by omega)⟩
      · have q1 : ¬ 0 < k - (g_ws 12 a).length := fun h => q (show nI 0 < _ from nI_lt h (by omega))
        rw [eu, hW a (by omega)]
        refine s_bits (by omega) lw ⟨_, rfl, am_step _ _ _ (b_M_dodecad_24 ⟨fun q2 => ⟨e12, ?_⟩, fun q2 => ⟨e12, ?_⟩⟩)⟩
        · rw [nI_eq (by omega) (by decide)] at q2
          have e := (ws_at q2 (r := 4096) (by omega)).1
          rw [show (g_ws 12 a).length = k by omega] at e
          rw [eu, hW a (by omega), ← e]
          exact h
        · rw [eu, hW a (by omega)]
          rw [nI_eq (by omega) (by decide)] at q2
          exact s_bits (by omega) lw ⟨_, rfl, k39 (fun q3 => absurd q3 q2)⟩
    · intro hl
      have e4096 := ws_12
      have es := ws_s 12 4095
      refine am_step _ _ _ (b_M_dodecad_4 ⟨fun q => absurd q (by decide), fun _ => ⟨by decide, ?_⟩⟩)
      by_cases q : pcn (g_w 4095) = 12
      · have e := ws_at q (r := 4096) (by omega)
        have e2 : (g_ws 12 4095).length + 1 = 2576 := by rw [← e.2, ws_12]
        have e1 := e.1
        rw [show (g_ws 12 4095).length = k by omega] at e1
        have := hW 4095 (by decide)
        show K (some (.int (I 1473 4095))) _
        rw [this, ← e1]
        exact h
      · rw [if_neg q] at es
        rw [es] at e4096
        omega
  have k0 := key 0 (by decide) (Nat.zero_le _)
  exact am_in _ _ _ (am_step _ _ _ (b_M_dodecad_0 k0))
theorem s_XwordOf {d k : Nat} {K : Option Value → am_M → Prop} {I : Nat → Nat → Int32} {Lg : Nat → Nat → Int64} {rr : Nat → Nat → Option Nat} {n : Nat} (hd : 1 ≤ d) (hT : vT I) (hk : k < 2 ^ 31) (h : K (some (.int (nI (g_W k)))) (am_st I Lg rr n)) : am_AC d k_Go_wordOf [.ref 19, .int (nI k)] (am_st I Lg rr n) K := s_GwordOf (B := g_B) hd hk (by decide) rfl (fun k hk => hT.2.1.2.2.2.2.1 k hk) h
theorem op_block (a0 a1 : Int32) : lw_Op (vV G) k_X_block k_M_block [.int a0, .int a1] := by
  refine op_pure fun I Lg rr n hV => ?_
  have hT := hV.1
  have z1 : ¬ nI 1 = 0 := by decide
  have z2 : ¬ nI 2 = 0 := by decide
  by_cases h0 : a0 = nI 0
  · subst h0
    rcases rng_cases a1 (N := 4096) (by decide) (by decide) with ⟨k, c1, rfl, c3, c4, c5⟩ | ⟨c3, c4, c5⟩
    · refine ⟨nI (g_W k), fun K hK => am_in _ _ _ (am_step _ _ _ (b_X_block_0 ⟨fun _ => s_isOutside (by decide) ⟨_, rfl, am_step _ _ _ (b_X_block_11 ?_)⟩, fun q => absurd rfl q⟩)), fun K hK => am_in _ _ _ (am_step _ _ _ (b_M_block_0 ⟨fun _ => s_in (by decide) ⟨_, rfl, am_step _ _ _ (b_M_block_37 ?_)⟩, fun q => absurd rfl q⟩))⟩
      · rw [c3]
        exact ⟨fun _ => s_XwordOf (by decide) hT (by omega) ⟨_, rfl, am_step _ _ _ (b_X_block_22 hK)⟩, fun q => absurd rfl q⟩
      · rw [c5]
        refine ⟨fun q => absurd q z1, fun _ => s_wordOf (by decide) (by omega) ⟨_, rfl, am_step _ _ _ (b_M_block_44 ?_)⟩⟩
        rw [m_word_W]
        exact hK
    · refine ⟨am_k (-1), fun K hK => am_in _ _ _ (am_step _ _ _ (b_X_block_0 ⟨fun _ => s_isOutside (by decide) ⟨_, rfl, am_step _ _ _ (b_X_block_11 ?_)⟩, fun q => absurd rfl q⟩)), fun K hK => am_in _ _ _ (am_step _ _ _ (b_M_block_0 ⟨fun _ => s_in (by decide) ⟨_, rfl, am_step _ _ _ (b_M_block_37 ?_)⟩, fun q => absurd rfl q⟩))⟩
      · rw [c3]
        exact ⟨fun q => absurd q z1, fun _ => ⟨fun q => absurd q (by decide), fun _ => ⟨fun q => absurd q (by decide), fun _ => hK⟩⟩⟩
      · rw [c5]
        exact ⟨fun _ => hK, fun q => absurd rfl q⟩
  · by_cases h1 : a0 = nI 1
    · subst h1
      rcases rng_cases a1 (N := 759) (by decide) (by decide) with ⟨k, c1, rfl, c3, c4, c5⟩ | ⟨c3, c4, c5⟩
      · have eu : am_un (nI k) = k := n_un (by omega)
        refine ⟨nI ((g_ws 8 4096).getD k 0), fun K hK => am_in _ _ _ (am_step _ _ _ (b_X_block_0 ⟨fun q => absurd q h0, fun _ => ⟨fun _ => s_isOutside (by decide) ⟨_, rfl, am_step _ _ _ (b_X_block_35 ?_)⟩, fun q => absurd rfl q⟩⟩)), fun K hK => am_in _ _ _ (am_step _ _ _ (b_M_block_0 ⟨fun q => absurd q h0, fun _ => ⟨fun _ => s_in (by decide) ⟨_, rfl, am_step _ _ _ (b_M_block_58 ?_)⟩, fun q => absurd rfl q⟩⟩))⟩
        · rw [c3, eu]
          refine ⟨fun _ => ⟨c1, ?_⟩, fun q => absurd rfl q⟩
          rw [hT.2.1.2.1 k c1]
          exact hK
        · rw [c5, eu]
          refine ⟨fun q => absurd q z1, fun _ => ⟨c1, ?_⟩⟩
          rw [hT.2.2.2.2.2.2 k c1]
          exact hK
      · refine ⟨am_k (-1), fun K hK => am_in _ _ _ (am_step _ _ _ (b_X_block_0 ⟨fun q => absurd q h0, fun _ => ⟨fun _ => s_isOutside (by decide) ⟨_, rfl, am_step _ _ _ (b_X_block_35 ?_)⟩, fun q => absurd rfl q⟩⟩)), fun K hK => am_in _ _ _ (am_step _ _ _ (b_M_block_0 ⟨fun q => absurd q h0, fun _ => ⟨fun _ => s_in (by decide) ⟨_, rfl, am_step _ _ _ (b_M_block_58 ?_)⟩, fun q => absurd rfl q⟩⟩))⟩
        · rw [c3]
          exact ⟨fun q => absurd q z1, fun _ => ⟨fun q => absurd q (by decide), fun _ => hK⟩⟩
        · rw [c5]
          exact ⟨fun _ => hK, fun q => absurd rfl q⟩
    · by_cases h2 : a0 = nI 2
      · subst h2
        rcases rng_cases a1 (N := 2576) (by decide) (by decide) with ⟨k, c1, rfl, c3, c4, c5⟩ | ⟨c3, c4, c5⟩
        · have eu : am_un (nI k) = k := n_un (by omega)
          refine ⟨nI ((g_ws 12 4096).getD k 0), fun K hK => am_in _ _ _ (am_step _ _ _ (b_X_block_0 ⟨fun q => absurd q h0, fun _ => ⟨fun q => absurd q h1, fun _ => ⟨fun _ => s_isOutside (by decide) ⟨_, rfl, am_step _ _ _ (b_X_block_60 ?_)⟩, fun q => absurd rfl q⟩⟩⟩)), fun K hK => am_in _ _ _ (am_step _ _ _ (b_M_block_0 ⟨fun q => absurd q h0, fun _ => ⟨fun q => absurd q h1, fun _ => ⟨fun _ => s_in (by decide) ⟨_, rfl, am_step _ _ _ (b_M_block_81 ?_)⟩, fun q => absurd rfl q⟩⟩⟩))⟩
          · rw [c3, eu]
            refine ⟨fun _ => ⟨c1, ?_⟩, fun q => absurd rfl q⟩
            rw [hT.2.1.2.2.1 k c1]
            exact hK
          · rw [c5]
            exact ⟨fun q => absurd q z1, fun _ => s_dodecad (by decide) hT c1 ⟨_, rfl, am_step _ _ _ (b_M_block_89 hK)⟩⟩
        · refine ⟨am_k (-1), fun K hK => am_in _ _ _ (am_step _ _ _ (b_X_block_0 ⟨fun q => absurd q h0, fun _ => ⟨fun q => absurd q h1, fun _ => ⟨fun _ => s_isOutside (by decide) ⟨_, rfl, am_step _ _ _ (b_X_block_60 ?_)⟩, fun q => absurd rfl q⟩⟩⟩)), fun K hK => am_in _ _ _ (am_step _ _ _ (b_M_block_0 ⟨fun q => absurd q h0, fun _ => ⟨fun q => absurd q h1, fun _ => ⟨fun _ => s_in (by decide) ⟨_, rfl, am_step _ _ _ (b_M_block_81 ?_)⟩, fun q => absurd rfl q⟩⟩⟩))⟩
          · rw [c3]
            exact ⟨fun q => absurd q z1, fun _ => hK⟩
          · rw [c5]
            exact ⟨fun _ => hK, fun q => absurd rfl q⟩
      · exact ⟨am_k (-1), fun K hK => am_in _ _ _ (am_step _ _ _ (b_X_block_0 ⟨fun q => absurd q h0, fun _ => ⟨fun q => absurd q h1, fun _ => ⟨fun q => absurd q h2, fun _ => hK⟩⟩⟩)), fun K hK => am_in _ _ _ (am_step _ _ _ (b_M_block_0 ⟨fun q => absurd q h0, fun _ => ⟨fun q => absurd q h1, fun _ => ⟨fun q => absurd q h2, fun _ => hK⟩⟩⟩))⟩
end OB
