/-! THE OPERATION choose -/
section CH
variable {G : (Nat → Nat → Int32) → Prop}
theorem isw_ex {s : Nat} (h : g_isw s) (hp : pcn s = 12) : a_dd s := by
  refine ⟨g_pl s, pl_lt s, h, ?_⟩
  have e : g_w (g_pl s) = s := h.symm
  rw [e, hp]
theorem dd_lt {c : Nat} (h : a_dd c) : c < 2 ^ 24 := by
  obtain ⟨k, k1, k2, k3⟩ := h
  rw [k2]
  exact g_w_lt k
theorem op_choose (hG : g_fr G) (a0 : Int32) : lw_Op (vV G) k_X_choose k_M_choose [.int a0] := by
  intro I Lg rr n hV
  have hT := hV.1
  obtain ⟨now, us, ks, ok, hks, hc, hm, h28⟩ := hV.2.1
  have hu := hc.2.2.1
  have cl := dd_lt ok.2.1
  have em : I 1470 (am_un (nI 120)) = nI now.2.1 := hm.1.2.1
  rcases set_cases a0 with ⟨s, s1, rfl, s3, s4⟩ | ⟨s3, s4⟩
  · -- the answer NOT
    have pl := pcn_le 24 _ s1
    have mnot : (s = now.2.1 ∨ ¬ pcn s = 12 ∨ ¬ g_isw s) → ∀ K : Option Value → am_M → Prop, K (some (.int (am_k (-2)))) (am_st I Lg rr n) → am_AC 100 k_M_choose [.ref 1469, .int (nI s)] (am_st I Lg rr n) K := fun hn K hK => by
      refine am_in _ _ _ (am_step _ _ _ (b_M_choose_0 (s_isSet (by decide) ⟨_, rfl, am_step _ _ _ (b_M_choose_4 ?_)⟩)))
      rw [s4, em]
      refine ⟨fun q => absurd q (by decide), fun _ => ⟨by decide, s_bits (by decide) (by omega) ⟨_, rfl, am_step _ _ _ (b_M_choose_21 ⟨fun q => ?_, fun _ => hK⟩)⟩⟩⟩
      rw [nI_eq (by omega) (by decide)] at q
      refine s_MnumberOf (by decide) hT s1 (fun w => ⟨_, rfl, am_step _ _ _ (b_M_choose_31 ⟨fun _ => hK, fun _ => ⟨fun _ => hK, fun q3 => ?_⟩⟩)⟩) (fun w => ⟨_, rfl, am_step _ _ _ (b_M_choose_31 ⟨fun _ => hK, fun q2 => absurd (show am_k (-4) < 0 by decide) q2⟩)⟩)
      rcases hn with hn | hn | hn
      · exact absurd (by rw [hn]) q3
      · exact absurd q hn
      · exact absurd w hn
    refine am_in _ _ _ (am_step _ _ _ (b_X_choose_0 (s_isNoSet (by decide) ⟨_, rfl, am_step _ _ _ (b_X_choose_4 ?_)⟩)))
    rw [s3, hc.1.2.1]
    refine ⟨fun _ => ⟨fun q => ⟨_, rfl, I, Lg, rr, rfl, rfl, mnot (Or.inl ?_) _ ⟨_, rfl, I, Lg, rr, rfl, rfl, hV⟩⟩, fun q => s_bitCount (by decide) s1 ⟨_, rfl, am_step _ _ _ (b_X_choose_29 ⟨fun q2 => ?_, fun q2 => ⟨_, rfl, I, Lg, rr, rfl, rfl, mnot (Or.inr (Or.inl fun e => q2 (by rw [e]))) _ ⟨_, rfl, I, Lg, rr, rfl, rfl, hV⟩⟩⟩)⟩⟩, fun q => absurd rfl q⟩
    · rw [nI_eq (by omega) (by omega)] at q
      exact q
    · have q3 : ¬ s = now.2.1 := fun e => q (by rw [e])
      rw [nI_eq (by omega) (by decide)] at q2
      refine s_isWord (by decide) hT s1 (fun w => ⟨_, rfl, am_step _ _ _ (b_X_choose_42 ⟨fun q => absurd q (by decide), fun _ => ?_⟩)⟩) (fun w => ⟨_, rfl, am_step _ _ _ (b_X_choose_42 ⟨fun _ => ⟨_, rfl, I, Lg, rr, rfl, rfl, mnot (Or.inr (Or.inr w)) _ ⟨_, rfl, I, Lg, rr, rfl, rfl, hV⟩⟩, fun q => absurd rfl q⟩)⟩)
      refine s_keep (by decide) hc (fun J rr' hJ j1 j2 j3 => ⟨rfl, am_step _ _ _ (b_X_choose_55 ⟨_, rfl, _, Lg, rr', rfl, ?_, ?_⟩)⟩)
      · rw [am_sr_off _ _ (by decide), j1 0 (by decide) (by decide)]
      · generalize hJ2 : am_sr J 1337 (am_u1 (J 1337) 1 (nI s)) = J2
        have jb : ∀ b, ¬ b = 1337 → J2 b = J b := fun b hb => by rw [← hJ2, am_sr_off _ _ hb]
        have jk : ∀ b, ¬ (1336 ≤ b ∧ b ≤ 1386) → J2 b = I b := fun b hb => by
          rw [jb b (by omega)]
          by_cases q : b < 1345
          · exact j1 b q (by omega)
          · exact j2 b (by omega)
        have hm2 : m_H (J2 1470) (J2 1489) now us ks := by
          rw [jk 1470 (by omega), jk 1489 (by omega)]
          exact hm
        refine am_in _ _ _ (am_step _ _ _ (b_M_choose_0 (s_isSet (by decide) ⟨_, rfl, am_step _ _ _ (b_M_choose_4 ?_)⟩)))
        rw [s4, jk 1470 (by omega), em]
        refine ⟨fun q => absurd q (by decide), fun _ => ⟨by decide, s_bits (by decide) (by omega) ⟨_, rfl, am_step _ _ _ (b_M_choose_21 ⟨fun _ => ?_, fun q => absurd (by rw [q2]) q⟩)⟩⟩⟩
        have hT2 : vT J2 := hT.fr (fun b b1 b2 => jk b (by omega)) (fun b b1 b2 => jk b (by omega)) (by rw [jk 1469 (by omega)])
        refine s_MnumberOf (by decide) hT2 s1 (fun _ => ⟨_, rfl, am_step _ _ _ (b_M_choose_31 ⟨fun q => ?_, fun _ => ⟨fun q => ?_, fun _ => ?_⟩⟩)⟩) (fun w2 => absurd w w2)
        · have := g_N_lt (g_pl s)
          exact absurd q (show ¬ nI _ < nI 0 from nI_nlt (Nat.zero_le _) (by omega))
        · rw [nI_eq (by omega) (by omega)] at q
          exact absurd q q3
        · refine s_notes (by decide) hu hm2 (by rw [jk 1469 (by omega), h28]) (fun J3 g1 g2 g3 g4 => ⟨rfl, am_step _ _ _ (b_M_choose_46 ⟨by decide, ⟨_, rfl, _, Lg, rr', rfl, rfl, ?_⟩⟩)⟩)
          have gk : ∀ b, ¬ (1336 ≤ b ∧ b ≤ 1386) → ¬ b = 1469 → ¬ b = 1470 → ¬ b = 1489 → am_sr J3 1470 (am_u1 (J3 1470) (am_un (nI 120)) (nI s)) b = I b := fun b b1 b2 b3 b4 => by
            rw [am_sr_off _ _ b3, g4 b b4 b2, jk b b1]
          have gs : ∀ b, 1336 ≤ b → b ≤ 1386 → am_sr J3 1470 (am_u1 (J3 1470) (am_un (nI 120)) (nI s)) b = J2 b := fun b b1 b2 => by
            rw [am_sr_off _ _ (by omega), g4 b (by omega) (by omega)]
          have hc2 : c_H J2 rr' 1336 1337 1344 1345 (now.1, s, now.2.2) (g_ku us) (g_kk us now ks) := by
            obtain ⟨q1, q2, q3, π, q4, q5, q6⟩ := hJ
            have := q1.put1 (c := s)
            rw [hJ2] at this
            refine ⟨this, by rw [jb 1336 (by decide), q2], q3, π, q4, q5, fun k hk => (q6 k hk).fr fun b b1 b2 => jb b (by omega)⟩
          refine hV.hist hG ⟨(now.1, s, now.2.2), g_ku us, g_kk us now ks, ⟨ok.1, isw_ex w q2, ok.2.2⟩, g_kk_ok hu ok hks, hc2.fr2 gs rfl, ⟨?_, fun k hk => ?_⟩, ?_⟩ gk (fun j hj => ?_) j3
          · rw [am_sr_at]
            exact g1.1.put120
          · rw [am_sr_off _ _ (by decide)]
            exact g1.2 k hk
          · rw [am_sr_off _ _ (by decide), g2]
          · rw [am_sr_off _ _ (by decide), g3 j hj, jk 1469 (by omega)]
  · refine am_in _ _ _ (am_step _ _ _ (b_X_choose_0 (s_isNoSet (by decide) ⟨_, rfl, am_step _ _ _ (b_X_choose_4 ?_)⟩)))
    rw [s3]
    refine ⟨fun q => absurd q (by decide), fun _ => ⟨_, rfl, I, Lg, rr, rfl, rfl, am_in _ _ _ (am_step _ _ _ (b_M_choose_0 (s_isSet (by decide) ⟨_, rfl, am_step _ _ _ (b_M_choose_4 ?_)⟩)))⟩⟩
    rw [s4]
    exact ⟨fun _ => ⟨_, rfl, I, Lg, rr, rfl, rfl, hV⟩, fun q => absurd rfl q⟩
end CH
