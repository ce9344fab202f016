/-! THE OPERATION both -/
section OB
variable {d : Nat} {K : Option Value → am_M → Prop} {I : Nat → Nat → Int32} {Lg : Nat → Nat → Int64} {rr : Nat → Nat → Option Nat} {n : Nat} {G : (Nat → Nat → Int32) → Prop} {s u : Nat}
theorem n_meet0 {a b : Nat} (ha : a < 2 ^ 24) : (nI a &&& nI b) = 0 ↔ a &&& b = 0 := by
  rw [n_and]
  exact nI_eq (by have := and_lt24 (b := b) ha; omega) (by decide)
theorem n_meet1 {a b : Nat} (ha : a < 2 ^ 24) : (nI a &&& nI b) = nI a ↔ a &&& b = a := by
  rw [n_and]
  exact nI_eq (by have := and_lt24 (b := b) ha; omega) (by omega)
theorem s_isUnion {o : Nat} (hd : 6 ≤ d) (hT : vT I) (hs : s < 2 ^ 24) (h4 : pcn s = 4) (h1 : g_UT s o → K (some (.int (nI 1))) (am_st I Lg rr n)) (h0 : ¬ g_UT s o → K (some (.int (nI 0))) (am_st I Lg rr n)) : am_AC d k_Go_isUnionOfTetrads [.ref 19, .int (nI o), .int (nI s)] (am_st I Lg rr n) K := by
  obtain ⟨d, rfl, hd1⟩ := s_up hd
  have key : ∀ k, k ≤ 6 → (∀ i, i < k → (g_te s i &&& o = 0 ∨ g_te s i &&& o = g_te s i)) → am_St d k_Go_isUnionOfTetrads (am_st I Lg rr n) K 2 [some (.ref 19), some (.int (nI o)), some (.int (nI s)), some (.int (nI k)), none, none] [] (am_st I Lg rr n) := by
    refine lp_up _ (fun k hk ih => ?_) ?_
    · intro hb
      have next : (g_te s k &&& o = 0 ∨ g_te s k &&& o = g_te s k) → am_St d k_Go_isUnionOfTetrads (am_st I Lg rr n) K 2 [some (.ref 19), some (.int (nI o)), some (.int (nI s)), some (.int (nI (k + 1))), none, none] [] (am_st I Lg rr n) := fun e => ih fun i hi => by
        by_cases c : i = k
        · rw [c]; exact e
        · exact hb i (by omega)
      have tl := (te_all hs h4 hk).2.2
      refine am_step _ _ _ (b_Go_isUnionOfTetrads_2 ⟨fun _ => s_tetrad hd1 hT hs h4 hk ⟨_, rfl, am_step _ _ _ (b_Go_isUnionOfTetrads_14 ?_)⟩, fun q => absurd (nI_lt hk (by decide)) q⟩)
      rw [nI_add]
      refine ⟨fun z => ?_, fun z => ⟨fun y => ?_, fun y => h0 fun hU => ?_⟩⟩
      · exact am_fg (le_same _ (le_same _ (le_same _ (le_same _ (le_int _ (le_int _ le_nil)))))) (next (Or.inl ((n_meet0 tl).mp z)))
      · exact am_fg (le_same _ (le_same _ (le_same _ (le_same _ (le_int _ (le_int _ le_nil)))))) (next (Or.inr ((n_meet1 tl).mp y)))
      · rcases (UT_iff hs h4).mp hU k hk with c | c
        · exact z ((n_meet0 tl).mpr c)
        · exact y ((n_meet1 tl).mpr c)
    · intro hb
      exact am_step _ _ _ (b_Go_isUnionOfTetrads_2 ⟨fun q => absurd q (by decide), fun _ => h1 ((UT_iff hs h4).mpr hb)⟩)
  exact am_in _ _ _ (am_step _ _ _ (b_Go_isUnionOfTetrads_0 (key 0 (by decide) (fun i hi => absurd hi (Nat.not_lt_zero i)))))
theorem s_isOfTwo {o : Nat} (hd : 3 ≤ d) (hT : vT I) (ho : o < 2 ^ 24) (hs : s < 2 ^ 24) (h4 : pcn s = 4) (h1 : g_UT s o → K (some (.int (nI 1))) (am_st I Lg rr n)) (h0 : ¬ g_UT s o → K (some (.int (nI 0))) (am_st I Lg rr n)) : am_AC d k_M_isOfTwo [.ref 1469, .int (nI o), .int (nI s)] (am_st I Lg rr n) K := by
  obtain ⟨d, rfl, hd1⟩ := s_up hd
  have key : ∀ p, p ≤ 24 → (∀ i, i < p → o.testBit i = true → g_sub (g_t s i) o) → am_St d k_M_isOfTwo (am_st I Lg rr n) K 5 [some (.ref 1469), some (.int (nI o)), some (.int (nI s)), some (.int (nI 1)), some (.int (nI p))] [] (am_st I Lg rr n) := by
    refine lp_up _ (fun p hp ih => ?_) ?_
    · intro hb
      have next : (o.testBit p = true → g_sub (g_t s p) o) → am_St d k_M_isOfTwo (am_st I Lg rr n) K 5 [some (.ref 1469), some (.int (nI o)), some (.int (nI s)), some (.int (nI 1)), some (.int (nI (p + 1)))] [] (am_st I Lg rr n) := fun e => ih fun i hi => by
        by_cases c : i = p
        · rw [c]; exact e
        · exact hb i (by omega)
      refine am_step _ _ _ (b_M_isOfTwo_5 ⟨fun _ => ⟨fun q => absurd q (by decide), fun _ => s_has (by omega) ⟨_, rfl, am_step _ _ _ (b_M_isOfTwo_22 ?_)⟩⟩, fun q => absurd (nI_lt hp (by decide)) q⟩)
      rw [nI_add, m_has_n (by omega) (by omega)]
      by_cases c : o.testBit p = true
      · obtain ⟨t1, t2, t3, t4⟩ := t_all hs h4 hp
        refine ⟨fun q => ?_, fun _ => s_tetradAt (by omega) hT hs h4 hp ⟨_, rfl, am_step _ _ _ (b_M_isOfTwo_32 ⟨fun q => ?_, fun q => ?_⟩)⟩⟩
        · rw [if_pos c] at q
          exact absurd q (by decide)
        · rw [nI_add]
          exact next fun _ => (n_diff t4 ho).mp q
        · have bad : ¬ g_UT s o := fun hU => q ((n_diff t4 ho).mpr (hU p hp c))
          rw [nI_add]
          by_cases e24 : p + 1 < 24
          · exact am_step _ _ _ (b_M_isOfTwo_5 ⟨fun _ => ⟨fun _ => h0 bad, fun q => absurd rfl q⟩, fun q => absurd (nI_lt e24 (by decide)) q⟩)
          · have : p + 1 = 24 := by omega
            rw [this]
            exact am_step _ _ _ (b_M_isOfTwo_5 ⟨fun q => absurd q (by decide), fun _ => h0 bad⟩)
      · refine ⟨fun _ => next fun e => absurd e c, fun q => absurd ?_ q⟩
        rw [if_neg c]
        rfl
    · intro hb
      exact am_step _ _ _ (b_M_isOfTwo_5 ⟨fun q => absurd q (by decide), fun _ => h1 hb⟩)
  exact am_in _ _ _ (am_step _ _ _ (b_M_isOfTwo_0 (key 0 (by decide) (fun i hi => absurd hi (Nat.not_lt_zero i)))))
theorem s_sharedOctads (hd : 7 ≤ d) (hT : vT I) (hs : s < 2 ^ 24) (h4 : pcn s = 4) (hu : u < 2 ^ 24) (u4 : pcn u = 4) (h : K (some (.int (nI (g_cnt (g_bA s u) 36)))) (am_st I Lg rr n)) : am_AC d k_Go_sharedOctads [.ref 19, .int (nI s), .int (nI u)] (am_st I Lg rr n) K := by
  obtain ⟨d, rfl, hd1⟩ := s_up hd
  have key : ∀ i, i ≤ 6 → am_St d k_Go_sharedOctads (am_st I Lg rr n) K 5 [some (.ref 19), some (.int (nI s)), some (.int (nI u)), some (.int (nI (g_cnt (g_bA s u) (6 * i)))), some (.int (nI i)), none, none] [] (am_st I Lg rr n) := by
    refine lp_up _ (fun i hi ih => ?_) ?_
    · have inner : ∀ a, a ≤ 6 - (i + 1) → am_St d k_Go_sharedOctads (am_st I Lg rr n) K 18 [some (.ref 19), some (.int (nI s)), some (.int (nI u)), some (.int (nI (g_cnt (g_bA s u) (6 * i + (i + 1 + a))))), some (.int (nI i)), some (.int (nI (i + 1 + a))), none] [] (am_st I Lg rr n) := by
        refine lp_up _ (fun a ha ih2 => ?_) ?_
        · have hj : i + 1 + a < 6 := by omega
          have d1 : (6 * i + (i + 1 + a)) / 6 = i := by omega
          have d2 : (6 * i + (i + 1 + a)) % 6 = i + 1 + a := by omega
          refine am_step _ _ _ (b_Go_sharedOctads_18 ⟨fun _ => s_tetrad (by omega) hT hs h4 hi ⟨_, rfl, am_step _ _ _ (b_Go_sharedOctads_32 (s_tetrad (by omega) hT hs h4 hj ⟨_, rfl, am_step _ _ _ (b_Go_sharedOctads_39 ?_)⟩))⟩, fun q => absurd (nI_lt hj (by decide)) q⟩)
          rw [n_or]
          have e1 : 6 * i + (i + 1 + (a + 1)) = 6 * i + (i + 1 + a) + 1 := by omega
          rw [e1, cnt_s, show i + 1 + (a + 1) = i + 1 + a + 1 by omega] at ih2
          refine s_isUnion (by omega) hT hu u4 (fun hU => ⟨_, rfl, am_step _ _ _ (b_Go_sharedOctads_49 ⟨fun q => absurd q (by decide), fun _ => ?_⟩)⟩) (fun hU => ⟨_, rfl, am_step _ _ _ (b_Go_sharedOctads_49 ⟨fun _ => ?_, fun q => absurd rfl q⟩)⟩)
          · rw [if_pos (bA_iff.mpr (by rw [d1, d2]; exact ⟨by omega, hU⟩))] at ih2
            rw [nI_add, nI_add]
            exact am_fg (le_same _ (le_same _ (le_same _ (le_same _ (le_same _ (le_same _ (le_int _ le_nil))))))) ih2
          · rw [if_neg (fun w => hU (by have := (bA_iff.mp w).2; rw [d1, d2] at this; exact this))] at ih2
            rw [nI_add]
            exact am_fg (le_same _ (le_same _ (le_same _ (le_same _ (le_same _ (le_same _ (le_int _ le_nil))))))) ih2
        · have e6 : i + 1 + (6 - (i + 1)) = 6 := by omega
          rw [e6, show 6 * i + 6 = 6 * (i + 1) by omega]
          refine am_step _ _ _ (b_Go_sharedOctads_18 ⟨fun q => absurd q (by decide), fun _ => ?_⟩)
          rw [nI_add]
          exact am_fg (le_same _ (le_same _ (le_same _ (le_same _ (le_same _ (le_int _ (le_same _ le_nil))))))) ih
      have i0 := inner 0 (Nat.zero_le _)
      have none : g_cnt (g_bA s u) (6 * i + (i + 1 + 0)) = g_cnt (g_bA s u) (6 * i) := cnt_none _ (fun j h1 h2 => by
        cases c : g_bA s u j
        · rfl
        · have := (bA_iff.mp c).1
          omega)
      rw [none, Nat.add_zero] at i0
      refine am_step _ _ _ (b_Go_sharedOctads_5 ⟨fun _ => ?_, fun q => absurd (nI_lt hi (by decide)) q⟩)
      rw [nI_add]
      exact i0
    · exact am_step _ _ _ (b_Go_sharedOctads_5 ⟨fun q => absurd q (by decide), fun _ => h⟩)
  exact am_in _ _ _ (am_step _ _ _ (b_Go_sharedOctads_0 (key 0 (by decide))))
theorem op_both (a0 a1 : Int32) : lw_Op (vV G) k_X_both k_M_both [.int a0, .int a1] := by
  refine op_pure fun I Lg rr n hV => ?_
  have hT := hV.1
  rcases set_cases a0 with ⟨s, s1, rfl, s3, s4⟩ | ⟨s3, s4⟩
  · have pl := pcn_le 24 _ s1
    rcases set_cases a1 with ⟨u, u1, rfl, u3, u4⟩ | ⟨u3, u4⟩
    · have ul := pcn_le 24 _ u1
      by_cases h4 : pcn s = 4
      · by_cases g4 : pcn u = 4
        · refine ⟨nI (g_cnt (g_bA s u) 36), fun K hK => am_in _ _ _ (am_step _ _ _ (b_X_both_0 (s_isNoSet (by decide) ⟨_, rfl, am_step _ _ _ (b_X_both_4 ?_)⟩))), fun K hK => am_in _ _ _ (am_step _ _ _ (b_M_both_0 (s_isSet (by decide) ⟨_, rfl, am_step _ _ _ (b_M_both_4 ?_)⟩)))⟩
          · rw [s3]
            refine ⟨fun _ => s_isNoSet (by decide) ⟨_, rfl, am_step _ _ _ (b_X_both_11 ?_)⟩, fun q => absurd rfl q⟩
            rw [u3]
            refine ⟨fun _ => s_bitCount (by decide) s1 ⟨_, rfl, am_step _ _ _ (b_X_both_20 ?_)⟩, fun q => absurd rfl q⟩
            rw [h4]
            refine ⟨fun _ => s_bitCount (by decide) u1 ⟨_, rfl, am_step _ _ _ (b_X_both_28 ?_)⟩, fun q => absurd rfl q⟩
            rw [g4]
            exact ⟨fun _ => s_sharedOctads (by decide) hT s1 h4 u1 g4 ⟨_, rfl, am_step _ _ _ (b_X_both_44 hK)⟩, fun q => absurd rfl q⟩
          · rw [s4]
            refine ⟨fun q => absurd q (by decide), fun _ => s_isSet (by decide) ⟨_, rfl, am_step _ _ _ (b_M_both_11 ?_)⟩⟩
            rw [u4]
            refine ⟨fun q => absurd q (by decide), fun _ => s_bits (by decide) (by omega) ⟨_, rfl, am_step _ _ _ (b_M_both_20 ?_)⟩⟩
            rw [h4]
            refine ⟨fun _ => s_bits (by decide) (by omega) ⟨_, rfl, am_step _ _ _ (b_M_both_28 ?_)⟩, fun q => absurd rfl q⟩
            rw [g4]
            refine ⟨fun _ => ?_, fun q => absurd rfl q⟩
            have key : ∀ k, k ≤ 759 → am_St 99 k_M_both (am_st I Lg rr n) K 40 [some (.ref 1469), some (.int (nI s)), some (.int (nI u)), some (.int (nI (g_cnt (g_bP s u) k))), some (.int (nI k))] [] (am_st I Lg rr n) := by
              refine lp_up _ (fun k hk ih => ?_) ?_
              · have eu : am_un (nI k) = k := n_un (by omega)
                have eo : I 1474 k = nI (g_oct k) := hT.2.2.2.2.2.2 k hk
                have ol := oct_lt hk
                rw [cnt_s] at ih
                refine am_step _ _ _ (b_M_both_40 ⟨fun _ => ?_, fun q2 => absurd (nI_lt hk (by decide)) q2⟩)
                rw [eu, eo]
                refine ⟨hk, s_isOfTwo (by decide) hT ol s1 h4 (fun hU => ⟨_, rfl, am_step _ _ _ (b_M_both_61 ?_)⟩) (fun hU => ⟨_, rfl, am_step _ _ _ (b_M_both_61 ?_)⟩)⟩
                · refine ⟨fun q => absurd q (by decide), fun _ => ?_⟩
                  rw [eu, eo]
                  refine ⟨hk, s_isOfTwo (by decide) hT ol u1 g4 (fun hU2 => ⟨_, rfl, am_step _ _ _ (b_M_both_76 ⟨fun q => absurd q (by decide), fun _ => ?_⟩)⟩) (fun hU2 => ⟨_, rfl, am_step _ _ _ (b_M_both_76 ⟨fun _ => ?_, fun q => absurd rfl q⟩)⟩)⟩
                  · rw [if_pos (bP_iff.mpr ⟨hU, hU2⟩)] at ih
                    rw [nI_add, nI_add]
                    exact ih
                  · rw [if_neg (fun w => hU2 (bP_iff.mp w).2)] at ih
                    rw [nI_add, nI_add, Nat.add_zero]
                    exact ih
                · refine ⟨fun _ => ?_, fun q => absurd rfl q⟩
                  rw [if_neg (fun w => hU (bP_iff.mp w).1)] at ih
                  rw [nI_add, nI_add, Nat.add_zero]
                  exact ih
              · refine am_step _ _ _ (b_M_both_40 ⟨fun q2 => absurd q2 (by decide), fun _ => ?_⟩)
                rw [both_eq s1 h4]
                exact hK
            exact key 0 (by decide)
        · refine ⟨am_k (-2), fun K hK => am_in _ _ _ (am_step _ _ _ (b_X_both_0 (s_isNoSet (by decide) ⟨_, rfl, am_step _ _ _ (b_X_both_4 ?_)⟩))), fun K hK => am_in _ _ _ (am_step _ _ _ (b_M_both_0 (s_isSet (by decide) ⟨_, rfl, am_step _ _ _ (b_M_both_4 ?_)⟩)))⟩
          · rw [s3]
            refine ⟨fun _ => s_isNoSet (by decide) ⟨_, rfl, am_step _ _ _ (b_X_both_11 ?_)⟩, fun q => absurd rfl q⟩
            rw [u3]
            refine ⟨fun _ => s_bitCount (by decide) s1 ⟨_, rfl, am_step _ _ _ (b_X_both_20 ?_)⟩, fun q => absurd rfl q⟩
            rw [h4]
            refine ⟨fun _ => s_bitCount (by decide) u1 ⟨_, rfl, am_step _ _ _ (b_X_both_28 ⟨fun q => ?_, fun _ => hK⟩)⟩, fun q => absurd rfl q⟩
            rw [nI_eq (by omega) (by decide)] at q
            exact absurd q g4
          · rw [s4]
            refine ⟨fun q => absurd q (by decide), fun _ => s_isSet (by decide) ⟨_, rfl, am_step _ _ _ (b_M_both_11 ?_)⟩⟩
            rw [u4]
            refine ⟨fun q => absurd q (by decide), fun _ => s_bits (by decide) (by omega) ⟨_, rfl, am_step _ _ _ (b_M_both_20 ?_)⟩⟩
            rw [h4]
            refine ⟨fun _ => s_bits (by decide) (by omega) ⟨_, rfl, am_step _ _ _ (b_M_both_28 ⟨fun q => ?_, fun _ => hK⟩)⟩, fun q => absurd rfl q⟩
            rw [nI_eq (by omega) (by decide)] at q
            exact absurd q g4
      · refine ⟨am_k (-2), fun K hK => am_in _ _ _ (am_step _ _ _ (b_X_both_0 (s_isNoSet (by decide) ⟨_, rfl, am_step _ _ _ (b_X_both_4 ?_)⟩))), fun K hK => am_in _ _ _ (am_step _ _ _ (b_M_both_0 (s_isSet (by decide) ⟨_, rfl, am_step _ _ _ (b_M_both_4 ?_)⟩)))⟩
        · rw [s3]
          refine ⟨fun _ => s_isNoSet (by decide) ⟨_, rfl, am_step _ _ _ (b_X_both_11 ?_)⟩, fun q => absurd rfl q⟩
          rw [u3]
          refine ⟨fun _ => s_bitCount (by decide) s1 ⟨_, rfl, am_step _ _ _ (b_X_both_20 ⟨fun q => ?_, fun _ => hK⟩)⟩, fun q => absurd rfl q⟩
          rw [nI_eq (by omega) (by decide)] at q
          exact absurd q h4
        · rw [s4]
          refine ⟨fun q => absurd q (by decide), fun _ => s_isSet (by decide) ⟨_, rfl, am_step _ _ _ (b_M_both_11 ?_)⟩⟩
          rw [u4]
          refine ⟨fun q => absurd q (by decide), fun _ => s_bits (by decide) (by omega) ⟨_, rfl, am_step _ _ _ (b_M_both_20 ⟨fun q => ?_, fun _ => hK⟩)⟩⟩
          rw [nI_eq (by omega) (by decide)] at q
          exact absurd q h4
    · refine ⟨am_k (-1), fun K hK => am_in _ _ _ (am_step _ _ _ (b_X_both_0 (s_isNoSet (by decide) ⟨_, rfl, am_step _ _ _ (b_X_both_4 ?_)⟩))), fun K hK => am_in _ _ _ (am_step _ _ _ (b_M_both_0 (s_isSet (by decide) ⟨_, rfl, am_step _ _ _ (b_M_both_4 ?_)⟩)))⟩
      · rw [s3]
        refine ⟨fun _ => s_isNoSet (by decide) ⟨_, rfl, am_step _ _ _ (b_X_both_11 ?_)⟩, fun q => absurd rfl q⟩
        rw [u3]
        exact ⟨fun q => absurd q (by decide), fun _ => hK⟩
      · rw [s4]
        refine ⟨fun q => absurd q (by decide), fun _ => s_isSet (by decide) ⟨_, rfl, am_step _ _ _ (b_M_both_11 ?_)⟩⟩
        rw [u4]
        exact ⟨fun _ => hK, fun q => absurd rfl q⟩
  · refine ⟨am_k (-1), fun K hK => am_in _ _ _ (am_step _ _ _ (b_X_both_0 (s_isNoSet (by decide) ⟨_, rfl, am_step _ _ _ (b_X_both_4 ?_)⟩))), fun K hK => am_in _ _ _ (am_step _ _ _ (b_M_both_0 (s_isSet (by decide) ⟨_, rfl, am_step _ _ _ (b_M_both_4 ?_)⟩)))⟩
    · rw [s3]
      exact ⟨fun q => absurd q (by decide), fun _ => hK⟩
    · rw [s4]
      exact ⟨fun _ => hK, fun q => absurd rfl q⟩
end OB
