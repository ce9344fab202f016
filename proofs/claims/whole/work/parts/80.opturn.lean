/-! THE OPERATION turn -/
section TU
variable {G : (Nat → Nat → Int32) → Prop}
theorem turn_uni {a b c two k : Nat} (ha : g_io a) (hb : g_io b) (hc : g_isw c) (h12 : pcn c = 12) (h1 : g_dif a c = two) (h2 : g_dif b c = two) (ht : pcn two = 2) (hk : c.testBit k = true) (k1 : a.testBit k = true) (k2 : b.testBit k = true) : a = b := by
  have al := io_lt ha
  have bl := io_lt hb
  have tb1 : ∀ j, two.testBit j = (a.testBit j && !c.testBit j) := fun j => by rw [← h1, dif_tb al]
  have tb2 : ∀ j, two.testBit j = (b.testBit j && !c.testBit j) := fun j => by rw [← h2, dif_tb bl]
  have w := isw_xor ha.1 hb.1
  have sub : g_sub (a ^^^ b) c := sub_tb.mpr fun j hj => by
    rw [Nat.testBit_xor] at hj
    have q1 := tb1 j
    have q2 := tb2 j
    cases hcj : c.testBit j
    · rw [hcj] at q1 q2
      rw [q1] at q2
      simp only [Bool.not_false, Bool.and_true] at q2
      rw [q2] at hj
      simp at hj
    · rfl
  have tk : two.testBit k = false := by
    rw [tb1, hk]
    simp
  have s3 : g_sub (two ||| 2 ^ k) (a &&& b) := sub_tb.mpr fun j hj => by
    rw [Nat.testBit_or, tb_p2] at hj
    rw [Nat.testBit_and]
    by_cases e : k = j
    · rw [← e, k1, k2]
      rfl
    · rw [decide_eq_false e, Bool.or_false] at hj
      have q1 := tb1 j
      have q2 := tb2 j
      rw [hj] at q1 q2
      cases ha2 : a.testBit j
      · rw [ha2] at q1
        cases q1
      · cases hb2 : b.testBit j
        · rw [hb2] at q2
          cases q2
        · rfl
  have p3 : pcn (two ||| 2 ^ k) = 3 := by
    rw [pcn_or, tk, ht]
    rfl
  have q := (pcn_sub s3).1
  have e := pcn_xa a b
  have := ha.2
  have := hb.2
  have ps := pcn_sub sub
  rcases isw_wt w with z | z | z | z | z
  · exact xor_0 z
  · have w2 := isw_xor w hc
    rcases isw_wt w2 with y | y | y | y | y
    · rw [y, pcn_0] at ps
      omega
    · omega
    · omega
    · omega
    · omega
  · omega
  · omega
  · omega
theorem turn_val {a c two : Nat} (al : a < 2 ^ 24) (h1 : g_dif a c = two) : a &&& c = g_dif a two := by
  apply Nat.eq_of_testBit_eq
  intro j
  rw [Nat.testBit_and, dif_tb al, ← h1, dif_tb al]
  cases a.testBit j <;> cases c.testBit j <;> rfl
theorem two_pcn {p q : Nat} (h : ¬ p = q) : pcn (2 ^ p ||| 2 ^ q) = 2 := by
  rw [pcn_or, tb_p2, decide_eq_false h, pcn_p2]
  rfl
theorem op_turn (a0 a1 : Int32) : lw_Op (vV G) k_X_turn k_M_turn [.int a0, .int a1] := by
  refine op_pure fun I Lg rr n hV => ?_
  have hT := hV.1
  obtain ⟨now, us, ks, ok, hks, hc, hm, h28⟩ := hV.2.1
  have cl := dd_lt ok.2.1
  have em : I 1470 (am_un (nI 120)) = nI now.2.1 := hm.1.2.1
  have ec : I 1337 1 = nI now.2.1 := hc.1.2.1
  obtain ⟨kc, kc1, kc2, kc3⟩ := ok.2.1
  have cw : g_isw now.2.1 := by rw [kc2]; exact isw_w kc1
  have c12 : pcn now.2.1 = 12 := by rw [kc2, kc3]
  generalize now.2.1 = c at *
  have c0 : ¬ c = 0 := fun e => by rw [e, pcn_0] at c12; cases c12
  have lo := low_lo (Nat.lt_trans cl (by decide)) c0
  have hlow : m_low c < 24 := tb_lt cl lo.1
  rcases rng_cases a0 (N := 24) (by decide) (by decide) with ⟨p, p1, rfl, p3, p4, p5⟩ | ⟨p3, p4, p5⟩
  · rcases rng_cases a1 (N := 24) (by decide) (by decide) with ⟨q, q1, rfl, q3, q4, q5⟩ | ⟨q3, q4, q5⟩
    · have p2 : (2 : Nat) ^ p < 2 ^ 24 := Nat.pow_lt_pow_right (by decide) p1
      have q2 : (2 : Nat) ^ q < 2 ^ 24 := Nat.pow_lt_pow_right (by decide) q1
      have tl : 2 ^ p ||| 2 ^ q < 2 ^ 24 := Nat.or_lt_two_pow p2 q2
      have e2 : (nI 1 <<< (nI p &&& 31)) ||| (nI 1 <<< (nI q &&& 31)) = nI (2 ^ p ||| 2 ^ q) := by rw [n_p2 (by omega), n_p2 (by omega), n_or]
      have tcl := and_lt24 (b := c) tl
      by_cases hn : p = q ∨ ¬ (2 ^ p ||| 2 ^ q) &&& c = 0
      · refine ⟨am_k (-2), fun K hK => am_in _ _ _ (am_step _ _ _ (b_X_turn_0 (s_isOutside (by decide) ⟨_, rfl, am_step _ _ _ (b_X_turn_6 ?_)⟩))), fun K hK => am_in _ _ _ (am_step _ _ _ (b_M_turn_0 (s_isPlace (by decide) ⟨_, rfl, am_step _ _ _ (b_M_turn_5 ?_)⟩)))⟩
        · rw [p3]
          refine ⟨fun _ => s_isOutside (by decide) ⟨_, rfl, am_step _ _ _ (b_X_turn_15 ?_)⟩, fun q => absurd rfl q⟩
          rw [q3, ec, e2, n_and]
          refine ⟨fun _ => ⟨fun _ => hK, fun z => ⟨fun z2 => ?_, fun _ => hK⟩⟩, fun q => absurd rfl q⟩
          have z2 : nI ((2 ^ p ||| 2 ^ q) &&& c) = nI 0 := z2
          rw [nI_eq (by omega) (by decide)] at z2
          rcases hn with hn | hn
          · exact absurd (by rw [hn]) z
          · exact absurd z2 hn
        · rw [p5]
          refine ⟨fun q => absurd q (by decide), fun _ => s_isPlace (by decide) ⟨_, rfl, am_step _ _ _ (b_M_turn_13 ?_)⟩⟩
          rw [q5, em, e2, n_and]
          refine ⟨fun q => absurd q (by decide), fun _ => ⟨fun _ => hK, fun z => ⟨by decide, fun z2 => ?_, fun _ => hK⟩⟩⟩
          have z2 : nI ((2 ^ p ||| 2 ^ q) &&& c) = nI 0 := z2
          rw [nI_eq (by omega) (by decide)] at z2
          rcases hn with hn | hn
          · exact absurd (by rw [hn]) z
          · exact absurd z2 hn
      · have hn1 : ¬ p = q := fun e => hn (Or.inl e)
        have hn2 : (2 ^ p ||| 2 ^ q) &&& c = 0 := Classical.byContradiction fun e => hn (Or.inr e)
        have tp := two_pcn hn1
        generalize 2 ^ p ||| 2 ^ q = two at *
        -- octad j is what is asked for
        have uni : ∀ i j, i < 759 → j < 759 → g_dif (g_oct i) c = two → (g_oct i).testBit (m_low c) = true → g_dif (g_oct j) c = two → (g_oct j).testBit (m_low c) = true → g_oct i = g_oct j := fun i j hi hj a1 a2 b1 b2 => turn_uni (oct_io hi) (oct_io hj) cw c12 a1 b1 tp lo.1 a2 b2
        have main : ∀ r : Int32, (∀ j, j < 759 → g_dif (g_oct j) c = two → (g_oct j).testBit (m_low c) = true → r = nI (g_oct j &&& c)) → ((∀ j, j < 759 → g_dif (g_oct j) c = two → (g_oct j).testBit (m_low c) = true → False) → r = am_k (-4)) → ∃ r : Int32, (∀ K : Option Value → am_M → Prop, K (some (.int r)) (am_st I Lg rr n) → am_AC 100 k_X_turn (.ref 12 :: [.int (nI p), .int (nI q)]) (am_st I Lg rr n) K) ∧ ∀ K : Option Value → am_M → Prop, K (some (.int r)) (am_st I Lg rr n) → am_AC 100 k_M_turn (.ref 1469 :: [.int (nI p), .int (nI q)]) (am_st I Lg rr n) K := by
          intro r r1 r2
          refine ⟨r, fun K hK => am_in _ _ _ (am_step _ _ _ (b_X_turn_0 (s_isOutside (by decide) ⟨_, rfl, am_step _ _ _ (b_X_turn_6 ?_)⟩))), fun K hK => am_in _ _ _ (am_step _ _ _ (b_M_turn_0 (s_isPlace (by decide) ⟨_, rfl, am_step _ _ _ (b_M_turn_5 ?_)⟩)))⟩
          · rw [p3]
            refine ⟨fun _ => s_isOutside (by decide) ⟨_, rfl, am_step _ _ _ (b_X_turn_15 ?_)⟩, fun q => absurd rfl q⟩
            rw [q3, ec, e2, n_and, hn2, n_low (by omega) lo]
            refine ⟨fun _ => ⟨fun z => ?_, fun _ => ⟨fun _ => ?_, fun z => absurd rfl z⟩⟩, fun q => absurd rfl q⟩
            · rw [nI_eq (by omega) (by omega)] at z
              exact absurd z hn1
            · have key : ∀ k, k ≤ 759 → (∀ j, j < k → g_dif (g_oct j) c = two → (g_oct j).testBit (m_low c) = true → False) → am_St 99 k_X_turn (am_st I Lg rr n) K 78 [some (.ref 12), some (.int (nI p)), some (.int (nI q)), some (.int (nI c)), some (.int (nI two)), some (.int (nI (2 ^ m_low c))), some (.ref 21), some (.int (nI 759)), some (.int (nI k)), none] [] (am_st I Lg rr n) := by
                refine lp_up _ (fun k hk ih => ?_) ?_
                · intro hnone
                  have eu : am_un (nI k) = k := n_un (by omega)
                  have eo : I 21 k = nI (g_oct k) := hT.2.1.2.1 k hk
                  have ol := oct_lt hk
                  have dl := dif_lt (b := c) ol
                  have pw : (2 : Nat) ^ m_low c < 2 ^ 24 := Nat.pow_lt_pow_right (by decide) hlow
                  refine am_step _ _ _ (b_X_turn_78 ⟨fun _ => ?_, fun z => absurd (nI_lt hk (by decide)) z⟩)
                  rw [eu, eo, n_dif, n_and, n_and, nI_add]
                  refine ⟨hk, fun z => ⟨fun z2 => ?_, fun z2 => ?_⟩, fun z => ?_⟩
                  · rw [nI_eq (by omega) (by omega)] at z
                    have z2 : nI (g_oct k &&& 2 ^ m_low c) = nI 0 := z2
                    rw [and_p2] at z2
                    refine am_fg (le_same _ (le_same _ (le_same _ (le_same _ (le_same _ (le_same _ (le_same _ (le_same _ (le_same _ (le_int _ le_nil)))))))))) (ih (fun j hj a1 a2 => ?_))
                    by_cases e : j = k
                    · subst e
                      rw [a2, if_pos rfl, nI_eq (by omega) (by decide)] at z2
                      have := Nat.two_pow_pos (m_low c)
                      omega
                    · exact hnone j (by omega) a1 a2
                  · rw [nI_eq (by omega) (by omega)] at z
                    have tk : (g_oct k).testBit (m_low c) = true := by
                      cases hb : (g_oct k).testBit (m_low c)
                      · rw [and_p2, hb] at z2
                        exact absurd rfl z2
                      · rfl
                    rw [r1 k hk z tk] at hK
                    exact hK
                  · have z : ¬ g_dif (g_oct k) c = two := fun e => z (by rw [e])
                    refine am_fg (le_same _ (le_same _ (le_same _ (le_same _ (le_same _ (le_same _ (le_same _ (le_same _ (le_same _ (le_int _ le_nil)))))))))) (ih (fun j hj a1 a2 => ?_))
                    by_cases e : j = k
                    · subst e
                      exact z a1
                    · exact hnone j (by omega) a1 a2
                · intro hnone
                  refine am_step _ _ _ (b_X_turn_78 ⟨fun z => absurd z (by decide), fun _ => ?_⟩)
                  rw [r2 hnone] at hK
                  exact hK
              exact key 0 (by decide) (fun j hj => absurd hj (Nat.not_lt_zero j))
          · rw [p5]
            refine ⟨fun q => absurd q (by decide), fun _ => s_isPlace (by decide) ⟨_, rfl, am_step _ _ _ (b_M_turn_13 ?_)⟩⟩
            rw [q5, em, e2, n_and, hn2]
            refine ⟨fun q => absurd q (by decide), fun _ => ⟨fun z => ?_, fun _ => ⟨by decide, fun _ => ?_, fun z => absurd rfl z⟩⟩⟩
            · rw [nI_eq (by omega) (by omega)] at z
              exact absurd z hn1
            · have key : ∀ k, k ≤ 759 → ∀ v : Int32, (∀ j, j < k → g_dif (g_oct j) c = two → (g_oct j).testBit (m_low c) = true → v = nI (g_oct j &&& c)) → ((∀ j, j < k → g_dif (g_oct j) c = two → (g_oct j).testBit (m_low c) = true → False) → v = am_k (-4)) → am_St 99 k_M_turn (am_st I Lg rr n) K 53 [some (.ref 1469), some (.int (nI p)), some (.int (nI q)), some (.int (nI two)), some (.int v), some (.int (nI k)), none] [] (am_st I Lg rr n) := by
                refine lp_up _ (fun k hk ih => ?_) ?_
                · intro v v1 v2
                  have eu : am_un (nI k) = k := n_un (by omega)
                  have eo : I 1474 k = nI (g_oct k) := hT.2.2.2.2.2.2 k hk
                  have ol := oct_lt hk
                  have dl := dif_lt (b := c) ol
                  have skip : ¬ (g_dif (g_oct k) c = two ∧ (g_oct k).testBit (m_low c) = true) → ∀ y : Int32, am_St 99 k_M_turn (am_st I Lg rr n) K 53 [some (.ref 1469), some (.int (nI p)), some (.int (nI q)), some (.int (nI two)), some (.int v), some (.int (nI (k + 1))), some (.int y)] [] (am_st I Lg rr n) := fun hno y => by
                    refine am_fg (le_same _ (le_same _ (le_same _ (le_same _ (le_same _ (le_same _ (le_int _ le_nil))))))) (ih v (fun j hj a1 a2 => ?_) (fun hz => v2 fun j hj => hz j (by omega)))
                    by_cases e : j = k
                    · subst e
                      exact absurd ⟨a1, a2⟩ hno
                    · exact v1 j (by omega) a1 a2
                  refine am_step _ _ _ (b_M_turn_53 ⟨fun _ => ?_, fun z => absurd (nI_lt hk (by decide)) z⟩)
                  rw [eu, eo, em, n_dif, nI_add]
                  refine ⟨hk, by decide, fun z => ⟨hk, by decide, s_lowest (by decide) (by omega) ⟨_, rfl, am_step _ _ _ (b_M_turn_99 (s_has (by decide) ⟨_, rfl, am_step _ _ _ (b_M_turn_102 ?_)⟩))⟩⟩, fun z => ⟨fun _ => ?_, fun z2 => absurd rfl z2⟩⟩
                  · rw [nI_eq (by omega) (by omega)] at z
                    rw [m_has_n (by omega) (by omega), eu, eo, n_dif, nI_add]
                    cases hb : (g_oct k).testBit (m_low c)
                    · exact ⟨fun _ => ⟨fun _ => skip (fun h => by rw [hb] at h; cases h.2) _, fun z2 => absurd rfl z2⟩, fun z2 => absurd rfl z2⟩
                    · refine ⟨fun z2 => absurd z2 (by decide), fun _ => ⟨fun z2 => absurd z2 (by decide), fun _ => ⟨hk, ?_⟩⟩⟩
                      rw [← turn_val ol z]
                      refine am_fg (le_same _ (le_same _ (le_same _ (le_same _ (le_same _ (le_same _ (le_int _ le_nil))))))) (ih _ (fun j hj a1 a2 => ?_) (fun hz => absurd (hz k (by omega) z hb) id))
                      rw [uni k j hk (by omega) z hb a1 a2]
                  · exact skip (fun h => z (by rw [h.1])) _
                · intro v v1 v2
                  refine am_step _ _ _ (b_M_turn_53 ⟨fun z => absurd z (by decide), fun _ => ?_⟩)
                  by_cases e : ∃ j, j < 759 ∧ g_dif (g_oct j) c = two ∧ (g_oct j).testBit (m_low c) = true
                  · obtain ⟨j, j1, j2, j3⟩ := e
                    rw [r1 j j1 j2 j3] at hK
                    rw [v1 j j1 j2 j3]
                    exact hK
                  · have hz : ∀ j, j < 759 → g_dif (g_oct j) c = two → (g_oct j).testBit (m_low c) = true → False := fun j j1 j2 j3 => e ⟨j, j1, j2, j3⟩
                    rw [r2 hz] at hK
                    rw [v2 hz]
                    exact hK
              exact key 0 (by decide) _ (fun j hj => absurd hj (Nat.not_lt_zero j)) (fun _ => rfl)
        by_cases e : ∃ j, j < 759 ∧ g_dif (g_oct j) c = two ∧ (g_oct j).testBit (m_low c) = true
        · obtain ⟨j, j1, j2, j3⟩ := e
          exact main (nI (g_oct j &&& c)) (fun i i1 i2 i3 => by rw [uni i j i1 j1 i2 i3 j2 j3]) (fun hz => absurd (hz j j1 j2 j3) id)
        · exact main (am_k (-4)) (fun j j1 j2 j3 => absurd ⟨j, j1, j2, j3⟩ e) (fun _ => rfl)
    · refine ⟨am_k (-1), fun K hK => am_in _ _ _ (am_step _ _ _ (b_X_turn_0 (s_isOutside (by decide) ⟨_, rfl, am_step _ _ _ (b_X_turn_6 ?_)⟩))), fun K hK => am_in _ _ _ (am_step _ _ _ (b_M_turn_0 (s_isPlace (by decide) ⟨_, rfl, am_step _ _ _ (b_M_turn_5 ?_)⟩)))⟩
      · rw [p3]
        refine ⟨fun _ => s_isOutside (by decide) ⟨_, rfl, am_step _ _ _ (b_X_turn_15 ?_)⟩, fun q => absurd rfl q⟩
        rw [q3]
        exact ⟨fun q => absurd q (by decide), fun _ => hK⟩
      · rw [p5]
        refine ⟨fun q => absurd q (by decide), fun _ => s_isPlace (by decide) ⟨_, rfl, am_step _ _ _ (b_M_turn_13 ?_)⟩⟩
        rw [q5]
        exact ⟨fun _ => hK, fun q => absurd rfl q⟩
  · refine ⟨am_k (-1), fun K hK => am_in _ _ _ (am_step _ _ _ (b_X_turn_0 (s_isOutside (by decide) ⟨_, rfl, am_step _ _ _ (b_X_turn_6 ?_)⟩))), fun K hK => am_in _ _ _ (am_step _ _ _ (b_M_turn_0 (s_isPlace (by decide) ⟨_, rfl, am_step _ _ _ (b_M_turn_5 ?_)⟩)))⟩
    · rw [p3]
      exact ⟨fun q => absurd q (by decide), fun _ => hK⟩
    · rw [p5]
      exact ⟨fun _ => hK, fun q => absurd rfl q⟩
end TU
