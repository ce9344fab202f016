/-! THE OPERATIONS letter, told -/
section LT
variable {G : (Nat → Nat → Int32) → Prop}
theorem scr_x {I J : Nat → Nat → Int32} (h : tx_X I J) : scr I J := ⟨fun b hb => h b (by omega) (by omega), by rw [h 1438 (by decide) (by decide)], fun j _ _ _ => by rw [h 1469 (by decide) (by decide)]⟩
theorem scr_m {I J : Nat → Nat → Int32} (h : tx_M I J) : scr I J := ⟨fun b hb => h.1 b (by omega) (by omega), by rw [h.1 1438 (by decide) (by decide)], fun j h7 _ _ => h.2 j h7⟩
theorem ps_fun {f : Nat → Nat} (hf : a_pm f) : ∃ l : Nat → Nat, ∀ p, p < 24 → g_ps f p (l p) := by
  refine ⟨fun p => Classical.epsilon fun l => g_ps f p l, fun p hp => ?_⟩
  exact Classical.epsilon_spec (p := fun l => g_ps f p l) (ps_ex hf hp)
theorem op_letter (hG : g_fr G) (a0 a1 : Int32) : lw_Op (vV G) k_X_letter k_M_letter [.int a0, .int a1] := by
  intro I Lg rr n hV
  obtain ⟨now, us, ks, ok, hks, hc, hm, h28⟩ := hV.2.1
  rcases rng_cases a0 (N := 5) (by decide) (by decide) with ⟨m, m1, rfl, m3, m4, m5⟩ | ⟨m3, m4, m5⟩
  · have em : am_un (nI m) = m := n_un (by omega)
    have hf := ok.1 m m1
    obtain ⟨l, hl⟩ := ps_fun hf
    have l74 := tx_74 hf hl (Nat.le_refl 24)
    by_cases hn : a1 < 0
    · refine am_in _ _ _ (am_step _ _ _ (b_X_letter_0 (s_isOutside (by decide) ⟨_, rfl, am_step _ _ _ (b_X_letter_5 ?_)⟩)))
      rw [m3]
      refine ⟨fun _ => ⟨fun _ => ⟨_, rfl, I, Lg, rr, rfl, rfl, am_in _ _ _ (am_step _ _ _ (b_M_letter_0 (s_isMove (by decide) ⟨_, rfl, am_step _ _ _ (b_M_letter_4 ?_)⟩)))⟩, fun q => absurd hn q⟩, fun q => absurd rfl q⟩
      rw [m4]
      exact ⟨fun q => absurd q (by decide), fun _ => ⟨fun _ => ⟨_, rfl, I, Lg, rr, rfl, rfl, hV⟩, fun q => absurd hn q⟩⟩
    · have hn2 : 0 ≤ a1.toInt := by
        rw [neg_0] at hn
        omega
      obtain ⟨k, k1, rfl⟩ : ∃ k, k < 2 ^ 31 ∧ a1 = nI k := ⟨_, (i_nat hn2).2, (i_nat hn2).1⟩
      have ek : am_un (nI k) = k := n_un (by omega)
      have mdl : ∀ I2 : Nat → Nat → Int32, tx_X I I2 → ∀ K : Option Value → am_M → Prop, (∀ J, tx_M I2 J → K (some (.int (if k < (g_tx (now.1 m) l 24).length then nI ((g_tx (now.1 m) l 24).getD k 0) else am_k (-4)))) (am_st J Lg rr n)) → am_AC 100 k_M_letter [.ref 1469, .int (nI m), .int (nI k)] (am_st I2 Lg rr n) K := by
        intro I2 hX K hK
        refine am_in _ _ _ (am_step _ _ _ (b_M_letter_0 (s_isMove (by decide) ⟨_, rfl, am_step _ _ _ (b_M_letter_4 ?_)⟩)))
        rw [m4]
        refine ⟨fun q => absurd q (by decide), fun _ => ⟨fun q => absurd q hn, fun _ => s_texts (I := I2) (f := now.1 m) (by decide) m1 (fun p hp => by rw [hX 1470 (by decide) (by decide)]; exact now_m hm.1 m1 p hp) hf hl (fun J hJ hM => ⟨_, rfl, am_step _ _ _ (b_M_letter_19 ⟨fun q => ?_, fun q => ?_⟩)⟩)⟩⟩
        · have hK := hK J hM
          rw [nI_ltI (by omega) (by omega)] at q
          rw [if_pos q] at hK
          rw [ek, hJ.2 k q]
          exact ⟨by omega, hK⟩
        · have hK := hK J hM
          rw [nI_ltI (by omega) (by omega)] at q
          rw [if_neg q] at hK
          exact hK
      refine am_in _ _ _ (am_step _ _ _ (b_X_letter_0 (s_isOutside (by decide) ⟨_, rfl, am_step _ _ _ (b_X_letter_5 ?_)⟩)))
      rw [m3, em]
      refine ⟨fun _ => ⟨fun q => absurd q hn, fun _ => ⟨m1, am_obi (RR_now rr m m1) (s_write (by decide) (ro_now m1) (now_x hc.1 m1) hf hl ⟨by omega, by omega⟩ (fun J hJ hX => ⟨_, rfl, am_step _ _ _ (b_X_letter_33 (am_in _ _ _ (am_step _ _ _ (b_Cy_letterAt_0 ?_))))⟩))⟩⟩, fun q => absurd rfl q⟩
      have fin : ∀ x : Int32, x = (if k < (g_tx (now.1 m) l 24).length then nI ((g_tx (now.1 m) l 24).getD k 0) else am_k (-4)) → am_R k_Cy_letterAt (am_st J Lg rr n) (am_qi fun x1 M1 => am_St 99 k_X_letter (am_st I Lg rr n) (am_qi fun x M1 => ∃ I1 Lg1 rr1, M1 = am_st I1 Lg1 rr1 n ∧ I1 0 = I 0 ∧ am_AC 100 k_M_letter (.ref 1469 :: [.int (nI m), .int (nI k)]) M1 (am_qi fun y M2 => ∃ I2 Lg2 rr2, M2 = am_st I2 Lg2 rr2 n ∧ y = x ∧ vV G I2 Lg2 rr2 n)) 42 [some (.ref 12), some (.int (nI m)), some (.int (nI k))] [.int x1] M1) (some (.int x)) (am_st J Lg rr n) := by
        intro x hx
        refine ⟨_, rfl, am_step _ _ _ (b_X_letter_42 ⟨_, rfl, J, Lg, rr, rfl, hX 0 (by decide) (by decide), mdl J hX _ (fun J2 hM => ⟨_, rfl, J2, Lg, rr, rfl, hx.symm, ?_⟩)⟩)⟩
        exact (hV.scr hG (scr_x hX) (fun _ _ => rfl) (fun _ _ => rfl)).scr hG (scr_m hM) (fun _ _ => rfl) (fun _ _ => rfl)
      rw [hJ.1, ek]
      refine ⟨fun q => absurd q hn, fun _ => ⟨fun q => ⟨fun _ => ⟨?_, ?_⟩, fun q2 => ?_⟩, fun q => ?_⟩⟩
      · rw [nI_ltI (by omega) (by omega)] at q
        omega
      · rw [nI_ltI (by omega) (by omega)] at q
        rw [hJ.2 k q]
        exact fin _ (by rw [if_pos q])
      · rw [nI_ltI (by omega) (by omega)] at q
        exact absurd (nI_lt (show k < 74 by omega) (by decide)) q2
      · rw [nI_ltI (by omega) (by omega)] at q
        exact fin _ (by rw [if_neg q])
  · refine am_in _ _ _ (am_step _ _ _ (b_X_letter_0 (s_isOutside (by decide) ⟨_, rfl, am_step _ _ _ (b_X_letter_5 ?_)⟩)))
    rw [m3]
    refine ⟨fun q => absurd q (by decide), fun _ => ⟨_, rfl, I, Lg, rr, rfl, rfl, am_in _ _ _ (am_step _ _ _ (b_M_letter_0 (s_isMove (by decide) ⟨_, rfl, am_step _ _ _ (b_M_letter_4 ?_)⟩)))⟩⟩
    rw [m4]
    exact ⟨fun _ => ⟨_, rfl, I, Lg, rr, rfl, rfl, hV⟩, fun q => absurd rfl q⟩
theorem s_whereGoes {d a c : Nat} {f : Nat → Nat} {K : Option Value → am_M → Prop} {I : Nat → Nat → Int32} {Lg : Nat → Nat → Int64} {rr : Nat → Nat → Option Nat} {n : Nat} (hd : 2 ≤ d) (ha : am_ro 1497 a 24) (hI : ∀ p, p < 24 → I a p = nI (f p)) (hf : a_pm f) (hc : I 1337 1 = nI c) (cl : c < 2 ^ 24) (h : K (some (.int (if g_im f c 24 = c then nI 1 else if g_im f c 24 = 16777215 ^^^ c then nI 2 else nI 0))) (am_st I Lg rr n)) : am_AC d k_X_whereChosenGoes [.ref 12, .ref a] (am_st I Lg rr n) K := by
  obtain ⟨d, rfl, hd1⟩ := s_up hd
  have il := im_lt hf.1 c 24 (Nat.le_refl _)
  have xl := xor_lt all_lt cl
  refine am_in _ _ _ (am_step _ _ _ (b_X_whereChosenGoes_0 ?_))
  rw [hc]
  refine s_imageOf hd1 ha hI hf.1 (by omega) ⟨_, rfl, am_step _ _ _ (b_X_whereChosenGoes_16 ?_)⟩
  rw [n_xor]
  refine ⟨fun q => ?_, fun q => ⟨fun q2 => ?_, fun q2 => ?_⟩⟩
  · rw [nI_eq (by omega) (by omega)] at q
    rw [if_pos q] at h
    exact h
  · have q : ¬ g_im f c 24 = c := fun e => q (by rw [e])
    rw [nI_eq (by omega) (by omega)] at q2
    rw [if_neg q, if_pos q2] at h
    exact h
  · have q : ¬ g_im f c 24 = c := fun e => q (by rw [e])
    have q2 : ¬ g_im f c 24 = 16777215 ^^^ c := fun e => q2 (by rw [e])
    rw [if_neg q, if_neg q2] at h
    exact h
theorem op_told (hG : g_fr G) (a0 a1 : Int32) : lw_Op (vV G) k_X_told k_M_told [.int a0, .int a1] := by
  intro I Lg rr n hV
  have hT := hV.1
  obtain ⟨now, us, ks, ok, hks, hc, hm, h28⟩ := hV.2.1
  have cl := dd_lt ok.2.1
  have e120 : I 1470 (am_un (nI 120)) = nI now.2.1 := hm.1.2.1
  rcases rng_cases a0 (N := 5) (by decide) (by decide) with ⟨m, m1, rfl, m3, m4, m5⟩ | ⟨m3, m4, m5⟩
  · have em : am_un (nI m) = m := n_un (by omega)
    have hf := ok.1 m m1
    obtain ⟨l, hl⟩ := ps_fun hf
    have z10 : ¬ nI 1 = 0 := by decide
    have rcl := cnt_le (g_lsb (now.1 m)) 24
    rcases rng_cases a1 (N := 8) (by decide) (by decide) with ⟨c, c1, rfl, c3, c4, c5⟩ | ⟨c3, c4, c5⟩
    · -- the class comes to the question
      have X14 : ∀ K : Option Value → am_M → Prop, am_St 99 k_X_told (am_st I Lg rr n) K 14 [some (.ref 12), some (.int (nI m)), some (.int (nI c)), none] [.int (nI 0)] (am_st I Lg rr n) → am_AC 100 k_X_told [.ref 12, .int (nI m), .int (nI c)] (am_st I Lg rr n) K := fun K h => by
        refine am_in _ _ _ (am_step _ _ _ (b_X_told_0 (s_isOutside (by decide) ⟨_, rfl, am_step _ _ _ (b_X_told_5 ?_)⟩)))
        rw [m3]
        refine ⟨fun _ => s_isOutside (by decide) ⟨_, rfl, ?_⟩, fun q => absurd rfl q⟩
        rw [c3]
        exact h
      have M4 : ∀ (I : Nat → Nat → Int32) (K : Option Value → am_M → Prop), am_St 99 k_M_told (am_st I Lg rr n) K 4 [some (.ref 1469), some (.int (nI m)), some (.int (nI c))] [.int (nI 1)] (am_st I Lg rr n) → am_AC 100 k_M_told [.ref 1469, .int (nI m), .int (nI c)] (am_st I Lg rr n) K := fun I K h => by
        refine am_in _ _ _ (am_step _ _ _ (b_M_told_0 (s_isMove (by decide) ⟨_, rfl, ?_⟩)))
        rw [m4]
        exact h
      have fin : ∀ (r : Int32), (∀ K : Option Value → am_M → Prop, K (some (.int r)) (am_st I Lg rr n) → am_AC 100 k_X_told [.ref 12, .int (nI m), .int (nI c)] (am_st I Lg rr n) K) → (∀ K : Option Value → am_M → Prop, K (some (.int r)) (am_st I Lg rr n) → am_AC 100 k_M_told [.ref 1469, .int (nI m), .int (nI c)] (am_st I Lg rr n) K) → am_AC 100 k_X_told (.ref 12 :: [.int (nI m), .int (nI c)]) (am_st I Lg rr n) (am_qi fun x M1 => ∃ I1 Lg1 rr1, M1 = am_st I1 Lg1 rr1 n ∧ I1 0 = I 0 ∧ am_AC 100 k_M_told (.ref 1469 :: [.int (nI m), .int (nI c)]) M1 (am_qi fun y M2 => ∃ I2 Lg2 rr2, M2 = am_st I2 Lg2 rr2 n ∧ y = x ∧ vV G I2 Lg2 rr2 n)) := fun r h1 h2 => h1 _ ⟨r, rfl, I, Lg, rr, rfl, rfl, h2 _ ⟨r, rfl, I, Lg, rr, rfl, rfl, hV⟩⟩
      have hI := now_x hc.1 m1
      have hI2 := now_m hm.1 m1
      have ro := ro_now m1
      have hcc : c = 0 ∨ c = 1 ∨ c = 2 ∨ c = 3 ∨ c = 4 ∨ c = 5 ∨ c = 6 ∨ c = 7 := by omega
      rcases hcc with rfl | rfl | rfl | rfl | rfl | rfl | rfl | rfl
      · refine fin (if g_pvb (now.1 m) then nI 1 else nI 0) (fun K hK => X14 K (am_step _ _ _ (b_X_told_14 ⟨fun _ => ?_, fun q => absurd rfl q⟩))) (fun K hK => M4 I K (am_step _ _ _ (b_M_told_4 ⟨fun q => absurd q z10, fun _ => ⟨fun _ => s_keeps (by decide) hT m1 hI2 hf.1 ⟨_, rfl, am_step _ _ _ (b_M_told_61 ?_)⟩, fun q => absurd rfl q⟩⟩)))
        · rw [em]
          refine ⟨m1, am_obi (RR_now rr m m1) ⟨fun _ => s_isPreservedBy (by decide) hT ro hI hf.1 ⟨_, rfl, am_step _ _ _ (b_X_told_84 ?_)⟩, fun q => absurd rfl q⟩⟩
          cases hb : g_pvb (now.1 m)
          · rw [hb] at hK
            exact ⟨fun _ => hK, fun q => absurd rfl q⟩
          · rw [hb] at hK
            exact ⟨fun q => absurd q (by decide), fun _ => hK⟩
        · cases hb : g_pvb (now.1 m)
          · rw [hb] at hK
            exact ⟨fun _ => hK, fun q => absurd rfl q⟩
          · rw [hb] at hK
            exact ⟨fun q => absurd q (by decide), fun _ => hK⟩
      · refine fin _ (fun K hK => X14 K (am_step _ _ _ (b_X_told_14 ⟨fun _ => ?_, fun q => absurd rfl q⟩))) (fun K hK => M4 I K (am_step _ _ _ (b_M_told_4 ⟨fun q => absurd q z10, fun _ => ⟨fun q => absurd q (by decide), fun _ => ⟨fun _ => s_stays (by decide) m1 hI2 hf ⟨_, rfl, am_step _ _ _ (b_M_told_75 hK)⟩, fun q => absurd rfl q⟩⟩⟩)))
        rw [em]
        exact ⟨m1, am_obi (RR_now rr m m1) ⟨fun q => absurd q (by decide), fun _ => ⟨fun _ => s_fixedPoints (by decide) ro hI hf ⟨_, rfl, am_step _ _ _ (b_X_told_97 hK)⟩, fun q => absurd rfl q⟩⟩⟩
      · refine fin _ (fun K hK => X14 K (am_step _ _ _ (b_X_told_14 ⟨fun _ => ?_, fun q => absurd rfl q⟩))) (fun K hK => M4 I K (am_step _ _ _ (b_M_told_4 ⟨fun q => absurd q z10, fun _ => ⟨fun q => absurd q (by decide), fun _ => ⟨fun q => absurd q (by decide), fun _ => ⟨fun _ => s_rings (by decide) m1 hI2 hf ⟨_, rfl, am_step _ _ _ (b_M_told_81 hK)⟩, fun q => absurd rfl q⟩⟩⟩⟩)))
        rw [em]
        exact ⟨m1, am_obi (RR_now rr m m1) ⟨fun q => absurd q (by decide), fun _ => ⟨fun q => absurd q (by decide), fun _ => ⟨fun _ => s_cycleCount (by decide) ro hI hf ⟨_, rfl, am_step _ _ _ (b_X_told_102 hK)⟩, fun q => absurd rfl q⟩⟩⟩⟩
      · refine fin _ (fun K hK => X14 K (am_step _ _ _ (b_X_told_14 ⟨fun _ => ?_, fun q => absurd rfl q⟩))) (fun K hK => M4 I K (am_step _ _ _ (b_M_told_4 ⟨fun q => absurd q z10, fun _ => ⟨fun q => absurd q (by decide), fun _ => ⟨fun q => absurd q (by decide), fun _ => ⟨fun q => absurd q (by decide), fun _ => ⟨fun _ => s_orderOf (by decide) m1 hI2 hf hl ⟨_, rfl, am_step _ _ _ (b_M_told_87 hK)⟩, fun q => absurd rfl q⟩⟩⟩⟩⟩)))
        rw [em]
        exact ⟨m1, am_obi (RR_now rr m m1) ⟨fun q => absurd q (by decide), fun _ => ⟨fun q => absurd q (by decide), fun _ => ⟨fun q => absurd q (by decide), fun _ => ⟨fun _ => s_order (by decide) ro hI hf hl ⟨_, rfl, am_step _ _ _ (b_X_told_107 hK)⟩, fun q => absurd rfl q⟩⟩⟩⟩⟩
      · refine fin _ (fun K hK => X14 K (am_step _ _ _ (b_X_told_14 ⟨fun _ => ?_, fun q => absurd rfl q⟩))) (fun K hK => M4 I K (am_step _ _ _ (b_M_told_4 ⟨fun q => absurd q z10, fun _ => ⟨fun q => absurd q (by decide), fun _ => ⟨fun q => absurd q (by decide), fun _ => ⟨fun q => absurd q (by decide), fun _ => ⟨fun q => absurd q (by decide), fun _ => ⟨fun _ => s_rings (by decide) m1 hI2 hf ⟨_, rfl, am_step _ _ _ (b_M_told_95 hK)⟩, fun q => absurd rfl q⟩⟩⟩⟩⟩⟩)))
        rw [em]
        exact ⟨m1, am_obi (RR_now rr m m1) ⟨fun q => absurd q (by decide), fun _ => ⟨fun q => absurd q (by decide), fun _ => ⟨fun q => absurd q (by decide), fun _ => ⟨fun q => absurd q (by decide), fun _ => ⟨fun _ => s_cycleCount (by decide) ro hI hf ⟨_, rfl, am_step _ _ _ (b_X_told_114 hK)⟩, fun q => absurd rfl q⟩⟩⟩⟩⟩⟩
      · refine fin _ (fun K hK => X14 K (am_step _ _ _ (b_X_told_14 ⟨fun _ => ?_, fun q => absurd rfl q⟩))) (fun K hK => M4 I K (am_step _ _ _ (b_M_told_4 ⟨fun q => absurd q z10, fun _ => ⟨fun q => absurd q (by decide), fun _ => ⟨fun q => absurd q (by decide), fun _ => ⟨fun q => absurd q (by decide), fun _ => ⟨fun q => absurd q (by decide), fun _ => ⟨fun q => absurd q (by decide), fun _ => ⟨fun _ => s_octadsKept (by decide) hT m1 hI2 hf ⟨_, rfl, am_step _ _ _ (b_M_told_104 hK)⟩, fun q => absurd rfl q⟩⟩⟩⟩⟩⟩⟩)))
        rw [em]
        exact ⟨m1, am_obi (RR_now rr m m1) ⟨fun q => absurd q (by decide), fun _ => ⟨fun q => absurd q (by decide), fun _ => ⟨fun q => absurd q (by decide), fun _ => ⟨fun q => absurd q (by decide), fun _ => ⟨fun q => absurd q (by decide), fun _ => ⟨fun _ => s_octadsFixedBy (by decide) hT ro hI hf ⟨_, rfl, am_step _ _ _ (b_X_told_126 hK)⟩, fun q => absurd rfl q⟩⟩⟩⟩⟩⟩⟩
      · have il := im_lt hf.1 now.2.1 24 (Nat.le_refl _)
        have xl := xor_lt all_lt cl
        refine fin (if g_im (now.1 m) now.2.1 24 = now.2.1 then nI 1 else if g_im (now.1 m) now.2.1 24 = 16777215 ^^^ now.2.1 then nI 2 else nI 0) (fun K hK => X14 K (am_step _ _ _ (b_X_told_14 ⟨fun _ => ?_, fun q => absurd rfl q⟩))) (fun K hK => M4 I K (am_step _ _ _ (b_M_told_4 ⟨fun q => absurd q z10, fun _ => ⟨fun q => absurd q (by decide), fun _ => ⟨fun q => absurd q (by decide), fun _ => ⟨fun q => absurd q (by decide), fun _ => ⟨fun q => absurd q (by decide), fun _ => ⟨fun q => absurd q (by decide), fun _ => ⟨fun q => absurd q (by decide), fun _ => ⟨fun _ => ⟨by decide, ?_⟩, fun q => absurd rfl q⟩⟩⟩⟩⟩⟩⟩⟩)))
        · rw [em]
          exact ⟨m1, am_obi (RR_now rr m m1) ⟨fun q => absurd q (by decide), fun _ => ⟨fun q => absurd q (by decide), fun _ => ⟨fun q => absurd q (by decide), fun _ => ⟨fun q => absurd q (by decide), fun _ => ⟨fun q => absurd q (by decide), fun _ => ⟨fun q => absurd q (by decide), fun _ => ⟨fun _ => s_whereGoes (by decide) ro hI hf hc.1.2.1 cl ⟨_, rfl, am_step _ _ _ (b_X_told_132 hK)⟩, fun q => absurd rfl q⟩⟩⟩⟩⟩⟩⟩⟩
        · rw [e120]
          refine s_goes (by decide) m1 hI2 hf.1 (by omega) ⟨_, rfl, am_step _ _ _ (b_M_told_117 ?_)⟩
          rw [e120]
          refine ⟨by decide, fun q => ?_, fun q => ⟨by decide, s_goes (by decide) m1 hI2 hf.1 (by omega) ⟨_, rfl, am_step _ _ _ (b_M_told_143 ?_)⟩⟩⟩
          · rw [nI_eq (by omega) (by omega)] at q
            rw [if_pos q] at hK
            exact hK
          · have q : ¬ g_im (now.1 m) now.2.1 24 = now.2.1 := fun e => q (by rw [e])
            rw [e120, n_xor]
            refine ⟨by decide, fun q2 => ?_, fun q2 => ?_⟩
            · rw [nI_eq (by omega) (by omega)] at q2
              rw [if_neg q, if_pos q2] at hK
              exact hK
            · have q2 : ¬ g_im (now.1 m) now.2.1 24 = 16777215 ^^^ now.2.1 := fun e => q2 (by rw [e])
              rw [if_neg q, if_neg q2] at hK
              exact hK
      · refine X14 _ (am_step _ _ _ (b_X_told_14 ⟨fun _ => ?_, fun q => absurd rfl q⟩))
        rw [em]
        refine ⟨m1, am_obi (RR_now rr m m1) ⟨fun q => absurd q (by decide), fun _ => ⟨fun q => absurd q (by decide), fun _ => ⟨fun q => absurd q (by decide), fun _ => ⟨fun q => absurd q (by decide), fun _ => ⟨fun q => absurd q (by decide), fun _ => ⟨fun q => absurd q (by decide), fun _ => ⟨fun q => absurd q (by decide), fun _ => s_write (by decide) ro hI hf hl ⟨by omega, by omega⟩ (fun J hJ hX => ⟨_, rfl, am_step _ _ _ (b_X_told_141 ⟨_, rfl, J, Lg, rr, rfl, hX 0 (by decide) (by decide), M4 J _ (am_step _ _ _ (b_M_told_4 ⟨fun q => absurd q z10, fun _ => ⟨fun q => absurd q (by decide), fun _ => ⟨fun q => absurd q (by decide), fun _ => ⟨fun q => absurd q (by decide), fun _ => ⟨fun q => absurd q (by decide), fun _ => ⟨fun q => absurd q (by decide), fun _ => ⟨fun q => absurd q (by decide), fun _ => ⟨fun q => absurd q (by decide), fun _ => ⟨fun _ => s_texts (by decide) m1 (fun p hp => ?_) hf hl (fun J2 hJ2 hM => ⟨_, rfl, am_step _ _ _ (b_M_told_167 ⟨_, rfl, J2, Lg, rr, rfl, rfl, (hV.scr hG (scr_x hX) (fun _ _ => rfl) (fun _ _ => rfl)).scr hG (scr_m hM) (fun _ _ => rfl) (fun _ _ => rfl)⟩)⟩), fun q => absurd rfl q⟩⟩⟩⟩⟩⟩⟩⟩⟩))⟩)⟩)⟩⟩⟩⟩⟩⟩⟩⟩
        rw [hX 1470 (by decide) (by decide)]
        exact hI2 p hp
    · have na : ∀ k, k < 8 → ¬ a1 = nI k := fun k hk e => by
        rw [e] at c5
        rw [m_in_n (by omega) (by decide) (by decide), if_pos ⟨Nat.zero_le _, by omega⟩] at c5
        exact absurd c5 (by decide)
      refine am_in _ _ _ (am_step _ _ _ (b_X_told_0 (s_isOutside (by decide) ⟨_, rfl, am_step _ _ _ (b_X_told_5 ?_)⟩)))
      rw [m3]
      refine ⟨fun _ => s_isOutside (by decide) ⟨_, rfl, am_step _ _ _ (b_X_told_14 ?_)⟩, fun q => absurd rfl q⟩
      rw [c3]
      refine ⟨fun q => absurd q (by decide), fun _ => ⟨_, rfl, I, Lg, rr, rfl, rfl, am_in _ _ _ (am_step _ _ _ (b_M_told_0 (s_isMove (by decide) ⟨_, rfl, am_step _ _ _ (b_M_told_4 ?_)⟩)))⟩⟩
      rw [m4]
      exact ⟨fun q => absurd q (by decide), fun _ => ⟨fun q => absurd q (na 0 (by decide)), fun _ => ⟨fun q => absurd q (na 1 (by decide)), fun _ => ⟨fun q => absurd q (na 2 (by decide)), fun _ => ⟨fun q => absurd q (na 3 (by decide)), fun _ => ⟨fun q => absurd q (na 4 (by decide)), fun _ => ⟨fun q => absurd q (na 5 (by decide)), fun _ => ⟨fun q => absurd q (na 6 (by decide)), fun _ => ⟨fun q => absurd q (na 7 (by decide)), fun _ => ⟨_, rfl, I, Lg, rr, rfl, rfl, hV⟩⟩⟩⟩⟩⟩⟩⟩⟩⟩
  · refine am_in _ _ _ (am_step _ _ _ (b_X_told_0 (s_isOutside (by decide) ⟨_, rfl, am_step _ _ _ (b_X_told_5 ?_)⟩)))
    rw [m3]
    refine ⟨fun q => absurd q (by decide), fun _ => ⟨_, rfl, I, Lg, rr, rfl, rfl, am_in _ _ _ (am_step _ _ _ (b_M_told_0 (s_isMove (by decide) ⟨_, rfl, am_step _ _ _ (b_M_told_4 ?_)⟩)))⟩⟩
    rw [m4]
    exact ⟨fun _ => ⟨_, rfl, I, Lg, rr, rfl, rfl, hV⟩, fun q => absurd rfl q⟩
end LT
