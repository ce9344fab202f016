/-! THE OPERATION word, II -/
section W2
variable {G : (Nat → Nat → Int32) → Prop}
theorem near_ex {s L : Nat} (hs : s < 2 ^ 24) (hL : g_Lp (g_r s) L) : ∃ w, g_near s (pcn L) w := by
  obtain ⟨k1, k2, k3⟩ := near_k hs hL (t := L) (by rw [Nat.xor_self]; exact isw_0)
  have pk : g_P s (pcn L) (g_pl (s ^^^ L)) = true := decide_eq_true (by rw [k2])
  have find : ∀ n, n ≤ 4096 → (∃ w, g_near s (pcn L) w) ∨ ∀ i, i < n → g_P s (pcn L) i = false := by
    intro n
    induction n with
    | zero => exact fun _ => Or.inr fun i hi => absurd hi (Nat.not_lt_zero i)
    | succ n ih =>
      intro hn
      rcases ih (by omega) with h | h
      · exact Or.inl h
      · cases hp : g_P s (pcn L) n
        · refine Or.inr fun i hi => ?_
          by_cases e : i = n
          · rw [e, hp]
          · exact h i (by omega)
        · exact Or.inl ⟨g_w n, n, by omega, hp, h, rfl⟩
  rcases find 4096 (Nat.le_refl _) with h | h
  · exact h
  · rw [h _ k1] at pk
    cases pk
theorem near_uni {s d w w' : Nat} (h : g_near s d w) (h' : g_near s d w') : w = w' := by
  obtain ⟨j, j1, j2, j3, rfl⟩ := h
  obtain ⟨i, i1, i2, i3, rfl⟩ := h'
  rcases Nat.lt_trichotomy i j with q | q | q
  · rw [j3 i q] at i2
    cases i2
  · rw [q]
  · rw [i3 j q] at j2
    cases j2
theorem near_lt {s d w : Nat} (h : g_near s d w) : w < 2 ^ 24 := by
  obtain ⟨j, j1, j2, j3, rfl⟩ := h
  exact g_w_lt j
theorem op_word (a0 a1 : Int32) : lw_Op (vV G) k_X_word k_M_word [.int a0, .int a1] := by
  refine op_pure fun I Lg rr n hV => ?_
  have hT := hV.1
  rcases set_cases a0 with ⟨s, s1, rfl, s3, s4⟩ | ⟨s3, s4⟩
  · have X4 : ∀ K : Option Value → am_M → Prop, (∀ x : Int32, x = m_out a1 (nI 7) → am_St 99 k_X_word (am_st I Lg rr n) K 13 [some (.ref 12), some (.int (nI s)), some (.int a1)] [.int x] (am_st I Lg rr n)) → am_AC 100 k_X_word (.ref 12 :: [.int (nI s), .int a1]) (am_st I Lg rr n) K := fun K h => by
      refine am_in _ _ _ (am_step _ _ _ (b_X_word_0 (s_isNoSet (by decide) ⟨_, rfl, am_step _ _ _ (b_X_word_4 ?_)⟩)))
      rw [s3]
      exact ⟨fun _ => s_isOutside (by decide) ⟨_, rfl, h _ rfl⟩, fun q => absurd rfl q⟩
    have M4 : ∀ K : Option Value → am_M → Prop, (am_St 99 k_M_word (am_st I Lg rr n) K 4 [some (.ref 1469), some (.int (nI s)), some (.int a1)] [.int (nI 1)] (am_st I Lg rr n)) → am_AC 100 k_M_word (.ref 1469 :: [.int (nI s), .int a1]) (am_st I Lg rr n) K := fun K h => by
      refine am_in _ _ _ (am_step _ _ _ (b_M_word_0 (s_isSet (by decide) ⟨_, rfl, ?_⟩)))
      rw [s4]
      exact h
    have z10 : ¬ nI 1 = 0 := by decide
    have ne : ∀ {a b : Nat}, a < 100 → b < 100 → ¬ a = b → ¬ nI a = nI b := fun ha hb h e => h ((nI_eq (by omega) (by omega)).mp e)
    rcases rng_cases a1 (N := 7) (by decide) (by decide) with ⟨c, c1, rfl, c3, c4, c5⟩ | ⟨c3, c4, c5⟩
    · obtain ⟨L, l1, hL⟩ := hT.2.1.2.2.2.1 (g_r s) (g_r_lt s)
      have hc : c = 0 ∨ c = 1 ∨ c = 2 ∨ c = 3 ∨ c = 4 ∨ c = 5 ∨ c = 6 := by omega
      rcases hc with rfl | rfl | rfl | rfl | rfl | rfl | rfl
      · refine ⟨nI (pcn s), fun K hK => X4 K fun x hx => am_step _ _ _ (b_X_word_13 ?_), fun K hK => M4 K (am_step _ _ _ (b_M_word_4 ⟨fun q => absurd q z10, fun _ => ⟨fun _ => s_bits (by decide) (by omega) ⟨_, rfl, am_step _ _ _ (b_M_word_56 hK)⟩, fun q => absurd rfl q⟩⟩))⟩
        rw [hx, c3]
        exact ⟨fun _ => ⟨fun _ => s_bitCount (by decide) s1 ⟨_, rfl, am_step _ _ _ (b_X_word_60 hK)⟩, fun q => absurd rfl q⟩, fun q => absurd rfl q⟩
      · rcases isw_dec s with w | w
        · refine ⟨nI (g_N (g_pl s)), fun K hK => X4 K fun x hx => am_step _ _ _ (b_X_word_13 ?_), fun K hK => M4 K (am_step _ _ _ (b_M_word_4 ⟨fun q => absurd q z10, fun _ => ⟨fun q => absurd q (by decide), fun _ => ⟨fun _ => s_MnumberOf (by decide) hT s1 (fun _ => ⟨_, rfl, am_step _ _ _ (b_M_word_62 hK)⟩) (fun q => absurd w q), fun q => absurd rfl q⟩⟩⟩))⟩
          rw [hx, c3]
          exact ⟨fun _ => ⟨fun q => absurd q (by decide), fun _ => ⟨fun _ => s_isWord (by decide) hT s1 (fun _ => ⟨_, rfl, am_step _ _ _ (b_X_word_69 ⟨fun q => absurd q (by decide), fun _ => s_GnumberOf (by decide) hT s1 ⟨_, rfl, am_step _ _ _ (b_X_word_80 hK)⟩⟩)⟩) (fun q => absurd w q), fun q => absurd rfl q⟩⟩, fun q => absurd rfl q⟩
        · refine ⟨am_k (-4), fun K hK => X4 K fun x hx => am_step _ _ _ (b_X_word_13 ?_), fun K hK => M4 K (am_step _ _ _ (b_M_word_4 ⟨fun q => absurd q z10, fun _ => ⟨fun q => absurd q (by decide), fun _ => ⟨fun _ => s_MnumberOf (by decide) hT s1 (fun q => absurd q w) (fun _ => ⟨_, rfl, am_step _ _ _ (b_M_word_62 hK)⟩), fun q => absurd rfl q⟩⟩⟩))⟩
          rw [hx, c3]
          exact ⟨fun _ => ⟨fun q => absurd q (by decide), fun _ => ⟨fun _ => s_isWord (by decide) hT s1 (fun q => absurd q w) (fun _ => ⟨_, rfl, am_step _ _ _ (b_X_word_69 ⟨fun _ => hK, fun q => absurd rfl q⟩)⟩), fun q => absurd rfl q⟩⟩, fun q => absurd rfl q⟩
      · refine ⟨nI (pcn L), fun K hK => X4 K fun x hx => am_step _ _ _ (b_X_word_13 ?_), fun K hK => M4 K (am_step _ _ _ (b_M_word_4 ⟨fun q => absurd q z10, fun _ => ⟨fun q => absurd q (by decide), fun _ => ⟨fun q => absurd q (by decide), fun _ => ⟨fun _ => s_closest (by decide) hT s1 hL (by decide) (fun w hw => ⟨_, rfl, am_step _ _ _ (b_M_word_69 hK)⟩), fun q => absurd rfl q⟩⟩⟩⟩))⟩
        rw [hx, c3]
        exact ⟨fun _ => ⟨fun q => absurd q (by decide), fun _ => ⟨fun q => absurd q (by decide), fun _ => ⟨fun _ => s_distance (by decide) hT s1 l1 hL ⟨_, rfl, am_step _ _ _ (b_X_word_94 hK)⟩, fun q => absurd rfl q⟩⟩⟩, fun q => absurd rfl q⟩
      · have pl := pcn_le 24 _ hL.1
        refine ⟨nI (if pcn L = 4 then 6 else 1), fun K hK => X4 K fun x hx => am_step _ _ _ (b_X_word_13 ?_), fun K hK => M4 K (am_step _ _ _ (b_M_word_4 ⟨fun q => absurd q z10, fun _ => ⟨fun q => absurd q (by decide), fun _ => ⟨fun q => absurd q (by decide), fun _ => ⟨fun q => absurd q (by decide), fun _ => ⟨fun _ => s_closest (by decide) hT s1 hL (by decide) (fun w hw => ⟨_, rfl, am_step _ _ _ (b_M_word_69 hK)⟩), fun q => absurd rfl q⟩⟩⟩⟩⟩))⟩
        rw [hx, c3]
        refine ⟨fun _ => ⟨fun q => absurd q (by decide), fun _ => ⟨fun q => absurd q (by decide), fun _ => ⟨fun q => absurd q (by decide), fun _ => ⟨fun _ => s_distance (by decide) hT s1 l1 hL ⟨_, rfl, am_step _ _ _ (b_X_word_103 ⟨fun q => ?_, fun q => ?_⟩)⟩, fun q => absurd rfl q⟩⟩⟩⟩, fun q => absurd rfl q⟩
        · rw [nI_eq (by omega) (by decide)] at q
          rw [if_pos q] at hK
          exact hK
        · rw [nI_eq (by omega) (by decide)] at q
          rw [if_neg q] at hK
          exact hK
      · obtain ⟨w, hw⟩ := near_ex s1 hL
        refine ⟨nI w, fun K hK => X4 K fun x hx => am_step _ _ _ (b_X_word_13 ?_), fun K hK => M4 K (am_step _ _ _ (b_M_word_4 ⟨fun q => absurd q z10, fun _ => ⟨fun q => absurd q (by decide), fun _ => ⟨fun q => absurd q (by decide), fun _ => ⟨fun q => absurd q (by decide), fun _ => ⟨fun q => absurd q (by decide), fun _ => ⟨fun _ => s_closest (by decide) hT s1 hL (by decide) (fun w' hw' => ⟨_, rfl, am_step _ _ _ (b_M_word_69 (by rw [near_uni hw' hw]; exact hK))⟩), fun q => absurd rfl q⟩⟩⟩⟩⟩⟩))⟩
        rw [hx, c3]
        exact ⟨fun _ => ⟨fun q => absurd q (by decide), fun _ => ⟨fun q => absurd q (by decide), fun _ => ⟨fun q => absurd q (by decide), fun _ => ⟨fun q => absurd q (by decide), fun _ => ⟨fun _ => s_lowestNearest (by decide) hT s1 l1 hL (fun w hw => near_lt hw) (fun v hv => ⟨_, rfl, am_step _ _ _ (b_X_word_122 (by rw [← hv w hw]; exact hK))⟩), fun q => absurd rfl q⟩⟩⟩⟩⟩, fun q => absurd rfl q⟩
      · refine ⟨_, fun K hK => X4 K fun x hx => am_step _ _ _ (b_X_word_13 ?_), fun K hK => M4 K (am_step _ _ _ (b_M_word_4 ⟨fun q => absurd q z10, fun _ => ⟨fun q => absurd q (by decide), fun _ => ⟨fun q => absurd q (by decide), fun _ => ⟨fun q => absurd q (by decide), fun _ => ⟨fun q => absurd q (by decide), fun _ => ⟨fun q => absurd q (by decide), fun _ => ⟨fun _ => s_octadsIn (by decide) hT ⟨_, rfl, am_step _ _ _ (b_M_word_75 hK)⟩, fun q => absurd rfl q⟩⟩⟩⟩⟩⟩⟩))⟩
        rw [hx, c3]
        exact ⟨fun _ => ⟨fun q => absurd q (by decide), fun _ => ⟨fun q => absurd q (by decide), fun _ => ⟨fun q => absurd q (by decide), fun _ => ⟨fun q => absurd q (by decide), fun _ => ⟨fun q => absurd q (by decide), fun _ => ⟨fun _ => s_octadsInside (by decide) hT ⟨_, rfl, am_step _ _ _ (b_X_word_131 hK)⟩, fun q => absurd rfl q⟩⟩⟩⟩⟩⟩, fun q => absurd rfl q⟩
      · refine ⟨_, fun K hK => X4 K fun x hx => am_step _ _ _ (b_X_word_13 ?_), fun K hK => M4 K (am_step _ _ _ (b_M_word_4 ⟨fun q => absurd q z10, fun _ => ⟨fun q => absurd q (by decide), fun _ => ⟨fun q => absurd q (by decide), fun _ => ⟨fun q => absurd q (by decide), fun _ => ⟨fun q => absurd q (by decide), fun _ => ⟨fun q => absurd q (by decide), fun _ => ⟨fun q => absurd q (by decide), fun _ => ⟨fun _ => s_octadsWith (by decide) hT ⟨_, rfl, am_step _ _ _ (b_M_word_81 hK)⟩, fun q => absurd rfl q⟩⟩⟩⟩⟩⟩⟩⟩))⟩
        rw [hx, c3]
        exact ⟨fun _ => ⟨fun q => absurd q (by decide), fun _ => ⟨fun q => absurd q (by decide), fun _ => ⟨fun q => absurd q (by decide), fun _ => ⟨fun q => absurd q (by decide), fun _ => ⟨fun q => absurd q (by decide), fun _ => ⟨fun q => absurd q (by decide), fun _ => s_octadsAround (by decide) hT ⟨_, rfl, am_step _ _ _ (b_X_word_140 hK)⟩⟩⟩⟩⟩⟩⟩, fun q => absurd rfl q⟩
    · have na : ∀ k, k < 7 → ¬ a1 = nI k := fun k hk e => by
        rw [e] at c5
        rw [m_in_n (by omega) (by decide) (by decide), if_pos ⟨Nat.zero_le _, by omega⟩] at c5
        exact absurd c5 (by decide)
      refine ⟨am_k (-1), fun K hK => X4 K fun x hx => am_step _ _ _ (b_X_word_13 ?_), fun K hK => M4 K (am_step _ _ _ (b_M_word_4 ⟨fun q => absurd q z10, fun _ => ⟨fun q => absurd q (na 0 (by decide)), fun _ => ⟨fun q => absurd q (na 1 (by decide)), fun _ => ⟨fun q => absurd q (na 2 (by decide)), fun _ => ⟨fun q => absurd q (na 3 (by decide)), fun _ => ⟨fun q => absurd q (na 4 (by decide)), fun _ => ⟨fun q => absurd q (na 5 (by decide)), fun _ => ⟨fun q => absurd q (na 6 (by decide)), fun _ => hK⟩⟩⟩⟩⟩⟩⟩⟩))⟩
      rw [hx, c3]
      exact ⟨fun q => absurd q (by decide), fun _ => hK⟩
  · refine ⟨am_k (-1), fun K hK => am_in _ _ _ (am_step _ _ _ (b_X_word_0 (s_isNoSet (by decide) ⟨_, rfl, am_step _ _ _ (b_X_word_4 ?_)⟩))), fun K hK => am_in _ _ _ (am_step _ _ _ (b_M_word_0 (s_isSet (by decide) ⟨_, rfl, am_step _ _ _ (b_M_word_4 ?_)⟩)))⟩
    · rw [s3]
      exact ⟨fun q => absurd q (by decide), fun _ => hK⟩
    · rw [s4]
      exact ⟨fun _ => hK, fun q => absurd rfl q⟩
end W2
