/-! WHAT THE SMALL METHODS ANSWER -/
theorem s_up {c d : Nat} (h : c + 1 ≤ d) : ∃ e, d = e + 1 ∧ c ≤ e := ⟨d - 1, by omega, by omega⟩
theorem s_has {d : Nat} {x k : Int32} {M : am_M} {K : Option Value → am_M → Prop} (hd : 1 ≤ d) (h : K (some (.int (m_has x k))) M) : am_AC d k_M_has [.int x, .int k] M K := by
  obtain ⟨d, rfl, hd1⟩ := s_up hd
  refine am_in _ _ _ (am_step _ _ _ (p_M_has_0 ?_))
  unfold m_has at h
  refine ⟨fun q => ?_, fun q => ?_⟩
  · rw [if_pos q] at h
    exact h
  · rw [if_neg q] at h
    exact h
def m_in (v lo hi : Int64) : Int32 := if lo ≤ v ∧ v ≤ hi then nI 1 else nI 0
theorem s_in {d : Nat} {v lo hi : Int64} {M : am_M} {K : Option Value → am_M → Prop} (hd : 1 ≤ d) (h : K (some (.int (m_in v lo hi))) M) : am_AC d k_M_in [.long v, .long lo, .long hi] M K := by
  obtain ⟨d, rfl, hd1⟩ := s_up hd
  refine am_in _ _ _ (am_step _ _ _ (p_M_in_0 ?_))
  unfold m_in at h
  refine ⟨fun q => ?_, fun q => ⟨fun q2 => ?_, fun q2 => ?_⟩⟩
  · rw [lg_cmp_lt] at q
    rw [if_neg (fun q3 => absurd q3.1 (Int64.not_le.mpr q))] at h
    exact h
  · rw [lg_cmp_gt] at q2
    rw [if_neg (fun q3 => absurd q3.2 (Int64.not_le.mpr q2))] at h
    exact h
  · rw [lg_cmp_lt] at q
    rw [lg_cmp_gt] at q2
    rw [if_pos ⟨Int64.not_lt.mp q, Int64.not_lt.mp q2⟩] at h
    exact h
theorem s_bits {d s : Nat} {M : am_M} {K : Option Value → am_M → Prop} (hd : 1 ≤ d) (hs : s < 2 ^ 31) (h : K (some (.int (nI (pcn s)))) M) : am_AC d k_M_bits [.int (nI s)] M K := by
  obtain ⟨d, rfl, hd1⟩ := s_up hd
  refine am_in _ _ _ (am_step _ _ _ (p_M_bits_0 ?_))
  have key : ∀ q : Nat, q < 2 ^ 31 → ∀ c : Nat, c + pcn q = pcn s → am_St d k_M_bits M K 4 [some (.int (nI s)), some (.int (nI c)), some (.int (nI q))] [] M := by
    intro q
    induction q using Nat.strongRecOn with
    | _ q ih =>
      intro hq c hc
      refine am_step _ _ _ (p_M_bits_4 ⟨fun e => ?_, fun e => ?_⟩)
      · rw [← nI_0, nI_eq hq (by decide)] at e
        subst e
        rw [pcn_0, Nat.add_zero] at hc
        rw [hc]
        exact h
      · have h0 : 0 < q := by
          rcases Nat.eq_zero_or_pos q with q0 | q0
          · subst q0
            exact absurd rfl e
          · exact q0
        have hl : q &&& (q - 1) ≤ q - 1 := Nat.and_le_right
        rw [nI_add, pk_sub h0, n_and]
        exact ih (q &&& (q - 1)) (by omega) (by omega) (c + 1) (by rw [← hc, pcn_pred q h0]; omega)
  exact key s hs 0 (Nat.zero_add _)
/-- the lowest place of a set (31 of none) -/
def m_low (s : Nat) : Nat := fa1 s 31 0
where fa1 (s : Nat) : Nat → Nat → Nat
  | 0, k => k
  | n + 1, k => if s.testBit k then k else fa1 s n (k + 1)
theorem s_lowest {d s : Nat} {M : am_M} {K : Option Value → am_M → Prop} (hd : 2 ≤ d) (hs : s < 2 ^ 31) (h : K (some (.int (nI (m_low s)))) M) : am_AC d k_M_lowest [.int (nI s)] M K := by
  obtain ⟨d, rfl, hd1⟩ := s_up hd
  refine am_in _ _ _ (am_step _ _ _ (p_M_lowest_0 ?_))
  have key : ∀ n k : Nat, n + k = 31 → m_low s = m_low.fa1 s n k → am_St d k_M_lowest M K 2 [some (.int (nI s)), some (.int (nI k))] [] M := by
    intro n
    induction n with
    | zero =>
      intro k hk e
      have : k = 31 := by omega
      subst this
      refine am_step _ _ _ (p_M_lowest_2 ⟨fun q => absurd q (by decide), fun _ => ?_⟩)
      rw [e] at h
      exact h
    | succ n ih =>
      intro k hk e
      unfold m_low.fa1 at e
      refine am_step _ _ _ (p_M_lowest_2 ⟨fun q => s_has hd1 ⟨_, rfl, am_step _ _ _ (p_M_lowest_13 ?_)⟩, fun q => absurd (nI_lt (show k < 31 by omega) (by decide)) q⟩)
      rw [m_has_n hs (by omega)]
      by_cases hb : s.testBit k = true
      · rw [if_pos hb] at e
        rw [if_pos hb]
        refine ⟨fun q => absurd q (by decide), fun _ => ?_⟩
        rw [e] at h
        exact h
      · rw [if_neg hb] at e
        rw [if_neg hb]
        refine ⟨fun _ => ?_, fun q => absurd rfl q⟩
        rw [nI_add]
        exact ih (k + 1) (by omega) e
  exact key 31 0 rfl rfl
