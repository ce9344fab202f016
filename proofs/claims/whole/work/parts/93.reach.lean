/-! GROUPS: which moves keep the code; where a set comes -/
/-- the moves of w keep the code -/
def g_ak (f : Nat → Nat → Nat) (w : Nat) : Prop := ∀ m, m < 4 → w.testBit m = true → g_pvb (f m) = true
theorem pm_tb (f : Nat → Nat → Nat) (j : Nat) : ∀ q, (g_pm f q).testBit j = (decide (j < q) && g_pvb (f j))
  | 0 => by rw [show g_pm f 0 = 0 from rfl, Nat.zero_testBit, decide_eq_false (Nat.not_lt_zero j)]; rfl
  | q + 1 => by
    rw [pm_s, Nat.testBit_or, pm_tb f j q]
    by_cases e : j = q
    · subst e
      rw [decide_eq_false (Nat.lt_irrefl j), decide_eq_true (Nat.lt_succ_self j)]
      cases g_pvb (f j)
      · rw [if_neg (by decide), Nat.zero_testBit]; rfl
      · rw [if_pos rfl, tb_p2, decide_eq_true rfl]; rfl
    · have : (if g_pvb (f q) = true then 2 ^ q else 0).testBit j = false := by
        split
        · rw [tb_p2]; exact decide_eq_false (by omega)
        · exact Nat.zero_testBit j
      rw [this, Bool.or_false]
      by_cases c : j < q
      · rw [decide_eq_true c, decide_eq_true (show j < q + 1 by omega)]
      · rw [decide_eq_false c, decide_eq_false (show ¬ j < q + 1 by omega)]
theorem pm_lt (f : Nat → Nat → Nat) : g_pm f 5 < 2 ^ 24 := Nat.lt_of_lt_of_le (Nat.lt_pow_two_of_testBit (n := 5) _ fun j hj => by rw [pm_tb, decide_eq_false (by omega)]; rfl) (show 2 ^ 5 ≤ 2 ^ 24 by decide)
theorem ak_iff {f : Nat → Nat → Nat} {w : Nat} (hw : w < 16) : g_sub w (g_pm f 5) ↔ g_ak f w := by
  rw [sub_tb]
  constructor
  · intro h m hm hb
    have := h m hb
    rw [pm_tb, Bool.and_eq_true] at this
    exact this.2
  · intro h m hb
    have m4 : m < 4 := by
      by_cases c : m < 4
      · exact c
      · rw [Nat.testBit_lt_two_pow (Nat.lt_of_lt_of_le hw (show 2 ^ 4 ≤ 2 ^ m from Nat.pow_le_pow_right (by decide) (by omega)))] at hb
        cases hb
    rw [pm_tb, decide_eq_true (show m < 5 by omega), h m m4 hb]
    rfl
/-- one round -/
def g_R (f : Nat → Nat → Nat) (w s q : Nat) : Nat := itn (fun m x => if w.testBit m then x ||| g_im (f m) x 24 else x) s q
theorem R_s (f : Nat → Nat → Nat) (w s q : Nat) : g_R f w s (q + 1) = if w.testBit q then g_R f w s q ||| g_im (f q) (g_R f w s q) 24 else g_R f w s q := rfl
def g_rx (f : Nat → Nat → Nat) (w s k : Nat) : Nat := itn (fun _ x => g_R f w x 4) s k
theorem rx_s (f : Nat → Nat → Nat) (w s k : Nat) : g_rx f w s (k + 1) = g_R f w (g_rx f w s k) 4 := rfl
theorem R_ok {f : Nat → Nat → Nat} (w : Nat) (hf : ∀ m, m < 4 → ∀ p, p < 24 → f m p < 24) {s : Nat} (hs : s < 2 ^ 24) : ∀ q, q ≤ 4 → g_R f w s q < 2 ^ 24 ∧ g_sub s (g_R f w s q)
  | 0, _ => ⟨hs, Nat.and_self s⟩
  | q + 1, h => by
    obtain ⟨a, b⟩ := R_ok w hf hs q (by omega)
    rw [R_s]
    split
    · exact ⟨Nat.or_lt_two_pow a (im_lt (hf q (by omega)) _ 24 (Nat.le_refl _)), sub_tb.mpr fun j hj => by rw [Nat.testBit_or, sub_tb.mp b j hj]; rfl⟩
    · exact ⟨a, b⟩
theorem rx_lt {f : Nat → Nat → Nat} (w : Nat) (hf : ∀ m, m < 4 → ∀ p, p < 24 → f m p < 24) {s : Nat} (hs : s < 2 ^ 24) : ∀ k, g_rx f w s k < 2 ^ 24
  | 0 => hs
  | k + 1 => (R_ok w hf (rx_lt w hf hs k) 4 (Nat.le_refl _)).1
theorem rx_stay {f : Nat → Nat → Nat} {w s k : Nat} (h : g_R f w (g_rx f w s k) 4 = g_rx f w s k) : ∀ j, g_rx f w s (k + j) = g_rx f w s k
  | 0 => rfl
  | j + 1 => by
    rw [← Nat.add_assoc, rx_s, rx_stay h j]
    exact h
theorem sub_ne {a b : Nat} (h : g_sub a b) (hne : ¬ b = a) : pcn a < pcn b := by
  obtain ⟨h1, h2⟩ := pcn_sub h
  have : ¬ pcn (a ^^^ b) = 0 := fun e => by
    have := pcn_z _ e
    have e : a ^^^ b ^^^ b = b := by rw [this, Nat.zero_xor]
    rw [Nat.xor_assoc, Nat.xor_self, Nat.xor_zero] at e
    exact hne e.symm
  omega
theorem rx_end {f : Nat → Nat → Nat} (w : Nat) (hf : ∀ m, m < 4 → ∀ p, p < 24 → f m p < 24) {s : Nat} (hs : s < 2 ^ 24) : g_R f w (g_rx f w s 24) 4 = g_rx f w s 24 := by
  have key : ∀ k, g_R f w (g_rx f w s k) 4 = g_rx f w s k ∨ k + 1 ≤ pcn (g_rx f w s (k + 1)) := by
    intro k
    induction k with
    | zero =>
      by_cases c : g_R f w (g_rx f w s 0) 4 = g_rx f w s 0
      · exact Or.inl c
      · have := sub_ne (R_ok w hf (rx_lt w hf hs 0) 4 (Nat.le_refl _)).2 c
        exact Or.inr (by rw [rx_s]; omega)
    | succ k ih =>
      rcases ih with ih | ih
      · refine Or.inl ?_
        rw [rx_s, ih, ih]
      · by_cases c : g_R f w (g_rx f w s (k + 1)) 4 = g_rx f w s (k + 1)
        · exact Or.inl c
        · have := sub_ne (R_ok w hf (rx_lt w hf hs (k + 1)) 4 (Nat.le_refl _)).2 c
          exact Or.inr (by rw [rx_s]; omega)
  rcases key 24 with c | c
  · exact c
  · have := pcn_le 24 _ (rx_lt w hf hs (24 + 1))
    omega
theorem im_0 (f : Nat → Nat) : ∀ q, g_im f 0 q = 0
  | 0 => rfl
  | q + 1 => by
    rw [im_s, im_0 f q, Nat.zero_testBit, if_neg (by decide), Nat.zero_or]
theorem R_0 (f : Nat → Nat → Nat) (w : Nat) : ∀ q, g_R f w 0 q = 0
  | 0 => rfl
  | q + 1 => by
    rw [R_s, R_0 f w q, im_0]
    split <;> rfl
section MK
variable {d : Nat} {K : Option Value → am_M → Prop} {I : Nat → Nat → Int32} {Lg : Nat → Nat → Int64} {rr : Nat → Nat → Option Nat} {n : Nat} {G : (Nat → Nat → Int32) → Prop} {now : a_S} {w : Nat}
theorem s_preserveCode (hd : 5 ≤ d) (hT : vT I) (ok : a_ok now) (hc : c_S I 1337 now) (hw : w < 16) (h1 : g_ak now.1 w → K (some (.int (nI 1))) (am_st I Lg rr n)) (h0 : ¬ g_ak now.1 w → K (some (.int (nI 0))) (am_st I Lg rr n)) : am_AC d k_X_preserveCode [.ref 12, .int (nI w)] (am_st I Lg rr n) K := by
  obtain ⟨d, rfl, hd1⟩ := s_up hd
  refine am_in _ _ _ (am_step _ _ _ (b_X_preserveCode_0 (s_preservingMoves hd1 hT ok hc ⟨_, rfl, am_step _ _ _ (b_X_preserveCode_5 ?_)⟩)))
  have e := n_diff (s := w) (o := g_pm now.1 5) (by omega) (pm_lt _)
  exact ⟨fun q => h1 ((ak_iff hw).mp (e.mp q)), fun q => h0 fun a => q (e.mpr ((ak_iff hw).mpr a))⟩
theorem s_allKeep (hd : 5 ≤ d) (hT : vT I) (ok : a_ok now) (hm : m_S (I 1470) 0 now) (hw : w < 16) (h1 : g_ak now.1 w → K (some (.int (nI 1))) (am_st I Lg rr n)) (h0 : ¬ g_ak now.1 w → K (some (.int (nI 0))) (am_st I Lg rr n)) : am_AC d k_M_allKeep [.ref 1469, .int (nI w)] (am_st I Lg rr n) K := by
  obtain ⟨d, rfl, hd1⟩ := s_up hd
  have bad : ¬ g_ak now.1 w → ∀ m, m ≤ 4 → am_St d k_M_allKeep (am_st I Lg rr n) K 4 [some (.ref 1469), some (.int (nI w)), some (.int (nI 0)), some (.int (nI m))] [] (am_st I Lg rr n) := by
    intro ha
    refine lp_up _ (fun m hm4 ih => ?_) ?_
    · refine am_step _ _ _ (b_M_allKeep_4 ⟨fun _ => ⟨fun _ => ?_, fun q => absurd rfl q⟩, fun q => absurd (nI_lt hm4 (by decide)) q⟩)
      rw [nI_add]
      exact ih
    · exact am_step _ _ _ (b_M_allKeep_4 ⟨fun q => absurd q (by decide), fun _ => h0 ha⟩)
  have key : ∀ m, m ≤ 4 → (∀ i, i < m → w.testBit i = true → g_pvb (now.1 i) = true) → am_St d k_M_allKeep (am_st I Lg rr n) K 4 [some (.ref 1469), some (.int (nI w)), some (.int (nI 1)), some (.int (nI m))] [] (am_st I Lg rr n) := by
    refine lp_up _ (fun m hm4 ih => ?_) ?_
    · intro hb
      have next : (w.testBit m = true → g_pvb (now.1 m) = true) → am_St d k_M_allKeep (am_st I Lg rr n) K 4 [some (.ref 1469), some (.int (nI w)), some (.int (nI 1)), some (.int (nI (m + 1)))] [] (am_st I Lg rr n) := fun e => ih fun i hi => by
        by_cases c : i = m
        · rw [c]; exact e
        · exact hb i (by omega)
      refine am_step _ _ _ (b_M_allKeep_4 ⟨fun _ => ⟨fun q => absurd q (by decide), fun _ => s_has (by omega) ⟨_, rfl, am_step _ _ _ (b_M_allKeep_18 ?_)⟩⟩, fun q => absurd (nI_lt hm4 (by decide)) q⟩)
      rw [m_has_n (by omega) (by omega), nI_add]
      by_cases c : w.testBit m = true
      · rw [if_pos c]
        refine ⟨fun q => absurd q (by decide), fun _ => s_keeps hd1 hT (by omega) (now_m hm (by omega)) (ok.1 m (by omega)).1 ⟨_, rfl, am_step _ _ _ (b_M_allKeep_26 ?_)⟩⟩
        rw [nI_add]
        by_cases e : g_pvb (now.1 m) = true
        · rw [if_pos e]
          exact ⟨fun q => absurd q (by decide), fun _ => next fun _ => e⟩
        · rw [if_neg e]
          exact ⟨fun _ => bad (fun a => e (a m hm4 c)) (m + 1) (by omega), fun q => absurd rfl q⟩
      · rw [if_neg c]
        exact ⟨fun _ => next fun e => absurd e c, fun q => absurd rfl q⟩
    · intro hb
      exact am_step _ _ _ (b_M_allKeep_4 ⟨fun q => absurd q (by decide), fun _ => h1 hb⟩)
  exact am_in _ _ _ (am_step _ _ _ (b_M_allKeep_0 (key 0 (by decide) (fun i hi => absurd hi (Nat.not_lt_zero i)))))
theorem s_reachedFrom {s : Nat} (hd : 2 ≤ d) (ok : a_ok now) (hc : c_S I 1337 now) (hw : w < 16) (hs : s < 2 ^ 24) (h : K (some (.int (nI (g_rx now.1 w s 24)))) (am_st I Lg rr n)) : am_AC d k_X_reachedFrom [.ref 12, .int (nI w), .int (nI s)] (am_st I Lg rr n) K := by
  obtain ⟨d, rfl, hd1⟩ := s_up hd
  have hf : ∀ m, m < 4 → ∀ p, p < 24 → now.1 m p < 24 := fun m hm => (ok.1 m (by omega)).1
  have key : ∀ k, k ≤ 24 → am_St d k_X_reachedFrom (am_st I Lg rr n) K 5 [some (.ref 12), some (.int (nI w)), some (.int (nI s)), some (.int (nI (g_rx now.1 w s k))), some (.int (nI k)), none] [] (am_st I Lg rr n) := by
    refine lp_up _ (fun k hk ih => ?_) ?_
    · have xl := rx_lt w hf hs k
      have inner : ∀ m, m ≤ 4 → am_St d k_X_reachedFrom (am_st I Lg rr n) K 15 [some (.ref 12), some (.int (nI w)), some (.int (nI s)), some (.int (nI (g_R now.1 w (g_rx now.1 w s k) m))), some (.int (nI k)), some (.int (nI m))] [] (am_st I Lg rr n) := by
        refine lp_up _ (fun m hm ih2 => ?_) ?_
        · have eu : am_un (nI m) = m := n_un (by omega)
          have rl := (R_ok w hf xl m (by omega)).1
          rw [R_s] at ih2
          refine am_step _ _ _ (b_X_reachedFrom_15 ⟨fun _ => ⟨fun q => ?_, fun q => ?_⟩, fun q => absurd (nI_lt hm (by decide)) q⟩)
          · rw [n_bit (by omega) (by omega)] at q
            rw [if_pos q] at ih2
            rw [eu]
            refine ⟨by omega, am_obi (RR_now rr m (by omega)) (s_imageOf (by omega) (ro_now (by omega)) (now_x hc (by omega)) (hf m hm) (by omega) ⟨_, rfl, am_step _ _ _ (b_X_reachedFrom_49 ?_)⟩)⟩
            rw [n_or, nI_add]
            exact ih2
          · rw [n_bit (by omega) (by omega)] at q
            rw [if_neg q] at ih2
            rw [nI_add]
            exact ih2
        · refine am_step _ _ _ (b_X_reachedFrom_15 ⟨fun q => absurd q (by decide), fun _ => ?_⟩)
          rw [nI_add]
          exact am_fg (le_same _ (le_same _ (le_same _ (le_same _ (le_same _ (le_int _ le_nil)))))) ih
      exact am_step _ _ _ (b_X_reachedFrom_5 ⟨fun _ => inner 0 (by decide), fun q => absurd (nI_lt hk (by decide)) q⟩)
    · exact am_step _ _ _ (b_X_reachedFrom_5 ⟨fun q => absurd q (by decide), fun _ => h⟩)
  exact am_in _ _ _ (am_step _ _ _ (b_X_reachedFrom_0 (key 0 (by decide))))
theorem s_reaches {s : Nat} (hd : 3 ≤ d) (ok : a_ok now) (hm : m_S (I 1470) 0 now) (hw : w < 16) (hs : s < 2 ^ 24) (h : K (some (.int (nI (g_rx now.1 w s 24)))) (am_st I Lg rr n)) : am_AC d k_M_reaches [.ref 1469, .int (nI w), .int (nI s)] (am_st I Lg rr n) K := by
  obtain ⟨d, rfl, hd1⟩ := s_up hd
  have hf : ∀ m, m < 4 → ∀ p, p < 24 → now.1 m p < 24 := fun m hm => (ok.1 m (by omega)).1
  have st := rx_end w hf hs
  have inner : ∀ k, k < 25 → am_St d k_M_reaches (am_st I Lg rr n) K 8 [some (.ref 1469), some (.int (nI w)), some (.int (nI s)), some (.int (nI (g_rx now.1 w s (k + 1)))), some (.int (nI (g_rx now.1 w s k))), some (.int (nI (k + 1))), none] [] (am_st I Lg rr n) → ∀ m, m ≤ 4 → am_St d k_M_reaches (am_st I Lg rr n) K 27 [some (.ref 1469), some (.int (nI w)), some (.int (nI s)), some (.int (nI (g_R now.1 w (g_rx now.1 w s k) m))), some (.int (nI (g_rx now.1 w s k))), some (.int (nI k)), some (.int (nI m))] [] (am_st I Lg rr n) := by
    intro k hk ih
    have xl := rx_lt w hf hs k
    refine lp_up _ (fun m hm4 ih2 => ?_) ?_
    · have rl := (R_ok w hf xl m (by omega)).1
      rw [R_s] at ih2
      refine am_step _ _ _ (b_M_reaches_27 ⟨fun _ => s_has (by omega) ⟨_, rfl, am_step _ _ _ (b_M_reaches_40 ?_)⟩, fun q => absurd (nI_lt hm4 (by decide)) q⟩)
      rw [m_has_n (by omega) (by omega)]
      by_cases q : w.testBit m = true
      · rw [if_pos q] at ih2 ⊢
        refine ⟨fun q => absurd q (by decide), fun _ => s_goes (by omega) (by omega) (now_m hm (by omega)) (hf m hm4) (by omega) ⟨_, rfl, am_step _ _ _ (b_M_reaches_50 ?_)⟩⟩
        rw [n_or, nI_add]
        exact ih2
      · rw [if_neg q] at ih2 ⊢
        refine ⟨fun _ => ?_, fun q => absurd rfl q⟩
        rw [n_or, nI_add, Nat.or_zero]
        exact ih2
    · refine am_step _ _ _ (b_M_reaches_27 ⟨fun q => absurd q (by decide), fun _ => ?_⟩)
      rw [nI_add]
      exact am_fg (le_same _ (le_same _ (le_same _ (le_same _ (le_same _ (le_same _ (le_int _ le_nil))))))) ih
  have key : ∀ k, k ≤ 24 → am_St d k_M_reaches (am_st I Lg rr n) K 8 [some (.ref 1469), some (.int (nI w)), some (.int (nI s)), some (.int (nI (g_rx now.1 w s (k + 1)))), some (.int (nI (g_rx now.1 w s k))), some (.int (nI (k + 1))), none] [] (am_st I Lg rr n) := by
    refine lp_up _ (fun k hk ih => ?_) ?_
    · have x1 := rx_lt w hf hs k
      have x2 := rx_lt w hf hs (k + 1)
      refine am_step _ _ _ (b_M_reaches_8 ⟨fun _ => ⟨fun q => ?_, fun _ => inner (k + 1) (by omega) ih 0 (by decide)⟩, fun q => absurd (nI_lt (show k + 1 < 25 by omega) (by decide)) q⟩)
      rw [nI_eq (by omega) (by omega)] at q
      rw [rx_s] at q
      have e := rx_stay q.symm (24 - k)
      rw [show k + (24 - k) = 24 by omega] at e
      rw [rx_s, ← q, ← e]
      exact h
    · refine am_step _ _ _ (b_M_reaches_8 ⟨fun q => absurd q (by decide), fun _ => ?_⟩)
      rw [rx_s, st]
      exact h
  refine am_in _ _ _ (am_step _ _ _ (b_M_reaches_0 (am_step _ _ _ (b_M_reaches_8 ⟨fun _ => ⟨fun q => ?_, fun _ => inner 0 (by decide) (key 0 (by decide)) 0 (by decide)⟩, fun q => absurd (by decide) q⟩))))
  rw [nI_eq (by decide) (by omega)] at q
  have e : g_rx now.1 w 0 24 = 0 := rx_stay (k := 0) (s := 0) (R_0 _ _ 4) 24
  rw [← q, e] at h
  rw [← q]
  exact h
end MK
