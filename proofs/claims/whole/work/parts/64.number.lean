/-! WHICH WORD A SET IS -/
/-- p without its first q places -/
def g_hi (p q : Nat) : Nat := 2 ^ q * (p / 2 ^ q)
theorem hi_tb (p q j : Nat) : (g_hi p q).testBit j = (decide (q ≤ j) && p.testBit j) := by
  unfold g_hi
  rw [Nat.testBit_two_pow_mul]
  by_cases h : q ≤ j
  · rw [decide_eq_true h, Nat.testBit_div_two_pow, Nat.sub_add_cancel h]
  · rw [decide_eq_false h]
    rfl
theorem hi_s (p q : Nat) : g_hi p q = g_hi p (q + 1) ^^^ (if p.testBit q then 2 ^ q else 0) := by
  apply Nat.eq_of_testBit_eq
  intro j
  rw [Nat.testBit_xor, hi_tb, hi_tb]
  have e : (if p.testBit q then 2 ^ q else 0 : Nat).testBit j = (decide (q = j) && p.testBit q) := by
    cases p.testBit q
    · rw [Bool.and_false]
      exact Nat.zero_testBit j
    · rw [Bool.and_true]
      exact tb_p2 q j
  rw [e]
  by_cases h : q = j
  · subst h
    rw [decide_eq_true (Nat.le_refl _), decide_eq_false (Nat.not_succ_le_self _), decide_eq_true rfl]
    cases p.testBit q <;> rfl
  · by_cases h2 : q ≤ j
    · rw [decide_eq_true h2, decide_eq_true (show q + 1 ≤ j by omega), decide_eq_false h]
      cases p.testBit j <;> rfl
    · rw [decide_eq_false h2, decide_eq_false (show ¬ q + 1 ≤ j by omega), decide_eq_false h]
      rfl
theorem hi_0 (p : Nat) : g_hi p 0 = p := by
  unfold g_hi
  rw [Nat.pow_zero, Nat.one_mul, Nat.div_one]
theorem hi_12 {p : Nat} (h : p < 4096) : g_hi p 12 = 0 := by
  unfold g_hi
  rw [Nat.div_eq_of_lt (show p < 2 ^ 12 from h)]
theorem hi_lt {p : Nat} (h : p < 4096) (q : Nat) : g_hi p q < 4096 := by
  unfold g_hi
  exact Nat.lt_of_le_of_lt (Nat.mul_div_le _ _) h
theorem pl_tb (w : Nat) {k : Nat} (hk : k < 12) : (g_pl w).testBit k = w.testBit (12 + k) := by
  unfold g_pl
  rw [show (4096 : Nat) = 2 ^ 12 by decide, Nat.testBit_mod_two_pow, decide_eq_true hk, Bool.true_and, Nat.testBit_div_two_pow, Nat.add_comm]
theorem w_tb {x : Nat} (hx : x < 4096) {k : Nat} (hk : k < 12) : (g_w x).testBit (12 + k) = x.testBit k := by
  rw [← pl_tb _ hk, pl_w hx]
theorem g_w_p2 : ∀ j, j < 12 → g_w (2 ^ j) = g_U j := by decide +kernel
theorem g_N_p2 : ∀ j, j < 12 → g_N (2 ^ j) = g_V j := by decide +kernel
theorem g_N_xor (a b : Nat) : g_N (a ^^^ b) = g_N a ^^^ g_N b := gs_xor _ _ _ _
theorem U_high : ∀ k, k < 12 → m_high (g_U k) 23 = 12 + k := by decide +kernel
theorem U_lt : ∀ k, k < 12 → g_U k < 2 ^ 24 := by decide +kernel
/-- s is a word -/
abbrev g_isw (s : Nat) : Prop := s = g_w (g_pl s)
theorem isw_dec (s : Nat) : g_isw s ∨ ¬ g_isw s := Nat.decEq s (g_w (g_pl s)) |> fun h => match h with
  | .isTrue h => Or.inl h
  | .isFalse h => Or.inr h
theorem isw_w {p : Nat} (h : p < 4096) : g_isw (g_w p) := by
  unfold g_isw
  rw [pl_w h]
theorem xor_0 {a b : Nat} (h : a ^^^ b = 0) : a = b := by
  have e : a ^^^ b ^^^ b = 0 ^^^ b := by rw [h]
  rw [Nat.xor_assoc, Nat.xor_self, Nat.xor_zero, Nat.zero_xor] at e
  exact e
theorem isw_r {s : Nat} (h : s < 2 ^ 24) : g_isw s ↔ g_r s = 0 := by
  have hp := pl_lt s
  have e : g_pl (s ^^^ g_w (g_pl s)) = 0 := by rw [pl_xor, pl_w hp, Nat.xor_self]
  have lt := xor_lt h (g_w_lt (g_pl s))
  unfold g_isw g_r
  constructor
  · intro q
    rw [← q, Nat.xor_self]
  · intro q
    refine xor_0 ?_
    generalize s ^^^ g_w (g_pl s) = x at *
    unfold g_pl at e
    omega
section NO
variable {d : Nat} {K : Option Value → am_M → Prop} {I : Nat → Nat → Int32} {Lg : Nat → Nat → Int64} {rr : Nat → Nat → Option Nat} {n : Nat} {G : (Nat → Nat → Int32) → Prop}
theorem s_isWord {s : Nat} (hd : 2 ≤ d) (hT : vT I) (hs : s < 2 ^ 24) (h1 : g_isw s → K (some (.int (nI 1))) (am_st I Lg rr n)) (h2 : ¬ g_isw s → K (some (.int (nI 0))) (am_st I Lg rr n)) : am_AC d k_Go_isWord [.ref 19, .int (nI s)] (am_st I Lg rr n) K := by
  obtain ⟨d, rfl, hd1⟩ := s_up hd
  have hp := pl_lt s
  refine am_in _ _ _ (am_step _ _ _ (b_Go_isWord_0 (s_place hd1 (by omega) ⟨_, rfl, am_step _ _ _ (b_Go_isWord_8 ?_)⟩)))
  show am_un (nI (g_pl s)) < 4096 ∧ _
  rw [show nI (s / 4096 % 4096) = nI (g_pl s) from rfl, n_un (by omega), hT.2.1.1 _ hp]
  have lt := g_w_lt (g_pl s)
  refine ⟨hp, fun q => h1 ?_, fun q => h2 ?_⟩
  · rw [nI_eq (by omega) (by omega)] at q
    exact q.symm
  · rw [nI_eq (by omega) (by omega)] at q
    exact fun e => q e.symm
theorem s_GnumberOf {s : Nat} (hd : 2 ≤ d) (hT : vT I) (hs : s < 2 ^ 24) (h : K (some (.int (nI (g_N (g_pl s))))) (am_st I Lg rr n)) : am_AC d k_Go_numberOf [.ref 19, .int (nI s)] (am_st I Lg rr n) K := by
  obtain ⟨d, rfl, hd1⟩ := s_up hd
  have hp := pl_lt s
  refine am_in _ _ _ (am_step _ _ _ (b_Go_numberOf_0 (s_place hd1 (by omega) ⟨_, rfl, am_step _ _ _ (b_Go_numberOf_8 ?_)⟩)))
  rw [show nI (s / 4096 % 4096) = nI (g_pl s) from rfl, n_un (by omega), hT.2.1.2.2.2.2.2 _ hp]
  exact ⟨hp, h⟩
theorem s_MnumberOf {s : Nat} (hd : 3 ≤ d) (hT : vT I) (hs : s < 2 ^ 24) (h1 : g_isw s → K (some (.int (nI (g_N (g_pl s))))) (am_st I Lg rr n)) (h2 : ¬ g_isw s → K (some (.int (am_k (-4)))) (am_st I Lg rr n)) : am_AC d k_M_numberOf [.ref 1469, .int (nI s)] (am_st I Lg rr n) K := by
  obtain ⟨d, rfl, hd1⟩ := s_up hd
  have hp := pl_lt s
  generalize hP : g_pl s = p at *
  have key : ∀ k, k ≤ 12 → am_St d k_M_numberOf (am_st I Lg rr n) K 8 [some (.ref 1469), some (.int (nI s)), some (.int (nI (s ^^^ g_w (g_hi p k)))), some (.int (nI (g_N (g_hi p k)))), some (.int (nI k + am_k (-1)))] [] (am_st I Lg rr n) := by
    intro k
    induction k with
    | zero =>
      intro _
      rw [hi_0]
      have lt := xor_lt hs (g_w_lt p)
      refine am_step _ _ _ (b_M_numberOf_8 ⟨fun _ => ⟨fun q => h1 ?_, fun q => h2 ?_⟩, fun q => absurd (show nI 0 + am_k (-1) < 0 by decide) q⟩)
      · have : nI (s ^^^ g_w p) = nI 0 := q
        rw [nI_eq (by omega) (by decide)] at this
        unfold g_isw
        rw [hP]
        exact xor_0 this
      · intro e
        refine q ?_
        unfold g_isw at e
        rw [hP] at e
        rw [← e, Nat.xor_self]
        rfl
    | succ k ih =>
      intro hk
      have ek : nI (k + 1) + am_k (-1) = nI k := pk_m1 k
      have eu : am_un (nI k) = k := n_un (by omega)
      have e12 : am_un (nI k) < 12 := by
        rw [eu]
        omega
      have lt := xor_lt hs (g_w_lt (g_hi p (k + 1)))
      have ih := ih (by omega)
      have eb : (s ^^^ g_w (g_hi p (k + 1))).testBit (12 + k) = p.testBit k := by
        rw [Nat.testBit_xor, w_tb (hi_lt hp _) (by omega), hi_tb, decide_eq_false (Nat.not_succ_le_self k), Bool.false_and, Bool.xor_false, ← hP, pl_tb _ (by omega)]
      rw [ek]
      refine am_step _ _ _ (b_M_numberOf_8 ⟨fun q => absurd q (show ¬ nI k < nI 0 from nI_nlt (Nat.zero_le _) (by omega)), fun _ => ⟨e12, ?_⟩⟩)
      have ul := U_lt k (by omega)
      rw [eu, hT.2.2.2.1 k (by omega)]
      refine s_highest hd1 (by omega) ⟨_, rfl, am_step _ _ _ (b_M_numberOf_24 (s_has (by omega) ⟨_, rfl, am_step _ _ _ (b_M_numberOf_27 ?_)⟩))⟩
      rw [U_high k (by omega), m_has_n (by omega) (by omega), eb]
      rw [hi_s] at ih
      cases hb : p.testBit k
      · rw [hb, if_neg (by decide), Nat.xor_zero] at ih
        exact ⟨fun _ => ih, fun q => absurd rfl q⟩
      · rw [hb, if_pos rfl, g_w_xor, g_N_xor, g_w_p2 k (by omega), g_N_p2 k (by omega), ← Nat.xor_assoc] at ih
        refine ⟨fun q => absurd q (by decide), fun _ => ⟨e12, e12, ?_⟩⟩
        rw [eu, hT.2.2.2.1 k (by omega), hT.2.2.2.2.1 k (by omega), n_xor, n_xor]
        exact ih
  have k0 := key 12 (Nat.le_refl _)
  rw [hi_12 hp, show g_w 0 = 0 by decide +kernel, show g_N 0 = 0 by decide +kernel, Nat.xor_zero] at k0
  exact am_in _ _ _ (am_step _ _ _ (b_M_numberOf_0 k0))
end NO
