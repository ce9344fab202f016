/-! THE MODEL'S TAPE: its small methods -/
def pm (I : Nat → Nat → Int32) (p : Nat) : Nat → Nat → Int32 := am_sr I 1469 (am_u1 (I 1469) 10 (nI p))
def uT (I : Nat → Nat → Int32) (tl : Nat) (t : Nat → Nat) : Prop := tl ≤ 100 ∧ I 1469 9 = nI tl ∧ ∀ k, k < tl → 32 ≤ t k ∧ t k ≤ 126 ∧ I 1476 k = nI (t k)
theorem pm_10 (I : Nat → Nat → Int32) (p : Nat) : pm I p 1469 10 = nI p := by
  unfold pm
  rw [am_sr_at, am_u1_at]
theorem pm_j (I : Nat → Nat → Int32) (p : Nat) {j : Nat} (h : ¬ j = 10) : pm I p 1469 j = I 1469 j := by
  unfold pm
  rw [am_sr_at, am_u1_off _ _ h]
theorem pm_off (I : Nat → Nat → Int32) (p : Nat) {c : Nat} (h : ¬ c = 1469) : pm I p c = I c := am_sr_off _ _ h
theorem pm_pm (I : Nat → Nat → Int32) (p q : Nat) : am_sr (pm I p) 1469 (am_u1 (pm I p 1469) 10 (nI q)) = pm I q := by
  unfold pm
  rw [am_sr_sr, am_sr_at]
  refine congrArg (am_sr I 1469) (funext fun j => ?_)
  by_cases c : j = 10
  · rw [c, am_u1_at, am_u1_at]
  · rw [am_u1_off _ _ c, am_u1_off _ _ c, am_u1_off _ _ c]
theorem pm_sr (I : Nat → Nat → Int32) (p : Nat) {a : Nat} (g : Nat → Int32) (h : ¬ a = 1469) : am_sr (pm I p) a g = pm (am_sr I a g) p := by
  funext b
  by_cases c : b = a
  · rw [c, am_sr_at, pm_off _ _ h, am_sr_at]
  · rw [am_sr_off _ _ c]
    by_cases c2 : b = 1469
    · rw [c2]
      unfold pm
      rw [am_sr_at, am_sr_at, am_sr_off _ _ (fun e => h e.symm)]
    · rw [pm_off _ _ c2, pm_off _ _ c2, am_sr_off _ _ c]
theorem m_rng_n {c lo hi : Nat} (hc : c < 2 ^ 31) (hl : lo < 2 ^ 31) (hh : hi < 2 ^ 31) : m_rng (nI c) lo hi = if lo ≤ c ∧ c ≤ hi then nI 1 else nI 0 := by
  unfold m_rng
  by_cases h : lo ≤ c ∧ c ≤ hi
  · rw [if_pos h, if_pos]
    exact ⟨Int32.not_lt.mp (nI_nlt h.1 hc), Int32.not_lt.mp (nI_nlt h.2 hh)⟩
  · rw [if_neg h, if_neg]
    intro ⟨h1, h2⟩
    by_cases q : lo ≤ c
    · exact absurd (nI_lt (show hi < c by omega) hc) (Int32.not_lt.mpr h2)
    · exact absurd (nI_lt (show c < lo by omega) hl) (Int32.not_lt.mpr h1)
section MT
variable {d : Nat} {K : Option Value → am_M → Prop} {I : Nat → Nat → Int32} {Lg : Nat → Nat → Int64} {rr : Nat → Nat → Option Nat} {n : Nat} {tl : Nat} {t : Nat → Nat} {cur : Nat → Nat → Nat}
theorem uT.L (h : uT I tl t) (p : Nat) : x_L tl t p ≤ 126 ∧ (p < tl → 32 ≤ x_L tl t p) := by
  by_cases c : p < tl
  · rw [L_at c]
    exact ⟨(h.2.2 p c).2.1, fun _ => (h.2.2 p c).1⟩
  · unfold x_L
    rw [if_neg c]
    exact ⟨by decide, fun q => absurd q c⟩
theorem uT.at (h : uT I tl t) {p : Nat} (hp : p < tl) : I 1476 p = nI (x_L tl t p) := by
  rw [L_at hp]
  exact (h.2.2 p hp).2.2
theorem s_here {p : Nat} (hd : 1 ≤ d) (hT : uT I tl t) (hp : p ≤ tl) (h : K (some (.int (nI (x_L tl t (g_sk tl t p))))) (am_st (pm I (g_sk tl t p)) Lg rr n)) : am_AC d k_M_here [.ref 1469] (am_st (pm I p) Lg rr n) K := by
  obtain ⟨d, rfl, hd1⟩ := s_up hd
  have tl100 := hT.1
  generalize hM : am_st (pm I p) Lg rr n = M0
  have key : ∀ m q, m = tl - q → q ≤ tl → g_sk tl t q = g_sk tl t p → am_St d k_M_here M0 K 0 [some (.ref 1469)] [] (am_st (pm I q) Lg rr n) := by
    intro m
    induction m with
    | zero =>
      intro q hq hql e
      have eL : x_L tl t q = 0 := by
        unfold x_L
        rw [if_neg (by omega)]
      rw [sk_e (by rw [eL]; decide)] at e
      refine am_step _ _ _ (b_M_here_0 ?_)
      rw [pm_10, pm_j _ _ (by decide), hT.2.1]
      refine ⟨fun c => absurd c (nI_nlt (by omega) (by omega)), fun _ => ⟨fun c => absurd c (nI_nlt (by omega) (by omega)), fun _ => ?_⟩⟩
      rw [← e, eL] at h
      exact h
    | succ m ih =>
      intro q hq hql e
      have ql : q < tl := by omega
      have xl := hT.L q
      refine am_step _ _ _ (b_M_here_0 ?_)
      rw [pm_10, pm_j _ _ (by decide), hT.2.1, n_un (show q < 2 ^ 32 by omega), pm_off _ _ (by decide), hT.at ql, nI_add, pm_pm]
      refine ⟨fun _ => ⟨by omega, fun c => ih (q + 1) (by omega) ql ?_, fun c => ⟨fun _ => ⟨by omega, ?_⟩, fun c2 => absurd (nI_lt ql (by omega)) c2⟩⟩, fun c => absurd (nI_lt ql (by omega)) c⟩
      · rw [nI_eq (by omega) (by decide)] at c
        rw [← sk_s c, e]
      · rw [nI_eq (by omega) (by decide)] at c
        rw [sk_e c] at e
        rw [← e] at h
        exact h
  have := key _ p rfl hp rfl
  rw [← hM] at this ⊢
  exact am_in _ _ _ this
theorem s_Mrow {p lo hi : Nat} {v : Int32} (hd : 3 ≤ d) (hT : uT I tl t) (hp : p ≤ tl) (hv : (v = 0 ∧ lo = 97 ∧ hi = 122) ∨ (¬ v = 0 ∧ lo = 48 ∧ hi = 57)) (h : K (some (.int (nI (gt_rn tl t lo hi (g_sk tl t p) - g_sk tl t p)))) (am_st (pm I (gt_rn tl t lo hi (g_sk tl t p))) Lg rr n)) : am_AC d k_M_row [.ref 1469, .int v] (am_st (pm I p) Lg rr n) K := by
  obtain ⟨d, rfl, hd1⟩ := s_up hd
  have tl100 := hT.1
  have sl := sk_le (t := t) p hp
  have l0 : 0 < lo := by rcases hv with q | q <;> omega
  have l1 : lo < 2 ^ 31 := by rcases hv with q | q <;> omega
  have l2 : hi < 2 ^ 31 := by rcases hv with q | q <;> omega
  generalize hM : am_st (pm I p) Lg rr n = M0
  have key : ∀ m q, m = tl - q → q ≤ tl → g_sk tl t p ≤ q → gt_rn tl t lo hi q = gt_rn tl t lo hi (g_sk tl t p) → am_St d k_M_row M0 K 7 [some (.ref 1469), some (.int v), some (.int (nI (q - g_sk tl t p)))] [] (am_st (pm I q) Lg rr n) := by
    intro m
    induction m with
    | zero =>
      intro q hq hql hge e
      rw [rn_e (by unfold x_L; rw [if_neg (by omega)]; omega)] at e
      refine am_step _ _ _ (b_M_row_7 ?_)
      rw [pm_10, pm_j _ _ (by decide), hT.2.1]
      rw [← e] at h
      exact ⟨fun c => absurd c (nI_nlt (by omega) (by omega)), fun _ => h⟩
    | succ m ih =>
      intro q hq hql hge e
      have ql : q < tl := by omega
      have xl := hT.L q
      have yes : lo ≤ x_L tl t q ∧ x_L tl t q ≤ hi → am_St d k_M_row M0 K 7 [some (.ref 1469), some (.int v), some (.int (nI (q + 1 - g_sk tl t p)))] [] (am_st (pm I (q + 1)) Lg rr n) := fun c => ih (q + 1) (by omega) ql (by omega) (by rw [← rn_s l0 c, e])
      have no : ¬ (lo ≤ x_L tl t q ∧ x_L tl t q ≤ hi) → K (some (.int (nI (q - g_sk tl t p)))) (am_st (pm I q) Lg rr n) := fun c => by
        rw [rn_e c] at e
        rw [← e] at h
        exact h
      have z10 : ¬ nI 1 = 0 := by decide
      refine am_step _ _ _ (b_M_row_7 ?_)
      rw [pm_10, pm_j _ _ (by decide), hT.2.1, n_un (show q < 2 ^ 32 by omega), pm_off _ _ (by decide), hT.at ql]
      refine ⟨fun _ => ⟨fun e0 => ⟨by omega, s_isLow (by omega) ⟨_, rfl, am_step _ _ _ (b_M_row_52 ?_)⟩⟩, fun e0 => ⟨by omega, s_isFigure (by omega) ⟨_, rfl, am_step _ _ _ (b_M_row_34 ?_)⟩⟩⟩, fun c => absurd (nI_lt ql (by omega)) c⟩
      · obtain ⟨a1, a2⟩ : lo = 97 ∧ hi = 122 := by
          rcases hv with q2 | q2
          · exact q2.2
          · exact absurd e0 q2.1
        rw [m_rng_n (by omega) (by decide) (by decide), pm_10, nI_add, nI_add, pm_pm, show q - g_sk tl t p + 1 = q + 1 - g_sk tl t p by omega]
        rw [a1, a2] at yes no
        by_cases c : 97 ≤ x_L tl t q ∧ x_L tl t q ≤ 122
        · rw [if_pos c]
          exact ⟨fun q2 => absurd q2 z10, fun _ => yes c⟩
        · rw [if_neg c]
          exact ⟨fun _ => no c, fun q2 => absurd rfl q2⟩
      · obtain ⟨a1, a2⟩ : lo = 48 ∧ hi = 57 := by
          rcases hv with q2 | q2
          · exact absurd q2.1 e0
          · exact q2.2
        rw [m_rng_n (by omega) (by decide) (by decide), pm_10, nI_add, nI_add, pm_pm, show q - g_sk tl t p + 1 = q + 1 - g_sk tl t p by omega]
        rw [a1, a2] at yes no
        by_cases c : 48 ≤ x_L tl t q ∧ x_L tl t q ≤ 57
        · rw [if_pos c]
          exact ⟨fun q2 => absurd q2 z10, fun _ => yes c⟩
        · rw [if_neg c]
          exact ⟨fun _ => no c, fun q2 => absurd rfl q2⟩
  refine am_in _ _ _ ?_
  rw [← hM] at key ⊢
  refine am_step _ _ _ (b_M_row_0 (s_here (by omega) hT hp ⟨_, rfl, am_step _ _ _ (b_M_row_4 ?_)⟩))
  have := key _ (g_sk tl t p) rfl sl (Nat.le_refl _) rfl
  rw [Nat.sub_self] at this
  exact this
theorem s_Mnumber {p most : Nat} (hd : 4 ≤ d) (hT : uT I tl t) (hp : p ≤ tl) (hm : most ≤ 99) (h1 : n_ok tl t (g_sk tl t p) most → K (some (.int (nI (g_nv tl t (g_sk tl t p))))) (am_st (pm I (gt_rn tl t 48 57 (g_sk tl t p))) Lg rr n)) (h0 : ¬ n_ok tl t (g_sk tl t p) most → K (some (.int (am_k (-1)))) (am_st (pm I (g_sk tl t p)) Lg rr n)) : am_AC d k_M_number [.ref 1469, .int (nI most)] (am_st (pm I p) Lg rr n) K := by
  obtain ⟨d, rfl, hd1⟩ := s_up hd
  have tl100 := hT.1
  have sl := sk_le (t := t) p hp
  have el := rn_le (t := t) (lo := 48) (hi := 57) (by decide) _ sl
  have eg := rn_ge (tl := tl) (t := t) (lo := 48) (hi := 57) (by decide) (g_sk tl t p)
  have dg := dig (tl := tl) (t := t) (p := g_sk tl t p)
  refine am_in _ _ _ (am_step _ _ _ (b_M_number_0 (s_Mrow (by omega) hT hp (Or.inr ⟨by decide, rfl, rfl⟩) ⟨_, rfl, am_step _ _ _ (b_M_number_5 ?_)⟩)))
  generalize hq : g_sk tl t p = q at *
  generalize he : gt_rn tl t 48 57 q = e at *
  have back : pm I (e - (e - q)) = pm I q := by rw [show e - (e - q) = q by omega]
  rw [pm_10, pk_sub (show e - q ≤ e by omega), pm_pm, back]
  by_cases e1 : e = q + 1
  · have d0 := dg q (Nat.le_refl _) (by omega)
    have ev : g_nv tl t q = x_L tl t q - 48 := by
      unfold g_nv
      rw [he, if_pos e1]
    rw [e1, show q + 1 - q = 1 by omega, pk_sub (show 1 ≤ q + 1 by omega), show q + 1 - 1 = q by omega, n_un (show q < 2 ^ 32 by omega), pm_off _ _ (by decide), hT.at (show q < tl by omega), pk_sub d0.1]
    rw [e1] at h1
    refine ⟨fun _ => ⟨by omega, fun c => absurd c (by decide), fun _ => ⟨fun c => h0 fun h => ?_, fun c => ?_⟩⟩, fun c => absurd rfl c⟩
    · have := h.2
      rw [ev] at this
      exact absurd c (nI_nlt this (by omega))
    · have : x_L tl t q - 48 ≤ most := Nat.le_of_not_lt fun h => c (nI_lt h (by omega))
      rw [ev] at h1
      exact h1 ⟨Or.inl (he.trans e1), by rw [ev]; exact this⟩
  · by_cases e2 : e = q + 2
    · have d0 := dg q (Nat.le_refl _) (by omega)
      have d1 := dg (q + 1) (by omega) (by omega)
      have ev : g_nv tl t q = 10 * x_L tl t q + x_L tl t (q + 1) - 528 := by
        unfold g_nv
        rw [he, if_neg e1]
      rw [e2, show q + 2 - q = 2 by omega, pk_sub (show 1 ≤ q + 2 by omega), show q + 2 - 1 = q + 1 by omega, pk_sub (show 2 ≤ q + 2 by omega), show q + 2 - 2 = q by omega, n_un (show q < 2 ^ 32 by omega), n_un (show q + 1 < 2 ^ 32 by omega), pm_off _ _ (by decide), hT.at (show q < tl by omega), hT.at (show q + 1 < tl by omega), pk_mul, nI_add, pk_sub (show 528 ≤ 10 * x_L tl t q + x_L tl t (q + 1) by omega)]
      rw [e2] at h1
      refine ⟨fun c => absurd c (by decide), fun _ => ⟨fun _ => ⟨by omega, by omega, fun c => absurd c (by decide), fun _ => ⟨fun c => h0 fun h => ?_, fun c => ?_⟩⟩, fun c => absurd rfl c⟩⟩
      · have := h.2
        rw [ev] at this
        exact absurd c (nI_nlt this (by omega))
      · have : 10 * x_L tl t q + x_L tl t (q + 1) - 528 ≤ most := Nat.le_of_not_lt fun h => c (nI_lt h (by omega))
        rw [ev] at h1
        exact h1 ⟨Or.inr (he.trans e2), by rw [ev]; exact this⟩
    · have bad : ¬ n_ok tl t q most := fun h => by
        have := h.1
        rw [he] at this
        omega
      refine ⟨fun c => ?_, fun _ => ⟨fun c => ?_, fun _ => ⟨fun _ => h0 bad, fun _ => ⟨fun _ => h0 bad, fun c => absurd (nI_lt (show most < 100 by omega) (by decide)) c⟩⟩⟩⟩
      · rw [nI_eq (by omega) (by decide)] at c
        omega
      · rw [nI_eq (by omega) (by decide)] at c
        omega
/-- a name of four or five letters -/
theorem s_MisName {k p e a b c f g : Nat} (hd : 1 ≤ d) (hT : uT I tl t) (hp : p ≤ e) (he : e ≤ tl) (hk : 5 ≤ k ∧ k < 10) (ha : sh_c (2 + k) 0 = a) (hb : sh_c (2 + k) 1 = b) (hc : sh_c (2 + k) 2 = c) (hf : sh_c (2 + k) 3 = f) (hg : sh_n (2 + k) = 4 ∨ (sh_n (2 + k) = 5 ∧ sh_c (2 + k) 4 = g)) (hl : a < 128 ∧ b < 128 ∧ c < 128 ∧ f < 128 ∧ g < 128) (h1 : nm_is tl t k p e → K (some (.int (nI 1))) (am_st (pm I e) Lg rr n)) (h0 : ¬ nm_is tl t k p e → K (some (.int (nI 0))) (am_st (pm I e) Lg rr n)) : am_AC d k_M_isName [.ref 1469, .int (nI (e - p)), .int (nI (sh_n (2 + k))), .int (nI a), .int (nI b), .int (nI c), .int (nI f), .int (nI g)] (am_st (pm I e) Lg rr n) K := by
  obtain ⟨d, rfl, hd1⟩ := s_up hd
  have tl100 := hT.1
  have n45 : sh_n (2 + k) = 4 ∨ sh_n (2 + k) = 5 := by rcases hg with q | q <;> omega
  refine am_in _ _ _ (am_step _ _ _ (b_M_isName_0 ?_))
  rw [pm_10, pk_sub (show e - p ≤ e by omega), show e - (e - p) = p by omega, nI_add, nI_add, nI_add, nI_add, n_un (show p < 2 ^ 32 by omega), n_un (show p + 1 < 2 ^ 32 by omega), n_un (show p + 2 < 2 ^ 32 by omega), n_un (show p + 3 < 2 ^ 32 by omega), n_un (show p + 4 < 2 ^ 32 by omega), pm_off _ _ (by decide)]
  refine ⟨fun q => ?_, fun q => h0 fun h => q (by rw [h.1, show p + sh_n (2 + k) - p = sh_n (2 + k) by omega])⟩
  rw [nI_eq (by omega) (by omega)] at q
  have lt0 : ∀ j, j < sh_n (2 + k) → p + j < tl := fun j hj => by omega
  have at_ : ∀ j, j < sh_n (2 + k) → I 1476 (p + j) = nI (x_L tl t (p + j)) := fun j hj => hT.at (lt0 j hj)
  have xl : ∀ j, x_L tl t (p + j) ≤ 126 := fun j => (hT.L (p + j)).1
  have a0 : I 1476 p = nI (x_L tl t p) := at_ 0 (by omega)
  rw [a0, at_ 1 (by omega), at_ 2 (by omega), at_ 3 (by omega)]
  have x0 : x_L tl t p ≤ 126 := xl 0
  have x1 := xl 1
  have x2 := xl 2
  have x3 := xl 3
  have lp := lt0 3 (by omega)
  refine ⟨by omega, fun q0 => ⟨by omega, fun q1 => ⟨by omega, fun q2 => ⟨by omega, fun q3 => ⟨fun q4 => ?_, fun q4 => ?_⟩, fun q3 => ?_⟩, fun q2 => ?_⟩, fun q1 => ?_⟩, fun q0 => ?_⟩
  · rw [nI_eq (by omega) (by omega)] at q0 q1 q2 q3
    have n4 : sh_n (2 + k) = 4 := by
      rcases n45 with h | h
      · exact h
      · rw [h] at q4
        exact absurd q4 (by decide)
    refine h1 ⟨by omega, fun j hj => ?_⟩
    have : j = 0 ∨ j = 1 ∨ j = 2 ∨ j = 3 := by omega
    rcases this with rfl | rfl | rfl | rfl
    · rw [ha]
      exact q0
    · rw [hb]
      exact q1
    · rw [hc]
      exact q2
    · rw [hf]
      exact q3
  · have n5 : sh_n (2 + k) = 5 := by
      rcases n45 with h | h
      · rw [h] at q4
        exact absurd (by decide) q4
      · exact h
    have g4 : sh_c (2 + k) 4 = g := by rcases hg with h | h <;> omega
    have x4 := xl 4
    have l4 := lt0 4 (by omega)
    rw [at_ 4 (by omega)]
    refine ⟨by omega, fun q5 => ?_, fun q5 => h0 fun h => q5 ?_⟩
    · rw [nI_eq (by omega) (by omega)] at q0 q1 q2 q3 q5
      refine h1 ⟨by omega, fun j hj => ?_⟩
      have : j = 0 ∨ j = 1 ∨ j = 2 ∨ j = 3 ∨ j = 4 := by omega
      rcases this with rfl | rfl | rfl | rfl | rfl
      · rw [ha]
        exact q0
      · rw [hb]
        exact q1
      · rw [hc]
        exact q2
      · rw [hf]
        exact q3
      · rw [g4]
        exact q5
    · rw [h.2 4 (by omega), g4]
  · exact h0 fun h => q3 (by rw [h.2 3 (by omega), hf])
  · exact h0 fun h => q2 (by rw [h.2 2 (by omega), hc])
  · exact h0 fun h => q1 (by rw [h.2 1 (by omega), hb])
  · have := h0
    exact this fun h => q0 (by have := h.2 0 (by omega); rw [Nat.add_zero] at this; rw [this, ha])
/-- the name's number with the model: 0 to 4 as named, 5 to 9 a move -/
theorem s_MnameOf {p e : Nat} (hd : 2 ≤ d) (hT : uT I tl t) (hp : p ≤ e) (he : e ≤ tl) (hr : ∀ j, p ≤ j → j < e → 97 ≤ x_L tl t j) (h1 : ∀ k, k < 10 → nm_is tl t k p e → K (some (.int (nI (if k < 5 then k + 5 else k - 5)))) (am_st (pm I e) Lg rr n)) (h0 : (∀ k, k < 10 → ¬ nm_is tl t k p e) → K (some (.int (am_k (-4)))) (am_st (pm I e) Lg rr n)) : am_AC d k_M_nameOf [.ref 1469, .int (nI (e - p))] (am_st (pm I e) Lg rr n) K := by
  obtain ⟨d, rfl, hd1⟩ := s_up hd
  have tl100 := hT.1
  have z10 : ¬ nI 1 = 0 := by decide
  have one : ∀ k, k < 5 → sh_n (2 + k) = 1 ∧ sh_c (2 + k) 0 = 97 + k := by decide +kernel
  have long : ∀ k, 5 ≤ k → k < 10 → 4 ≤ sh_n (2 + k) := fun k h5 h10 => (show ∀ k, k < 10 → k < 5 ∨ 4 ≤ sh_n (2 + k) by decide +kernel) k h10 |>.elim (fun q => absurd q (by omega)) id
  refine am_in _ _ _ (am_step _ _ _ (b_M_nameOf_0 ⟨fun c => ?_, fun c => ?_⟩))
  · rw [nI_eq (by omega) (by decide)] at c
    have ee : e = p + 1 := by omega
    have xl := hT.L p
    have x97 := hr p (Nat.le_refl _) (by omega)
    rw [pm_10, pk_sub (show 1 ≤ e by omega), show e - 1 = p by omega, n_un (show p < 2 ^ 32 by omega), pm_off _ _ (by decide), hT.at (show p < tl by omega)]
    refine ⟨by omega, s_in (by omega) ⟨_, rfl, am_step _ _ _ (b_M_nameOf_26 ?_)⟩⟩
    rw [m_in_n (by omega) (by decide) (by decide)]
    by_cases c2 : 97 ≤ x_L tl t p ∧ x_L tl t p ≤ 101
    · rw [if_pos c2, pm_10, pk_sub (show 1 ≤ e by omega), show e - 1 = p by omega, n_un (show p < 2 ^ 32 by omega), pm_off _ _ (by decide), hT.at (show p < tl by omega), pk_sub (show 92 ≤ x_L tl t p by omega)]
      have ok := one (x_L tl t p - 97) (by omega)
      have := h1 (x_L tl t p - 97) (by omega) ⟨by rw [ok.1]; exact ee, fun j hj => by
        rw [ok.1] at hj
        rw [show j = 0 by omega, ok.2, Nat.add_zero]
        omega⟩
      rw [if_pos (show x_L tl t p - 97 < 5 by omega), show x_L tl t p - 97 + 5 = x_L tl t p - 92 by omega] at this
      exact ⟨fun q => absurd q z10, fun _ => ⟨by omega, this⟩⟩
    · rw [if_neg c2]
      refine ⟨fun _ => h0 fun k hk h => ?_, fun q => absurd rfl q⟩
      by_cases k5 : k < 5
      · have ok := one k k5
        have := h.2 0 (by omega)
        rw [Nat.add_zero, ok.2] at this
        omega
      · have := long k (by omega) hk
        have := h.1
        omega
  · have ne1 : ¬ e - p = 1 := fun q => c (by rw [q])
    have small : ∀ k, k < 5 → ¬ nm_is tl t k p e := fun k hk h => by
      have := h.1
      rw [(one k hk).1] at this
      omega
    have no4 : nI 0 = (0 : Int32) := rfl
    refine s_MisName (k := 5) (by omega) hT hp he (by decide) rfl rfl rfl rfl (Or.inl rfl) (by decide) (fun h => ⟨_, rfl, am_step _ _ _ (b_M_nameOf_64 ⟨fun q => absurd q z10, fun _ => h1 5 (by decide) h⟩)⟩) fun g5 => ⟨_, rfl, am_step _ _ _ (b_M_nameOf_64 ⟨fun _ => ?_, fun q => absurd rfl q⟩)⟩
    refine s_MisName (k := 6) (by omega) hT hp he (by decide) rfl rfl rfl rfl (Or.inr ⟨rfl, rfl⟩) (by decide) (fun h => ⟨_, rfl, am_step _ _ _ (b_M_nameOf_87 ⟨fun q => absurd q z10, fun _ => h1 6 (by decide) h⟩)⟩) fun g6 => ⟨_, rfl, am_step _ _ _ (b_M_nameOf_87 ⟨fun _ => ?_, fun q => absurd rfl q⟩)⟩
    refine s_MisName (k := 7) (by omega) hT hp he (by decide) rfl rfl rfl rfl (Or.inl rfl) (by decide) (fun h => ⟨_, rfl, am_step _ _ _ (b_M_nameOf_109 ⟨fun q => absurd q z10, fun _ => h1 7 (by decide) h⟩)⟩) fun g7 => ⟨_, rfl, am_step _ _ _ (b_M_nameOf_109 ⟨fun _ => ?_, fun q => absurd rfl q⟩)⟩
    refine s_MisName (k := 8) (by omega) hT hp he (by decide) rfl rfl rfl rfl (Or.inl rfl) (by decide) (fun h => ⟨_, rfl, am_step _ _ _ (b_M_nameOf_131 ⟨fun q => absurd q z10, fun _ => h1 8 (by decide) h⟩)⟩) fun g8 => ⟨_, rfl, am_step _ _ _ (b_M_nameOf_131 ⟨fun _ => ?_, fun q => absurd rfl q⟩)⟩
    refine s_MisName (k := 9) (by omega) hT hp he (by decide) rfl rfl rfl rfl (Or.inl rfl) (by decide) (fun h => ⟨_, rfl, am_step _ _ _ (b_M_nameOf_153 ⟨fun q => absurd q z10, fun _ => h1 9 (by decide) h⟩)⟩) fun g9 => ⟨_, rfl, am_step _ _ _ (b_M_nameOf_153 ⟨fun _ => h0 fun k hk => ?_, fun q => absurd rfl q⟩)⟩
    by_cases k5 : k < 5
    · exact small k k5
    · have : k = 5 ∨ k = 6 ∨ k = 7 ∨ k = 8 ∨ k = 9 := by omega
      rcases this with rfl | rfl | rfl | rfl | rfl
      · exact g5
      · exact g6
      · exact g7
      · exact g8
      · exact g9
end MT
