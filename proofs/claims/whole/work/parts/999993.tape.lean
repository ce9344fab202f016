/-! THE CLASS'S TAPE: its small methods -/
def ps (I : Nat → Nat → Int32) (p : Nat) : Nat → Nat → Int32 := am_sr I 1438 (am_u1 (I 1438) 7 (nI p))
def tT (I : Nat → Nat → Int32) (tl : Nat) (t : Nat → Nat) : Prop := tl ≤ 100 ∧ I 1438 6 = nI tl ∧ ∀ k, k < tl → 32 ≤ t k ∧ t k ≤ 126 ∧ I 1439 k = nI (t k)
theorem ps_7 (I : Nat → Nat → Int32) (p : Nat) : ps I p 1438 7 = nI p := by
  unfold ps
  rw [am_sr_at, am_u1_at]
theorem ps_j (I : Nat → Nat → Int32) (p : Nat) {j : Nat} (h : ¬ j = 7) : ps I p 1438 j = I 1438 j := by
  unfold ps
  rw [am_sr_at, am_u1_off _ _ h]
theorem ps_off (I : Nat → Nat → Int32) (p : Nat) {c : Nat} (h : ¬ c = 1438) : ps I p c = I c := am_sr_off _ _ h
theorem ps_ps (I : Nat → Nat → Int32) (p q : Nat) : am_sr (ps I p) 1438 (am_u1 (ps I p 1438) 7 (nI q)) = ps I q := by
  unfold ps
  rw [am_sr_sr, am_sr_at]
  refine congrArg (am_sr I 1438) (funext fun j => ?_)
  by_cases c : j = 7
  · rw [c, am_u1_at, am_u1_at]
  · rw [am_u1_off _ _ c, am_u1_off _ _ c, am_u1_off _ _ c]
theorem ps_sr (I : Nat → Nat → Int32) (p : Nat) {a : Nat} (g : Nat → Int32) (h : ¬ a = 1438) : am_sr (ps I p) a g = ps (am_sr I a g) p := by
  funext b
  by_cases c : b = a
  · rw [c, am_sr_at, ps_off _ _ h, am_sr_at]
  · rw [am_sr_off _ _ c]
    by_cases c2 : b = 1438
    · rw [c2]
      unfold ps
      rw [am_sr_at, am_sr_at, am_sr_off _ _ (fun e => h e.symm)]
    · rw [ps_off _ _ c2, ps_off _ _ c2, am_sr_off _ _ c]
theorem RR_1439 (rr : Nat → Nat → Option Nat) : ∀ m, m < 7 → RR rr 1440 m = some (1441 + m) := fun m hm => by
  rw [RR_sh (by decide) (by decide) (by decide)]
  exact (show ∀ m, m < 7 → sh_r 1440 m = some (1441 + m) by decide +kernel) m hm
theorem RR_1447 (rr : Nat → Nat → Option Nat) : ∀ m, m < 7 → RR rr 1448 m = some (1449 + m) := fun m hm => by
  rw [RR_sh (by decide) (by decide) (by decide)]
  exact (show ∀ m, m < 7 → sh_r 1448 m = some (1449 + m) by decide +kernel) m hm
theorem RR_13 (rr : Nat → Nat → Option Nat) : ∀ m, m < 5 → RR rr 13 m = some (14 + m) := fun m hm => by
  rw [RR_sh (by decide) (by decide) (by decide)]
  exact (show ∀ m, m < 5 → sh_r 13 m = some (14 + m) by decide +kernel) m hm
theorem ta_ro0 : ∀ a, a < 1457 → (1441 ≤ a ∧ ¬ a = 1448) ∨ (14 ≤ a ∧ a < 19) → sh_t a = 0 ∧ sh_n a = 24 := by decide +kernel
theorem ta_ro {a : Nat} (h : a < 1457) (h2 : (1441 ≤ a ∧ ¬ a = 1448) ∨ (14 ≤ a ∧ a < 19)) : am_ro 1497 a 24 := ⟨(ta_ro0 a h h2).1, (ta_ro0 a h h2).2, by omega, by omega⟩
section TT
variable {d : Nat} {K : Option Value → am_M → Prop} {I : Nat → Nat → Int32} {Lg : Nat → Nat → Int64} {rr : Nat → Nat → Option Nat} {n : Nat} {tl : Nat} {t : Nat → Nat}
theorem tT.L (h : tT I tl t) (p : Nat) : x_L tl t p ≤ 126 ∧ (p < tl → 32 ≤ x_L tl t p) := by
  by_cases c : p < tl
  · rw [L_at c]
    exact ⟨(h.2.2 p c).2.1, fun _ => (h.2.2 p c).1⟩
  · unfold x_L
    rw [if_neg c]
    exact ⟨by decide, fun q => absurd q c⟩
theorem tT.at (h : tT I tl t) {p : Nat} (hp : p < tl) : I 1439 p = nI (x_L tl t p) := by
  rw [L_at hp]
  exact (h.2.2 p hp).2.2
theorem s_isAtEnd {p : Nat} (hd : 1 ≤ d) (hT : tT I tl t) (hp : p ≤ tl) (h1 : g_sk tl t p = tl → K (some (.int (nI 1))) (am_st (ps I (g_sk tl t p)) Lg rr n)) (h0 : g_sk tl t p < tl → K (some (.int (nI 0))) (am_st (ps I (g_sk tl t p)) Lg rr n)) : am_AC d k_Ta_isAtEnd [.ref 1438] (am_st (ps I p) Lg rr n) K := by
  obtain ⟨d, rfl, hd1⟩ := s_up hd
  have tl100 := hT.1
  generalize hM : am_st (ps I p) Lg rr n = M0
  have key : ∀ m q, m = tl - q → q ≤ tl → g_sk tl t q = g_sk tl t p → am_St d k_Ta_isAtEnd M0 K 0 [some (.ref 1438)] [] (am_st (ps I q) Lg rr n) := by
    intro m
    induction m with
    | zero =>
      intro q hq hql e
      have eq : q = tl := by omega
      have e2 : ¬ x_L tl t q = 32 := by
        unfold x_L
        rw [if_neg (by omega)]
        decide
      rw [sk_e e2] at e
      refine am_step _ _ _ (b_Ta_isAtEnd_0 ?_)
      rw [ps_7, ps_j _ _ (by decide), hT.2.1]
      refine ⟨fun c => absurd c (nI_nlt (by omega) (by omega)), fun _ => ⟨fun c => absurd c (nI_nlt (by omega) (by omega)), fun _ => ?_⟩⟩
      rw [← e] at h1
      exact h1 eq
    | succ m ih =>
      intro q hq hql e
      have ql : q < tl := by omega
      have xl := hT.L q
      refine am_step _ _ _ (b_Ta_isAtEnd_0 ?_)
      rw [ps_7, ps_j _ _ (by decide), hT.2.1, n_un (show q < 2 ^ 32 by omega), ps_off _ _ (by decide), hT.at ql, nI_add, ps_ps]
      refine ⟨fun _ => ⟨by omega, fun c => ih (q + 1) (by omega) ql ?_, fun c => ⟨fun _ => ?_, fun c2 => absurd (nI_lt ql (by omega)) c2⟩⟩, fun c => absurd (nI_lt ql (by omega)) c⟩
      · rw [nI_eq (by omega) (by decide)] at c
        rw [← sk_s c, e]
      · rw [nI_eq (by omega) (by decide)] at c
        rw [sk_e c] at e
        rw [← e] at h0
        exact h0 ql
  have := key _ p rfl hp rfl
  rw [← hM] at this ⊢
  exact am_in _ _ _ this
theorem s_isNext {p c : Nat} (hd : 2 ≤ d) (hT : tT I tl t) (hp : p ≤ tl) (hc : 0 < c) (hc2 : c < 128) (h1 : x_L tl t (g_sk tl t p) = c → K (some (.int (nI 1))) (am_st (ps I (g_sk tl t p)) Lg rr n)) (h0 : ¬ x_L tl t (g_sk tl t p) = c → K (some (.int (nI 0))) (am_st (ps I (g_sk tl t p)) Lg rr n)) : am_AC d k_Ta_isNext [.ref 1438, .int (nI c)] (am_st (ps I p) Lg rr n) K := by
  obtain ⟨d, rfl, hd1⟩ := s_up hd
  have tl100 := hT.1
  refine am_in _ _ _ (am_step _ _ _ (b_Ta_isNext_0 (s_isAtEnd (by omega) hT hp (fun e => ⟨_, rfl, am_step _ _ _ (b_Ta_isNext_4 ⟨fun q => absurd q (by decide), fun _ => h0 fun q => ?_⟩)⟩) fun e => ⟨_, rfl, am_step _ _ _ (b_Ta_isNext_4 ⟨fun _ => ?_, fun q => absurd rfl q⟩)⟩)))
  · have := L_lt (tl := tl) (t := t) (p := g_sk tl t p) (by omega)
    omega
  · rw [ps_7, n_un (show g_sk tl t p < 2 ^ 32 by omega), ps_off _ _ (by decide), hT.at e]
    have xl := hT.L (g_sk tl t p)
    refine ⟨by omega, fun q => ?_, fun q => h0 fun q2 => q (by rw [q2])⟩
    rw [nI_eq (by omega) (by omega)] at q
    exact h1 q
theorem s_accept {p c : Nat} (hd : 3 ≤ d) (hT : tT I tl t) (hp : p ≤ tl) (hc : 0 < c) (hc2 : c < 128) (h1 : x_L tl t (g_sk tl t p) = c → K (some (.int (nI 1))) (am_st (ps I (g_sk tl t p + 1)) Lg rr n)) (h0 : ¬ x_L tl t (g_sk tl t p) = c → K (some (.int (nI 0))) (am_st (ps I (g_sk tl t p)) Lg rr n)) : am_AC d k_Ta_accept [.ref 1438, .int (nI c)] (am_st (ps I p) Lg rr n) K := by
  obtain ⟨d, rfl, hd1⟩ := s_up hd
  refine am_in _ _ _ (am_step _ _ _ (b_Ta_accept_0 (s_isNext (by omega) hT hp hc hc2 (fun e => ⟨_, rfl, am_step _ _ _ (b_Ta_accept_5 ⟨fun q => absurd q (by decide), fun _ => ?_⟩)⟩) fun e => ⟨_, rfl, am_step _ _ _ (b_Ta_accept_5 ⟨fun _ => h0 e, fun q => absurd rfl q⟩)⟩)))
  rw [ps_7, nI_add, ps_ps]
  exact h1 e
theorem s_endOfRun {p lo hi : Nat} (hd : 2 ≤ d) (hT : tT I tl t) (hp : p ≤ tl) (h0 : 0 < lo) (hl : lo < 128) (hh : hi < 128) (h : K (some (.int (nI (gt_rn tl t lo hi (g_sk tl t p))))) (am_st (ps I (g_sk tl t p)) Lg rr n)) : am_AC d k_Ta_endOfRun [.ref 1438, .int (nI lo), .int (nI hi)] (am_st (ps I p) Lg rr n) K := by
  obtain ⟨d, rfl, hd1⟩ := s_up hd
  have tl100 := hT.1
  have sl := sk_le (t := t) p hp
  generalize hM : am_st (ps I p) Lg rr n = M0
  have key : ∀ m q, m = tl - q → q ≤ tl → gt_rn tl t lo hi q = gt_rn tl t lo hi (g_sk tl t p) → am_St d k_Ta_endOfRun M0 K 19 [some (.ref 1438), some (.int (nI lo)), some (.int (nI hi)), some (.int (nI q))] [] (am_st (ps I (g_sk tl t p)) Lg rr n) := by
    intro m
    induction m with
    | zero =>
      intro q hq hql e
      have eq : q = tl := by omega
      rw [rn_e (by unfold x_L; rw [if_neg (by omega)]; omega)] at e
      refine am_step _ _ _ (b_Ta_endOfRun_19 ?_)
      rw [ps_j _ _ (by decide), hT.2.1]
      rw [← e] at h
      exact ⟨fun c => absurd c (nI_nlt (by omega) (by omega)), fun _ => h⟩
    | succ m ih =>
      intro q hq hql e
      have ql : q < tl := by omega
      have xl := hT.L q
      have stop : ¬ (lo ≤ x_L tl t q ∧ x_L tl t q ≤ hi) → K (some (.int (nI q))) (am_st (ps I (g_sk tl t p)) Lg rr n) := fun c => by
        rw [rn_e c] at e
        rw [← e] at h
        exact h
      refine am_step _ _ _ (b_Ta_endOfRun_19 ?_)
      rw [ps_j _ _ (by decide), hT.2.1, n_un (show q < 2 ^ 32 by omega), ps_off _ _ (by decide), hT.at ql, nI_add]
      refine ⟨fun _ => ⟨by omega, fun c => stop fun c2 => absurd c (nI_nlt c2.1 (by omega)), fun c => ⟨by omega, fun c3 => stop fun c2 => absurd c3 (nI_nlt c2.2 (by omega)), fun c3 => ih (q + 1) (by omega) ql ?_⟩⟩, fun c => absurd (nI_lt ql (by omega)) c⟩
      have a1 : lo ≤ x_L tl t q := Nat.le_of_not_lt fun q2 => c (nI_lt q2 (by omega))
      have a2 : x_L tl t q ≤ hi := Nat.le_of_not_lt fun q2 => c3 (nI_lt q2 (by omega))
      rw [← rn_s h0 ⟨a1, a2⟩, e]
  refine am_in _ _ _ ?_
  rw [← hM] at key ⊢
  refine am_step _ _ _ (b_Ta_endOfRun_0 (s_isAtEnd (by omega) hT hp (fun e => ⟨_, rfl, am_step _ _ _ (b_Ta_endOfRun_4 ⟨fun q => absurd q (by decide), fun _ => ?_⟩)⟩) fun e => ⟨_, rfl, am_step _ _ _ (b_Ta_endOfRun_4 ⟨fun _ => ?_, fun q => absurd rfl q⟩)⟩))
  · rw [ps_j _ _ (by decide), hT.2.1]
    exact key _ tl rfl (Nat.le_refl _) (by rw [e])
  · rw [ps_7]
    exact key _ _ rfl sl rfl
theorem dig {p : Nat} : ∀ j, p ≤ j → j < gt_rn tl t 48 57 p → 48 ≤ x_L tl t j ∧ x_L tl t j ≤ 57 := rn_in (by decide) p
theorem s_numberUpTo {p : Nat} (hd : 1 ≤ d) (hT : tT I tl t) (hp : p ≤ tl) (h1 : (gt_rn tl t 48 57 p = p + 1 ∨ gt_rn tl t 48 57 p = p + 2) → g_nv tl t p ≤ 99 → K (some (.int (nI (g_nv tl t p)))) (am_st (ps I p) Lg rr n)) (h0 : ¬ (gt_rn tl t 48 57 p = p + 1 ∨ gt_rn tl t 48 57 p = p + 2) → K (some (.int (am_k (-4)))) (am_st (ps I p) Lg rr n)) : am_AC d k_Ta_numberUpTo [.ref 1438, .int (nI (gt_rn tl t 48 57 p))] (am_st (ps I p) Lg rr n) K := by
  obtain ⟨d, rfl, hd1⟩ := s_up hd
  have tl100 := hT.1
  have el := rn_le (t := t) (lo := 48) (hi := 57) (by decide) p hp
  have eg := rn_ge (tl := tl) (t := t) (lo := 48) (hi := 57) (by decide) p
  have dg := dig (tl := tl) (t := t) (p := p)
  refine am_in _ _ _ (am_step _ _ _ (b_Ta_numberUpTo_0 ?_))
  rw [ps_7, nI_add]
  refine ⟨fun c => h0 fun q => ?_, fun c => ⟨fun c2 => h0 fun q => ?_, fun c2 => ?_⟩⟩
  · rw [nI_eq (by omega) (by omega)] at c
    omega
  · have : ¬ gt_rn tl t 48 57 p ≤ p + 2 := fun q2 => absurd c2 (nI_nlt q2 (by omega))
    omega
  · have n1 : ¬ gt_rn tl t 48 57 p = p := fun q => c (by rw [q])
    have n2 : gt_rn tl t 48 57 p ≤ p + 2 := Nat.le_of_not_lt fun q => c2 (nI_lt q (by omega))
    have d0 := dg p (Nat.le_refl _) (by omega)
    refine am_step _ _ _ (b_Ta_numberUpTo_28 ?_)
    rw [ps_j _ _ (by decide), hT.2.1, n_un (show p < 2 ^ 32 by omega), ps_off _ _ (by decide), hT.at (show p < tl by omega), pk_mul, nI_add, nI_add, pk_sub (by omega)]
    refine ⟨fun _ => ⟨fun _ => ⟨by omega, am_step _ _ _ (b_Ta_numberUpTo_28 ?_)⟩, fun q => absurd (nI_lt (show p < tl by omega) (by omega)) q⟩, fun q => absurd (nI_lt (show p < gt_rn tl t 48 57 p by omega) (by omega)) q⟩
    rw [ps_j _ _ (by decide), hT.2.1]
    by_cases e : gt_rn tl t 48 57 p = p + 1
    · rw [e]
      have ev : g_nv tl t p = 10 * 0 + x_L tl t p - 48 := by
        unfold g_nv
        rw [if_pos e]
        omega
      rw [ev] at h1
      exact ⟨fun q => absurd q (nI_nlt (Nat.le_refl _) (by omega)), fun _ => h1 (Or.inl e) (by omega)⟩
    · have e : gt_rn tl t 48 57 p = p + 2 := by omega
      have d1 := dg (p + 1) (by omega) (by omega)
      rw [e, n_un (show p + 1 < 2 ^ 32 by omega), ps_off _ _ (by decide), hT.at (show p + 1 < tl by omega), pk_mul, nI_add, nI_add, pk_sub (by omega)]
      refine ⟨fun _ => ⟨fun _ => ⟨by omega, am_step _ _ _ (b_Ta_numberUpTo_28 ⟨fun q => absurd q (nI_nlt (Nat.le_refl _) (by omega)), fun _ => ?_⟩)⟩, fun q => absurd (nI_lt (show p + 1 < tl by omega) (by omega)) q⟩, fun q => absurd (nI_lt (show p + 1 < p + 2 by omega) (by omega)) q⟩
      have ev : g_nv tl t p = 10 * (10 * 0 + x_L tl t p - 48) + x_L tl t (p + 1) - 48 := by
        unfold g_nv
        rw [if_neg (by omega)]
        omega
      rw [ev] at h1
      exact h1 (Or.inr e) (by omega)
theorem s_acceptPoint {p used : Nat} (hd : 3 ≤ d) (hT : tT I tl t) (hp : p ≤ tl) (hu : used < 2 ^ 24) (h1 : n_ok tl t (g_sk tl t p) 23 → ¬ used.testBit (g_nv tl t (g_sk tl t p)) = true → K (some (.int (nI (g_nv tl t (g_sk tl t p))))) (am_st (ps I (gt_rn tl t 48 57 (g_sk tl t p))) Lg rr n)) (h0 : ¬ (n_ok tl t (g_sk tl t p) 23 ∧ ¬ used.testBit (g_nv tl t (g_sk tl t p)) = true) → K (some (.int (am_k (-4)))) (am_st (ps I (g_sk tl t p)) Lg rr n)) : am_AC d k_Ta_acceptPoint [.ref 1438, .int (nI used)] (am_st (ps I p) Lg rr n) K := by
  obtain ⟨d, rfl, hd1⟩ := s_up hd
  have sl := sk_le (t := t) p hp
  refine am_in _ _ _ (am_step _ _ _ (b_Ta_acceptPoint_0 (s_endOfRun (by omega) hT hp (by decide) (by decide) (by decide) ⟨_, rfl, am_step _ _ _ (b_Ta_acceptPoint_9 (s_numberUpTo (by omega) hT sl (fun e v99 => ⟨_, rfl, am_step _ _ _ (b_Ta_acceptPoint_12 (s_isOutside (by omega) ⟨_, rfl, am_step _ _ _ (b_Ta_acceptPoint_19 ?_)⟩))⟩) fun e => ⟨_, rfl, am_step _ _ _ (b_Ta_acceptPoint_12 (s_isOutside (by omega) ⟨_, rfl, am_step _ _ _ (b_Ta_acceptPoint_19 ?_)⟩))⟩))⟩)))
  · by_cases c : g_nv tl t (g_sk tl t p) ≤ 23
    · rw [out_24 (show g_nv tl t (g_sk tl t p) < 24 by omega)]
      refine ⟨fun _ => ⟨fun q => ?_, fun q => ?_⟩, fun q => absurd rfl q⟩
      · rw [n_bit (by omega) (by omega)] at q
        exact h0 fun q2 => q2.2 q
      · rw [n_bit (by omega) (by omega)] at q
        refine s_endOfRun (by omega) hT sl (by decide) (by decide) (by decide) ⟨_, rfl, am_step _ _ _ (b_Ta_acceptPoint_43 ?_)⟩
        rw [sk_sk, ps_ps]
        exact h1 ⟨e, c⟩ q
    · have : m_out (nI (g_nv tl t (g_sk tl t p))) (nI 24) = nI 1 := if_pos (Or.inr (Int32.not_lt.mp (nI_nlt (by omega) (by omega))))
      rw [this]
      exact ⟨fun q => absurd q (by decide), fun _ => h0 fun q => c q.1.2⟩
  · exact ⟨fun q => absurd q (by decide), fun _ => h0 fun q => e q.1.1⟩
theorem s_acceptPower {p : Nat} (hd : 3 ≤ d) (hT : tT I tl t) (hp : p ≤ tl) (h1 : n_ok tl t (g_sk tl t p) 99 → K (some (.int (nI (g_nv tl t (g_sk tl t p))))) (am_st (ps I (gt_rn tl t 48 57 (g_sk tl t p))) Lg rr n)) (h0 : ¬ n_ok tl t (g_sk tl t p) 99 → K (some (.int (am_k (-4)))) (am_st (ps I (g_sk tl t p)) Lg rr n)) : am_AC d k_Ta_acceptPower [.ref 1438] (am_st (ps I p) Lg rr n) K := by
  obtain ⟨d, rfl, hd1⟩ := s_up hd
  have sl := sk_le (t := t) p hp
  refine am_in _ _ _ (am_step _ _ _ (b_Ta_acceptPower_0 (s_endOfRun (by omega) hT hp (by decide) (by decide) (by decide) ⟨_, rfl, am_step _ _ _ (b_Ta_acceptPower_9 (s_numberUpTo (by omega) hT sl (fun e v99 => ⟨_, rfl, am_step _ _ _ (b_Ta_acceptPower_12 ⟨fun q => ?_, fun _ => ?_⟩)⟩) fun e => ⟨_, rfl, am_step _ _ _ (b_Ta_acceptPower_12 ⟨fun _ => h0 fun q => e q.1, fun q => absurd rfl q⟩)⟩))⟩)))
  · exact absurd (show nI (g_nv tl t (g_sk tl t p)) < 0 by rw [q]; decide) (nz_lt _ (by omega))
  · refine s_endOfRun (by omega) hT sl (by decide) (by decide) (by decide) ⟨_, rfl, am_step _ _ _ (b_Ta_acceptPower_28 ?_)⟩
    rw [sk_sk, ps_ps]
    exact h1 ⟨e, v99⟩
theorem tT.nb {I' : Nat → Nat → Int32} {a : Nat} (h : tT I tl t) (h1 : nb1 I I' a) (ha : ¬ a = 1438) (ha2 : ¬ a = 1439) : tT I' tl t := ⟨h.1, by rw [h1 1438 (fun e => ha e.symm)]; exact h.2.1, fun k hk => by rw [h1 1439 (fun e => ha2 e.symm)]; exact h.2.2 k hk⟩
theorem s_isCycle {p a : Nat} (hd : 4 ≤ d) (hT : tT I tl t) (hp : p ≤ tl) (ha : am_ro 1497 a 24) (ha2 : 1441 ≤ a) (h1 : ∀ r f, x_ring tl t p = (r, some f) → ∀ I', nb1 I I' a → ip I' a f → K (some (.int (nI 1))) (am_st (ps I' r) Lg rr n)) (h0 : ∀ r, x_ring tl t p = (r, none) → ∀ I', nb1 I I' a → K (some (.int (nI 0))) (am_st (ps I' r) Lg rr n)) : am_AC d k_Ta_isCycle [.ref 1438, .ref a] (am_st (ps I p) Lg rr n) K := by
  obtain ⟨d, rfl, hd1⟩ := s_up hd
  have tl100 := hT.1
  have sl := sk_le (t := t) p hp
  generalize hM : am_st (ps I p) Lg rr n = M0
  -- behind a point that is none
  have lost : ∀ (v1 : Int32) (used pts : Nat) I', pts ≤ 24 → K (some (.int (nI 0))) (am_st I' Lg rr n) → am_St d k_Ta_isCycle M0 K 18 [some (.ref 1438), some (.ref a), some (.int v1), some (.int (am_k (-4))), some (.int (nI used)), some (.int (nI pts)), none] [] (am_st I' Lg rr n) := fun v1 used pts I' hpts hK => by
    refine am_step _ _ _ (b_Ta_isCycle_18 ⟨fun _ => s_isOutside (by omega) ⟨_, rfl, am_step _ _ _ (b_Ta_isCycle_31 ?_)⟩, fun _ => hK⟩)
    have : m_out (am_k (-4)) (nI 24) = nI 1 := by decide +kernel
    rw [this]
    exact ⟨fun q => absurd q (by decide), fun _ => hK⟩
  have key : ∀ m used first last f q I', 200 ≤ q + 2 * m → q ≤ tl → used < 2 ^ 24 → ¬ used.testBit last = true → cy_I (used ||| 2 ^ last) first last f → nb1 I I' a → ip I' a f → x_cy tl t m (used ||| 2 ^ last) first last f q = x_ring tl t p → am_St d k_Ta_isCycle M0 K 18 [some (.ref 1438), some (.ref a), some (.int (nI first)), some (.int (nI last)), some (.int (nI used)), some (.int (nI (pcn used))), none] [] (am_st (ps I' q) Lg rr n) := by
    intro m
    induction m with
    | zero => exact fun used first last f q I' hm hq => absurd hm (by omega)
    | succ m ih =>
      intro used first last f q I' hm hq hu hl hI hI' hf hR
      have hT' := hT.nb hI' (by omega) (by omega)
      have pc := pcn_le 24 _ hI.1
      rw [pcn_new (Bool.eq_false_iff.mpr hl)] at pc
      have ll := hI.2.2.1
      have fl := hI.2.1
      have sl2 := sk_le (t := t) q hq
      have sg2 := sk_ge (tl := tl) (t := t) q
      unfold x_cy at hR
      refine am_step _ _ _ (b_Ta_isCycle_18 ⟨fun _ => s_isOutside (by omega) ⟨_, rfl, am_step _ _ _ (b_Ta_isCycle_31 ?_)⟩, fun q2 => absurd (nI_lt (show pcn used < 24 by omega) (by decide)) q2⟩)
      rw [out_24 ll]
      refine ⟨fun _ => s_accept (by omega) hT' hq (by decide) (by decide) (fun e => ⟨_, rfl, am_step _ _ _ (b_Ta_isCycle_40 ⟨fun q2 => absurd q2 (by decide), fun _ => am_gi ha.g3 ?_⟩)⟩) fun e => ⟨_, rfl, am_step _ _ _ (b_Ta_isCycle_40 ⟨fun _ => ?_, fun q2 => absurd rfl q2⟩)⟩, fun q2 => absurd rfl q2⟩
      · rw [if_pos e] at hR
        rw [ha.n, n_un (show last < 2 ^ 32 by omega), ps_off _ _ (by omega), ps_sr _ _ _ (by omega)]
        refine ⟨ll, h1 _ _ hR.symm _ (fun c hc => by rw [am_sr_off _ _ hc, hI' c hc]) fun x hx => ?_⟩
        rw [am_sr_at]
        by_cases c : x = last
        · rw [c, am_u1_at, am_u1_at]
        · rw [am_u1_off _ _ c, am_u1_off _ _ c]
          exact hf x hx
      · rw [if_neg e] at hR
        refine s_accept (by omega) hT' sl2 (by decide) (by decide) (fun e2 => ⟨_, rfl, am_step _ _ _ (b_Ta_isCycle_55 ⟨fun q2 => absurd q2 (by decide), fun _ => ?_⟩)⟩) fun e2 => ⟨_, rfl, am_step _ _ _ (b_Ta_isCycle_55 ⟨fun _ => ?_, fun q2 => absurd rfl q2⟩)⟩
        · rw [sk_sk] at e2
          rw [if_pos e2] at hR
          have ql := L_lt (tl := tl) (t := t) (p := g_sk tl t q) (by rw [e2]; decide)
          rw [sk_sk, n_p2 (by omega), n_or]
          refine s_acceptPoint (by omega) hT' (show g_sk tl t q + 1 ≤ tl from ql) hI.1 (fun e3 e4 => ⟨_, rfl, am_step _ _ _ (b_Ta_isCycle_74 ⟨fun q2 => ?_, fun _ => am_gi ha.g3 ?_⟩)⟩) fun e3 => ⟨_, rfl, am_step _ _ _ (b_Ta_isCycle_74 ⟨fun _ => ?_, fun q2 => absurd rfl q2⟩)⟩
          · exact absurd (show nI (g_nv tl t (g_sk tl t (g_sk tl t q + 1))) < 0 by rw [q2]; decide) (nz_lt _ (by have := e3.2; omega))
          · have hR : cond (x_dec _) _ _ = x_ring tl t p := hR
            rw [dec_t ⟨e3, e4⟩] at hR
            have v24 := Nat.lt_succ_of_le e3.2
            have ne := num_end e3
            have g3 := sk_ge (tl := tl) (t := t) (g_sk tl t q + 1)
            rw [ha.n, n_un (show last < 2 ^ 32 by omega), ps_off _ _ (by omega), ps_sr _ _ _ (by omega), nI_add]
            have ep : pcn used + 1 = pcn (used ||| 2 ^ last) := (pcn_new (Bool.eq_false_iff.mpr hl)).symm
            rw [ep]
            refine ⟨ll, am_fg (le_same _ (le_same _ (le_same _ (le_same _ (le_same _ (le_same _ (le_int _ le_nil))))))) (ih (used ||| 2 ^ last) first _ _ _ _ (by omega) (rn_le (by decide) _ (sk_le (t := t) _ ql)) hI.1 e4 (cy_next hI v24 e4) (fun c hc => by rw [am_sr_off _ _ hc, hI' c hc]) (fun x hx => ?_) hR)⟩
            rw [am_sr_at]
            by_cases c : x = last
            · rw [c, am_u1_at, am_u1_at]
            · rw [am_u1_off _ _ c, am_u1_off _ _ c]
              exact hf x hx
          · have hR : cond (x_dec _) _ _ = x_ring tl t p := hR
            rw [dec_f e3] at hR
            rw [nI_add]
            exact am_fg (le_same _ (le_same _ (le_same _ (le_same _ (le_same _ (le_same _ (le_int _ le_nil))))))) (lost _ _ _ _ (by omega) (h0 _ hR.symm I' hI'))
        · rw [sk_sk] at e2
          rw [if_neg e2] at hR
          rw [sk_sk]
          exact h0 _ hR.symm I' hI'
  refine am_in _ _ _ ?_
  rw [← hM] at key lost ⊢
  refine am_step _ _ _ (b_Ta_isCycle_0 (c_same (by omega) ha fun J hJ hp1 => ⟨rfl, am_step _ _ _ (b_Ta_isCycle_4 ?_)⟩))
  have eJ : J = ps (am_sr I a (J a)) p := by
    rw [← ps_sr _ _ _ (by omega)]
    funext c
    by_cases e : c = a
    · rw [e, am_sr_at]
    · rw [am_sr_off _ _ e, hJ c e]
  generalize hI1 : am_sr I a (J a) = I1 at eJ
  have nI1 : nb1 I I1 a := fun c hc => by rw [← hI1, am_sr_off _ _ hc]
  have p1 : ip I1 a pe_1 := fun x hx => by rw [← hI1, am_sr_at]; exact hp1 x hx
  have hT1 := hT.nb nI1 (by omega) (by omega)
  rw [eJ]
  refine s_acceptPoint (used := 0) (by omega) hT1 hp (by decide) (fun e3 e4 => ⟨_, rfl, am_step _ _ _ (b_Ta_isCycle_9 ?_)⟩) fun e3 => ⟨_, rfl, am_step _ _ _ (b_Ta_isCycle_9 ?_)⟩
  · have v24 := Nat.lt_succ_of_le e3.2
    have hR : x_ring tl t p = x_cy tl t 100 (2 ^ g_nv tl t (g_sk tl t p)) (g_nv tl t (g_sk tl t p)) (g_nv tl t (g_sk tl t p)) pe_1 (gt_rn tl t 48 57 (g_sk tl t p)) := by
      unfold x_ring
      rw [dec_t e3]
      rfl
    have cf := cy_first v24
    have z : (0 : Nat) ||| 2 ^ g_nv tl t (g_sk tl t p) = 2 ^ g_nv tl t (g_sk tl t p) := Nat.zero_or _
    have := key 100 0 (g_nv tl t (g_sk tl t p)) (g_nv tl t (g_sk tl t p)) pe_1 (gt_rn tl t 48 57 (g_sk tl t p)) I1 (by omega) (rn_le (by decide) _ sl) (by decide) (by rw [Nat.zero_testBit]; decide) (by rw [z]; exact cf) nI1 p1 (by rw [z]; exact hR.symm)
    rw [pcn_0, eJ] at *
    exact this
  · have hR : x_ring tl t p = (g_sk tl t p, none) := by
      unfold x_ring
      rw [dec_f fun e => e3 ⟨e, by rw [Nat.zero_testBit]; decide⟩]
      rfl
    exact lost _ _ _ _ (by decide) (h0 _ hR I1 nI1)
end TT
