/-! COUNTS -/
theorem cnt_none {P : Nat → Bool} {a : Nat} : ∀ b, (∀ j, a ≤ j → j < a + b → P j = false) → g_cnt P (a + b) = g_cnt P a
  | 0, _ => rfl
  | b + 1, h => by
    rw [← Nat.add_assoc, cnt_s, h (a + b) (by omega) (by omega), cnt_none b (fun j h1 h2 => h j h1 (by omega))]
    rfl
theorem cnt_congr {P Q : Nat → Bool} : ∀ n, (∀ j, j < n → P j = Q j) → g_cnt P n = g_cnt Q n
  | 0, _ => rfl
  | n + 1, h => by
    rw [cnt_s, cnt_s, h n (by omega), cnt_congr n (fun j hj => h j (by omega))]
theorem cnt_add1 {P Q : Nat → Bool} {a : Nat} (h1 : ∀ j, ¬ j = a → P j = Q j) (h2 : P a = false) (h3 : Q a = true) : ∀ n, a < n → g_cnt Q n = g_cnt P n + 1
  | 0, h => absurd h (Nat.not_lt_zero a)
  | n + 1, h => by
    rw [cnt_s, cnt_s]
    by_cases e : n = a
    · subst e
      rw [h2, h3, cnt_congr n (fun j hj => h1 j (by omega))]
      rfl
    · rw [h1 n e, cnt_add1 h1 h2 h3 n (by omega)]
      split <;> rfl
/-- the places of an injective list -/
theorem cnt_inj {κ : Nat → Nat} {N : Nat} : ∀ m, (∀ i, i < m → κ i < N) → (∀ i j, i < m → j < m → κ i = κ j → i = j) → ∀ P : Nat → Bool, (∀ k, k < N → (P k = true ↔ ∃ i, i < m ∧ κ i = k)) → g_cnt P N = m
  | 0, _, _, P, hP => by
    have := cnt_none (P := P) (a := 0) N (fun j _ hj => by
      cases h : P j
      · rfl
      · obtain ⟨i, hi, _⟩ := (hP j (by omega)).mp h
        exact absurd hi (Nat.not_lt_zero i))
    rw [Nat.zero_add] at this
    exact this
  | m + 1, h1, h2, P, hP => by
    have ih := cnt_inj m (fun i hi => h1 i (by omega)) (fun i j hi hj => h2 i j (by omega) (by omega)) (fun k => P k && !decide (k = κ m)) (fun k hk => by
      rw [Bool.and_eq_true, hP k hk]
      constructor
      · rintro ⟨⟨i, hi, e⟩, q⟩
        have q : ¬ k = κ m := by simpa using q
        exact ⟨i, by
          have : ¬ i = m := fun e2 => q (by rw [← e, e2])
          omega, e⟩
      · rintro ⟨i, hi, e⟩
        refine ⟨⟨i, by omega, e⟩, ?_⟩
        have : ¬ k = κ m := fun e2 => by
          have := h2 i m (by omega) (by omega) (by rw [e, e2])
          omega
        simpa using this)
    rw [← ih]
    refine cnt_add1 (a := κ m) (fun j hj => ?_) ?_ ?_ N (h1 m (by omega))
    · rw [decide_eq_false hj]
      cases P j <;> rfl
    · rw [decide_eq_true rfl]
      cases P (κ m) <;> rfl
    · exact (hP _ (h1 m (by omega))).mpr ⟨m, by omega, rfl⟩
theorem g_w_mono {j k : Nat} (hj : j < 4096) (hk : k < 4096) (h : j < k) : g_w j < g_w k := by
  have e1 : g_w j / 4096 = j := by
    have := pl_w hj
    unfold g_pl at this
    have := g_w_lt j
    omega
  have e2 : g_w k / 4096 = k := by
    have := pl_w hk
    unfold g_pl at this
    have := g_w_lt k
    omega
  omega
/-! THE CLOSEST WORDS -/
/-- L is a leader of s, at a distance d; which words are that close -/
def g_P (s d : Nat) (k : Nat) : Bool := decide (pcn (s ^^^ g_w k) = d)
theorem near_1 {s L : Nat} (hs : s < 2 ^ 24) (hL : g_Lp (g_r s) L) : g_isw (s ^^^ L) := (isw_r (xor_lt hs hL.1)).mpr (by rw [g_r_xor, hL.2.1, Nat.xor_self])
theorem isw_k {w : Nat} (h : g_isw w) : g_w (g_pl w) = w := h.symm
/-- all others of its class are further -/
theorem near_ge {s L : Nat} (hs : s < 2 ^ 24) (hL : g_Lp (g_r s) L) {k : Nat} (hk : k < 4096) : pcn L ≤ pcn (s ^^^ g_w k) ∧ (pcn L ≤ 3 → pcn (s ^^^ g_w k) = pcn L → s ^^^ g_w k = L) := by
  have w := isw_xor (near_1 hs hL) (isw_w hk)
  have e0 : s ^^^ L ^^^ g_w k = L ^^^ (s ^^^ g_w k) := by rw [Nat.xor_comm s L, Nat.xor_assoc]
  rw [e0] at w
  have e := pcn_xa L (s ^^^ g_w k)
  have hl : pcn L ≤ 4 := by
    rcases hL.2.2 with h | h
    · omega
    · omega
  rcases isw_wt w with z | z | z | z | z
  · have := xor_0 z
    rw [← this]
    exact ⟨Nat.le_refl _, fun _ _ => rfl⟩
  · exact ⟨by omega, fun h1 h2 => by omega⟩
  · exact ⟨by omega, fun h1 h2 => by omega⟩
  · exact ⟨by omega, fun h1 h2 => by omega⟩
  · exact ⟨by omega, fun h1 h2 => by omega⟩
theorem near_k {s L : Nat} (hs : s < 2 ^ 24) (hL : g_Lp (g_r s) L) {t : Nat} (ht : g_isw (L ^^^ t)) : g_pl (s ^^^ t) < 4096 ∧ s ^^^ g_w (g_pl (s ^^^ t)) = t ∧ g_isw (s ^^^ t) := by
  have w := isw_xor (near_1 hs hL) ht
  have e0 : s ^^^ L ^^^ (L ^^^ t) = s ^^^ t := by rw [Nat.xor_assoc, ← Nat.xor_assoc L, Nat.xor_self, Nat.zero_xor]
  rw [e0] at w
  refine ⟨pl_lt _, ?_, w⟩
  rw [isw_k w, ← Nat.xor_assoc, Nat.xor_self, Nat.zero_xor]
section NE
variable {L : Nat}
/-- the six tetrads are six -/
theorem te_dis (hs : L < 2 ^ 24) (h4 : pcn L = 4) {i j : Nat} (hij : i < j) (hj : j < 6) (he : g_te L i = g_te L j) : False := by
  have mono : ∀ a, g_sub (g_te L i) (g_cov L (i + 1 + a)) := by
    intro a
    induction a with
    | zero =>
      rw [Nat.add_zero, cov_s]
      exact sub_tb.mpr fun x hx => by rw [Nat.testBit_or, hx, Bool.or_true]
    | succ a ih =>
      rw [← Nat.add_assoc, cov_s]
      exact sub_tb.mpr fun x hx => by rw [Nat.testBit_or, sub_tb.mp ih x hx]; rfl
  have m := mono (j - i - 1)
  rw [show i + 1 + (j - i - 1) = j by omega] at m
  obtain ⟨lo, lt⟩ := open_i hs h4 hj
  obtain ⟨t1, t2, t3, t4⟩ := t_all hs h4 lt
  have c := sub_tb.mp m (m_low (g_dif 16777215 (g_cov L j))) (by rw [he]; exact t1)
  have o := lo.1
  rw [dif_tb all_lt, c] at o
  simp at o
theorem te_all (hs : L < 2 ^ 24) (h4 : pcn L = 4) {i : Nat} (hi : i < 6) : pcn (g_te L i) = 4 ∧ g_isw (L ^^^ g_te L i) ∧ g_te L i < 2 ^ 24 := by
  obtain ⟨lo, lt⟩ := open_i hs h4 hi
  obtain ⟨t1, t2, t3, t4⟩ := t_all hs h4 lt
  exact ⟨t2, t3, t4⟩
/-- each four of the class is one of them -/
theorem te_ex (hs : L < 2 ^ 24) (h4 : pcn L = 4) {t : Nat} (ht : pcn t = 4) (hw : g_isw (L ^^^ t)) (htl : t < 2 ^ 24) : ∃ i, i < 6 ∧ g_te L i = t := by
  have t0 : ¬ t = 0 := fun e => by rw [e, pcn_0] at ht; cases ht
  obtain ⟨x, hx⟩ := nz_tb t0
  have x24 := tb_lt htl hx
  obtain ⟨c1, c2, c3⟩ := cov_all hs h4 6 (Nat.le_refl _)
  have full : (g_cov L 6).testBit x = true := by
    have e := pcn_xa (g_cov L 6) 16777215
    have sb : g_sub (g_cov L 6) 16777215 := sub_tb.mpr fun j hj => by rw [all_tb, decide_eq_true (tb_lt c2 hj)]
    have q := (pcn_sub sb).2
    rw [show pcn 16777215 = 24 by rw [← bc_eq all_lt]; decide +kernel, c1] at q
    have := xor_0 (pcn_z _ q)
    rw [this, all_tb, decide_eq_true x24]
  have look : ∀ i, (g_cov L i).testBit x = true → ∃ j, j < i ∧ (g_te L j).testBit x = true := by
    intro i
    induction i with
    | zero =>
      intro h
      have : (0 : Nat).testBit x = true := h
      rw [Nat.zero_testBit] at this
      cases this
    | succ i ih =>
      intro h
      rw [cov_s, Nat.testBit_or] at h
      cases hc : (g_cov L i).testBit x
      · rw [hc, Bool.false_or] at h
        exact ⟨i, Nat.lt_succ_self i, h⟩
      · obtain ⟨j, j1, j2⟩ := ih hc
        exact ⟨j, by omega, j2⟩
  obtain ⟨j, j1, j2⟩ := look 6 full
  obtain ⟨a1, a2, a3⟩ := te_all hs h4 j1
  exact ⟨j, j1, te_uni a1 ht a2 hw j2 hx⟩
end NE
/-- how many words are closest -/
theorem near_cnt {s L : Nat} (hs : s < 2 ^ 24) (hL : g_Lp (g_r s) L) : g_cnt (g_P s (pcn L)) 4096 = if pcn L = 4 then 6 else 1 := by
  by_cases h4 : pcn L = 4
  · rw [if_pos h4]
    refine cnt_inj (κ := fun i => g_pl (s ^^^ g_te L i)) 6 (fun i _ => pl_lt _) (fun i j hi hj e => ?_) _ (fun k hk => ?_)
    · obtain ⟨a1, a2, a3⟩ := te_all hL.1 h4 hi
      obtain ⟨b1, b2, b3⟩ := te_all hL.1 h4 hj
      have e1 := (near_k hs hL a2).2.1
      have e2 := (near_k hs hL b2).2.1
      have e : g_pl (s ^^^ g_te L i) = g_pl (s ^^^ g_te L j) := e
      rw [e, e2] at e1
      rcases Nat.lt_trichotomy i j with q | q | q
      · exact (te_dis hL.1 h4 q hj e1.symm).elim
      · exact q
      · exact (te_dis hL.1 h4 q hi e1).elim
    · unfold g_P
      rw [decide_eq_true_iff]
      constructor
      · intro q
        have w := isw_xor (near_1 hs hL) (isw_w hk)
        have e0 : s ^^^ L ^^^ g_w k = L ^^^ (s ^^^ g_w k) := by rw [Nat.xor_comm s L, Nat.xor_assoc]
        rw [e0] at w
        obtain ⟨i, i1, i2⟩ := te_ex hL.1 h4 (q.trans h4) w (xor_lt hs (g_w_lt k))
        refine ⟨i, i1, ?_⟩
        show g_pl (s ^^^ g_te L i) = k
        rw [i2, ← Nat.xor_assoc, Nat.xor_self, Nat.zero_xor, pl_w hk]
      · rintro ⟨i, i1, i2⟩
        have i2 : g_pl (s ^^^ g_te L i) = k := i2
        obtain ⟨a1, a2, a3⟩ := te_all hL.1 h4 i1
        have e1 := (near_k hs hL a2).2.1
        rw [i2] at e1
        rw [e1, a1, h4]
  · rw [if_neg h4]
    have h3 : pcn L ≤ 3 := by
      rcases hL.2.2 with h | h
      · exact h
      · exact absurd h.1 h4
    refine cnt_inj (κ := fun _ => g_pl (s ^^^ L)) 1 (fun i _ => pl_lt _) (fun i j hi hj _ => by omega) _ (fun k hk => ?_)
    unfold g_P
    rw [decide_eq_true_iff]
    constructor
    · intro q
      have e := (near_ge hs hL hk).2 h3 q
      refine ⟨0, by decide, ?_⟩
      show g_pl (s ^^^ L) = k
      rw [← e, ← Nat.xor_assoc, Nat.xor_self, Nat.zero_xor, pl_w hk]
    · rintro ⟨i, i1, i2⟩
      have i2 : g_pl (s ^^^ L) = k := i2
      have e1 := (near_k hs hL (t := L) (by rw [Nat.xor_self]; exact isw_0)).2.1
      rw [i2] at e1
      rw [e1]
