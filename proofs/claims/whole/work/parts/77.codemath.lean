/-! THE CODE: weights, octads through five places -/
theorem xor_d2 (a b : Nat) : (a ^^^ b) / 2 = a / 2 ^^^ b / 2 := by
  have h := Nat.shiftRight_xor_distrib (a := a) (b := b) (i := 1)
  rw [Nat.shiftRight_eq_div_pow, Nat.shiftRight_eq_div_pow, Nat.shiftRight_eq_div_pow, Nat.pow_one] at h
  exact h
theorem xor_m2 (a b : Nat) : (a ^^^ b) % 2 = (a % 2 + b % 2) % 2 := by
  rw [show (a ^^^ b) % 2 = a % 2 ^^^ b % 2 from Nat.xor_mod_two_pow (n := 1)]
  rcases Nat.mod_two_eq_zero_or_one a with h1 | h1 <;> rcases Nat.mod_two_eq_zero_or_one b with h2 | h2 <;> rw [h1, h2] <;> rfl
theorem pcn_xa : ∀ a b : Nat, pcn (a ^^^ b) + 2 * pcn (a &&& b) = pcn a + pcn b := by
  intro a
  induction a using Nat.strongRecOn with
  | _ a ih =>
    intro b
    by_cases h0 : a = 0
    · subst h0
      rw [Nat.zero_xor, Nat.zero_and, pcn_0]
      omega
    · rw [pcn_2 (a ^^^ b), pcn_2 (a &&& b), pcn_2 a, pcn_2 b, xor_d2, xor_m2, n_and2, n_andm]
      have := ih (a / 2) (by omega) (b / 2)
      rcases Nat.mod_two_eq_zero_or_one a with h1 | h1 <;> rcases Nat.mod_two_eq_zero_or_one b with h2 | h2 <;> rw [h1, h2] <;> omega
theorem pcn_z : ∀ a : Nat, pcn a = 0 → a = 0 := by
  intro a
  induction a using Nat.strongRecOn with
  | _ a ih =>
    intro h
    by_cases h0 : a = 0
    · exact h0
    · rw [pcn_2] at h
      have := ih (a / 2) (by omega) (by omega)
      omega
theorem w_wt0 : ∀ x, x < 64 → ∀ y, y < 64 → 64 * x + y = 0 ∨ bc_n (g_w (64 * x + y)) = 8 ∨ bc_n (g_w (64 * x + y)) = 12 ∨ bc_n (g_w (64 * x + y)) = 16 ∨ bc_n (g_w (64 * x + y)) = 24 := by decide +kernel
theorem w_wt {p : Nat} (h : p < 4096) : p = 0 ∨ pcn (g_w p) = 8 ∨ pcn (g_w p) = 12 ∨ pcn (g_w p) = 16 ∨ pcn (g_w p) = 24 := by
  have q := w_wt0 (p / 64) (by omega) (p % 64) (by omega)
  rw [show 64 * (p / 64) + p % 64 = p by omega, bc_eq (g_w_lt p)] at q
  exact q
theorem g_w_0 : g_w 0 = 0 := by decide +kernel
/-- a word is empty, or has 8, 12, 16 or 24 places -/
theorem isw_wt {s : Nat} (h : g_isw s) : s = 0 ∨ pcn s = 8 ∨ pcn s = 12 ∨ pcn s = 16 ∨ pcn s = 24 := by
  have e : g_w (g_pl s) = s := h.symm
  rcases w_wt (pl_lt s) with q | q
  · rw [q, g_w_0] at e
    exact Or.inl e.symm
  · rw [e] at q
    exact Or.inr q
theorem isw_xor {a b : Nat} (h1 : g_isw a) (h2 : g_isw b) : g_isw (a ^^^ b) := by
  unfold g_isw at *
  rw [pl_xor, g_w_xor, ← h1, ← h2]
theorem isw_lt {s : Nat} (h : g_isw s) : s < 2 ^ 24 := by
  unfold g_isw at h
  rw [h]
  exact g_w_lt _
theorem isw_small {s : Nat} (h : g_isw s) (h2 : pcn s < 8) : s = 0 := by
  rcases isw_wt h with q | q
  · exact q
  · omega
/-- s lies in o -/
abbrev g_sub (s o : Nat) : Prop := s &&& o = s
theorem sub_tb {s o : Nat} : g_sub s o ↔ ∀ j, s.testBit j = true → o.testBit j = true := by
  constructor
  · intro h j hj
    have e : (s &&& o).testBit j = s.testBit j := by rw [h]
    rw [Nat.testBit_and, hj] at e
    simpa using e
  · intro h
    apply Nat.eq_of_testBit_eq
    intro j
    rw [Nat.testBit_and]
    cases hs : s.testBit j
    · rfl
    · rw [h j hs]
      rfl
theorem sub_trans {a b c : Nat} (h1 : g_sub a b) (h2 : g_sub b c) : g_sub a c := sub_tb.mpr fun j hj => sub_tb.mp h2 j (sub_tb.mp h1 j hj)
theorem pcn_sub {s o : Nat} (h : g_sub s o) : pcn s ≤ pcn o ∧ pcn (s ^^^ o) = pcn o - pcn s := by
  have e := pcn_xa s o
  rw [h] at e
  omega
theorem sub_and {s a b : Nat} (h1 : g_sub s a) (h2 : g_sub s b) : g_sub s (a &&& b) := sub_tb.mpr fun j hj => by rw [Nat.testBit_and, sub_tb.mp h1 j hj, sub_tb.mp h2 j hj]; rfl
theorem am_m1 : am_k (-1) = nI 4294967295 := by decide +kernel
theorem n_diff0 {s o : Nat} (hs : s < 2 ^ 24) : s &&& (o ^^^ 4294967295) < 2 ^ 24 := Nat.lt_of_le_of_lt Nat.and_le_left hs
/-- s without o is empty -/
theorem n_diff {s o : Nat} (hs : s < 2 ^ 24) (ho : o < 2 ^ 24) : (nI s &&& (nI o ^^^ am_k (-1))) = 0 ↔ g_sub s o := by
  rw [am_m1, n_xor, n_and]
  have e : nI (s &&& (o ^^^ 4294967295)) = 0 ↔ nI (s &&& (o ^^^ 4294967295)) = nI 0 := Iff.rfl
  have lt := n_diff0 (o := o) hs
  rw [e, nI_eq (by omega) (by decide), sub_tb]
  constructor
  · intro h j hj
    have e2 : (s &&& (o ^^^ 4294967295)).testBit j = false := by rw [h, Nat.zero_testBit]
    have hj2 : j < 24 := by
      rcases Nat.lt_or_ge j 24 with q | q
      · exact q
      · rw [Nat.testBit_lt_two_pow (Nat.lt_of_lt_of_le hs (Nat.pow_le_pow_right (by decide) q))] at hj
        cases hj
    rw [Nat.testBit_and, hj, Nat.testBit_xor, show (4294967295 : Nat) = 2 ^ 32 - 1 by decide, Nat.testBit_two_pow_sub_one, decide_eq_true (show j < 32 by omega)] at e2
    simpa using e2
  · intro h
    apply Nat.eq_of_testBit_eq
    intro j
    rw [Nat.testBit_and, Nat.zero_testBit]
    cases hj : s.testBit j
    · rfl
    · have hj2 : j < 24 := by
        rcases Nat.lt_or_ge j 24 with q | q
        · exact q
        · rw [Nat.testBit_lt_two_pow (Nat.lt_of_lt_of_le hs (Nat.pow_le_pow_right (by decide) q))] at hj
          cases hj
      rw [Nat.testBit_xor, h j hj, show (4294967295 : Nat) = 2 ^ 32 - 1 by decide, Nat.testBit_two_pow_sub_one, decide_eq_true (show j < 32 by omega)]
      rfl
/-- o is an octad -/
def g_io (o : Nat) : Prop := g_isw o ∧ pcn o = 8
theorem oct_io {j : Nat} (h : j < 759) : g_io (g_oct j) := by
  obtain ⟨p, p1, p2, p3⟩ := oct_w h
  rw [p2]
  exact ⟨isw_w p1, p3⟩
theorem ws_in {w p : Nat} (h : pcn (g_w p) = w) (hp : p < 4096) : (g_ws w p).length < (g_ws w 4096).length ∧ (g_ws w 4096).getD (g_ws w p).length 0 = g_w p := by
  obtain ⟨a1, a2⟩ := ws_at h hp
  have a3 := ws_len w (q := p + 1) (r := 4096) hp
  exact ⟨by omega, a1⟩
theorem io_oct {o : Nat} (h : g_io o) : ∃ j, j < 759 ∧ g_oct j = o := by
  have e : g_w (g_pl o) = o := h.1.symm
  have hp : pcn (g_w (g_pl o)) = 8 := by rw [e, h.2]
  obtain ⟨a1, a2⟩ := ws_in hp (pl_lt o)
  rw [ws_8] at a1
  exact ⟨_, a1, by unfold g_oct; rw [a2, e]⟩
/-- two octads with five places in common are one -/
theorem io_uni {a b s : Nat} (ha : g_io a) (hb : g_io b) (h1 : g_sub s a) (h2 : g_sub s b) (h5 : 5 ≤ pcn s) : a = b := by
  have e := pcn_xa a b
  have q := (pcn_sub (sub_and h1 h2)).1
  have z := isw_small (isw_xor ha.1 hb.1) (by have := ha.2; have := hb.2; omega)
  exact xor_0 z
/-- five places and the leader of their rest make an octad -/
theorem io_five {s L : Nat} (hs : s < 2 ^ 24) (h5 : pcn s = 5) (hL : g_Lp (g_r s) L) : g_io (s ^^^ L) ∧ g_sub s (s ^^^ L) := by
  obtain ⟨l1, l2, l3⟩ := hL
  have w : g_isw (s ^^^ L) := (isw_r (xor_lt hs l1)).mpr (by rw [g_r_xor, l2, Nat.xor_self])
  have e := pcn_xa s L
  have hl : pcn L ≤ 4 := by
    rcases l3 with h | h
    · omega
    · rw [h.1]
      exact Nat.le_refl _
  have ne : ¬ pcn (s ^^^ L) = 0 := fun h => by
    have := xor_0 (pcn_z _ h)
    rw [← this] at hl
    omega
  have hw : pcn (s ^^^ L) = 8 ∧ pcn (s &&& L) = 0 := by
    rcases isw_wt w with q | q | q | q | q
    · rw [q, pcn_0] at ne
      exact absurd rfl ne
    · omega
    · omega
    · omega
    · omega
  refine ⟨⟨w, hw.1⟩, sub_tb.mpr fun j hj => ?_⟩
  have z : (s &&& L).testBit j = false := by rw [pcn_z _ hw.2, Nat.zero_testBit]
  rw [Nat.testBit_and, hj] at z
  rw [Nat.testBit_xor, hj]
  have : L.testBit j = false := by simpa using z
  rw [this]
  rfl
