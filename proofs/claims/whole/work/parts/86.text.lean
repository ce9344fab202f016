/-! THE TEXT OF A PERMUTATION -/
def g_dg (q : Nat) : List Nat := if q < 10 then [48 + q % 10] else [48 + q / 10, 48 + q % 10]
/-- the ring of p, as far as i places -/
def g_ct2 (f : Nat → Nat) (p : Nat) : Nat → List Nat
  | 0 => []
  | i + 1 => g_ct2 f p i ++ [if i = 0 then 40 else 44] ++ g_dg (f_it f p i)
def g_rg (f : Nat → Nat) (p l : Nat) : List Nat := g_ct2 f p l ++ [41]
/-- the rings of places before p; l: how long they are -/
def g_tx (f l : Nat → Nat) : Nat → List Nat
  | 0 => []
  | p + 1 => if g_lsb f p = true ∧ ¬ f p = p then g_tx f l p ++ g_rg f p (l p) else g_tx f l p
section TX
variable {f l : Nat → Nat}
/-- the places of the ring of p, as far as i -/
def g_rm (f : Nat → Nat) (p : Nat) : Nat → Nat
  | 0 => 0
  | i + 1 => g_rm f p i ||| 2 ^ f_it f p i
def g_sm (f l : Nat → Nat) : Nat → Nat
  | 0 => 0
  | p + 1 => if g_lsb f p = true ∧ ¬ f p = p then g_sm f l p ||| g_rm f p (l p) else g_sm f l p
theorem and_or {a b m : Nat} : (a ||| b) &&& m = (a &&& m) ||| (b &&& m) := by
  apply Nat.eq_of_testBit_eq
  intro j
  rw [Nat.testBit_and, Nat.testBit_or, Nat.testBit_or, Nat.testBit_and, Nat.testBit_and]
  cases a.testBit j <;> cases b.testBit j <;> cases m.testBit j <;> rfl
theorem rm_tb {p : Nat} : ∀ i x, (g_rm f p i).testBit x = true → ∃ j, j < i ∧ f_it f p j = x
  | 0, x, h => by
    have : (0 : Nat).testBit x = true := h
    rw [Nat.zero_testBit] at this
    cases this
  | i + 1, x, h => by
    have h : (g_rm f p i ||| 2 ^ f_it f p i).testBit x = true := h
    rw [Nat.testBit_or, tb_p2] at h
    by_cases e : f_it f p i = x
    · exact ⟨i, Nat.lt_succ_self i, e⟩
    · rw [decide_eq_false e, Bool.or_false] at h
      obtain ⟨j, j1, j2⟩ := rm_tb i x h
      exact ⟨j, by omega, j2⟩
theorem hi10_tb : ∀ q, q < 24 → (16776192 : Nat).testBit q = decide (10 ≤ q) := by decide +kernel
theorem dg_len (q : Nat) : (g_dg q).length = if q < 10 then 1 else 2 := by
  unfold g_dg
  split <;> rfl
theorem rm_len (h : a_pm f) {p n : Nat} (hp : p < 24) (hn : g_ps f p n) : ∀ i, i ≤ n → g_rm f p i < 2 ^ 24 ∧ pcn (g_rm f p i) = i ∧ (g_ct2 f p i).length = 2 * i + pcn (g_rm f p i &&& 16776192)
  | 0, _ => ⟨(show 0 < 2 ^ 24 by decide), pcn_0, by
      show 0 = 2 * 0 + pcn (0 &&& 16776192)
      rw [Nat.zero_and, pcn_0]⟩
  | i + 1, hi => by
    obtain ⟨i1, i2, i3⟩ := rm_len h hp hn i (by omega)
    have q24 := it_lt h.1 hp i
    have nb : (g_rm f p i).testBit (f_it f p i) = false := by
      cases hb : (g_rm f p i).testBit (f_it f p i)
      · rfl
      · obtain ⟨j, j1, j2⟩ := rm_tb i _ hb
        have e3 := it_add (f := f) p (i - j) j
        rw [show i - j + j = i by omega] at e3
        rw [e3] at j2
        exact absurd (it_inj h hp (it_lt h.1 hp _) j j2).symm (hn.2.2.2 (i - j) (by omega) (by omega))
    show (g_rm f p i ||| 2 ^ f_it f p i) < 2 ^ 24 ∧ pcn (g_rm f p i ||| 2 ^ f_it f p i) = i + 1 ∧ (g_ct2 f p i ++ [if i = 0 then 40 else 44] ++ g_dg (f_it f p i)).length = 2 * (i + 1) + pcn ((g_rm f p i ||| 2 ^ f_it f p i) &&& 16776192)
    generalize f_it f p i = q at *
    refine ⟨or_lt i1 q24, by rw [pcn_or, nb, i2]; rfl, ?_⟩
    rw [List.length_append, List.length_append, i3, dg_len, show ([if i = 0 then 40 else 44] : List Nat).length = 1 from rfl, and_or, Nat.and_comm (2 ^ q), and_p2, hi10_tb q q24]
    have nb2 : (g_rm f p i &&& 16776192).testBit q = false := by rw [Nat.testBit_and, nb]; rfl
    by_cases c : q < 10
    · rw [if_pos c, decide_eq_false (by omega), if_neg (by decide), Nat.or_zero]
      omega
    · rw [if_neg c, decide_eq_true (by omega), if_pos rfl, pcn_or, nb2]
      simp only [Bool.false_eq_true, if_false]
      omega
theorem ls_all {p : Nat} (h : a_pm f) (hp : p < 24) (hl : g_lsb f p = true) : ∀ i, p ≤ f_it f p i := by
  intro i
  obtain ⟨n, h1, h2, h3, h4⟩ := ps_ex h hp
  have e := Nat.div_add_mod i n
  have := it_per h3 (i % n) (i / n)
  rw [e] at this
  rw [this]
  have hm := Nat.mod_lt i (show 0 < n by omega)
  unfold g_lsb at hl
  rw [lq_all] at hl
  by_cases c : i % n = 0
  · rw [c]
    exact Nat.le_refl _
  · exact hl (i % n) (by omega) (by omega)
/-- back round the ring -/
theorem it_back (h : a_pm f) {p : Nat} (hp : p < 24) (i : Nat) : ∃ k, f_it f (f_it f p i) k = p := by
  obtain ⟨n, h1, h2, h3, h4⟩ := ps_ex h hp
  refine ⟨n * (i + 1) - i, ?_⟩
  have hle : i ≤ n * (i + 1) := by
    have : 1 * (i + 1) ≤ n * (i + 1) := Nat.mul_le_mul_right _ h1
    omega
  rw [← it_add, show i + (n * (i + 1) - i) = n * (i + 1) + 0 by omega, it_per h3]
  rfl
theorem tx_len (h : a_pm f) (hl : ∀ p, p < 24 → g_ps f p (l p)) : ∀ p, p ≤ 24 → g_sm f l p < 2 ^ 24 ∧ 2 * (g_tx f l p).length ≤ 5 * pcn (g_sm f l p) + 2 * pcn (g_sm f l p &&& 16776192) ∧ ∀ x, (g_sm f l p).testBit x = true → ∃ q, q < p ∧ g_lsb f q = true ∧ ∃ i, f_it f q i = x
  | 0, _ => ⟨(show 0 < 2 ^ 24 by decide), Nat.zero_le _, fun x hx => by
      have : (0 : Nat).testBit x = true := hx
      rw [Nat.zero_testBit] at this
      cases this⟩
  | p + 1, hp => by
    obtain ⟨i1, i2, i3⟩ := tx_len h hl p (by omega)
    have hn := hl p (by omega)
    by_cases c : g_lsb f p = true ∧ ¬ f p = p
    · have e1 : g_sm f l (p + 1) = g_sm f l p ||| g_rm f p (l p) := if_pos c
      have e2 : g_tx f l (p + 1) = g_tx f l p ++ g_rg f p (l p) := if_pos c
      obtain ⟨r1, r2, r3⟩ := rm_len h (show p < 24 by omega) hn (l p) (Nat.le_refl _)
      have n2 : 2 ≤ l p := by
        have := hn.1
        have : ¬ l p = 1 := fun e => c.2 (by have := hn.2.2.1; rw [e] at this; exact this)
        omega
      have dj : ∀ x, (g_sm f l p).testBit x = true → (g_rm f p (l p)).testBit x = true → False := by
        intro x x1 x2
        obtain ⟨q, q1, q2, i, q3⟩ := i3 x x1
        obtain ⟨j, j1, j2⟩ := rm_tb _ _ x2
        have hq : q < 24 := by omega
        obtain ⟨k, hk⟩ := it_back h hq i
        rw [q3, ← j2, ← it_add] at hk
        have := ls_all h (show p < 24 by omega) c.1 (j + k)
        omega
      have dj2 : ∀ x, (g_sm f l p &&& 16776192).testBit x = true → (g_rm f p (l p) &&& 16776192).testBit x = true → False := by
        intro x x1 x2
        rw [Nat.testBit_and, Bool.and_eq_true] at x1 x2
        exact dj x x1.1 x2.1
      rw [e1, e2]
      refine ⟨Nat.or_lt_two_pow i1 r1, ?_, fun x hx => ?_⟩
      · rw [(pcn_dis dj).1, and_or, (pcn_dis dj2).1, List.length_append]
        unfold g_rg
        rw [List.length_append, r3, r2]
        show 2 * (_ + (2 * l p + _ + 1)) ≤ _
        omega
      · rw [Nat.testBit_or] at hx
        cases hb : (g_sm f l p).testBit x
        · rw [hb, Bool.false_or] at hx
          obtain ⟨j, j1, j2⟩ := rm_tb _ _ hx
          exact ⟨p, Nat.lt_succ_self p, c.1, j, j2⟩
        · obtain ⟨q, q1, q2⟩ := i3 x hb
          exact ⟨q, by omega, q2⟩
    · have e1 : g_sm f l (p + 1) = g_sm f l p := if_neg c
      have e2 : g_tx f l (p + 1) = g_tx f l p := if_neg c
      rw [e1, e2]
      exact ⟨i1, i2, fun x hx => by
        obtain ⟨q, q1, q2⟩ := i3 x hx
        exact ⟨q, by omega, q2⟩⟩
/-- the text has room -/
theorem tx_74 (h : a_pm f) (hl : ∀ p, p < 24 → g_ps f p (l p)) {p : Nat} (hp : p ≤ 24) : (g_tx f l p).length ≤ 74 := by
  obtain ⟨i1, i2, _⟩ := tx_len h hl p hp
  have a := pcn_le 24 _ i1
  have sb : g_sub (g_sm f l p &&& 16776192) 16776192 := by
    unfold g_sub
    rw [Nat.and_assoc, Nat.and_self]
  have b := (pcn_sub sb).1
  rw [show pcn 16776192 = 14 by rw [← bc_eq (by decide)]; decide +kernel] at b
  omega
end TX
