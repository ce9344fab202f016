/-! PERMUTATIONS: rings -/
def f_it (f : Nat → Nat) (p : Nat) : Nat → Nat
  | 0 => p
  | k + 1 => f (f_it f p k)
section PE
variable {f : Nat → Nat}
theorem it_lt (hf : ∀ p, p < 24 → f p < 24) {p : Nat} (hp : p < 24) : ∀ k, f_it f p k < 24
  | 0 => hp
  | k + 1 => hf _ (it_lt hf hp k)
theorem it_add (p i : Nat) : ∀ j, f_it f p (i + j) = f_it f (f_it f p i) j
  | 0 => rfl
  | j + 1 => by
    show f (f_it f p (i + j)) = f (f_it f (f_it f p i) j)
    rw [it_add p i j]
theorem it_inj (h : a_pm f) {p q : Nat} (hp : p < 24) (hq : q < 24) : ∀ i, f_it f p i = f_it f q i → p = q
  | 0, e => e
  | i + 1, e => it_inj h hp hq i (h.2 _ _ (it_lt h.1 hp i) (it_lt h.1 hq i) e)
theorem pig {g : Nat → Nat} {N : Nat} (hN : 24 < N) (hg : ∀ i, i < N → g i < 24) : ∃ i j, i < j ∧ j < N ∧ g i = g j := by
  refine Classical.byContradiction fun hno => ?_
  have hd : ∀ i j, i < j → j < N → ¬ g i = g j := fun i j h1 h2 e => hno ⟨i, j, h1, h2, e⟩
  have key : ∀ n, n ≤ N → pcn (itn (fun i m => m ||| 2 ^ g i) 0 n) = n ∧ itn (fun i m => m ||| 2 ^ g i) 0 n < 2 ^ 24 ∧ ∀ x, (itn (fun i m => m ||| 2 ^ g i) 0 n).testBit x = true → ∃ i, i < n ∧ g i = x := by
    intro n
    induction n with
    | zero => exact fun _ => ⟨pcn_0, (show 0 < 2 ^ 24 by decide), fun x hx => by
        have : (0 : Nat).testBit x = true := hx
        rw [Nat.zero_testBit] at this
        cases this⟩
    | succ n ih =>
      intro hn
      obtain ⟨i1, i2, i3⟩ := ih (by omega)
      have es : itn (fun i m => m ||| 2 ^ g i) 0 (n + 1) = itn (fun i m => m ||| 2 ^ g i) 0 n ||| 2 ^ g n := rfl
      rw [es]
      generalize itn (fun i m => m ||| 2 ^ g i) 0 n = m at *
      have nb : m.testBit (g n) = false := by
        cases hb : m.testBit (g n)
        · rfl
        · obtain ⟨i, a1, a2⟩ := i3 _ hb
          exact absurd a2 (hd i n a1 (by omega))
      refine ⟨by rw [pcn_or, nb, i1]; rfl, or_lt i2 (hg n (by omega)), fun x hx => ?_⟩
      rw [Nat.testBit_or, tb_p2] at hx
      by_cases e : g n = x
      · exact ⟨n, Nat.lt_succ_self n, e⟩
      · rw [decide_eq_false e, Bool.or_false] at hx
        obtain ⟨i, a1, a2⟩ := i3 x hx
        exact ⟨i, by omega, a2⟩
  obtain ⟨k1, k2, _⟩ := key N (Nat.le_refl _)
  have := pcn_le 24 _ k2
  omega
/-- l is how many places the ring of p has -/
def g_ps (f : Nat → Nat) (p l : Nat) : Prop := 1 ≤ l ∧ l ≤ 24 ∧ f_it f p l = p ∧ ∀ i, 1 ≤ i → i < l → ¬ f_it f p i = p
theorem ps_ex (h : a_pm f) {p : Nat} (hp : p < 24) : ∃ l, g_ps f p l := by
  obtain ⟨i, j, h1, h2, e⟩ := pig (g := f_it f p) (N := 25) (by decide) (fun i _ => it_lt h.1 hp i)
  have e2 : f_it f p (j - i) = p := by
    have := it_add (f := f) p (j - i) i
    rw [show j - i + i = j by omega] at this
    rw [this] at e
    exact (it_inj h hp (it_lt h.1 hp _) i e).symm
  have least : ∀ n, (∃ l, g_ps f p l) ∨ ∀ i, 1 ≤ i → i < n → ¬ f_it f p i = p := by
    intro n
    induction n with
    | zero => exact Or.inr fun i h1 h2 => absurd h2 (Nat.not_lt_zero i)
    | succ n ih =>
      rcases ih with ih | ih
      · exact Or.inl ih
      · by_cases c : 1 ≤ n ∧ n ≤ 24 ∧ f_it f p n = p
        · exact Or.inl ⟨n, c.1, c.2.1, c.2.2, ih⟩
        · by_cases c2 : n ≤ 24
          · refine Or.inr fun i i1 i2 q => ?_
            by_cases e : i = n
            · subst e
              exact c ⟨i1, c2, q⟩
            · exact ih i i1 (by omega) q
          · exact absurd e2 (ih (j - i) (by omega) (by omega))
  rcases least 25 with q | q
  · exact q
  · exact absurd e2 (q (j - i) (by omega) (by omega))
theorem ps_uni {p l l' : Nat} (h : g_ps f p l) (h' : g_ps f p l') : l = l' := by
  obtain ⟨a1, a2, a3, a4⟩ := h
  obtain ⟨b1, b2, b3, b4⟩ := h'
  rcases Nat.lt_trichotomy l l' with q | q | q
  · exact absurd a3 (b4 l a1 q)
  · exact q
  · exact absurd b3 (a4 l' b1 q)
theorem it_per {p l : Nat} (h : f_it f p l = p) (k : Nat) : ∀ m, f_it f p (l * m + k) = f_it f p k
  | 0 => by rw [Nat.mul_zero, Nat.zero_add]
  | m + 1 => by
    rw [Nat.mul_succ, show l * m + l + k = l + (l * m + k) by omega, it_add, h, it_per h k m]
/-- none of the next k places is lower -/
def g_lq (f : Nat → Nat) (p : Nat) : Nat → Bool
  | 0 => true
  | k + 1 => g_lq f p k && decide (p ≤ f_it f p (k + 1))
def g_lsb (f : Nat → Nat) (p : Nat) : Bool := g_lq f p 24
theorem lq_all {p : Nat} : ∀ k, (g_lq f p k = true ↔ ∀ i, 1 ≤ i → i ≤ k → p ≤ f_it f p i)
  | 0 => ⟨fun _ i h1 h2 => by omega, fun _ => rfl⟩
  | k + 1 => by
    show (g_lq f p k && decide (p ≤ f_it f p (k + 1))) = true ↔ _
    rw [Bool.and_eq_true, lq_all k, decide_eq_true_iff]
    constructor
    · intro h i h1 h2
      by_cases e : i = k + 1
      · rw [e]
        exact h.2
      · exact h.1 i h1 (by omega)
    · intro h
      exact ⟨fun i h1 h2 => h i h1 (by omega), h (k + 1) (by omega) (Nat.le_refl _)⟩
theorem ls_true {p k : Nat} (hk : f_it f p (k + 1) = p) (hgt : ∀ i, 1 ≤ i → i ≤ k → p < f_it f p i) : g_lsb f p = true := by
  unfold g_lsb
  rw [lq_all]
  intro i h1 h2
  have e := Nat.div_add_mod i (k + 1)
  have := it_per hk (i % (k + 1)) (i / (k + 1))
  rw [e] at this
  rw [this]
  have hm := Nat.mod_lt i (show 0 < k + 1 by omega)
  by_cases c : i % (k + 1) = 0
  · rw [c]
    exact Nat.le_refl _
  · have := hgt (i % (k + 1)) (by omega) (by omega)
    omega
theorem ls_false {p k : Nat} (h1 : 1 ≤ k) (h2 : k ≤ 24) (h : f_it f p k < p) : g_lsb f p = false := by
  cases hb : g_lsb f p
  · rfl
  · unfold g_lsb at hb
    rw [lq_all] at hb
    have := hb k h1 h2
    omega
theorem lq_f {p q : Nat} (h : g_lq f p q = false) : ∀ r, g_lq f p (q + r) = false
  | 0 => h
  | r + 1 => by
    show (g_lq f p (q + r) && _) = false
    rw [lq_f h r]
    rfl
/-- two long rings are one -/
theorem ps_long (h : a_pm f) {p q a b : Nat} (hp : p < 24) (hq : q < 24) (ha : g_ps f p a) (hb : g_ps f q b) (h1 : 12 < a) (h2 : 12 < b) : a = b := by
  have inj : ∀ {p a : Nat}, p < 24 → g_ps f p a → ∀ i j, i < j → j < 13 → 12 < a → ¬ f_it f p i = f_it f p j := by
    intro p a hp ha i j h1 h2 h3 e
    have e3 := it_add (f := f) p (j - i) i
    rw [show j - i + i = j by omega] at e3
    rw [e3] at e
    exact ha.2.2.2 (j - i) (by omega) (by omega) (it_inj h hp (it_lt h.1 hp _) i e).symm
  obtain ⟨i, j, hij, hj, e⟩ := pig (g := fun i => if i < 13 then f_it f p i else f_it f q (i - 13)) (N := 26) (by decide) (fun i _ => by
    split
    · exact it_lt h.1 hp _
    · exact it_lt h.1 hq _)
  by_cases c1 : j < 13
  · rw [if_pos (by omega), if_pos c1] at e
    exact absurd e (inj hp ha i j hij c1 h1)
  · by_cases c2 : i < 13
    · rw [if_pos c2, if_neg c1] at e
      generalize j - 13 = k at e
      -- the ring of a place of a ring is that ring
      have tr : ∀ {p q a : Nat} {i k : Nat}, p < 24 → q < 24 → f_it f p i = f_it f q k → f_it f p a = p → f_it f q a = q := by
        intro p q a i k hp hq e ha
        have z : f_it f (f_it f q a) k = f_it f q k := by
          rw [← it_add, Nat.add_comm, it_add, ← e, ← it_add, Nat.add_comm, it_add, ha]
        exact it_inj h (it_lt h.1 hq _) hq k z
      have q1 := tr hp hq e ha.2.2.1
      have q2 := tr hq hp e.symm hb.2.2.1
      rcases Nat.lt_trichotomy a b with z | z | z
      · exact absurd q1 (hb.2.2.2 a ha.1 z)
      · exact z
      · exact absurd q2 (ha.2.2.2 b hb.1 z)
    · rw [if_neg c2, if_neg c1] at e
      exact absurd e (inj hq hb (i - 13) (j - 13) (by omega) (by omega) h2)
theorem small_dvd : ∀ l, l < 13 → 1 ≤ l → 27720 % l = 0 := by decide +kernel
/-- a bound of all orders -/
theorem ps_bound (h : a_pm f) {l : Nat → Nat} (hl : ∀ p, p < 24 → g_ps f p (l p)) : ∃ M, 0 < M ∧ M ≤ 665280 ∧ ∀ p, p < 24 → l p ∣ M := by
  by_cases c : ∃ q, q < 24 ∧ 12 < l q
  · obtain ⟨q, q1, q2⟩ := c
    have hq := hl q q1
    refine ⟨27720 * l q, by omega, by have := hq.2.1; omega, fun p hp => ?_⟩
    by_cases c2 : 12 < l p
    · rw [ps_long h hp q1 (hl p hp) hq c2 q2]
      exact Nat.dvd_mul_left _ _
    · exact Nat.dvd_mul_right_of_dvd (Nat.dvd_of_mod_eq_zero (small_dvd _ (by omega) (hl p hp).1)) _
  · refine ⟨27720, by decide, by decide, fun p hp => Nat.dvd_of_mod_eq_zero (small_dvd _ ?_ (hl p hp).1)⟩
    have : ¬ 12 < l p := fun e => c ⟨p, hp, e⟩
    omega
def g_or (l : Nat → Nat) (k : Nat) : Nat := itn (fun p o => Nat.lcm o (l p)) 1 k
theorem or_s (l : Nat → Nat) (k : Nat) : g_or l (k + 1) = Nat.lcm (g_or l k) (l k) := rfl
theorem or_dvd {l : Nat → Nat} {M : Nat} (h : ∀ p, p < 24 → l p ∣ M) : ∀ k, k ≤ 24 → g_or l k ∣ M
  | 0, _ => Nat.one_dvd M
  | k + 1, hk => by
    rw [or_s]
    exact Nat.lcm_dvd (or_dvd h k (by omega)) (h k (by omega))
/-- the first multiple of a that l divides -/
theorem lcm_k {a l : Nat} (ha : 0 < a) (hl : 0 < l) : ∃ k, 1 ≤ k ∧ k ≤ l ∧ Nat.lcm a l = a * k ∧ ∀ i, 1 ≤ i → i ≤ l → (a * i % l = 0 ↔ k ∣ i) := by
  obtain ⟨k, hk⟩ := Nat.dvd_lcm_left a l
  have l0 : 0 < Nat.lcm a l := Nat.lcm_pos ha hl
  have k1 : 1 ≤ k := by
    rcases Nat.eq_zero_or_pos k with e | e
    · rw [e, Nat.mul_zero] at hk
      omega
    · exact e
  have dv : ∀ i, (a * i % l = 0 ↔ k ∣ i) := by
    intro i
    constructor
    · intro h
      have d := Nat.lcm_dvd (Nat.dvd_mul_right a i) (Nat.dvd_of_mod_eq_zero h)
      rw [hk] at d
      exact Nat.dvd_of_mul_dvd_mul_left ha d
    · intro h
      obtain ⟨t, ht⟩ := h
      refine Nat.mod_eq_zero_of_dvd ?_
      rw [ht, ← Nat.mul_assoc, ← hk]
      exact Nat.dvd_mul_right_of_dvd (Nat.dvd_lcm_right a l) t
  refine ⟨k, k1, ?_, hk, fun i _ _ => dv i⟩
  exact Nat.le_of_dvd hl ((dv l).mp (Nat.mul_mod_left a l))
end PE
