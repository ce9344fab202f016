/-! NUMBERS: ints and longs that are natural numbers -/
theorem n_un {a : Nat} (h : a < 2 ^ 32) : am_un (nI a) = a := pk_tn h
theorem n_and (a b : Nat) : nI a &&& nI b = nI (a &&& b) := by
  apply Int32.toBitVec_inj.mp
  rw [Int32.toBitVec_and]
  apply BitVec.eq_of_toNat_eq
  rw [BitVec.toNat_and]
  show (BitVec.ofNat 32 a).toNat &&& (BitVec.ofNat 32 b).toNat = (BitVec.ofNat 32 (a &&& b)).toNat
  rw [BitVec.toNat_ofNat, BitVec.toNat_ofNat, BitVec.toNat_ofNat, ← Nat.and_two_pow_sub_one_eq_mod, ← Nat.and_two_pow_sub_one_eq_mod, ← Nat.and_two_pow_sub_one_eq_mod]
  apply Nat.eq_of_testBit_eq
  intro i
  simp only [Nat.testBit_and]
  cases a.testBit i <;> cases b.testBit i <;> cases (2 ^ 32 - 1).testBit i <;> rfl
theorem n_xor (a b : Nat) : nI a ^^^ nI b = nI (a ^^^ b) := by
  apply Int32.toBitVec_inj.mp
  rw [Int32.toBitVec_xor]
  apply BitVec.eq_of_toNat_eq
  rw [BitVec.toNat_xor]
  show (BitVec.ofNat 32 a).toNat ^^^ (BitVec.ofNat 32 b).toNat = (BitVec.ofNat 32 (a ^^^ b)).toNat
  rw [BitVec.toNat_ofNat, BitVec.toNat_ofNat, BitVec.toNat_ofNat, Nat.xor_mod_two_pow]
theorem n_or (a b : Nat) : nI a ||| nI b = nI (a ||| b) := by
  apply Int32.toBitVec_inj.mp
  rw [Int32.toBitVec_or]
  apply BitVec.eq_of_toNat_eq
  rw [BitVec.toNat_or]
  show (BitVec.ofNat 32 a).toNat ||| (BitVec.ofNat 32 b).toNat = (BitVec.ofNat 32 (a ||| b)).toNat
  rw [BitVec.toNat_ofNat, BitVec.toNat_ofNat, BitVec.toNat_ofNat, Nat.or_mod_two_pow]
theorem n_s31 : ∀ k, k < 32 → (((nI k) &&& 31).toBitVec.smod 32).toNat = k := by decide +kernel
theorem n_shr {a k : Nat} (ha : a < 2 ^ 31) (hk : k < 32) : nI a >>> (nI k &&& 31) = nI (a / 2 ^ k) := pk_shrN ha _ k (n_s31 k hk)
theorem n_shl {a k : Nat} (hk : k < 32) (h : a * 2 ^ k < 2 ^ 32) : nI a <<< (nI k &&& 31) = nI (a * 2 ^ k) := pk_shlN _ k (n_s31 k hk) h
theorem n_one (a : Nat) : nI a &&& nI 1 = nI (a % 2) := by rw [n_and, Nat.and_one_is_mod]
/-- what 'has' answers -/
def m_has (x k : Int32) : Int32 := if ((x >>> (k &&& 31)) &&& nI 1) = nI 1 then nI 1 else nI 0
theorem m_has_n {s k : Nat} (hs : s < 2 ^ 31) (hk : k < 32) : m_has (nI s) (nI k) = if s.testBit k then nI 1 else nI 0 := by
  unfold m_has
  rw [n_shr hs hk, n_one, Nat.testBit_eq_decide_div_mod_eq]
  have h2 := Nat.mod_lt (s / 2 ^ k) (y := 2) (by decide)
  by_cases h : s / 2 ^ k % 2 = 1
  · rw [h, if_pos rfl, decide_eq_true rfl]
    rfl
  · have h0 : s / 2 ^ k % 2 = 0 := by omega
    rw [h0, if_neg (by decide)]
    rfl
/-- how many places a set has -/
def pcn (n : Nat) : Nat := if h : n = 0 then 0 else n % 2 + pcn (n / 2)
decreasing_by omega
theorem pcn_0 : pcn 0 = 0 := by unfold pcn; rfl
theorem pcn_2 (n : Nat) : pcn n = n % 2 + pcn (n / 2) := by
  by_cases h : n = 0
  · subst h
    rw [pcn_0]
  · conv => lhs; unfold pcn
    rw [dif_neg h]
theorem n_and2 (a b : Nat) : (a &&& b) / 2 = a / 2 &&& b / 2 := by
  have h := Nat.shiftRight_and_distrib (a := a) (b := b) (i := 1)
  rw [Nat.shiftRight_eq_div_pow, Nat.shiftRight_eq_div_pow, Nat.shiftRight_eq_div_pow, Nat.pow_one] at h
  exact h
theorem n_andm (a b : Nat) : (a &&& b) % 2 = (a % 2) * (b % 2) := by
  have h := Nat.testBit_and a b 0
  rw [Nat.testBit_zero, Nat.testBit_zero, Nat.testBit_zero] at h
  have h1 := Nat.mod_lt a (y := 2) (by decide)
  have h2 := Nat.mod_lt b (y := 2) (by decide)
  have h3 := Nat.mod_lt (a &&& b) (y := 2) (by decide)
  have e : ∀ x y z : Fin 2, decide (x.val = 1) = (decide (y.val = 1) && decide (z.val = 1)) → x.val = y.val * z.val := by decide
  exact e ⟨_, h3⟩ ⟨_, h1⟩ ⟨_, h2⟩ h
theorem pcn_pred : ∀ n : Nat, 0 < n → pcn n = pcn (n &&& (n - 1)) + 1 := by
  intro n
  induction n using Nat.strongRecOn with
  | _ n ih =>
    intro h
    rw [pcn_2 n, pcn_2 (n &&& (n - 1)), n_and2, n_andm]
    rcases Nat.mod_two_eq_zero_or_one n with h2 | h2
    · rw [h2, Nat.zero_mul]
      have e1 : (n - 1) / 2 = n / 2 - 1 := by omega
      rw [e1, ih (n / 2) (by omega) (by omega)]
      omega
    · have e1 : (n - 1) / 2 = n / 2 := by omega
      have e2 : (n - 1) % 2 = 0 := by omega
      rw [e1, e2, h2, Nat.and_self]
      omega
theorem pcn_le : ∀ (k n : Nat), n < 2 ^ k → pcn n ≤ k
  | 0, n, h => by
    have : n = 0 := by omega
    subst this
    rw [pcn_0]
    exact Nat.le_refl _
  | k + 1, n, h => by
    rw [pcn_2]
    have := pcn_le k (n / 2) (by rw [Nat.pow_succ] at h; omega)
    omega
/-- down a loop -/
theorem lp_up (P : Nat → Prop) {n : Nat} (h : ∀ p, p < n → P (p + 1) → P p) (hn : P n) : ∀ p, p ≤ n → P p := by
  intro p hp
  induction hq : n - p generalizing p with
  | zero =>
    have : p = n := by omega
    subst this
    exact hn
  | succ q ih => exact h p (by omega) (ih (p + 1) (by omega) (by omega))
/-- n steps -/
def itn {α : Type} (f : Nat → α → α) (a : α) : Nat → α
  | 0 => a
  | n + 1 => f n (itn f a n)
theorem n_sba {n k c : Nat} (h : k ≤ n + c) : nI n - nI k + nI c = nI (n + c - k) := by
  rw [← pk_sub h, ← nI_add, Int32.sub_eq_add_neg, Int32.sub_eq_add_neg, Int32.add_assoc, Int32.add_comm (-nI k), ← Int32.add_assoc]
theorem n_p2 {k : Nat} (hk : k < 32) : nI 1 <<< (nI k &&& 31) = nI (2 ^ k) := by
  have h := n_shl (a := 1) hk (by rw [Nat.one_mul]; exact Nat.pow_lt_pow_right (by decide) hk)
  rw [Nat.one_mul] at h
  exact h
theorem nI_i {n k : Nat} (h : n = k) : nI n = nI k := by rw [h]
theorem n_add0 (a : Nat) : a ||| 0 = a := Nat.or_zero a
