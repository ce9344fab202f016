/-! BITCOUNT -/
theorem n_spl {k a b c e : Nat} (hb : b < 2 ^ k) (he : e < 2 ^ k) : (2 ^ k * a + b) &&& (2 ^ k * c + e) = 2 ^ k * (a &&& c) + (b &&& e) := by
  apply Nat.eq_of_testBit_eq
  intro j
  rw [Nat.testBit_and, Nat.testBit_two_pow_mul_add _ hb, Nat.testBit_two_pow_mul_add _ he, Nat.testBit_two_pow_mul_add _ (Nat.lt_of_le_of_lt Nat.and_le_left hb)]
  by_cases h : j < k
  · rw [if_pos h, if_pos h, if_pos h, Nat.testBit_and]
  · rw [if_neg h, if_neg h, if_neg h, Nat.testBit_and]
theorem n_spl8 {a b c e : Nat} (hb : b < 256) (he : e < 256) : (256 * a + b) &&& (256 * c + e) = 256 * (a &&& c) + (b &&& e) := n_spl (k := 8) hb he
theorem pcn_spl : ∀ (k a b : Nat), b < 2 ^ k → pcn (2 ^ k * a + b) = pcn a + pcn b
  | 0, a, b, h => by
    have : b = 0 := by omega
    subst this
    rw [pcn_0, Nat.pow_zero, Nat.one_mul]
    rfl
  | k + 1, a, b, h => by
    rw [pcn_2, pcn_2 b]
    rw [Nat.pow_succ] at h
    have e : 2 ^ (k + 1) * a + b = 2 * (2 ^ k * a) + b := by rw [Nat.pow_succ, Nat.mul_comm (2 ^ k) 2, Nat.mul_assoc]
    rw [e]
    have e1 : (2 * (2 ^ k * a) + b) % 2 = b % 2 := by omega
    have e2 : (2 * (2 ^ k * a) + b) / 2 = 2 ^ k * a + b / 2 := by omega
    rw [e1, e2, pcn_spl k a (b / 2) (by omega)]
    omega
/-- a byte: in pairs, in fours, in all -/
def bc_a (x : Nat) : Nat := x - (x / 2 &&& 85)
def bc_b (x : Nat) : Nat := (bc_a x &&& 51) + (bc_a x / 4 &&& 51)
def bc_c (x : Nat) : Nat := (bc_b x + bc_b x / 16) &&& 15
theorem bc_pcn : ∀ x, x < 256 → bc_c x = x % 2 + (x / 2 % 2 + (x / 2 / 2 % 2 + (x / 2 / 2 / 2 % 2 + (x / 2 / 2 / 2 / 2 % 2 + (x / 2 / 2 / 2 / 2 / 2 % 2 + (x / 2 / 2 / 2 / 2 / 2 / 2 % 2 + x / 2 / 2 / 2 / 2 / 2 / 2 / 2 % 2)))))) := by decide +kernel
theorem pcn_byte {x : Nat} (h : x < 256) : pcn x = bc_c x := by
  rw [bc_pcn x h, pcn_2, pcn_2 (x / 2), pcn_2 (x / 2 / 2), pcn_2 (x / 2 / 2 / 2), pcn_2 (x / 2 / 2 / 2 / 2), pcn_2 (x / 2 / 2 / 2 / 2 / 2), pcn_2 (x / 2 / 2 / 2 / 2 / 2 / 2), pcn_2 (x / 2 / 2 / 2 / 2 / 2 / 2 / 2)]
  have e : x / 2 / 2 / 2 / 2 / 2 / 2 / 2 / 2 = 0 := by omega
  rw [e, pcn_0, Nat.add_zero]
theorem bc_a1 : ∀ x, x < 256 → (x / 2 &&& 85) ≤ x ∧ (128 + x / 2) &&& 85 = (x / 2 &&& 85) ∧ bc_a x < 256 := by decide +kernel
theorem bc_b1 : ∀ x, x < 256 → (x / 4 &&& 51) + (x &&& 51) < 256 ∧ (64 + x / 4) &&& 51 = (x / 4 &&& 51) ∧ (128 + x / 4) &&& 51 = (x / 4 &&& 51) ∧ (192 + x / 4) &&& 51 = (x / 4 &&& 51) := by decide +kernel
theorem bc_b2 : ∀ x, x < 256 → bc_b x / 16 ≤ 4 ∧ bc_b x % 16 ≤ 4 ∧ bc_c x ≤ 8 := by decide +kernel
theorem bc_c1 : ∀ x, x < 256 → ∀ k, k < 5 → (k * 16 + (bc_b x + bc_b x / 16)) &&& 15 = bc_c x := by decide +kernel
theorem bc_sA {h l m : Nat} (hl : l < 256) (hm : (h / 2 &&& m) ≤ h) : ((256 * h + l) / 2 &&& (256 * m + 85)) ≤ 256 * h + l ∧ (256 * h + l) - ((256 * h + l) / 2 &&& (256 * m + 85)) = 256 * (h - (h / 2 &&& m)) + bc_a l := by
  have e : (256 * h + l) / 2 = 256 * (h / 2) + ((h % 2) * 128 + l / 2) := by omega
  obtain ⟨a1, a2, a3⟩ := bc_a1 l hl
  rw [e, n_spl8 (by have := Nat.mod_lt h (y := 2) (by decide); omega) (by decide)]
  have e2 : ((h % 2) * 128 + l / 2) &&& 85 = (l / 2 &&& 85) := by
    rcases Nat.mod_two_eq_zero_or_one h with q | q
    · rw [q, Nat.zero_mul, Nat.zero_add]
    · rw [q, Nat.one_mul, a2]
  rw [e2]
  unfold bc_a
  omega
theorem bc_sB {h l m : Nat} (hl : l < 256) : ((256 * h + l) &&& (256 * m + 51)) + ((256 * h + l) / 4 &&& (256 * m + 51)) = 256 * ((h &&& m) + (h / 4 &&& m)) + ((l &&& 51) + (l / 4 &&& 51)) := by
  have e : (256 * h + l) / 4 = 256 * (h / 4) + ((h % 4) * 64 + l / 4) := by omega
  obtain ⟨a1, a2, a3, a4⟩ := bc_b1 l hl
  have h4 := Nat.mod_lt h (y := 4) (by decide)
  rw [e, n_spl8 (by omega) (by decide), n_spl8 (by omega) (by decide)]
  have e2 : ((h % 4) * 64 + l / 4) &&& 51 = (l / 4 &&& 51) := by
    have q : h % 4 = 0 ∨ h % 4 = 1 ∨ h % 4 = 2 ∨ h % 4 = 3 := by omega
    rcases q with q | q | q | q
    · rw [q, Nat.zero_mul, Nat.zero_add]
    · rw [q, a2]
    · rw [q, a3]
    · rw [q, a4]
  rw [e2]
  omega
theorem bc_sC {h x m : Nat} (hx : x < 256) (hh : h % 16 ≤ 4) : ((256 * h + bc_b x) + (256 * h + bc_b x) / 16) &&& (256 * m + 15) = 256 * ((h + h / 16) &&& m) + bc_c x := by
  obtain ⟨a1, a2, a3⟩ := bc_b2 x hx
  have e : (256 * h + bc_b x) + (256 * h + bc_b x) / 16 = 256 * (h + h / 16) + (h % 16 * 16 + (bc_b x + bc_b x / 16)) := by omega
  rw [e, n_spl8 (by omega) (by decide), bc_c1 x hx _ (by omega)]
/-- the count of a set of 24 -/
def bc_n (n : Nat) : Nat :=
  let a := n - (n / 2 &&& 1431655765)
  let b := (a &&& 858993459) + (a / 4 &&& 858993459)
  let c := (b + b / 16) &&& 252645135
  let e := c + c / 256
  (e + e / 65536) &&& 63
theorem bc_at {x y w : Nat} (hx : x < 256) (hy : y < 256) (hw : w < 256) :
    ((256 * (256 * w + y) + x) / 2 &&& 1431655765) ≤ 256 * (256 * w + y) + x ∧
    (256 * (256 * w + y) + x) - ((256 * (256 * w + y) + x) / 2 &&& 1431655765) = 256 * (256 * bc_a w + bc_a y) + bc_a x := by
  have h0 : (w / 2 &&& (256 * 85 + 85)) ≤ w ∧ w - (w / 2 &&& (256 * 85 + 85)) = bc_a w := by
    have q := bc_sA (h := 0) (l := w) (m := 85) hw (by decide)
    rw [Nat.mul_zero, Nat.zero_add] at q
    exact ⟨q.1, q.2.trans (by show 256 * 0 + bc_a w = _; omega)⟩
  have h1 := bc_sA (h := w) (l := y) (m := 256 * 85 + 85) hy h0.1
  have h2 := bc_sA (h := 256 * w + y) (l := x) (m := 256 * (256 * 85 + 85) + 85) hx h1.1
  rw [h1.2, h0.2] at h2
  exact h2
theorem bc_bt {x y w : Nat} (hx : x < 256) (hy : y < 256) (hw : w < 256) :
    ((256 * (256 * bc_a w + bc_a y) + bc_a x) &&& 858993459) + ((256 * (256 * bc_a w + bc_a y) + bc_a x) / 4 &&& 858993459) = 256 * (256 * bc_b w + bc_b y) + bc_b x := by
  have h0 : (bc_a w &&& (256 * 51 + 51)) + (bc_a w / 4 &&& (256 * 51 + 51)) = bc_b w := by
    have q := bc_sB (h := 0) (l := bc_a w) (m := 51) (bc_a1 w hw).2.2
    rw [Nat.mul_zero, Nat.zero_add] at q
    exact q.trans (by show 256 * 0 + bc_b w = _; omega)
  have h1 := bc_sB (h := bc_a w) (l := bc_a y) (m := 256 * 51 + 51) (bc_a1 y hy).2.2
  have h2 := bc_sB (h := 256 * bc_a w + bc_a y) (l := bc_a x) (m := 256 * (256 * 51 + 51) + 51) (bc_a1 x hx).2.2
  rw [h1, h0] at h2
  exact h2
theorem bc_ct {x y w : Nat} (hx : x < 256) (hy : y < 256) (hw : w < 256) :
    ((256 * (256 * bc_b w + bc_b y) + bc_b x) + (256 * (256 * bc_b w + bc_b y) + bc_b x) / 16) &&& 252645135 = 256 * (256 * bc_c w + bc_c y) + bc_c x := by
  have h0 : (bc_b w + bc_b w / 16) &&& (256 * 15 + 15) = bc_c w := by
    have q := bc_sC (h := 0) (x := w) (m := 15) hw (by decide)
    rw [Nat.mul_zero, Nat.zero_add] at q
    exact q.trans (by show 256 * 0 + bc_c w = _; omega)
  have h1 := bc_sC (h := bc_b w) (x := y) (m := 256 * 15 + 15) hy (bc_b2 w hw).2.1
  rw [h0] at h1
  have h2 := bc_sC (h := 256 * bc_b w + bc_b y) (x := x) (m := 256 * (256 * 15 + 15) + 15) hx (by have := (bc_b2 y hy).2.1; omega)
  rw [h1] at h2
  exact h2
theorem bc_eq {n : Nat} (h : n < 2 ^ 24) : bc_n n = pcn n := by
  obtain ⟨x, y, w, hx, hy, hw, e⟩ : ∃ x y w, x < 256 ∧ y < 256 ∧ w < 256 ∧ n = 256 * (256 * w + y) + x := ⟨n % 256, n / 256 % 256, n / 65536, by omega, by omega, by omega, by omega⟩
  subst e
  rw [pcn_spl 8 _ _ hx, pcn_spl 8 _ _ hy, pcn_byte hx, pcn_byte hy, pcn_byte hw]
  unfold bc_n
  dsimp only
  rw [(bc_at hx hy hw).2, bc_bt hx hy hw, bc_ct hx hy hw]
  have h1 := (bc_b2 x hx).2.2
  have h2 := (bc_b2 y hy).2.2
  have h3 := (bc_b2 w hw).2.2
  have q1 : (256 * (256 * bc_c w + bc_c y) + bc_c x) / 256 = 256 * bc_c w + bc_c y := by omega
  rw [show (63 : Nat) = 2 ^ 6 - 1 by decide, Nat.and_two_pow_sub_one_eq_mod, q1]
  have q2 : (256 * (256 * bc_c w + bc_c y) + bc_c x + (256 * bc_c w + bc_c y)) / 65536 = bc_c w := by omega
  rw [q2]
  omega
theorem n_ush {a k : Nat} (ha : a < 2 ^ 32) (hk : k < 32) : ((nI a).toUInt32 >>> ((nI k).toUInt32 &&& Int32.toUInt32 31)).toInt32 = nI (a / 2 ^ k) := by
  have e : ∀ k, k < 32 → (((nI k).toUInt32 &&& Int32.toUInt32 31).toNat % 32) = k := by decide +kernel
  have e1 : (nI a).toUInt32 = UInt32.ofNat a := rfl
  apply Int32.toBitVec_inj.mp
  apply BitVec.eq_of_toNat_eq
  show ((nI a).toUInt32 >>> ((nI k).toUInt32 &&& Int32.toUInt32 31)).toNat = (BitVec.ofNat 32 (a / 2 ^ k)).toNat
  rw [UInt32.toNat_shiftRight, e k hk, e1, UInt32.toNat_ofNat', Nat.shiftRight_eq_div_pow, BitVec.toNat_ofNat, Nat.mod_eq_of_lt ha, Nat.mod_eq_of_lt (Nat.lt_of_le_of_lt (Nat.div_le_self _ _) ha)]
section BC
variable {d : Nat} {K : Option Value → am_M → Prop} {M : am_M}
theorem s_bitCount {s : Nat} (hd : 1 ≤ d) (hs : s < 2 ^ 24) (h : K (some (.int (nI (pcn s)))) M) : am_AC d k_J_bitCount [.int (nI s)] M K := by
  obtain ⟨d, rfl, hd1⟩ := s_up hd
  refine am_in _ _ _ (am_step _ _ _ (p_J_bitCount_0 ?_))
  rw [← bc_eq hs] at h
  obtain ⟨x, y, w, hx, hy, hw, e⟩ : ∃ x y w, x < 256 ∧ y < 256 ∧ w < 256 ∧ s = 256 * (256 * w + y) + x := ⟨s % 256, s / 256 % 256, s / 65536, by omega, by omega, by omega, by omega⟩
  have ha := bc_at hx hy hw
  have hb := bc_bt hx hy hw
  have hc := bc_ct hx hy hw
  rw [← e] at ha
  rw [← ha.2] at hb
  rw [← hb] at hc
  have a1 := (bc_a1 x hx).2.2
  have a2 := (bc_a1 y hy).2.2
  have a3 := (bc_a1 w hw).2.2
  have b1 := bc_b2 x hx
  have b2 := bc_b2 y hy
  have b3 := bc_b2 w hw
  generalize hA : s - (s / 2 &&& 1431655765) = A at *
  have lA : A < 2 ^ 31 := by omega
  generalize hB : (A &&& 858993459) + (A / 4 &&& 858993459) = B at *
  have lB : B < 2 ^ 31 := by omega
  generalize hC : (B + B / 16) &&& 252645135 = C at *
  have lC : C < 2 ^ 28 := by omega
  have eA : nI s - (((nI s).toUInt32 >>> ((nI 1).toUInt32 &&& Int32.toUInt32 31)).toInt32 &&& nI 1431655765) = nI A := by
    rw [n_ush (by omega) (by decide), n_and, ← hA]
    exact pk_sub ha.1
  have eB : (nI A &&& nI 858993459) + (((nI A).toUInt32 >>> ((nI 2).toUInt32 &&& Int32.toUInt32 31)).toInt32 &&& nI 858993459) = nI B := by
    rw [n_ush (by omega) (by decide), n_and, n_and, nI_add, ← hB]
  have eC : (nI B + ((nI B).toUInt32 >>> ((nI 4).toUInt32 &&& Int32.toUInt32 31)).toInt32) &&& nI 252645135 = nI C := by
    rw [n_ush (by omega) (by decide), nI_add, n_and, ← hC]
  have eE : nI C + ((nI C).toUInt32 >>> ((nI 8).toUInt32 &&& Int32.toUInt32 31)).toInt32 = nI (C + C / 256) := by
    rw [n_ush (by omega) (by decide), nI_add]
  have eF : (nI (C + C / 256) + ((nI (C + C / 256)).toUInt32 >>> ((nI 16).toUInt32 &&& Int32.toUInt32 31)).toInt32) &&& nI 63 = nI (bc_n s) := by
    rw [n_ush (by omega) (by decide), nI_add, n_and]
    unfold bc_n
    dsimp only
    rw [hA, hB, hC]
  rw [eA, eB, eC, eE, eF]
  exact h
end BC
