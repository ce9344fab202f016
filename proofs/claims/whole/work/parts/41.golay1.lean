/-! THE CLASS'S CODE, I: place, wordOf, rest, over any memory that has the tables -/
theorem n_bit {s k : Nat} (hs : s < 2 ^ 31) (hk : k < 32) : ((nI s >>> (nI k &&& 31)) &&& nI 1) = nI 1 ↔ s.testBit k = true := by
  rw [n_shr hs hk, n_one, Nat.testBit_eq_decide_div_mod_eq]
  have h2 := Nat.mod_lt (s / 2 ^ k) (y := 2) (by decide)
  rw [nI_eq (by omega) (by decide), decide_eq_true_iff]
theorem n_mask {a : Nat} : nI a &&& nI 4095 = nI (a % 4096) := by
  rw [n_and]
  exact congrArg nI (Nat.and_two_pow_sub_one_eq_mod a 12)
section G1
variable {d : Nat} {K : Option Value → am_M → Prop} {M : am_M} {I : Nat → Nat → Int32} {Lg : Nat → Nat → Int64} {R : Nat → Nat → Option Nat} {z ss n : Nat}
theorem s_place {s : Nat} (hd : 1 ≤ d) (hs : s < 2 ^ 31) (h : K (some (.int (nI (s / 4096 % 4096)))) M) : am_AC d k_Go_place [.int (nI s)] M K := by
  obtain ⟨d, rfl, hd1⟩ := s_up hd
  refine am_in _ _ _ (am_step _ _ _ (p_Go_place_0 ?_))
  rw [n_shr hs (by decide), n_mask]
  exact h
/-- the sum of the rows B k over the places k of a number -/
def g_sum (B : Nat → Nat) (s : Nat) (q : Nat) : Nat := itn (fun k w => if s.testBit k then w ^^^ B k else w) 0 q
theorem s_GwordOf {s : Nat} {B : Nat → Nat} (hd : 1 ≤ d) (hs : s < 2 ^ 31) (hz : 25 ≤ z) (hR : R 19 4 = some 24) (hB : ∀ k, k < 12 → I 24 k = nI (B k)) (h : K (some (.int (nI (g_sum B s 12)))) (I, Lg, R, z, ss, n)) : am_AC d k_Go_wordOf [.ref 19, .int (nI s)] (I, Lg, R, z, ss, n) K := by
  obtain ⟨d, rfl, hd1⟩ := s_up hd
  have key : ∀ q, q ≤ 12 → am_St d k_Go_wordOf (I, Lg, R, z, ss, n) K 4 [some (.ref 19), some (.int (nI s)), some (.int (nI (g_sum B s q))), some (.int (nI q))] [] (I, Lg, R, z, ss, n) := by
    refine lp_up _ (fun q hq ih => ?_) ?_
    · have e : g_sum B s (q + 1) = (if s.testBit q then g_sum B s q ^^^ B q else g_sum B s q) := rfl
      rw [e] at ih
      refine am_step _ _ _ (d_Go_wordOf_4 ⟨fun _ => ⟨fun q2 => am_gi (Nat.ble_eq_true_of_le (by omega)) (am_obi hR (am_gi ?_ ⟨?_, ?_⟩)), fun q2 => ?_⟩, fun q2 => absurd (nI_lt (show q < 12 by omega) (by decide)) q2⟩)
      · rw [Nat.ble_eq_true_of_le (show 24 + 1 ≤ z from hz)]
        rfl
      · rw [n_un (by omega)]
        exact hq
      · rw [n_bit hs (by omega)] at q2
        rw [if_pos q2] at ih
        rw [n_un (by omega), hB q hq, n_xor, nI_add]
        exact ih
      · rw [n_bit hs (by omega)] at q2
        rw [if_neg q2] at ih
        rw [nI_add]
        exact ih
    · exact am_step _ _ _ (d_Go_wordOf_4 ⟨fun q2 => absurd q2 (by decide), fun _ => h⟩)
  exact am_in _ _ _ (am_step _ _ _ (d_Go_wordOf_0 (key 0 (by decide))))
theorem s_rest {s : Nat} {W : Nat → Nat} (hd : 2 ≤ d) (hs : s < 2 ^ 31) (hz : 21 ≤ z) (hR : R 19 0 = some 20) (hW : ∀ k, k < 4096 → I 20 k = nI (W k)) (h : K (some (.int (nI ((s ^^^ W (s / 4096 % 4096)) % 4096)))) (I, Lg, R, z, ss, n)) : am_AC d k_Go_rest [.ref 19, .int (nI s)] (I, Lg, R, z, ss, n) K := by
  obtain ⟨d, rfl, hd1⟩ := s_up hd
  have hm := Nat.mod_lt (s / 4096) (y := 4096) (by decide)
  refine am_in _ _ _ (am_step _ _ _ (d_Go_rest_0 (am_gi (Nat.ble_eq_true_of_le (by omega)) (am_obi hR (s_place hd1 hs ⟨_, rfl, am_step _ _ _ (d_Go_rest_9 (am_gi ?_ ⟨?_, ?_⟩))⟩)))))
  · rw [Nat.ble_eq_true_of_le (show 20 + 1 ≤ z from hz)]
    rfl
  · rw [n_un (by omega)]
    exact hm
  · rw [n_un (by omega), hW _ hm, n_xor, n_mask]
    exact h
end G1
