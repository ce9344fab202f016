/-! WHAT THE SMALL METHODS ANSWER, II -/
theorem m_in_i (x : Int32) {lo hi : Nat} (hlo : lo < 2 ^ 31) (hhi : hi < 2 ^ 31) : m_in x.toInt64 (lN lo) (lN hi) = if nI lo ≤ x ∧ x ≤ nI hi then nI 1 else nI 0 := by
  unfold m_in
  rw [← nI_l hlo, ← nI_l hhi]
  simp only [Int64.le_iff_toInt_le, Int32.le_iff_toInt_le, Int32.toInt_toInt64]
theorem m_in_n {p lo hi : Nat} (hp : p < 2 ^ 31) (hlo : lo < 2 ^ 31) (hhi : hi < 2 ^ 31) : m_in (nI p).toInt64 (lN lo) (lN hi) = if lo ≤ p ∧ p ≤ hi then nI 1 else nI 0 := by
  rw [m_in_i _ hlo hhi]
  have e1 := nI_leI hlo hp
  have e2 := nI_leI hp hhi
  by_cases h : lo ≤ p ∧ p ≤ hi
  · rw [if_pos h, if_pos ⟨e1.mpr h.1, e2.mpr h.2⟩]
  · rw [if_neg h, if_neg (fun q => h ⟨e1.mp q.1, e2.mp q.2⟩)]
def m_rng (x : Int32) (lo hi : Nat) : Int32 := if nI lo ≤ x ∧ x ≤ nI hi then nI 1 else nI 0
theorem m_rng_01 (x : Int32) (lo hi : Nat) : (decide (m_rng x lo hi = 0) || decide (m_rng x lo hi = 1)) = true := by
  unfold m_rng
  split <;> rfl
theorem am_zg {x : Int32} {p : Prop} (h : (decide (x = 0) || decide (x = 1)) = true) (q : p) : am_g (decide (x = 0) || decide (x = 1)) p := by
  rw [h]
  exact q
section S
variable {d : Nat} {x y : Int32} {M : am_M} {K : Option Value → am_M → Prop}
theorem s_isSet (hd : 2 ≤ d) (h : K (some (.int (m_rng x 0 16777215))) M) : am_AC d k_M_isSet [.int x] M K := by
  obtain ⟨d, rfl, hd1⟩ := s_up hd
  refine am_in _ _ _ (am_step _ _ _ (p_M_isSet_0 (s_in hd1 ⟨_, rfl, am_step _ _ _ (p_M_isSet_9 ?_)⟩)))
  rw [m_in_i x (by decide) (by decide)]
  exact am_zg (m_rng_01 x _ _) h
theorem s_isMove (hd : 2 ≤ d) (h : K (some (.int (m_rng x 0 4))) M) : am_AC d k_M_isMove [.int x] M K := by
  obtain ⟨d, rfl, hd1⟩ := s_up hd
  refine am_in _ _ _ (am_step _ _ _ (p_M_isMove_0 (s_in hd1 ⟨_, rfl, am_step _ _ _ (p_M_isMove_9 ?_)⟩)))
  rw [m_in_i x (by decide) (by decide)]
  exact am_zg (m_rng_01 x _ _) h
theorem s_isFigure (hd : 2 ≤ d) (h : K (some (.int (m_rng x 48 57))) M) : am_AC d k_M_isFigure [.int x] M K := by
  obtain ⟨d, rfl, hd1⟩ := s_up hd
  refine am_in _ _ _ (am_step _ _ _ (p_M_isFigure_0 (s_in hd1 ⟨_, rfl, am_step _ _ _ (p_M_isFigure_11 ?_)⟩)))
  rw [m_in_i x (by decide) (by decide)]
  exact am_zg (m_rng_01 x _ _) h
theorem s_isLow (hd : 2 ≤ d) (h : K (some (.int (m_rng x 97 122))) M) : am_AC d k_M_isLow [.int x] M K := by
  obtain ⟨d, rfl, hd1⟩ := s_up hd
  refine am_in _ _ _ (am_step _ _ _ (p_M_isLow_0 (s_in hd1 ⟨_, rfl, am_step _ _ _ (p_M_isLow_11 ?_)⟩)))
  rw [m_in_i x (by decide) (by decide)]
  exact am_zg (m_rng_01 x _ _) h
theorem s_isGroup (hd : 2 ≤ d) (h : K (some (.int (m_rng x 0 15))) M) : am_AC d k_M_isGroup [.int x] M K := by
  obtain ⟨d, rfl, hd1⟩ := s_up hd
  refine am_in _ _ _ (am_step _ _ _ (p_M_isGroup_0 (s_in hd1 ⟨_, rfl, am_step _ _ _ (p_M_isGroup_9 ?_)⟩)))
  rw [m_in_i x (by decide) (by decide)]
  exact am_zg (m_rng_01 x _ _) h
theorem s_isSheet (hd : 2 ≤ d) (h : K (some (.int (m_rng x 0 3))) M) : am_AC d k_M_isSheet [.int x] M K := by
  obtain ⟨d, rfl, hd1⟩ := s_up hd
  refine am_in _ _ _ (am_step _ _ _ (p_M_isSheet_0 (s_in hd1 ⟨_, rfl, am_step _ _ _ (p_M_isSheet_9 ?_)⟩)))
  rw [m_in_i x (by decide) (by decide)]
  exact am_zg (m_rng_01 x _ _) h
/-- outside of 0 .. y-1 -/
def m_out (x y : Int32) : Int32 := if x < 0 ∨ y ≤ x then nI 1 else nI 0
theorem s_isOutside (hd : 1 ≤ d) (h : K (some (.int (m_out x y))) M) : am_AC d k_X_isOutside [.int x, .int y] M K := by
  obtain ⟨d, rfl, hd1⟩ := s_up hd
  unfold m_out at h
  refine am_in _ _ _ (am_step _ _ _ (p_X_isOutside_0 ⟨fun q => ?_, fun q => ⟨fun q2 => ?_, fun q2 => ?_⟩⟩))
  · rw [if_pos (Or.inl q)] at h
    exact h
  · rw [if_neg (fun q3 => q3.elim q (Int32.not_le.mpr q2))] at h
    exact h
  · rw [if_pos (Or.inr (Int32.not_lt.mp q2))] at h
    exact h
def m_noset (x : Int32) : Int32 := if x < 0 ∨ nI 16777215 < x then nI 1 else nI 0
theorem s_isNoSet (hd : 1 ≤ d) (h : K (some (.int (m_noset x))) M) : am_AC d k_X_isNoSet [.int x] M K := by
  obtain ⟨d, rfl, hd1⟩ := s_up hd
  unfold m_noset at h
  refine am_in _ _ _ (am_step _ _ _ (p_X_isNoSet_0 ⟨fun q => ?_, fun q => ⟨fun q2 => ?_, fun q2 => ?_⟩⟩))
  · rw [if_pos (Or.inl q)] at h
    exact h
  · rw [if_pos (Or.inr q2)] at h
    exact h
  · rw [if_neg (fun q3 => q3.elim q q2)] at h
    exact h
def m_nolane (x y : Int32) : Int32 := if (x < 0 ∨ nI 4 ≤ x) ∨ (y < 0 ∨ nI 4 ≤ y) then nI 1 else nI 0
theorem s_isNoLane (hd : 2 ≤ d) (h : K (some (.int (m_nolane x y))) M) : am_AC d k_X_isNoLane [.int x, .int y] M K := by
  obtain ⟨d, rfl, hd1⟩ := s_up hd
  unfold m_nolane at h
  refine am_in _ _ _ (am_step _ _ _ (p_X_isNoLane_0 (s_isOutside hd1 ⟨_, rfl, am_step _ _ _ (p_X_isNoLane_5 ⟨fun q => s_isOutside hd1 ⟨_, rfl, am_step _ _ _ (p_X_isNoLane_13 ⟨fun q2 => ?_, fun q2 => ?_⟩)⟩, fun q => ?_⟩)⟩)))
  · unfold m_out at q q2
    split at q
    · cases q
    · rename_i h1
      split at q2
      · cases q2
      · rename_i h2
        rw [if_neg (fun h3 => h3.elim h1 h2)] at h
        exact h
  · unfold m_out at q2
    split at q2
    · rename_i h2
      rw [if_pos (Or.inr h2)] at h
      exact h
    · exact absurd rfl q2
  · unfold m_out at q
    split at q
    · rename_i h2
      rw [if_pos (Or.inl h2)] at h
      exact h
    · exact absurd rfl q
/-- where 'over' sends a place, as the reference seeks it -/
def m_over (p : Nat) : Nat := itn (fun j to => if 1 ≤ p ∧ p ≤ 22 then (if p * (j + 1) % 23 = 22 then j + 1 else to) else to) (if p = 0 then 23 else 0) 22
theorem s_overOf {p : Nat} (hd : 2 ≤ d) (hp : p < 24) (h : K (some (.int (nI (m_over p)))) M) : am_AC d k_M_overOf [.int (nI p)] M K := by
  obtain ⟨d, rfl, hd1⟩ := s_up hd
  have key : ∀ q, q ≤ 22 → am_St d k_M_overOf M K 13 [some (.int (nI p)), some (.int (nI (itn (fun j to => if 1 ≤ p ∧ p ≤ 22 then (if p * (j + 1) % 23 = 22 then j + 1 else to) else to) (if p = 0 then 23 else 0) q))), some (.int (nI (q + 1)))] [] M := by
    refine lp_up _ (fun q hq ih => ?_) ?_
    · refine am_step _ _ _ (p_M_overOf_13 ⟨fun _ => s_in hd1 ⟨_, rfl, am_step _ _ _ (p_M_overOf_28 ?_)⟩, fun q2 => absurd (nI_lt (show q + 1 < 23 by omega) (by decide)) q2⟩)
      rw [m_in_n (by omega) (by decide) (by decide)]
      rw [pk_mul, nI_add]
      have hb : p * (q + 1) < 24 * 24 := Nat.mul_lt_mul'' hp (by omega)
      rw [pk_rem (by omega) (by decide) (by decide), nI_eq (by omega) (by decide)]
      show (_ → am_St _ _ _ _ _ _ _ _) ∧ _
      have e : itn (fun j to => if 1 ≤ p ∧ p ≤ 22 then (if p * (j + 1) % 23 = 22 then j + 1 else to) else to) (if p = 0 then 23 else 0) (q + 1) = (if 1 ≤ p ∧ p ≤ 22 then (if p * (q + 1) % 23 = 22 then q + 1 else itn (fun j to => if 1 ≤ p ∧ p ≤ 22 then (if p * (j + 1) % 23 = 22 then j + 1 else to) else to) (if p = 0 then 23 else 0) q) else itn (fun j to => if 1 ≤ p ∧ p ≤ 22 then (if p * (j + 1) % 23 = 22 then j + 1 else to) else to) (if p = 0 then 23 else 0) q) := rfl
      rw [e] at ih
      by_cases h1 : 1 ≤ p ∧ p ≤ 22
      · rw [if_pos h1] at ih
        rw [if_pos h1]
        refine ⟨fun q2 => absurd q2 (by decide), fun _ => ⟨fun q3 => ?_, fun q3 => ?_⟩⟩
        · rw [if_pos q3] at ih
          exact ih
        · rw [if_neg q3] at ih
          exact ih
      · rw [if_neg h1] at ih
        rw [if_neg h1]
        exact ⟨fun _ => ih, fun q2 => absurd rfl q2⟩
    · refine am_step _ _ _ (p_M_overOf_13 ⟨fun q2 => absurd q2 (by decide), fun _ => h⟩)
  refine am_in _ _ _ (am_step _ _ _ (p_M_overOf_0 ?_))
  have k0 := key 0 (by decide)
  have k1 : am_St d k_M_overOf M K 13 [some (.int (nI p)), some (.int (nI (if p = 0 then 23 else 0))), some (.int (nI 1))] [] M := k0
  by_cases hp0 : p = 0
  · rw [if_pos hp0] at k1
    exact ⟨fun _ => k1, fun q => absurd (by rw [hp0]; rfl) q⟩
  · rw [if_neg hp0] at k1
    exact ⟨fun q => absurd ((nI_eq (by omega) (by decide)).mp q) hp0, fun _ => k1⟩
end S
section S2
variable {d : Nat} {M : am_M} {K : Option Value → am_M → Prop}
/-- a figure's set of the rows: row k of the reference -/
def m_basic (k : Nat) : Nat := itn (fun n set => if Nat.testBit 8047776 n then set ||| 2 ^ ((n + 23 - k) % 23) else set) 8388608 23
theorem s_basic {k : Nat} (hd : 2 ≤ d) (hk : k < 24) (h : K (some (.int (nI (m_basic k)))) M) : am_AC d k_M_basic [.int (nI k)] M K := by
  obtain ⟨d, rfl, hd1⟩ := s_up hd
  have key : ∀ q, q ≤ 23 → am_St d k_M_basic M K 5 [some (.int (nI k)), some (.int (nI (itn (fun n set => if Nat.testBit 8047776 n then set ||| 2 ^ ((n + 23 - k) % 23) else set) 8388608 q))), some (.int (nI q))] [] M := by
    refine lp_up _ (fun q hq ih => ?_) ?_
    · refine am_step _ _ _ (p_M_basic_5 ⟨fun _ => s_has hd1 ⟨_, rfl, am_step _ _ _ (p_M_basic_18 ?_)⟩, fun q2 => absurd (nI_lt (show q < 23 by omega) (by decide)) q2⟩)
      have hm := Nat.mod_lt (q + 23 - k) (y := 23) (by decide)
      rw [m_has_n (by decide) (by omega), n_sba (by omega), pk_rem (by omega) (by decide) (by decide), n_p2 (by omega), n_or, n_or, Nat.or_zero, nI_add]
      have e : itn (fun n set => if Nat.testBit 8047776 n then set ||| 2 ^ ((n + 23 - k) % 23) else set) 8388608 (q + 1) = (if Nat.testBit 8047776 q then itn (fun n set => if Nat.testBit 8047776 n then set ||| 2 ^ ((n + 23 - k) % 23) else set) 8388608 q ||| 2 ^ ((q + 23 - k) % 23) else itn (fun n set => if Nat.testBit 8047776 n then set ||| 2 ^ ((n + 23 - k) % 23) else set) 8388608 q) := rfl
      rw [e] at ih
      by_cases h1 : Nat.testBit 8047776 q = true
      · rw [if_pos h1] at ih
        rw [if_pos h1]
        exact ⟨fun q2 => absurd q2 (by decide), fun _ => ih⟩
      · rw [if_neg h1] at ih
        rw [if_neg h1]
        exact ⟨fun _ => ih, fun q2 => absurd rfl q2⟩
    · exact am_step _ _ _ (p_M_basic_5 ⟨fun q2 => absurd q2 (by decide), fun _ => h⟩)
  exact am_in _ _ _ (am_step _ _ _ (p_M_basic_0 (key 0 (by decide))))
/-- the highest place of a set (0 of none) -/
def m_high (s : Nat) : Nat → Nat
  | 0 => 0
  | k + 1 => if s.testBit (k + 1) then k + 1 else m_high s k
theorem s_highest {s : Nat} (hd : 2 ≤ d) (hs : s < 2 ^ 31) (h : K (some (.int (nI (m_high s 23)))) M) : am_AC d k_M_highest [.int (nI s)] M K := by
  obtain ⟨d, rfl, hd1⟩ := s_up hd
  have key : ∀ k, k ≤ 23 → K (some (.int (nI (m_high s k)))) M → am_St d k_M_highest M K 3 [some (.int (nI s)), some (.int (nI k))] [] M := by
    intro k
    induction k with
    | zero =>
      intro _ h1
      exact am_step _ _ _ (p_M_highest_3 ⟨fun q => absurd q (by decide), fun _ => h1⟩)
    | succ k ih =>
      intro hk h1
      refine am_step _ _ _ (p_M_highest_3 ⟨fun q => s_has hd1 ⟨_, rfl, am_step _ _ _ (p_M_highest_12 ?_)⟩, fun q => absurd (nI_lt (show 0 < k + 1 by omega) (by omega)) q⟩)
      rw [m_has_n hs (by omega)]
      unfold m_high at h1
      by_cases hb : s.testBit (k + 1) = true
      · rw [if_pos hb] at h1
        rw [if_pos hb]
        exact ⟨fun q => absurd q (by decide), fun _ => h1⟩
      · rw [if_neg hb] at h1
        rw [if_neg hb]
        refine ⟨fun _ => ?_, fun q => absurd rfl q⟩
        have e : nI (k + 1) + am_k (-1) = nI k := pk_m1 k
        rw [e]
        exact ih (by omega) h1
  exact am_in _ _ _ (am_step _ _ _ (p_M_highest_0 (key 23 (by decide) h)))
/-- word n of the reference -/
def m_word (n : Nat) : Nat := itn (fun k set => if n.testBit k then set ^^^ m_basic k else set) 0 12
theorem s_wordOf {n : Nat} (hd : 3 ≤ d) (hn : n < 2 ^ 31) (h : K (some (.int (nI (m_word n)))) M) : am_AC d k_M_wordOf [.int (nI n)] M K := by
  obtain ⟨d, rfl, hd1⟩ := s_up hd
  have key : ∀ q, q ≤ 12 → am_St d k_M_wordOf M K 4 [some (.int (nI n)), some (.int (nI (itn (fun k set => if n.testBit k then set ^^^ m_basic k else set) 0 q))), some (.int (nI q))] [] M := by
    refine lp_up _ (fun q hq ih => ?_) ?_
    · have e : itn (fun k set => if n.testBit k then set ^^^ m_basic k else set) 0 (q + 1) = (if n.testBit q then itn (fun k set => if n.testBit k then set ^^^ m_basic k else set) 0 q ^^^ m_basic q else itn (fun k set => if n.testBit k then set ^^^ m_basic k else set) 0 q) := rfl
      rw [e] at ih
      refine am_step _ _ _ (p_M_wordOf_4 ⟨fun _ => s_has (by omega) ⟨_, rfl, am_step _ _ _ (p_M_wordOf_16 ⟨fun q2 => ?_, fun q2 => s_basic hd1 (by omega) ⟨_, rfl, am_step _ _ _ (p_M_wordOf_23 ?_)⟩⟩)⟩, fun q2 => absurd (nI_lt (show q < 12 by omega) (by decide)) q2⟩)
      · rw [m_has_n hn (by omega)] at q2
        have h1 : ¬ n.testBit q = true := fun h1 => by rw [if_pos h1] at q2; exact absurd q2 (by decide)
        rw [if_neg h1] at ih
        rw [n_xor, Nat.xor_zero, nI_add]
        exact ih
      · rw [m_has_n hn (by omega)] at q2
        have h1 : n.testBit q = true := by
          cases hb : n.testBit q
          · rw [hb] at q2
            exact absurd rfl q2
          · rfl
        rw [if_pos h1] at ih
        rw [n_xor, nI_add]
        exact ih
    · exact am_step _ _ _ (p_M_wordOf_4 ⟨fun q2 => absurd q2 (by decide), fun _ => h⟩)
  exact am_in _ _ _ (am_step _ _ _ (p_M_wordOf_0 (key 0 (by decide))))
end S2
