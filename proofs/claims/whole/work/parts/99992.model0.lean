/-! THE MODEL'S TABLE: entries, their levels, where they stand, their ways -/
abbrev m_Tt : Type := Nat × (Nat → Nat) × (Nat → Nat → Nat) × (Nat → Nat → Nat)
def mt_D (b : Nat → Nat) (T : m_Tt) (k q : Nat) : Prop := q < 24 ∧ (q = b k ∨ ¬ T.2.2.1 k q = 0)
def mt_u (T : m_Tt) (k q : Nat) : Nat → Nat := if T.2.2.1 k q = 0 then pe_1 else T.2.2.2 (T.2.2.1 k q - 1)
def mw (b : Nat → Nat) (T : m_Tt) : Prop := a_pm b ∧ (∀ k q, k < 24 → q < 24 → ¬ T.2.2.1 k q = 0 → T.2.2.1 k q - 1 < T.1 ∧ T.2.1 (T.2.2.1 k q - 1) = k ∧ T.2.2.2 (T.2.2.1 k q - 1) (b k) = q ∧ ¬ q = b k) ∧ ∀ e, e < T.1 → T.2.1 e < 24 ∧ pe_m (T.2.2.2 e) ∧ fx b (T.2.1 e) (T.2.2.2 e) ∧ g_pvb (T.2.2.2 e) = true ∧ ¬ T.2.2.2 e (b (T.2.1 e)) = b (T.2.1 e) ∧ T.2.2.1 (T.2.1 e) (T.2.2.2 e (b (T.2.1 e))) = e + 1
theorem cnt_split {P Q R : Nat → Bool} : ∀ N, (∀ j, j < N → R j = (P j || Q j)) → (∀ j, j < N → ¬ (P j = true ∧ Q j = true)) → g_cnt R N = g_cnt P N + g_cnt Q N
  | 0, _, _ => rfl
  | N + 1, h1, h2 => by
    have ih := cnt_split N (fun j hj => h1 j (by omega)) (fun j hj => h2 j (by omega))
    have a := h1 N (by omega)
    have c := h2 N (by omega)
    rw [cnt_s, cnt_s, cnt_s, a, ih]
    cases hp : P N <;> cases hq : Q N
    · rw [if_neg (by decide), if_neg (by decide), if_neg (by decide)]
    · rw [if_pos (by decide), if_neg (by decide), if_pos (by decide)]
      omega
    · rw [if_pos (by decide), if_pos (by decide), if_neg (by decide)]
      omega
    · exact absurd ⟨hp, hq⟩ c
theorem cnt_all {P : Nat → Bool} : ∀ N, (∀ j, j < N → P j = true) → g_cnt P N = N
  | 0, _ => rfl
  | N + 1, h => by rw [cnt_s, if_pos (h N (by omega)), cnt_all N fun j hj => h j (by omega)]
theorem cnt_nil {P : Nat → Bool} : ∀ N, (∀ j, j < N → P j = false) → g_cnt P N = 0
  | 0, _ => rfl
  | N + 1, h => by rw [cnt_s, if_neg (by rw [h N (by omega)]; decide), cnt_nil N fun j hj => h j (by omega)]
section MW
variable {b : Nat → Nat} {T T2 : m_Tt}
theorem mw_b0 (h : mw b T) {k : Nat} (hk : k < 24) : T.2.2.1 k (b k) = 0 := Classical.byContradiction fun c => (h.2.1 k (b k) hk (h.1.1 k hk) c).2.2.2 rfl
theorem mw_ta (h : mw b T) : ta b (mt_D b T) (mt_u T) := by
  refine ⟨h.1, fun k hk => ⟨⟨h.1.1 k hk, Or.inl rfl⟩, if_pos (mw_b0 h hk), fun q hq => ⟨hq.1, ?_⟩⟩⟩
  by_cases c : T.2.2.1 k q = 0
  · have e : mt_u T k q = pe_1 := if_pos c
    have e2 : q = b k := hq.2.elim id fun f => absurd c f
    rw [e, e2]
    exact ⟨pe_1_m, rfl, fun _ _ => rfl⟩
  · have e : mt_u T k q = T.2.2.2 (T.2.2.1 k q - 1) := if_neg c
    obtain ⟨a1, a2, a3, a4⟩ := h.2.1 k q hk hq.1 c
    obtain ⟨b1, b2, b3, b4, b5, b6⟩ := h.2.2 _ a1
    rw [e]
    rw [a2] at b3
    exact ⟨b2, a3, b3⟩
theorem mw_pv (h : mw b T) {k q : Nat} (hk : k < 24) (hq : mt_D b T k q) : g_pvb (mt_u T k q) = true := by
  by_cases c : T.2.2.1 k q = 0
  · have e : mt_u T k q = pe_1 := if_pos c
    rw [e]
    exact pvb_1
  · have e : mt_u T k q = T.2.2.2 (T.2.2.1 k q - 1) := if_neg c
    rw [e]
    exact (h.2.2 _ (h.2.1 k q hk hq.1 c).1).2.2.2.1
/-- the sizes of the levels -/
noncomputable def mt_s (b : Nat → Nat) (T : m_Tt) (k : Nat) : Nat := g_cnt (fun q => @decide (mt_D b T k q) (Classical.propDecidable _)) 24
theorem mt_eo (b : Nat → Nat) (T : m_Tt) (k : Nat) : ∃ o, eo (mt_D b T k) (mt_s b T k) o := by
  obtain ⟨o, o1, o2, o3⟩ := eo_cnt (fun q => @decide (mt_D b T k q) (Classical.propDecidable _)) 24
  exact ⟨o, fun a ha => (@decide_eq_true_iff _ (Classical.propDecidable _)).mp (o1 a ha).2, o2, fun q hq => o3 q ⟨hq.1, (@decide_eq_true_iff _ (Classical.propDecidable _)).mpr hq⟩⟩
theorem mt_eos (b : Nat → Nat) (T : m_Tt) : ∃ o : Nat → Nat → Nat, ∀ k, k < 24 → eo (mt_D b T k) (mt_s b T k) (o k) := by
  obtain ⟨o, h⟩ := Classical.axiomOfChoice (mt_eo b T)
  exact ⟨o, fun k _ => h k⟩
theorem mt_lev (h : mw b T) {k : Nat} (hk : k < 24) : g_cnt (fun e => decide (T.2.1 e = k)) T.1 ≤ mt_s b T k - 1 := by
  obtain ⟨o, ho⟩ := mt_eo b T k
  obtain ⟨c, c1, c2, c3⟩ := eo_cnt (fun e => decide (T.2.1 e = k)) T.1
  generalize hc : g_cnt (fun e => decide (T.2.1 e = k)) T.1 = m at *
  have c1 : ∀ a, a < m → c a < T.1 ∧ T.2.1 (c a) = k := fun a ha => ⟨(c1 a ha).1, of_decide_eq_true (c1 a ha).2⟩
  have img : ∀ a, a < m → ¬ T.2.2.2 (c a) (b k) = b k ∧ T.2.2.1 k (T.2.2.2 (c a) (b k)) = c a + 1 ∧ T.2.2.2 (c a) (b k) < 24 := fun a ha => by
    obtain ⟨a1, a2⟩ := c1 a ha
    obtain ⟨b1, b2, b3, b4, b5, b6⟩ := h.2.2 _ a1
    rw [a2] at b5 b6
    exact ⟨b5, b6, b2.1.1 _ (h.1.1 k hk)⟩
  have := eo_le (P := fun q => (∃ a, a < m ∧ T.2.2.2 (c a) (b k) = q) ∨ q = b k) (s := m + 1) (o := fun a => if a < m then T.2.2.2 (c a) (b k) else b k) ⟨fun a ha => ?_, fun a e ha he q => ?_, fun q hq => ?_⟩ ho fun q hq => ?_
  · omega
  · by_cases q : a < m
    · exact Or.inl ⟨a, q, (if_pos q).symm⟩
    · exact Or.inr (if_neg q)
  · dsimp only at q
    by_cases q1 : a < m
    · rw [if_pos q1] at q
      by_cases q2 : e < m
      · rw [if_pos q2] at q
        have e1 := (img a q1).2.1
        rw [q, (img e q2).2.1] at e1
        exact c2 a e q1 q2 (by omega)
      · rw [if_neg q2] at q
        exact absurd q (img a q1).1
    · rw [if_neg q1] at q
      by_cases q2 : e < m
      · rw [if_pos q2] at q
        exact absurd q.symm (img e q2).1
      · omega
  · rcases hq with ⟨a, a1, a2⟩ | hq
    · exact ⟨a, by omega, (if_pos a1).trans a2⟩
    · exact ⟨m, by omega, (if_neg (Nat.lt_irrefl m)).trans hq.symm⟩
  · rcases hq with ⟨a, a1, a2⟩ | hq
    · rw [← a2]
      exact ⟨(img a a1).2.2, Or.inr (by rw [(img a a1).2.1]; omega)⟩
    · rw [hq]
      exact ⟨h.1.1 k hk, Or.inl rfl⟩
theorem mt_su (h : mw b T) : ∀ n, n ≤ 24 → g_cnt (fun e => decide (24 - n ≤ T.2.1 e)) T.1 ≤ su (mt_s b T) n
  | 0, _ => by
    rw [cnt_nil T.1 fun e he => decide_eq_false (by have := (h.2.2 e he).1; omega)]
    exact Nat.zero_le _
  | n + 1, hn => by
    rw [cnt_split (P := fun e => decide (T.2.1 e = 23 - n)) (Q := fun e => decide (24 - n ≤ T.2.1 e)) T.1 (fun j hj => ?_) (fun j hj ⟨p, q⟩ => ?_)]
    · exact Nat.add_le_add (mt_lev h (by omega)) (mt_su h n (by omega))
    · rw [← Bool.decide_or]
      exact decide_eq_decide.mpr (by omega)
    · have p := of_decide_eq_true p
      have q := of_decide_eq_true q
      omega
theorem mw_48 (h : mw b T) : pr (mt_s b T) 19 ≤ 48 := by
  obtain ⟨o, ho⟩ := mt_eos b T
  exact b48 (mw_ta h) ho fun k q hk hq => mw_pv h hk hq
theorem mw_28 (h : mw b T) : pr (mt_s b T) 24 < 2 ^ 28 := by
  obtain ⟨o, ho⟩ := mt_eos b T
  exact pr_24 (mw_ta h) ho (mw_48 h)
theorem mw_124 (h : mw b T) : T.1 ≤ 124 := by
  obtain ⟨o, ho⟩ := mt_eos b T
  have a := mt_su h 24 (Nat.le_refl _)
  rw [cnt_all T.1 fun e he => decide_eq_true (by omega)] at a
  exact Nat.le_trans a (su_24 (mw_ta h) ho (mw_48 h))
/-- an entry more -/
def t_a (T : m_Tt) (k : Nat) (y : Nat → Nat) (q : Nat) : m_Tt := (T.1 + 1, am_u1 T.2.1 T.1 k, am_u1 T.2.2.1 k (am_u1 (T.2.2.1 k) q (T.1 + 1)), am_u1 T.2.2.2 T.1 y)
theorem ta_E {k q j p : Nat} {y : Nat → Nat} : (t_a T k y q).2.2.1 j p = if j = k ∧ p = q then T.1 + 1 else T.2.2.1 j p := by
  show am_u1 T.2.2.1 k (am_u1 (T.2.2.1 k) q (T.1 + 1)) j p = _
  by_cases c : j = k
  · rw [c, am_u1_at]
    by_cases c2 : p = q
    · rw [c2, am_u1_at, if_pos ⟨rfl, rfl⟩]
    · rw [am_u1_off _ _ c2, if_neg fun e => c2 e.2]
  · rw [am_u1_off _ _ c, if_neg fun e => c e.1]
/-- T2 has all that T has -/
def mx (T T2 : m_Tt) : Prop := T.1 ≤ T2.1 ∧ (∀ e, e < T.1 → T2.2.1 e = T.2.1 e ∧ T2.2.2.2 e = T.2.2.2 e) ∧ ∀ k q, k < 24 → q < 24 → ¬ T.2.2.1 k q = 0 → T2.2.2.1 k q = T.2.2.1 k q
theorem mx_r : mx T T := ⟨Nat.le_refl _, fun _ _ => ⟨rfl, rfl⟩, fun _ _ _ _ _ => rfl⟩
theorem mx_t {T3 : m_Tt} (h : mx T T2) (h2 : mx T2 T3) : mx T T3 := ⟨Nat.le_trans h.1 h2.1, fun e he => ⟨((h2.2.1 e (Nat.lt_of_lt_of_le he h.1)).1).trans (h.2.1 e he).1, ((h2.2.1 e (Nat.lt_of_lt_of_le he h.1)).2).trans (h.2.1 e he).2⟩, fun k q hk hq c => by
  have e := h.2.2 k q hk hq c
  rw [h2.2.2 k q hk hq (by rw [e]; exact c), e]⟩
theorem mx_st (hw : mw b T) (hw2 : mw b T2) (h : mx T T2) : ∀ k q, k < 24 → mt_D b T k q → mt_D b T2 k q ∧ mt_u T2 k q = mt_u T k q := fun k q hk hq => by
  by_cases c : T.2.2.1 k q = 0
  · have e : q = b k := hq.2.elim id fun f => absurd c f
    refine ⟨⟨hq.1, Or.inl e⟩, ?_⟩
    rw [e]
    exact (if_pos (mw_b0 hw2 hk)).trans (if_pos (mw_b0 hw hk)).symm
  · have e := h.2.2 k q hk hq.1 c
    refine ⟨⟨hq.1, Or.inr (by rw [e]; exact c)⟩, ?_⟩
    unfold mt_u
    rw [e, if_neg c, if_neg c, (h.2.1 _ (hw.2.1 k q hk hq.1 c).1).2]
theorem ta_mw (hw : mw b T) {k q : Nat} {y : Nat → Nat} (hk : k < 24) (ym : pe_m y) (yf : fx b k y) (yk : g_pvb y = true) (yq : y (b k) = q) (hq : ¬ mt_D b T k q) : mw b (t_a T k y q) ∧ mx T (t_a T k y q) := by
  have q24 : q < 24 := by rw [← yq]; exact ym.1.1 _ (hw.1.1 k hk)
  have qb : ¬ q = b k := fun e => hq ⟨q24, Or.inl e⟩
  have q0 : T.2.2.1 k q = 0 := Classical.byContradiction fun c => hq ⟨q24, Or.inr c⟩
  have eN : (t_a T k y q).1 = T.1 + 1 := rfl
  have l1 : (t_a T k y q).2.1 T.1 = k := am_u1_at _ _ _
  have l2 : ∀ e, ¬ e = T.1 → (t_a T k y q).2.1 e = T.2.1 e := fun e he => am_u1_off _ _ he
  have y1 : (t_a T k y q).2.2.2 T.1 = y := am_u1_at _ _ _
  have y2 : ∀ e, ¬ e = T.1 → (t_a T k y q).2.2.2 e = T.2.2.2 e := fun e he => am_u1_off _ _ he
  refine ⟨⟨hw.1, fun j p hj hp c => ?_, fun e he => ?_⟩, ⟨by omega, fun e he => ⟨l2 e (by omega), y2 e (by omega)⟩, fun j p hj hp c => ?_⟩⟩
  · rw [ta_E] at c ⊢
    by_cases cc : j = k ∧ p = q
    · rw [if_pos cc, eN, show T.1 + 1 - 1 = T.1 by omega, l1, y1, cc.1, cc.2]
      exact ⟨by omega, rfl, yq, qb⟩
    · rw [if_neg cc] at c ⊢
      obtain ⟨a1, a2, a3, a4⟩ := hw.2.1 j p hj hp c
      rw [l2 _ (by omega), y2 _ (by omega), eN]
      exact ⟨by omega, a2, a3, a4⟩
  · by_cases c : e = T.1
    · rw [c, l1, y1, ta_E, if_pos ⟨rfl, yq⟩, yq]
      exact ⟨hk, ym, yf, yk, qb, rfl⟩
    · rw [eN] at he
      obtain ⟨b1, b2, b3, b4, b5, b6⟩ := hw.2.2 e (by omega)
      rw [l2 e c, y2 e c, ta_E, if_neg fun h => ?_]
      · exact ⟨b1, b2, b3, b4, b5, b6⟩
      · rw [h.1, ← h.1, h.2, h.1, q0] at b6
        omega
  · rw [ta_E, if_neg fun h => c (by rw [h.1, h.2, q0])]
/-- all pairs are in the table: it is the group -/
theorem mt_group (hw : mw b T) {S : (Nat → Nat) → Prop} (hS : ∀ s, S s → st (mt_D b T) (mt_u T) 24 s) (hU : ∀ e, e < T.1 → ge S (T.2.2.2 e)) (hp : ∀ a c, a < T.1 → c < T.1 → T.2.1 a ≤ T.2.1 c → st (mt_D b T) (mt_u T) 24 (pe_c (T.2.2.2 c) (T.2.2.2 a))) (f : Nat → Nat) : st (mt_D b T) (mt_u T) 24 f ↔ ge S f := by
  have ht := mw_ta hw
  refine st_group ht hS (fun k q hk hq => ?_) (fun k j q q' hkj hj hq hq' => ?_) f
  · by_cases c : T.2.2.1 k q = 0
    · have e : mt_u T k q = pe_1 := if_pos c
      rw [e]
      exact ge_1
    · have e : mt_u T k q = T.2.2.2 (T.2.2.1 k q - 1) := if_neg c
      rw [e]
      exact hU _ (hw.2.1 k q hk hq.1 c).1
  · have uk : ∀ k q, k < 24 → mt_D b T k q → st (mt_D b T) (mt_u T) (24 - k) (mt_u T k q) := fun k q hk hq => by
      have := st_u ht (n := 23 - k) (q := q) (by omega) (by rw [show 23 - (23 - k) = k by omega]; exact hq)
      rw [show 23 - (23 - k) = k by omega, show 23 - k + 1 = 24 - k by omega] at this
      exact this
    by_cases c : T.2.2.1 k q = 0
    · have e : mt_u T k q = pe_1 := if_pos c
      rw [e]
      have := stq_le ht (uk j q' hj hq') (j - k) (by omega)
      rw [show 24 - j + (j - k) = 24 - k by omega] at this
      exact this
    · have e : mt_u T k q = T.2.2.2 (T.2.2.1 k q - 1) := if_neg c
      by_cases c' : T.2.2.1 j q' = 0
      · have e' : mt_u T j q' = pe_1 := if_pos c'
        rw [e']
        exact uk k q (by omega) hq
      · have e' : mt_u T j q' = T.2.2.2 (T.2.2.1 j q' - 1) := if_neg c'
        obtain ⟨a1, a2, a3, a4⟩ := hw.2.1 k q (by omega) hq.1 c
        obtain ⟨b1, b2, b3, b4⟩ := hw.2.1 j q' hj hq'.1 c'
        have h1 := (ht.2 k (by omega)).2.2 q hq
        have h2 := (ht.2 j hj).2.2 q' hq'
        have fxx : fx b k (pe_c (mt_u T j q') (mt_u T k q)) := fx_c (fx_le h2.2.2.2 hkj) h1.2.2.2
        have := hp _ _ a1 b1 (by rw [a2, b2]; exact hkj)
        rw [← e, ← e'] at this
        exact st_down ht this k (by omega) fxx
end MW
