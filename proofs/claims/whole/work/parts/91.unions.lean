/-! BOTH: UNIONS OF TWO TETRADS -/
theorem ws_up (w : Nat) : ∀ q, q ≤ 4096 → (g_ws w q).Pairwise (· < ·)
  | 0, _ => List.Pairwise.nil
  | q + 1, h => by
    rw [ws_s]
    by_cases e : pcn (g_w q) = w
    · rw [if_pos e, List.pairwise_append]
      refine ⟨ws_up w q (by omega), List.pairwise_singleton _ _, fun a ha b hb => ?_⟩
      rw [List.mem_singleton] at hb
      obtain ⟨p, p1, p2, _⟩ := ws_mem q a ha
      rw [hb, p2]
      exact g_w_mono (by omega) (by omega) p1
    · rw [if_neg e]
      exact ws_up w q (by omega)
theorem up_inj {l : List Nat} (h : l.Pairwise (· < ·)) {i j : Nat} (hi : i < l.length) (hj : j < l.length) (e : l.getD i 0 = l.getD j 0) : i = j := by
  rw [List.getD_eq_getElem?_getD, List.getElem?_eq_getElem hi, List.getD_eq_getElem?_getD, List.getElem?_eq_getElem hj] at e
  have e : l[i] = l[j] := e
  have q := List.pairwise_iff_getElem.mp h
  rcases Nat.lt_trichotomy i j with c | c | c
  · have := q i j hi hj c
    omega
  · exact c
  · have := q j i hj hi c
    omega
theorem oct_inj {i j : Nat} (hi : i < 759) (hj : j < 759) (e : g_oct i = g_oct j) : i = j := up_inj (ws_up 8 4096 (Nat.le_refl _)) (by rw [ws_8]; exact hi) (by rw [ws_8]; exact hj) e
/-- the places of an injective map on those with A -/
theorem cnt_map {e F : Nat → Nat} {N : Nat} (hF : ∀ i j, i < N → j < N → F i = F j → i = j) {A : Nat → Bool} : ∀ m, (∀ i, i < m → A i = true → ∃ k, k < N ∧ F k = e i) → (∀ i j, i < m → j < m → A i = true → A j = true → e i = e j → i = j) → ∀ P : Nat → Bool, (∀ k, k < N → (P k = true ↔ ∃ i, i < m ∧ A i = true ∧ e i = F k)) → g_cnt P N = g_cnt A m
  | 0, _, _, P, hP => by
    have := cnt_none (P := P) (a := 0) N (fun j _ hj => by
      cases h : P j
      · rfl
      · obtain ⟨i, hi, _⟩ := (hP j (by omega)).mp h
        exact absurd hi (Nat.not_lt_zero i))
    rw [Nat.zero_add] at this
    exact this
  | m + 1, h1, h2, P, hP => by
    rw [cnt_s]
    cases hA : A m
    · rw [if_neg (by decide)]
      refine cnt_map hF m (fun i hi => h1 i (by omega)) (fun i j hi hj => h2 i j (by omega) (by omega)) P (fun k hk => ?_)
      rw [hP k hk]
      constructor
      · rintro ⟨i, hi, a, q⟩
        refine ⟨i, ?_, a, q⟩
        have : ¬ i = m := fun e2 => by rw [e2, hA] at a; cases a
        omega
      · rintro ⟨i, hi, a, q⟩
        exact ⟨i, by omega, a, q⟩
    · rw [if_pos rfl]
      obtain ⟨km, k1, k2⟩ := h1 m (by omega) hA
      have ih := cnt_map hF m (fun i hi => h1 i (by omega)) (fun i j hi hj => h2 i j (by omega) (by omega)) (fun k => P k && !decide (k = km)) (fun k hk => by
        rw [Bool.and_eq_true, hP k hk]
        constructor
        · rintro ⟨⟨i, hi, a, e⟩, q⟩
          have q : ¬ k = km := by simpa using q
          exact ⟨i, by
            have : ¬ i = m := fun e2 => q (hF k km hk k1 (by rw [k2, ← e, e2]))
            omega, a, e⟩
        · rintro ⟨i, hi, a, e⟩
          refine ⟨⟨i, by omega, a, e⟩, ?_⟩
          have : ¬ k = km := fun e2 => by
            have := h2 i m (by omega) (by omega) a hA (by rw [e, e2, k2])
            omega
          simpa using this)
      rw [← ih]
      refine cnt_add1 (a := km) (fun j hj => ?_) ?_ ?_ N k1
      · rw [decide_eq_false hj]
        cases P j <;> rfl
      · rw [decide_eq_true rfl]
        cases P km <;> rfl
      · exact (hP _ k1).mpr ⟨m, by omega, hA, k2.symm⟩
section UT
variable {s : Nat}
/-- o is made of tetrads of s -/
def g_UT (s o : Nat) : Prop := ∀ p, p < 24 → o.testBit p = true → g_sub (g_t s p) o
theorem te_tb {k q : Nat} (hs : s < 2 ^ 24) (h4 : pcn s = 4) (hk : k < 6) (h : (g_te s k).testBit q = true) : g_t s q = g_te s k := by
  obtain ⟨lo, lt⟩ := open_i hs h4 hk
  exact t_same hs h4 lt (tb_lt (te_all hs h4 hk).2.2 h) h
theorem te_nz {k : Nat} (hs : s < 2 ^ 24) (h4 : pcn s = 4) (hk : k < 6) : ∃ q, (g_te s k).testBit q = true := nz_tb fun e => by
  have := (te_all hs h4 hk).1
  rw [e, pcn_0] at this
  cases this
theorem te_eq {i j : Nat} (hs : s < 2 ^ 24) (h4 : pcn s = 4) (hi : i < 6) (hj : j < 6) (e : g_te s i = g_te s j) : i = j := by
  rcases Nat.lt_trichotomy i j with c | c | c
  · exact (te_dis hs h4 c hj e).elim
  · exact c
  · exact (te_dis hs h4 c hi e.symm).elim
theorem te_of {p : Nat} (hs : s < 2 ^ 24) (h4 : pcn s = 4) (hp : p < 24) : ∃ i, i < 6 ∧ g_te s i = g_t s p := by
  obtain ⟨t1, t2, t3, t4⟩ := t_all hs h4 hp
  exact te_ex hs h4 t2 t3 t4
/-- the class's way to see it -/
theorem UT_iff {o : Nat} (hs : s < 2 ^ 24) (h4 : pcn s = 4) : g_UT s o ↔ ∀ k, k < 6 → (g_te s k &&& o = 0 ∨ g_te s k &&& o = g_te s k) := by
  constructor
  · intro h k hk
    by_cases z : g_te s k &&& o = 0
    · exact Or.inl z
    · obtain ⟨q, hq⟩ := nz_tb z
      rw [Nat.testBit_and, Bool.and_eq_true] at hq
      have := h q (tb_lt (te_all hs h4 hk).2.2 hq.1) hq.2
      rw [te_tb hs h4 hk hq.1] at this
      exact Or.inr this
  · intro h p hp ho
    obtain ⟨i, i1, i2⟩ := te_of hs h4 hp
    rcases h i i1 with q | q
    · have : (g_te s i &&& o).testBit p = true := by rw [Nat.testBit_and, i2, (t_all hs h4 hp).1, ho]; rfl
      rw [q, Nat.zero_testBit] at this
      cases this
    · rw [← i2]
      exact q
theorem te_pair {i j : Nat} (hs : s < 2 ^ 24) (h4 : pcn s = 4) (hi : i < 6) (hj : j < 6) (hij : ¬ i = j) : g_io (g_te s i ||| g_te s j) ∧ g_UT s (g_te s i ||| g_te s j) := by
  obtain ⟨a1, a2, a3⟩ := te_all hs h4 hi
  obtain ⟨b1, b2, b3⟩ := te_all hs h4 hj
  obtain ⟨c1, c2⟩ := pcn_dis (a := g_te s i) (b := g_te s j) (fun q q1 q2 => hij (te_eq hs h4 hi hj (by rw [← te_tb hs h4 hi q1, te_tb hs h4 hj q2])))
  refine ⟨⟨?_, by rw [c1, a1, b1]⟩, fun p hp ho => ?_⟩
  · rw [c2]
    have := isw_xor a2 b2
    rw [Nat.xor_assoc, ← Nat.xor_assoc (g_te s i), Nat.xor_comm (g_te s i) s, Nat.xor_assoc s, ← Nat.xor_assoc s s, Nat.xor_self, Nat.zero_xor] at this
    exact this
  · rw [Nat.testBit_or, Bool.or_eq_true] at ho
    rcases ho with ho | ho
    · rw [te_tb hs h4 hi ho]
      exact sub_tb.mpr fun q hq => by rw [Nat.testBit_or, hq]; rfl
    · rw [te_tb hs h4 hj ho]
      exact sub_tb.mpr fun q hq => by rw [Nat.testBit_or, hq, Bool.or_true]
theorem UT_pair {o : Nat} (hs : s < 2 ^ 24) (h4 : pcn s = 4) (ho : g_io o) (hU : g_UT s o) : ∃ i j, i < j ∧ j < 6 ∧ g_te s i ||| g_te s j = o := by
  have ol := io_lt ho
  obtain ⟨p, hp⟩ := nz_tb (s := o) (fun e => by have := ho.2; rw [e, pcn_0] at this; cases this)
  have p24 := tb_lt ol hp
  have s1 := hU p p24 hp
  obtain ⟨i, i1, i2⟩ := te_of hs h4 p24
  obtain ⟨a1, a2, a3⟩ := te_all hs h4 i1
  rw [← i2] at s1
  obtain ⟨_, x2⟩ := pcn_sub s1
  rw [ho.2, a1] at x2
  obtain ⟨q, hq⟩ := nz_tb (s := g_te s i ^^^ o) (fun e => by rw [e, pcn_0] at x2; cases x2)
  have q1 : o.testBit q = true ∧ (g_te s i).testBit q = false := by
    rw [Nat.testBit_xor] at hq
    cases c1 : (g_te s i).testBit q
    · rw [c1] at hq
      exact ⟨by simpa using hq, rfl⟩
    · rw [c1, sub_tb.mp s1 q c1] at hq
      cases hq
  have q24 := tb_lt ol q1.1
  have s2 := hU q q24 q1.1
  obtain ⟨j, j1, j2⟩ := te_of hs h4 q24
  rw [← j2] at s2
  have hij : ¬ i = j := fun e => by
    have := (t_all hs h4 q24).1
    rw [← j2, ← e, q1.2] at this
    cases this
  have fin : ∀ a b, a < 6 → b < 6 → ¬ a = b → g_sub (g_te s a) o → g_sub (g_te s b) o → g_te s a ||| g_te s b = o := by
    intro a b ha hb hab sa sb
    have pr := te_pair hs h4 ha hb hab
    have sb2 : g_sub (g_te s a ||| g_te s b) o := sub_tb.mpr fun y hy => by
      rw [Nat.testBit_or, Bool.or_eq_true] at hy
      rcases hy with hy | hy
      · exact sub_tb.mp sa y hy
      · exact sub_tb.mp sb y hy
    exact io_uni pr.1 ho (sub_tb.mpr fun _ h => h) sb2 (by rw [pr.1.2]; decide)
  rcases Nat.lt_trichotomy i j with c | c | c
  · exact ⟨i, j, c, j1, fin i j i1 j1 hij s1 s2⟩
  · exact absurd c hij
  · exact ⟨j, i, c, i1, fin j i j1 i1 (fun e => hij e.symm) s2 s1⟩
theorem pair_inj {i j k l : Nat} (hs : s < 2 ^ 24) (h4 : pcn s = 4) (h1 : i < j) (h2 : j < 6) (h3 : k < l) (h5 : l < 6) (e : g_te s i ||| g_te s j = g_te s k ||| g_te s l) : i = k ∧ j = l := by
  have one : ∀ a, a < 6 → g_sub (g_te s a) (g_te s k ||| g_te s l) → a = k ∨ a = l := by
    intro a ha sa
    obtain ⟨q, hq⟩ := te_nz hs h4 ha
    have := sub_tb.mp sa q hq
    rw [Nat.testBit_or, Bool.or_eq_true] at this
    rcases this with w | w
    · exact Or.inl (te_eq hs h4 ha (by omega) (by rw [← te_tb hs h4 ha hq, te_tb hs h4 (by omega) w]))
    · exact Or.inr (te_eq hs h4 ha (by omega) (by rw [← te_tb hs h4 ha hq, te_tb hs h4 (by omega) w]))
  have c1 := one i (by omega) (by rw [← e]; exact sub_tb.mpr fun q hq => by rw [Nat.testBit_or, hq]; rfl)
  have c2 := one j h2 (by rw [← e]; exact sub_tb.mpr fun q hq => by rw [Nat.testBit_or, hq, Bool.or_true])
  omega
end UT
/-- the pair q of tetrads of s has what is asked, as one of u -/
noncomputable def g_bA (s u q : Nat) : Bool := @decide (q / 6 < q % 6 ∧ g_UT u (g_te s (q / 6) ||| g_te s (q % 6))) (Classical.propDecidable _)
noncomputable def g_bP (s u k : Nat) : Bool := @decide (g_UT s (g_oct k) ∧ g_UT u (g_oct k)) (Classical.propDecidable _)
theorem bA_iff {s u q : Nat} : g_bA s u q = true ↔ (q / 6 < q % 6 ∧ g_UT u (g_te s (q / 6) ||| g_te s (q % 6))) := by
  unfold g_bA
  exact @decide_eq_true_iff _ (Classical.propDecidable _)
theorem bP_iff {s u k : Nat} : g_bP s u k = true ↔ (g_UT s (g_oct k) ∧ g_UT u (g_oct k)) := by
  unfold g_bP
  exact @decide_eq_true_iff _ (Classical.propDecidable _)
theorem both_eq {s u : Nat} (hs : s < 2 ^ 24) (h4 : pcn s = 4) : g_cnt (g_bP s u) 759 = g_cnt (g_bA s u) 36 := by
  refine cnt_map (e := fun q => g_te s (q / 6) ||| g_te s (q % 6)) (F := g_oct) (fun i j hi hj => oct_inj hi hj) 36 (fun i hi a => ?_) (fun i j hi hj a b e => ?_) _ (fun k hk => ?_)
  · obtain ⟨a1, a2⟩ := bA_iff.mp a
    exact io_oct (te_pair hs h4 (by omega) (by omega) (by omega)).1
  · obtain ⟨a1, a2⟩ := bA_iff.mp a
    obtain ⟨b1, b2⟩ := bA_iff.mp b
    obtain ⟨c1, c2⟩ := pair_inj hs h4 a1 (by omega) b1 (by omega) e
    omega
  · constructor
    · intro h
      obtain ⟨h1, h2⟩ := bP_iff.mp h
      obtain ⟨i, j, i1, i2, i3⟩ := UT_pair hs h4 (oct_io hk) h1
      have d1 : (6 * i + j) / 6 = i := by omega
      have d2 : (6 * i + j) % 6 = j := by omega
      refine ⟨6 * i + j, by omega, bA_iff.mpr ?_, ?_⟩
      · rw [d1, d2, i3]
        exact ⟨i1, h2⟩
      · show g_te s ((6 * i + j) / 6) ||| g_te s ((6 * i + j) % 6) = _
        rw [d1, d2, i3]
    · rintro ⟨i, hi, a, e⟩
      obtain ⟨a1, a2⟩ := bA_iff.mp a
      refine bP_iff.mpr ?_
      rw [← e]
      exact ⟨(te_pair hs h4 (by omega) (by omega) (by omega)).2, a2⟩
