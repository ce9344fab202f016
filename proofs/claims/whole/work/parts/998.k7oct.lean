/-! GROUPS: A MOVE THAT FIXES SIX POINTS OF AN OCTAD AND ONE OUTSIDE IS THE SAME -/
theorem pcn_new {s p : Nat} (h : s.testBit p = false) : pcn (s ||| 2 ^ p) = pcn s + 1 := by rw [pcn_or, h, if_neg (by decide)]
theorem tb_or2 {s p j : Nat} : (s ||| 2 ^ p).testBit j = true ↔ s.testBit j = true ∨ j = p := by
  rw [Nat.testBit_or, tb_p2, Bool.or_eq_true, decide_eq_true_iff]
  exact ⟨fun h => h.imp id Eq.symm, fun h => h.imp id Eq.symm⟩
theorem tb_no {s p j : Nat} (h1 : s.testBit j = false) (h2 : ¬ j = p) : (s ||| 2 ^ p).testBit j = false := Bool.eq_false_iff.mpr fun q => by
  rcases tb_or2.mp q with q | q
  · rw [h1] at q
    cases q
  · exact h2 q
theorem tb_p2n {a j : Nat} (h : ¬ j = a) : (2 ^ a).testBit j = false := by
  rw [tb_p2]
  exact decide_eq_false fun q => h q.symm
/-- five points -/
def g_5 (a b c d e : Nat) : Nat := 2 ^ a ||| 2 ^ b ||| 2 ^ c ||| 2 ^ d ||| 2 ^ e
theorem tb5 {a b c d e j : Nat} : (g_5 a b c d e).testBit j = true ↔ (j = a ∨ j = b ∨ j = c ∨ j = d ∨ j = e) := by
  unfold g_5
  rw [tb_or2, tb_or2, tb_or2, tb_or2, tb_p2, decide_eq_true_iff]
  omega
theorem pcn5 {a b c d e : Nat} (h1 : ¬ b = a) (h2 : ¬ c = a ∧ ¬ c = b) (h3 : ¬ d = a ∧ ¬ d = b ∧ ¬ d = c) (h4 : ¬ e = a ∧ ¬ e = b ∧ ¬ e = c ∧ ¬ e = d) : pcn (g_5 a b c d e) = 5 := by
  unfold g_5
  rw [pcn_new (tb_no (tb_no (tb_no (tb_p2n h4.1) h4.2.1) h4.2.2.1) h4.2.2.2), pcn_new (tb_no (tb_no (tb_p2n h3.1) h3.2.1) h3.2.2), pcn_new (tb_no (tb_p2n h2.1) h2.2), pcn_new (tb_p2n h1), pcn_p2]
theorem oc5 {a b c d e : Nat} (l : a < 24 ∧ b < 24 ∧ c < 24 ∧ d < 24 ∧ e < 24) (h1 : ¬ b = a) (h2 : ¬ c = a ∧ ¬ c = b) (h3 : ¬ d = a ∧ ¬ d = b ∧ ¬ d = c) (h4 : ¬ e = a ∧ ¬ e = b ∧ ¬ e = c ∧ ¬ e = d) : ∃ Q, g_io Q ∧ Q.testBit a = true ∧ Q.testBit b = true ∧ Q.testBit c = true ∧ Q.testBit d = true ∧ Q.testBit e = true := by
  have p : ∀ x, x < 24 → 2 ^ x < 2 ^ 24 := fun x hx => Nat.pow_lt_pow_right (by decide) hx
  have fl : g_5 a b c d e < 2 ^ 24 := Nat.or_lt_two_pow (Nat.or_lt_two_pow (Nat.or_lt_two_pow (Nat.or_lt_two_pow (p a l.1) (p b l.2.1)) (p c l.2.2.1)) (p d l.2.2.2.1)) (p e l.2.2.2.2)
  obtain ⟨o1, o2⟩ := oc_sp fl (pcn5 h1 h2 h3 h4)
  have t := sub_tb.mp o2
  exact ⟨_, o1, t a (tb5.mpr (by omega)), t b (tb5.mpr (by omega)), t c (tb5.mpr (by omega)), t d (tb5.mpr (by omega)), t e (tb5.mpr (by omega))⟩
theorem uni5 {A B a b c d e : Nat} (hA : g_io A) (hB : g_io B) (h1 : ¬ b = a) (h2 : ¬ c = a ∧ ¬ c = b) (h3 : ¬ d = a ∧ ¬ d = b ∧ ¬ d = c) (h4 : ¬ e = a ∧ ¬ e = b ∧ ¬ e = c ∧ ¬ e = d) (ta : A.testBit a = true ∧ A.testBit b = true ∧ A.testBit c = true ∧ A.testBit d = true ∧ A.testBit e = true) (tb : B.testBit a = true ∧ B.testBit b = true ∧ B.testBit c = true ∧ B.testBit d = true ∧ B.testBit e = true) : A = B := by
  refine io_uni hA hB (s := g_5 a b c d e) (sub_tb.mpr fun j hj => ?_) (sub_tb.mpr fun j hj => ?_) (by rw [pcn5 h1 h2 h3 h4]; exact Nat.le_refl _)
  · rcases tb5.mp hj with q | q | q | q | q
    · rw [q]; exact ta.1
    · rw [q]; exact ta.2.1
    · rw [q]; exact ta.2.2.1
    · rw [q]; exact ta.2.2.2.1
    · rw [q]; exact ta.2.2.2.2
  · rcases tb5.mp hj with q | q | q | q | q
    · rw [q]; exact tb.1
    · rw [q]; exact tb.2.1
    · rw [q]; exact tb.2.2.1
    · rw [q]; exact tb.2.2.2.1
    · rw [q]; exact tb.2.2.2.2
/-- two octads meet in 0, 2 or 4 points -/
theorem oct_meet {A B : Nat} (hA : g_io A) (hB : g_io B) (hne : ¬ A = B) : pcn (A &&& B) = 0 ∨ pcn (A &&& B) = 2 ∨ pcn (A &&& B) = 4 := by
  have p := pcn_xa A B
  have := hA.2
  have := hB.2
  rcases isw_wt (isw_xor hA.1 hB.1) with q | q | q | q | q
  · exact absurd (xor_eq0 q) hne
  · omega
  · omega
  · omega
  · omega
theorem sub_le {a b : Nat} (h : ∀ j, a.testBit j = true → b.testBit j = true) : pcn a ≤ pcn b := (pcn_sub (sub_tb.mpr h)).1
section K7
variable {O x y v z : Nat}
/-- an octad through e, v, z that meets O in four points, none of them x or y -/
theorem k7_oct (hO : g_io O) (hx : O.testBit x = true) (hy : O.testBit y = true) (hxy : ¬ x = y) (hv : O.testBit v = false) (hz : O.testBit z = false) (v24 : v < 24) (z24 : z < 24) (hvz : ¬ z = v) {e : Nat} (he : O.testBit e = true) (hex : ¬ e = x) (hey : ¬ e = y) : ∃ Q, g_io Q ∧ Q.testBit e = true ∧ Q.testBit v = true ∧ Q.testBit z = true ∧ Q.testBit x = false ∧ Q.testBit y = false ∧ pcn (Q &&& O) = 4 := by
  have ol := io_lt hO
  have x24 := tb_lt ol hx
  have y24 := tb_lt ol hy
  have e24 := tb_lt ol he
  have pl : ∀ p, p < 24 → 2 ^ p < 2 ^ 24 := fun p hp => Nat.pow_lt_pow_right (by decide) hp
  -- the five others
  have f1 : (O ^^^ 2 ^ x).testBit y = true := by rw [Nat.testBit_xor, hy, tb_p2n (fun q => hxy q.symm)]; rfl
  have f2 : (O ^^^ 2 ^ x ^^^ 2 ^ y).testBit e = true := by rw [Nat.testBit_xor, Nat.testBit_xor, he, tb_p2n hex, tb_p2n hey]; rfl
  have c1 := pcn_flip1 hx
  have c2 := pcn_flip1 f1
  have c3 := pcn_flip1 f2
  have o8 := hO.2
  generalize eG : O ^^^ 2 ^ x ^^^ 2 ^ y ^^^ 2 ^ e = G at c3
  have gl : G < 2 ^ 24 := by rw [← eG]; exact xor_lt (xor_lt (xor_lt ol (pl x x24)) (pl y y24)) (pl e e24)
  have gt : ∀ j, G.testBit j = true → O.testBit j = true ∧ ¬ j = x ∧ ¬ j = y ∧ ¬ j = e := by
    intro j hj
    have dx : ∀ q, (2 ^ q).testBit j = decide (q = j) := fun q => tb_p2 q j
    rw [← eG, Nat.testBit_xor, Nat.testBit_xor, Nat.testBit_xor, dx, dx, dx] at hj
    by_cases q1 : j = x
    · rw [q1, hx, decide_eq_true rfl, decide_eq_false (fun q => hxy q.symm), decide_eq_false hex] at hj
      cases hj
    · by_cases q2 : j = y
      · rw [q2, hy, decide_eq_true (rfl : y = y), decide_eq_false hxy, decide_eq_false hey] at hj
        cases hj
      · by_cases q3 : j = e
        · rw [q3, he, decide_eq_true (rfl : e = e), decide_eq_false (fun q => hex q.symm), decide_eq_false (fun q => hey q.symm)] at hj
          cases hj
        · rw [decide_eq_false (fun q => q1 q.symm), decide_eq_false (fun q => q2 q.symm), decide_eq_false (fun q => q3 q.symm)] at hj
          exact ⟨by simpa using hj, q1, q2, q3⟩
  have g5 : pcn G = 5 := by omega
  obtain ⟨b, b1, b2, _, b4, b5, b6⟩ := rem_low (F := G) (fun q => by rw [q, pcn_0] at g5; cases g5) gl
  obtain ⟨r, r1, r2, _, r4, r5, r6⟩ := rem_low (F := G ^^^ 2 ^ b) (fun q => by rw [q, pcn_0] at b4; omega) b5
  obtain ⟨s, s1, s2, _, s4, s5, s6⟩ := rem_low (F := G ^^^ 2 ^ b ^^^ 2 ^ r) (fun q => by rw [q, pcn_0] at r4; omega) r5
  obtain ⟨t, t1, t2, _, t4, t5, t6⟩ := rem_low (F := G ^^^ 2 ^ b ^^^ 2 ^ r ^^^ 2 ^ s) (fun q => by rw [q, pcn_0] at s4; omega) s5
  rw [b6, Bool.and_eq_true] at r2
  rw [r6, b6, Bool.and_eq_true, Bool.and_eq_true] at s2
  rw [s6, r6, b6, Bool.and_eq_true, Bool.and_eq_true, Bool.and_eq_true] at t2
  have nrb : ¬ r = b := by simpa using r2.2
  have nsr : ¬ s = r := by simpa using s2.2
  have nsb : ¬ s = b := by simpa using s2.1.2
  have nts : ¬ t = s := by simpa using t2.2
  have ntr : ¬ t = r := by simpa using t2.1.2
  have ntb : ¬ t = b := by simpa using t2.1.1.2
  obtain ⟨gb, gb1, gb2, gb3⟩ := gt b b2
  obtain ⟨gr, gr1, gr2, gr3⟩ := gt r r2.1
  obtain ⟨gs, gs1, gs2, gs3⟩ := gt s s2.1.1
  obtain ⟨gt1, gt2, gt3, gt4⟩ := gt t t2.1.1.1
  have ne : ∀ p, O.testBit p = true → ¬ v = p ∧ ¬ z = p := fun p hp => ⟨fun q => absurd hv (by rw [q, hp]; exact Bool.noConfusion), fun q => absurd hz (by rw [q, hp]; exact Bool.noConfusion)⟩
  have one : ∀ c, O.testBit c = true → ¬ c = e → ¬ c = b → ∃ Q, g_io Q ∧ Q.testBit e = true ∧ Q.testBit b = true ∧ Q.testBit c = true ∧ Q.testBit v = true ∧ Q.testBit z = true := fun c hc n1 n2 =>
    oc5 ⟨e24, b1, tb_lt ol hc, v24, z24⟩ gb3 ⟨n1, n2⟩ ⟨(ne e he).1, (ne b gb).1, (ne c hc).1⟩ ⟨(ne e he).2, (ne b gb).2, (ne c hc).2, hvz⟩
  have good : ∀ c Q, O.testBit c = true → ¬ c = e → ¬ c = b → g_io Q → Q.testBit e = true → Q.testBit b = true → Q.testBit c = true → Q.testBit v = true → Q.testBit z = true → Q.testBit x = false → Q.testBit y = false → ∃ Q, g_io Q ∧ Q.testBit e = true ∧ Q.testBit v = true ∧ Q.testBit z = true ∧ Q.testBit x = false ∧ Q.testBit y = false ∧ pcn (Q &&& O) = 4 := by
    intro c Q hc n1 n2 q1 q2 q3 q4 q5 q6 q7 q8
    refine ⟨Q, q1, q2, q5, q6, q7, q8, ?_⟩
    have m := oct_meet q1 hO (fun q => by rw [q, hv] at q5; cases q5)
    have : pcn (2 ^ e ||| 2 ^ b ||| 2 ^ c) ≤ pcn (Q &&& O) := sub_le fun j hj => by
      rw [Nat.testBit_and]
      rcases tb_or2.mp hj with hj | hj
      · rcases tb_or2.mp hj with hj | hj
        · rw [tb_p2] at hj
          rw [← of_decide_eq_true hj, q2, he]
          rfl
        · rw [hj, q3, gb]
          rfl
      · rw [hj, q4, hc]
        rfl
    rw [pcn_new (tb_no (tb_p2n n1) n2), pcn_new (tb_p2n gb3), pcn_p2] at this
    omega
  have two : ∀ c c' u Q Q', O.testBit c = true → ¬ c = e → ¬ c = b → O.testBit c' = true → ¬ c' = e → ¬ c' = b → ¬ c' = c → O.testBit u = true → ¬ u = e → ¬ u = b → ¬ u = c → ¬ u = c' → g_io Q → Q.testBit e = true → Q.testBit b = true → Q.testBit c = true → Q.testBit v = true → Q.testBit z = true → Q.testBit u = true → g_io Q' → Q'.testBit e = true → Q'.testBit b = true → Q'.testBit c' = true → Q'.testBit v = true → Q'.testBit z = true → Q'.testBit u = true → False := by
    intro c c' u Q Q' hc n1 n2 hc' n3 n4 n5 hu n6 n7 n8 n9 q1 q2 q3 q4 q5 q6 q7 k1 k2 k3 k4 k5 k6 k7
    have eq := uni5 (a := e) (b := b) (c := u) (d := v) (e := z) q1 k1 gb3 ⟨n6, n7⟩ ⟨(ne e he).1, (ne b gb).1, (ne u hu).1⟩ ⟨(ne e he).2, (ne b gb).2, (ne u hu).2, hvz⟩ ⟨q2, q3, q7, q5, q6⟩ ⟨k2, k3, k7, k5, k6⟩
    rw [← eq] at k4
    have eO := uni5 (a := e) (b := b) (c := c) (d := c') (e := u) q1 hO gb3 ⟨n1, n2⟩ ⟨n3, n4, n5⟩ ⟨n6, n7, n8, n9⟩ ⟨q2, q3, q4, k4, q7⟩ ⟨he, gb, hc, hc', hu⟩
    rw [eO, hv] at q5
    cases q5
  obtain ⟨Qr, a1, a2, a3, a4, a5, a6⟩ := one r gr gr3 nrb
  obtain ⟨Qs, d1, d2, d3, d4, d5, d6⟩ := one s gs gs3 nsb
  obtain ⟨Qt, e1, e2, e3, e4, e5, e6⟩ := one t gt1 gt4 ntb
  have nx : ¬ x = e ∧ ¬ x = b ∧ ¬ x = r ∧ ¬ x = s ∧ ¬ x = t := ⟨fun q => hex q.symm, fun q => gb1 q.symm, fun q => gr1 q.symm, fun q => gs1 q.symm, fun q => gt2 q.symm⟩
  have ny : ¬ y = e ∧ ¬ y = b ∧ ¬ y = r ∧ ¬ y = s ∧ ¬ y = t := ⟨fun q => hey q.symm, fun q => gb2 q.symm, fun q => gr2 q.symm, fun q => gs2 q.symm, fun q => gt3 q.symm⟩
  by_cases rx : Qr.testBit x = true
  · by_cases sx : Qs.testBit x = true
    · exact (two r s x Qr Qs gr gr3 nrb gs gs3 nsb nsr hx nx.1 nx.2.1 nx.2.2.1 nx.2.2.2.1 a1 a2 a3 a4 a5 a6 rx d1 d2 d3 d4 d5 d6 sx).elim
    · by_cases sy : Qs.testBit y = true
      · by_cases tx : Qt.testBit x = true
        · exact (two r t x Qr Qt gr gr3 nrb gt1 gt4 ntb ntr hx nx.1 nx.2.1 nx.2.2.1 nx.2.2.2.2 a1 a2 a3 a4 a5 a6 rx e1 e2 e3 e4 e5 e6 tx).elim
        · by_cases ty : Qt.testBit y = true
          · exact (two s t y Qs Qt gs gs3 nsb gt1 gt4 ntb nts hy ny.1 ny.2.1 ny.2.2.2.1 ny.2.2.2.2 d1 d2 d3 d4 d5 d6 sy e1 e2 e3 e4 e5 e6 ty).elim
          · exact good t Qt gt1 gt4 ntb e1 e2 e3 e4 e5 e6 (Bool.eq_false_iff.mpr tx) (Bool.eq_false_iff.mpr ty)
      · exact good s Qs gs gs3 nsb d1 d2 d3 d4 d5 d6 (Bool.eq_false_iff.mpr sx) (Bool.eq_false_iff.mpr sy)
  · by_cases ry : Qr.testBit y = true
    · by_cases sy : Qs.testBit y = true
      · exact (two r s y Qr Qs gr gr3 nrb gs gs3 nsb nsr hy ny.1 ny.2.1 ny.2.2.1 ny.2.2.2.1 a1 a2 a3 a4 a5 a6 ry d1 d2 d3 d4 d5 d6 sy).elim
      · by_cases sx : Qs.testBit x = true
        · by_cases ty : Qt.testBit y = true
          · exact (two r t y Qr Qt gr gr3 nrb gt1 gt4 ntb ntr hy ny.1 ny.2.1 ny.2.2.1 ny.2.2.2.2 a1 a2 a3 a4 a5 a6 ry e1 e2 e3 e4 e5 e6 ty).elim
          · by_cases tx : Qt.testBit x = true
            · exact (two s t x Qs Qt gs gs3 nsb gt1 gt4 ntb nts hx nx.1 nx.2.1 nx.2.2.2.1 nx.2.2.2.2 d1 d2 d3 d4 d5 d6 sx e1 e2 e3 e4 e5 e6 tx).elim
            · exact good t Qt gt1 gt4 ntb e1 e2 e3 e4 e5 e6 (Bool.eq_false_iff.mpr tx) (Bool.eq_false_iff.mpr ty)
        · exact good s Qs gs gs3 nsb d1 d2 d3 d4 d5 d6 (Bool.eq_false_iff.mpr sx) (Bool.eq_false_iff.mpr sy)
    · exact good r Qr gr gr3 nrb a1 a2 a3 a4 a5 a6 (Bool.eq_false_iff.mpr rx) (Bool.eq_false_iff.mpr ry)
end K7
