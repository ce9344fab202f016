/-! GROUPS: THE MOVE IS THE SAME (K7) -/
section K8
variable {O x y v : Nat} {f : Nat → Nat}
/-- an octad that f fixes in four points of O and in v stays -/
theorem k7_stay (hf : a_pm f) (hk : g_pvb f = true) (hO : g_io O) (hv : O.testBit v = false) (v24 : v < 24) (fv : f v = v) (h6 : ∀ p, O.testBit p = true → ¬ p = x → ¬ p = y → f p = p) {Q : Nat} (hQ : g_io Q) (qv : Q.testBit v = true) (qx : Q.testBit x = false) (qy : Q.testBit y = false) (q4 : pcn (Q &&& O) = 4) : g_im f Q 24 = Q := by
  have ql := io_lt hQ
  have iQ : g_io (g_im f Q 24) := ⟨im_isw hf hk hQ.1, by rw [im_pcn hf 24 (Nat.le_refl _) _ ql, hQ.2]⟩
  have n5 : pcn ((Q &&& O) ||| 2 ^ v) = 5 := by rw [pcn_new (by rw [Nat.testBit_and, hv, Bool.and_false]), q4]
  have inQ : g_sub ((Q &&& O) ||| 2 ^ v) Q := sub_tb.mpr fun j hj => by
    rcases tb_or2.mp hj with hj | hj
    · rw [Nat.testBit_and, Bool.and_eq_true] at hj
      exact hj.1
    · rw [hj]; exact qv
  refine io_uni iQ hQ (sub_tb.mpr fun j hj => ?_) inQ (by omega)
  have jq := sub_tb.mp inQ j hj
  have fj : f j = j := by
    rcases tb_or2.mp hj with hj | hj
    · rw [Nat.testBit_and, Bool.and_eq_true] at hj
      exact h6 j hj.2 (fun q => by rw [q, qx] at jq; cases jq) (fun q => by rw [q, qy] at jq; cases jq)
    · rw [hj, fv]
  have := im_at hf (s := Q) (tb_lt ql jq)
  rw [fj] at this
  rw [this, jq]
theorem k7_out (hf : a_pm f) (hk : g_pvb f = true) (hO : g_io O) (hx : O.testBit x = true) (hy : O.testBit y = true) (hxy : ¬ x = y) (hv : O.testBit v = false) (v24 : v < 24) (fv : f v = v) (h6 : ∀ p, O.testBit p = true → ¬ p = x → ¬ p = y → f p = p) {z : Nat} (z24 : z < 24) (hz : O.testBit z = false) : f z = z := by
  refine Classical.byContradiction fun hne => ?_
  have hvz : ¬ z = v := fun q => hne (by rw [q, fv])
  have ol := io_lt hO
  have dx : ∀ q j, (2 ^ q).testBit j = decide (q = j) := fun q j => tb_p2 q j
  have f1 : (O ^^^ 2 ^ x).testBit y = true := by rw [Nat.testBit_xor, hy, tb_p2n (fun q => hxy q.symm)]; rfl
  have c1 := pcn_flip1 hx
  have c2 := pcn_flip1 f1
  have o8 := hO.2
  have ft : ∀ j, (O ^^^ 2 ^ x ^^^ 2 ^ y).testBit j = true → O.testBit j = true ∧ ¬ j = x ∧ ¬ j = y := by
    intro j hj
    rw [Nat.testBit_xor, Nat.testBit_xor, dx, dx] at hj
    by_cases q1 : j = x
    · rw [q1, hx, decide_eq_true rfl, decide_eq_false (fun q => hxy q.symm)] at hj
      cases hj
    · by_cases q2 : j = y
      · rw [q2, hy, decide_eq_true (rfl : y = y), decide_eq_false hxy] at hj
        cases hj
      · rw [decide_eq_false (fun q => q1 q.symm), decide_eq_false (fun q => q2 q.symm)] at hj
        exact ⟨by simpa using hj, q1, q2⟩
  have tf : ∀ j, O.testBit j = true → ¬ j = x → ¬ j = y → (O ^^^ 2 ^ x ^^^ 2 ^ y).testBit j = true := by
    intro j h1 h2 h3
    rw [Nat.testBit_xor, Nat.testBit_xor, dx, dx, h1, decide_eq_false (fun q => h2 q.symm), decide_eq_false (fun q => h3 q.symm)]
    rfl
  generalize O ^^^ 2 ^ x ^^^ 2 ^ y = F at c1 c2 ft tf
  have F6 : pcn F = 6 := by omega
  obtain ⟨e, he⟩ := nz_tb (s := F) (fun q => by rw [q, pcn_0] at F6; cases F6)
  obtain ⟨e1, e2, e3⟩ := ft e he
  obtain ⟨Q, q1, q2, q3, q4, q5, q6, q7⟩ := k7_oct hO hx hy hxy hv hz v24 z24 hvz e1 e2 e3
  have ex : ∃ u, F.testBit u = true ∧ Q.testBit u = false := by
    refine Classical.byContradiction fun hno => ?_
    have : pcn F ≤ pcn (Q &&& O) := sub_le fun j hj => by
      rw [Nat.testBit_and, (ft j hj).1, Bool.and_true]
      cases c : Q.testBit j
      · exact absurd ⟨j, hj, c⟩ hno
      · rfl
    omega
  obtain ⟨u, hu, qu⟩ := ex
  obtain ⟨u1, u2, u3⟩ := ft u hu
  obtain ⟨R, r1, r2, r3, r4, r5, r6, r7⟩ := k7_oct hO hx hy hxy hv hz v24 z24 hvz u1 u2 u3
  have sQ := k7_stay hf hk hO hv v24 fv h6 q1 q3 q5 q6 q7
  have sR := k7_stay hf hk hO hv v24 fv h6 r1 r3 r5 r6 r7
  have fQ : Q.testBit (f z) = true := by rw [← sQ, im_at hf z24]; exact q4
  have fR : R.testBit (f z) = true := by rw [← sR, im_at hf z24]; exact r4
  have fz24 := hf.1 z z24
  have fzv : ¬ f z = v := fun q => hvz (hf.2 z v z24 v24 (by rw [q, fv]))
  have fzo : O.testBit (f z) = false := by
    refine Bool.eq_false_iff.mpr fun q => ?_
    have nx : ¬ f z = x := fun e => by rw [e, q5] at fQ; cases fQ
    have ny : ¬ f z = y := fun e => by rw [e, q6] at fQ; cases fQ
    exact hne (hf.2 _ _ fz24 z24 (h6 _ q nx ny))
  -- the two fours in O share two points
  have px := pcn_xa (Q &&& O) (R &&& O)
  have pd := pcn_dis (a := (Q &&& O) ^^^ (R &&& O)) (b := (Q &&& O) &&& (R &&& O)) (fun j h1 h2 => by
    rw [Nat.testBit_xor] at h1
    rw [Nat.testBit_and, Bool.and_eq_true] at h2
    rw [h2.1, h2.2] at h1
    cases h1)
  have pf : pcn (((Q &&& O) ^^^ (R &&& O)) ||| ((Q &&& O) &&& (R &&& O))) ≤ pcn F := sub_le fun j hj => by
    have oo : O.testBit j = true ∧ (Q.testBit j = true ∨ R.testBit j = true) := by
      simp only [Nat.testBit_or, Nat.testBit_xor, Nat.testBit_and] at hj
      revert hj
      cases Q.testBit j <;> cases R.testBit j <;> cases O.testBit j <;> decide
    refine tf j oo.1 (fun q => ?_) (fun q => ?_)
    · rw [q, q5, r5] at oo
      rcases oo.2 with w | w <;> cases w
    · rw [q, q6, r6] at oo
      rcases oo.2 with w | w <;> cases w
  rw [pd.1] at pf
  have two : 2 ≤ pcn ((Q &&& O) &&& (R &&& O)) := by omega
  have nO : ∀ p, O.testBit p = false → ((Q &&& O) &&& (R &&& O)).testBit p = false := fun p hp => by rw [Nat.testBit_and, Nat.testBit_and, hp, Bool.and_false, Bool.false_and]
  have n5 : 5 ≤ pcn (((Q &&& O) &&& (R &&& O)) ||| 2 ^ v ||| 2 ^ z ||| 2 ^ f z) := by
    rw [pcn_new (tb_no (tb_no (nO _ fzo) fzv) hne), pcn_new (tb_no (nO _ hz) hvz), pcn_new (nO _ hv)]
    omega
  have inn : ∀ j, (((Q &&& O) &&& (R &&& O)) ||| 2 ^ v ||| 2 ^ z ||| 2 ^ f z).testBit j = true → Q.testBit j = true ∧ R.testBit j = true := by
    intro j hj
    rcases tb_or2.mp hj with hj | hj
    · rcases tb_or2.mp hj with hj | hj
      · rcases tb_or2.mp hj with hj | hj
        · rw [Nat.testBit_and, Nat.testBit_and, Nat.testBit_and, Bool.and_eq_true, Bool.and_eq_true, Bool.and_eq_true] at hj
          exact ⟨hj.1.1, hj.2.1⟩
        · rw [hj]; exact ⟨q3, r3⟩
      · rw [hj]; exact ⟨q4, r4⟩
    · rw [hj]; exact ⟨fQ, fR⟩
  have eq := io_uni q1 r1 (sub_tb.mpr fun j hj => (inn j hj).1) (sub_tb.mpr fun j hj => (inn j hj).2) n5
  rw [eq, r2] at qu
  cases qu
theorem U_cols : ∀ x, x < 24 → ∀ y, y < 24 → x = y ∨ ∃ k, k < 12 ∧ ¬ (g_U k).testBit x = (g_U k).testBit y := by decide +kernel
theorem U_isw : ∀ k, k < 12 → g_isw (g_U k) := by decide +kernel
/-- K7 -/
theorem k7 (hf : a_pm f) (hk : g_pvb f = true) (hO : g_io O) (hx : O.testBit x = true) (hy : O.testBit y = true) (hxy : ¬ x = y) (hv : O.testBit v = false) (v24 : v < 24) (fv : f v = v) (h6 : ∀ p, O.testBit p = true → ¬ p = x → ¬ p = y → f p = p) : ∀ p, p < 24 → f p = p := by
  have x24 := tb_lt (io_lt hO) hx
  have y24 := tb_lt (io_lt hO) hy
  have rest : ∀ p, p < 24 → ¬ p = x → ¬ p = y → f p = p := fun p hp n1 n2 => by
    cases c : O.testBit p
    · exact k7_out hf hk hO hx hy hxy hv v24 fv h6 hp c
    · exact h6 p c n1 n2
  have fx : f x = x := by
    refine Classical.byContradiction fun hne => ?_
    have fxy : f x = y := by
      refine Classical.byContradiction fun n2 => ?_
      exact hne (hf.2 _ _ (hf.1 x x24) x24 (rest (f x) (hf.1 x x24) hne n2))
    rcases U_cols x x24 y y24 with q | ⟨k, k1, k2⟩
    · exact hxy q
    · have wl := isw_lt (U_isw k k1)
      have w := isw_xor (U_isw k k1) (im_isw hf hk (U_isw k k1))
      have sm : pcn (g_U k ^^^ g_im f (g_U k) 24) ≤ pcn (2 ^ x ||| 2 ^ y) := sub_le fun j hj => by
        have j24 := tb_lt (isw_lt w) hj
        by_cases c1 : j = x
        · rw [c1]; exact tb_or2.mpr (Or.inl (by rw [tb_p2]; exact decide_eq_true rfl))
        · by_cases c2 : j = y
          · exact tb_or2.mpr (Or.inr c2)
          · have := im_at hf (s := g_U k) j24
            rw [rest j j24 c1 c2] at this
            rw [Nat.testBit_xor, this, Bool.xor_self] at hj
            cases hj
      rw [pcn_new (tb_p2n fun q => hxy q.symm), pcn_p2] at sm
      have e := xor_eq0 (isw_small w (by omega))
      have t := im_at hf (s := g_U k) x24
      rw [fxy, ← e] at t
      exact k2 t.symm
  have fy : f y = y := by
    refine Classical.byContradiction fun hne => ?_
    by_cases c : f y = x
    · exact hxy (hf.2 x y x24 y24 (by rw [fx, c]))
    · exact hne (hf.2 _ _ (hf.1 y y24) y24 (rest (f y) (hf.1 y y24) c hne))
  intro p hp
  by_cases c1 : p = x
  · rw [c1, fx]
  · by_cases c2 : p = y
    · rw [c2, fy]
    · exact rest p hp c1 c2
end K8
