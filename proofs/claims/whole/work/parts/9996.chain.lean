/-! THE CLASS'S CHAIN: what its rows hold; contains, reach -/
/-- sizes, reached, counts of generators, orbits, backs, generators -/
abbrev c_T : Type := (Nat → Nat) × (Nat → Nat) × (Nat → Nat) × (Nat → Nat → Nat) × (Nat → Nat → Nat → Nat) × (Nat → Nat → Nat → Nat)
def t_D (C : c_T) (k q : Nat) : Prop := (C.2.1 k).testBit q = true
noncomputable def t_u (C : c_T) (k q : Nat) : Nat → Nat := pe_i (C.2.2.2.2.1 k q)
def t_S (C : c_T) (k : Nat) (f : Nat → Nat) : Prop := ∃ a, a < C.2.2.1 k ∧ C.2.2.2.2.2 k a = f
def c_C (I : Nat → Nat → Int32) (b : Nat → Nat) (C : c_T) : Prop := ∀ k, k < 24 → I 27 k = nI (b k) ∧ I 28 k = nI (C.1 k) ∧ I 29 k = nI (C.2.1 k) ∧ I 632 k = nI (C.2.2.1 k) ∧ (∀ a, a < C.1 k → I (31 + k) a = nI (C.2.2.2.1 k a)) ∧ (∀ q, t_D C k q → ip I (56 + (24 * k + q)) (C.2.2.2.2.1 k q)) ∧ ∀ a, a < C.2.2.1 k → ip I (634 + (28 * k + a)) (C.2.2.2.2.2 k a)
def cw (b : Nat → Nat) (C : c_T) : Prop := ta b (t_D C) (t_u C) ∧ C.2.2.1 24 = 0 ∧ ∀ k, k < 24 → C.2.1 k < 2 ^ 24 ∧ eo (t_D C k) (C.1 k) (C.2.2.2.1 k) ∧ C.2.2.1 k ≤ 28 ∧ (∀ q, t_D C k q → pe_m (C.2.2.2.2.1 k q) ∧ g_pvb (t_u C k q) = true) ∧ ∀ a, a < C.2.2.1 k → pe_m (C.2.2.2.2.2 k a) ∧ g_pvb (C.2.2.2.2.2 k a) = true
def ch (I J : Nat → Nat → Int32) : Prop := ∀ b, ¬ (28 ≤ b ∧ b ≤ 1331) → J b = I b
theorem c_C.fr {I J : Nat → Nat → Int32} {b : Nat → Nat} {C : c_T} (h : c_C I b C) (hw : cw b C) (hJ : ∀ a, 27 ≤ a → a ≤ 1305 → J a = I a) : c_C J b C := fun k hk => by
  obtain ⟨h1, h2, h3, h4, h5, h6, h7⟩ := h k hk
  obtain ⟨w1, w2, w3, w4, w5⟩ := hw.2.2 k hk
  refine ⟨by rw [hJ 27 (by decide) (by decide), h1], by rw [hJ 28 (by decide) (by decide), h2], by rw [hJ 29 (by decide) (by decide), h3], by rw [hJ 632 (by decide) (by decide), h4], fun a ha => by rw [hJ _ (by omega) (by omega), h5 a ha], fun q hq p hp => ?_, fun a ha p hp => ?_⟩
  · have : q < 24 := ((hw.1.2 k hk).2.2 q hq).1
    rw [hJ _ (by omega) (by omega), h6 q hq p hp]
  · rw [hJ _ (by omega) (by omega), h7 a ha p hp]
noncomputable def t_r (C : c_T) (k q : Nat) (x : Nat → Nat) : c_T := (am_u1 C.1 k (C.1 k + 1), am_u1 C.2.1 k (C.2.1 k ||| 2 ^ q), C.2.2.1, am_u1 C.2.2.2.1 k (am_u1 (C.2.2.2.1 k) (C.1 k) q), am_u1 C.2.2.2.2.1 k (am_u1 (C.2.2.2.2.1 k) q (pe_i x)), C.2.2.2.2.2)
section CN
variable {b : Nat → Nat} {C : c_T} {k q : Nat} {x : Nat → Nat}
theorem tr_D {j p : Nat} : t_D (t_r C k q x) j p ↔ t_D C j p ∨ (j = k ∧ p = q) := by
  unfold t_D t_r
  by_cases c : j = k
  · rw [c]
    simp only []
    rw [am_u1_at, tb_or2]
    exact ⟨fun h => h.elim Or.inl fun e => Or.inr ⟨trivial, e⟩, fun h => h.elim Or.inl fun e => Or.inr e.2⟩
  · simp only []
    rw [am_u1_off _ _ c]
    exact ⟨Or.inl, fun h => h.elim id fun e => absurd e.1 c⟩
theorem tr_u : t_u (t_r C k q x) k q = pe_i (pe_i x) := by
  unfold t_u t_r
  simp only []
  rw [am_u1_at, am_u1_at]
theorem tr_v {j p : Nat} (h : ¬ (j = k ∧ p = q)) : (t_r C k q x).2.2.2.2.1 j p = C.2.2.2.2.1 j p := by
  unfold t_r
  simp only []
  by_cases c : j = k
  · rw [c, am_u1_at, am_u1_off _ _ (fun e => h ⟨c, e⟩)]
  · rw [am_u1_off _ _ c]
theorem tr_w (hw : cw b C) (hk : k < 24) (xm : pe_m x) (xf : fx b k x) (xq : x (b k) = q) (kp : g_pvb x = true) (hq : ¬ t_D C k q) : cw b (t_r C k q x) := by
  obtain ⟨h1, h2, h3⟩ := hw
  have q24 : q < 24 := by rw [← xq]; exact xm.1.1 _ (h1.1.1 k hk)
  have old : ∀ j p, t_D C j p → t_u (t_r C k q x) j p = t_u C j p := fun j p h => congrArg pe_i (tr_v fun e => by
    rw [e.1, e.2] at h
    exact hq h)
  refine ⟨⟨h1.1, fun j hj => ⟨tr_D.mpr (Or.inl (h1.2 j hj).1), by rw [old _ _ (h1.2 j hj).1]; exact (h1.2 j hj).2.1, fun p hp => ?_⟩⟩, h2, fun j hj => ?_⟩
  · rcases tr_D.mp hp with hp | ⟨e1, e2⟩
    · rw [old _ _ hp]
      exact (h1.2 j hj).2.2 p hp
    · rw [e1, e2, tr_u, pe_ii xm]
      exact ⟨q24, xm, xq, xf⟩
  · obtain ⟨a1, a2, a3, a4, a5⟩ := h3 j hj
    refine ⟨?_, ?_, a3, fun p hp => ?_, a5⟩
    · unfold t_r
      simp only []
      by_cases c : j = k
      · rw [c, am_u1_at]
        exact Nat.or_lt_two_pow (h3 k hk).1 (Nat.pow_lt_pow_right (by decide) q24)
      · rw [am_u1_off _ _ c]
        exact a1
    · by_cases c : j = k
      · rw [c] at a2 ⊢
        have e1 : (t_r C k q x).1 k = C.1 k + 1 := am_u1_at _ _ _
        have e2 : (t_r C k q x).2.2.2.1 k = am_u1 (C.2.2.2.1 k) (C.1 k) q := am_u1_at _ _ _
        rw [e1, e2]
        refine ⟨fun a ha => ?_, fun a e ha he h => ?_, fun p hp => ?_⟩
        · by_cases c2 : a = C.1 k
          · rw [c2, am_u1_at]
            exact tr_D.mpr (Or.inr ⟨rfl, rfl⟩)
          · rw [am_u1_off _ _ c2]
            exact tr_D.mpr (Or.inl (a2.1 a (by omega)))
        · by_cases c2 : a = C.1 k
          · by_cases c3 : e = C.1 k
            · rw [c2, c3]
            · rw [c2, am_u1_at, am_u1_off _ _ c3] at h
              exact absurd (h ▸ a2.1 e (by omega)) hq
          · by_cases c3 : e = C.1 k
            · rw [c3, am_u1_at, am_u1_off _ _ c2] at h
              exact absurd (h ▸ a2.1 a (by omega)) hq
            · rw [am_u1_off _ _ c2, am_u1_off _ _ c3] at h
              exact a2.2.1 a e (by omega) (by omega) h
        · rcases tr_D.mp hp with hp | ⟨_, e⟩
          · obtain ⟨a, b1, b2⟩ := a2.2.2 p hp
            exact ⟨a, by omega, by rw [am_u1_off _ _ (by omega), b2]⟩
          · exact ⟨C.1 k, by omega, by rw [am_u1_at, e]⟩
      · have e1 : (t_r C k q x).1 j = C.1 j := am_u1_off _ _ c
        have e2 : (t_r C k q x).2.2.2.1 j = C.2.2.2.1 j := am_u1_off _ _ c
        rw [e1, e2]
        exact ⟨fun a ha => tr_D.mpr (Or.inl (a2.1 a ha)), a2.2.1, fun p hp => a2.2.2 p ((tr_D.mp hp).elim id fun e => absurd e.1 c)⟩
    · rcases tr_D.mp hp with hp | ⟨e1, e2⟩
      · rw [old _ _ hp, tr_v fun e => by
          rw [e.1, e.2] at hp
          exact hq hp]
        exact a4 p hp
      · rw [e1, e2, tr_u, pe_ii xm]
        refine ⟨?_, kp⟩
        have : (t_r C k q x).2.2.2.2.1 k q = pe_i x := by
          unfold t_r
          simp only []
          rw [am_u1_at, am_u1_at]
        rw [this]
        exact pe_i_m xm
end CN
section CM
variable {d : Nat} {K : Option Value → am_M → Prop} {I : Nat → Nat → Int32} {Lg : Nat → Nat → Int64} {rr : Nat → Nat → Option Nat} {n : Nat} {b : Nat → Nat} {C : c_T} {k q a : Nat} {x : Nat → Nat}
theorem s_contains (hd : 4 ≤ d) (hk : k ≤ 24) (hC : c_C I b C) (hw : cw b C) (ha : am_ro 1497 a 24) (hx : ip I a x) (xm : pe_m x) (xf : fx b k x) (h1 : st (t_D C) (t_u C) (24 - k) x → ∀ J, nb1 I J 1331 → K (some (.int (nI 1))) (am_st J Lg rr n)) (h0 : ¬ st (t_D C) (t_u C) (24 - k) x → ∀ J, nb1 I J 1331 → K (some (.int (nI 0))) (am_st J Lg rr n)) : am_AC d k_Ch_contains [.ref 26, .int (nI k), .ref a] (am_st I Lg rr n) K := by
  obtain ⟨d, rfl, hd1⟩ := s_up hd
  have rp : am_ro 1497 1331 24 := ⟨rfl, rfl, by decide, by decide⟩
  have key : ∀ j, j ≤ 24 → k ≤ j → ∀ y J, nb1 I J 1331 → ip J 1331 y → pe_m y → fx b j y → (st (t_D C) (t_u C) (24 - k) x ↔ st (t_D C) (t_u C) (24 - j) y) → am_St d k_Ch_contains (am_st I Lg rr n) K 10 [some (.ref 26), some (.int (nI k)), some (.ref a), some (.int (nI j)), none] [] (am_st J Lg rr n) := by
    refine lp_up _ (fun j hj ih => ?_) ?_
    · intro hkj y J hJ hy ym yf hst
      have hCJ : c_C J b C := hC.fr hw fun c _ _ => hJ c (by omega)
      obtain ⟨r1, r2, r3, r4, r5, r6, r7⟩ := hCJ j hj
      obtain ⟨w1, w2, w3, w4, w5⟩ := hw.2.2 j hj
      have bl := hw.1.1.1 j hj
      have yl := ym.1.1 _ bl
      have e : am_un (nI j) = j := n_un (by omega)
      have sf := st_sift hw.1 (n := 23 - j) (by omega) (f := y)
      rw [show 23 - j + 1 = 24 - j by omega, show 23 - (23 - j) = j by omega] at sf
      refine am_step _ _ _ (b_Ch_contains_10 ⟨fun _ => ?_, fun c => absurd (nI_lt hj (by decide)) c⟩)
      rw [e, r1]
      refine ⟨hj, s_Mo_to (by omega) rp bl (hy _ bl) ⟨_, rfl, am_step _ _ _ (b_Ch_contains_29 (s_isReached (by omega) hj yl r3 w1 (fun ht => ⟨_, rfl, am_step _ _ _ (b_Ch_contains_38 ⟨fun c => absurd c (by decide), fun _ => ?_⟩)⟩) (fun ht => ⟨_, rfl, am_step _ _ _ (b_Ch_contains_38 ⟨fun _ => ?_, fun c => absurd rfl c⟩)⟩)))⟩⟩
      · rw [e, r1]
        refine ⟨hj, fun c => ?_, fun c => ?_⟩
        · rw [nI_eq (by omega) (by omega)] at c
          refine am_step _ _ _ (b_Ch_contains_68 ?_)
          rw [nI_add]
          refine am_fg (le_same _ (le_same _ (le_same _ (le_same _ (le_int _ le_nil))))) (ih (by omega) y J hJ hy ym (fx_s yf c) ?_)
          rw [hst, sf, c, (hw.1.2 j hj).2.1, pe_i1, show 24 - (j + 1) = 23 - j by omega]
          exact ⟨fun h => h.2, fun h => ⟨(hw.1.2 j hj).1, h⟩⟩
        · rw [nI_eq (by omega) (by omega)] at c
          refine s_back (by omega) hj yl ⟨_, rfl, am_step _ _ _ (b_Ch_contains_65 (c_follow (by omega) rp (ch_ro (by omega) (by omega) (by omega)) (by omega) hy ym.1.1 (r6 _ ht) fun J2 hJ2 hp2 => ⟨rfl, am_step _ _ _ (b_Ch_contains_68 ?_)⟩))⟩
          rw [nI_add]
          have vm := (w4 _ ht).1
          have um := ((hw.1.2 j hj).2.2 _ ht)
          have ve : pe_i (t_u C j (y (b j))) = C.2.2.2.2.1 j (y (b j)) := pe_ii vm
          refine am_fg (le_same _ (le_same _ (le_same _ (le_same _ (le_int _ le_nil))))) (ih (by omega) _ J2 (fun c hc => by rw [hJ2 c hc, hJ c hc]) hp2 (pe_c_m vm ym) (fx_s (fx_c ?_ yf) ?_) ?_)
          · rw [← ve]
            exact fx_i um.2.1 um.2.2.2
          · show C.2.2.2.2.1 j (y (b j)) (y (b j)) = b j
            rw [← ve]
            exact pe_inj um.2.1 (by rw [pe_i_r um.2.1, um.2.2.1])
          · rw [hst, sf, ve, show 24 - (j + 1) = 23 - j by omega]
            exact ⟨fun h => h.2, fun h => ⟨ht, h⟩⟩
      · exact h0 (fun h => ht (sf.mp (hst.mp h)).1) J hJ
    · intro hkj y J hJ hy ym yf hst
      refine am_step _ _ _ (b_Ch_contains_10 ⟨fun c => absurd c (by decide), fun _ => h1 (hst.mpr ?_) J hJ⟩)
      exact fx_1 hw.1.1 ym yf
  refine am_in _ _ _ (am_step _ _ _ (b_Ch_contains_0 (c_assign (by omega) rp ha hx fun J hJ hp => ⟨rfl, am_step _ _ _ (b_Ch_contains_8 (key k hk (Nat.le_refl _) x J hJ hp xm xf Iff.rfl))⟩)))
theorem s_reach (hd : 3 ≤ d) (hk : k < 24) (hC : c_C I b C) (hw : cw b C) (ha : am_ro 1497 a 24) (ha2 : 1306 ≤ a) (hx : ip I a x) (xm : pe_m x) (xf : fx b k x) (xq : x (b k) = q) (kp : g_pvb x = true) (hq : ¬ t_D C k q) (h : ∀ J, ch I J → c_C J b (t_r C k q x) → cw b (t_r C k q x) → K none (am_st J Lg rr n)) : am_AC d k_Ch_reach [.ref 26, .int (nI k), .int (nI q), .ref a] (am_st I Lg rr n) K := by
  obtain ⟨d, rfl, hd1⟩ := s_up hd
  have w2 := tr_w hw hk xm xf xq kp hq
  have q24 : q < 24 := by rw [← xq]; exact xm.1.1 _ (hw.1.1.1 k hk)
  have bd := s_bd w2.1 hk (w2.2.2 k hk).2.1
  have e1 : (t_r C k q x).1 k = C.1 k + 1 := am_u1_at _ _ _
  rw [e1] at bd
  obtain ⟨r1, r2, r3, r4, r5, r6, r7⟩ := hC k hk
  have e : am_un (nI k) = k := n_un (by omega)
  have rk : am_ro 1497 (31 + k) 24 := ch_ro (by omega) (by omega) (by omega)
  have rl := (hw.2.2 k hk).1
  refine am_in _ _ _ (am_step _ _ _ (b_Ch_reach_0 ?_))
  rw [e, r2, n_un (show C.1 k < 2 ^ 32 by omega)]
  refine ⟨hk, fun _ => ⟨hk, am_obi (RR_30 rr k hk) ⟨hk, am_gi rk.g3 ?_⟩⟩, fun c => absurd (nI_lt (show C.1 k < 24 by omega) (by decide)) c⟩
  rw [rk.n]
  refine ⟨by omega, hk, hk, hk, hk, ?_⟩
  rw [am_sr_off _ _ (show ¬ (29 : Nat) = 28 by decide), am_sr_off _ _ (show ¬ 28 = 31 + k by omega), am_sr_off _ _ (show ¬ 29 = 31 + k by omega), r2, r3, n_p2 (by omega), n_or, nI_add]
  have hfr : ∀ c, ¬ c = 31 + k → ¬ c = 28 → ¬ c = 29 → am_sr (am_sr (am_sr I (31 + k) (am_u1 (I (31 + k)) (C.1 k) (nI q))) 28 (am_u1 (I 28) k (nI (C.1 k + 1)))) 29 (am_u1 (I 29) k (nI (C.2.1 k ||| 2 ^ q))) c = I c := fun c h1 h2 h3 => by rw [am_sr_off _ _ h3, am_sr_off _ _ h2, am_sr_off _ _ h1]
  refine s_back (by omega) hk q24 ⟨_, rfl, am_step _ _ _ (b_Ch_reach_55 (c_invert (by omega) ha (ch_ro (by omega) (by omega) (by omega)) (by omega) xm (fun p hp => by rw [hfr _ (by omega) (by omega) (by omega)]; exact hx p hp) fun J hJ hpi => ⟨rfl, am_step _ _ _ (b_Ch_reach_58 (h J (fun c hc => ?_) (fun j hj => ?_) w2))⟩))⟩
  · rw [hJ c (by omega), hfr c (by omega) (by omega) (by omega)]
  · obtain ⟨s1, s2, s3, s4, s5, s6, s7⟩ := hC j hj
    have jf : ∀ c, ¬ c = 56 + (24 * k + q) → ¬ c = 31 + k → ¬ c = 28 → ¬ c = 29 → J c = I c := fun c h0 h1 h2 h3 => by rw [hJ c h0, hfr c h1 h2 h3]
    have j28 : J 28 = am_u1 (I 28) k (nI (C.1 k + 1)) := by rw [hJ _ (by omega), am_sr_off _ _ (by decide), am_sr_at]
    have j29 : J 29 = am_u1 (I 29) k (nI (C.2.1 k ||| 2 ^ q)) := by rw [hJ _ (by omega), am_sr_at]
    have j31 : J (31 + k) = am_u1 (I (31 + k)) (C.1 k) (nI q) := by rw [hJ _ (by omega), am_sr_off _ _ (by omega), am_sr_off _ _ (by omega), am_sr_at]
    have w5 := (hw.2.2 j hj).2.2.1
    refine ⟨by rw [jf _ (by omega) (by omega) (by omega) (by omega), s1], ?_, ?_, by rw [jf _ (by omega) (by omega) (by omega) (by omega), s4]; rfl, fun i hi => ?_, fun p hp => ?_, fun i hi p hp => ?_⟩
    · by_cases c : j = k
      · rw [c, j28, am_u1_at, e1]
      · rw [j28, am_u1_off _ _ c, s2]
        exact congrArg nI (am_u1_off _ _ c).symm
    · by_cases c : j = k
      · rw [c, j29, am_u1_at]
        exact congrArg nI (am_u1_at _ _ _).symm
      · rw [j29, am_u1_off _ _ c, s3]
        exact congrArg nI (am_u1_off _ _ c).symm
    · by_cases c : j = k
      · rw [c] at hi ⊢
        rw [e1] at hi
        have e2 : (t_r C k q x).2.2.2.1 k = am_u1 (C.2.2.2.1 k) (C.1 k) q := am_u1_at _ _ _
        rw [j31, e2]
        by_cases c2 : i = C.1 k
        · rw [c2, am_u1_at, am_u1_at]
        · rw [am_u1_off _ _ c2, am_u1_off _ _ c2]
          exact r5 i (by omega)
      · have e2 : (t_r C k q x).2.2.2.1 j = C.2.2.2.1 j := am_u1_off _ _ c
        have e3 : (t_r C k q x).1 j = C.1 j := am_u1_off _ _ c
        rw [e3] at hi
        rw [jf _ (by omega) (by omega) (by omega) (by omega), e2, s5 i hi]
    · by_cases c : j = k ∧ p = q
      · rw [c.1, c.2]
        have : (t_r C k q x).2.2.2.2.1 k q = pe_i x := by
          unfold t_r
          simp only []
          rw [am_u1_at, am_u1_at]
        rw [this]
        exact hpi
      · have hp0 : t_D C j p := (tr_D.mp hp).elim id fun e => absurd e c
        have p24 := ((hw.1.2 j hj).2.2 p hp0).1
        rw [tr_v c]
        intro y hy
        rw [jf _ (by omega) (by omega) (by omega) (by omega), s6 p hp0 y hy]
    · have hi : i < C.2.2.1 j := hi
      rw [jf _ (by omega) (by omega) (by omega) (by omega), s7 i hi p hp]
      rfl
end CM
