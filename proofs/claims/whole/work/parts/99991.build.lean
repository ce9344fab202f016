/-! THE CLASS'S CHAIN: begin, include, buildChain, orderFrom -/
/-- the permutations of w -/
def gs_ (f : Nat → Nat → Nat) (w : Nat) (x : Nat → Nat) : Prop := ∃ m, m < 4 ∧ w.testBit m = true ∧ x = pe_n (f m)
def ch2 (I J : Nat → Nat → Int32) : Prop := ∀ b, ¬ (27 ≤ b ∧ b ≤ 1331) → J b = I b
section BU
variable {d : Nat} {K : Option Value → am_M → Prop} {I : Nat → Nat → Int32} {Lg : Nat → Nat → Int64} {rr : Nat → Nat → Option Nat} {n : Nat} {b : Nat → Nat} {C : c_T} {w f : Nat} {now : a_S}
theorem s_begin (hd : 3 ≤ d) (hf : f < 2 ^ 24) (h : ∀ J, ch2 I J → c_C J (bs f) (t_0 (bs f)) → K none (am_st J Lg rr n)) : am_AC d k_Ch_begin [.ref 26, .int (nI f)] (am_st I Lg rr n) K := by
  obtain ⟨d, rfl, hd1⟩ := s_up hd
  have key2 : ∀ k, k ≤ 24 → ∀ J, ch2 I J → (∀ i, i < 24 → J 27 i = nI (bs f i)) → (∀ j, j < k → J 28 j = nI 1 ∧ J 29 j = nI (2 ^ bs f j) ∧ J 632 j = nI 0 ∧ J (31 + j) 0 = nI (bs f j) ∧ ip J (56 + (24 * j + bs f j)) pe_1) → am_St d k_Ch_begin (am_st I Lg rr n) K 74 [some (.ref 26), some (.int (nI f)), some (.int (nI 24)), some (.int (nI k)), none, none] [] (am_st J Lg rr n) := by
    refine lp_up _ (fun k hk ih => ?_) ?_
    · intro J hJ hb hj
      have e : am_un (nI k) = k := n_un (by omega)
      have bl := (bs_m f).1.1 k hk
      have rk : am_ro 1497 (31 + k) 24 := ch_ro (by omega) (by omega) (by omega)
      refine am_step _ _ _ (b_Ch_begin_74 ⟨fun _ => ?_, fun c => absurd (nI_lt hk (by decide)) c⟩)
      rw [e, n_un (show 0 < 2 ^ 32 by decide)]
      refine ⟨hk, hk, hk, hk, am_obi (RR_30 rr k hk) ⟨hk, am_gi rk.g3 ?_⟩⟩
      rw [rk.n]
      refine ⟨by decide, hk, hk, ?_⟩
      rw [am_sr_off _ _ (show ¬ (27 : Nat) = 632 by decide), am_sr_off _ _ (show ¬ 27 = 31 + k by omega), am_sr_off _ _ (show ¬ (27 : Nat) = 29 by decide), am_sr_off _ _ (show ¬ (27 : Nat) = 28 by decide), am_sr_off _ _ (show ¬ (29 : Nat) = 28 by decide), am_sr_off _ _ (show ¬ 31 + k = 29 by omega), am_sr_off _ _ (show ¬ 31 + k = 28 by omega), am_sr_off _ _ (show ¬ 632 = 31 + k by omega), am_sr_off _ _ (show ¬ (632 : Nat) = 29 by decide), am_sr_off _ _ (show ¬ (632 : Nat) = 28 by decide), hb k hk, n_p2 (by omega)]
      have rb : am_ro 1497 (56 + (24 * k + bs f k)) 24 := ch_ro (by omega) (by omega) (by omega)
      refine s_back (by omega) hk bl ⟨_, rfl, am_step _ _ _ (b_Ch_begin_133 (c_same (by omega) rb fun J2 hJ2 hp2 => ⟨rfl, am_step _ _ _ (b_Ch_begin_136 ?_)⟩))⟩
      rw [nI_add]
      have ef : ∀ c, ¬ c = 56 + (24 * k + bs f k) → ¬ c = 632 → ¬ c = 31 + k → ¬ c = 29 → ¬ c = 28 → J2 c = J c := fun c h1 h2 h3 h4 h5 => by rw [hJ2 c h1, am_sr_off _ _ h2, am_sr_off _ _ h3, am_sr_off _ _ h4, am_sr_off _ _ h5]
      have f28 : J2 28 = am_u1 (J 28) k (nI 1) := by rw [hJ2 _ (by omega), am_sr_off _ _ (by omega), am_sr_off _ _ (by omega), am_sr_off _ _ (by omega), am_sr_at]
      have f29 : J2 29 = am_u1 (J 29) k (nI (2 ^ bs f k)) := by rw [hJ2 _ (by omega), am_sr_off _ _ (by omega), am_sr_off _ _ (by omega), am_sr_at]
      have f31 : J2 (31 + k) = am_u1 (J (31 + k)) 0 (nI (bs f k)) := by rw [hJ2 _ (by omega), am_sr_off _ _ (by omega), am_sr_at]
      have f632 : J2 632 = am_u1 (J 632) k (nI 0) := by rw [hJ2 _ (by omega), am_sr_at]
      refine ih J2 (fun c hc => by rw [ef c (by omega) (by omega) (by omega) (by omega) (by omega), hJ c hc]) (fun i hi => by rw [ef 27 (by omega) (by omega) (by omega) (by omega) (by omega), hb i hi]) fun j hjk => ?_
      by_cases c : j = k
      · rw [c, f28, f29, f31, f632, am_u1_at, am_u1_at, am_u1_at, am_u1_at]
        exact ⟨rfl, rfl, rfl, rfl, hp2⟩
      · obtain ⟨g1, g2, g3, g4, g5⟩ := hj j (by omega)
        have bj := (bs_m f).1.1 j (by omega)
        rw [f28, f29, f632, am_u1_off _ _ c, am_u1_off _ _ c, am_u1_off _ _ c, ef (31 + j) (by omega) (by omega) (by omega) (by omega) (by omega)]
        exact ⟨g1, g2, g3, g4, fun p hp => by rw [ef _ (by omega) (by omega) (by omega) (by omega) (by omega)]; exact g5 p hp⟩
    · intro J hJ hb hj
      refine am_step _ _ _ (b_Ch_begin_74 ⟨fun c => absurd c (by decide), fun _ => h J hJ fun k hk => ?_⟩)
      obtain ⟨g1, g2, g3, g4, g5⟩ := hj k hk
      refine ⟨hb k hk, g1, g2, g3, fun a ha => ?_, fun q hq => ?_, fun a ha => absurd ha (Nat.not_lt_zero a)⟩
      · have ha : a < 1 := ha
        rw [show a = 0 by omega]
        exact g4
      · rw [t0_D.mp hq]
        exact g5
  have key : ∀ k, k ≤ 48 → ∀ J, ch2 I J → (∀ i, i < fi f k → J 27 i = nI (bs f i)) → am_St d k_Ch_begin (am_st I Lg rr n) K 4 [some (.ref 26), some (.int (nI f)), some (.int (nI (fi f k))), some (.int (nI k)), none, none] [] (am_st J Lg rr n) := by
    refine lp_up _ (fun k hk ih => ?_) ?_
    · intro J hJ hb
      have fl := fi_le f k
      have next : ∀ J, ch2 I J → (∀ i, i < fi f (k + 1) → J 27 i = nI (bs f i)) → ∀ v4 v5 : Int32, am_St d k_Ch_begin (am_st I Lg rr n) K 66 [some (.ref 26), some (.int (nI f)), some (.int (nI (fi f (k + 1)))), some (.int (nI k)), some (.int v4), some (.int v5)] [] (am_st J Lg rr n) := fun J hJ hb v4 v5 => by
        refine am_step _ _ _ (b_Ch_begin_66 ?_)
        rw [nI_add]
        exact am_fg (le_same _ (le_same _ (le_same _ (le_same _ (le_int _ (le_int _ le_nil)))))) (ih J hJ hb)
      have go : ∀ s0 : Nat, s0 < 2 → (s0 = 1 ↔ f.testBit (k % 24) = true) → am_St d k_Ch_begin (am_st I Lg rr n) K 31 [some (.ref 26), some (.int (nI f)), some (.int (nI (fi f k))), some (.int (nI k)), some (.int (nI (k % 24))), none] [.int (nI s0)] (am_st J Lg rr n) := fun s0 hs0 hs => by
        have mid : ∀ s1 : Nat, s1 < 2 → (s1 = 1 ↔ k < 24) → am_St d k_Ch_begin (am_st I Lg rr n) K 46 [some (.ref 26), some (.int (nI f)), some (.int (nI (fi f k))), some (.int (nI k)), some (.int (nI (k % 24))), some (.int (nI s0))] [.int (nI s1), .int (nI s0)] (am_st J Lg rr n) := fun s1 hs1 hs2 => by
          refine am_step _ _ _ (b_Ch_begin_46 ⟨fun c => ?_, fun c => ?_⟩)
          · rw [nI_eq (by omega) (by omega)] at c
            have hc : f.testBit (k % 24) = decide (k < 24) := by
              by_cases q : k < 24
              · rw [decide_eq_true q]
                exact hs.mp (c.trans (hs2.mpr q))
              · rw [decide_eq_false q]
                exact Bool.eq_false_iff.mpr fun q2 => q (hs2.mp (c ▸ hs.mpr q2))
            have fa := fi_at hk hc
            have e1 : fi f (k + 1) = fi f k + 1 := by rw [fi_s, if_pos hc]
            refine ⟨fun _ => ?_, fun q => absurd (nI_lt fa.1 (by decide)) q⟩
            rw [n_un (by omega), nI_add, ← e1]
            refine ⟨fa.1, next _ (fun c hc => by rw [am_sr_off _ _ (by omega), hJ c hc]) (fun i hi => ?_) _ _⟩
            rw [am_sr_at]
            by_cases c2 : i = fi f k
            · rw [c2, am_u1_at, fa.2]
            · rw [am_u1_off _ _ c2]
              exact hb i (by omega)
          · have hc : ¬ f.testBit (k % 24) = decide (k < 24) := fun q => c (by
              by_cases q2 : k < 24
              · rw [decide_eq_true q2] at q
                rw [hs.mpr q, hs2.mpr q2]
              · rw [decide_eq_false q2] at q
                have n1 : ¬ s0 = 1 := fun q3 => by
                  rw [hs.mp q3] at q
                  cases q
                have n2 : ¬ s1 = 1 := fun q3 => q2 (hs2.mp q3)
                rw [show s0 = 0 by omega, show s1 = 0 by omega])
            have e1 : fi f (k + 1) = fi f k := by rw [fi_s, if_neg hc]
            have := next J hJ (by rw [e1]; exact hb) (nI (k % 24)) (nI s0)
            rw [e1] at this
            exact this
        refine am_step _ _ _ (b_Ch_begin_31 ⟨fun c => mid 1 (by decide) ⟨fun _ => Nat.lt_of_not_le fun q => absurd c (nI_nlt q (by omega)), fun _ => rfl⟩, fun c => mid 0 (by decide) ⟨fun q => absurd q (by decide), fun q => absurd (nI_lt q (by decide)) c⟩⟩)
      refine am_step _ _ _ (b_Ch_begin_4 ⟨fun _ => ?_, fun c => absurd (nI_lt hk (by decide)) c⟩)
      rw [pk_rem (by omega) (by decide) (by decide)]
      refine ⟨fun c => go 1 (by decide) ⟨fun _ => (n_bit (by omega) (by omega)).mp c, fun _ => rfl⟩, fun c => go 0 (by decide) ⟨fun q => absurd q (by decide), fun q => absurd ((n_bit (by omega) (by omega)).mpr q) c⟩⟩
    · intro J hJ hb
      refine am_step _ _ _ (b_Ch_begin_4 ⟨fun c => absurd c (by decide), fun _ => ?_⟩)
      rw [fi_48] at hb ⊢
      exact key2 0 (by decide) J hJ hb fun j hj => absurd hj (Nat.not_lt_zero j)
  exact am_in _ _ _ (am_step _ _ _ (b_Ch_begin_0 (key 0 (by decide) I (fun _ _ => rfl) fun i hi => absurd hi (Nat.not_lt_zero i))))
theorem s_include {a : Nat} {x : Nat → Nat} (hd : 53 ≤ d) (hC : c_C I b C) (hw : cw b C) (hg : gd b C 24) (ha : am_ro 1497 a 24) (ha2 : 1333 ≤ a) (hx : ip I a x) (xm : pe_m x) (kp : g_pvb x = true) (h : ∀ J C2, ch I J → c_C J b C2 → cw b C2 → gd b C2 24 → (∀ f, t_S C 0 f → t_S C2 0 f) → (∀ f, t_S C2 0 f → t_S C 0 f ∨ f = x) → ge (t_S C2 0) x → K none (am_st J Lg rr n)) : am_AC d k_Ch_include [.ref 26, .ref a] (am_st I Lg rr n) K := by
  obtain ⟨d, rfl, hd1⟩ := s_up hd
  have xf : fx b 0 x := fun j hj => absurd hj (Nat.not_lt_zero j)
  refine am_in _ _ _ (am_step _ _ _ (b_Ch_include_0 (s_contains (k := 0) (by omega) (by decide) hC hw ha hx xm xf (fun hst J hJ => ⟨_, rfl, am_step _ _ _ (b_Ch_include_6 ⟨fun c => absurd c (by decide), fun _ => am_step _ _ _ (b_Ch_include_15 ?_)⟩)⟩) (fun hst J hJ => ⟨_, rfl, am_step _ _ _ (b_Ch_include_6 ⟨fun _ => ?_, fun c => absurd rfl c⟩)⟩))))
  · exact h J C (fun c hc => hJ c (by omega)) (hC.fr hw fun c _ _ => hJ c (by omega)) hw hg (fun _ q => q) (fun _ q => Or.inl q) ((cl_ge hw.1 24 (by decide) hg.1 x).mp hst)
  · refine s_admit (b := b) 23 (by decide) d (by omega) _ J C a x (hC.fr hw fun c _ _ => hJ c (by omega)) hw hg ha (fun p hp => by rw [hJ a (by omega)]; exact hx p hp) xm xf kp hst fun J2 C2 hJ2 hC2 hP => ⟨rfl, am_step _ _ _ (b_Ch_include_15 ?_)⟩
    obtain ⟨p1, p2, p3, p4, p5⟩ := hP
    exact h J2 C2 (fun c hc => by rw [hJ2 c hc, hJ c (by omega)]) hC2 p1 p4 (fun f q => (p5 f).mpr (Or.inl q)) (fun f q => (p5 f).mp q) (ge_of ((p5 x).mpr (Or.inr rfl)))
theorem s_buildChain (hd : 54 ≤ d) (ok : a_ok now) (hc : c_S I 1337 now) (hw : w < 16) (hk : g_ak now.1 w) (hf : f < 2 ^ 24) (h : ∀ J C, ch2 I J → c_C J (bs f) C → cw (bs f) C → (∀ x, st (t_D C) (t_u C) 24 x ↔ ge (gs_ now.1 w) x) → K none (am_st J Lg rr n)) : am_AC d k_X_buildChain [.ref 12, .int (nI w), .int (nI f)] (am_st I Lg rr n) K := by
  obtain ⟨d, rfl, hd1⟩ := s_up hd
  have key : ∀ m, m ≤ 4 → ∀ J C, ch2 I J → c_C J (bs f) C → cw (bs f) C → gd (bs f) C 24 → (∀ x, t_S C 0 x → gs_ now.1 w x) → (∀ i, i < m → w.testBit i = true → ge (t_S C 0) (pe_n (now.1 i))) → am_St d k_X_buildChain (am_st I Lg rr n) K 10 [some (.ref 12), some (.int (nI w)), some (.int (nI f)), some (.int (nI m))] [] (am_st J Lg rr n) := by
    refine lp_up _ (fun m hm ih => ?_) ?_
    · intro J C hJ hC hwC hg h1 h2
      have pm := ok.1 m (by omega)
      refine am_step _ _ _ (b_X_buildChain_10 ⟨fun _ => ⟨fun c => ?_, fun c => ?_⟩, fun c => absurd (nI_lt hm (by decide)) c⟩)
      · rw [n_bit (by omega) (by omega)] at c
        rw [n_un (show m < 2 ^ 32 by omega)]
        refine ⟨by omega, am_obi (RR_now rr m (by omega)) (s_include (by omega) hC hwC hg (ro_now (by omega)) (by omega) (x := pe_n (now.1 m)) (fun p hp => ?_) (pe_n_m pm) (pvb_n (hk m hm c)) fun J2 C2 hJ2 hC2 hw2 hg2 q1 q2 q3 => ⟨rfl, am_step _ _ _ (b_X_buildChain_43 ?_)⟩)⟩
        · rw [hJ _ (by omega), pe_at hp]
          have := hc.1 m (by omega) p hp
          rw [show 1337 + 2 + m = 1339 + m by omega] at this
          exact this
        · rw [nI_add]
          refine ih J2 C2 (fun c hc => by rw [hJ2 c (by omega), hJ c hc]) hC2 hw2 hg2 (fun x hx => ?_) fun i hi hb => ?_
          · rcases q2 x hx with q | q
            · exact h1 x q
            · exact ⟨m, hm, c, q⟩
          · by_cases e : i = m
            · rw [e]
              exact q3
            · exact ge_sub (fun s hs => ge_of (q1 s hs)) (h2 i (by omega) hb)
      · rw [n_bit (by omega) (by omega)] at c
        refine am_step _ _ _ (b_X_buildChain_43 ?_)
        rw [nI_add]
        refine ih J C hJ hC hwC hg h1 fun i hi hb => ?_
        by_cases e : i = m
        · rw [e] at hb
          exact absurd hb c
        · exact h2 i (by omega) hb
    · intro J C hJ hC hwC hg h1 h2
      refine am_step _ _ _ (b_X_buildChain_10 ⟨fun c => absurd c (by decide), fun _ => h J C hJ hC hwC fun x => ?_⟩)
      rw [cl_ge hwC.1 24 (by decide) hg.1 x]
      exact ⟨fun q => ge_sub (fun s hs => ge_of (h1 s hs)) q, fun q => ge_sub (fun s ⟨m, m1, m2, m3⟩ => by rw [m3]; exact h2 m m1 m2) q⟩
  exact am_in _ _ _ (am_step _ _ _ (b_X_buildChain_0 (s_begin (by omega) hf fun J hJ hC => ⟨rfl, am_step _ _ _ (b_X_buildChain_8 (key 0 (by decide) J _ hJ hC (t0_w (bs_m f)) (t0_g (bs_m f)) (fun x hx => absurd hx t0_S) fun i hi => absurd hi (Nat.not_lt_zero i)))⟩)))
theorem s_orderFrom {k : Nat} (hd : 1 ≤ d) (hC : c_C I b C) (hk : k ≤ 24) (h : K (some (.int (nI (pr C.1 (24 - k))))) (am_st I Lg rr n)) : am_AC d k_Ch_orderFrom [.ref 26, .int (nI k)] (am_st I Lg rr n) K := by
  obtain ⟨d, rfl, hd1⟩ := s_up hd
  have key : ∀ j, j ≤ 24 → ∀ c, c * pr C.1 (24 - j) = pr C.1 (24 - k) → am_St d k_Ch_orderFrom (am_st I Lg rr n) K 4 [some (.ref 26), some (.int (nI k)), some (.int (nI c)), some (.int (nI j))] [] (am_st I Lg rr n) := by
    refine lp_up _ (fun j hj ih => ?_) ?_
    · intro c hc
      refine am_step _ _ _ (b_Ch_orderFrom_4 ⟨fun _ => ?_, fun q => absurd (nI_lt hj (by decide)) q⟩)
      rw [n_un (show j < 2 ^ 32 by omega), (hC j hj).2.1, pk_mul, nI_add]
      refine ⟨hj, ih _ ?_⟩
      have e : pr C.1 (24 - j) = C.1 j * pr C.1 (24 - (j + 1)) := by
        rw [show 24 - j = (24 - (j + 1)) + 1 by omega]
        show C.1 (23 - (24 - (j + 1))) * _ = _
        rw [show 23 - (24 - (j + 1)) = j by omega]
      rw [← hc, e, Nat.mul_assoc]
    · intro c hc
      refine am_step _ _ _ (b_Ch_orderFrom_4 ⟨fun q => absurd q (by decide), fun _ => ?_⟩)
      have hc : c * 1 = pr C.1 (24 - k) := hc
      rw [← hc, Nat.mul_one] at h
      exact h
  exact am_in _ _ _ (am_step _ _ _ (b_Ch_orderFrom_0 (key k hk 1 (Nat.one_mul _))))
end BU
