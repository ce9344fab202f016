/-! THE MODEL'S TABLE: bases, stands, builds, manyFrom -/
/-- what the table is between two calls -/
def g_G (I : Nat → Nat → Int32) : Prop := I 1469 21 = am_k (-1) ∨ ∃ (w f : Nat) (fn : Nat → Nat → Nat) (T : m_Tt), w < 16 ∧ f < 2 ^ 24 ∧ I 1469 21 = nI w ∧ I 1469 22 = nI f ∧ (∀ m, m < 4 → (∀ p, p < 24 → fn m p < 24) ∧ ∀ p, p < 24 → I 1485 (24 * m + p) = nI (fn m p)) ∧ m_C I (bs f) T ∧ mw (bs f) T ∧ ∀ x, st (mt_D (bs f) T) (mt_u T) 24 x ↔ ge (gs_ fn w) x
theorem g_G_fr : g_fr g_G := by
  intro I I' h1 h2 h3 h4 h
  rcases h with h | ⟨w, f, fn, T, a1, a2, a3, a4, a5, ⟨b1, b2, b3, b4⟩, a7, a8⟩
  · exact Or.inl (by rw [h3, h])
  · refine Or.inr ⟨w, f, fn, T, a1, a2, by rw [h3, a3], by rw [h4, a4], fun m hm => ⟨(a5 m hm).1, fun p hp => by rw [h1 1485 (by omega), (a5 m hm).2 p hp]⟩, ⟨by rw [h2, b1], fun k hk => by rw [h1 1480 (by omega), b2 k hk], fun k q hk hq => by rw [h1 1481 (by omega), b3 k q hk hq], fun e he => ⟨by rw [h1 1483 (by omega), (b4 e he).1], fun p hp => by rw [h1 1482 (by omega), (b4 e he).2 p hp]⟩⟩, a7, a8⟩
def bF (I J : Nat → Nat → Int32) : Prop := (∀ c, ¬ (1479 ≤ c ∧ c ≤ 1485) → ¬ c = 1469 → J c = I c) ∧ ∀ j, ¬ j = 19 → ¬ j = 21 → ¬ j = 22 → J 1469 j = I 1469 j
section BM
variable {d : Nat} {K : Option Value → am_M → Prop} {I : Nat → Nat → Int32} {Lg : Nat → Nat → Int64} {rr : Nat → Nat → Option Nat} {n : Nat} {b : Nat → Nat} {T : m_Tt} {w f : Nat} {now : a_S}
theorem s_bases (hd : 2 ≤ d) (hf : f < 2 ^ 24) (h : ∀ J, nb1 I J 1480 → (∀ k, k < 24 → J 1480 k = nI (bs f k)) → K none (am_st J Lg rr n)) : am_AC d k_M_bases [.ref 1469, .int (nI f)] (am_st I Lg rr n) K := by
  obtain ⟨d, rfl, hd1⟩ := s_up hd
  have key : ∀ k, k ≤ 48 → ∀ J, nb1 I J 1480 → (∀ i, i < fi f k → J 1480 i = nI (bs f i)) → am_St d k_M_bases (am_st I Lg rr n) K 4 [some (.ref 1469), some (.int (nI f)), some (.int (nI (fi f k))), some (.int (nI k))] [] (am_st J Lg rr n) := by
    refine lp_up _ (fun k hk ih => ?_) ?_
    · intro J hJ hb
      have fl := fi_le f k
      have yes : f.testBit (k % 24) = decide (k < 24) → am_un (nI (fi f k)) < 24 ∧ am_St d k_M_bases (am_st I Lg rr n) K 4 [some (.ref 1469), some (.int (nI f)), some (.int (nI (fi f k) + nI 1)), some (.int (nI k + nI 1))] [] (am_st (am_sr J 1480 (am_u1 (J 1480) (am_un (nI (fi f k))) (nI (k % 24)))) Lg rr n) := fun hc => by
        have fa := fi_at hk hc
        have e1 : fi f (k + 1) = fi f k + 1 := by rw [fi_s, if_pos hc]
        rw [n_un (show fi f k < 2 ^ 32 by omega), nI_add, nI_add, ← e1]
        refine ⟨fa.1, ih _ (fun c hc => by rw [am_sr_off _ _ hc, hJ c hc]) fun i hi => ?_⟩
        rw [am_sr_at]
        by_cases c2 : i = fi f k
        · rw [c2, am_u1_at, fa.2]
        · rw [am_u1_off _ _ c2]
          exact hb i (by omega)
      have no : ¬ f.testBit (k % 24) = decide (k < 24) → am_St d k_M_bases (am_st I Lg rr n) K 4 [some (.ref 1469), some (.int (nI f)), some (.int (nI (fi f k))), some (.int (nI k + nI 1))] [] (am_st J Lg rr n) := fun hc => by
        have e1 : fi f (k + 1) = fi f k := by rw [fi_s, if_neg hc]
        have := ih J hJ (by rw [e1]; exact hb)
        rw [e1] at this
        rw [nI_add]
        exact this
      refine am_step _ _ _ (b_M_bases_4 ⟨fun _ => ?_, fun c => absurd (nI_lt hk (by decide)) c⟩)
      rw [pk_rem (by omega) (by decide) (by decide)]
      refine s_has (by omega) ⟨_, rfl, am_step _ _ _ (b_M_bases_18 ?_)⟩
      rw [pk_rem (by omega) (by decide) (by decide), m_has_n (by omega) (by omega)]
      refine ⟨fun c => ?_, fun c => ?_⟩
      · have k24 : k < 24 := Nat.lt_of_not_le fun q => absurd c (nI_nlt q (by omega))
        rw [decide_eq_true k24] at yes no
        by_cases q : f.testBit (k % 24) = true
        · rw [if_pos q]
          exact ⟨fun _ => yes q, fun q2 => absurd rfl q2⟩
        · rw [if_neg q]
          exact ⟨fun q2 => absurd q2 (by decide), fun _ => no q⟩
      · have k24 : ¬ k < 24 := fun q => c (nI_lt q (by decide))
        rw [decide_eq_false k24] at yes no
        by_cases q : f.testBit (k % 24) = true
        · rw [if_pos q]
          exact ⟨fun q2 => absurd q2 (by decide), fun _ => no (by rw [q]; decide)⟩
        · rw [if_neg q]
          exact ⟨fun _ => yes (Bool.eq_false_iff.mpr q), fun q2 => absurd rfl q2⟩
    · intro J hJ hb
      refine am_step _ _ _ (b_M_bases_4 ⟨fun c => absurd c (by decide), fun _ => h J hJ ?_⟩)
      rw [fi_48] at hb
      exact hb
  exact am_in _ _ _ (am_step _ _ _ (b_M_bases_0 (key 0 (by decide) I (fun _ _ => rfl) fun i hi => absurd hi (Nat.not_lt_zero i))))
theorem s_stands (hd : 1 ≤ d) (h1 : I 1469 21 = nI w → I 1469 22 = nI f → (∀ k, k < 96 → I 1485 k = I 1470 k) → K (some (.int (nI 1))) (am_st I Lg rr n)) (h0 : K (some (.int (nI 0))) (am_st I Lg rr n)) : am_AC d k_M_stands [.ref 1469, .int (nI w), .int (nI f)] (am_st I Lg rr n) K := by
  obtain ⟨d, rfl, hd1⟩ := s_up hd
  have bad : ∀ v4 : Int32, am_St d k_M_stands (am_st I Lg rr n) K 25 [some (.ref 1469), some (.int (nI w)), some (.int (nI f)), some (.int (nI 0)), some (.int v4)] [] (am_st I Lg rr n) := fun v4 => am_step _ _ _ (b_M_stands_25 ⟨fun _ => ⟨fun _ => h0, fun c => absurd rfl c⟩, fun _ => h0⟩)
  have key : I 1469 21 = nI w → I 1469 22 = nI f → ∀ k, k ≤ 96 → (∀ j, j < k → I 1485 j = I 1470 j) → am_St d k_M_stands (am_st I Lg rr n) K 25 [some (.ref 1469), some (.int (nI w)), some (.int (nI f)), some (.int (nI 1)), some (.int (nI k))] [] (am_st I Lg rr n) := by
    intro e1 e2
    refine lp_up _ (fun k hk ih => ?_) ?_
    · intro hj
      refine am_step _ _ _ (b_M_stands_25 ⟨fun _ => ⟨fun c => absurd c (by decide), fun _ => ?_⟩, fun c => absurd (nI_lt hk (by decide)) c⟩)
      rw [n_un (show k < 2 ^ 32 by omega), nI_add]
      refine ⟨hk, by omega, fun c => ih fun j hjk => ?_, fun _ => bad _⟩
      by_cases q : j = k
      · rw [q, c]
      · exact hj j (by omega)
    · intro hj
      exact am_step _ _ _ (b_M_stands_25 ⟨fun c => absurd c (by decide), fun _ => h1 e1 e2 hj⟩)
  exact am_in _ _ _ (am_step _ _ _ (b_M_stands_0 ⟨fun e1 => ⟨fun e2 => key e1 e2 0 (by decide) fun j hj => absurd hj (Nat.not_lt_zero j), fun _ => bad _⟩, fun _ => bad _⟩))
/-- while the table is made -/
def bI (I J : Nat → Nat → Int32) (S : (Nat → Nat) → Prop) (w f : Nat) (T : m_Tt) : Prop := bF I J ∧ J 1469 21 = nI w ∧ J 1469 22 = nI f ∧ (∀ k, k < 96 → J 1485 k = I 1470 k) ∧ m_C J (bs f) T ∧ mw (bs f) T ∧ ∀ e, e < T.1 → ge S (T.2.2.2 e)
theorem bI.ad {J J2 : Nat → Nat → Int32} {S : (Nat → Nat) → Prop} {T2 : m_Tt} (h : bI I J S w f T) (hJ : adF J J2) (hC : m_C J2 (bs f) T2) (hw : mw (bs f) T2) (hU : ∀ e, e < T2.1 → ge S (T2.2.2.2 e)) : bI I J2 S w f T2 := by
  obtain ⟨a1, a2, a3, a4, a5, a6, a7⟩ := h
  exact ⟨⟨fun c h1 h2 => by rw [hJ.1 c (by omega) (by omega) (by omega) (by omega) (by omega) h2, a1.1 c h1 h2], fun j h1 h2 h3 => by rw [hJ.2 j h1, a1.2 j h1 h2 h3]⟩, by rw [hJ.2 21 (by decide), a2], by rw [hJ.2 22 (by decide), a3], fun k hk => by rw [hJ.1 1485 (by decide) (by decide) (by decide) (by decide) (by decide) (by decide), a4 k hk], hC, hw, hU⟩
theorem s_builds (hd : 6 ≤ d) (ok : a_ok now) (hm : m_S (I 1470) 0 now) (hw : w < 16) (hk : g_ak now.1 w) (hf : f < 2 ^ 24) (hG : g_G I) (h : ∀ J T, bF I J → g_G J → m_C J (bs f) T → mw (bs f) T → (∀ x, st (mt_D (bs f) T) (mt_u T) 24 x ↔ ge (gs_ now.1 w) x) → K none (am_st J Lg rr n)) : am_AC d k_M_builds [.ref 1469, .int (nI w), .int (nI f)] (am_st I Lg rr n) K := by
  obtain ⟨d, rfl, hd1⟩ := s_up hd
  have fl : ∀ m, m < 4 → ∀ p, p < 24 → now.1 m p < 24 := fun m hm => (ok.1 m (by omega)).1
  have eI : ∀ m, m < 4 → ∀ p, p < 24 → I 1470 (24 * m + p) = nI (now.1 m p) := fun m hm4 p hp => now_m hm (by omega) p hp
  have sm : ∀ s, gs_ now.1 w s → pe_m s := fun s ⟨m, m1, _, m3⟩ => by
    rw [m3]
    exact pe_n_m (ok.1 m (by omega))
  have mono : ∀ T T2, mw (bs f) T → mw (bs f) T2 → mx T T2 → ∀ x, st (mt_D (bs f) T) (mt_u T) 24 x → st (mt_D (bs f) T2) (mt_u T2) 24 x := fun T T2 h1 h2 h3 x hx => st_mono (mx_st h1 h2 h3) 24 (Nat.le_refl _) x hx
  have fin : ∀ J T, bI I J (gs_ now.1 w) w f T → (∀ i, i < 4 → w.testBit i = true → st (mt_D (bs f) T) (mt_u T) 24 (pe_n (now.1 i))) → (∀ a c, a < T.1 → c < T.1 → T.2.1 a ≤ T.2.1 c → st (mt_D (bs f) T) (mt_u T) 24 (pe_c (T.2.2.2 c) (T.2.2.2 a))) → K none (am_st J Lg rr n) := fun J T hI hS hp => by
    obtain ⟨a1, a2, a3, a4, a5, a6, a7⟩ := hI
    have e := mt_group a6 (S := gs_ now.1 w) (fun s ⟨m, m1, m2, m3⟩ => by rw [m3]; exact hS m m1 m2) a7 hp
    exact h J T a1 (Or.inr ⟨w, f, now.1, T, hw, hf, a2, a3, fun m hm4 => ⟨fl m hm4, fun p hp => by rw [a4 _ (by omega), eI m hm4 p hp]⟩, a5, a6, e⟩) a5 a6 e
  have outer : ∀ e, e ≤ 124 → ∀ J T, bI I J (gs_ now.1 w) w f T → (∀ i, i < 4 → w.testBit i = true → st (mt_D (bs f) T) (mt_u T) 24 (pe_n (now.1 i))) → (∀ a c, a < T.1 → c < T.1 → a < e → c < e → T.2.1 a ≤ T.2.1 c → st (mt_D (bs f) T) (mt_u T) 24 (pe_c (T.2.2.2 c) (T.2.2.2 a))) → am_St d k_M_builds (am_st I Lg rr n) K 140 [some (.ref 1469), some (.int (nI w)), some (.int (nI f)), some (.int (nI e)), none] [] (am_st J Lg rr n) := by
    refine lp_up _ (fun e he ih => ?_) ?_
    · intro J T hI hS hp
      have N124 := mw_124 hI.2.2.2.2.2.1
      refine am_step _ _ _ (b_M_builds_140 ?_)
      rw [hI.2.2.2.2.1.1]
      refine ⟨fun c => ?_, fun c => fin J T hI hS fun a c2 h1 h2 h3 => ?_⟩
      · have heN : e < T.1 := Nat.lt_of_not_le fun q => absurd c (nI_nlt q (by omega))
        have inner : ∀ g, g ≤ e + 1 → ∀ J T, bI I J (gs_ now.1 w) w f T → e < T.1 → (∀ i, i < 4 → w.testBit i = true → st (mt_D (bs f) T) (mt_u T) 24 (pe_n (now.1 i))) → (∀ a c, a < T.1 → c < T.1 → ((a < e ∧ c < e) ∨ (a = e ∧ c < g) ∨ (c = e ∧ a < g)) → T.2.1 a ≤ T.2.1 c → st (mt_D (bs f) T) (mt_u T) 24 (pe_c (T.2.2.2 c) (T.2.2.2 a))) → am_St d k_M_builds (am_st I Lg rr n) K 151 [some (.ref 1469), some (.int (nI w)), some (.int (nI f)), some (.int (nI e)), some (.int (nI g))] [] (am_st J Lg rr n) := by
          refine lp_up _ (fun g hg ih2 => ?_) ?_
          · intro J T hI heN hS hp
            refine am_step _ _ _ (b_M_builds_151 ⟨fun c => absurd c (nI_nlt (show g ≤ e by omega) (by omega)), fun _ => s_tries (by omega) hI.2.2.2.2.1 hI.2.2.2.2.2.1 heN (show g < T.1 by omega) fun J2 T2 q1 q2 q3 q4 q5 q6 => ⟨rfl, am_step _ _ _ (b_M_builds_164 ?_)⟩⟩)
            have hI2 := hI.ad q1 q2 q3 (q6 _ sm hI.2.2.2.2.2.2)
            have N2 := q4.1
            refine s_tries (by omega) q2 q3 (show g < T2.1 by omega) (show e < T2.1 by omega) fun J3 T3 r1 r2 r3 r4 r5 r6 => ⟨rfl, am_step _ _ _ (b_M_builds_171 ?_)⟩
            rw [nI_add]
            have x3 := mx_t q4 r4
            have w1 := hI.2.2.2.2.2.1
            refine ih2 J3 T3 (hI2.ad r1 r2 r3 (r6 _ sm hI2.2.2.2.2.2.2)) (Nat.lt_of_lt_of_le heN x3.1) (fun i h1 h2 => mono T T3 w1 r3 x3 _ (hS i h1 h2)) fun a c h1 h2 h3 h4 => ?_
            have aT : a < T.1 := by omega
            have cT : c < T.1 := by omega
            have xa := x3.2.1 a aT
            have xc := x3.2.1 c cT
            rw [xa.2, xc.2]
            rw [xa.1, xc.1] at h4
            by_cases p1 : a = e ∧ c = g
            · have := mono T2 T3 q3 r3 r4 _ (q5 (by rw [← p1.1, ← p1.2]; exact h4))
              rw [← p1.1, ← p1.2] at this
              exact this
            · by_cases p2 : c = e ∧ a = g
              · have ya := q4.2.1 a aT
                have yc := q4.2.1 c cT
                rw [← p2.1, ← p2.2, ya.1, ya.2, yc.1, yc.2] at r5
                exact r5 h4
              · exact mono T T3 w1 r3 x3 _ (hp a c aT cT (by omega) h4)
          · intro J T hI heN hS hp
            refine am_step _ _ _ (b_M_builds_151 ⟨fun _ => ?_, fun c => absurd (nI_lt (Nat.lt_succ_self e) (by omega)) c⟩)
            rw [nI_add]
            exact am_fg (le_same _ (le_same _ (le_same _ (le_same _ (le_int _ le_nil))))) (ih J T hI hS fun a c h1 h2 h3 h4 h5 => hp a c h1 h2 (by omega) h5)
        exact inner 0 (by omega) J T hI heN hS fun a c h1 h2 h3 h4 => hp a c h1 h2 (by omega) (by omega) h4
      · have heN : T.1 ≤ e := Nat.le_of_not_lt fun q => c (nI_lt q (by omega))
        exact hp a c2 h1 h2 (by omega) (by omega) h3
    · intro J T hI hS hp
      have N124 := mw_124 hI.2.2.2.2.2.1
      refine am_step _ _ _ (b_M_builds_140 ?_)
      rw [hI.2.2.2.2.1.1]
      exact ⟨fun c => absurd c (nI_nlt N124 (by omega)), fun _ => fin J T hI hS fun a c h1 h2 h3 => hp a c h1 h2 (by omega) (by omega) h3⟩
  have gens : ∀ m, m ≤ 4 → ∀ J T, bI I J (gs_ now.1 w) w f T → (∀ i, i < m → w.testBit i = true → st (mt_D (bs f) T) (mt_u T) 24 (pe_n (now.1 i))) → am_St d k_M_builds (am_st I Lg rr n) K 80 [some (.ref 1469), some (.int (nI w)), some (.int (nI f)), some (.int (nI m)), none] [] (am_st J Lg rr n) := by
    refine lp_up _ (fun m hm4 ih => ?_) ?_
    · intro J T hI hS
      have hJm : ∀ p, p < 24 → J 1470 (24 * m + p) = nI (now.1 m p) := fun p hp => by rw [hI.1.1 1470 (by omega) (by decide), eI m hm4 p hp]
      have way : ∀ p, p ≤ 24 → ∀ L, nb1 J L 1484 → (∀ j, j < p → L 1484 j = nI (if w.testBit m then now.1 m j else j)) → am_St d k_M_builds (am_st I Lg rr n) K 88 [some (.ref 1469), some (.int (nI w)), some (.int (nI f)), some (.int (nI m)), some (.int (nI p))] [] (am_st L Lg rr n) := by
        refine lp_up _ (fun p hp ih2 => ?_) ?_
        · intro L hL hj
          have nx : ∀ v : Nat, v = (if w.testBit m then now.1 m p else p) → am_St d k_M_builds (am_st I Lg rr n) K 88 [some (.ref 1469), some (.int (nI w)), some (.int (nI f)), some (.int (nI m)), some (.int (nI p + nI 1))] [] (am_st (am_sr L 1484 (am_u1 (L 1484) p (nI v))) Lg rr n) := fun v hv => by
            rw [nI_add]
            refine ih2 _ (fun c hc => by rw [am_sr_off _ _ hc, hL c hc]) fun j hjp => ?_
            rw [am_sr_at]
            by_cases c : j = p
            · rw [c, am_u1_at, hv]
            · rw [am_u1_off _ _ c]
              exact hj j (by omega)
          refine am_step _ _ _ (b_M_builds_88 ⟨fun _ => s_has (by omega) ⟨_, rfl, am_step _ _ _ (b_M_builds_106 ?_)⟩, fun c => absurd (nI_lt hp (by decide)) c⟩)
          rw [m_has_n (by omega) (by omega), n_un (show p < 2 ^ 32 by omega)]
          by_cases q : w.testBit m = true
          · rw [if_pos q]
            refine ⟨fun c => absurd c (by decide), fun _ => s_Mto (by omega) (by omega) hp (x := now.1 m p) (by rw [hL 1470 (by decide), hJm p hp]) ⟨_, rfl, am_step _ _ _ (b_M_builds_116 ?_)⟩⟩
            rw [n_un (show p < 2 ^ 32 by omega)]
            exact ⟨hp, nx _ (if_pos q).symm⟩
          · rw [if_neg q]
            exact ⟨fun _ => ⟨hp, nx _ (if_neg q).symm⟩, fun c => absurd rfl c⟩
        · intro L hL hj
          have hLr : rst J L := fun c _ h2 => hL c h2
          have xx : ∃ x, ip L 1484 x ∧ pe_m x ∧ g_pvb x = true ∧ ge (gs_ now.1 w) x ∧ (w.testBit m = true → x = pe_n (now.1 m)) := by
            by_cases q : w.testBit m = true
            · refine ⟨pe_n (now.1 m), fun p hp => ?_, pe_n_m (ok.1 m (by omega)), pvb_n (hk m hm4 q), ge_of ⟨m, hm4, q, rfl⟩, fun _ => rfl⟩
              rw [hj p hp, if_pos q, pe_at hp]
            · refine ⟨pe_1, fun p hp => ?_, pe_1_m, pvb_1, ge_1, fun q2 => absurd q2 q⟩
              rw [hj p hp, if_neg q]
              rfl
          obtain ⟨x, x1, x2, x3, x4, x5⟩ := xx
          refine am_step _ _ _ (b_M_builds_88 ⟨fun c => absurd c (by decide), fun _ => s_adds (by omega) (hI.2.2.2.2.1.fr hLr) hI.2.2.2.2.2.1 x1 x2 x3 fun J2 T2 q1 q2 q3 q4 q5 q6 => ⟨rfl, am_step _ _ _ (b_M_builds_132 ?_)⟩⟩)
          rw [nI_add]
          refine am_fg (le_same _ (le_same _ (le_same _ (le_same _ (le_int _ le_nil))))) (ih J2 T2 (hI.ad (adF_t (rst_ad hLr) q1) q2 q3 (q6 _ sm x4 hI.2.2.2.2.2.2)) fun i hi hb => ?_)
          by_cases c : i = m
          · rw [c] at hb ⊢
            rw [← x5 hb]
            exact q5
          · exact mono T T2 hI.2.2.2.2.2.1 q3 q4 _ (hS i (by omega) hb)
      exact am_step _ _ _ (b_M_builds_80 ⟨fun _ => way 0 (by decide) J (fun _ _ => rfl) fun j hj => absurd hj (Nat.not_lt_zero j), fun c => absurd (nI_lt hm4 (by decide)) c⟩)
    · intro J T hI hS
      exact am_step _ _ _ (b_M_builds_80 ⟨fun c => absurd c (by decide), fun _ => outer 0 (by decide) J T hI hS fun a c _ _ h3 => absurd h3 (Nat.not_lt_zero a)⟩)
  have T0 : ∃ T : m_Tt, T.1 = 0 ∧ ∀ k q, T.2.2.1 k q = 0 := ⟨(0, fun _ => 0, fun _ _ => 0, fun _ => pe_1), rfl, fun _ _ => rfl⟩
  obtain ⟨T0, t1, t2⟩ := T0
  have clr : ∀ k, k ≤ 576 → ∀ J, bF I J → J 1469 21 = nI w → J 1469 22 = nI f → (∀ k, k < 96 → J 1485 k = I 1470 k) → J 1469 19 = nI 0 → (∀ k, k < 24 → J 1480 k = nI (bs f k)) → (∀ j, j < k → J 1481 j = am_k (-1)) → am_St d k_M_builds (am_st I Lg rr n) K 58 [some (.ref 1469), some (.int (nI w)), some (.int (nI f)), some (.int (nI k)), none] [] (am_st J Lg rr n) := by
    refine lp_up _ (fun k hk ih => ?_) ?_
    · intro J h1 h2 h3 h4 h5 h6 h7
      refine am_step _ _ _ (b_M_builds_58 ⟨fun _ => ?_, fun c => absurd (nI_lt hk (by decide)) c⟩)
      rw [n_un (show k < 2 ^ 32 by omega), nI_add]
      refine ⟨hk, ih _ ⟨fun c q1 q2 => by rw [am_sr_off _ _ (by omega), h1.1 c q1 q2], fun j q1 q2 q3 => by rw [am_sr_off _ _ (by decide), h1.2 j q1 q2 q3]⟩ (by rw [am_sr_off _ _ (by decide), h2]) (by rw [am_sr_off _ _ (by decide), h3]) (fun i hi => by rw [am_sr_off _ _ (by decide), h4 i hi]) (by rw [am_sr_off _ _ (by decide), h5]) (fun i hi => by rw [am_sr_off _ _ (by decide), h6 i hi]) fun j hj => ?_⟩
      rw [am_sr_at]
      by_cases c : j = k
      · rw [c, am_u1_at]
      · rw [am_u1_off _ _ c]
        exact h7 j (by omega)
    · intro J h1 h2 h3 h4 h5 h6 h7
      refine am_step _ _ _ (b_M_builds_58 ⟨fun c => absurd c (by decide), fun _ => gens 0 (by decide) J T0 ⟨h1, h2, h3, h4, ⟨by rw [t1, h5], h6, fun k q hk hq => by rw [t2, if_pos rfl, h7 _ (by omega)], fun e he => ?_⟩, ⟨(bs_m f).1, fun k q _ _ c => absurd (t2 k q) c, fun e he => ?_⟩, fun e he => ?_⟩ fun i hi => absurd hi (Nat.not_lt_zero i)⟩) <;> (rw [t1] at he; exact absurd he (Nat.not_lt_zero e))
  have cpy : ∀ k, k ≤ 96 → ∀ J, bF I J → J 1469 21 = nI w → J 1469 22 = nI f → (∀ j, j < k → J 1485 j = I 1470 j) → am_St d k_M_builds (am_st I Lg rr n) K 22 [some (.ref 1469), some (.int (nI w)), some (.int (nI f)), some (.int (nI k)), none] [] (am_st J Lg rr n) := by
    refine lp_up _ (fun k hk ih => ?_) ?_
    · intro J h1 h2 h3 h4
      refine am_step _ _ _ (b_M_builds_22 ⟨fun _ => ?_, fun c => absurd (nI_lt hk (by decide)) c⟩)
      rw [n_un (show k < 2 ^ 32 by omega), nI_add]
      refine ⟨by omega, hk, ih _ ⟨fun c q1 q2 => by rw [am_sr_off _ _ (by omega), h1.1 c q1 q2], fun j q1 q2 q3 => by rw [am_sr_off _ _ (by decide), h1.2 j q1 q2 q3]⟩ (by rw [am_sr_off _ _ (by decide), h2]) (by rw [am_sr_off _ _ (by decide), h3]) fun j hj => ?_⟩
      rw [am_sr_at]
      by_cases c : j = k
      · rw [c, am_u1_at, h1.1 1470 (by omega) (by decide)]
      · rw [am_u1_off _ _ c]
        exact h4 j (by omega)
    · intro J h1 h2 h3 h4
      refine am_step _ _ _ (b_M_builds_22 ⟨fun c => absurd c (by decide), fun _ => s_bases (by omega) hf fun J2 hJ2 hb => ⟨rfl, am_step _ _ _ (b_M_builds_51 ?_)⟩⟩)
      have off : ∀ c, ¬ c = 1469 → am_sr J2 1469 (am_u1 (J2 1469) 19 (nI 0)) c = J2 c := fun c hc => am_sr_off _ _ hc
      refine clr 0 (by decide) _ ⟨fun c q1 q2 => by rw [off c q2, hJ2 c (by omega), h1.1 c q1 q2], fun j q1 q2 q3 => ?_⟩ ?_ ?_ (fun k hk => by rw [off _ (by decide), hJ2 _ (by decide), h4 k hk]) ?_ (fun k hk => by rw [off _ (by decide), hb k hk]) fun j hj => absurd hj (Nat.not_lt_zero j)
      · rw [am_sr_at, am_u1_off _ _ q1, hJ2 _ (by decide), h1.2 j q1 q2 q3]
      · rw [am_sr_at, am_u1_off _ _ (by decide), hJ2 _ (by decide), h2]
      · rw [am_sr_at, am_u1_off _ _ (by decide), hJ2 _ (by decide), h3]
      · rw [am_sr_at, am_u1_at]
  refine am_in _ _ _ (am_step _ _ _ (b_M_builds_0 (s_stands (by omega) (fun e1 e2 e3 => ⟨_, rfl, am_step _ _ _ (b_M_builds_6 ⟨fun c => absurd c (by decide), fun _ => ?_⟩)⟩) ⟨_, rfl, am_step _ _ _ (b_M_builds_6 ⟨fun _ => ?_, fun c => absurd rfl c⟩)⟩)))
  · rcases hG with hG | ⟨w2, f2, fn, T, a1, a2, a3, a4, a5, a6, a7, a8⟩
    · rw [e1] at hG
      exact absurd (show nI w < 0 by rw [hG]; decide) (nz_lt w (by omega))
    · rw [a3, nI_eq (by omega) (by omega)] at e1
      rw [a4, nI_eq (by omega) (by omega)] at e2
      subst e1
      subst e2
      have same : ∀ m, m < 4 → pe_n (fn m) = pe_n (now.1 m) := fun m hm4 => funext fun p => by
        unfold pe_n
        by_cases c : p < 24
        · rw [if_pos c, if_pos c]
          have := e3 (24 * m + p) (by omega)
          rw [(a5 m hm4).2 p c, eI m hm4 p c] at this
          have l1 := (a5 m hm4).1 p c
          have l2 := fl m hm4 p c
          rw [nI_eq (by omega) (by omega)] at this
          exact this
        · rw [if_neg c, if_neg c]
      have e4 : ∀ x, gs_ fn w2 x ↔ gs_ now.1 w2 x := fun x => ⟨fun ⟨m, m1, m2, m3⟩ => ⟨m, m1, m2, by rw [m3, same m m1]⟩, fun ⟨m, m1, m2, m3⟩ => ⟨m, m1, m2, by rw [m3, same m m1]⟩⟩
      have e5 : gs_ fn w2 = gs_ now.1 w2 := funext fun x => propext (e4 x)
      rw [e5] at a8
      refine h I T ⟨fun _ _ _ => rfl, fun _ _ _ _ => rfl⟩ (Or.inr ⟨w2, f2, fn, T, a1, a2, a3, a4, a5, a6, a7, ?_⟩) a6 a7 a8
      rw [e5]
      exact a8
  · refine cpy 0 (by decide) _ ⟨fun c q1 q2 => by rw [am_sr_off _ _ q2, am_sr_off _ _ q2], fun j q1 q2 q3 => ?_⟩ ?_ ?_ fun j hj => absurd hj (Nat.not_lt_zero j)
    · rw [am_sr_at, am_sr_at, am_u1_off _ _ q3, am_u1_off _ _ q2]
    · rw [am_sr_at, am_sr_at, am_u1_off _ _ (by decide), am_u1_at]
    · rw [am_sr_at, am_u1_at]
theorem mt_sE (hw : mw b T) {k : Nat} (hk : k < 24) : mt_s b T k = g_cnt (fun q => decide (¬ T.2.2.1 k q = 0)) 24 + 1 := by
  have e := cnt_add1 (P := fun q => decide (q < 24 ∧ ¬ T.2.2.1 k q = 0)) (Q := fun q => @decide (mt_D b T k q) (Classical.propDecidable _)) (a := b k) (fun j hj => ?_) (decide_eq_false fun q => q.2 (mw_b0 hw hk)) ((@decide_eq_true_iff _ (Classical.propDecidable _)).mpr ⟨hw.1.1 k hk, Or.inl rfl⟩) 24 (hw.1.1 k hk)
  · unfold mt_s
    rw [e]
    exact congrArg (· + 1) (cnt_congr 24 fun j hj => decide_eq_decide.mpr ⟨fun q => q.2, fun q => ⟨hj, q⟩⟩)
  · rw [Bool.eq_iff_iff, decide_eq_true_iff, @decide_eq_true_iff _ (Classical.propDecidable _)]
    exact ⟨fun q => ⟨q.1, Or.inr q.2⟩, fun q => ⟨q.1, q.2.elim (fun e => absurd e hj) id⟩⟩
theorem s_manyFrom {k : Nat} (hd : 1 ≤ d) (hC : m_C I b T) (hw : mw b T) (hk : k ≤ 24) (h : K (some (.int (nI (pr (mt_s b T) (24 - k))))) (am_st I Lg rr n)) : am_AC d k_M_manyFrom [.ref 1469, .int (nI k)] (am_st I Lg rr n) K := by
  obtain ⟨d, rfl, hd1⟩ := s_up hd
  have N124 := mw_124 hw
  have key : ∀ j, j ≤ 24 → ∀ c, c * pr (mt_s b T) (24 - j) = pr (mt_s b T) (24 - k) → am_St d k_M_manyFrom (am_st I Lg rr n) K 4 [some (.ref 1469), some (.int (nI k)), some (.int (nI c)), some (.int (nI j)), none, none] [] (am_st I Lg rr n) := by
    refine lp_up _ (fun j hj ih => ?_) ?_
    · intro c hc
      have inner : ∀ p, p ≤ 24 → am_St d k_M_manyFrom (am_st I Lg rr n) K 16 [some (.ref 1469), some (.int (nI k)), some (.int (nI c)), some (.int (nI j)), some (.int (nI (g_cnt (fun q => decide (¬ T.2.2.1 j q = 0)) p + 1))), some (.int (nI p))] [] (am_st I Lg rr n) := by
        refine lp_up _ (fun p hp ih2 => ?_) ?_
        · refine am_step _ _ _ (b_M_manyFrom_16 ⟨fun _ => ?_, fun q => absurd (nI_lt hp (by decide)) q⟩)
          rw [pk_mul, nI_add, n_un (show 24 * j + p < 2 ^ 32 by omega), hC.2.2.1 j p hj hp, nI_add, nI_add, nI_add, Nat.add_zero]
          rw [cnt_s] at ih2
          refine ⟨by omega, fun q => ?_, fun q => ?_⟩
          · have E0 : T.2.2.1 j p = 0 := Classical.byContradiction fun c2 => by
              rw [if_neg c2] at q
              have := (hw.2.1 j p hj hp c2).1
              exact nz_lt _ (by omega) q
            rw [if_neg (by rw [E0]; decide)] at ih2
            exact ih2
          · have E1 : ¬ T.2.2.1 j p = 0 := fun c2 => q (by rw [if_pos c2]; decide)
            rw [if_pos (decide_eq_true E1)] at ih2
            exact ih2
        · refine am_step _ _ _ (b_M_manyFrom_16 ⟨fun q => absurd q (by decide), fun _ => ?_⟩)
          rw [← mt_sE hw hj, pk_mul, nI_add]
          refine am_fg (le_same _ (le_same _ (le_same _ (le_same _ (le_int _ (le_int _ le_nil)))))) (ih _ ?_)
          have e : pr (mt_s b T) (24 - j) = mt_s b T j * pr (mt_s b T) (24 - (j + 1)) := by
            rw [show 24 - j = (24 - (j + 1)) + 1 by omega]
            show mt_s b T (23 - (24 - (j + 1))) * _ = _
            rw [show 23 - (24 - (j + 1)) = j by omega]
          rw [← hc, e, Nat.mul_assoc]
      exact am_step _ _ _ (b_M_manyFrom_4 ⟨fun _ => inner 0 (by decide), fun q => absurd (nI_lt hj (by decide)) q⟩)
    · intro c hc
      refine am_step _ _ _ (b_M_manyFrom_4 ⟨fun q => absurd q (by decide), fun _ => ?_⟩)
      have hc : c * 1 = pr (mt_s b T) (24 - k) := hc
      rw [← hc, Nat.mul_one] at h
      exact h
  exact am_in _ _ _ (am_step _ _ _ (b_M_manyFrom_0 (key k hk 1 (Nat.one_mul _))))
end BM
