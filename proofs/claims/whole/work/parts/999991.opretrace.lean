/-! OPERATION: retrace -/
theorem n8_cases (x : Int32) : (∃ m, 1 ≤ m ∧ m ≤ 8 ∧ x = nI m ∧ ¬ x < nI 1 ∧ ¬ nI 8 < x ∧ m_in x.toInt64 (lN 1) (lN 8) = nI 1) ∨ ((x < nI 1 ∨ nI 8 < x) ∧ m_in x.toInt64 (lN 1) (lN 8) = nI 0) := by
  have e1 : (nI 1).toInt = 1 := rfl
  have e8 : (nI 8).toInt = 8 := rfl
  have h1 : (nI 1 ≤ x ∧ x ≤ nI 8) ↔ (1 ≤ x.toInt ∧ x.toInt ≤ 8) := by rw [Int32.le_iff_toInt_le, Int32.le_iff_toInt_le, e1, e8]
  have h2 : x < nI 1 ↔ x.toInt < 1 := by rw [Int32.lt_iff_toInt_lt, e1]
  have h3 : nI 8 < x ↔ 8 < x.toInt := by rw [Int32.lt_iff_toInt_lt, e8]
  rw [m_in_i x (by decide) (by decide)]
  by_cases h : 1 ≤ x.toInt ∧ x.toInt ≤ 8
  · obtain ⟨q1, q2⟩ := i_nat (x := x) (by omega)
    exact Or.inl ⟨x.toInt.toNat, by omega, by omega, q1, fun q => by have := h2.mp q; omega, fun q => by have := h3.mp q; omega, if_pos (h1.mpr h)⟩
  · refine Or.inr ⟨?_, if_neg fun q => h (h1.mp q)⟩
    by_cases c : x.toInt < 1
    · exact Or.inl (h2.mpr c)
    · exact Or.inr (h3.mpr (by omega))
theorem lN_inj {a c : Nat} (ha : a < 24) (hc : c < 24) (h : lN a = lN c) : a = c := by
  have := congrArg Int64.toInt h
  rw [lN_toInt (by omega), lN_toInt (by omega)] at this
  omega
def cF2 (I J : Nat → Nat → Int32) : Prop := ∀ c, ¬ (26 ≤ c ∧ c ≤ 1335) → ¬ c = 1467 → ¬ c = 1468 → J c = I c
theorem vV_cF2 {I J : Nat → Nat → Int32} {Lg : Nat → Nat → Int64} {rr : Nat → Nat → Option Nat} {n : Nat} (h : vV g_G I Lg rr n) (hJ : cF2 I J) : vV g_G J Lg rr n :=
  h.scr g_G_fr ⟨fun b hb => hJ b (by omega) (by omega) (by omega), by rw [hJ 1438 (by decide) (by decide) (by decide)], fun j _ _ _ => by rw [hJ 1469 (by decide) (by decide) (by decide)]⟩ (fun _ _ => rfl) fun _ _ => rfl
theorem vV_95 {I J : Nat → Nat → Int32} {Lg : Nat → Nat → Int64} {rr : Nat → Nat → Option Nat} {n : Nat} (h : vV g_G I Lg rr n) (hJ : nb1 I J 1496) : vV g_G J Lg rr n :=
  h.scr g_G_fr ⟨fun b hb => hJ b (by omega), by rw [hJ 1438 (by decide)], fun j _ _ _ => by rw [hJ 1469 (by decide)]⟩ (fun _ _ => rfl) fun _ _ => rfl
theorem vV_rst {I J : Nat → Nat → Int32} {Lg : Nat → Nat → Int64} {rr : Nat → Nat → Option Nat} {n : Nat} (h : vV g_G I Lg rr n) (hJ : rst I J) : vV g_G J Lg rr n :=
  h.scr g_G_fr ⟨fun b hb => hJ b (by omega) (by omega), by rw [hJ 1438 (by decide) (by decide)], fun j _ _ _ => by rw [hJ 1469 (by decide) (by decide)]⟩ (fun _ _ => rfl) fun _ _ => rfl
section OR
variable {km : Nat} {as : List Value} {I : Nat → Nat → Int32} {Lg : Nat → Nat → Int64} {rr : Nat → Nat → Option Nat} {n : Nat}
theorem oE_2 (x : Int32) (J : Nat → Nat → Int32) (hJ : J 0 = I 0) (h : ∀ K : Option Value → am_M → Prop, (∀ L, vV g_G L Lg rr n → K (some (.int x)) (am_st L Lg rr n)) → am_AC 100 km (.ref 1469 :: as) (am_st J Lg rr n) K) : oE km as I n (some (.int x)) (am_st J Lg rr n) :=
  ⟨x, rfl, J, Lg, rr, rfl, hJ, h _ fun L h1 => ⟨x, rfl, L, Lg, rr, rfl, rfl, h1⟩⟩
theorem op_retrace (a0 a1 a2 a3 a4 : Int32) : lw_Op (vV g_G) k_X_retrace k_M_retrace [.int a0, .int a1, .int a2, .int a3, .int a4] := by
  intro I Lg rr n hV
  show am_AC 100 k_X_retrace _ _ (oE k_M_retrace [.int a0, .int a1, .int a2, .int a3, .int a4] I n)
  have hT := hV.1
  obtain ⟨now, us, ks, ok, hks, hc, hm, h28⟩ := hV.2.1
  obtain ⟨la, sz, v, hS⟩ := hV.2.2.2.2.1
  have hW : sh_W I Lg la sz v := hS
  have z10 : ¬ nI 1 = 0 := by decide
  -- what is out of range
  have bad : (m_rng a0 0 15 = nI 0 ∨ (m_rng a0 0 15 = nI 1 ∧ (m_rng a1 0 3 = nI 0 ∨ (m_rng a1 0 3 = nI 1 ∧ (m_in a2.toInt64 (lN 0) (lN 3) = nI 0 ∨ (m_in a2.toInt64 (lN 0) (lN 3) = nI 1 ∧ m_in a4.toInt64 (lN 1) (lN 8) = nI 0)))))) → oE k_M_retrace [.int a0, .int a1, .int a2, .int a3, .int a4] I n (some (.int (am_k (-1)))) (am_st I Lg rr n) := fun hc => oE_2 _ I rfl fun K hK => by
    refine am_in _ _ _ (am_step _ _ _ (b_M_retrace_0 (s_isGroup (by decide) ⟨_, rfl, am_step _ _ _ (b_M_retrace_4 ?_)⟩)))
    rcases hc with hc | ⟨hc, hc2⟩
    · rw [hc]
      exact ⟨fun _ => hK I hV, fun q => absurd rfl q⟩
    · rw [hc]
      refine ⟨fun q => absurd q z10, fun _ => s_isSheet (by decide) ⟨_, rfl, am_step _ _ _ (b_M_retrace_11 ?_)⟩⟩
      rcases hc2 with hc2 | ⟨hc2, hc3⟩
      · rw [hc2]
        exact ⟨fun _ => hK I hV, fun q => absurd rfl q⟩
      · rw [hc2]
        refine ⟨fun q => absurd q z10, fun _ => s_in (by decide) ⟨_, rfl, am_step _ _ _ (b_M_retrace_23 ?_)⟩⟩
        rcases hc3 with hc3 | ⟨hc3, hc4⟩
        · rw [hc3]
          exact ⟨fun _ => hK I hV, fun q => absurd rfl q⟩
        · rw [hc3]
          refine ⟨fun q => absurd q z10, fun _ => s_in (by decide) ⟨_, rfl, am_step _ _ _ (b_M_retrace_36 ?_)⟩⟩
          rw [hc4]
          exact ⟨fun _ => hK I hV, fun q => absurd rfl q⟩
  rcases rng_cases a0 (N := 16) (by decide) (by decide) with ⟨w, w1, rfl, w3, w4, w5⟩ | ⟨w3, w4, w5⟩
  · rcases lane_cases a1 a2 with ⟨s, l, s1, l1, rfl, rfl, c3, c4, c5⟩ | ⟨c3, c4⟩
    · rcases n8_cases a4 with ⟨m, m1, m8, rfl, n3, n4, n5⟩ | ⟨n3, n4⟩
      · have hTs := hW.T s1
        have sz32 : sz s ≤ 32 := hTs.1
        have X47 : ∀ K : Option Value → am_M → Prop, (am_St 99 k_X_retrace (am_st I Lg rr n) K 47 [some (.ref 12), some (.int (nI w)), some (.int (nI s)), some (.int (nI l)), some (.int a3), some (.int (nI m)), none, none, none, none, none] [.int (g_fa (la s) (sz s) l a3 (2 * m))] (am_st I Lg rr n)) → am_AC 100 k_X_retrace [.ref 12, .int (nI w), .int (nI s), .int (nI l), .int a3, .int (nI m)] (am_st I Lg rr n) K := fun K h => by
          refine am_in _ _ _ (am_step _ _ _ (b_X_retrace_0 (s_isOutside (by decide) ⟨_, rfl, am_step _ _ _ (b_X_retrace_6 ?_)⟩)))
          rw [w3]
          refine ⟨fun _ => s_isNoLane (by decide) ⟨_, rfl, am_step _ _ _ (b_X_retrace_14 ?_)⟩, fun q => absurd rfl q⟩
          rw [c3, pk_mul]
          exact ⟨fun _ => ⟨fun q => absurd q n3, fun _ => ⟨fun q => absurd q n4, fun _ => s_fault (by decide) s1 l1 (by omega) hTs ⟨_, rfl, h⟩⟩⟩, fun q => absurd rfl q⟩
        have M53 : ∀ J, sh_T J (la s) (sz s) s → ∀ K : Option Value → am_M → Prop, (am_St 99 k_M_retrace (am_st J Lg rr n) K 53 [some (.ref 1469), some (.int (nI w)), some (.int (nI s)), some (.int (nI l)), some (.int a3), some (.int (nI m)), none, none, none, none] [.int (g_fa (la s) (sz s) l a3 (2 * m))] (am_st J Lg rr n)) → am_AC 100 k_M_retrace [.ref 1469, .int (nI w), .int (nI s), .int (nI l), .int a3, .int (nI m)] (am_st J Lg rr n) K := fun J hJ K h => by
          refine am_in _ _ _ (am_step _ _ _ (b_M_retrace_0 (s_isGroup (by decide) ⟨_, rfl, am_step _ _ _ (b_M_retrace_4 ?_)⟩)))
          rw [w4]
          refine ⟨fun q => absurd q z10, fun _ => s_isSheet (by decide) ⟨_, rfl, am_step _ _ _ (b_M_retrace_11 ?_)⟩⟩
          rw [c4]
          refine ⟨fun q => absurd q z10, fun _ => s_in (by decide) ⟨_, rfl, am_step _ _ _ (b_M_retrace_23 ?_)⟩⟩
          rw [c5]
          refine ⟨fun q => absurd q z10, fun _ => s_in (by decide) ⟨_, rfl, am_step _ _ _ (b_M_retrace_36 ?_)⟩⟩
          rw [n5, pk_mul]
          exact ⟨fun q => absurd q z10, fun _ => s_why (by decide) s1 l1 (by omega) hJ ⟨_, rfl, h⟩⟩
        rcases fa_cases (la s) (sz s) l a3 (2 * m) with ⟨f1, f2, i, rfl, f3⟩ | ⟨f1, f2⟩
        · have vx : ∀ j, j < 2 * m → Lg (1459 + s) (i + j) = Lg 1494 (32 * s + i + j) := fun j hj => by
            have := (hW s s1).2.2.2.1 (i + j) (by omega)
            rw [this.1, show 32 * s + i + j = 32 * s + (i + j) by omega, this.2]
          -- the model, as far as the points
          have M73 : ∀ J, vT J → m_S (J 1470) 0 now → sh_T J (la s) (sz s) s → ∀ K : Option Value → am_M → Prop, (¬ (g_ak now.1 w ∧ ∀ j, j < 2 * m → g_pb (Lg (1459 + s) (i + j))) → K (some (.int (am_k (-2)))) (am_st J Lg rr n)) → (g_ak now.1 w → (∀ j, j < 2 * m → g_pb (Lg (1459 + s) (i + j))) → am_AC 99 k_M_wants [.ref 1469, .int (nI (32 * s + i)), .int (nI m)] (am_st J Lg rr n) (am_qi fun x2 M2 => am_St 99 k_M_retrace (am_st J Lg rr n) K 142 [some (.ref 1469), some (.int (nI w)), some (.int (nI s)), some (.int (nI l)), some (.int (nI i)), some (.int (nI m)), some (.int (nI 0)), some (.int (nI 1)), some (.int (nI (2 * m))), none] [.int x2] M2)) → am_AC 100 k_M_retrace [.ref 1469, .int (nI w), .int (nI s), .int (nI l), .int (nI i), .int (nI m)] (am_st J Lg rr n) K := fun J jT jS jsh K h0 h1 => by
            have lp : ∀ q, q ≤ 2 * m → ∀ c : Nat, c < 2 → (c = 1 ↔ g_ak now.1 w ∧ ∀ j, j < q → g_pb (Lg (1459 + s) (i + j))) → am_St 99 k_M_retrace (am_st J Lg rr n) K 73 [some (.ref 1469), some (.int (nI w)), some (.int (nI s)), some (.int (nI l)), some (.int (nI i)), some (.int (nI m)), some (.int (nI 0)), some (.int (nI c)), some (.int (nI q)), none] [] (am_st J Lg rr n) := by
              refine lp_up _ (fun q hq ih => ?_) ?_
              · intro c c2 hc
                have cc : c = 0 ∨ c = 1 := by omega
                refine am_step _ _ _ (b_M_retrace_73 ?_)
                rw [pk_mul, nI_add]
                refine ⟨fun _ => ?_, fun e => absurd (nI_lt hq (by omega)) e⟩
                rw [pk_mul, nI_add, nI_add, n_un (show 32 * s + i + q < 2 ^ 32 by omega), ← vx q hq]
                rcases cc with rfl | rfl
                · refine ⟨fun _ => ih 0 (by decide) ⟨fun e => absurd e (by decide), fun e => ?_⟩, fun e => absurd rfl e⟩
                  exact absurd (hc.mpr ⟨e.1, fun j hj => e.2 j (by omega)⟩) (by decide)
                · have old := hc.mp rfl
                  refine ⟨fun e => absurd e (by decide), fun _ => ⟨by omega, s_isPlace (by decide) ⟨_, rfl, am_step _ _ _ (b_M_retrace_105 ?_)⟩⟩⟩
                  by_cases g : g_pb (Lg (1459 + s) (i + q))
                  · obtain ⟨p, p1, p2⟩ := pt_yes g
                    rw [p2, (pt_small p p1).2.2.1, nI_add]
                    refine ⟨fun e => absurd e (by decide), fun _ => ih 1 (by decide) ⟨fun _ => ⟨old.1, fun j hj => ?_⟩, fun _ => rfl⟩⟩
                    by_cases e : j = q
                    · rw [e]
                      exact g
                    · exact old.2 j (by omega)
                  · rw [(pt_no g).2, nI_add]
                    exact ⟨fun _ => ih 0 (by decide) ⟨fun e => absurd e (by decide), fun e => absurd (e.2 q (Nat.lt_succ_self q)) g⟩, fun e => absurd rfl e⟩
              · intro c c2 hc
                have cc : c = 0 ∨ c = 1 := by omega
                refine am_step _ _ _ (b_M_retrace_73 ?_)
                rw [pk_mul, pk_mul, nI_add, nI_add]
                refine ⟨fun e => absurd e (nI_nlt (Nat.le_refl _) (by omega)), fun _ => ?_⟩
                rcases cc with rfl | rfl
                · exact ⟨fun _ => h0 fun e => absurd (hc.mpr e) (by decide), fun e => absurd rfl e⟩
                · have := hc.mp rfl
                  exact ⟨fun e => absurd e (by decide), fun _ => h1 this.1 this.2⟩
            refine M53 J jsh K (am_step _ _ _ (b_M_retrace_53 ?_))
            rw [f1]
            refine ⟨fun e => absurd e (by decide), fun _ => s_allKeep (by decide) jT ok jS w1 (fun hk => ⟨_, rfl, am_step _ _ _ (b_M_retrace_68 (lp 0 (Nat.zero_le _) 1 (by decide) ⟨fun _ => ⟨hk, fun j hj => absurd hj (Nat.not_lt_zero j)⟩, fun _ => rfl⟩))⟩) fun hk => ⟨_, rfl, am_step _ _ _ (b_M_retrace_68 (lp 0 (Nat.zero_le _) 0 (by decide) ⟨fun e => absurd e (by decide), fun e => absurd e.1 hk⟩))⟩⟩
          have not2 : ¬ (g_ak now.1 w ∧ ∀ j, j < 2 * m → g_pb (Lg (1459 + s) (i + j))) → oE k_M_retrace [.int (nI w), .int (nI s), .int (nI l), .int (nI i), .int (nI m)] I n (some (.int (am_k (-2)))) (am_st I Lg rr n) := fun hno => oE_2 _ I rfl fun K hK => M73 I hT hm.1 hTs K (fun _ => hK I hV) fun e1 e2 => absurd ⟨e1, e2⟩ hno
          refine X47 _ (am_step _ _ _ (b_X_retrace_47 ?_))
          rw [f1]
          refine ⟨fun _ => s_preserveCode (by decide) hT ok hc.1 w1 (fun hk => ⟨_, rfl, am_step _ _ _ (b_X_retrace_62 ⟨fun e => absurd e z10, fun _ => ?_⟩)⟩) fun hk => ⟨_, rfl, am_step _ _ _ (b_X_retrace_62 ⟨fun _ => not2 fun e => hk e.1, fun e => absurd rfl e⟩)⟩, fun e => absurd rfl e⟩
          rw [pk_mul]
          refine s_holdPoints (by decide) s1 hTs f3 (fun hpts => ⟨_, rfl, am_step _ _ _ (b_X_retrace_79 ⟨fun e => absurd e z10, fun _ => ?_⟩)⟩) fun hpts => ⟨_, rfl, am_step _ _ _ (b_X_retrace_79 ⟨fun _ => not2 fun e => hpts e.2, fun e => absurd rfl e⟩)⟩
          obtain ⟨pt, hpt⟩ := Classical.axiomOfChoice (r := fun (j : Nat) (p : Nat) => j < 2 * m → p < 24 ∧ Lg (1459 + s) (i + j) = lN p) (fun j => by
            by_cases q : j < 2 * m
            · obtain ⟨p, p1, p2⟩ := pt_yes (hpts j q)
              exact ⟨p, fun _ => ⟨p1, p2⟩⟩
            · exact ⟨0, fun a => absurd a q⟩)
          have pl : ∀ q, q ≤ m → ∀ j, j < 2 * q → pt j < 24 := fun q hq j hj => (hpt j (by omega)).1
          have hpm : ∀ j, j < 2 * m → pt j < 24 ∧ Lg 1494 (32 * s + i + j) = lN (pt j) := fun j hj => ⟨(hpt j hj).1, by rw [← vx j hj]; exact (hpt j hj).2⟩
          have r66 : am_ro 1497 1467 24 := ⟨rfl, rfl, by decide, by decide⟩
          have sames : ∀ J, cF2 I J → vV g_G J Lg rr n ∧ vT J ∧ m_S (J 1470) 0 now ∧ sh_T J (la s) (sz s) s ∧ g_G J := fun J hJ => ⟨vV_cF2 hV hJ, (vV_cF2 hV hJ).1, by rw [hJ 1470 (by decide) (by decide) (by decide)]; exact hm.1, by
            unfold sh_T
            rw [hJ 1463 (by decide) (by decide) (by decide), hJ 1464 (by decide) (by decide) (by decide), hJ 1492 (by decide) (by decide) (by decide), hJ 1493 (by decide) (by decide) (by decide)]
            exact hTs, (vV_cF2 hV hJ).2.2.2.2.2⟩
          -- the class's pairs
          have pairs : ∀ q, q ≤ m → ∀ J, nb1 I J 1467 → (∀ p, p < 24 → J 1467 p = if (w_s pt q).testBit p then nI (w_v pt q p) else am_k (-4)) → (∀ x, x < q → ¬ w_c pt x) → am_St 99 k_X_retrace (am_st I Lg rr n) (oE k_M_retrace [.int (nI w), .int (nI s), .int (nI l), .int (nI i), .int (nI m)] I n) 101 [some (.ref 12), some (.int (nI w)), some (.int (nI s)), some (.int (nI l)), some (.int (nI i)), some (.int (nI m)), some (.int (nI 0)), some (.int (nI (w_s pt q))), some (.int (nI (i + 2 * q))), none, none] [] (am_st J Lg rr n) := by
            refine lp_up _ (fun q hq ih => ?_) ?_
            · intro J hJ hw hno
              have jsh : sh_T J (la s) (sz s) s := by
                unfold sh_T
                rw [hJ 1463 (by decide), hJ 1464 (by decide), hJ 1492 (by decide), hJ 1493 (by decide)]
                exact hTs
              have cJ : cF2 I J := fun c _ h2 _ => hJ c h2
              obtain ⟨p1, p2⟩ := hpt (2 * q) (by omega)
              obtain ⟨q1, q2⟩ := hpt (2 * q + 1) (by omega)
              have sl := w_lt q (pl q (by omega))
              have vl := wv_lt q (pl q (by omega)) (pt (2 * q))
              have nx : ¬ w_c pt q → ∀ v9 v10 : Int32, am_St 99 k_X_retrace (am_st I Lg rr n) (oE k_M_retrace [.int (nI w), .int (nI s), .int (nI l), .int (nI i), .int (nI m)] I n) 101 [some (.ref 12), some (.int (nI w)), some (.int (nI s)), some (.int (nI l)), some (.int (nI i)), some (.int (nI m)), some (.int (nI 0)), some (.int (nI (w_s pt q) ||| nI 1 <<< (nI (pt (2 * q)) &&& 31))), some (.int (nI (i + 2 * q) + nI 2)), some (.int v9), some (.int v10)] [] (am_st (am_sr J 1467 (am_u1 (J 1467) (pt (2 * q)) (nI (pt (2 * q + 1))))) Lg rr n) := fun hnc v9 v10 => by
                rw [n_p2 (by omega), n_or, nI_add, show i + 2 * q + 2 = i + 2 * (q + 1) by omega]
                refine am_fg (le_same _ (le_same _ (le_same _ (le_same _ (le_same _ (le_same _ (le_same _ (le_same _ (le_same _ (le_int _ (le_int _ le_nil))))))))))) (ih _ (fun x hx => by rw [am_sr_off _ _ hx, hJ x hx]) (fun p hp => ?_) fun x hx => ?_)
                · rw [am_sr_at]
                  have ev : w_v pt (q + 1) p = am_u1 (w_v pt q) (pt (2 * q)) (pt (2 * q + 1)) p := rfl
                  have es : w_s pt (q + 1) = w_s pt q ||| 2 ^ pt (2 * q) := rfl
                  rw [ev, es]
                  by_cases c3 : p = pt (2 * q)
                  · rw [c3, am_u1_at, am_u1_at, if_pos (tb_or2.mpr (Or.inr rfl))]
                  · rw [am_u1_off _ _ c3, am_u1_off _ _ c3, hw p hp]
                    by_cases b1 : (w_s pt q).testBit p = true
                    · rw [if_pos b1, if_pos (tb_or2.mpr (Or.inl b1))]
                    · rw [if_neg b1, if_neg fun q2 => (tb_or2.mp q2).elim b1 c3]
                · by_cases c3 : x = q
                  · rw [c3]
                    exact hnc
                  · exact hno x (by omega)
              refine am_step _ _ _ (b_X_retrace_101 ?_)
              rw [pk_mul, nI_add]
              refine ⟨fun _ => s_pointAt (by decide) s1 jsh (show i + 2 * q < sz s by omega) (fun p a1 a2 => ⟨_, rfl, am_step _ _ _ (b_X_retrace_123 ?_)⟩) (fun hb => absurd (by rw [p2]; exact pt_is p1) hb), fun e => absurd (nI_lt (show i + 2 * q < i + 2 * m by omega) (by omega)) e⟩
              have ep : p = pt (2 * q) := lN_inj a1 p1 (a2.symm.trans p2)
              subst ep
              rw [nI_add]
              refine s_pointAt (by decide) s1 jsh (show i + 2 * q + 1 < sz s by omega) (fun p a3 a4 => ⟨_, rfl, am_step _ _ _ (b_X_retrace_137 ⟨fun e => absurd (show nI (pt (2 * q)) < 0 by rw [e]; decide) (nz_lt _ (by omega)), fun _ => ⟨fun e => absurd (show nI p < 0 by rw [e]; decide) (nz_lt _ (by omega)), fun _ => ?_⟩⟩)⟩) (fun hb => absurd (by rw [Nat.add_assoc, q2]; exact pt_is q1) hb)
              have ep2 : p = pt (2 * q + 1) := lN_inj a3 q1 (a4.symm.trans (by rw [Nat.add_assoc]; exact q2))
              subst ep2
              rw [n_un (show pt (2 * q) < 2 ^ 32 by omega), hw _ p1]
              by_cases b1 : (w_s pt q).testBit (pt (2 * q)) = true
              · rw [if_pos b1]
                refine ⟨p1, fun e => absurd (show nI (w_v pt q (pt (2 * q))) < 0 by rw [e]; decide) (nz_lt _ (by omega)), fun _ => ⟨p1, fun e => ⟨p1, nx (fun hcl => ?_) _ _⟩, fun e => ?_⟩⟩
                · rw [nI_eq (by omega) (by omega)] at e
                  exact hcl.2 e
                · have hcl : w_c pt q := ⟨b1, fun e2 => e (by rw [e2])⟩
                  obtain ⟨jV, jT, jS, _, jG⟩ := sames J cJ
                  exact oE_2 _ J (hJ 0 (by decide)) fun K hK => M73 J jT jS jsh K (fun e2 => absurd ⟨hk, hpts⟩ e2) fun _ _ => s_wants (by decide) (by omega) hpm (fun hn => absurd hcl (hn q hq)) fun _ L hL => ⟨_, rfl, am_step _ _ _ (b_M_retrace_142 ⟨fun _ => hK L (vV_95 jV hL), fun e2 => absurd (by decide) e2⟩)⟩
              · rw [if_neg b1]
                exact ⟨p1, fun _ => ⟨p1, nx (fun hcl => b1 hcl.1) _ _⟩, fun e => absurd rfl e⟩
            · intro J hJ hw hno
              have sl := w_lt m (pl m (Nat.le_refl _))
              have vl := wv_lt m (pl m (Nat.le_refl _))
              have ps := pcn_le 24 _ sl
              have hmany : pcn (w_s pt m) = g_cnt (fun p => (w_s pt m).testBit p) 24 := (cnt_tb 24 _ sl).symm
              refine am_step _ _ _ (b_X_retrace_101 ?_)
              rw [pk_mul, nI_add]
              refine ⟨fun e => absurd e (nI_nlt (Nat.le_refl _) (by omega)), fun _ => ?_⟩
              have jS2 : c_S J 1337 now := hc.1.fr fun b h1 h2 => hJ b (by omega)
              refine s_buildChain (by decide) ok jS2 w1 hk sl fun J2 C hJ2 hC hwC hSC => ⟨rfl, am_step _ _ _ (b_X_retrace_213 ?_)⟩
              have c2 : cF2 I J2 := fun c h1 h2 _ => by rw [hJ2 c (by omega), hJ c h2]
              have sm : ∀ x, gs_ now.1 w x → pe_m x := fun x ⟨q, q1, _, q3⟩ => by
                rw [q3]
                exact pe_n_m (ok.1 q (by omega))
              have bitsK : ∀ k, k < 24 → k < pcn (w_s pt m) → (w_s pt m).testBit (bs (w_s pt m) k) = true := fun k hk24 hkm => (bs_in hk24).mpr (by rw [← hmany]; exact hkm)
              have M164 : ∀ J3, vT J3 → m_S (J3 1470) 0 now → sh_T J3 (la s) (sz s) s → g_G J3 → ∀ K : Option Value → am_M → Prop, (∀ L T, (∀ c, ¬ (1479 ≤ c ∧ c ≤ 1485) → ¬ c = 1469 → ¬ c = 1496 → L c = J3 c) → (∀ j, ¬ j = 19 → ¬ j = 21 → ¬ j = 22 → L 1469 j = J3 1469 j) → g_G L → m_C L (bs (w_s pt m)) T → mw (bs (w_s pt m)) T → (∀ x, st (mt_D (bs (w_s pt m)) T) (mt_u T) 24 x ↔ ge (gs_ now.1 w) x) → (∀ p, (w_s pt m).testBit p = true → L 1496 p = nI (w_v pt m p)) → am_St 99 k_M_retrace (am_st J3 Lg rr n) K 164 [some (.ref 1469), some (.int (nI w)), some (.int (nI s)), some (.int (nI l)), some (.int (nI i)), some (.int (nI m)), some (.int (nI 0)), some (.int (nI 1)), some (.int (nI (w_s pt m))), none] [.int (nI (pcn (w_s pt m))), .ref 1469] (am_st L Lg rr n)) → am_AC 100 k_M_retrace [.ref 1469, .int (nI w), .int (nI s), .int (nI l), .int (nI i), .int (nI m)] (am_st J3 Lg rr n) K := fun J3 jT jS jsh jG K h => by
                refine M73 J3 jT jS jsh K (fun e2 => absurd ⟨hk, hpts⟩ e2) fun _ _ => s_wants (by decide) (by omega) hpm (fun _ L hL hwt => ⟨_, rfl, am_step _ _ _ (b_M_retrace_142 ⟨fun e => absurd e (nz_lt _ (by omega)), fun _ => ?_⟩)⟩) fun hn => absurd hno hn
                have gL : g_G L := g_G_fr J3 L (fun b hb => hL b (by omega)) (by rw [hL 1469 (by decide)]) (by rw [hL 1469 (by decide)]) (by rw [hL 1469 (by decide)]) jG
                refine s_builds (by decide) ok (by rw [hL 1470 (by decide)]; exact jS) w1 hk sl gL fun L2 T hL2 hG2 hCT hwT hST => ⟨rfl, am_step _ _ _ (b_M_retrace_158 (s_bits (by decide) (by omega) ⟨_, rfl, ?_⟩))⟩
                exact h L2 T (fun c h1 h2 h3 => by rw [hL2.1 c h1 h2, hL c h3]) (fun j h1 h2 h3 => by rw [hL2.2 j h1 h2 h3, hL 1469 (by decide)]) hG2 hCT hwT hST fun p hp => by rw [hL2.1 1496 (by decide) (by decide)]; exact hwt p hp
              refine s_findLowest (f := w_s pt m) (wv := w_v pt m) (many := pcn (w_s pt m)) (by decide) hC hwC (fun p hp => by rw [hJ2 1467 (by decide)]; exact hw p hp) (fun p _ => vl p) hmany (fun J3 y hJ3 hy hfr => ⟨_, rfl, am_step _ _ _ (b_X_retrace_228 ⟨fun e => absurd e z10, fun _ => ⟨by decide, am_obi (RR_now rr 4 (by decide)) (c_assign (by decide) (ro_now (by decide)) ⟨rfl, rfl, by decide, by decide⟩ hy fun J4 hJ4 hy4 => ⟨rfl, am_step _ _ _ (b_X_retrace_252 (s_bitCount (by decide) sl ⟨_, rfl, am_step _ _ _ (b_X_retrace_261 (s_orderFrom (b := bs (w_s pt m)) (C := C) (by decide) (hC.fr hwC fun a h1 h2 => by rw [hJ4 a (by omega), hJ3 a (by omega) (by omega)]) ps ⟨_, rfl, am_step _ _ _ (b_X_retrace_264 ?_)⟩))⟩))⟩)⟩⟩)⟩) fun J3 hJ3 hfno => ⟨_, rfl, am_step _ _ _ (b_X_retrace_228 ⟨fun _ => ?_, fun e => absurd rfl e⟩)⟩
              · -- one is found
                have ym := fr_m hwC.1 24 (Nat.le_refl _) y hfr
                have e4 : ∀ c, ¬ c = 1343 → ¬ (26 ≤ c ∧ c ≤ 1335) → ¬ c = 1467 → ¬ c = 1468 → J4 c = I c := fun c h0 h1 h2 h3 => by rw [hJ4 c h0, hJ3 c (by omega) h3, hJ2 c (by omega), hJ c h2]
                have jT : vT J4 := hT.fr (fun b h1 h2 => e4 b (by omega) (by omega) (by omega) (by omega)) (fun b h1 h2 => e4 b (by omega) (by omega) (by omega) (by omega)) (by rw [e4 1469 (by decide) (by decide) (by decide) (by decide)])
                have jS : m_S (J4 1470) 0 now := by
                  rw [e4 1470 (by decide) (by decide) (by decide) (by decide)]
                  exact hm.1
                have jsh : sh_T J4 (la s) (sz s) s := by
                  unfold sh_T
                  rw [e4 1463 (by decide) (by decide) (by decide) (by decide), e4 1464 (by decide) (by decide) (by decide) (by decide), e4 1492 (by decide) (by decide) (by decide) (by decide), e4 1493 (by decide) (by decide) (by decide) (by decide)]
                  exact hTs
                have jG : g_G J4 := g_G_fr I J4 (fun b hb => e4 b (by omega) (by omega) (by omega) (by omega)) (by rw [e4 1469 (by decide) (by decide) (by decide) (by decide)]) (by rw [e4 1469 (by decide) (by decide) (by decide) (by decide)]) (by rw [e4 1469 (by decide) (by decide) (by decide) (by decide)]) hV.2.2.2.2.2
                refine oE_2 _ J4 (e4 0 (by decide) (by decide) (by decide) (by decide)) fun K hK => M164 J4 jT jS jsh jG K fun L T hL hL68 hG hCT hwT hST hwt => am_step _ _ _ (b_M_retrace_164 (s_finds (wv := w_v pt m) (by decide) hCT hwT (fun k hk24 hkm => ⟨hwt _ (bitsK k hk24 hkm), vl _⟩) (by omega) (fun L2 y2 hL2 hy2 hfr2 => ⟨_, rfl, am_step _ _ _ (b_M_retrace_167 ⟨fun e => absurd e z10, fun _ => ?_⟩)⟩) fun L2 hL2 hno2 => absurd hno2 (fr_yes hwC.1 (mw_ta hwT) sm hSC hST (fun k q hk24 => sm_D hwC hwT hSC hST hk24) hfr)))
                have ey : y = y2 := fr_same hwC.1 (mw_ta hwT) sm hSC hST (fun k q hk24 => sm_D hwC hwT hSC hST hk24) hfr hfr2
                rw [← ey] at hy2
                have cp : ∀ p, p ≤ 24 → ∀ L3, nb1 L2 L3 1470 → (∀ j, j < p → L3 1470 (96 + j) = nI (y j)) → (∀ x, (x < 96 ∨ 120 ≤ x) → L3 1470 x = L2 1470 x) → am_St 99 k_M_retrace (am_st J4 Lg rr n) K 175 [some (.ref 1469), some (.int (nI w)), some (.int (nI s)), some (.int (nI l)), some (.int (nI i)), some (.int (nI m)), some (.int (nI 0)), some (.int (nI 1)), some (.int (nI (w_s pt m))), some (.int (nI p))] [] (am_st L3 Lg rr n) := by
                  refine lp_up _ (fun p hp ih2 => ?_) ?_
                  · intro L3 hL3 hj ho
                    refine am_step _ _ _ (b_M_retrace_175 ⟨fun _ => ?_, fun e => absurd (nI_lt hp (by decide)) e⟩)
                    rw [nI_add, n_un (show p < 2 ^ 32 by omega), n_un (show 96 + p < 2 ^ 32 by omega), show L3 1484 p = nI (y p) by rw [hL3 1484 (by decide), hy2 p hp], nI_add]
                    refine ⟨hp, by omega, ih2 _ (fun c hc => by rw [am_sr_off _ _ hc, hL3 c hc]) (fun j hjp => ?_) fun x hx => ?_⟩
                    · rw [am_sr_at]
                      by_cases c : j = p
                      · rw [c, am_u1_at]
                      · rw [am_u1_off _ _ (by omega)]
                        exact hj j (by omega)
                    · rw [am_sr_at, am_u1_off _ _ (by omega)]
                      exact ho x hx
                  · intro L3 hL3 hj ho
                    have hCT3 : m_C L3 (bs (w_s pt m)) T := by
                      obtain ⟨b1, b2, b3, b4⟩ := hCT.fr hL2
                      exact ⟨by rw [hL3 1469 (by decide), b1], fun k hk => by rw [hL3 1480 (by decide), b2 k hk], fun k q h1 h2 => by rw [hL3 1481 (by decide), b3 k q h1 h2], fun e he => by rw [hL3 1483 (by decide), hL3 1482 (by decide)]; exact b4 e he⟩
                    refine am_step _ _ _ (b_M_retrace_175 ⟨fun e => absurd e (by decide), fun _ => s_bits (by decide) (by omega) ⟨_, rfl, am_step _ _ _ (b_M_retrace_211 (s_manyFrom (by decide) hCT3 hwT ps ⟨_, rfl, am_step _ _ _ (b_M_retrace_214 ?_)⟩))⟩⟩)
                    rw [← sm_pr hwC hwT hSC hST (by omega)]
                    have e5 : ∀ c, ¬ c = 1470 → ¬ (1479 ≤ c ∧ c ≤ 1485) → ¬ c = 1469 → ¬ c = 1496 → L3 c = J4 c := fun c h0 h1 h2 h3 => by rw [hL3 c h0, hL2 c (by omega) (by omega), hL c h1 h2 h3]
                    have e6 : ∀ c, ¬ c = 1343 → ¬ (26 ≤ c ∧ c ≤ 1335) → ¬ (1467 ≤ c ∧ c ≤ 1470) → ¬ (1479 ≤ c ∧ c ≤ 1485) → ¬ c = 1496 → L3 c = I c := fun c h0 h1 h2 h3 h4 => by rw [e5 c (by omega) h3 (by omega) h4, e4 c h0 h1 (by omega) (by omega)]
                    have e68 : ∀ j, ¬ j = 19 → ¬ j = 21 → ¬ j = 22 → L3 1469 j = I 1469 j := fun j h1 h2 h3 => by rw [hL3 1469 (by decide), hL2 1469 (by decide) (by decide), hL68 j h1 h2 h3, e4 1469 (by decide) (by decide) (by decide) (by decide)]
                    have e69 : ∀ x, x < 96 ∨ 120 ≤ x → L3 1470 x = I 1470 x := fun x hx => by rw [ho x hx, hL2 1470 (by decide) (by decide), hL 1470 (by decide) (by decide) (by decide), e4 1470 (by decide) (by decide) (by decide) (by decide)]
                    have gG3 : g_G L3 := g_G_fr L L3 (fun b hb => by rw [hL3 b (by omega), hL2 b (by omega) (by omega)]) (by rw [hL3 1469 (by decide), hL2 1469 (by decide) (by decide)]) (by rw [hL3 1469 (by decide), hL2 1469 (by decide) (by decide)]) (by rw [hL3 1469 (by decide), hL2 1469 (by decide) (by decide)]) hG
                    obtain ⟨k1, k2, k3, k4, k5, k6⟩ := hV
                    have n4 : ∀ q, ¬ q = 4 → am_u1 now.1 4 y q = now.1 q := fun q hq => am_u1_off _ _ hq
                    have n44 : am_u1 now.1 4 y 4 = y := am_u1_at _ _ _
                    refine hK L3 ⟨k1.fr (fun b h1 h2 => e6 b (by omega) (by omega) (by omega) (by omega) (by omega)) (fun b h1 h2 => e6 b (by omega) (by omega) (by omega) (by omega) (by omega)) (e68 3 (by decide) (by decide) (by decide)), vSt.put (now' := (am_u1 now.1 4 y, now.2.1, now.2.2)) hks hc hm h28 ⟨fun q hq => ?_, ok.2.1, ok.2.2⟩ (fun b h1 h2 => e6 b (by omega) (by omega) (by omega) (by omega) (by omega)) (by rw [e6 1336 (by decide) (by decide) (by decide) (by decide) (by decide)]) (e6 1489 (by decide) (by decide) (by decide) (by decide) (by decide)) (e68 28 (by decide) (by decide) (by decide)) ⟨fun q hq p hp => ?_, ?_, ?_⟩ ⟨fun q hq p hp => ?_, ?_, ?_⟩, k3.fr (fun b h1 h2 => e6 b (by omega) (by omega) (by omega) (by omega) (by omega)) (by rw [e6 12 (by decide) (by decide) (by decide) (by decide) (by decide)]) (e6 1490 (by decide) (by decide) (by decide) (by decide) (by decide)) (e6 1491 (by decide) (by decide) (by decide) (by decide) (by decide)) (e68 31 (by decide) (by decide) (by decide)) rfl, k4.fr (by rw [e6 1438 (by decide) (by decide) (by decide) (by decide) (by decide)]) (e68 9 (by decide) (by decide) (by decide)) (e6 1439 (by decide) (by decide) (by decide) (by decide) (by decide)) (e6 1476 (by decide) (by decide) (by decide) (by decide) (by decide)), k5.fr (e6 1463 (by decide) (by decide) (by decide) (by decide) (by decide)) (e6 1464 (by decide) (by decide) (by decide) (by decide) (by decide)) (e6 1492 (by decide) (by decide) (by decide) (by decide) (by decide)) (e6 1493 (by decide) (by decide) (by decide) (by decide) (by decide)) (fun _ _ => rfl) rfl, gG3⟩
                    · by_cases e : q = 4
                      · rw [e]
                        show a_pm (am_u1 now.1 4 y 4)
                        rw [n44]
                        exact ym.1
                      · show a_pm (am_u1 now.1 4 y q)
                        rw [n4 q e]
                        exact ok.1 q hq
                    · show L3 (1337 + 2 + q) p = nI (am_u1 now.1 4 y q p)
                      by_cases e : q = 4
                      · rw [e, n44, e5 _ (by omega) (by omega) (by omega) (by omega)]
                        exact hy4 p hp
                      · rw [n4 q e, e6 _ (by omega) (by omega) (by omega) (by omega) (by omega)]
                        exact hc.1.1 q hq p hp
                    · rw [e6 1337 (by decide) (by decide) (by decide) (by decide) (by decide)]
                      exact hc.1.2.1
                    · rw [e6 1337 (by decide) (by decide) (by decide) (by decide) (by decide)]
                      exact hc.1.2.2
                    · show L3 1470 (0 + (24 * q + p)) = nI (am_u1 now.1 4 y q p)
                      by_cases e : q = 4
                      · rw [e, n44, show 0 + (24 * 4 + p) = 96 + p by omega]
                        exact hj p hp
                      · rw [n4 q e, e69 _ (by omega)]
                        exact hm.1.1 q hq p hp
                    · rw [e69 _ (by omega)]
                      exact hm.1.2.1
                    · rw [e69 _ (by omega)]
                      exact hm.1.2.2
                exact cp 0 (by decide) L2 (fun _ _ => rfl) (fun j hj => absurd hj (Nat.not_lt_zero j)) fun _ _ => rfl
              · -- none is found
                have c3 : cF2 I J3 := fun c h1 h2 h3 => by rw [hJ3 c (by omega) h3, c2 c h1 h2 h3]
                obtain ⟨jV, jT, jS, jsh, jG⟩ := sames J3 c3
                refine oE_2 _ J3 (c3 0 (by decide) (by decide) (by decide)) fun K hK => M164 J3 jT jS jsh jG K fun L T hL hL68 hG hCT hwT hST hwt => am_step _ _ _ (b_M_retrace_164 (s_finds (wv := w_v pt m) (by decide) hCT hwT (fun k hk24 hkm => ⟨hwt _ (bitsK k hk24 hkm), vl _⟩) (by omega) (fun L2 y2 hL2 hy2 hfr2 => absurd hfno (fr_yes (mw_ta hwT) hwC.1 sm hST hSC (fun k q hk24 => (sm_D hwC hwT hSC hST hk24).symm) hfr2)) fun L2 hL2 hno2 => ⟨_, rfl, am_step _ _ _ (b_M_retrace_167 ⟨fun _ => ?_, fun e => absurd rfl e⟩)⟩))
                have vL : vV g_G L Lg rr n := by
                  have v95 : vV g_G (am_sr J3 1496 (L 1496)) Lg rr n := vV_95 jV fun c hc => am_sr_off _ _ hc
                  refine vV_mF v95 ⟨fun c h1 h2 => ?_, fun j h1 h2 h3 => ?_⟩ hG
                  · by_cases e : c = 1496
                    · rw [e, am_sr_at]
                    · rw [am_sr_off _ _ e, hL c (by omega) h2 e]
                  · rw [am_sr_off _ _ (by decide), hL68 j h1 h2 h3]
                exact hK L2 (vV_rst vL hL2)
          refine s_fillI (x := am_k (-4)) (by decide) r66 ⟨rfl, am_step _ _ _ (b_X_retrace_94 ?_)⟩
          refine pairs 0 (Nat.zero_le _) _ (fun c hc => am_sr_off _ _ hc) (fun p hp => ?_) fun x hx => absurd hx (Nat.not_lt_zero x)
          rw [am_sr_at, show w_s pt 0 = 0 from rfl, Nat.zero_testBit, if_neg (by decide)]
          exact am_fl_in _ _ hp
        · refine X47 _ (am_step _ _ _ (b_X_retrace_47 ⟨fun e => absurd e f1, fun _ => oE_2 _ I rfl fun K hK => M53 I hTs K (am_step _ _ _ (b_M_retrace_53 ⟨fun _ => hK I hV, fun e => absurd f2 e⟩))⟩))
      · refine am_in _ _ _ (am_step _ _ _ (b_X_retrace_0 (s_isOutside (by decide) ⟨_, rfl, am_step _ _ _ (b_X_retrace_6 ?_)⟩)))
        rw [w3]
        refine ⟨fun _ => s_isNoLane (by decide) ⟨_, rfl, am_step _ _ _ (b_X_retrace_14 ?_)⟩, fun q => absurd rfl q⟩
        rw [c3]
        have hb := bad (Or.inr ⟨w4, Or.inr ⟨c4, Or.inr ⟨c5, n4⟩⟩⟩)
        refine ⟨fun _ => ⟨fun _ => hb, fun q => ⟨fun _ => hb, fun q2 => absurd n3 fun h => h.elim q q2⟩⟩, fun q => absurd rfl q⟩
    · refine am_in _ _ _ (am_step _ _ _ (b_X_retrace_0 (s_isOutside (by decide) ⟨_, rfl, am_step _ _ _ (b_X_retrace_6 ?_)⟩)))
      rw [w3]
      refine ⟨fun _ => s_isNoLane (by decide) ⟨_, rfl, am_step _ _ _ (b_X_retrace_14 ?_)⟩, fun q => absurd rfl q⟩
      rw [c3]
      exact ⟨fun q => absurd q z10, fun _ => bad (Or.inr ⟨w4, c4.elim Or.inl fun h => Or.inr ⟨h.1, Or.inl h.2⟩⟩)⟩
  · refine am_in _ _ _ (am_step _ _ _ (b_X_retrace_0 (s_isOutside (by decide) ⟨_, rfl, am_step _ _ _ (b_X_retrace_6 ?_)⟩)))
    rw [w3]
    exact ⟨fun q => absurd q z10, fun _ => bad (Or.inl w4)⟩
end OR
