/-! OPERATIONS: holds, held -/
theorem sz_max {N : Nat} (h1 : 0 < N) (h2 : N < 2 ^ 31) : (if nI 1 < nI N then nI N else nI 1) = nI N := by
  by_cases c : nI 1 < nI N
  · rw [if_pos c]
  · rw [if_neg c]
    have : ¬ 1 < N := fun q => c (nI_lt q h2)
    rw [show N = 1 by omega]
section OH
variable {I : Nat → Nat → Int32} {Lg : Nat → Nat → Int64} {rr : Nat → Nat → Option Nat} {n : Nat}
theorem op_holds (a0 a1 : Int32) : lw_Op (vV g_G) k_X_holds k_M_holds [.int a0, .int a1] := by
  intro I Lg rr n hV
  show am_AC 100 k_X_holds _ _ (oE k_M_holds [.int a0, .int a1] I n)
  have hT := hV.1
  obtain ⟨now, us, ks, ok, hks, hc, hm, h28⟩ := hV.2.1
  have z10 : ¬ nI 1 = 0 := by decide
  have same : ∀ J, cF I J → vT J ∧ c_S J 1337 now ∧ m_S (J 1470) 0 now ∧ g_G J := fun J hJ => ⟨(vV_cF hV hJ).1, hc.1.fr fun b h1 h2 => hJ b (by omega), by rw [hJ 1470 (by decide)]; exact hm.1, (vV_cF hV hJ).2.2.2.2.2⟩
  rcases rng_cases a0 (N := 16) (by decide) (by decide) with ⟨w, w1, rfl, w3, w4, w5⟩ | ⟨w3, w4, w5⟩
  · rcases rng_cases a1 (N := 5) (by decide) (by decide) with ⟨c, c1, rfl, c3, c4, c5⟩ | ⟨c3, c4, c5⟩
    · have M21 : ∀ J, cF I J → ∀ K : Option Value → am_M → Prop, (g_ak now.1 w → am_St 99 k_M_holds (am_st J Lg rr n) K 21 [some (.ref 1469), some (.int (nI w)), some (.int (nI c)), none] [.int (nI 1)] (am_st J Lg rr n)) → (¬ g_ak now.1 w → K (some (.int (am_k (-2)))) (am_st J Lg rr n)) → am_AC 100 k_M_holds [.ref 1469, .int (nI w), .int (nI c)] (am_st J Lg rr n) K := fun J hJ K h1 h0 => by
        refine am_in _ _ _ (am_step _ _ _ (b_M_holds_0 (s_isGroup (by decide) ⟨_, rfl, am_step _ _ _ (b_M_holds_4 ?_)⟩)))
        rw [w4]
        refine ⟨fun q => absurd q z10, fun _ => s_isMove (by decide) ⟨_, rfl, am_step _ _ _ (b_M_holds_11 ?_)⟩⟩
        rw [c4]
        obtain ⟨j1, j2, j3, j4⟩ := same J hJ
        exact ⟨fun q => absurd q z10, fun _ => s_allKeep (by decide) j1 ok j3 w1 (fun q => ⟨_, rfl, h1 q⟩) fun q => ⟨_, rfl, am_step _ _ _ (b_M_holds_21 ⟨fun _ => h0 q, fun q => absurd rfl q⟩)⟩⟩
      refine am_in _ _ _ (am_step _ _ _ (b_X_holds_0 (s_isOutside (by decide) ⟨_, rfl, am_step _ _ _ (b_X_holds_6 ?_)⟩)))
      rw [w3]
      refine ⟨fun _ => s_isOutside (by decide) ⟨_, rfl, am_step _ _ _ (b_X_holds_14 ?_)⟩, fun q => absurd rfl q⟩
      rw [c3]
      refine ⟨fun _ => s_preserveCode (by decide) hT ok hc.1 w1 (fun hk => ⟨_, rfl, am_step _ _ _ (b_X_holds_24 ⟨fun q => absurd q z10, fun _ => ?_⟩)⟩) fun hk => ⟨_, rfl, am_step _ _ _ (b_X_holds_24 ⟨fun _ => ?_, fun q => absurd rfl q⟩)⟩, fun q => absurd rfl q⟩
      · refine s_buildChain (by decide) ok hc.1 w1 hk (by decide) fun J C hJ hC hw hS => ⟨rfl, am_step _ _ _ (b_X_holds_36 ?_)⟩
        have hJ : cF I J := fun c hc => hJ c (by omega)
        have xm := pe_n_m (ok.1 c c1)
        have mdl : ∀ (v : Nat) (J2 : Nat → Nat → Int32), (v = 1 ∧ ge (gs_ now.1 w) (pe_n (now.1 c)) ∨ v = 0 ∧ ¬ ge (gs_ now.1 w) (pe_n (now.1 c))) → cF I J2 → ∀ K : Option Value → am_M → Prop, (∀ L, mF J2 L → g_G L → K (some (.int (nI v))) (am_st L Lg rr n)) → am_AC 100 k_M_holds [.ref 1469, .int (nI w), .int (nI c)] (am_st J2 Lg rr n) K := fun v J2 hv hJ2 K hK => by
          refine M21 J2 hJ2 K (fun _ => am_step _ _ _ (b_M_holds_21 ⟨fun q => absurd q z10, fun _ => ?_⟩)) fun q => absurd hk q
          obtain ⟨j1, j2, j3, j4⟩ := same J2 hJ2
          refine s_builds (by decide) ok j3 w1 hk (by decide) j4 fun L T hL hG hCT hwT hST => ⟨rfl, am_step _ _ _ (b_M_holds_33 ?_)⟩
          have lp : ∀ p, p ≤ 24 → ∀ Q, nb1 L Q 1484 → (∀ j, j < p → Q 1484 j = nI (now.1 c j)) → am_St 99 k_M_holds (am_st J2 Lg rr n) K 35 [some (.ref 1469), some (.int (nI w)), some (.int (nI c)), some (.int (nI p))] [] (am_st Q Lg rr n) := by
            refine lp_up _ (fun p hp ih => ?_) ?_
            · intro Q hQ hj
              refine am_step _ _ _ (b_M_holds_35 ⟨fun _ => s_Mto (by decide) c1 hp (x := now.1 c p) (by rw [hQ 1470 (by decide), hL.1 1470 (by decide) (by decide)]; exact now_m j3 c1 p hp) ⟨_, rfl, am_step _ _ _ (b_M_holds_52 ?_)⟩, fun q => absurd (nI_lt hp (by decide)) q⟩)
              rw [n_un (show p < 2 ^ 32 by omega), nI_add]
              refine ⟨hp, ih _ (fun c hc => by rw [am_sr_off _ _ hc, hQ c hc]) fun j hjp => ?_⟩
              rw [am_sr_at]
              by_cases e : j = p
              · rw [e, am_u1_at]
              · rw [am_u1_off _ _ e]
                exact hj j (by omega)
            · intro Q hQ hj
              have hLQ : rst L Q := fun c _ h2 => hQ c h2
              have gfr : ∀ Q2, rst Q Q2 → g_G Q2 ∧ mF J2 Q2 := fun Q2 h2 => by
                have e : ∀ c, ¬ c = 1479 → ¬ c = 1484 → Q2 c = L c := fun c a1 a2 => by rw [h2 c a1 a2, hLQ c a1 a2]
                exact ⟨g_G_fr L Q2 (fun b hb => e b (by omega) (by omega)) (by rw [e 1469 (by decide) (by decide)]) (by rw [e 1469 (by decide) (by decide)]) (by rw [e 1469 (by decide) (by decide)]) hG, mF_t (bF_m hL) ⟨fun c a1 a2 => e c (by omega) (by omega), fun j _ _ _ => by rw [e 1469 (by decide) (by decide)]⟩⟩
              refine am_step _ _ _ (b_M_holds_35 ⟨fun q => absurd q (by decide), fun _ => s_sifts (by decide) (hCT.fr hLQ) hwT (x := pe_n (now.1 c)) (fun p hp => by rw [hj p hp, pe_at hp]) xm (fun hst Q2 hQ2 => ⟨_, rfl, am_step _ _ _ (b_M_holds_63 ⟨fun _ => ?_, fun q => absurd (by decide) q⟩)⟩) fun hst Q2 k y hQ2 hk24 _ _ _ _ _ _ => ⟨_, rfl, am_step _ _ _ (b_M_holds_63 ⟨fun q => absurd q (nz_lt k (by omega)), fun _ => ?_⟩)⟩⟩)
              · rcases hv with ⟨hv, _⟩ | ⟨_, hv⟩
                · rw [hv] at hK
                  exact hK Q2 (gfr Q2 hQ2).2 (gfr Q2 hQ2).1
                · exact absurd ((hST _).mp hst) hv
              · rcases hv with ⟨_, hv⟩ | ⟨hv, _⟩
                · exact absurd ((hST _).mpr hv) hst
                · rw [hv] at hK
                  exact hK Q2 (gfr Q2 hQ2).2 (gfr Q2 hQ2).1
          exact lp 0 (by decide) L (fun _ _ => rfl) fun j hj => absurd hj (Nat.not_lt_zero j)
        rw [n_un (show c < 2 ^ 32 by omega)]
        refine ⟨c1, am_obi (RR_now rr c c1) (s_contains (k := 0) (x := pe_n (now.1 c)) (by decide) (by decide) hC hw (ro_now c1) (fun p hp => by rw [hJ _ (by omega), pe_at hp]; exact now_x hc.1 c1 p hp) xm (fun j hj => absurd hj (Nat.not_lt_zero j)) (fun hst J2 hJ2 => ⟨_, rfl, am_step _ _ _ (b_X_holds_56 ⟨fun q => absurd q z10, fun _ => ?_⟩)⟩) fun hst J2 hJ2 => ⟨_, rfl, am_step _ _ _ (b_X_holds_56 ⟨fun _ => ?_, fun q => absurd rfl q⟩)⟩)⟩
        · have c2 : cF I J2 := fun c hc => by rw [hJ2 c (by omega), hJ c hc]
          exact oE_fin hV _ J2 c2 fun K hK => mdl 1 J2 (Or.inl ⟨rfl, (hS _).mp hst⟩) c2 K hK
        · have c2 : cF I J2 := fun c hc => by rw [hJ2 c (by omega), hJ c hc]
          exact oE_fin hV _ J2 c2 fun K hK => mdl 0 J2 (Or.inr ⟨rfl, fun q => hst ((hS _).mpr q)⟩) c2 K hK
      · exact oE_fin hV _ I (fun _ _ => rfl) fun K hK => M21 I (fun _ _ => rfl) K (fun q => absurd q hk) fun _ => hK I mF_r hV.2.2.2.2.2
    · refine am_in _ _ _ (am_step _ _ _ (b_X_holds_0 (s_isOutside (by decide) ⟨_, rfl, am_step _ _ _ (b_X_holds_6 ?_)⟩)))
      rw [w3]
      refine ⟨fun _ => s_isOutside (by decide) ⟨_, rfl, am_step _ _ _ (b_X_holds_14 ?_)⟩, fun q => absurd rfl q⟩
      rw [c3]
      refine ⟨fun q => absurd q z10, fun _ => oE_fin hV _ I (fun _ _ => rfl) fun K hK => am_in _ _ _ (am_step _ _ _ (b_M_holds_0 (s_isGroup (by decide) ⟨_, rfl, am_step _ _ _ (b_M_holds_4 ?_)⟩)))⟩
      rw [w4]
      refine ⟨fun q => absurd q z10, fun _ => s_isMove (by decide) ⟨_, rfl, am_step _ _ _ (b_M_holds_11 ?_)⟩⟩
      rw [c4]
      exact ⟨fun _ => hK I mF_r hV.2.2.2.2.2, fun q => absurd rfl q⟩
  · refine am_in _ _ _ (am_step _ _ _ (b_X_holds_0 (s_isOutside (by decide) ⟨_, rfl, am_step _ _ _ (b_X_holds_6 ?_)⟩)))
    rw [w3]
    refine ⟨fun q => absurd q z10, fun _ => oE_fin hV _ I (fun _ _ => rfl) fun K hK => am_in _ _ _ (am_step _ _ _ (b_M_holds_0 (s_isGroup (by decide) ⟨_, rfl, am_step _ _ _ (b_M_holds_4 ?_)⟩)))⟩
    rw [w4]
    exact ⟨fun _ => hK I mF_r hV.2.2.2.2.2, fun q => absurd rfl q⟩
theorem op_held (a0 a1 a2 : Int32) : lw_Op (vV g_G) k_X_held k_M_held [.int a0, .int a1, .int a2] := by
  intro I Lg rr n hV
  show am_AC 100 k_X_held _ _ (oE k_M_held [.int a0, .int a1, .int a2] I n)
  have hT := hV.1
  obtain ⟨now, us, ks, ok, hks, hc, hm, h28⟩ := hV.2.1
  have z10 : ¬ nI 1 = 0 := by decide
  have same : ∀ J, cF I J → vT J ∧ c_S J 1337 now ∧ m_S (J 1470) 0 now ∧ g_G J := fun J hJ => ⟨(vV_cF hV hJ).1, hc.1.fr fun b h1 h2 => hJ b (by omega), by rw [hJ 1470 (by decide)]; exact hm.1, (vV_cF hV hJ).2.2.2.2.2⟩
  have idF : cF I I := fun _ _ => rfl
  rcases rng_cases a0 (N := 16) (by decide) (by decide) with ⟨w, w1, rfl, w3, w4, w5⟩ | ⟨w3, w4, w5⟩
  · rcases set_cases a1 with ⟨s, s1, rfl, s3, s4⟩ | ⟨s3, s4⟩
    · rcases rng_cases a2 (N := 3) (by decide) (by decide) with ⟨c, c1, rfl, c3, c4, c5⟩ | ⟨c3, c4, c5⟩
      · have M33 : ∀ J, cF I J → ∀ K : Option Value → am_M → Prop, (g_ak now.1 w → am_St 99 k_M_held (am_st J Lg rr n) K 33 [some (.ref 1469), some (.int (nI w)), some (.int (nI s)), some (.int (nI c))] [.int (nI 1)] (am_st J Lg rr n)) → (¬ g_ak now.1 w → K (some (.int (am_k (-2)))) (am_st J Lg rr n)) → am_AC 100 k_M_held [.ref 1469, .int (nI w), .int (nI s), .int (nI c)] (am_st J Lg rr n) K := fun J hJ K h1 h0 => by
          refine am_in _ _ _ (am_step _ _ _ (b_M_held_0 (s_isGroup (by decide) ⟨_, rfl, am_step _ _ _ (b_M_held_4 ?_)⟩)))
          rw [w4]
          refine ⟨fun q => absurd q z10, fun _ => s_isSet (by decide) ⟨_, rfl, am_step _ _ _ (b_M_held_11 ?_)⟩⟩
          rw [s4]
          refine ⟨fun q => absurd q z10, fun _ => s_in (by decide) ⟨_, rfl, am_step _ _ _ (b_M_held_23 ?_)⟩⟩
          rw [c5]
          obtain ⟨j1, j2, j3, j4⟩ := same J hJ
          exact ⟨fun q => absurd q z10, fun _ => s_allKeep (by decide) j1 ok j3 w1 (fun q => ⟨_, rfl, h1 q⟩) fun q => ⟨_, rfl, am_step _ _ _ (b_M_held_33 ⟨fun _ => h0 q, fun q => absurd rfl q⟩)⟩⟩
        refine am_in _ _ _ (am_step _ _ _ (b_X_held_0 (s_isOutside (by decide) ⟨_, rfl, am_step _ _ _ (b_X_held_6 ?_)⟩)))
        rw [w3]
        refine ⟨fun _ => s_isNoSet (by decide) ⟨_, rfl, am_step _ _ _ (b_X_held_13 ?_)⟩, fun q => absurd rfl q⟩
        rw [s3]
        refine ⟨fun _ => s_isOutside (by decide) ⟨_, rfl, am_step _ _ _ (b_X_held_21 ?_)⟩, fun q => absurd rfl q⟩
        rw [c3]
        refine ⟨fun _ => s_preserveCode (by decide) hT ok hc.1 w1 (fun hk => ⟨_, rfl, am_step _ _ _ (b_X_held_31 ⟨fun q => absurd q z10, fun _ => ?_⟩)⟩) fun hk => ⟨_, rfl, am_step _ _ _ (b_X_held_31 ⟨fun _ => ?_, fun q => absurd rfl q⟩)⟩, fun q => absurd rfl q⟩
        · have hcc : c = 0 ∨ c = 1 ∨ c = 2 := by omega
          rcases hcc with rfl | rfl | rfl
          · refine ⟨fun q => absurd q (by decide), fun _ => ⟨fun _ => s_reachedFrom (by decide) ok hc.1 w1 s1 ⟨_, rfl, am_step _ _ _ (b_X_held_86 ?_)⟩, fun q => absurd rfl q⟩⟩
            refine oE_fin hV _ I idF fun K hK => M33 I idF K (fun _ => am_step _ _ _ (b_M_held_33 ⟨fun q => absurd q z10, fun _ => ⟨fun q => absurd q (by decide), fun _ => ⟨fun _ => ?_, fun q => absurd rfl q⟩⟩⟩)) fun q => absurd hk q
            exact s_reaches (by decide) ok hm.1 w1 s1 ⟨_, rfl, am_step _ _ _ (b_M_held_62 (hK I mF_r hV.2.2.2.2.2))⟩
          · have ps := pcn_le 24 s s1
            refine ⟨fun q => absurd q (by decide), fun _ => ⟨fun q => absurd q (by decide), fun _ => ⟨fun _ => s_buildChain (by decide) ok hc.1 w1 hk s1 fun J C hJ hC hw hS => ⟨rfl, am_step _ _ _ (b_X_held_93 (s_bitCount (by decide) s1 ⟨_, rfl, am_step _ _ _ (b_X_held_101 (s_orderFrom (by decide) hC ps ⟨_, rfl, am_step _ _ _ (b_X_held_104 ?_)⟩))⟩))⟩, fun q => absurd rfl q⟩⟩⟩
            have hJ : cF I J := fun c hc => hJ c (by omega)
            obtain ⟨j1, j2, j3, j4⟩ := same J hJ
            refine oE_fin hV _ J hJ fun K hK => M33 J hJ K (fun _ => am_step _ _ _ (b_M_held_33 ⟨fun q => absurd q z10, fun _ => ⟨fun q => absurd q (by decide), fun _ => ⟨fun q => absurd q (by decide), fun _ => ?_⟩⟩⟩)) fun q => absurd hk q
            refine s_builds (by decide) ok j3 w1 hk s1 j4 fun L T hL hG hCT hwT hST => ⟨rfl, am_step _ _ _ (b_M_held_69 ⟨fun _ => s_bits (by decide) (by omega) ⟨_, rfl, am_step _ _ _ (b_M_held_79 (s_manyFrom (by decide) hCT hwT ps ⟨_, rfl, am_step _ _ _ (b_M_held_82 ?_)⟩))⟩, fun q => absurd rfl q⟩)⟩
            rw [← sm_pr hw hwT hS hST (by omega)]
            exact hK L (bF_m hL) hG
          · refine ⟨fun _ => s_isWord (by decide) hT s1 (fun hW => ⟨_, rfl, am_step _ _ _ (b_X_held_47 ⟨fun q => absurd q z10, fun _ => ⟨fun q => absurd q (by decide), fun _ => ⟨fun q => absurd q (by decide), fun _ => ?_⟩⟩⟩)⟩) fun hW => ⟨_, rfl, am_step _ _ _ (b_X_held_47 ⟨fun _ => ?_, fun q => absurd rfl q⟩)⟩, fun q => absurd rfl q⟩
            · refine s_buildChain (by decide) ok hc.1 w1 hk (by decide) fun J C hJ hC hw hS => ⟨rfl, am_step _ _ _ (b_X_held_111 ?_)⟩
              have hJ : cF I J := fun c hc => hJ c (by omega)
              obtain ⟨j1, j2, j3, j4⟩ := same J hJ
              refine s_findOrbits (by decide) j1 ok j2 w1 (by decide) rfl fun J2 ρ hJo hR => ⟨rfl, am_step _ _ _ (b_X_held_117 ?_)⟩
              have hC2 : c_C J2 (bs 0) C := hC.fr hw fun a h1 h2 => hJo.1 a (by omega) (by omega) (by omega)
              refine s_orderFrom (by decide) hC2 (by decide) ⟨_, rfl, am_step _ _ _ (b_X_held_125 (s_place (by decide) (by omega) ⟨_, rfl, am_step _ _ _ (b_X_held_134 (s_sizeOf (x := g_pl s) (by decide) (by decide) (pl_lt s) hJo fun J3 hJ3 => ⟨_, rfl, am_step _ _ _ (b_X_held_137 ?_)⟩))⟩))⟩
              have zl := cnt_le (fun i => decide (ρ i = ρ (g_pl s))) 4096
              have zp : 0 < g_cnt (fun i => decide (ρ i = ρ (g_pl s))) 4096 := Nat.lt_of_le_of_lt (Nat.zero_le _) (cnt_lt (P := fun i => decide (ρ i = ρ (g_pl s))) (pl_lt s) (decide_eq_true rfl))
              have c3 : cF I J3 := fun c hc => by rw [hJ3.1 c (by omega) (by omega) (by omega), hJ c hc]
              generalize hz : g_cnt (fun i => decide (ρ i = ρ (g_pl s))) 4096 = z at zl zp ⊢
              rw [sz_max zp (by omega)]
              have znz : ¬ nI z = 0 := fun q => by
                have q : nI z = nI 0 := q
                rw [nI_eq (by omega) (by decide)] at q
                omega
              refine am_gi (by rw [decide_eq_false znz]; rfl) ?_
              obtain ⟨j1, j2, j3, j4⟩ := same J3 c3
              refine oE_fin hV _ J3 c3 fun K hK => M33 J3 c3 K (fun _ => am_step _ _ _ (b_M_held_33 ⟨fun q => absurd q z10, fun _ => ⟨fun _ => s_MnumberOf (by decide) j1 s1 (fun _ => ⟨_, rfl, am_step _ _ _ (b_M_held_46 ⟨fun q => absurd q (nz_lt _ (by have := g_N_lt (g_pl s); omega)), fun _ => ⟨fun q => absurd q (by decide), fun _ => ?_⟩⟩)⟩) fun q => absurd hW q, fun q => absurd rfl q⟩⟩)) fun q => absurd hk q
              refine s_builds (by decide) ok j3 w1 hk s1 j4 fun L T hL hG hCT hwT hST => ⟨rfl, am_step _ _ _ (b_M_held_69 ⟨fun q => absurd q (by decide), fun _ => ?_⟩)⟩
              have vL := vV_mF (vV_cF hV c3) (bF_m hL) hG
              have mS : m_S (L 1470) 0 now := by
                rw [hL.1 1470 (by decide) (by decide)]
                exact j3
              refine s_imagesOf (by decide) vL.1 ok mS w1 hk fun L2 hL2 hix => ⟨rfl, am_step _ _ _ (b_M_held_88 (s_unmarks (by decide) fun L3 hL3 hun => ⟨rfl, am_step _ _ _ (b_M_held_92 ?_)⟩))⟩
              have e3 : ∀ c, ¬ c = 1486 → ¬ c = 1487 → L3 c = L c := fun c a1 a2 => by rw [hL3 c a2, hL2 c a1]
              have hCT3 : m_C L3 (bs s) T := ⟨by rw [e3 1469 (by decide) (by decide)]; exact hCT.1, fun k hk => by rw [e3 1480 (by decide) (by decide)]; exact hCT.2.1 k hk, fun k q a1 a2 => by rw [e3 1481 (by decide) (by decide)]; exact hCT.2.2.1 k q a1 a2, fun e he => by rw [e3 1483 (by decide) (by decide), e3 1482 (by decide) (by decide)]; exact hCT.2.2.2 e he⟩
              have mL3 : mF L L3 := ⟨fun c a1 a2 => e3 c (by omega) (by omega), fun j _ _ _ => by rw [e3 1469 (by decide) (by decide)]⟩
              have gfr : ∀ Q, (∀ b, ¬ b = 1487 → ¬ b = 1488 → Q b = L3 b) → g_G Q ∧ mF J3 Q := fun Q hQ => by
                have e : ∀ c, ¬ c = 1486 → ¬ c = 1487 → ¬ c = 1488 → Q c = L c := fun c a1 a2 a3 => by rw [hQ c a2 a3, e3 c a1 a2]
                exact ⟨g_G_fr L Q (fun b hb => e b (by omega) (by omega) (by omega)) (by rw [e 1469 (by decide) (by decide) (by decide)]) (by rw [e 1469 (by decide) (by decide) (by decide)]) (by rw [e 1469 (by decide) (by decide) (by decide)]) hG, mF_t (bF_m hL) ⟨fun c a1 a2 => e c (by omega) (by omega) (by omega), fun j _ _ _ => by rw [e 1469 (by decide) (by decide) (by decide)]⟩⟩
              have vL3 := vV_mF vL mL3 (gfr L3 fun _ _ _ => rfl).1
              have hix3 : g_ix now w L3 := fun m hm4 k hk12 => by rw [hL3 1486 (by decide)]; exact hix m hm4 k hk12
              refine s_manyFrom (by decide) hCT3 hwT (by decide) ⟨_, rfl, am_step _ _ _ (b_M_held_97 (s_MnumberOf (by decide) vL3.1 s1 (fun _ => ⟨_, rfl, am_step _ _ _ (b_M_held_103 (s_spreads (M := fun _ => false) (by decide) hR ok hk hix3 (g_N_lt _) (fun _ _ _ _ _ => rfl) (fun _ _ _ => rfl) (fun y hy => hun y hy) (fun q => by cases q) fun _ Q hQ _ => ⟨_, rfl, am_step _ _ _ (b_M_held_106 ?_)⟩))⟩) fun q => absurd hW q))⟩
              rw [sg_N (pl_lt s), hz]
              refine am_gi (by rw [decide_eq_false znz]; rfl) ?_
              rw [← sm_24 hw hwT hS hST]
              exact hK Q (gfr Q hQ).2 (gfr Q hQ).1
            · refine oE_fin hV _ I idF fun K hK => M33 I idF K (fun _ => am_step _ _ _ (b_M_held_33 ⟨fun q => absurd q z10, fun _ => ⟨fun _ => s_MnumberOf (by decide) hT s1 (fun q => absurd q hW) fun _ => ⟨_, rfl, am_step _ _ _ (b_M_held_46 ⟨fun _ => hK I mF_r hV.2.2.2.2.2, fun q => absurd (by decide) q⟩)⟩, fun q => absurd rfl q⟩⟩)) fun q => absurd hk q
        · exact oE_fin hV _ I idF fun K hK => M33 I idF K (fun q => absurd q hk) fun _ => hK I mF_r hV.2.2.2.2.2
      · refine am_in _ _ _ (am_step _ _ _ (b_X_held_0 (s_isOutside (by decide) ⟨_, rfl, am_step _ _ _ (b_X_held_6 ?_)⟩)))
        rw [w3]
        refine ⟨fun _ => s_isNoSet (by decide) ⟨_, rfl, am_step _ _ _ (b_X_held_13 ?_)⟩, fun q => absurd rfl q⟩
        rw [s3]
        refine ⟨fun _ => s_isOutside (by decide) ⟨_, rfl, am_step _ _ _ (b_X_held_21 ?_)⟩, fun q => absurd rfl q⟩
        rw [c3]
        refine ⟨fun q => absurd q z10, fun _ => oE_fin hV _ I idF fun K hK => am_in _ _ _ (am_step _ _ _ (b_M_held_0 (s_isGroup (by decide) ⟨_, rfl, am_step _ _ _ (b_M_held_4 ?_)⟩)))⟩
        rw [w4]
        refine ⟨fun q => absurd q z10, fun _ => s_isSet (by decide) ⟨_, rfl, am_step _ _ _ (b_M_held_11 ?_)⟩⟩
        rw [s4]
        refine ⟨fun q => absurd q z10, fun _ => s_in (by decide) ⟨_, rfl, am_step _ _ _ (b_M_held_23 ?_)⟩⟩
        rw [c5]
        exact ⟨fun _ => hK I mF_r hV.2.2.2.2.2, fun q => absurd rfl q⟩
    · refine am_in _ _ _ (am_step _ _ _ (b_X_held_0 (s_isOutside (by decide) ⟨_, rfl, am_step _ _ _ (b_X_held_6 ?_)⟩)))
      rw [w3]
      refine ⟨fun _ => s_isNoSet (by decide) ⟨_, rfl, am_step _ _ _ (b_X_held_13 ?_)⟩, fun q => absurd rfl q⟩
      rw [s3]
      refine ⟨fun q => absurd q z10, fun _ => oE_fin hV _ I idF fun K hK => am_in _ _ _ (am_step _ _ _ (b_M_held_0 (s_isGroup (by decide) ⟨_, rfl, am_step _ _ _ (b_M_held_4 ?_)⟩)))⟩
      rw [w4]
      refine ⟨fun q => absurd q z10, fun _ => s_isSet (by decide) ⟨_, rfl, am_step _ _ _ (b_M_held_11 ?_)⟩⟩
      rw [s4]
      exact ⟨fun _ => hK I mF_r hV.2.2.2.2.2, fun q => absurd rfl q⟩
  · refine am_in _ _ _ (am_step _ _ _ (b_X_held_0 (s_isOutside (by decide) ⟨_, rfl, am_step _ _ _ (b_X_held_6 ?_)⟩)))
    rw [w3]
    refine ⟨fun q => absurd q z10, fun _ => oE_fin hV _ I idF fun K hK => am_in _ _ _ (am_step _ _ _ (b_M_held_0 (s_isGroup (by decide) ⟨_, rfl, am_step _ _ _ (b_M_held_4 ?_)⟩)))⟩
    rw [w4]
    exact ⟨fun _ => hK I mF_r hV.2.2.2.2.2, fun q => absurd rfl q⟩
end OH
