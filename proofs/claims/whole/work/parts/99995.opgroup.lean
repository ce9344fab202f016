/-! OPERATIONS: group, held, holds -/
def cF (I J : Nat → Nat → Int32) : Prop := ∀ c, ¬ (26 ≤ c ∧ c ≤ 1335) → J c = I c
def mF (I J : Nat → Nat → Int32) : Prop := (∀ c, ¬ (1479 ≤ c ∧ c ≤ 1488) → ¬ c = 1469 → J c = I c) ∧ ∀ j, ¬ j = 19 → ¬ j = 21 → ¬ j = 22 → J 1469 j = I 1469 j
theorem mF_r {I : Nat → Nat → Int32} : mF I I := ⟨fun _ _ _ => rfl, fun _ _ _ _ => rfl⟩
theorem bF_m {I J : Nat → Nat → Int32} (h : bF I J) : mF I J := ⟨fun c h1 h2 => h.1 c (by omega) h2, h.2⟩
theorem mF_t {I J L : Nat → Nat → Int32} (h : mF I J) (h2 : mF J L) : mF I L := ⟨fun c h1 h3 => by rw [h2.1 c h1 h3, h.1 c h1 h3], fun j h1 h3 h4 => by rw [h2.2 j h1 h3 h4, h.2 j h1 h3 h4]⟩
theorem vV_cF {I J : Nat → Nat → Int32} {Lg : Nat → Nat → Int64} {rr : Nat → Nat → Option Nat} {n : Nat} (h : vV g_G I Lg rr n) (hJ : cF I J) : vV g_G J Lg rr n :=
  h.scr g_G_fr ⟨fun b hb => hJ b (by omega), by rw [hJ 1438 (by decide)], fun j _ _ _ => by rw [hJ 1469 (by decide)]⟩ (fun _ _ => rfl) fun _ _ => rfl
theorem vV_mF {I J : Nat → Nat → Int32} {Lg : Nat → Nat → Int64} {rr : Nat → Nat → Option Nat} {n : Nat} (h : vV g_G I Lg rr n) (hJ : mF I J) (hG : g_G J) : vV g_G J Lg rr n := by
  obtain ⟨h1, h2, h3, h4, h5, h6⟩ := h
  have k : ∀ c, ¬ (1479 ≤ c ∧ c ≤ 1488) → ¬ c = 1469 → J c = I c := hJ.1
  exact ⟨h1.fr (fun b b1 b2 => k b (by omega) (by omega)) (fun b b1 b2 => k b (by omega) (by omega)) (hJ.2 3 (by decide) (by decide) (by decide)), h2.fr (fun b b1 b2 => k b (by omega) (by omega)) (k _ (by omega) (by omega)) (k _ (by omega) (by omega)) (hJ.2 28 (by decide) (by decide) (by decide)) rfl, h3.fr (fun b b1 b2 => k b (by omega) (by omega)) (by rw [k 12 (by omega) (by omega)]) (k _ (by omega) (by omega)) (k _ (by omega) (by omega)) (hJ.2 31 (by decide) (by decide) (by decide)) rfl, h4.fr (by rw [k 1438 (by omega) (by omega)]) (hJ.2 9 (by decide) (by decide) (by decide)) (k _ (by omega) (by omega)) (k _ (by omega) (by omega)), h5.fr (k _ (by omega) (by omega)) (k _ (by omega) (by omega)) (k _ (by omega) (by omega)) (k _ (by omega) (by omega)) (fun s hs => rfl) rfl, hG⟩
section SM
variable {b : Nat → Nat} {C : c_T} {T : m_Tt} {S : (Nat → Nat) → Prop}
theorem sm_D (hC : cw b C) (hT : mw b T) (h1 : ∀ x, st (t_D C) (t_u C) 24 x ↔ ge S x) (h2 : ∀ x, st (mt_D b T) (mt_u T) 24 x ↔ ge S x) {k q : Nat} (hk : k < 24) : t_D C k q ↔ mt_D b T k q := by
  rw [st_det hC.1 h1 hk, st_det (mw_ta hT) h2 hk]
theorem sm_s (hC : cw b C) (hT : mw b T) (h1 : ∀ x, st (t_D C) (t_u C) 24 x ↔ ge S x) (h2 : ∀ x, st (mt_D b T) (mt_u T) 24 x ↔ ge S x) {k : Nat} (hk : k < 24) : C.1 k = mt_s b T k := by
  obtain ⟨o, ho⟩ := mt_eo b T k
  exact eo_uni (hC.2.2 k hk).2.1 ho fun q => sm_D hC hT h1 h2 hk
theorem sm_pr (hC : cw b C) (hT : mw b T) (h1 : ∀ x, st (t_D C) (t_u C) 24 x ↔ ge S x) (h2 : ∀ x, st (mt_D b T) (mt_u T) 24 x ↔ ge S x) {m : Nat} (hm : m ≤ 24) : pr C.1 m = pr (mt_s b T) m := pr_loc m hm fun i _ h => sm_s hC hT h1 h2 h
/-- the order does not hang on the base -/
theorem sm_24 {b2 : Nat → Nat} (hC : cw b C) (hT : mw b2 T) (h1 : ∀ x, st (t_D C) (t_u C) 24 x ↔ ge S x) (h2 : ∀ x, st (mt_D b2 T) (mt_u T) 24 x ↔ ge S x) : pr C.1 24 = pr (mt_s b2 T) 24 := by
  obtain ⟨o, ho⟩ := mt_eos b2 T
  obtain ⟨e, he⟩ := st_en hC.1 (fun k hk => (hC.2.2 k hk).2.1) 24 (Nat.le_refl _)
  obtain ⟨e2, he2⟩ := st_en (mw_ta hT) ho 24 (Nat.le_refl _)
  exact en_uni he he2 fun x => (h1 x).trans (h2 x).symm
end SM
section OG
variable {kx km : Nat} {as : List Value} {I : Nat → Nat → Int32} {Lg : Nat → Nat → Int64} {rr : Nat → Nat → Option Nat} {n : Nat}
def oE (km : Nat) (as : List Value) (I : Nat → Nat → Int32) (n : Nat) : Option Value → am_M → Prop := am_qi fun x M1 => ∃ I1 Lg1 rr1, M1 = am_st I1 Lg1 rr1 n ∧ I1 0 = I 0 ∧ am_AC 100 km (.ref 1469 :: as) M1 (am_qi fun y M2 => ∃ I2 Lg2 rr2, M2 = am_st I2 Lg2 rr2 n ∧ y = x ∧ vV g_G I2 Lg2 rr2 n)
theorem oE_fin (hV : vV g_G I Lg rr n) (x : Int32) (J : Nat → Nat → Int32) (hJ : cF I J) (h : ∀ K : Option Value → am_M → Prop, (∀ L, mF J L → g_G L → K (some (.int x)) (am_st L Lg rr n)) → am_AC 100 km (.ref 1469 :: as) (am_st J Lg rr n) K) : oE km as I n (some (.int x)) (am_st J Lg rr n) :=
  ⟨x, rfl, J, Lg, rr, rfl, hJ 0 (by decide), h _ fun L h1 h2 => ⟨x, rfl, L, Lg, rr, rfl, rfl, vV_mF (vV_cF hV hJ) h1 h2⟩⟩
theorem op_group (a0 a1 : Int32) : lw_Op (vV g_G) k_X_group k_M_group [.int a0, .int a1] := by
  intro I Lg rr n hV
  show am_AC 100 k_X_group _ _ (oE k_M_group [.int a0, .int a1] I n)
  have hT := hV.1
  obtain ⟨now, us, ks, ok, hks, hc, hm, h28⟩ := hV.2.1
  have z10 : ¬ nI 1 = 0 := by decide
  have same : ∀ J, cF I J → vT J ∧ c_S J 1337 now ∧ m_S (J 1470) 0 now ∧ g_G J := fun J hJ => ⟨(vV_cF hV hJ).1, hc.1.fr fun b h1 h2 => hJ b (by omega), by rw [hJ 1470 (by decide)]; exact hm.1, (vV_cF hV hJ).2.2.2.2.2⟩
  rcases rng_cases a0 (N := 16) (by decide) (by decide) with ⟨w, w1, rfl, w3, w4, w5⟩ | ⟨w3, w4, w5⟩
  · rcases rng_cases a1 (N := 5) (by decide) (by decide) with ⟨c, c1, rfl, c3, c4, c5⟩ | ⟨c3, c4, c5⟩
    · have X24 : ∀ K : Option Value → am_M → Prop, (g_ak now.1 w → am_St 99 k_X_group (am_st I Lg rr n) K 24 [some (.ref 12), some (.int (nI w)), some (.int (nI c))] [.int (nI 1)] (am_st I Lg rr n)) → (¬ g_ak now.1 w → K (some (.int (am_k (-2)))) (am_st I Lg rr n)) → am_AC 100 k_X_group [.ref 12, .int (nI w), .int (nI c)] (am_st I Lg rr n) K := fun K h1 h0 => by
        refine am_in _ _ _ (am_step _ _ _ (b_X_group_0 (s_isOutside (by decide) ⟨_, rfl, am_step _ _ _ (b_X_group_6 ?_)⟩)))
        rw [w3]
        refine ⟨fun _ => s_isOutside (by decide) ⟨_, rfl, am_step _ _ _ (b_X_group_14 ?_)⟩, fun q => absurd rfl q⟩
        rw [c3]
        exact ⟨fun _ => s_preserveCode (by decide) hT ok hc.1 w1 (fun q => ⟨_, rfl, h1 q⟩) fun q => ⟨_, rfl, am_step _ _ _ (b_X_group_24 ⟨fun _ => h0 q, fun q => absurd rfl q⟩)⟩, fun q => absurd rfl q⟩
      have M26 : ∀ J, cF I J → ∀ K : Option Value → am_M → Prop, (g_ak now.1 w → am_St 99 k_M_group (am_st J Lg rr n) K 26 [some (.ref 1469), some (.int (nI w)), some (.int (nI c))] [.int (nI 1)] (am_st J Lg rr n)) → (¬ g_ak now.1 w → K (some (.int (am_k (-2)))) (am_st J Lg rr n)) → am_AC 100 k_M_group [.ref 1469, .int (nI w), .int (nI c)] (am_st J Lg rr n) K := fun J hJ K h1 h0 => by
        refine am_in _ _ _ (am_step _ _ _ (b_M_group_0 (s_isGroup (by decide) ⟨_, rfl, am_step _ _ _ (b_M_group_4 ?_)⟩)))
        rw [w4]
        refine ⟨fun q => absurd q z10, fun _ => s_in (by decide) ⟨_, rfl, am_step _ _ _ (b_M_group_16 ?_)⟩⟩
        rw [c5]
        obtain ⟨j1, j2, j3, j4⟩ := same J hJ
        exact ⟨fun q => absurd q z10, fun _ => s_allKeep (by decide) j1 ok j3 w1 (fun q => ⟨_, rfl, h1 q⟩) fun q => ⟨_, rfl, am_step _ _ _ (b_M_group_26 ⟨fun _ => h0 q, fun q => absurd rfl q⟩)⟩⟩
      by_cases hk : g_ak now.1 w
      · have hcc : c = 0 ∨ c = 1 ∨ c = 2 ∨ c = 3 ∨ c = 4 := by omega
        refine X24 _ (fun _ => am_step _ _ _ (b_X_group_24 ⟨fun q => absurd q z10, fun _ => ?_⟩)) fun q => absurd hk q
        rcases hcc with rfl | rfl | rfl | rfl | rfl
        · refine ⟨fun _ => s_buildChain (by decide) ok hc.1 w1 hk (by decide) fun J C hJ hC hw hS => ⟨rfl, am_step _ _ _ (b_X_group_66 (s_orderFrom (by decide) hC (by decide) ⟨_, rfl, am_step _ _ _ (b_X_group_74 ?_)⟩))⟩, fun q => absurd rfl q⟩
          have hJ : cF I J := fun c hc => hJ c (by omega)
          refine oE_fin hV _ J hJ fun K hK => M26 J hJ K (fun _ => am_step _ _ _ (b_M_group_26 ⟨fun q => absurd q z10, fun _ => ⟨fun _ => ?_, fun q => absurd rfl q⟩⟩)) fun q => absurd hk q
          obtain ⟨j1, j2, j3, j4⟩ := same J hJ
          refine s_builds (by decide) ok j3 w1 hk (by decide) j4 fun L T hL hG hCT hwT hST => ⟨rfl, am_step _ _ _ (b_M_group_74 (s_manyFrom (by decide) hCT hwT (by decide) ⟨_, rfl, am_step _ _ _ (b_M_group_79 ?_)⟩))⟩
          rw [← sm_pr hw hwT hS hST (by decide)]
          exact hK L (bF_m hL) hG
        · refine ⟨fun q => absurd q (by decide), fun _ => ⟨fun _ => s_findOrbits (by decide) hT ok hc.1 w1 (by decide) rfl fun J ρ hJo hR => ⟨rfl, am_step _ _ _ (b_X_group_81 (s_number (by decide) (by decide) hJo ⟨_, rfl, am_step _ _ _ (b_X_group_88 ?_)⟩))⟩, fun q => absurd rfl q⟩⟩
          have hJ : cF I J := fun c hc => hJo.1 c (by omega) (by omega) (by omega)
          obtain ⟨j1, j2, j3, j4⟩ := same J hJ
          exact oE_fin hV _ J hJ fun K hK => M26 J hJ K (fun _ => am_step _ _ _ (b_M_group_26 ⟨fun q => absurd q z10, fun _ => ⟨fun q => absurd q (by decide), fun _ => ⟨fun _ => s_orbitsOfPlaces (by decide) ok j3 w1 hR ⟨_, rfl, am_step _ _ _ (b_M_group_85 (hK J mF_r j4))⟩, fun q => absurd rfl q⟩⟩⟩)) fun q => absurd hk q
        · refine ⟨fun q => absurd q (by decide), fun _ => ⟨fun q => absurd q (by decide), fun _ => ⟨fun _ => s_findOrbits (by decide) hT ok hc.1 w1 (by decide) rfl fun J ρ hJo hR => ⟨rfl, am_step _ _ _ (b_X_group_95 (s_numberOfWeight (S := g_w) (by decide) (by decide) hJo ⟨rfl, rfl, by decide, by decide⟩ (fun i hi => ⟨by rw [hJo.1 20 (by decide) (by decide) (by decide)]; exact hT.2.1.1 i hi, g_w_lt i⟩) ⟨_, rfl, am_step _ _ _ (b_X_group_111 ?_)⟩))⟩, fun q => absurd rfl q⟩⟩⟩
          have hJ : cF I J := fun c hc => hJo.1 c (by omega) (by omega) (by omega)
          obtain ⟨j1, j2, j3, j4⟩ := same J hJ
          exact oE_fin hV _ J hJ fun K hK => M26 J hJ K (fun _ => am_step _ _ _ (b_M_group_26 ⟨fun q => absurd q z10, fun _ => ⟨fun q => absurd q (by decide), fun _ => ⟨fun q => absurd q (by decide), fun _ => ⟨fun _ => ⟨fun _ => s_orbitsOfWords (by decide) (by decide) j1 hR ok j3 w1 hk fun L hL => ⟨_, rfl, am_step _ _ _ (b_M_group_109 (hK L ⟨fun c h1 h2 => hL c (by omega) (by omega) (by omega), fun j _ _ _ => by rw [hL 1469 (by decide) (by decide) (by decide)]⟩ (g_G_fr J L (fun b hb => hL b (by omega) (by omega) (by omega)) (by rw [hL 1469 (by decide) (by decide) (by decide)]) (by rw [hL 1469 (by decide) (by decide) (by decide)]) (by rw [hL 1469 (by decide) (by decide) (by decide)]) j4)))⟩, fun q => absurd rfl q⟩, fun q => absurd rfl q⟩⟩⟩⟩)) fun q => absurd hk q
        · refine ⟨fun q => absurd q (by decide), fun _ => ⟨fun q => absurd q (by decide), fun _ => ⟨fun q => absurd q (by decide), fun _ => ⟨fun _ => s_findOrbits (by decide) hT ok hc.1 w1 (by decide) rfl fun J ρ hJo hR => ⟨rfl, am_step _ _ _ (b_X_group_118 (s_numberOfWeight (S := g_w) (by decide) (by decide) hJo ⟨rfl, rfl, by decide, by decide⟩ (fun i hi => ⟨by rw [hJo.1 20 (by decide) (by decide) (by decide)]; exact hT.2.1.1 i hi, g_w_lt i⟩) ⟨_, rfl, am_step _ _ _ (b_X_group_134 ?_)⟩))⟩, fun q => absurd rfl q⟩⟩⟩⟩
          have hJ : cF I J := fun c hc => hJo.1 c (by omega) (by omega) (by omega)
          obtain ⟨j1, j2, j3, j4⟩ := same J hJ
          exact oE_fin hV _ J hJ fun K hK => M26 J hJ K (fun _ => am_step _ _ _ (b_M_group_26 ⟨fun q => absurd q z10, fun _ => ⟨fun q => absurd q (by decide), fun _ => ⟨fun q => absurd q (by decide), fun _ => ⟨fun q => absurd q (by decide), fun _ => ⟨fun _ => ⟨fun q => absurd q (by decide), fun _ => s_orbitsOfWords (by decide) (by decide) j1 hR ok j3 w1 hk fun L hL => ⟨_, rfl, am_step _ _ _ (b_M_group_109 (hK L ⟨fun c h1 h2 => hL c (by omega) (by omega) (by omega), fun j _ _ _ => by rw [hL 1469 (by decide) (by decide) (by decide)]⟩ (g_G_fr J L (fun b hb => hL b (by omega) (by omega) (by omega)) (by rw [hL 1469 (by decide) (by decide) (by decide)]) (by rw [hL 1469 (by decide) (by decide) (by decide)]) (by rw [hL 1469 (by decide) (by decide) (by decide)]) j4)))⟩⟩, fun q => absurd rfl q⟩⟩⟩⟩⟩)) fun q => absurd hk q
        · obtain ⟨Lr, hLr⟩ := Classical.axiomOfChoice (r := fun (i : Nat) (l : Nat) => i < 4096 → I 23 i = nI l ∧ g_Lp i l) (fun i => by
            by_cases q : i < 4096
            · obtain ⟨l, l1, l2⟩ := hT.2.1.2.2.2.1 i q
              exact ⟨l, fun _ => ⟨by first | exact l1 | exact l2, by first | exact l2 | exact l1⟩⟩
            · exact ⟨0, fun a => absurd a q⟩)
          refine ⟨fun q => absurd q (by decide), fun _ => ⟨fun q => absurd q (by decide), fun _ => ⟨fun q => absurd q (by decide), fun _ => ⟨fun q => absurd q (by decide), fun _ => s_findOrbits (by decide) hT ok hc.1 w1 (by decide) rfl fun J ρ hJo hR => ⟨rfl, am_step _ _ _ (b_X_group_141 (s_numberOfWeight (S := Lr) (by decide) (by decide) hJo ⟨rfl, rfl, by decide, by decide⟩ (fun i hi => ⟨by rw [hJo.1 23 (by decide) (by decide) (by decide)]; exact (hLr i hi).1, (hLr i hi).2.1⟩) ⟨_, rfl, am_step _ _ _ (b_X_group_156 ?_)⟩))⟩⟩⟩⟩⟩
          have hJ : cF I J := fun c hc => hJo.1 c (by omega) (by omega) (by omega)
          obtain ⟨j1, j2, j3, j4⟩ := same J hJ
          rw [f4_cnt hR ok hk fun i hi => (hLr i hi).2]
          exact oE_fin hV _ J hJ fun K hK => M26 J hJ K (fun _ => am_step _ _ _ (b_M_group_26 ⟨fun q => absurd q z10, fun _ => ⟨fun q => absurd q (by decide), fun _ => ⟨fun q => absurd q (by decide), fun _ => ⟨fun q => absurd q (by decide), fun _ => ⟨fun q => absurd q (by decide), fun _ => ⟨fun _ => s_orbitsOfSextets (by decide) j1 hR ok j3 w1 hk fun L hL => ⟨_, rfl, am_step _ _ _ (b_M_group_91 (hK L ⟨fun c h1 h2 => hL c (by omega) (by omega), fun j _ _ _ => by rw [hL 1469 (by decide) (by decide)]⟩ (g_G_fr J L (fun b hb => hL b (by omega) (by omega)) (by rw [hL 1469 (by decide) (by decide)]) (by rw [hL 1469 (by decide) (by decide)]) (by rw [hL 1469 (by decide) (by decide)]) j4)))⟩, fun q => absurd rfl q⟩⟩⟩⟩⟩⟩)) fun q => absurd hk q
      · exact X24 _ (fun q => absurd q hk) fun _ => oE_fin hV _ I (fun _ _ => rfl) fun K hK => M26 I (fun _ _ => rfl) K (fun q => absurd q hk) fun _ => hK I mF_r hV.2.2.2.2.2
    · refine am_in _ _ _ (am_step _ _ _ (b_X_group_0 (s_isOutside (by decide) ⟨_, rfl, am_step _ _ _ (b_X_group_6 ?_)⟩)))
      rw [w3]
      refine ⟨fun _ => s_isOutside (by decide) ⟨_, rfl, am_step _ _ _ (b_X_group_14 ?_)⟩, fun q => absurd rfl q⟩
      rw [c3]
      refine ⟨fun q => absurd q z10, fun _ => oE_fin hV _ I (fun _ _ => rfl) fun K hK => am_in _ _ _ (am_step _ _ _ (b_M_group_0 (s_isGroup (by decide) ⟨_, rfl, am_step _ _ _ (b_M_group_4 ?_)⟩)))⟩
      rw [w4]
      refine ⟨fun q => absurd q z10, fun _ => s_in (by decide) ⟨_, rfl, am_step _ _ _ (b_M_group_16 ?_)⟩⟩
      rw [c5]
      exact ⟨fun _ => hK I mF_r hV.2.2.2.2.2, fun q => absurd rfl q⟩
  · refine am_in _ _ _ (am_step _ _ _ (b_X_group_0 (s_isOutside (by decide) ⟨_, rfl, am_step _ _ _ (b_X_group_6 ?_)⟩)))
    rw [w3]
    refine ⟨fun q => absurd q z10, fun _ => oE_fin hV _ I (fun _ _ => rfl) fun K hK => am_in _ _ _ (am_step _ _ _ (b_M_group_0 (s_isGroup (by decide) ⟨_, rfl, am_step _ _ _ (b_M_group_4 ?_)⟩)))⟩
    rw [w4]
    exact ⟨fun _ => hK I mF_r hV.2.2.2.2.2, fun q => absurd rfl q⟩
end OG
