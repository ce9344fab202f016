/-! THE MODEL'S READER -/
/-- the moves by names, as the model has them -/
def uA (cur : Nat → Nat → Nat) (I : Nat → Nat → Int32) (tl : Nat) (t : Nat → Nat) : Prop := uT I tl t ∧ (∀ k, k < 5 → ∀ p, p < 24 → I 1470 (24 * k + p) = nI (cur k p)) ∧ ∀ k, k < 5 → ∀ p, p < 24 → cur (5 + k) p = g_nm k p
/-- the factor, what is done, the rest, the place and the level may have changed -/
def uB (I I' : Nat → Nat → Int32) : Prop := (∀ c, ¬ c = 1477 → ¬ c = 1478 → ¬ c = 1479 → ¬ c = 1469 → I' c = I c) ∧ ∀ j, ¬ j = 10 → ¬ j = 14 → I' 1469 j = I 1469 j
theorem uA.fr {cur : Nat → Nat → Nat} {I I' : Nat → Nat → Int32} {tl : Nat} {t : Nat → Nat} (h : uA cur I tl t) (hB : uB I I') : uA cur I' tl t := ⟨⟨h.1.1, by rw [hB.2 9 (by decide) (by decide)]; exact h.1.2.1, fun k hk => by rw [hB.1 1476 (by decide) (by decide) (by decide) (by decide)]; exact h.1.2.2 k hk⟩, fun k hk p hp => by rw [hB.1 1470 (by decide) (by decide) (by decide) (by decide)]; exact h.2.1 k hk p hp, h.2.2⟩
theorem uB_r {I : Nat → Nat → Int32} : uB I I := ⟨fun _ _ _ _ _ => rfl, fun _ _ _ => rfl⟩
theorem uB_t {I J L : Nat → Nat → Int32} (h : uB I J) (h2 : uB J L) : uB I L := ⟨fun c a1 a2 a3 a4 => by rw [h2.1 c a1 a2 a3 a4, h.1 c a1 a2 a3 a4], fun j a1 a2 => by rw [h2.2 j a1 a2, h.2 j a1 a2]⟩
theorem nb_uB {I J : Nat → Nat → Int32} (h : nb1 I J 1477) : uB I J := ⟨fun c a1 _ _ _ => h c a1, fun j _ _ => by rw [h 1469 (by decide)]⟩
section MR
variable {d : Nat} {K : Option Value → am_M → Prop} {I : Nat → Nat → Int32} {Lg : Nat → Nat → Int64} {rr : Nat → Nat → Option Nat} {n : Nat} {tl : Nat} {t : Nat → Nat} {cur : Nat → Nat → Nat}
theorem s_MreadsName {p : Nat} (hd : 4 ≤ d) (hA : uA cur I tl t) (hp : p ≤ tl) (h1 : ∀ r f, x_nm tl t cur (g_sk tl t p) = (r, some f) → ∀ I', nb1 I I' 1477 → ip I' 1477 f → K (some (.int (nI 1))) (am_st (pm I' r) Lg rr n)) (h0 : ∀ r, x_nm tl t cur (g_sk tl t p) = (r, none) → K (some (.int (nI 0))) (am_st (pm I r) Lg rr n)) : am_AC d k_M_readsName [.ref 1469] (am_st (pm I p) Lg rr n) K := by
  obtain ⟨d, rfl, hd1⟩ := s_up hd
  have hT := hA.1
  have tl100 := hT.1
  have sl := sk_le (t := t) p hp
  have el := rn_le (t := t) (lo := 97) (hi := 122) (by decide) _ sl
  have eg := rn_ge (tl := tl) (t := t) (lo := 97) (hi := 122) (by decide) (g_sk tl t p)
  have ri := rn_in (tl := tl) (t := t) (lo := 97) (hi := 122) (by decide) (g_sk tl t p)
  refine am_in _ _ _ (am_step _ _ _ (b_M_readsName_0 (s_Mrow (by omega) hT hp (Or.inl ⟨rfl, rfl, rfl⟩) ⟨_, rfl, am_step _ _ _ (b_M_readsName_5 (s_MnameOf (by omega) hT eg el (fun j a1 a2 => (ri j a1 a2).1) (fun k hk hn => ⟨_, rfl, am_step _ _ _ (b_M_readsName_11 ⟨fun c => ?_, fun _ => ?_⟩)⟩) fun hn => ⟨_, rfl, am_step _ _ _ (b_M_readsName_11 ⟨fun _ => ?_, fun c => absurd (by decide) c⟩)⟩))⟩)))
  · exact absurd c (nz_lt _ (by split <;> omega))
  · have hx := nm_yes (cur := cur) hk hn
    have key : ∀ j, j ≤ 24 → ∀ I', nb1 I I' 1477 → (∀ i, i < j → I' 1477 i = nI (cur k i)) → am_St d k_M_readsName (am_st (pm I p) Lg rr n) K 30 [some (.ref 1469), some (.int (nI (gt_rn tl t 97 122 (g_sk tl t p) - g_sk tl t p))), some (.int (nI (if k < 5 then k + 5 else k - 5))), some (.int (nI j))] [] (am_st (pm I' (gt_rn tl t 97 122 (g_sk tl t p))) Lg rr n) := by
      refine lp_up _ (fun j hj ih => ?_) ?_
      · intro I' hI' hi
        have fin : am_St d k_M_readsName (am_st (pm I p) Lg rr n) K 62 [some (.ref 1469), some (.int (nI (gt_rn tl t 97 122 (g_sk tl t p) - g_sk tl t p))), some (.int (nI (if k < 5 then k + 5 else k - 5))), some (.int (nI j))] [.int (nI (cur k j)), .int (nI j), .ref 1477] (am_st (pm I' (gt_rn tl t 97 122 (g_sk tl t p))) Lg rr n) := by
          refine am_step _ _ _ (b_M_readsName_62 ?_)
          rw [n_un (show j < 2 ^ 32 by omega), pm_off _ _ (by decide), pm_sr _ _ _ (by decide), nI_add]
          refine ⟨hj, ih _ (fun c hc => by rw [am_sr_off _ _ hc, hI' c hc]) fun i hi2 => ?_⟩
          rw [am_sr_at]
          by_cases c : i = j
          · rw [c, am_u1_at]
          · rw [am_u1_off _ _ c]
            exact hi i (by omega)
        by_cases k5 : k < 5
        · rw [if_pos k5] at fin ⊢
          refine am_step _ _ _ (b_M_readsName_30 ⟨fun _ => ⟨fun c => absurd c (nI_nlt (by omega) (by omega)), fun _ => ?_⟩, fun c => absurd (nI_lt hj (by decide)) c⟩)
          rw [pk_sub (by omega), show k + 5 - 5 = k by omega]
          exact s_Mto (by omega) k5 hj (x := cur k j) (by rw [pm_off _ _ (by decide), hI' 1470 (by decide)]; exact hA.2.1 k k5 j hj) ⟨_, rfl, fin⟩
        · rw [if_neg k5] at fin ⊢
          have e5 := hA.2.2 (k - 5) (by omega) j hj
          rw [show 5 + (k - 5) = k by omega] at e5
          rw [e5] at fin
          exact am_step _ _ _ (b_M_readsName_30 ⟨fun _ => ⟨fun _ => s_named (by omega) (by omega) hj ⟨_, rfl, am_step _ _ _ (b_M_readsName_51 fin)⟩, fun c => absurd (nI_lt (show k - 5 < 5 by omega) (by decide)) c⟩, fun c => absurd (nI_lt hj (by decide)) c⟩)
      · intro I' hI' hi
        exact am_step _ _ _ (b_M_readsName_30 ⟨fun c => absurd c (by decide), fun _ => h1 _ _ hx I' hI' hi⟩)
    exact key 0 (by decide) I (fun _ _ => rfl) fun i hi => absurd hi (Nat.not_lt_zero i)
  · rw [pm_10, pk_sub (by omega), pm_pm, show gt_rn tl t 97 122 (g_sk tl t p) - (gt_rn tl t 97 122 (g_sk tl t p) - g_sk tl t p) = g_sk tl t p by omega]
    exact h0 _ (nm_no hn)
theorem s_MreadsRing {p : Nat} (hd : 5 ≤ d) (hT : uT I tl t) (hp : p < tl) (h1 : ∀ r f, x_ring tl t (p + 1) = (r, some f) → ∀ I', nb1 I I' 1477 → ip I' 1477 f → K (some (.int (nI 1))) (am_st (pm I' r) Lg rr n)) (h0 : ∀ r, x_ring tl t (p + 1) = (r, none) → ∀ I', nb1 I I' 1477 → K (some (.int (nI 0))) (am_st (pm I' r) Lg rr n)) : am_AC d k_M_readsRing [.ref 1469] (am_st (pm I p) Lg rr n) K := by
  obtain ⟨d, rfl, hd1⟩ := s_up hd
  have tl100 := hT.1
  have z10 : ¬ nI 1 = 0 := by decide
  generalize hM : am_st (pm I p) Lg rr n = M0
  have hTn : ∀ I', nb1 I I' 1477 → uT I' tl t := fun I' h => ⟨hT.1, by rw [h 1469 (by decide)]; exact hT.2.1, fun k hk => by rw [h 1476 (by decide)]; exact hT.2.2 k hk⟩
  -- the ring is at its end
  have shut : ∀ (v1 : Int32) first last f q I' (v5 v6 : Int32), q ≤ tl → last < 24 → nb1 I I' 1477 → ip I' 1477 f → ¬ x_L tl t (g_sk tl t q) = 44 → (x_L tl t (g_sk tl t q) = 41 → x_ring tl t (p + 1) = (g_sk tl t q + 1, some (am_u1 f last first))) → (¬ x_L tl t (g_sk tl t q) = 41 → x_ring tl t (p + 1) = (g_sk tl t q, none)) → am_St d k_M_readsRing M0 K 40 [some (.ref 1469), some (.int v1), some (.int (nI first)), some (.int (nI last)), some (.int (nI 0)), some (.int v5), some (.int v6)] [] (am_st (pm I' (g_sk tl t q)) Lg rr n) := fun v1 first last f q I' v5 v6 hq hl hI' hf n44 y1 y0 => by
    have sl := sk_le (t := t) q hq
    refine am_fg (le_same _ (le_same _ (le_same _ (le_same _ (le_same _ (le_int _ (le_int _ le_nil))))))) (am_step _ _ _ (b_M_readsRing_40 ⟨fun _ => ?_, fun c => absurd rfl c⟩))
    rw [n_un (show last < 2 ^ 32 by omega), pm_off _ _ (by decide), pm_sr _ _ _ (by decide)]
    have nb2 : nb1 I (am_sr I' 1477 (am_u1 (I' 1477) last (nI first))) 1477 := fun c hc => by rw [am_sr_off _ _ hc, hI' c hc]
    refine ⟨hl, s_here (by omega) (hTn _ nb2) sl ⟨_, rfl, am_step _ _ _ (b_M_readsRing_168 ?_)⟩⟩
    have xl := hT.L (g_sk tl t q)
    rw [sk_sk, pm_10, nI_add, nI_add, pm_pm, pm_pm, Nat.add_zero]
    refine ⟨fun c => ⟨fun c2 => absurd c2 z10, fun _ => ?_⟩, fun c => ⟨fun _ => ?_, fun c2 => absurd rfl c2⟩⟩
    · rw [nI_eq (by omega) (by decide)] at c
      refine h1 _ _ (y1 c) _ nb2 fun x hx => ?_
      rw [am_sr_at]
      by_cases c3 : x = last
      · rw [c3, am_u1_at, am_u1_at]
      · rw [am_u1_off _ _ c3, am_u1_off _ _ c3]
        exact hf x hx
    · exact h0 _ (y0 fun q2 => c (by rw [q2])) _ nb2
  have key : ∀ m seen first last f q I', 200 ≤ q + 2 * m → q ≤ tl → cy_I seen first last f → nb1 I I' 1477 → ip I' 1477 f → x_cy tl t m seen first last f q = x_ring tl t (p + 1) → ∀ v4 v5 v6 : Int32, am_St d k_M_readsRing M0 K 123 [some (.ref 1469), some (.int (nI seen)), some (.int (nI first)), some (.int (nI last)), some (.int v4), some (.int v5), some (.int v6)] [.int (nI (x_L tl t (g_sk tl t q)))] (am_st (pm I' (g_sk tl t q)) Lg rr n) := by
    intro m
    induction m with
    | zero => exact fun seen first last f q I' hm hq => absurd hm (by omega)
    | succ m ih =>
      intro seen first last f q I' hm hq hI hI' hf hR v4 v5 v6
      have hT' := hTn I' hI'
      have xl := hT.L (g_sk tl t q)
      have sl := sk_le (t := t) q hq
      have sg := sk_ge (tl := tl) (t := t) q
      unfold x_cy at hR
      refine am_step _ _ _ (b_M_readsRing_123 ⟨fun c => ⟨fun c2 => absurd c2 z10, fun _ => ?_⟩, fun c => ⟨fun _ => ?_, fun c2 => absurd rfl c2⟩⟩)
      · rw [nI_eq (by omega) (by decide)] at c
        rw [if_neg (by rw [c]; decide), if_pos c] at hR
        have ql := L_lt (tl := tl) (t := t) (p := g_sk tl t q) (by rw [c]; decide)
        have sl2 := sk_le (t := t) (g_sk tl t q + 1) ql
        have sg2 := sk_ge (tl := tl) (t := t) (g_sk tl t q + 1)
        rw [pm_10, nI_add, pm_pm]
        refine am_fg (le_same _ (le_same _ (le_same _ (le_same _ (le_same _ (le_int _ (le_int _ le_nil))))))) (am_step _ _ _ (b_M_readsRing_40 ⟨fun c2 => absurd c2 z10, fun _ => s_here (by omega) hT' ql ⟨_, rfl, am_step _ _ _ (b_M_readsRing_49 ?_)⟩⟩))
        rw [pm_10]
        refine s_Mnumber (by omega) hT' sl2 (by decide) (fun e => ⟨_, rfl, am_step _ _ _ (b_M_readsRing_62 ⟨fun c2 => ?_, fun _ => s_has (by omega) ⟨_, rfl, am_step _ _ _ (b_M_readsRing_75 ?_)⟩⟩)⟩) fun e => ⟨_, rfl, am_step _ _ _ (b_M_readsRing_62 ⟨fun _ => ?_, fun c2 => absurd (by decide) c2⟩)⟩
        · rw [sk_sk] at e
          exact absurd c2 (nz_lt _ (by rw [sk_sk]; have := e.2; omega))
        · rw [sk_sk] at e ⊢
          have v24 := Nat.lt_succ_of_le e.2
          have ne := num_end e
          have s24 := hI.1
          rw [m_has_n (by omega) (by omega)]
          by_cases b1 : seen.testBit (g_nv tl t (g_sk tl t (g_sk tl t q + 1))) = true
          · rw [if_pos b1]
            have hR : cond (x_dec _) _ _ = x_ring tl t (p + 1) := hR
            rw [dec_f fun q2 => q2.2 b1] at hR
            refine ⟨fun c2 => absurd c2 z10, fun _ => ?_⟩
            rw [pm_pm]
            exact h0 _ hR.symm I' hI'
          · rw [if_neg b1]
            have hR : cond (x_dec _) _ _ = x_ring tl t (p + 1) := hR
            rw [dec_t ⟨e, b1⟩] at hR
            have el := rn_le (t := t) (lo := 48) (hi := 57) (by decide) _ sl2
            refine ⟨fun _ => ⟨fun c2 => absurd c2 (nz_lt _ (by have := hI.2.1; omega)), fun _ => ⟨fun c2 => absurd c2 (nz_lt _ (by have := hI.2.2.1; omega)), fun _ => ?_⟩⟩, fun c2 => absurd rfl c2⟩
            rw [n_un (show last < 2 ^ 32 by have := hI.2.2.1; omega), pm_off _ _ (by decide), pm_sr _ _ _ (by decide), n_p2 (by omega), n_or]
            have nb2 : nb1 I (am_sr I' 1477 (am_u1 (I' 1477) last (nI (g_nv tl t (g_sk tl t (g_sk tl t q + 1)))))) 1477 := fun c hc => by rw [am_sr_off _ _ hc, hI' c hc]
            refine ⟨hI.2.2.1, s_here (by omega) (hTn _ nb2) el ⟨_, rfl, ih _ first _ _ _ _ (by omega) el (cy_next hI v24 b1) nb2 (fun x hx => ?_) hR _ _ _⟩⟩
            rw [am_sr_at]
            by_cases c3 : x = last
            · rw [c3, am_u1_at, am_u1_at]
            · rw [am_u1_off _ _ c3, am_u1_off _ _ c3]
              exact hf x hx
        · rw [sk_sk] at e ⊢
          have hR : cond (x_dec _) _ _ = x_ring tl t (p + 1) := hR
          rw [dec_f fun q2 => e q2.1] at hR
          rw [pm_pm]
          exact h0 _ hR.symm I' hI'
      · have n44 : ¬ x_L tl t (g_sk tl t q) = 44 := fun q2 => c (by rw [q2])
        rw [pm_10, nI_add, pm_pm, Nat.add_zero]
        refine shut _ first last f q I' _ _ hq hI.2.2.1 hI' hf n44 (fun e => ?_) fun e => ?_
        · rw [if_pos e] at hR
          exact hR.symm
        · rw [if_neg e, if_neg n44] at hR
          exact hR.symm
  have start : ∀ j, j ≤ 24 → ∀ I', nb1 I I' 1477 → (∀ i, i < j → I' 1477 i = nI i) → am_St d k_M_readsRing M0 K 2 [some (.ref 1469), some (.int (nI j)), none, none, none, none, none] [] (am_st (pm I' p) Lg rr n) := by
    refine lp_up _ (fun j hj ih => ?_) ?_
    · intro I' hI' hi
      refine am_step _ _ _ (b_M_readsRing_2 ⟨fun _ => ?_, fun c => absurd (nI_lt hj (by decide)) c⟩)
      rw [n_un (show j < 2 ^ 32 by omega), pm_off _ _ (by decide), pm_sr _ _ _ (by decide), nI_add]
      refine ⟨hj, ih _ (fun c hc => by rw [am_sr_off _ _ hc, hI' c hc]) fun i hi2 => ?_⟩
      rw [am_sr_at]
      by_cases c : i = j
      · rw [c, am_u1_at]
      · rw [am_u1_off _ _ c]
        exact hi i (by omega)
    · intro I' hI' hi
      have hT' := hTn I' hI'
      have sl := sk_le (t := t) (p + 1) hp
      have sg := sk_ge (tl := tl) (t := t) (p + 1)
      refine am_step _ _ _ (b_M_readsRing_2 ⟨fun c => absurd c (by decide), fun _ => ?_⟩)
      rw [pm_10, nI_add, pm_pm]
      refine am_step _ _ _ (b_M_readsRing_40 ⟨fun c2 => absurd c2 z10, fun _ => s_here (by omega) hT' hp ⟨_, rfl, am_step _ _ _ (b_M_readsRing_49 ?_)⟩⟩)
      rw [pm_10]
      refine s_Mnumber (by omega) hT' sl (by decide) (fun e => ⟨_, rfl, am_step _ _ _ (b_M_readsRing_62 ⟨fun c2 => ?_, fun _ => s_has (by omega) ⟨_, rfl, am_step _ _ _ (b_M_readsRing_75 ?_)⟩⟩)⟩) fun e => ⟨_, rfl, am_step _ _ _ (b_M_readsRing_62 ⟨fun _ => ?_, fun c2 => absurd (by decide) c2⟩)⟩
      · rw [sk_sk] at e
        exact absurd c2 (nz_lt _ (by rw [sk_sk]; have := e.2; omega))
      · rw [sk_sk] at e ⊢
        have v24 := Nat.lt_succ_of_le e.2
        have ne := num_end e
        have el := rn_le (t := t) (lo := 48) (hi := 57) (by decide) _ sl
        rw [m_has_n (by omega) (by omega), Nat.zero_testBit, if_neg (by decide)]
        refine ⟨fun _ => ⟨fun _ => ⟨fun _ => ?_, fun c2 => absurd (by decide) c2⟩, fun c2 => absurd (by decide) c2⟩, fun c2 => absurd rfl c2⟩
        rw [n_p2 (by omega), n_or, Nat.zero_or]
        have hR : x_ring tl t (p + 1) = x_cy tl t 100 (2 ^ g_nv tl t (g_sk tl t (p + 1))) (g_nv tl t (g_sk tl t (p + 1))) (g_nv tl t (g_sk tl t (p + 1))) pe_1 (gt_rn tl t 48 57 (g_sk tl t (p + 1))) := by
          unfold x_ring
          rw [dec_t e]
          rfl
        exact s_here (by omega) hT' el ⟨_, rfl, key 100 _ _ _ pe_1 _ I' (by omega) el (cy_first v24) hI' hi hR.symm _ _ _⟩
      · rw [sk_sk] at e ⊢
        have hR : x_ring tl t (p + 1) = (g_sk tl t (p + 1), none) := by
          unfold x_ring
          rw [dec_f e]
          rfl
        rw [pm_pm]
        exact h0 _ hR I' hI'
  refine am_in _ _ _ ?_
  rw [← hM] at start ⊢
  exact am_step _ _ _ (b_M_readsRing_0 (start 0 (by decide) I (fun _ _ => rfl) fun i hi => absurd hi (Nat.not_lt_zero i)))
theorem s_turnsBack {p : Nat} {f : Nat → Nat} (hd : 1 ≤ d) (hf : ip I 1477 f) (fm : pe_m f) (h : ∀ I', (∀ c, ¬ c = 1477 → ¬ c = 1479 → I' c = I c) → ip I' 1477 (pe_i f) → K none (am_st (pm I' p) Lg rr n)) : am_AC d k_M_turnsBack [.ref 1469] (am_st (pm I p) Lg rr n) K := by
  obtain ⟨d, rfl, hd1⟩ := s_up hd
  generalize hM : am_st (pm I p) Lg rr n = M0
  have key2 : ∀ k, k ≤ 24 → ∀ I', (∀ c, ¬ c = 1477 → ¬ c = 1479 → I' c = I c) → ip I' 1479 (pe_i f) → (∀ j, j < k → I' 1477 j = nI (pe_i f j)) → am_St d k_M_turnsBack M0 K 28 [some (.ref 1469), some (.int (nI k))] [] (am_st (pm I' p) Lg rr n) := by
    refine lp_up _ (fun k hk ih => ?_) ?_
    · intro I' hI' hr hj
      refine am_step _ _ _ (b_M_turnsBack_28 ⟨fun _ => ?_, fun c => absurd (nI_lt hk (by decide)) c⟩)
      rw [n_un (show k < 2 ^ 32 by omega), nI_add, pm_off _ _ (by decide), pm_off _ _ (by decide), hr k hk, pm_sr _ _ _ (by decide)]
      refine ⟨hk, hk, ih _ (fun c c1 c2 => by rw [am_sr_off _ _ c1, hI' c c1 c2]) (fun j hj2 => by rw [am_sr_off _ _ (by decide)]; exact hr j hj2) fun j hjk => ?_⟩
      rw [am_sr_at]
      by_cases c : j = k
      · rw [c, am_u1_at]
      · rw [am_u1_off _ _ c]
        exact hj j (by omega)
    · intro I' hI' hr hj
      exact am_step _ _ _ (b_M_turnsBack_28 ⟨fun c => absurd c (by decide), fun _ => h I' hI' hj⟩)
  have key : ∀ k, k ≤ 24 → ∀ I', nb1 I I' 1479 → (∀ j, j < k → I' 1479 (f j) = nI j) → am_St d k_M_turnsBack M0 K 2 [some (.ref 1469), some (.int (nI k))] [] (am_st (pm I' p) Lg rr n) := by
    refine lp_up _ (fun k hk ih => ?_) ?_
    · intro I' hI' hj
      have fl := fm.1.1 k hk
      refine am_step _ _ _ (b_M_turnsBack_2 ⟨fun _ => ?_, fun c => absurd (nI_lt hk (by decide)) c⟩)
      rw [n_un (show k < 2 ^ 32 by omega), pm_off _ _ (by decide), show I' 1477 k = nI (f k) by rw [hI' 1477 (by decide), hf k hk], n_un (show f k < 2 ^ 32 by omega), nI_add, pm_off _ _ (by decide), pm_sr _ _ _ (by decide)]
      refine ⟨hk, fl, ih _ (fun c hc => by rw [am_sr_off _ _ hc, hI' c hc]) fun j hjk => ?_⟩
      rw [am_sr_at]
      by_cases c : j = k
      · rw [c, am_u1_at]
      · rw [am_u1_off _ _ (fun q => c (fm.1.2 j k (by omega) hk q))]
        exact hj j (by omega)
    · intro I' hI' hj
      refine am_step _ _ _ (b_M_turnsBack_2 ⟨fun c => absurd c (by decide), fun _ => key2 0 (by decide) I' (fun c _ c2 => hI' c c2) (fun q hq => ?_) fun j hj2 => absurd hj2 (Nat.not_lt_zero j)⟩)
      have := pe_i_at fm hq
      have e := hj _ this.1
      rw [this.2] at e
      exact e
  refine am_in _ _ _ ?_
  rw [← hM] at key ⊢
  exact am_step _ _ _ (b_M_turnsBack_0 (key 0 (by decide) I (fun _ _ => rfl) fun j hj => absurd hj (Nat.not_lt_zero j)))
/-- what a factor at a level may write -/
def oF (D : Nat) (I I' : Nat → Nat → Int32) : Prop := (∀ c, ¬ c = 1477 → ¬ c = 1478 → ¬ c = 1479 → I' c = I c) ∧ ∀ i, i < 24 * D ∨ 24 * D + 24 ≤ i → I' 1478 i = I 1478 i
theorem s_readsOften {p D : Nat} {f acc : Nat → Nat} (hd : 5 ≤ d) (hT : uT I tl t) (hp : p ≤ tl) (hD : D ≤ 6) (hl : I 1469 14 = nI D) (hf : ip I 1477 f) (fm : pe_m f) (ha : ∀ j, j < 24 → I 1478 (24 * D + j) = nI (acc j)) (al : ∀ j, j < 24 → acc j < 24) (h1 : ∀ r g, x_of1 tl t f p = (r, some g) → ∀ I', oF D I I' → (∀ j, j < 24 → I' 1478 (24 * D + j) = nI (g (acc j))) → K (some (.int (nI 1))) (am_st (pm I' r) Lg rr n)) (h0 : ∀ r, x_of1 tl t f p = (r, none) → ∀ I', oF D I I' → K (some (.int (nI 0))) (am_st (pm I' r) Lg rr n)) : am_AC d k_M_readsOften [.ref 1469] (am_st (pm I p) Lg rr n) K := by
  obtain ⟨d, rfl, hd1⟩ := s_up hd
  have tl100 := hT.1
  have sl := sk_le (t := t) p hp
  have xl := hT.L (g_sk tl t p)
  generalize hM : am_st (pm I p) Lg rr n = M0
  -- the factor is done so often
  have doing : ∀ (k r : Nat) (g : Nat → Nat), k ≤ 99 → pe_m g → x_of1 tl t f p = (r, some (x_pw g k)) → ∀ j, j ≤ 24 → ∀ I', oF D I I' → ip I' 1477 g → (∀ i, i < 24 → I' 1478 (24 * D + i) = nI (if i < j then x_pw g k (acc i) else acc i)) → am_St d k_M_readsOften M0 K 53 [some (.ref 1469), some (.int (nI k)), some (.int (nI j)), none, none] [] (am_st (pm I' r) Lg rr n) := by
    intro k r g hk gm hx
    refine lp_up _ (fun j hj ih => ?_) ?_
    · intro I' hI' hg hi
      have eL : I' 1469 14 = nI D := by rw [hI'.1 1469 (by decide) (by decide) (by decide), hl]
      have inner : ∀ c, c ≤ k → am_St d k_M_readsOften M0 K 81 [some (.ref 1469), some (.int (nI k)), some (.int (nI j)), some (.int (nI (f_it g (acc j) c))), some (.int (nI c))] [] (am_st (pm I' r) Lg rr n) := by
        refine lp_up _ (fun c hc ih2 => ?_) ?_
        · have ql := it_lt gm.1.1 (al j hj) c
          refine am_step _ _ _ (b_M_readsOften_81 ⟨fun _ => ?_, fun q => absurd (nI_lt hc (by omega)) q⟩)
          rw [n_un (show f_it g (acc j) c < 2 ^ 32 by omega), pm_off _ _ (by decide), hg _ ql, nI_add]
          exact ⟨ql, ih2⟩
        · refine am_step _ _ _ (b_M_readsOften_81 ⟨fun q => absurd q (nI_nlt (Nat.le_refl _) (by omega)), fun _ => ?_⟩)
          rw [pm_j _ _ (by decide), eL, pk_mul, nI_add, n_un (show 24 * D + j < 2 ^ 32 by omega), nI_add, pm_off _ _ (by decide), pm_sr _ _ _ (by decide)]
          refine ⟨by omega, am_fg (le_same _ (le_same _ (le_same _ (le_int _ (le_int _ le_nil))))) (ih _ ⟨fun c c1 c2 c3 => by rw [am_sr_off _ _ c2, hI'.1 c c1 c2 c3], fun i hi2 => ?_⟩ (fun x hx => by rw [am_sr_off _ _ (by decide)]; exact hg x hx) fun i hi2 => ?_)⟩
          · rw [am_sr_at, am_u1_off _ _ (by omega)]
            exact hI'.2 i hi2
          · rw [am_sr_at]
            by_cases c : i = j
            · rw [c, am_u1_at, if_pos (Nat.lt_succ_self j)]
              rfl
            · rw [am_u1_off _ _ (by omega), hi i hi2]
              by_cases c2 : i < j
              · rw [if_pos c2, if_pos (by omega)]
              · rw [if_neg c2, if_neg (by omega)]
      refine am_step _ _ _ (b_M_readsOften_53 ⟨fun _ => ⟨fun c => absurd c (nz_lt k (by omega)), fun _ => ?_⟩, fun c => absurd (nI_lt hj (by decide)) c⟩)
      have e9 := hi j hj
      rw [if_neg (Nat.lt_irrefl j)] at e9
      rw [pm_j _ _ (by decide), eL, pk_mul, nI_add, n_un (show 24 * D + j < 2 ^ 32 by omega), pm_off _ _ (by decide), e9]
      exact ⟨by omega, inner 0 (Nat.zero_le _)⟩
    · intro I' hI' hg hi
      refine am_step _ _ _ (b_M_readsOften_53 ⟨fun c => absurd c (by decide), fun _ => ⟨fun c => absurd c (nz_lt k (by omega)), fun _ => h1 r _ hx I' hI' fun j hj => ?_⟩⟩)
      rw [hi j hj, if_pos hj]
  have fr0 : oF D I I := ⟨fun _ _ _ _ => rfl, fun _ _ => rfl⟩
  -- the number
  have num : ∀ (g : Nat → Nat) (q : Nat) I', q ≤ tl → pe_m g → oF D I I' → ip I' 1477 g → (∀ i, i < 24 → I' 1478 (24 * D + i) = nI (acc i)) → (n_ok tl t (g_sk tl t q) 99 → x_of1 tl t f p = (gt_rn tl t 48 57 (g_sk tl t q), some (x_pw g (g_nv tl t (g_sk tl t q))))) → (¬ n_ok tl t (g_sk tl t q) 99 → x_of1 tl t f p = (g_sk tl t q, none)) → am_St d k_M_readsOften M0 K 44 [some (.ref 1469), some (.int (nI 1)), none, none, none] [] (am_st (pm I' q) Lg rr n) := fun g q I' hq gm hI' hg hi y1 y0 => by
    have hT' : uT I' tl t := ⟨hT.1, by rw [hI'.1 1469 (by decide) (by decide) (by decide)]; exact hT.2.1, fun k hk => by rw [hI'.1 1476 (by decide) (by decide) (by decide)]; exact hT.2.2 k hk⟩
    refine am_step _ _ _ (b_M_readsOften_44 (s_Mnumber (by omega) hT' hq (by decide) (fun e => ⟨_, rfl, am_step _ _ _ (b_M_readsOften_50 (doing _ _ g e.2 gm (y1 e) 0 (by decide) I' hI' hg fun i hi2 => ?_))⟩) fun e => ⟨_, rfl, am_step _ _ _ (b_M_readsOften_50 (am_step _ _ _ (b_M_readsOften_53 ⟨fun _ => ⟨fun _ => ⟨fun _ => h0 _ (y0 e) I' hI', fun c => absurd (by decide) c⟩, fun c => absurd (by decide) c⟩, fun c => absurd (by decide) c⟩)))⟩))
    rw [if_neg (Nat.not_lt_zero i)]
    exact hi i hi2
  refine am_in _ _ _ ?_
  rw [← hM] at doing num ⊢
  refine am_step _ _ _ (b_M_readsOften_0 (s_here (by omega) hT hp ⟨_, rfl, am_step _ _ _ (b_M_readsOften_6 ⟨fun c => ?_, fun c => ?_⟩)⟩))
  · rw [nI_eq (by omega) (by decide)] at c
    have ql := L_lt (tl := tl) (t := t) (p := g_sk tl t p) (by rw [c]; decide)
    have sl2 := sk_le (t := t) (g_sk tl t p + 1) ql
    have xl2 := hT.L (g_sk tl t (g_sk tl t p + 1))
    rw [pm_10, nI_add, pm_pm]
    refine s_here (by omega) hT ql ⟨_, rfl, am_step _ _ _ (b_M_readsOften_25 ⟨fun c2 => ?_, fun c2 => ?_⟩)⟩
    · rw [nI_eq (by omega) (by decide)] at c2
      have ql2 := L_lt (tl := tl) (t := t) (p := g_sk tl t (g_sk tl t p + 1)) (by rw [c2]; decide)
      rw [pm_10, nI_add, pm_pm]
      refine s_turnsBack (by omega) hf fm fun I' hI' hp' => ⟨rfl, num (pe_i f) _ I' ql2 (pe_i_m fm) ⟨fun c c1 _ c3 => hI' c c1 c3, fun i _ => by rw [hI' 1478 (by decide) (by decide)]⟩ hp' (fun i hi => by rw [hI' 1478 (by decide) (by decide)]; exact ha i hi) (fun e => ?_) fun e => ?_⟩
      · unfold x_of1
        rw [if_pos c, if_pos c2, dec_t e]
        rfl
      · unfold x_of1
        rw [if_pos c, if_pos c2, dec_f e]
        rfl
    · have c2 : ¬ x_L tl t (g_sk tl t (g_sk tl t p + 1)) = 45 := fun q => c2 (by rw [q])
      refine num f _ I sl2 fm fr0 hf ha (fun e => ?_) fun e => ?_
      · rw [sk_sk] at e ⊢
        unfold x_of1
        rw [if_pos c, if_neg c2, dec_t e]
        rfl
      · rw [sk_sk] at e ⊢
        unfold x_of1
        rw [if_pos c, if_neg c2, dec_f e]
        rfl
  · have c : ¬ x_L tl t (g_sk tl t p) = 94 := fun q => c (by rw [q])
    refine doing 1 _ f (by decide) fm ?_ 0 (by decide) I fr0 hf fun i hi => ?_
    · unfold x_of1
      rw [if_neg c]
      rfl
    · rw [if_neg (Nat.not_lt_zero i)]
      exact ha i hi
theorem s_readsFactor {p D m : Nat} {acc : Nat → Nat} {B : Nat → x_R} (hd : 7 ≤ d) (hc : ∀ k, k < 10 → pe_m (cur k)) (hA : uA cur I tl t) (hp : p ≤ tl) (hD : D ≤ 6) (hl : I 1469 14 = nI D) (hn : ¬ (x_L tl t (g_sk tl t p) = 91 ∧ ¬ m = 0)) (ha : ∀ j, j < 24 → I 1478 (24 * D + j) = nI (acc j)) (al : ∀ j, j < 24 → acc j < 24) (h1 : ∀ r g, x_of tl t (x_pl tl t cur m B p) = (r, some g) → ∀ I', oF D I I' → (∀ j, j < 24 → I' 1478 (24 * D + j) = nI (g (acc j))) → K (some (.int (nI 1))) (am_st (pm I' r) Lg rr n)) (h0 : ∀ r, x_of tl t (x_pl tl t cur m B p) = (r, none) → ∀ I', oF D I I' → K (some (.int (nI 0))) (am_st (pm I' r) Lg rr n)) : am_AC d k_M_readsFactor [.ref 1469] (am_st (pm I p) Lg rr n) K := by
  obtain ⟨d, rfl, hd1⟩ := s_up hd
  have hT := hA.1
  have tl100 := hT.1
  have z10 : ¬ nI 1 = 0 := by decide
  have sl := sk_le (t := t) p hp
  have xl := hT.L (g_sk tl t p)
  have fr0 : oF D I I := ⟨fun _ _ _ _ => rfl, fun _ _ => rfl⟩
  have frn : ∀ I', nb1 I I' 1477 → oF D I I' := fun I' h => ⟨fun c c1 _ _ => h c c1, fun i _ => by rw [h 1478 (by decide)]⟩
  -- behind the plain factor
  have oft : ∀ (v : Int32) r f I', x_pl tl t cur m B p = (r, some f) → pe_m f → r ≤ tl → nb1 I I' 1477 → ip I' 1477 f → am_AC d k_M_readsOften [.ref 1469] (am_st (pm I' r) Lg rr n) (am_qi fun x1 M1 => am_St d k_M_readsFactor (am_st (pm I p) Lg rr n) K 47 [some (.ref 1469), some (.int v)] [.int x1] M1) := fun v r f I' hx fm rl hI' hf => by
    have hT' : uT I' tl t := ⟨hT.1, by rw [hI' 1469 (by decide)]; exact hT.2.1, fun k hk => by rw [hI' 1476 (by decide)]; exact hT.2.2 k hk⟩
    have e2 : x_of tl t (x_pl tl t cur m B p) = x_of1 tl t f r := by rw [hx]; rfl
    exact s_readsOften (by omega) hT' rl hD (by rw [hI' 1469 (by decide)]; exact hl) hf fm (fun j hj => by rw [hI' 1478 (by decide)]; exact ha j hj) al (fun r' g hr I2 hI2 hg => ⟨_, rfl, am_step _ _ _ (b_M_readsFactor_47 ⟨fun q => absurd q z10, fun _ => h1 r' g (e2.trans hr) I2 ⟨fun c c1 c2 c3 => by rw [hI2.1 c c1 c2 c3, hI' c c1], fun i hi => by rw [hI2.2 i hi, hI' 1478 (by decide)]⟩ hg⟩)⟩) fun r' hr I2 hI2 => ⟨_, rfl, am_step _ _ _ (b_M_readsFactor_47 ⟨fun _ => h0 r' (e2.trans hr) I2 ⟨fun c c1 c2 c3 => by rw [hI2.1 c c1 c2 c3, hI' c c1], fun i hi => by rw [hI2.2 i hi, hI' 1478 (by decide)]⟩, fun q => absurd rfl q⟩)⟩
  refine am_in _ _ _ (am_step _ _ _ (b_M_readsFactor_0 (s_here (by omega) hT hp ⟨_, rfl, am_step _ _ _ (b_M_readsFactor_4 (s_isLow (by omega) ⟨_, rfl, am_step _ _ _ (b_M_readsFactor_7 ?_)⟩))⟩)))
  rw [m_rng_n (by omega) (by decide) (by decide)]
  by_cases low : 97 ≤ x_L tl t (g_sk tl t p) ∧ x_L tl t (g_sk tl t p) ≤ 122
  · rw [if_pos low]
    have hx : x_pl tl t cur m B p = x_nm tl t cur (g_sk tl t p) := by
      unfold x_pl
      rw [if_neg (by omega), if_neg (by omega)]
    have ok := name_ok (tl := tl) (t := t) hc sl
    refine ⟨fun q => absurd q z10, fun _ => s_MreadsName (by omega) hA sl (fun r f hr I' hI' hf => ⟨_, rfl, am_step _ _ _ (b_M_readsFactor_14 ⟨fun q => absurd q z10, fun _ => ?_⟩)⟩) fun r hr => ⟨_, rfl, am_step _ _ _ (b_M_readsFactor_14 ⟨fun _ => ?_, fun q => absurd rfl q⟩)⟩⟩
    · rw [sk_sk] at hr
      rw [hr] at ok
      exact oft _ r f I' (hx.trans hr) ok.2.2.1 ok.2.1 hI' hf
    · rw [sk_sk] at hr
      exact h0 r (by rw [hx, hr]; rfl) I fr0
  · rw [if_neg low]
    refine ⟨fun _ => s_here (by omega) hT sl ⟨_, rfl, am_step _ _ _ (b_M_readsFactor_21 ?_)⟩, fun q => absurd rfl q⟩
    rw [sk_sk]
    refine ⟨fun c => ?_, fun c => ⟨fun _ => ?_, fun q => absurd rfl q⟩⟩
    · rw [nI_eq (by omega) (by decide)] at c
      have ql := L_lt (tl := tl) (t := t) (p := g_sk tl t p) (by rw [c]; decide)
      have hx : x_pl tl t cur m B p = x_ring tl t (g_sk tl t p + 1) := by
        unfold x_pl
        rw [if_neg (by omega), if_pos c]
      have ok := ring_ok (tl := tl) (t := t) (p := g_sk tl t p + 1) ql
      refine s_MreadsRing (by omega) hT ql (fun r f hr I' hI' hf => ⟨_, rfl, am_step _ _ _ (b_M_readsFactor_30 ⟨fun q => absurd q z10, fun _ => ⟨fun q => absurd q z10, fun _ => ?_⟩⟩)⟩) fun r hr I' hI' => ⟨_, rfl, am_step _ _ _ (b_M_readsFactor_30 ⟨fun _ => ⟨fun _ => h0 r (by rw [hx, hr]; rfl) I' (frn I' hI'), fun q => absurd rfl q⟩, fun q => absurd rfl q⟩)⟩
      rw [hr] at ok
      exact oft _ r f I' (hx.trans hr) ok.2.2.1 ok.2.1 hI' hf
    · have c : ¬ x_L tl t (g_sk tl t p) = 40 := fun q => c (by rw [q])
      refine h0 _ ?_ I fr0
      have : x_pl tl t cur m B p = (g_sk tl t p, none) := by
        unfold x_pl
        by_cases e : x_L tl t (g_sk tl t p) = 91
        · rw [if_pos e, if_pos (Classical.byContradiction fun q => hn ⟨e, q⟩)]
        · rw [if_neg e, if_neg c]
          refine nm_no fun k hk h => ?_
          have e1 := rn_e (tl := tl) (t := t) (lo := 97) (hi := 122) (p := g_sk tl t p) (by omega)
          have := h.1
          have := (tx_t k hk).2.2.1
          omega
      rw [this]
      rfl
theorem s_begins {p D : Nat} (hd : 1 ≤ d) (hD : D ≤ 6) (hl : I 1469 14 = nI D) (h : ∀ I', nb1 I I' 1478 → (∀ i, i < 24 * D ∨ 24 * D + 24 ≤ i → I' 1478 i = I 1478 i) → (∀ j, j < 24 → I' 1478 (24 * D + j) = nI j) → K none (am_st (pm I' p) Lg rr n)) : am_AC d k_M_begins [.ref 1469] (am_st (pm I p) Lg rr n) K := by
  obtain ⟨d, rfl, hd1⟩ := s_up hd
  generalize hM : am_st (pm I p) Lg rr n = M0
  have key : ∀ k, k ≤ 24 → ∀ I', nb1 I I' 1478 → (∀ i, i < 24 * D ∨ 24 * D + 24 ≤ i → I' 1478 i = I 1478 i) → (∀ j, j < k → I' 1478 (24 * D + j) = nI j) → am_St d k_M_begins M0 K 2 [some (.ref 1469), some (.int (nI k))] [] (am_st (pm I' p) Lg rr n) := by
    refine lp_up _ (fun k hk ih => ?_) ?_
    · intro I' hI' ho hj
      refine am_step _ _ _ (b_M_begins_2 ⟨fun _ => ?_, fun c => absurd (nI_lt hk (by decide)) c⟩)
      rw [pm_j _ _ (by decide), show I' 1469 14 = nI D by rw [hI' 1469 (by decide), hl], pk_mul, nI_add, n_un (show 24 * D + k < 2 ^ 32 by omega), nI_add, pm_off _ _ (by decide), pm_sr _ _ _ (by decide)]
      refine ⟨by omega, ih _ (fun c hc => by rw [am_sr_off _ _ hc, hI' c hc]) (fun i hi => ?_) fun j hjk => ?_⟩
      · rw [am_sr_at, am_u1_off _ _ (by omega)]
        exact ho i hi
      · rw [am_sr_at]
        by_cases c : j = k
        · rw [c, am_u1_at]
        · rw [am_u1_off _ _ (by omega)]
          exact hj j (by omega)
    · intro I' hI' ho hj
      exact am_step _ _ _ (b_M_begins_2 ⟨fun c => absurd c (by decide), fun _ => h I' hI' ho hj⟩)
  refine am_in _ _ _ ?_
  rw [← hM] at key ⊢
  exact am_step _ _ _ (b_M_begins_0 (key 0 (by decide) I (fun _ _ => rfl) (fun _ _ => rfl) fun j hj => absurd hj (Nat.not_lt_zero j)))
/-- the level is set -/
def lv (I : Nat → Nat → Int32) (D : Nat) : Nat → Nat → Int32 := am_sr I 1469 (am_u1 (I 1469) 14 (nI D))
theorem lv_pm (I : Nat → Nat → Int32) (p D : Nat) : am_sr (pm I p) 1469 (am_u1 (pm I p 1469) 14 (nI D)) = pm (lv I D) p := by
  unfold pm lv
  rw [am_sr_sr, am_sr_at, am_sr_sr, am_sr_at]
  refine congrArg (am_sr I 1469) (funext fun j => ?_)
  by_cases c : j = 14
  · rw [c, am_u1_at, am_u1_off _ _ (by decide), am_u1_at]
  · rw [am_u1_off _ _ c]
    by_cases c2 : j = 10
    · rw [c2, am_u1_at, am_u1_at]
    · rw [am_u1_off _ _ c2, am_u1_off _ _ c2, am_u1_off _ _ c]
theorem lv_14 (I : Nat → Nat → Int32) (D : Nat) : lv I D 1469 14 = nI D := by
  unfold lv
  rw [am_sr_at, am_u1_at]
theorem lv_j (I : Nat → Nat → Int32) (D : Nat) {j : Nat} (h : ¬ j = 14) : lv I D 1469 j = I 1469 j := by
  unfold lv
  rw [am_sr_at, am_u1_off _ _ h]
theorem lv_off (I : Nat → Nat → Int32) (D : Nat) {c : Nat} (h : ¬ c = 1469) : lv I D c = I c := am_sr_off _ _ h
theorem s_closes {p D : Nat} {f : Nat → Nat} (hd : 1 ≤ d) (hD : D < 6) (hl : I 1469 14 = nI (D + 1)) (hf : ∀ j, j < 24 → I 1478 (24 * (D + 1) + j) = nI (f j)) (h : ∀ I', nb1 I I' 1477 → ip I' 1477 f → K none (am_st (pm (lv I' D) p) Lg rr n)) : am_AC d k_M_closes [.ref 1469] (am_st (pm I p) Lg rr n) K := by
  obtain ⟨d, rfl, hd1⟩ := s_up hd
  generalize hM : am_st (pm I p) Lg rr n = M0
  have key : ∀ k, k ≤ 24 → ∀ I', nb1 I I' 1477 → (∀ j, j < k → I' 1477 j = nI (f j)) → am_St d k_M_closes M0 K 2 [some (.ref 1469), some (.int (nI k))] [] (am_st (pm I' p) Lg rr n) := by
    refine lp_up _ (fun k hk ih => ?_) ?_
    · intro I' hI' hj
      refine am_step _ _ _ (b_M_closes_2 ⟨fun _ => ?_, fun c => absurd (nI_lt hk (by decide)) c⟩)
      rw [pm_j _ _ (by decide), show I' 1469 14 = nI (D + 1) by rw [hI' 1469 (by decide), hl], pk_mul, nI_add, n_un (show 24 * (D + 1) + k < 2 ^ 32 by omega), n_un (show k < 2 ^ 32 by omega), nI_add, pm_off _ _ (c := 1477) (by decide), pm_off _ _ (c := 1478) (by decide), show I' 1478 (24 * (D + 1) + k) = nI (f k) by rw [hI' 1478 (by decide), hf k hk], pm_sr _ _ _ (by decide)]
      refine ⟨by omega, hk, ih _ (fun c hc => by rw [am_sr_off _ _ hc, hI' c hc]) fun j hjk => ?_⟩
      rw [am_sr_at]
      by_cases c : j = k
      · rw [c, am_u1_at]
      · rw [am_u1_off _ _ c]
        exact hj j (by omega)
    · intro I' hI' hj
      refine am_step _ _ _ (b_M_closes_2 ⟨fun c => absurd c (by decide), fun _ => ?_⟩)
      rw [pm_j _ _ (by decide), show I' 1469 14 = nI (D + 1) by rw [hI' 1469 (by decide), hl], pk_sub (show 1 ≤ D + 1 by omega), show D + 1 - 1 = D by omega, lv_pm]
      exact h I' hI' hj
  refine am_in _ _ _ ?_
  rw [← hM] at key ⊢
  exact am_step _ _ _ (b_M_closes_0 (key 0 (by decide) I (fun _ _ => rfl) fun j hj => absurd hj (Nat.not_lt_zero j)))
end MR
