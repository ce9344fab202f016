/-! GROUPS: THE MODEL SPREADS FROM A SEXTET -/
theorem go2_inj {f : Nat → Nat} (hf : a_pm f) (hk : g_pvb f = true) : ∀ i j, i < 4096 → j < 4096 → g_go 2 f i = g_go 2 f j → i = j := by
  intro i j hi hj e
  unfold g_go at e
  rw [if_neg (by decide), if_neg (by decide), if_neg (by decide), if_neg (by decide)] at e
  have xl : i ^^^ j < 2 ^ 12 := xor_lt hi hj
  have w : g_isw (g_im f (i ^^^ j) 24) := by
    rw [isw_r (im_lt hf.1 _ 24 (Nat.le_refl _)), im_xor hf, g_r_xor, e, Nat.xor_self]
  obtain ⟨k, k1, k2⟩ := inj_onto (g := g_go 1 f) (N := 4096) (fun i _ => go_lt (kind := 1) (by decide) i) (go1_inj hf hk) (pl_lt (g_im f (i ^^^ j) 24))
  unfold g_go at k2
  rw [if_neg (by decide), if_pos rfl] at k2
  have wk : g_isw (g_im f (g_w k) 24) := im_isw hf hk (isw_w k1)
  have e2 : g_im f (g_w k) 24 = g_im f (i ^^^ j) 24 := by
    have a : g_im f (g_w k) 24 = g_w (g_pl (g_im f (g_w k) 24)) := wk
    have b : g_im f (i ^^^ j) 24 = g_w (g_pl (g_im f (i ^^^ j) 24)) := w
    rw [a, b, k2]
  have e3 := im_inj hf (g_w_lt k) (by omega) e2
  have e4 : g_pl (i ^^^ j) = k := by rw [← e3, pl_w k1]
  have e5 : g_pl (i ^^^ j) = 0 := by
    unfold g_pl
    omega
  rw [← e4, e5, g_w_0] at e3
  exact xor_eq0 e3.symm
/-- the four that comes of F by the move m -/
noncomputable def g_mf (now : a_S) (w m F : Nat) : Nat := if w.testBit m then g_t (g_im (now.1 m) F 24) 0 else F
section M4
variable {d : Nat} {K : Option Value → am_M → Prop} {I J : Nat → Nat → Int32} {Lg : Nat → Nat → Int64} {rr : Nat → Nat → Option Nat} {n : Nat} {w x : Nat} {now : a_S} {ρ : Nat → Nat} {M : Nat → Bool}
theorem mf_ok (hR : oR (fun m => g_go 2 (now.1 m)) w 4 4096 ρ) (ok : a_ok now) (hk : g_ak now.1 w) {m F : Nat} (hm : m < 4) (h : is4 F) : is4 (g_mf now w m F) ∧ ρ (g_r (g_mf now w m F)) = ρ (g_r F) := by
  unfold g_mf
  by_cases c : w.testBit m = true
  · rw [if_pos c]
    obtain ⟨a, b⟩ := four_by (ok.1 m (by omega)) (hk m hm c) h
    exact ⟨a, by rw [b]; exact (hR.2.1 m hm c (g_r F) (g_r_lt F)).symm⟩
  · rw [if_neg c]
    exact ⟨h, rfl⟩
def g_p4 (ρ : Nat → Nat) (x many : Nat) (T : Nat → Nat) : Prop := (∀ j, j < many → is4 (T j) ∧ ρ (g_r (T j)) = ρ (g_r x)) ∧ (∀ i j, i < many → j < many → T i = T j → i = j) ∧ T 0 = x ∧ 0 < many
theorem p4_le {many : Nat} {T : Nat → Nat} (h : g_p4 ρ x many T) : many ≤ 4096 := by
  have e := cnt_inj (κ := fun j => g_rf (T j)) (N := 4096) many (fun i hi => rf_lt (h.1 i hi).1) (fun i j hi hj e => h.2.1 i j hi hj (rf_inj (h.1 i hi).1 (h.1 j hj).1 e)) (g_in (fun j => g_rf (T j)) many) (fun k _ => in_iff _ k many)
  have := cnt_le (g_in (fun j => g_rf (T j)) many) 4096
  omega
def g_s4 (I : Nat → Nat → Int32) (M : Nat → Bool) (many : Nat) (T : Nat → Nat) (J : Nat → Nat → Int32) : Prop := (∀ b, ¬ b = 1487 → ¬ b = 1488 → J b = I b) ∧ (∀ j, j < many → J 1488 j = nI (T j)) ∧ ∀ y, is4 y → J 1487 (g_rf y) = g_bi (M y || g_in T many y)
theorem p4_end (hR : oR (fun m => g_go 2 (now.1 m)) w 4 4096 ρ) (ok : a_ok now) (hk : g_ak now.1 w) {many : Nat} {T : Nat → Nat} (h : g_p4 ρ x many T) (hp : ∀ j, j < many → ∀ m, m < 4 → g_in T many (g_mf now w m (T j)) = true) : ∀ y, is4 y → g_in T many y = decide (ρ (g_r y) = ρ (g_r x)) := by
  obtain ⟨t1, t2, t3, t4⟩ := h
  intro y hy
  rw [Bool.eq_iff_iff, decide_eq_true_iff]
  constructor
  · intro q
    obtain ⟨j, j1, j2⟩ := (in_iff T y many).mp q
    rw [← j2]
    exact (t1 j j1).2
  · intro e
    have c := cls_orbit (C := fun p => @decide (∃ j, j < many ∧ g_r (T j) = p) (Classical.propDecidable _)) hR (fun m _ _ i _ => go_lt (kind := 2) (by decide) i) (fun m hm hb => go2_inj (ok.1 m (by omega)) (hk m hm hb)) (fun m hm hb i hi hc => by
      obtain ⟨j, j1, j2⟩ := (@decide_eq_true_iff _ (Classical.propDecidable _)).mp hc
      refine (@decide_eq_true_iff _ (Classical.propDecidable _)).mpr ?_
      have := hp j j1 m hm
      obtain ⟨l, l1, l2⟩ := (in_iff T _ many).mp this
      refine ⟨l, l1, ?_⟩
      unfold g_mf at l2
      rw [if_pos hb] at l2
      rw [l2, (four_by (ok.1 m (by omega)) (hk m hm hb) (t1 j j1).1).2, j2]) (g_r_lt y) (g_r_lt x) e ((@decide_eq_true_iff _ (Classical.propDecidable _)).mpr ⟨0, t4, by rw [t3]⟩)
    obtain ⟨j, j1, j2⟩ := (@decide_eq_true_iff _ (Classical.propDecidable _)).mp c
    exact (in_iff T y many).mpr ⟨j, j1, four_inj (t1 j j1).1 hy j2⟩
theorem s_fourBy {m F : Nat} (hd : 3 ≤ d) (hT : vT I) (ok : a_ok now) (hm : m_S (I 1470) 0 now) (h4 : m < 4) (hF : is4 F) (h : K (some (.int (nI (g_t (g_im (now.1 m) F 24) 0)))) (am_st I Lg rr n)) : am_AC d k_M_fourBy [.ref 1469, .int (nI m), .int (nI F)] (am_st I Lg rr n) K := by
  obtain ⟨d, rfl, hd1⟩ := s_up hd
  have hf := ok.1 m (by omega)
  have il := im_lt hf.1 F 24 (Nat.le_refl _)
  have ip : pcn (g_im (now.1 m) F 24) = 4 := by rw [im_pcn hf 24 (Nat.le_refl _) _ hF.1, hF.2.1]
  have := hF.1
  exact am_in _ _ _ (am_step _ _ _ (b_M_fourBy_0 (s_goes hd1 (by omega) (now_m hm (by omega)) hf.1 (by omega) ⟨_, rfl, am_step _ _ _ (b_M_fourBy_7 (s_tetradAt hd1 hT il ip (by decide) ⟨_, rfl, am_step _ _ _ (b_M_fourBy_11 h)⟩))⟩)))
theorem s_spreadsFours (hd : 4 ≤ d) (hV : vT I) (hmS : m_S (I 1470) 0 now) (hw : w < 16) (hR : oR (fun m => g_go 2 (now.1 m)) w 4 4096 ρ) (ok : a_ok now) (hk : g_ak now.1 w) (hx : is4 x) (hM : ∀ y z, is4 y → is4 z → ρ (g_r y) = ρ (g_r z) → M y = M z) (hJ : ∀ b, ¬ b = 1487 → ¬ b = 1488 → J b = I b) (hJm : ∀ y, is4 y → J 1487 (g_rf y) = g_bi (M y)) (h0 : M x = true → K (some (.int (nI 0))) (am_st J Lg rr n)) (h1 : M x = false → ∀ J', (∀ b, ¬ b = 1487 → ¬ b = 1488 → J' b = I b) → (∀ y, is4 y → J' 1487 (g_rf y) = g_bi (M y || decide (ρ (g_r y) = ρ (g_r x)))) → ∀ many, 0 < many → many ≤ 4096 → K (some (.int (nI many))) (am_st J' Lg rr n)) : am_AC d k_M_spreadsFours [.ref 1469, .int (nI w), .int (nI x)] (am_st J Lg rr n) K := by
  obtain ⟨d, rfl, hd1⟩ := s_up hd
  have xr := rf_lt hx
  have ux : am_un (nI (g_rf x)) = g_rf x := n_un (by omega)
  refine am_in _ _ _ (am_step _ _ _ (b_M_spreadsFours_0 (s_rankOf hd1 hx ⟨_, rfl, am_step _ _ _ (b_M_spreadsFours_8 ?_)⟩)))
  rw [ux, hJm x hx]
  refine ⟨xr, fun q => s_rankOf hd1 hx ⟨_, rfl, am_step _ _ _ (b_M_spreadsFours_24 ?_)⟩, fun q => h0 ?_⟩
  · rw [ux]
    refine ⟨xr, by decide, ?_⟩
    have hMx := bi_0.mp q
    have h1 := h1 hMx
    generalize am_st J Lg rr n = M0
    have key : ∀ k, k ≤ 4096 → ∀ T many J', g_p4 ρ x many T → g_s4 I M many T J' → k ≤ many → (∀ j, j < k → ∀ m, m < 4 → g_in T many (g_mf now w m (T j)) = true) → am_St d k_M_spreadsFours M0 K 36 [some (.ref 1469), some (.int (nI w)), some (.int (nI x)), some (.int (nI many)), some (.int (nI k)), none, none] [] (am_st J' Lg rr n) := by
      have fin : ∀ k, k ≤ 4096 → ∀ T many J', g_p4 ρ x many T → g_s4 I M many T J' → k = many → (∀ j, j < k → ∀ m, m < 4 → g_in T many (g_mf now w m (T j)) = true) → am_St d k_M_spreadsFours M0 K 36 [some (.ref 1469), some (.int (nI w)), some (.int (nI x)), some (.int (nI many)), some (.int (nI k)), none, none] [] (am_st J' Lg rr n) := by
        intro k hk4 T many J' hT hs e hp
        subst e
        have e1 := p4_end hR ok hk hT hp
        have ml := p4_le hT
        refine am_step _ _ _ (b_M_spreadsFours_36 ⟨fun q => absurd q (nI_nlt (Nat.le_refl _) (by omega)), fun _ => ?_⟩)
        exact h1 J' hs.1 (fun y hy => by rw [hs.2.2 y hy, e1 y hy]) _ hT.2.2.2 ml
      refine lp_up _ (fun k hk4 ih => ?_) ?_
      · intro T many J' hT hs hkm hp
        by_cases e : k = many
        · exact fin k (by omega) T many J' hT hs e hp
        · have inner : ∀ m, m ≤ 4 → ∀ T many J', g_p4 ρ x many T → g_s4 I M many T J' → k < many → (∀ j, j < k → ∀ m, m < 4 → g_in T many (g_mf now w m (T j)) = true) → (∀ i, i < m → g_in T many (g_mf now w i (T k)) = true) → am_St d k_M_spreadsFours M0 K 45 [some (.ref 1469), some (.int (nI w)), some (.int (nI x)), some (.int (nI many)), some (.int (nI k)), some (.int (nI m)), none] [] (am_st J' Lg rr n) := by
            refine lp_up _ (fun m hm4 ih2 => ?_) ?_
            · intro T many J' hT hs hkm hp hq
              have ml := p4_le hT
              obtain ⟨tk1, tk2⟩ := hT.1 k hkm
              have hVJ : vT J' := hV.fr (fun b b1 b2 => hs.1 b (by omega) (by omega)) (fun b b1 b2 => hs.1 b (by omega) (by omega)) (by rw [hs.1 1469 (by decide) (by decide)])
              have hmJ : m_S (J' 1470) 0 now := by rw [hs.1 1470 (by decide) (by decide)]; exact hmS
              obtain ⟨yl, yo0⟩ := mf_ok hR ok hk hm4 tk1
              have yo := yo0.trans tk2
              refine am_step _ _ _ (b_M_spreadsFours_45 ⟨fun _ => s_has (by omega) ⟨_, rfl, am_step _ _ _ (b_M_spreadsFours_57 ?_)⟩, fun q => absurd (nI_lt hm4 (by decide)) q⟩)
              rw [m_has_n (by omega) (by omega), n_un (by omega), hs.2.1 k hkm]
              have go : am_St d k_M_spreadsFours M0 K 94 [some (.ref 1469), some (.int (nI w)), some (.int (nI x)), some (.int (nI many)), some (.int (nI k)), some (.int (nI m)), some (.int (nI (g_mf now w m (T k))))] [.int (nI (g_rf (g_mf now w m (T k)))), .ref 1487] (am_st J' Lg rr n) → ((if w.testBit m = true then nI 1 else nI 0) = 0 → k < 4096 ∧ am_AC d k_M_rankOf [.int (nI (T k))] (am_st J' Lg rr n) (am_qi fun x1 M1 => am_St d k_M_spreadsFours M0 K 94 [some (.ref 1469), some (.int (nI w)), some (.int (nI x)), some (.int (nI many)), some (.int (nI k)), some (.int (nI m)), some (.int (nI (T k)))] [.int x1, .ref 1487] M1)) ∧ (¬ (if w.testBit m = true then nI 1 else nI 0) = 0 → k < 4096 ∧ am_AC d k_M_fourBy [.ref 1469, .int (nI m), .int (nI (T k))] (am_st J' Lg rr n) (am_qi fun x2 M2 => am_St d k_M_spreadsFours M0 K 73 [some (.ref 1469), some (.int (nI w)), some (.int (nI x)), some (.int (nI many)), some (.int (nI k)), some (.int (nI m)), none] [.int x2] M2)) := by
                intro g
                by_cases c : w.testBit m = true
                · rw [if_pos c]
                  have em : g_mf now w m (T k) = g_t (g_im (now.1 m) (T k) 24) 0 := by unfold g_mf; rw [if_pos c]
                  rw [em] at g yl
                  exact ⟨fun q => absurd q (by decide), fun _ => ⟨by omega, s_fourBy hd1 hVJ ok hmJ hm4 tk1 ⟨_, rfl, am_step _ _ _ (b_M_spreadsFours_73 (s_rankOf hd1 yl ⟨_, rfl, g⟩))⟩⟩⟩
                · rw [if_neg c]
                  have em : g_mf now w m (T k) = T k := by unfold g_mf; rw [if_neg c]
                  rw [em] at g
                  exact ⟨fun _ => ⟨by omega, s_rankOf hd1 tk1 ⟨_, rfl, g⟩⟩, fun q => absurd rfl q⟩
              refine go ?_
              generalize hy : g_mf now w m (T k) = y at yl yo
              have My : M y = false := by rw [hM y x yl hx yo]; exact hMx
              have yr := rf_lt yl
              refine am_step _ _ _ (b_M_spreadsFours_94 ?_)
              rw [n_un (by omega), hs.2.2 y yl, My, Bool.false_or, nI_add]
              refine ⟨yr, fun q => s_rankOf hd1 yl ⟨_, rfl, am_step _ _ _ (b_M_spreadsFours_107 ?_)⟩, fun q => ?_⟩
              · have new := bi_0.mp q
                have nin : ∀ j, j < many → ¬ T j = y := fun j hj e => by
                  rw [(in_iff T y many).mpr ⟨j, hj, e⟩] at new
                  cases new
                obtain ⟨T', eT1, eT2⟩ : ∃ T' : Nat → Nat, T' many = y ∧ ∀ j, ¬ j = many → T' j = T j := ⟨fun j => if j = many then y else T j, if_pos rfl, fun j hj => if_neg hj⟩
                have hT' : g_p4 ρ x (many + 1) T' := by
                  refine ⟨fun j hj => ?_, fun i j hi hj e => ?_, ?_, by omega⟩
                  · by_cases c : j = many
                    · rw [c, eT1]
                      exact ⟨yl, yo⟩
                    · rw [eT2 j c]
                      exact hT.1 j (by omega)
                  · by_cases c1 : i = many
                    · by_cases c2 : j = many
                      · omega
                      · rw [c1, eT1, eT2 j c2] at e
                        exact absurd e.symm (nin j (by omega))
                    · by_cases c2 : j = many
                      · rw [c2, eT1, eT2 i c1] at e
                        exact absurd e (nin i (by omega))
                      · rw [eT2 i c1, eT2 j c2] at e
                        exact hT.2.1 i j (by omega) (by omega) e
                  · have := hT.2.2.2
                    rw [eT2 0 (by omega)]
                    exact hT.2.2.1
                have ml' := p4_le hT'
                have inT : ∀ z, g_in T' (many + 1) z = (g_in T many z || decide (y = z)) := fun z => by
                  show (g_in T' many z || decide (T' many = z)) = _
                  rw [eT1, in_congr z many (fun j hj => eT2 j (by omega))]
                rw [n_un (by omega), n_un (by omega), nI_add, nI_add]
                refine ⟨yr, by omega, am_fg (le_same _ (le_same _ (le_same _ (le_same _ (le_same _ (le_same _ (le_int _ le_nil))))))) (ih2 T' (many + 1) _ hT' ⟨fun b b1 b2 => by rw [am_sr_off _ _ b2, am_sr_off _ _ b1]; exact hs.1 b b1 b2, fun j hj => ?_, fun z hz => ?_⟩ (by omega) (fun j hj i hi4 => ?_) (fun i hi4 => ?_))⟩
                · rw [am_sr_at, am_sr_off _ _ (by decide)]
                  by_cases c : j = many
                  · rw [c, am_u1_at, eT1]
                  · rw [am_u1_off _ _ c, eT2 j c]
                    exact hs.2.1 j (by omega)
                · rw [am_sr_off _ _ (by decide), am_sr_at, inT z]
                  by_cases c : z = y
                  · rw [c, am_u1_at, decide_eq_true rfl, Bool.or_true, Bool.or_true]
                    rfl
                  · rw [am_u1_off _ _ (fun q => c (rf_inj hz yl q)), decide_eq_false (fun q => c q.symm), Bool.or_false]
                    exact hs.2.2 z hz
                · rw [eT2 j (by omega), inT, hp j hj i hi4]
                  rfl
                · rw [eT2 k (by omega), inT]
                  by_cases c : i = m
                  · rw [c, hy, decide_eq_true rfl, Bool.or_true]
                  · rw [hq i (by omega)]
                    rfl
              · have old : g_in T many y = true := by
                  cases c : g_in T many y
                  · exact absurd (bi_0.mpr c) q
                  · rfl
                refine am_fg (le_same _ (le_same _ (le_same _ (le_same _ (le_same _ (le_same _ (le_int _ le_nil))))))) (ih2 T many J' hT hs hkm hp (fun i hi4 => ?_))
                by_cases c : i = m
                · rw [c, hy]
                  exact old
                · exact hq i (by omega)
            · intro T many J' hT hs hkm hp hq
              refine am_step _ _ _ (b_M_spreadsFours_45 ⟨fun q => absurd q (by decide), fun _ => ?_⟩)
              rw [nI_add]
              refine am_fg (le_same _ (le_same _ (le_same _ (le_same _ (le_same _ (le_int _ (le_same _ le_nil))))))) (ih T many J' hT hs (by omega) (fun j hj m hm => ?_))
              by_cases c : j = k
              · rw [c]
                exact hq m hm
              · exact hp j (by omega) m hm
          have ml := p4_le hT
          exact am_step _ _ _ (b_M_spreadsFours_36 ⟨fun _ => inner 0 (by decide) T many J' hT hs (by omega) hp (fun i hi => absurd hi (Nat.not_lt_zero i)), fun q => absurd (nI_lt (show k < many by omega) (by omega)) q⟩)
      · intro T many J' hT hs hkm hp
        have ml := p4_le hT
        exact fin 4096 (Nat.le_refl _) T many J' hT hs (by omega) hp
    refine key 0 (by decide) (fun _ => x) 1 _ ⟨fun j _ => ⟨hx, rfl⟩, fun i j a b _ => by omega, rfl, by decide⟩ ⟨fun b b1 b2 => by rw [am_sr_off _ _ b2, am_sr_off _ _ b1]; exact hJ b b1 b2, fun j hj => ?_, fun y hy => ?_⟩ (by decide) (fun j hj => absurd hj (Nat.not_lt_zero j))
    · have : j = 0 := by omega
      rw [this, am_sr_at, show am_un (nI 0) = 0 from rfl, am_u1_at]
    · rw [am_sr_off _ _ (by decide), am_sr_at]
      show _ = g_bi (M y || (false || decide (x = y)))
      by_cases c : y = x
      · rw [c, am_u1_at, decide_eq_true rfl, Bool.or_true, Bool.or_true]
        rfl
      · rw [am_u1_off _ _ (fun q => c (rf_inj hy hx q)), decide_eq_false (fun q => c q.symm), Bool.or_false, Bool.or_false]
        exact hJm y hy
  · cases c : M x
    · rw [c] at q
      exact absurd rfl q
    · rfl
end M4
