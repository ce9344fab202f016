/-! GROUPS: THE WORDS BY THEIR NUMBERS -/
/-- the number of the word that comes of the word n -/
def g_mo (f : Nat → Nat) (n : Nat) : Nat := g_N (g_pl (g_im f (g_W n) 24))
/-- its place -/
def g_sg (n : Nat) : Nat := g_pl (g_W n)
theorem sg_lt (n : Nat) : g_sg n < 4096 := pl_lt _
theorem sg_N {i : Nat} (h : i < 4096) : g_sg (g_N i) = i := by
  unfold g_sg
  rw [g_W_N, pl_w h]
theorem N_sg {n : Nat} (h : n < 4096) : g_N (g_sg n) = n := g_N_pl h
theorem sg_w (n : Nat) : g_w (g_sg n) = g_W n := g_w_pl n
theorem sg_inj {a b : Nat} (ha : a < 4096) (hb : b < 4096) (e : g_sg a = g_sg b) : a = b := by rw [← N_sg ha, e, N_sg hb]
theorem mo_lt (f : Nat → Nat) (n : Nat) : g_mo f n < 4096 := g_N_lt _
theorem sg_mo (f : Nat → Nat) (n : Nat) : g_sg (g_mo f n) = g_go 1 f (g_sg n) := by
  unfold g_mo
  rw [sg_N (pl_lt _)]
  unfold g_go
  rw [if_neg (by decide), if_pos rfl, sg_w]
theorem mo_sum {f : Nat → Nat} (hf : a_pm f) {n : Nat} (hn : n < 4096) : g_sum (fun k => g_mo f (2 ^ k)) n 12 = g_mo f n := by
  have := gs_hom (f := g_mo f) (by unfold g_mo; rw [g_W_0, im_0]; decide +kernel) (fun a b => by unfold g_mo; rw [g_W_xor, im_xor hf, pl_xor, g_N_xor]) (fun k => 2 ^ k) n 12
  rw [gs_id (show n < 2 ^ 12 from hn)] at this
  exact this.symm
theorem go1_inj {f : Nat → Nat} (hf : a_pm f) (hk : g_pvb f = true) : ∀ i j, i < 4096 → j < 4096 → g_go 1 f i = g_go 1 f j → i = j := by
  intro i j hi hj e
  unfold g_go at e
  rw [if_neg (by decide), if_pos rfl, if_neg (by decide), if_pos rfl] at e
  have w : ∀ i, i < 4096 → g_isw (g_im f (g_w i) 24) := fun i hi => im_isw hf hk (isw_w hi)
  have e2 : g_im f (g_w i) 24 = g_im f (g_w j) 24 := by
    have a : g_im f (g_w i) 24 = g_w (g_pl (g_im f (g_w i) 24)) := w i hi
    have b : g_im f (g_w j) 24 = g_w (g_pl (g_im f (g_w j) 24)) := w j hj
    rw [a, b, e]
  have e3 := im_inj hf (g_w_lt i) (g_w_lt j) e2
  rw [← pl_w hi, e3, pl_w hj]
/-- the weight stays -/
theorem go1_wt {f : Nat → Nat} (hf : a_pm f) (hk : g_pvb f = true) {i : Nat} (hi : i < 4096) : pcn (g_w (g_go 1 f i)) = pcn (g_w i) := by
  have a : g_im f (g_w i) 24 = g_w (g_pl (g_im f (g_w i) 24)) := im_isw hf hk (isw_w hi)
  unfold g_go
  rw [if_neg (by decide), if_pos rfl, ← a]
  exact im_pcn hf 24 (Nat.le_refl _) _ (g_w_lt i)
section MW
variable {d : Nat} {K : Option Value → am_M → Prop} {I J : Nat → Nat → Int32} {Lg : Nat → Nat → Int64} {rr : Nat → Nat → Option Nat} {n : Nat} {w : Nat} {now : a_S} {ρ : Nat → Nat}
/-- the images of the basis -/
def g_ix (now : a_S) (w : Nat) (J : Nat → Nat → Int32) : Prop := ∀ m, m < 4 → ∀ k, k < 12 → J 1486 (12 * m + k) = nI (if w.testBit m then g_mo (now.1 m) (2 ^ k) else 2 ^ k)
theorem s_imagesOf (hd : 5 ≤ d) (hT : vT I) (ok : a_ok now) (hm : m_S (I 1470) 0 now) (hw : w < 16) (hk : g_ak now.1 w) (h : ∀ J, (∀ b, ¬ b = 1486 → J b = I b) → g_ix now w J → K none (am_st J Lg rr n)) : am_AC d k_M_imagesOf [.ref 1469, .int (nI w)] (am_st I Lg rr n) K := by
  obtain ⟨d, rfl, hd1⟩ := s_up hd
  have hf : ∀ m, m < 4 → ∀ p, p < 24 → now.1 m p < 24 := fun m hm => (ok.1 m (by omega)).1
  have key : ∀ m, m ≤ 4 → ∀ J, (∀ b, ¬ b = 1486 → J b = I b) → (∀ i, i < m → ∀ k, k < 12 → J 1486 (12 * i + k) = nI (if w.testBit i then g_mo (now.1 i) (2 ^ k) else 2 ^ k)) → am_St d k_M_imagesOf (am_st I Lg rr n) K 2 [some (.ref 1469), some (.int (nI w)), some (.int (nI m)), none] [] (am_st J Lg rr n) := by
    refine lp_up _ (fun m hm4 ih => ?_) ?_
    · intro J0 o1 o2
      have inner : ∀ k, k ≤ 12 → ∀ J, (∀ b, ¬ b = 1486 → J b = I b) → (∀ i, i < m → ∀ k, k < 12 → J 1486 (12 * i + k) = nI (if w.testBit i then g_mo (now.1 i) (2 ^ k) else 2 ^ k)) → (∀ j, j < k → J 1486 (12 * m + j) = nI (if w.testBit m then g_mo (now.1 m) (2 ^ j) else 2 ^ j)) → am_St d k_M_imagesOf (am_st I Lg rr n) K 9 [some (.ref 1469), some (.int (nI w)), some (.int (nI m)), some (.int (nI k))] [] (am_st J Lg rr n) := by
        refine lp_up _ (fun k hk12 ih2 => ?_) ?_
        · intro J p1 p2 p3
          have ei : nI 12 * nI m + nI k = nI (12 * m + k) := by rw [pk_mul, nI_add]
          have next : ∀ v, v = nI (if w.testBit m then g_mo (now.1 m) (2 ^ k) else 2 ^ k) → am_St d k_M_imagesOf (am_st I Lg rr n) K 9 [some (.ref 1469), some (.int (nI w)), some (.int (nI m)), some (.int (nI k + nI 1))] [] (am_st (am_sr J 1486 (am_u1 (J 1486) (am_un (nI (12 * m + k))) v)) Lg rr n) := by
            intro v hv
            rw [n_un (by omega), nI_add]
            refine ih2 _ (fun b hb => by rw [am_sr_off _ _ hb]; exact p1 b hb) (fun i hi j hj => ?_) (fun j hj => ?_)
            · rw [am_sr_at, am_u1_off _ _ (by omega)]
              exact p2 i hi j hj
            · rw [am_sr_at]
              by_cases c : j = k
              · rw [c, am_u1_at, hv]
              · rw [am_u1_off _ _ (by omega)]
                exact p3 j (by omega)
          refine am_step _ _ _ (b_M_imagesOf_9 ⟨fun _ => s_has (by omega) ⟨_, rfl, ?_⟩, fun q => absurd (nI_lt hk12 (by decide)) q⟩)
          rw [ei, m_has_n (by omega) (by omega)]
          refine am_step _ _ _ (b_M_imagesOf_30 ?_)
          have lt48 : am_un (nI (12 * m + k)) < 48 := by rw [n_un (by omega)]; omega
          by_cases c : w.testBit m = true
          · rw [if_pos c] at next ⊢
            refine ⟨fun q => absurd q (by decide), fun _ => s_basic (by omega) (by omega) ⟨_, rfl, am_step _ _ _ (b_M_imagesOf_40 ?_)⟩⟩
            rw [m_basic_B k hk12]
            have bl := g_B_lt k hk12
            have hmJ : m_S (J 1470) 0 now := by rw [p1 1470 (by decide)]; exact hm
            have hTJ : vT J := hT.fr (fun b b1 b2 => p1 b (by omega)) (fun b b1 b2 => p1 b (by omega)) (by rw [p1 1469 (by decide)])
            have iw : g_isw (g_im (now.1 m) (g_B k) 24) := (pvq_b 12).mp (hk m hm4 c) k hk12
            refine s_goes (by omega) (by omega) (now_m hmJ (by omega)) (hf m hm4) (by omega) ⟨_, rfl, am_step _ _ _ (b_M_imagesOf_43 (s_MnumberOf (by omega) hTJ (im_lt (hf m hm4) _ 24 (Nat.le_refl _)) (fun _ => ⟨_, rfl, am_step _ _ _ (b_M_imagesOf_46 ⟨lt48, next _ ?_⟩)⟩) (fun q => absurd iw q)))⟩
            unfold g_mo
            rw [W_basis k hk12]
          · rw [if_neg c] at next ⊢
            refine ⟨fun _ => ⟨lt48, next _ (n_p2 (by omega))⟩, fun q => absurd rfl q⟩
        · intro J p1 p2 p3
          refine am_step _ _ _ (b_M_imagesOf_9 ⟨fun q => absurd q (by decide), fun _ => ?_⟩)
          rw [nI_add]
          refine am_fg (le_same _ (le_same _ (le_same _ (le_int _ le_nil)))) (ih J p1 fun i hi j hj => ?_)
          by_cases c : i = m
          · rw [c]
            exact p3 j hj
          · exact p2 i (by omega) j hj
      exact am_step _ _ _ (b_M_imagesOf_2 ⟨fun _ => inner 0 (by decide) J0 o1 o2 (fun j hj => absurd hj (Nat.not_lt_zero j)), fun q => absurd (nI_lt hm4 (by decide)) q⟩)
    · intro J o1 o2
      exact am_step _ _ _ (b_M_imagesOf_2 ⟨fun q => absurd q (by decide), fun _ => h J o1 o2⟩)
  exact am_in _ _ _ (am_step _ _ _ (b_M_imagesOf_0 (key 0 (by decide) I (fun b _ => rfl) (fun i hi => absurd hi (Nat.not_lt_zero i)))))
/-- where the word x goes by the move m, as the model has it -/
def g_mv (now : a_S) (w m x : Nat) : Nat := if w.testBit m then g_mo (now.1 m) x else x
theorem mv_lt {m x : Nat} (hx : x < 4096) : g_mv now w m x < 4096 := by
  unfold g_mv
  split
  · exact mo_lt _ _
  · exact hx
theorem s_MimageOf {m x : Nat} (hd : 2 ≤ d) (ok : a_ok now) (hi : g_ix now w J) (hm : m < 4) (hx : x < 4096) (h : K (some (.int (nI (g_mv now w m x)))) (am_st J Lg rr n)) : am_AC d k_M_imageOf [.ref 1469, .int (nI m), .int (nI x)] (am_st J Lg rr n) K := by
  obtain ⟨d, rfl, hd1⟩ := s_up hd
  have ee : g_sum (fun k => if w.testBit m then g_mo (now.1 m) (2 ^ k) else 2 ^ k) x 12 = g_mv now w m x := by
    unfold g_mv
    by_cases c : w.testBit m = true
    · rw [if_pos c, gs_congr x 12 (B := fun k => g_mo (now.1 m) (2 ^ k)) (fun k hk => by rw [if_pos c])]
      exact mo_sum (ok.1 m (by omega)) hx
    · rw [if_neg c, gs_congr x 12 (B := fun k => 2 ^ k) (fun k hk => by rw [if_neg c])]
      exact gs_id hx
  rw [← ee] at h
  have key : ∀ k, k ≤ 12 → am_St d k_M_imageOf (am_st J Lg rr n) K 5 [some (.ref 1469), some (.int (nI m)), some (.int (nI x)), some (.int (nI (g_sum (fun k => if w.testBit m then g_mo (now.1 m) (2 ^ k) else 2 ^ k) x k))), some (.int (nI k))] [] (am_st J Lg rr n) := by
    refine lp_up _ (fun k hk ih => ?_) ?_
    · rw [gs_s] at ih
      refine am_step _ _ _ (b_M_imageOf_5 ⟨fun _ => s_has (by omega) ⟨_, rfl, am_step _ _ _ (b_M_imageOf_19 ?_)⟩, fun q => absurd (nI_lt hk (by decide)) q⟩)
      rw [m_has_n (by omega) (by omega), show nI 12 * nI m + nI k = nI (12 * m + k) by rw [pk_mul, nI_add], n_un (by omega), hi m hm k hk, nI_add, n_xor, n_xor, Nat.xor_zero]
      by_cases c : x.testBit k = true
      · rw [if_pos c] at ih ⊢
        exact ⟨fun q => absurd q (by decide), fun _ => ⟨by omega, ih⟩⟩
      · rw [if_neg c] at ih ⊢
        exact ⟨fun _ => ih, fun q => absurd rfl q⟩
    · exact am_step _ _ _ (b_M_imageOf_5 ⟨fun q => absurd q (by decide), fun _ => h⟩)
  exact am_in _ _ _ (am_step _ _ _ (b_M_imageOf_0 (key 0 (by decide))))
theorem s_unmarks (hd : 1 ≤ d) (h : ∀ J, (∀ b, ¬ b = 1487 → J b = I b) → (∀ k, k < 4096 → J 1487 k = nI 0) → K none (am_st J Lg rr n)) : am_AC d k_M_unmarks [.ref 1469] (am_st I Lg rr n) K := by
  obtain ⟨d, rfl, hd1⟩ := s_up hd
  have key : ∀ k, k ≤ 4096 → ∀ J, (∀ b, ¬ b = 1487 → J b = I b) → (∀ j, j < k → J 1487 j = nI 0) → am_St d k_M_unmarks (am_st I Lg rr n) K 2 [some (.ref 1469), some (.int (nI k))] [] (am_st J Lg rr n) := by
    refine lp_up _ (fun k hk ih => ?_) ?_
    · intro J o1 o2
      refine am_step _ _ _ (b_M_unmarks_2 ⟨fun _ => ?_, fun q => absurd (nI_lt hk (by decide)) q⟩)
      rw [n_un (by omega), nI_add]
      refine ⟨hk, ih _ (fun b hb => by rw [am_sr_off _ _ hb]; exact o1 b hb) (fun j hj => ?_)⟩
      rw [am_sr_at]
      by_cases c : j = k
      · rw [c, am_u1_at]
      · rw [am_u1_off _ _ c]
        exact o2 j (by omega)
    · intro J o1 o2
      exact am_step _ _ _ (b_M_unmarks_2 ⟨fun q => absurd q (by decide), fun _ => h J o1 o2⟩)
  exact am_in _ _ _ (am_step _ _ _ (b_M_unmarks_0 (key 0 (by decide) I (fun b _ => rfl) (fun j hj => absurd hj (Nat.not_lt_zero j)))))
end MW
