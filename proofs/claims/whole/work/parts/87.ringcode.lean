/-! RINGS, IN THE CODE -/
section RC
variable {d : Nat} {K : Option Value → am_M → Prop} {I : Nat → Nat → Int32} {Lg : Nat → Nat → Int64} {rr : Nat → Nat → Option Nat} {n : Nat} {f : Nat → Nat} {a m : Nat}
theorem s_cycleLength {p l : Nat} (hd : 2 ≤ d) (ha : am_ro 1497 a 24) (hI : ∀ p, p < 24 → I a p = nI (f p)) (hf : a_pm f) (hp : p < 24) (hl : g_ps f p l) (h : K (some (.int (nI l))) (am_st I Lg rr n)) : am_AC d k_Mo_cycleLength [.ref a, .int (nI p)] (am_st I Lg rr n) K := by
  obtain ⟨d, rfl, hd1⟩ := s_up hd
  obtain ⟨l1, l2, l3, l4⟩ := hl
  have key : ∀ k, k ≤ l → 1 ≤ k → am_St d k_Mo_cycleLength (am_st I Lg rr n) K 8 [some (.ref a), some (.int (nI p)), some (.int (nI k)), some (.int (nI (f_it f p k)))] [] (am_st I Lg rr n) := by
    refine lp_up _ (fun k hk ih => ?_) ?_
    · intro k1
      have q24 := it_lt hf.1 hp k
      refine am_step _ _ _ (b_Mo_cycleLength_8 ⟨fun q => ?_, fun _ => ⟨fun _ => s_Mo_to hd1 ha q24 (hI _ q24) ⟨_, rfl, am_step _ _ _ (b_Mo_cycleLength_27 ?_)⟩, fun q => absurd (nI_lt (show k < 24 by omega) (by decide)) q⟩⟩)
      · rw [nI_eq (by omega) (by omega)] at q
        exact absurd q (l4 k k1 hk)
      · rw [nI_add]
        exact ih (by omega)
    · intro _
      refine am_step _ _ _ (b_Mo_cycleLength_8 ⟨fun _ => h, fun q => absurd (by rw [l3]) q⟩)
  refine am_in _ _ _ (am_step _ _ _ (b_Mo_cycleLength_0 (s_Mo_to hd1 ha hp (hI p hp) ⟨_, rfl, am_step _ _ _ (b_Mo_cycleLength_7 (key 1 l1 (Nat.le_refl _)))⟩)))
theorem s_ring {p l : Nat} (hd : 2 ≤ d) (hm : m < 5) (hI : ∀ p, p < 24 → I 1470 (24 * m + p) = nI (f p)) (hf : a_pm f) (hp : p < 24) (hl : g_ps f p l) (h : K (some (.int (nI l))) (am_st I Lg rr n)) : am_AC d k_M_ring [.ref 1469, .int (nI m), .int (nI p)] (am_st I Lg rr n) K := by
  obtain ⟨d, rfl, hd1⟩ := s_up hd
  obtain ⟨l1, l2, l3, l4⟩ := hl
  have key : ∀ k, k ≤ l → 1 ≤ k → am_St d k_M_ring (am_st I Lg rr n) K 10 [some (.ref 1469), some (.int (nI m)), some (.int (nI p)), some (.int (nI k)), some (.int (nI (f_it f p k)))] [] (am_st I Lg rr n) := by
    refine lp_up _ (fun k hk ih => ?_) ?_
    · intro k1
      have q24 := it_lt hf.1 hp k
      refine am_step _ _ _ (b_M_ring_10 ⟨fun q => ?_, fun _ => ⟨fun _ => s_Mto hd1 hm q24 (hI _ q24) ⟨_, rfl, am_step _ _ _ (b_M_ring_32 ?_)⟩, fun q => absurd (nI_lt (show k < 24 by omega) (by decide)) q⟩⟩)
      · rw [nI_eq (by omega) (by omega)] at q
        exact absurd q (l4 k k1 hk)
      · rw [nI_add]
        exact ih (by omega)
    · intro _
      refine am_step _ _ _ (b_M_ring_10 ⟨fun _ => h, fun q => absurd (by rw [l3]) q⟩)
  refine am_in _ _ _ (am_step _ _ _ (b_M_ring_0 (s_Mto hd1 hm hp (hI p hp) ⟨_, rfl, am_step _ _ _ (b_M_ring_8 (key 1 l1 (Nat.le_refl _)))⟩)))
theorem s_isLowest {p : Nat} (hd : 2 ≤ d) (ha : am_ro 1497 a 24) (hI : ∀ p, p < 24 → I a p = nI (f p)) (hf : a_pm f) (hp : p < 24) (h : K (some (.int (if g_lsb f p then nI 1 else nI 0))) (am_st I Lg rr n)) : am_AC d k_Mo_isLowestInCycle [.ref a, .int (nI p)] (am_st I Lg rr n) K := by
  obtain ⟨d, rfl, hd1⟩ := s_up hd
  obtain ⟨l, l1, l2, l3, l4⟩ := ps_ex hf hp
  have key : ∀ k, k ≤ 24 → (∀ i, 1 ≤ i → i ≤ k → p < f_it f p i) → am_St d k_Mo_isLowestInCycle (am_st I Lg rr n) K 8 [some (.ref a), some (.int (nI p)), some (.int (nI (f_it f p (k + 1)))), some (.int (nI k))] [] (am_st I Lg rr n) := by
    refine lp_up _ (fun k hk ih => ?_) ?_
    · intro hg
      have q24 := it_lt hf.1 hp (k + 1)
      refine am_step _ _ _ (b_Mo_isLowestInCycle_8 ⟨fun _ => ⟨fun q => s_Mo_to hd1 ha q24 (hI _ q24) ⟨_, rfl, am_step _ _ _ (b_Mo_isLowestInCycle_24 ?_)⟩, fun q => ⟨fun q2 => ?_, fun q2 => ?_⟩⟩, fun q => absurd (nI_lt hk (by decide)) q⟩)
      · rw [nI_ltI (by omega) (by omega)] at q
        rw [nI_add]
        refine ih (fun i i1 i2 => ?_)
        by_cases e : i = k + 1
        · rw [e]
          exact q
        · exact hg i i1 (by omega)
      · rw [nI_eq (by omega) (by omega)] at q2
        rw [ls_true q2 hg, if_pos rfl] at h
        exact h
      · rw [nI_eq (by omega) (by omega)] at q2
        rw [nI_ltI (by omega) (by omega)] at q
        rw [ls_false (k := k + 1) (by omega) (by omega) (by omega), if_neg (by decide)] at h
        exact h
    · intro hg
      have := hg l l1 l2
      omega
  exact am_in _ _ _ (am_step _ _ _ (b_Mo_isLowestInCycle_0 (s_Mo_to hd1 ha hp (hI p hp) ⟨_, rfl, am_step _ _ _ (b_Mo_isLowestInCycle_5 (key 0 (by decide) (fun i i1 i2 => by omega)))⟩)))
theorem s_isLeast {p : Nat} (hd : 2 ≤ d) (hm : m < 5) (hI : ∀ p, p < 24 → I 1470 (24 * m + p) = nI (f p)) (hf : a_pm f) (hp : p < 24) (h : K (some (.int (if g_lsb f p then nI 1 else nI 0))) (am_st I Lg rr n)) : am_AC d k_M_isLeast [.ref 1469, .int (nI m), .int (nI p)] (am_st I Lg rr n) K := by
  obtain ⟨d, rfl, hd1⟩ := s_up hd
  have key : ∀ k, k ≤ 24 → am_St d k_M_isLeast (am_st I Lg rr n) K 8 [some (.ref 1469), some (.int (nI m)), some (.int (nI p)), some (.int (if g_lq f p k then nI 1 else nI 0)), some (.int (nI (f_it f p k))), some (.int (nI k))] [] (am_st I Lg rr n) := by
    refine lp_up _ (fun k hk ih => ?_) ?_
    · have q24 := it_lt hf.1 hp k
      have q25 := it_lt hf.1 hp (k + 1)
      refine am_step _ _ _ (b_M_isLeast_8 ⟨fun _ => ⟨fun q => ?_, fun q => ?_⟩, fun q => absurd (nI_lt hk (by decide)) q⟩)
      · cases hb : g_lq f p k
        · have e := lq_f hb (24 - k)
          rw [show k + (24 - k) = 24 by omega] at e
          unfold g_lsb at h
          rw [e] at h
          exact h
        · rw [hb] at q
          exact absurd q (by decide)
      · cases hb : g_lq f p k
        · rw [hb] at q
          exact absurd rfl q
        · have e : g_lq f p (k + 1) = decide (p ≤ f_it f p (k + 1)) := by
            show (g_lq f p k && _) = _
            rw [hb]
            rfl
          rw [e] at ih
          refine s_Mto hd1 hm q24 (hI _ q24) ⟨_, rfl, am_step _ _ _ (b_M_isLeast_26 ⟨fun q2 => ?_, fun q2 => ?_⟩)⟩
          · have q2 : nI (f_it f p (k + 1)) < nI p := q2
            rw [nI_ltI (by omega) (by omega)] at q2
            rw [decide_eq_false (by omega)] at ih
            rw [nI_add]
            exact ih
          · have q2 : ¬ nI (f_it f p (k + 1)) < nI p := q2
            rw [nI_ltI (by omega) (by omega)] at q2
            rw [decide_eq_true (by omega)] at ih
            rw [nI_add]
            exact ih
    · exact am_step _ _ _ (b_M_isLeast_8 ⟨fun q => absurd q (by decide), fun _ => am_zg (by split <;> rfl) h⟩)
  exact am_in _ _ _ (am_step _ _ _ (b_M_isLeast_0 (key 0 (by decide))))
theorem s_cycleCount (hd : 3 ≤ d) (ha : am_ro 1497 a 24) (hI : ∀ p, p < 24 → I a p = nI (f p)) (hf : a_pm f) (h : K (some (.int (nI (g_cnt (g_lsb f) 24)))) (am_st I Lg rr n)) : am_AC d k_Mo_cycleCount [.ref a] (am_st I Lg rr n) K := by
  obtain ⟨d, rfl, hd1⟩ := s_up hd
  have key : ∀ k, k ≤ 24 → am_St d k_Mo_cycleCount (am_st I Lg rr n) K 4 [some (.ref a), some (.int (nI (g_cnt (g_lsb f) k))), some (.int (nI k))] [] (am_st I Lg rr n) := by
    refine lp_up _ (fun k hk ih => ?_) ?_
    · rw [cnt_s] at ih
      refine am_step _ _ _ (b_Mo_cycleCount_4 (am_gi ha.g1 ⟨fun _ => s_isLowest hd1 ha hI hf hk ⟨_, rfl, am_step _ _ _ (b_Mo_cycleCount_15 ?_)⟩, fun q => ?_⟩))
      · cases hb : g_lsb f k
        · rw [hb] at ih
          refine ⟨fun _ => ?_, fun q => absurd rfl q⟩
          rw [nI_add]
          exact ih
        · rw [hb] at ih
          refine ⟨fun q => absurd q (by decide), fun _ => ?_⟩
          rw [nI_add, nI_add]
          exact ih
      · rw [ha.n] at q
        exact absurd (nI_lt hk (by decide)) q
    · refine am_step _ _ _ (b_Mo_cycleCount_4 (am_gi ha.g1 ⟨fun q => ?_, fun _ => h⟩))
      rw [ha.n] at q
      exact absurd q (by decide)
  exact am_in _ _ _ (am_step _ _ _ (b_Mo_cycleCount_0 (key 0 (by decide))))
theorem s_rings (hd : 3 ≤ d) (hm : m < 5) (hI : ∀ p, p < 24 → I 1470 (24 * m + p) = nI (f p)) (hf : a_pm f) (h : K (some (.int (nI (g_cnt (g_lsb f) 24)))) (am_st I Lg rr n)) : am_AC d k_M_rings [.ref 1469, .int (nI m)] (am_st I Lg rr n) K := by
  obtain ⟨d, rfl, hd1⟩ := s_up hd
  have key : ∀ k, k ≤ 24 → am_St d k_M_rings (am_st I Lg rr n) K 4 [some (.ref 1469), some (.int (nI m)), some (.int (nI (g_cnt (g_lsb f) k))), some (.int (nI k))] [] (am_st I Lg rr n) := by
    refine lp_up _ (fun k hk ih => ?_) ?_
    · rw [cnt_s] at ih
      refine am_step _ _ _ (b_M_rings_4 ⟨fun _ => s_isLeast hd1 hm hI hf hk ⟨_, rfl, am_step _ _ _ (b_M_rings_17 ?_)⟩, fun q => absurd (nI_lt hk (by decide)) q⟩)
      cases hb : g_lsb f k
      · rw [hb] at ih
        refine ⟨fun _ => ?_, fun q => absurd rfl q⟩
        rw [nI_add, nI_add]
        exact ih
      · rw [hb] at ih
        refine ⟨fun q => absurd q (by decide), fun _ => ?_⟩
        rw [nI_add, nI_add]
        exact ih
    · exact am_step _ _ _ (b_M_rings_4 ⟨fun q => absurd q (by decide), fun _ => h⟩)
  exact am_in _ _ _ (am_step _ _ _ (b_M_rings_0 (key 0 (by decide))))
theorem s_fixedPoints (hd : 1 ≤ d) (ha : am_ro 1497 a 24) (hI : ∀ p, p < 24 → I a p = nI (f p)) (hf : a_pm f) (h : K (some (.int (nI (g_cnt (fun p => decide (f p = p)) 24)))) (am_st I Lg rr n)) : am_AC d k_Mo_fixedPoints [.ref a] (am_st I Lg rr n) K := by
  obtain ⟨d, rfl, hd1⟩ := s_up hd
  have key : ∀ k, k ≤ 24 → am_St d k_Mo_fixedPoints (am_st I Lg rr n) K 4 [some (.ref a), some (.int (nI (g_cnt (fun p => decide (f p = p)) k))), some (.int (nI k))] [] (am_st I Lg rr n) := by
    refine lp_up _ (fun k hk ih => ?_) ?_
    · rw [cnt_s] at ih
      have eu : am_un (nI k) = k := n_un (by omega)
      have lt := hf.1 k hk
      refine am_step _ _ _ (b_Mo_fixedPoints_4 (am_gi ha.g1 ⟨fun _ => am_gi (oS_ro ha) ?_, fun q => ?_⟩))
      · rw [eu, ha.n, hI k hk, nI_add, nI_add]
        refine ⟨hk, fun q => ?_, fun q => ?_⟩
        · rw [nI_eq (by omega) (by omega)] at q
          rw [decide_eq_true q] at ih
          exact ih
        · have q : ¬ f k = k := fun e => q (by rw [e])
          rw [decide_eq_false q] at ih
          exact ih
      · rw [ha.n] at q
        exact absurd (nI_lt hk (by decide)) q
    · refine am_step _ _ _ (b_Mo_fixedPoints_4 (am_gi ha.g1 ⟨fun q => ?_, fun _ => h⟩))
      rw [ha.n] at q
      exact absurd q (by decide)
  exact am_in _ _ _ (am_step _ _ _ (b_Mo_fixedPoints_0 (key 0 (by decide))))
theorem s_stays (hd : 2 ≤ d) (hm : m < 5) (hI : ∀ p, p < 24 → I 1470 (24 * m + p) = nI (f p)) (hf : a_pm f) (h : K (some (.int (nI (g_cnt (fun p => decide (f p = p)) 24)))) (am_st I Lg rr n)) : am_AC d k_M_stays [.ref 1469, .int (nI m)] (am_st I Lg rr n) K := by
  obtain ⟨d, rfl, hd1⟩ := s_up hd
  have key : ∀ k, k ≤ 24 → am_St d k_M_stays (am_st I Lg rr n) K 4 [some (.ref 1469), some (.int (nI m)), some (.int (nI (g_cnt (fun p => decide (f p = p)) k))), some (.int (nI k))] [] (am_st I Lg rr n) := by
    refine lp_up _ (fun k hk ih => ?_) ?_
    · rw [cnt_s] at ih
      have lt := hf.1 k hk
      refine am_step _ _ _ (b_M_stays_4 ⟨fun _ => s_Mto hd1 hm hk (hI k hk) ⟨_, rfl, am_step _ _ _ (b_M_stays_17 ⟨fun q => ?_, fun q => ?_⟩)⟩, fun q => absurd (nI_lt hk (by decide)) q⟩)
      · rw [nI_eq (by omega) (by omega)] at q
        rw [decide_eq_true q] at ih
        rw [nI_add, nI_add]
        exact ih
      · have q : ¬ f k = k := fun e => q (by rw [e])
        rw [decide_eq_false q] at ih
        rw [nI_add, nI_add]
        exact ih
    · exact am_step _ _ _ (b_M_stays_4 ⟨fun q => absurd q (by decide), fun _ => h⟩)
  exact am_in _ _ _ (am_step _ _ _ (b_M_stays_0 (key 0 (by decide))))
theorem s_octadsFixedBy (hd : 2 ≤ d) (hT : vT I) (ha : am_ro 1497 a 24) (hI : ∀ p, p < 24 → I a p = nI (f p)) (hf : a_pm f) (h : K (some (.int (nI (g_cnt (fun j => decide (g_im f (g_oct j) 24 = g_oct j)) 759)))) (am_st I Lg rr n)) : am_AC d k_Go_octadsFixedBy [.ref 19, .ref a] (am_st I Lg rr n) K := by
  obtain ⟨d, rfl, hd1⟩ := s_up hd
  have key : ∀ k, k ≤ 759 → am_St d k_Go_octadsFixedBy (am_st I Lg rr n) K 14 [some (.ref 19), some (.ref a), some (.int (nI (g_cnt (fun j => decide (g_im f (g_oct j) 24 = g_oct j)) k))), some (.ref 21), some (.int (nI 759)), some (.int (nI k)), none] [] (am_st I Lg rr n) := by
    refine lp_up _ (fun k hk ih => ?_) ?_
    · rw [cnt_s] at ih
      have eu : am_un (nI k) = k := n_un (by omega)
      have eo : I 21 k = nI (g_oct k) := hT.2.1.2.1 k hk
      have ol := oct_lt hk
      have il := im_lt hf.1 (g_oct k) 24 (Nat.le_refl _)
      refine am_step _ _ _ (b_Go_octadsFixedBy_14 ⟨fun _ => ?_, fun q => absurd (nI_lt hk (by decide)) q⟩)
      rw [eu, eo]
      refine ⟨hk, s_imageOf hd1 ha hI hf.1 (by omega) ⟨_, rfl, am_step _ _ _ (b_Go_octadsFixedBy_33 ⟨fun q => ?_, fun q => ?_⟩)⟩⟩
      · rw [nI_eq (by omega) (by omega)] at q
        rw [decide_eq_true q] at ih
        rw [nI_add, nI_add]
        exact am_fg (le_same _ (le_same _ (le_same _ (le_same _ (le_same _ (le_same _ (le_int _ le_nil))))))) ih
      · have q : ¬ g_im f (g_oct k) 24 = g_oct k := fun e => q (by rw [e])
        rw [decide_eq_false q] at ih
        rw [nI_add]
        exact am_fg (le_same _ (le_same _ (le_same _ (le_same _ (le_same _ (le_same _ (le_int _ le_nil))))))) ih
    · exact am_step _ _ _ (b_Go_octadsFixedBy_14 ⟨fun q => absurd q (by decide), fun _ => h⟩)
  exact am_in _ _ _ (am_step _ _ _ (b_Go_octadsFixedBy_0 (key 0 (by decide))))
theorem s_octadsKept (hd : 3 ≤ d) (hT : vT I) (hm : m < 5) (hI : ∀ p, p < 24 → I 1470 (24 * m + p) = nI (f p)) (hf : a_pm f) (h : K (some (.int (nI (g_cnt (fun j => decide (g_im f (g_oct j) 24 = g_oct j)) 759)))) (am_st I Lg rr n)) : am_AC d k_M_octadsKept [.ref 1469, .int (nI m)] (am_st I Lg rr n) K := by
  obtain ⟨d, rfl, hd1⟩ := s_up hd
  have key : ∀ k, k ≤ 759 → am_St d k_M_octadsKept (am_st I Lg rr n) K 4 [some (.ref 1469), some (.int (nI m)), some (.int (nI (g_cnt (fun j => decide (g_im f (g_oct j) 24 = g_oct j)) k))), some (.int (nI k))] [] (am_st I Lg rr n) := by
    refine lp_up _ (fun k hk ih => ?_) ?_
    · rw [cnt_s] at ih
      have eu : am_un (nI k) = k := n_un (by omega)
      have eo : I 1474 k = nI (g_oct k) := hT.2.2.2.2.2.2 k hk
      have ol := oct_lt hk
      have il := im_lt hf.1 (g_oct k) 24 (Nat.le_refl _)
      refine am_step _ _ _ (b_M_octadsKept_4 ⟨fun _ => ?_, fun q => absurd (nI_lt hk (by decide)) q⟩)
      rw [eu, eo]
      refine ⟨hk, s_goes hd1 hm hI hf.1 (by omega) ⟨_, rfl, am_step _ _ _ (b_M_octadsKept_23 ?_)⟩⟩
      rw [eu, eo]
      refine ⟨hk, fun q => ?_, fun q => ?_⟩
      · rw [nI_eq (by omega) (by omega)] at q
        rw [decide_eq_true q] at ih
        rw [nI_add, nI_add]
        exact ih
      · have q : ¬ g_im f (g_oct k) 24 = g_oct k := fun e => q (by rw [e])
        rw [decide_eq_false q] at ih
        rw [nI_add, nI_add]
        exact ih
    · exact am_step _ _ _ (b_M_octadsKept_4 ⟨fun q => absurd q (by decide), fun _ => h⟩)
  exact am_in _ _ _ (am_step _ _ _ (b_M_octadsKept_0 (key 0 (by decide))))
end RC
