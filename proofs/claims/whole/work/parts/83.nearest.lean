/-! THE OPERATION word -/
section WO
variable {d : Nat} {K : Option Value → am_M → Prop} {I : Nat → Nat → Int32} {Lg : Nat → Nat → Int64} {rr : Nat → Nat → Option Nat} {n : Nat} {G : (Nat → Nat → Int32) → Prop} {s : Nat}
theorem s_distance {L : Nat} (hd : 3 ≤ d) (hT : vT I) (hs : s < 2 ^ 24) (l1 : I 23 (g_r s) = nI L) (hL : g_Lp (g_r s) L) (h : K (some (.int (nI (pcn L)))) (am_st I Lg rr n)) : am_AC d k_Go_distance [.ref 19, .int (nI s)] (am_st I Lg rr n) K := by
  obtain ⟨d, rfl, hd1⟩ := s_up hd
  have rl := g_r_lt s
  refine am_in _ _ _ (am_step _ _ _ (b_Go_distance_0 (s_Xrest hd1 hT hs ⟨_, rfl, am_step _ _ _ (b_Go_distance_9 ?_)⟩)))
  rw [n_un (by omega), l1]
  exact ⟨rl, s_bitCount (by omega) hL.1 ⟨_, rfl, am_step _ _ _ (b_Go_distance_13 h)⟩⟩
theorem te_0 {L : Nat} (h : L.testBit 0 = true) : g_te L 0 = L := by
  unfold g_te
  rw [show m_low (g_dif 16777215 (g_cov L 0)) = 0 from (show m_low (g_dif 16777215 0) = 0 by decide +kernel)]
  unfold g_t
  rw [if_pos h]
/-- w is the least of the closest words -/
def g_near (s d w : Nat) : Prop := ∃ j, j < 4096 ∧ g_P s d j = true ∧ (∀ i, i < j → g_P s d i = false) ∧ w = g_w j
theorem near_3 {L w : Nat} (hs : s < 2 ^ 24) (hL : g_Lp (g_r s) L) (h4 : ¬ pcn L = 4) (h : g_near s (pcn L) w) : w = s ^^^ L := by
  obtain ⟨j, j1, j2, j3, rfl⟩ := h
  have h3 : pcn L ≤ 3 := by
    rcases hL.2.2 with h | h
    · exact h
    · exact absurd h.1 h4
  unfold g_P at j2
  rw [decide_eq_true_iff] at j2
  have e := (near_ge hs hL j1).2 h3 j2
  rw [← e, ← Nat.xor_assoc, Nat.xor_self, Nat.zero_xor]
theorem near_4 {L w v : Nat} (hs : s < 2 ^ 24) (hL : g_Lp (g_r s) L) (h4 : pcn L = 4) (h : g_near s (pcn L) w) (hv : ∃ a, a < 6 ∧ v = s ^^^ g_te L a) (hm : ∀ a, a < 6 → v ≤ s ^^^ g_te L a) : w = v := by
  obtain ⟨j, j1, j2, j3, rfl⟩ := h
  unfold g_P at j2
  rw [decide_eq_true_iff] at j2
  have w := isw_xor (near_1 hs hL) (isw_w j1)
  have e0 : s ^^^ L ^^^ g_w j = L ^^^ (s ^^^ g_w j) := by rw [Nat.xor_comm s L, Nat.xor_assoc]
  rw [e0] at w
  obtain ⟨b, b1, b2⟩ := te_ex hL.1 h4 (j2.trans h4) w (xor_lt hs (g_w_lt j))
  have q1 := hm b b1
  rw [b2, ← Nat.xor_assoc, Nat.xor_self, Nat.zero_xor] at q1
  obtain ⟨a, a1, a2⟩ := hv
  obtain ⟨t1, t2, t3⟩ := te_all hL.1 h4 a1
  obtain ⟨k1, k2, k3⟩ := near_k hs hL t2
  have pk : g_P s (pcn L) (g_pl (s ^^^ g_te L a)) = true := by
    unfold g_P
    rw [decide_eq_true_iff, k2, t1, h4]
  have jk : j ≤ g_pl (s ^^^ g_te L a) := by
    rcases Nat.lt_or_ge (g_pl (s ^^^ g_te L a)) j with q | q
    · rw [j3 _ q] at pk
      cases pk
    · exact q
  have ew := isw_k k3
  rcases Nat.lt_or_ge j (g_pl (s ^^^ g_te L a)) with q | q
  · have := g_w_mono j1 k1 q
    omega
  · have : j = g_pl (s ^^^ g_te L a) := by omega
    rw [this, ew, a2]
theorem s_lowestNearest {L : Nat} (hd : 6 ≤ d) (hT : vT I) (hs : s < 2 ^ 24) (l1 : I 23 (g_r s) = nI L) (hL : g_Lp (g_r s) L) (h : ∀ w, g_near s (pcn L) w → w < 2 ^ 24) (hK : ∀ v, (∀ w, g_near s (pcn L) w → w = v) → K (some (.int (nI v))) (am_st I Lg rr n)) : am_AC d k_Go_lowestNearest [.ref 19, .int (nI s)] (am_st I Lg rr n) K := by
  obtain ⟨d, rfl, hd1⟩ := s_up hd
  have rl := g_r_lt s
  have pl := pcn_le 24 _ hL.1
  refine am_in _ _ _ (am_step _ _ _ (b_Go_lowestNearest_0 (s_Xrest (by omega) hT hs ⟨_, rfl, am_step _ _ _ (b_Go_lowestNearest_9 ?_)⟩)))
  rw [n_un (by omega), l1, n_xor]
  refine ⟨rl, s_bitCount (by omega) hL.1 ⟨_, rfl, am_step _ _ _ (b_Go_lowestNearest_19 ⟨fun q => ?_, fun q => ?_⟩)⟩⟩
  · rw [nI_eq (by omega) (by decide)] at q
    have L0 : L.testBit 0 = true := by
      rcases hL.2.2 with z | z
      · omega
      · exact z.2
    have key : ∀ i, i ≤ 6 → ∀ v, (∃ a, a < 6 ∧ v = s ^^^ g_te L a) → (∀ a, a < i → v ≤ s ^^^ g_te L a) → am_St d k_Go_lowestNearest (am_st I Lg rr n) K 26 [some (.ref 19), some (.int (nI s)), some (.int (nI L)), some (.int (nI v)), some (.int (nI i))] [] (am_st I Lg rr n) := by
      refine lp_up _ (fun i hi ih => ?_) ?_
      · intro v v1 v2
        obtain ⟨t1, t2, t3⟩ := te_all hL.1 q hi
        have xl := xor_lt hs t3
        have vl : v < 2 ^ 24 := by
          obtain ⟨a, a1, a2⟩ := v1
          rw [a2]
          exact xor_lt hs (te_all hL.1 q a1).2.2
        refine am_step _ _ _ (b_Go_lowestNearest_26 ⟨fun _ => s_tetrad hd1 hT hL.1 q hi ⟨_, rfl, am_step _ _ _ (b_Go_lowestNearest_42 ?_)⟩, fun z => absurd (nI_lt hi (by decide)) z⟩)
        rw [n_xor, nI_add]
        by_cases c : s ^^^ g_te L i < v
        · rw [if_pos (nI_lt c (by omega))]
          refine ih _ ⟨i, hi, rfl⟩ (fun a ha => ?_)
          by_cases e : a = i
          · rw [e]
            exact Nat.le_refl _
          · have := v2 a (by omega)
            omega
        · rw [if_neg (nI_nlt (by omega) (by omega))]
          refine ih _ v1 (fun a ha => ?_)
          by_cases e : a = i
          · rw [e]
            omega
          · exact v2 a (by omega)
      · intro v v1 v2
        exact am_step _ _ _ (b_Go_lowestNearest_26 ⟨fun z => absurd z (by decide), fun _ => hK v fun w hw => near_4 hs hL q hw v1 v2⟩)
    exact key 0 (by decide) _ ⟨0, by decide, by rw [te_0 L0]⟩ (fun a ha => absurd ha (Nat.not_lt_zero a))
  · have q : ¬ pcn L = 4 := fun e => q (by rw [e])
    exact hK _ fun w hw => near_3 hs hL q hw
/-- what stands when the words from k on were looked at -/
def cl_I (s d k f m l : Nat) : Prop := (d ≤ f ∧ f ≤ 25) ∧ ((f = d ∧ m + g_cnt (g_P s d) k = g_cnt (g_P s d) 4096 ∧ ∃ j, k ≤ j ∧ j < 4096 ∧ g_P s d j = true ∧ (∀ i, k ≤ i → i < j → g_P s d i = false) ∧ l = g_w j) ∨ (d < f ∧ ∀ j, k ≤ j → j < 4096 → g_P s d j = false))
theorem cl_1 {dd k f m l : Nat} (hk : k < 4096) (h : cl_I s dd (k + 1) f m l) (hd : dd ≤ pcn (s ^^^ g_w k)) (h1 : pcn (s ^^^ g_w k) < f) : cl_I s dd k (pcn (s ^^^ g_w k)) 1 (g_w k) := by
  obtain ⟨⟨h2, h3⟩, h4⟩ := h
  refine ⟨⟨hd, by omega⟩, ?_⟩
  rcases h4 with ⟨e, _⟩ | ⟨e, z⟩
  · omega
  · by_cases q : pcn (s ^^^ g_w k) = dd
    · have pk : g_P s dd k = true := decide_eq_true q
      refine Or.inl ⟨q, ?_, k, Nat.le_refl _, hk, pk, fun i i1 i2 => by omega, rfl⟩
      have c1 : g_cnt (g_P s dd) (k + 1) = g_cnt (g_P s dd) k + 1 := by rw [cnt_s, pk]; rfl
      have c2 := cnt_none (P := g_P s dd) (a := k + 1) (4096 - (k + 1)) (fun j j1 j2 => z j j1 (by omega))
      rw [show k + 1 + (4096 - (k + 1)) = 4096 by omega] at c2
      omega
    · refine Or.inr ⟨by omega, fun j j1 j2 => ?_⟩
      by_cases e2 : j = k
      · rw [e2]
        exact decide_eq_false q
      · exact z j (by omega) j2
theorem cl_2 {dd k f m l : Nat} (hk : k < 4096) (h : cl_I s dd (k + 1) f m l) (h1 : pcn (s ^^^ g_w k) = f) : cl_I s dd k f (m + 1) (g_w k) := by
  obtain ⟨⟨h2, h3⟩, h4⟩ := h
  refine ⟨⟨h2, h3⟩, ?_⟩
  rcases h4 with ⟨e, c, _⟩ | ⟨e, z⟩
  · have pk : g_P s dd k = true := decide_eq_true (h1.trans e)
    have c1 : g_cnt (g_P s dd) (k + 1) = g_cnt (g_P s dd) k + 1 := by rw [cnt_s, pk]; rfl
    exact Or.inl ⟨e, by omega, k, Nat.le_refl _, hk, pk, fun i i1 i2 => by omega, rfl⟩
  · refine Or.inr ⟨e, fun j j1 j2 => ?_⟩
    by_cases e2 : j = k
    · rw [e2]
      exact decide_eq_false (by omega)
    · exact z j (by omega) j2
theorem cl_3 {dd k f m l : Nat} (hk : k < 4096) (h : cl_I s dd (k + 1) f m l) (h1 : f < pcn (s ^^^ g_w k)) : cl_I s dd k f m l := by
  obtain ⟨⟨h2, h3⟩, h4⟩ := h
  have pk : g_P s dd k = false := decide_eq_false (by omega)
  refine ⟨⟨h2, h3⟩, ?_⟩
  rcases h4 with ⟨e, c, j, j1, j2, j3, j4, j5⟩ | ⟨e, z⟩
  · have c1 : g_cnt (g_P s dd) (k + 1) = g_cnt (g_P s dd) k := by rw [cnt_s, pk]; rfl
    refine Or.inl ⟨e, by omega, j, by omega, j2, j3, fun i i1 i2 => ?_, j5⟩
    by_cases e2 : i = k
    · rw [e2, pk]
    · exact j4 i (by omega) i2
  · refine Or.inr ⟨e, fun j j1 j2 => ?_⟩
    by_cases e2 : j = k
    · rw [e2, pk]
    · exact z j (by omega) j2
theorem s_closest {L c : Nat} (hd : 2 ≤ d) (hT : vT I) (hs : s < 2 ^ 24) (hL : g_Lp (g_r s) L) (hc : c < 10) (h : ∀ w, g_near s (pcn L) w → K (some (.int (if c = 2 then nI (pcn L) else if c = 3 then nI (if pcn L = 4 then 6 else 1) else nI w))) (am_st I Lg rr n)) : am_AC d k_M_closest [.ref 1469, .int (nI s), .int (nI c)] (am_st I Lg rr n) K := by
  obtain ⟨d, rfl, hd1⟩ := s_up hd
  have hW := hT.2.2.2.2.2.1
  have key : ∀ k, k ≤ 4096 → ∀ f m l, cl_I s (pcn L) k f m l → am_St d k_M_closest (am_st I Lg rr n) K 14 [some (.ref 1469), some (.int (nI s)), some (.int (nI c)), some (.int (nI f)), some (.int (nI m)), some (.int (nI l)), some (.int (nI k + am_k (-1))), none] [] (am_st I Lg rr n) := by
    intro k
    induction k with
    | zero =>
      intro _ f m l hI
      obtain ⟨⟨f1, f2⟩, h4⟩ := hI
      have near : f = pcn L ∧ m = (if pcn L = 4 then 6 else 1) ∧ g_near s (pcn L) l := by
        have cn := near_cnt hs hL
        rcases h4 with ⟨e, c, j, j1, j2, j3, j4, j5⟩ | ⟨e, z⟩
        · have c0 : g_cnt (g_P s (pcn L)) 0 = 0 := rfl
          exact ⟨e, by omega, j, j2, j3, fun i hi => j4 i (Nat.zero_le _) hi, j5⟩
        · have := cnt_none (P := g_P s (pcn L)) (a := 0) 4096 (fun j j1 j2 => z j j1 (by omega))
          rw [Nat.zero_add, cn] at this
          have c0 : g_cnt (g_P s (pcn L)) 0 = 0 := rfl
          rw [c0] at this
          split at this <;> cases this
      obtain ⟨n1, n2, n3⟩ := near
      have hK := h l n3
      refine am_step _ _ _ (b_M_closest_14 ⟨fun _ => ⟨fun q => ?_, fun q => ⟨fun q2 => ?_, fun q2 => ?_⟩⟩, fun q => absurd (show nI 0 + am_k (-1) < 0 by decide) q⟩)
      · rw [nI_eq (by omega) (by decide)] at q
        rw [if_pos q] at hK
        rw [n1]
        exact am_step _ _ _ (b_M_closest_120 hK)
      · rw [nI_eq (by omega) (by decide)] at q q2
        rw [if_neg q, if_pos q2] at hK
        rw [n2]
        exact am_step _ _ _ (b_M_closest_120 hK)
      · rw [nI_eq (by omega) (by decide)] at q q2
        rw [if_neg q, if_neg q2] at hK
        exact am_step _ _ _ (b_M_closest_120 hK)
    | succ k ih =>
      intro hk f m l hI
      have ek : nI (k + 1) + am_k (-1) = nI k := pk_m1 k
      have eu : am_un (nI k) = k := n_un (by omega)
      have ew : I 1473 k = nI (g_w k) := hW k (by omega)
      have xl := xor_lt hs (g_w_lt k)
      have op := pcn_le 24 _ xl
      have f25 := hI.1.2
      have ge := (near_ge hs hL (k := k) (by omega)).1
      have ih := ih (by omega)
      have fg : ∀ (f m l : Nat) (y : Int32), cl_I s (pcn L) k f m l → am_St d k_M_closest (am_st I Lg rr n) K 14 [some (.ref 1469), some (.int (nI s)), some (.int (nI c)), some (.int (nI f)), some (.int (nI m)), some (.int (nI l)), some (.int (nI k + am_k (-1))), some (.int y)] [] (am_st I Lg rr n) := fun f m l y hI => am_fg (le_same _ (le_same _ (le_same _ (le_same _ (le_same _ (le_same _ (le_same _ (le_int _ le_nil)))))))) (ih f m l hI)
      rw [ek]
      refine am_step _ _ _ (b_M_closest_14 ⟨fun q => absurd q (show ¬ nI k < nI 0 from nI_nlt (Nat.zero_le _) (by omega)), fun _ => ?_⟩)
      rw [eu, ew, n_xor]
      refine ⟨by omega, s_bits (by omega) (by omega) ⟨_, rfl, am_step _ _ _ (b_M_closest_31 ⟨fun q => ?_, fun q => ⟨fun q2 => ?_, fun q2 => ?_⟩⟩)⟩⟩
      · have q' := q
        rw [nI_ltI (by omega) (by omega)] at q
        refine am_step _ _ _ (b_M_closest_58 ⟨fun z => ?_, fun _ => ⟨by rw [eu]; omega, ?_⟩⟩)
        · rw [nI_ltI (by omega) (by omega)] at z
          omega
        · rw [eu, ew]
          exact am_step _ _ _ (b_M_closest_78 ⟨fun _ => am_step _ _ _ (b_M_closest_92 (fg _ _ _ _ (cl_1 (by omega) hI ge q))), fun z => absurd q' z⟩)
      · have q2' := q2
        rw [nI_eq (by omega) (by omega)] at q2
        refine am_step _ _ _ (b_M_closest_58 ⟨fun z => ?_, fun _ => ⟨by rw [eu]; omega, ?_⟩⟩)
        · rw [nI_ltI (by omega) (by omega)] at z
          omega
        · rw [eu, ew, nI_add]
          exact am_step _ _ _ (b_M_closest_78 ⟨fun z => absurd z q, fun _ => am_step _ _ _ (b_M_closest_92 (fg _ _ _ _ (cl_2 (by omega) hI q2)))⟩)
      · have q3 : f < pcn (s ^^^ g_w k) := by
          rw [nI_ltI (by omega) (by omega)] at q
          rw [nI_eq (by omega) (by omega)] at q2
          omega
        refine am_step _ _ _ (b_M_closest_58 ⟨fun _ => ?_, fun z => absurd (nI_lt q3 (by omega)) z⟩)
        exact am_step _ _ _ (b_M_closest_78 ⟨fun z => absurd z q, fun _ => am_step _ _ _ (b_M_closest_92 (fg _ _ _ _ (cl_3 (by omega) hI q3)))⟩)
  have pl := pcn_le 24 _ hL.1
  have l4 : pcn L ≤ 4 := by
    rcases hL.2.2 with z | z
    · omega
    · omega
  have k0 := key 4096 (Nat.le_refl _) 25 0 0 ⟨⟨by omega, Nat.le_refl _⟩, Or.inr ⟨by omega, fun j j1 j2 => by omega⟩⟩
  exact am_in _ _ _ (am_step _ _ _ (b_M_closest_0 k0))
end WO
