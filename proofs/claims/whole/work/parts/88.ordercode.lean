/-! ORDERS, IN THE CODE -/
section OR
variable {d : Nat} {K : Option Value → am_M → Prop} {I : Nat → Nat → Int32} {Lg : Nat → Nat → Int64} {rr : Nat → Nat → Option Nat} {n : Nat} {f : Nat → Nat} {a m : Nat}
theorem s_commonMultiple {x l : Nat} (hd : 1 ≤ d) (hx : 0 < x) (hx2 : x ≤ 665280) (hl : 0 < l) (hl2 : l ≤ 24) (h : K (some (.int (nI (Nat.lcm x l)))) (am_st I Lg rr n)) : am_AC d k_Mo_commonMultiple [.int (nI x), .int (nI l)] (am_st I Lg rr n) K := by
  obtain ⟨d, rfl, hd1⟩ := s_up hd
  obtain ⟨k, k1, k2, k3, k4⟩ := lcm_k hx hl
  have bnd : ∀ i, i ≤ 24 → x * i < 2 ^ 31 := fun i hi => by
    have := Nat.mul_le_mul hx2 hi
    omega
  rw [k3] at h
  have key : ∀ i, i ≤ k → 1 ≤ i → am_St d k_Mo_commonMultiple (am_st I Lg rr n) K 2 [some (.int (nI x)), some (.int (nI l)), some (.int (nI i))] [] (am_st I Lg rr n) := by
    have g0 : (!decide (nI l = 0)) = true := by
      have : ¬ nI l = 0 := fun e => by
        have e : nI l = nI 0 := e
        rw [nI_eq (by omega) (by decide)] at e
        omega
      rw [decide_eq_false this]
      rfl
    refine lp_up _ (fun i hi ih => ?_) ?_
    · intro i1
      refine am_step _ _ _ (b_Mo_commonMultiple_2 ⟨fun _ => am_gi g0 ?_, fun q => absurd (nI_lt (show i < l by omega) (by omega)) q⟩)
      rw [pk_mul, pk_rem (bnd i (by omega)) hl (by omega), nI_add]
      refine ⟨fun q => ?_, fun _ => ih (by omega)⟩
      have q : nI (x * i % l) = nI 0 := q
      have := Nat.mod_lt (x * i) hl
      rw [nI_eq (by omega) (by decide), k4 i i1 (by omega)] at q
      exact absurd (Nat.le_of_dvd (by omega) q) (by omega)
    · intro _
      refine am_step _ _ _ (b_Mo_commonMultiple_2 ⟨fun q => am_gi g0 ?_, fun q => ?_⟩)
      · rw [pk_mul, pk_rem (bnd k (by omega)) hl (by omega)]
        refine ⟨fun _ => h, fun q2 => absurd ?_ q2⟩
        rw [(k4 k k1 k2).mpr (Nat.dvd_refl k)]
        rfl
      · rw [nI_ltI (by omega) (by omega)] at q
        have : k = l := by omega
        rw [pk_mul, ← this]
        exact h
  exact am_in _ _ _ (am_step _ _ _ (b_Mo_commonMultiple_0 (key 1 k1 (Nat.le_refl _))))
theorem or_pos {l : Nat → Nat} (h : ∀ p, p < 24 → 0 < l p) : ∀ k, k ≤ 24 → 0 < g_or l k
  | 0, _ => Nat.one_pos
  | k + 1, hk => by
    rw [or_s]
    exact Nat.lcm_pos (or_pos h k (by omega)) (h k (by omega))
theorem s_order {l : Nat → Nat} (hd : 3 ≤ d) (ha : am_ro 1497 a 24) (hI : ∀ p, p < 24 → I a p = nI (f p)) (hf : a_pm f) (hl : ∀ p, p < 24 → g_ps f p (l p)) (h : K (some (.int (nI (g_or l 24)))) (am_st I Lg rr n)) : am_AC d k_Mo_order [.ref a] (am_st I Lg rr n) K := by
  obtain ⟨d, rfl, hd1⟩ := s_up hd
  obtain ⟨M, M0, M1, M2⟩ := ps_bound hf hl
  have key : ∀ k, k ≤ 24 → am_St d k_Mo_order (am_st I Lg rr n) K 4 [some (.ref a), some (.int (nI (g_or l k))), some (.int (nI k))] [] (am_st I Lg rr n) := by
    refine lp_up _ (fun k hk ih => ?_) ?_
    · have hp := hl k hk
      have op := or_pos (fun p hp => (hl p hp).1) k (by omega)
      have od := Nat.le_of_dvd M0 (or_dvd M2 k (by omega))
      refine am_step _ _ _ (b_Mo_order_4 (am_gi ha.g1 ⟨fun _ => s_cycleLength hd1 ha hI hf hk hp ⟨_, rfl, am_step _ _ _ (b_Mo_order_16 (s_commonMultiple (by omega) op (by omega) hp.1 hp.2.1 ⟨_, rfl, am_step _ _ _ (b_Mo_order_19 ?_)⟩))⟩, fun q => ?_⟩))
      · rw [nI_add]
        exact ih
      · rw [ha.n] at q
        exact absurd (nI_lt hk (by decide)) q
    · refine am_step _ _ _ (b_Mo_order_4 (am_gi ha.g1 ⟨fun q => ?_, fun _ => h⟩))
      rw [ha.n] at q
      exact absurd q (by decide)
  exact am_in _ _ _ (am_step _ _ _ (b_Mo_order_0 (key 0 (by decide))))
theorem s_orderOf {l : Nat → Nat} (hd : 3 ≤ d) (hm : m < 5) (hI : ∀ p, p < 24 → I 1470 (24 * m + p) = nI (f p)) (hf : a_pm f) (hl : ∀ p, p < 24 → g_ps f p (l p)) (h : K (some (.int (nI (g_or l 24)))) (am_st I Lg rr n)) : am_AC d k_M_orderOf [.ref 1469, .int (nI m)] (am_st I Lg rr n) K := by
  obtain ⟨d, rfl, hd1⟩ := s_up hd
  obtain ⟨M, M0, M1, M2⟩ := ps_bound hf hl
  have key : ∀ p, p ≤ 24 → am_St d k_M_orderOf (am_st I Lg rr n) K 4 [some (.ref 1469), some (.int (nI m)), some (.int (nI (g_or l p))), some (.int (nI p)), none, none, none] [] (am_st I Lg rr n) := by
    refine lp_up _ (fun p hp ih => ?_) ?_
    · have hq := hl p hp
      have op := or_pos (fun p hp => (hl p hp).1) p (by omega)
      have od := Nat.le_of_dvd M0 (or_dvd M2 p (by omega))
      obtain ⟨k, k1, k2, k3, k4⟩ := lcm_k op hq.1
      rw [or_s, k3] at ih
      generalize g_or l p = x at *
      have l24 := hq.2.1
      have l1 := hq.1
      generalize l p = y at *
      have bnd : ∀ i, i ≤ 24 → x * i < 2 ^ 31 := fun i hi => by
        have := Nat.mul_le_mul (show x ≤ 665280 by omega) hi
        omega
      have ih2 : ∀ u v w : Int32, am_St d k_M_orderOf (am_st I Lg rr n) K 4 [some (.ref 1469), some (.int (nI m)), some (.int (nI (x * k))), some (.int (nI (p + 1))), some (.int u), some (.int v), some (.int w)] [] (am_st I Lg rr n) := fun u v w => am_fg (le_same _ (le_same _ (le_same _ (le_same _ (le_int _ (le_int _ (le_int _ le_nil))))))) ih
      have g0 : (!decide (nI y = 0)) = true := by
        have : ¬ nI y = 0 := fun e => by
          have e : nI y = nI 0 := e
          rw [nI_eq (by omega) (by decide)] at e
          omega
        rw [decide_eq_false this]
        rfl
      have kk : ∀ i, i ≤ k → 1 ≤ i → am_St d k_M_orderOf (am_st I Lg rr n) K 24 [some (.ref 1469), some (.int (nI m)), some (.int (nI (x * i))), some (.int (nI p)), some (.int (nI y)), some (.int (nI x)), some (.int (nI i))] [] (am_st I Lg rr n) := by
        refine lp_up _ (fun i hi ih3 => ?_) ?_
        · intro i1
          refine am_step _ _ _ (b_M_orderOf_24 ⟨fun _ => am_gi g0 ?_, fun q => absurd (nI_lt (show i < 24 by omega) (by decide)) q⟩)
          rw [pk_rem (bnd i (by omega)) (by omega) (by omega), nI_add, nI_add, nI_add]
          refine ⟨fun q => ?_, fun _ => ?_⟩
          · have q : nI (x * i % y) = nI 0 := q
            have := Nat.mod_lt (x * i) (show 0 < y by omega)
            rw [nI_eq (by omega) (by decide), k4 i i1 (by omega)] at q
            exact absurd (Nat.le_of_dvd (by omega) q) (by omega)
          · have := ih3 (by omega)
            rw [Nat.mul_succ] at this
            exact this
        · intro _
          refine am_step _ _ _ (b_M_orderOf_24 ⟨fun _ => am_gi g0 ?_, fun _ => ?_⟩)
          · rw [pk_rem (bnd k (by omega)) (by omega) (by omega), nI_add]
            refine ⟨fun _ => ih2 _ _ _, fun q2 => absurd ?_ q2⟩
            rw [(k4 k k1 k2).mpr (Nat.dvd_refl k)]
            rfl
          · rw [nI_add]
            exact ih2 _ _ _
      have k0 := kk 1 k1 (Nat.le_refl _)
      rw [Nat.mul_one] at k0
      refine am_step _ _ _ (b_M_orderOf_4 ⟨fun _ => s_ring hd1 hm hI hf hp hq ⟨_, rfl, am_step _ _ _ (b_M_orderOf_16 k0)⟩, fun q => absurd (nI_lt hp (by decide)) q⟩)
    · exact am_step _ _ _ (b_M_orderOf_4 ⟨fun q => absurd q (by decide), fun _ => h⟩)
  exact am_in _ _ _ (am_step _ _ _ (b_M_orderOf_0 (key 0 (by decide))))
end OR
/-! TEXTS, IN THE CODE -/
/-- the row a of N letters holds the list, its length is at (o, j) -/
def tx_T (J : Nat → Nat → Int32) (a o j : Nat) (t : List Nat) : Prop := J o j = nI t.length ∧ ∀ k, k < t.length → J a k = nI (t.getD k 0)
theorem tx_T.app {J : Nat → Nat → Int32} {a o j x : Nat} {t : List Nat} (h : tx_T J a o j t) (hao : ¬ o = a) : tx_T (am_sr (am_sr J a (am_u1 (J a) t.length (nI x))) o (am_u1 (J o) j (nI (t.length + 1)))) a o j (t ++ [x]) := by
  refine ⟨?_, fun k hk => ?_⟩
  · rw [am_sr_at, am_u1_at, List.length_append]
    rfl
  · rw [am_sr_off _ _ (fun e => hao e.symm), am_sr_at, List.getD_eq_getElem?_getD]
    rw [List.length_append] at hk
    by_cases e : k = t.length
    · subst e
      rw [am_u1_at, List.getElem?_append_right (Nat.le_refl _), Nat.sub_self]
      rfl
    · have hk2 : k < t.length := by
        have : ([x] : List Nat).length = 1 := rfl
        omega
      rw [am_u1_off _ _ e, List.getElem?_append_left hk2, ← List.getD_eq_getElem?_getD, h.2 k hk2]
section TC
variable {d : Nat} {K : Option Value → am_M → Prop} {I : Nat → Nat → Int32} {Lg : Nat → Nat → Int64} {rr : Nat → Nat → Option Nat} {n : Nat} {f : Nat → Nat} {a m : Nat}
/-- only the class's text was written -/
def tx_X (I J : Nat → Nat → Int32) : Prop := ∀ b, ¬ b = 1465 → ¬ b = 1466 → J b = I b
/-- only the model's text was written -/
def tx_M (I J : Nat → Nat → Int32) : Prop := (∀ b, ¬ b = 1469 → ¬ b = 1475 → J b = I b) ∧ ∀ j, ¬ j = 7 → J 1469 j = I 1469 j
theorem s_append {t : List Nat} {x : Nat} {J : Nat → Nat → Int32} (hd : 1 ≤ d) (hJ : tx_T J 1466 1465 1 t) (hX : tx_X I J) (ht : t.length < 74) (h : ∀ J, tx_T J 1466 1465 1 (t ++ [x]) → tx_X I J → K none (am_st J Lg rr n)) : am_AC d k_Cy_append [.ref 1465, .int (nI x)] (am_st J Lg rr n) K := by
  obtain ⟨d, rfl, hd1⟩ := s_up hd
  have e : am_un (nI t.length) = t.length := n_un (by omega)
  refine am_in _ _ _ (am_step _ _ _ (b_Cy_append_0 ⟨fun _ => ?_, fun q => ?_⟩))
  · rw [hJ.1, e, am_sr_off _ _ (show ¬ 1465 = 1466 by decide), hJ.1, nI_add]
    exact ⟨ht, h _ (hJ.app (by decide)) (fun b b1 b2 => by rw [am_sr_off _ _ b1, am_sr_off _ _ b2, hX b b1 b2])⟩
  · rw [hJ.1] at q
    exact absurd (nI_lt ht (by decide)) q
theorem s_puts {t : List Nat} {x : Nat} {J : Nat → Nat → Int32} (hd : 1 ≤ d) (hJ : tx_T J 1475 1469 7 t) (hX : tx_M I J) (ht : t.length < 74) (h : ∀ J, tx_T J 1475 1469 7 (t ++ [x]) → tx_M I J → K none (am_st J Lg rr n)) : am_AC d k_M_puts [.ref 1469, .int (nI x)] (am_st J Lg rr n) K := by
  obtain ⟨d, rfl, hd1⟩ := s_up hd
  have e : am_un (nI t.length) = t.length := n_un (by omega)
  refine am_in _ _ _ (am_step _ _ _ (b_M_puts_0 ?_))
  rw [hJ.1, e, am_sr_off _ _ (show ¬ 1469 = 1475 by decide), hJ.1, nI_add]
  refine ⟨by omega, h _ (hJ.app (by decide)) ⟨fun b b1 b2 => by rw [am_sr_off _ _ b1, am_sr_off _ _ b2, hX.1 b b1 b2], fun j hj => ?_⟩⟩
  rw [am_sr_at, am_u1_off _ _ hj, hX.2 j hj]
theorem s_writeCycle {t : List Nat} {p l : Nat} {J : Nat → Nat → Int32} (hd : 3 ≤ d) (ha : am_ro 1497 a 24) (hI : ∀ p, p < 24 → I a p = nI (f p)) (hf : a_pm f) (hp : p < 24) (hl : g_ps f p l) (ha2 : ¬ a = 1465 ∧ ¬ a = 1466) (hJ : tx_T J 1466 1465 1 t) (hX : tx_X I J) (ht : (t ++ g_rg f p l).length ≤ 74) (h : ∀ J, tx_T J 1466 1465 1 (t ++ g_rg f p l) → tx_X I J → K none (am_st J Lg rr n)) : am_AC d k_Cy_writeCycle [.ref 1465, .ref a, .int (nI p)] (am_st J Lg rr n) K := by
  obtain ⟨d, rfl, hd1⟩ := s_up hd
  obtain ⟨JJ, eJJ⟩ : ∃ JJ, JJ = J := ⟨J, rfl⟩
  have hIJ : ∀ J, tx_X I J → ∀ p, p < 24 → J a p = nI (f p) := fun J hX p hp => by rw [hX a ha2.1 ha2.2, hI p hp]
  have hlen : ∀ i, i ≤ l → (t ++ g_ct2 f p i).length < 74 := by
    have base : (t ++ g_ct2 f p l).length < 74 := by
      unfold g_rg at ht
      rw [List.length_append, List.length_append] at ht
      rw [List.length_append]
      have : ([41] : List Nat).length = 1 := rfl
      omega
    have step : ∀ j i, i + j = l → (t ++ g_ct2 f p i).length ≤ (t ++ g_ct2 f p l).length := by
      intro j
      induction j with
      | zero =>
        intro i e
        rw [show i = l by omega]
        exact Nat.le_refl _
      | succ j ih =>
        intro i e
        have q := ih (i + 1) (by omega)
        have e2 : g_ct2 f p (i + 1) = g_ct2 f p i ++ [if i = 0 then 40 else 44] ++ g_dg (f_it f p i) := rfl
        rw [e2] at q
        simp only [List.length_append] at q ⊢
        omega
    intro i hi
    exact Nat.lt_of_le_of_lt (step (l - i) i (by omega)) base
  have key : ∀ i, i ≤ l → ∀ J, tx_T J 1466 1465 1 (t ++ g_ct2 f p i) → tx_X I J → am_St d k_Cy_writeCycle (am_st JJ Lg rr n) K 12 [some (.ref 1465), some (.ref a), some (.int (nI p)), some (.int (nI l)), some (.int (nI (f_it f p i))), some (.int (nI i))] [] (am_st J Lg rr n) := by
    refine lp_up _ (fun i hi ih => ?_) ?_
    · intro J hJ hX
      have l24 := hl.2.1
      have q24 := it_lt hf.1 hp i
      have e2 : t ++ g_ct2 f p (i + 1) = t ++ g_ct2 f p i ++ [if i = 0 then 40 else 44] ++ g_dg (f_it f p i) := by
        show t ++ (g_ct2 f p i ++ [if i = 0 then 40 else 44] ++ g_dg (f_it f p i)) = _
        simp only [List.append_assoc]
      have hl1 := hlen (i + 1) hi
      rw [e2] at ih hl1
      -- behind the sign
      have k34 : ∀ J, tx_T J 1466 1465 1 (t ++ g_ct2 f p i ++ [if i = 0 then 40 else 44]) → tx_X I J → am_St d k_Cy_writeCycle (am_st JJ Lg rr n) K 34 [some (.ref 1465), some (.ref a), some (.int (nI p)), some (.int (nI l)), some (.int (nI (f_it f p i))), some (.int (nI i))] [] (am_st J Lg rr n) := by
        intro J hJ hX
        have ihx := ih
        unfold g_dg at ihx hl1
        have last : ∀ (t' : List Nat) J, tx_T J 1466 1465 1 t' → tx_X I J → t'.length < 74 → t' ++ [48 + f_it f p i % 10] = t ++ g_ct2 f p i ++ [if i = 0 then 40 else 44] ++ (if f_it f p i < 10 then [48 + f_it f p i % 10] else [48 + f_it f p i / 10, 48 + f_it f p i % 10]) → am_St d k_Cy_writeCycle (am_st JJ Lg rr n) K 53 [some (.ref 1465), some (.ref a), some (.int (nI p)), some (.int (nI l)), some (.int (nI (f_it f p i))), some (.int (nI i))] [] (am_st J Lg rr n) := by
          intro t' J hJ hX hlt he
          refine am_step _ _ _ (b_Cy_writeCycle_53 ?_)
          rw [pk_rem (by omega) (by decide) (by decide), nI_add]
          refine s_append (by omega) hJ hX hlt (fun J hJ hX => ⟨rfl, am_step _ _ _ (b_Cy_writeCycle_65 (s_Mo_to (by omega) ha q24 (hIJ J hX _ q24) ⟨_, rfl, am_step _ _ _ (b_Cy_writeCycle_71 ?_)⟩))⟩)
          rw [nI_add]
          rw [he] at hJ
          exact ihx J hJ hX
        refine am_step _ _ _ (b_Cy_writeCycle_34 ⟨fun q => ?_, fun q => ?_⟩)
        · rw [nI_ltI (by omega) (by decide)] at q
          rw [if_pos q] at hl1 last
          refine last _ J hJ hX ?_ rfl
          simp only [List.length_append] at hl1 ⊢
          have : ([48 + f_it f p i % 10] : List Nat).length = 1 := rfl
          omega
        · rw [nI_ltI (by omega) (by decide)] at q
          rw [if_neg q] at hl1 last
          have l2 : ([48 + f_it f p i / 10, 48 + f_it f p i % 10] : List Nat).length = 2 := rfl
          rw [pk_div (by omega) (by decide) (by decide), nI_add]
          refine s_append (by omega) hJ hX ?_ (fun J hJ hX => ⟨rfl, last _ J hJ hX ?_ (by simp only [List.append_assoc]; rfl)⟩)
          · simp only [List.length_append] at hl1 ⊢
            omega
          · simp only [List.length_append] at hl1 ⊢
            have : ([48 + f_it f p i / 10] : List Nat).length = 1 := rfl
            omega
      refine am_step _ _ _ (b_Cy_writeCycle_12 ⟨fun _ => ⟨fun q => ?_, fun q => ?_⟩, fun q => absurd (nI_lt hi (by omega)) q⟩)
      · have q : nI i = nI 0 := q
        rw [nI_eq (by omega) (by decide)] at q
        rw [if_pos q] at k34
        exact s_append (by omega) hJ hX (hlen i (by omega)) (fun J hJ hX => ⟨rfl, k34 J hJ hX⟩)
      · have q : ¬ i = 0 := fun e => q (by rw [e]; rfl)
        rw [if_neg q] at k34
        exact s_append (by omega) hJ hX (hlen i (by omega)) (fun J hJ hX => ⟨rfl, k34 J hJ hX⟩)
    · intro J hJ hX
      have l24 := hl.2.1
      refine am_step _ _ _ (b_Cy_writeCycle_12 ⟨fun q => absurd q (nI_nlt (Nat.le_refl _) (by omega)), fun _ => s_append (by omega) hJ hX (hlen l (Nat.le_refl _)) (fun J hJ hX => ⟨rfl, am_step _ _ _ (b_Cy_writeCycle_85 (h J ?_ hX))⟩)⟩)
      unfold g_rg
      rw [← List.append_assoc]
      exact hJ
  refine am_in _ _ _ (am_step _ _ _ (b_Cy_writeCycle_0 (s_cycleLength (by omega) ha (hIJ J hX) hf hp hl ⟨_, rfl, am_step _ _ _ (b_Cy_writeCycle_5 ?_)⟩)))
  have k0 := key 0 (Nat.zero_le _) J (by
    have : t ++ g_ct2 f p 0 = t := List.append_nil t
    rw [this]
    exact hJ) hX
  rw [eJJ] at k0
  exact k0
end TC
