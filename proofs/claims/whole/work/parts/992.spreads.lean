/-! GROUPS: THE MODEL SPREADS FROM A WORD -/
def g_in (T : Nat → Nat) : Nat → Nat → Bool
  | 0, _ => false
  | q + 1, y => g_in T q y || decide (T q = y)
theorem in_iff (T : Nat → Nat) (y : Nat) : ∀ q, g_in T q y = true ↔ ∃ j, j < q ∧ T j = y
  | 0 => ⟨fun h => (by cases h), fun ⟨j, h, _⟩ => absurd h (Nat.not_lt_zero j)⟩
  | q + 1 => by
    show (g_in T q y || decide (T q = y)) = true ↔ _
    rw [Bool.or_eq_true, in_iff T y q, decide_eq_true_iff]
    constructor
    · rintro (⟨j, h1, h2⟩ | h)
      · exact ⟨j, by omega, h2⟩
      · exact ⟨q, by omega, h⟩
    · rintro ⟨j, h1, h2⟩
      by_cases c : j = q
      · exact Or.inr (by rw [← c]; exact h2)
      · exact Or.inl ⟨j, by omega, h2⟩
theorem in_congr {T T' : Nat → Nat} (y : Nat) : ∀ q, (∀ j, j < q → T' j = T j) → g_in T' q y = g_in T q y
  | 0, _ => rfl
  | q + 1, h => by
    show (g_in T' q y || decide (T' q = y)) = (g_in T q y || decide (T q = y))
    rw [in_congr y q (fun j hj => h j (by omega)), h q (by omega)]
def g_bi (b : Bool) : Int32 := if b then nI 1 else nI 0
section MS
variable {d : Nat} {K : Option Value → am_M → Prop} {I J : Nat → Nat → Int32} {Lg : Nat → Nat → Int64} {rr : Nat → Nat → Option Nat} {n : Nat} {w x : Nat} {now : a_S} {ρ : Nat → Nat} {M : Nat → Bool}
/-- the list T of words found so far -/
def g_pT (ρ : Nat → Nat) (x many : Nat) (T : Nat → Nat) : Prop := (∀ j, j < many → T j < 4096 ∧ ρ (g_sg (T j)) = ρ (g_sg x)) ∧ (∀ i j, i < many → j < many → T i = T j → i = j) ∧ T 0 = x ∧ 0 < many
theorem pT_le {many : Nat} {T : Nat → Nat} (h : g_pT ρ x many T) : many ≤ 4096 := by
  have e := cnt_inj (κ := T) (N := 4096) many (fun i hi => (h.1 i hi).1) h.2.1 (g_in T many) (fun k _ => in_iff T k many)
  have := cnt_le (g_in T many) 4096
  omega
theorem mv_orb (hR : oR (fun m => g_go 1 (now.1 m)) w 4 4096 ρ) {m y : Nat} (hm : m < 4) : ρ (g_sg (g_mv now w m y)) = ρ (g_sg y) := by
  unfold g_mv
  by_cases c : w.testBit m = true
  · rw [if_pos c, sg_mo]
    exact (hR.2.1 m hm c (g_sg y) (sg_lt y)).symm
  · rw [if_neg c]
def g_sv (I : Nat → Nat → Int32) (M : Nat → Bool) (many : Nat) (T : Nat → Nat) (J : Nat → Nat → Int32) : Prop := (∀ b, ¬ b = 1487 → ¬ b = 1488 → J b = I b) ∧ (∀ j, j < many → J 1488 j = nI (T j)) ∧ ∀ y, y < 4096 → J 1487 y = g_bi (M y || g_in T many y)
theorem bi_0 {b : Bool} : g_bi b = 0 ↔ b = false := by
  cases b
  · exact ⟨fun _ => rfl, fun _ => rfl⟩
  · exact ⟨fun h => absurd h (by decide), fun h => (by cases h)⟩
theorem pT_end (hR : oR (fun m => g_go 1 (now.1 m)) w 4 4096 ρ) (ok : a_ok now) (hk : g_ak now.1 w) (hx : x < 4096) {many : Nat} {T : Nat → Nat} (h : g_pT ρ x many T) (hp : ∀ j, j < many → ∀ m, m < 4 → g_in T many (g_mv now w m (T j)) = true) : (∀ y, y < 4096 → g_in T many y = decide (ρ (g_sg y) = ρ (g_sg x))) ∧ g_cnt (fun i => decide (ρ i = ρ (g_sg x))) 4096 = many := by
  obtain ⟨t1, t2, t3, t4⟩ := h
  have h1 : ∀ y, y < 4096 → g_in T many y = decide (ρ (g_sg y) = ρ (g_sg x)) := by
    intro y hy
    rw [Bool.eq_iff_iff, decide_eq_true_iff]
    constructor
    · intro q
      obtain ⟨j, j1, j2⟩ := (in_iff T y many).mp q
      rw [← j2]
      exact (t1 j j1).2
    · intro e
      have c := cls_orbit (C := fun p => g_in T many (g_N p)) hR (fun m _ _ i _ => go_lt (kind := 1) (by decide) i) (fun m hm hb => go1_inj (ok.1 m (by omega)) (hk m hm hb)) (fun m hm hb i hi hc => by
        obtain ⟨j, j1, j2⟩ := (in_iff T _ many).mp hc
        have es : g_sg (T j) = i := by rw [j2, sg_N hi]
        have e2 : g_go 1 (now.1 m) i = g_sg (g_mo (now.1 m) (T j)) := by rw [sg_mo, es]
        show g_in T many (g_N (g_go 1 (now.1 m) i)) = true
        rw [e2, N_sg (mo_lt _ _)]
        have := hp j j1 m hm
        unfold g_mv at this
        rw [if_pos hb] at this
        exact this) (sg_lt y) (sg_lt x) e (by
        show g_in T many (g_N (g_sg x)) = true
        rw [N_sg hx]
        exact (in_iff T x many).mpr ⟨0, t4, t3⟩)
      have c : g_in T many (g_N (g_sg y)) = true := c
      rw [N_sg hy] at c
      exact c
  refine ⟨h1, cnt_inj (κ := fun j => g_sg (T j)) many (fun i _ => sg_lt _) (fun i j hi hj e => t2 i j hi hj (sg_inj (t1 i hi).1 (t1 j hj).1 e)) _ (fun k hk => ?_)⟩
  rw [decide_eq_true_iff]
  constructor
  · intro e
    have q := h1 (g_N k) (g_N_lt k)
    rw [sg_N hk, decide_eq_true e] at q
    obtain ⟨j, j1, j2⟩ := (in_iff T _ many).mp q
    exact ⟨j, j1, by rw [j2, sg_N hk]⟩
  · rintro ⟨j, j1, j2⟩
    have j2 : g_sg (T j) = k := j2
    rw [← j2]
    exact (t1 j j1).2
theorem s_spreads (hd : 3 ≤ d) (hR : oR (fun m => g_go 1 (now.1 m)) w 4 4096 ρ) (ok : a_ok now) (hk : g_ak now.1 w) (hi : g_ix now w I) (hx : x < 4096) (hM : ∀ y z, y < 4096 → z < 4096 → ρ (g_sg y) = ρ (g_sg z) → M y = M z) (hJ : ∀ b, ¬ b = 1487 → ¬ b = 1488 → J b = I b) (hJm : ∀ y, y < 4096 → J 1487 y = g_bi (M y)) (h0 : M x = true → K (some (.int (nI 0))) (am_st J Lg rr n)) (h1 : M x = false → ∀ J', (∀ b, ¬ b = 1487 → ¬ b = 1488 → J' b = I b) → (∀ y, y < 4096 → J' 1487 y = g_bi (M y || decide (ρ (g_sg y) = ρ (g_sg x)))) → K (some (.int (nI (g_cnt (fun i => decide (ρ i = ρ (g_sg x))) 4096)))) (am_st J' Lg rr n)) : am_AC d k_M_spreads [.ref 1469, .int (nI x)] (am_st J Lg rr n) K := by
  obtain ⟨d, rfl, hd1⟩ := s_up hd
  have ux : am_un (nI x) = x := n_un (by omega)
  refine am_in _ _ _ (am_step _ _ _ (b_M_spreads_0 ?_))
  rw [ux, hJm x hx]
  refine ⟨hx, fun q => ⟨hx, by decide, ?_⟩, fun q => h0 ?_⟩
  · have hMx := bi_0.mp q
    have h1 := h1 hMx
    generalize am_st J Lg rr n = M0
    have key : ∀ k, k ≤ 4096 → ∀ T many J', g_pT ρ x many T → g_sv I M many T J' → k ≤ many → (∀ j, j < k → ∀ m, m < 4 → g_in T many (g_mv now w m (T j)) = true) → am_St d k_M_spreads M0 K 29 [some (.ref 1469), some (.int (nI x)), some (.int (nI many)), some (.int (nI k)), none, none] [] (am_st J' Lg rr n) := by
      have fin : ∀ k, k ≤ 4096 → ∀ T many J', g_pT ρ x many T → g_sv I M many T J' → k = many → (∀ j, j < k → ∀ m, m < 4 → g_in T many (g_mv now w m (T j)) = true) → am_St d k_M_spreads M0 K 29 [some (.ref 1469), some (.int (nI x)), some (.int (nI many)), some (.int (nI k)), none, none] [] (am_st J' Lg rr n) := by
        intro k hk4 T many J' hT hs e hp
        subst e
        obtain ⟨e1, e2⟩ := pT_end hR ok hk hx hT hp
        refine am_step _ _ _ (b_M_spreads_29 ⟨fun q => absurd q (nI_nlt (Nat.le_refl _) (by omega)), fun _ => ?_⟩)
        have := h1 J' hs.1 (fun y hy => by rw [hs.2.2 y hy, e1 y hy])
        rw [e2] at this
        exact this
      refine lp_up _ (fun k hk4 ih => ?_) ?_
      · intro T many J' hT hs hkm hp
        by_cases e : k = many
        · exact fin k (by omega) T many J' hT hs e hp
        · have inner : ∀ m, m ≤ 4 → ∀ T many J', g_pT ρ x many T → g_sv I M many T J' → k < many → (∀ j, j < k → ∀ m, m < 4 → g_in T many (g_mv now w m (T j)) = true) → (∀ i, i < m → g_in T many (g_mv now w i (T k)) = true) → am_St d k_M_spreads M0 K 37 [some (.ref 1469), some (.int (nI x)), some (.int (nI many)), some (.int (nI k)), some (.int (nI m)), none] [] (am_st J' Lg rr n) := by
            refine lp_up _ (fun m hm4 ih2 => ?_) ?_
            · intro T many J' hT hs hkm hp hq
              have ml := pT_le hT
              obtain ⟨tk1, tk2⟩ := hT.1 k hkm
              have hiJ : g_ix now w J' := fun a ha b hb => by rw [hs.1 1486 (by decide) (by decide)]; exact hi a ha b hb
              have yl : g_mv now w m (T k) < 4096 := mv_lt tk1
              have yo := (mv_orb hR hm4 (y := T k)).trans tk2
              refine am_step _ _ _ (b_M_spreads_37 ⟨fun _ => ?_, fun q => absurd (nI_lt hm4 (by decide)) q⟩)
              rw [n_un (by omega), hs.2.1 k hkm]
              refine ⟨by omega, s_MimageOf (by omega) ok hiJ hm4 tk1 ⟨_, rfl, am_step _ _ _ (b_M_spreads_55 ?_)⟩⟩
              generalize hy : g_mv now w m (T k) = y at yl yo
              have My : M y = false := by rw [hM y x yl hx yo]; exact hMx
              rw [n_un (by omega), hs.2.2 y yl, My, Bool.false_or, nI_add, nI_add]
              refine ⟨yl, fun q => ⟨yl, ?_⟩, fun q => ?_⟩
              · have new := bi_0.mp q
                have nin : ∀ j, j < many → ¬ T j = y := fun j hj e => by
                  rw [(in_iff T y many).mpr ⟨j, hj, e⟩] at new
                  cases new
                obtain ⟨T', eT1, eT2⟩ : ∃ T' : Nat → Nat, T' many = y ∧ ∀ j, ¬ j = many → T' j = T j := ⟨fun j => if j = many then y else T j, if_pos rfl, fun j hj => if_neg hj⟩
                have hT' : g_pT ρ x (many + 1) T' := by
                  refine ⟨fun j hj => ?_, fun i j hi hj e => ?_, ?_, by omega⟩
                  · by_cases c : j = many
                    · rw [c, eT1]
                      exact ⟨yl, yo⟩
                    · rw [eT2 j c]
                      exact hT.1 j (by omega)
                  · by_cases c1 : i = many
                    · by_cases c2 : j = many
                      · omega
                      · rw [c1, eT1, eT2 j c2] at e
                        exact absurd e.symm (nin j (by omega))
                    · by_cases c2 : j = many
                      · rw [c2, eT1, eT2 i c1] at e
                        exact absurd e (nin i (by omega))
                      · rw [eT2 i c1, eT2 j c2] at e
                        exact hT.2.1 i j (by omega) (by omega) e
                  · have := hT.2.2.2
                    rw [eT2 0 (by omega)]
                    exact hT.2.2.1
                have ml' := pT_le hT'
                have inT : ∀ z, g_in T' (many + 1) z = (g_in T many z || decide (y = z)) := fun z => by
                  show (g_in T' many z || decide (T' many = z)) = _
                  rw [eT1, in_congr z many (fun j hj => eT2 j (by omega))]
                rw [n_un (by omega)]
                refine ⟨by omega, am_fg (le_same _ (le_same _ (le_same _ (le_same _ (le_same _ (le_int _ le_nil)))))) (ih2 T' (many + 1) _ hT' ⟨fun b b1 b2 => by rw [am_sr_off _ _ b2, am_sr_off _ _ b1]; exact hs.1 b b1 b2, fun j hj => ?_, fun z hz => ?_⟩ (by omega) (fun j hj i hi4 => ?_) (fun i hi4 => ?_))⟩
                · rw [am_sr_at, am_sr_off _ _ (by decide)]
                  by_cases c : j = many
                  · rw [c, am_u1_at, eT1]
                  · rw [am_u1_off _ _ c, eT2 j c]
                    exact hs.2.1 j (by omega)
                · rw [am_sr_off _ _ (by decide), am_sr_at, inT z]
                  by_cases c : z = y
                  · rw [c, am_u1_at, decide_eq_true rfl, Bool.or_true, Bool.or_true]
                    rfl
                  · rw [am_u1_off _ _ c, decide_eq_false (fun q => c q.symm), Bool.or_false]
                    exact hs.2.2 z hz
                · rw [eT2 j (by omega), inT, hp j hj i hi4]
                  rfl
                · rw [eT2 k (by omega), inT]
                  by_cases c : i = m
                  · rw [c, hy, decide_eq_true rfl, Bool.or_true]
                  · rw [hq i (by omega)]
                    rfl
              · have old : g_in T many y = true := by
                  cases c : g_in T many y
                  · exact absurd (bi_0.mpr c) q
                  · rfl
                refine am_fg (le_same _ (le_same _ (le_same _ (le_same _ (le_same _ (le_int _ le_nil)))))) (ih2 T many J' hT hs hkm hp (fun i hi4 => ?_))
                by_cases c : i = m
                · rw [c, hy]
                  exact old
                · exact hq i (by omega)
            · intro T many J' hT hs hkm hp hq
              refine am_step _ _ _ (b_M_spreads_37 ⟨fun q => absurd q (by decide), fun _ => ?_⟩)
              rw [nI_add]
              refine am_fg (le_same _ (le_same _ (le_same _ (le_same _ (le_int _ (le_same _ le_nil)))))) (ih T many J' hT hs (by omega) (fun j hj m hm => ?_))
              by_cases c : j = k
              · rw [c]
                exact hq m hm
              · exact hp j (by omega) m hm
          have ml := pT_le hT
          exact am_step _ _ _ (b_M_spreads_29 ⟨fun _ => inner 0 (by decide) T many J' hT hs (by omega) hp (fun i hi => absurd hi (Nat.not_lt_zero i)), fun q => absurd (nI_lt (show k < many by omega) (by omega)) q⟩)
      · intro T many J' hT hs hkm hp
        have ml := pT_le hT
        exact fin 4096 (Nat.le_refl _) T many J' hT hs (by omega) hp
    refine key 0 (by decide) (fun _ => x) 1 _ ⟨fun j _ => ⟨hx, rfl⟩, fun i j a b _ => by omega, rfl, by decide⟩ ⟨fun b b1 b2 => by rw [am_sr_off _ _ b2, am_sr_off _ _ b1]; exact hJ b b1 b2, fun j hj => ?_, fun y hy => ?_⟩ (by decide) (fun j hj => absurd hj (Nat.not_lt_zero j))
    · have : j = 0 := by omega
      rw [this, am_sr_at, show am_un (nI 0) = 0 from rfl, am_u1_at]
    · rw [am_sr_off _ _ (by decide), am_sr_at]
      show _ = g_bi (M y || (false || decide (x = y)))
      by_cases c : y = x
      · rw [c, am_u1_at, decide_eq_true rfl, Bool.or_true, Bool.or_true]
        rfl
      · rw [am_u1_off _ _ c, decide_eq_false (fun q => c q.symm), Bool.or_false, Bool.or_false]
        exact hJm y hy
  · cases c : M x
    · rw [c] at q
      exact absurd rfl q
    · rfl
end MS
