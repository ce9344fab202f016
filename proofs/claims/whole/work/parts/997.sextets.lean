/-! GROUPS: THE MODEL'S COUNT OF ORBITS OF SEXTETS -/
def g_val (q : Nat) : Bool := decide (0 < q / 576 ∧ q / 576 < q / 24 % 24 ∧ q / 24 % 24 < q % 24)
def g_gq (q : Nat) : Nat := g_4 (q / 576) (q / 24 % 24) (q % 24)
theorem val_iff {q : Nat} : g_val q = true ↔ 0 < q / 576 ∧ q / 576 < q / 24 % 24 ∧ q / 24 % 24 < q % 24 := decide_eq_true_iff
theorem gq_4 {q : Nat} (h : g_val q = true) : is4 (g_gq q) := by
  obtain ⟨h1, h2, h3⟩ := val_iff.mp h
  exact is4_4 h1 h2 h3 (by omega)
theorem gq_ex {F : Nat} (h : is4 F) : ∃ q, q < 13824 ∧ g_val q = true ∧ g_gq q = F := by
  obtain ⟨a, b, c, h0, h1, h2, h3, rfl⟩ := is4_ex h
  have e1 : (576 * a + 24 * b + c) / 576 = a := by omega
  have e2 : (576 * a + 24 * b + c) / 24 % 24 = b := by omega
  have e3 : (576 * a + 24 * b + c) % 24 = c := by omega
  refine ⟨576 * a + 24 * b + c, by omega, val_iff.mpr ?_, ?_⟩
  · rw [e1, e2, e3]
    exact ⟨h0, h1, h2⟩
  · unfold g_gq
    rw [e1, e2, e3]
def g_f4 (ρ : Nat → Nat) (q : Nat) : Bool := g_val q && !decide (∃ j, j < q ∧ g_val j = true ∧ ρ (g_r (g_gq j)) = ρ (g_r (g_gq q)))
theorem f4_iff {ρ : Nat → Nat} {q : Nat} : g_f4 ρ q = true ↔ g_val q = true ∧ ∀ j, j < q → g_val j = true → ¬ ρ (g_r (g_gq j)) = ρ (g_r (g_gq q)) := by
  unfold g_f4
  rw [Bool.and_eq_true]
  constructor
  · rintro ⟨h1, h2⟩
    refine ⟨h1, fun j j1 j2 j3 => ?_⟩
    rw [decide_eq_true (⟨j, j1, j2, j3⟩ : ∃ j, j < q ∧ g_val j = true ∧ ρ (g_r (g_gq j)) = ρ (g_r (g_gq q)))] at h2
    cases h2
  · rintro ⟨h1, h2⟩
    refine ⟨h1, ?_⟩
    rw [decide_eq_false]
    · rfl
    · rintro ⟨j, j1, j2, j3⟩
      exact h2 j j1 j2 j3
def g_m4 (ρ : Nat → Nat) : Nat → Nat → Bool
  | 0, _ => false
  | q + 1, y => g_m4 ρ q y || (g_val q && decide (ρ (g_r y) = ρ (g_r (g_gq q))))
theorem m4_iff (ρ : Nat → Nat) (y : Nat) : ∀ q, g_m4 ρ q y = true ↔ ∃ j, j < q ∧ g_val j = true ∧ ρ (g_r (g_gq j)) = ρ (g_r y)
  | 0 => ⟨fun h => (by cases h), fun ⟨j, h, _⟩ => absurd h (Nat.not_lt_zero j)⟩
  | q + 1 => by
    show (g_m4 ρ q y || (g_val q && decide (ρ (g_r y) = ρ (g_r (g_gq q))))) = true ↔ _
    rw [Bool.or_eq_true, m4_iff ρ y q, Bool.and_eq_true, decide_eq_true_iff]
    constructor
    · rintro (⟨j, h1, h2⟩ | ⟨h1, h2⟩)
      · exact ⟨j, by omega, h2⟩
      · exact ⟨q, by omega, h1, h2.symm⟩
    · rintro ⟨j, h1, h2, h3⟩
      by_cases c : j = q
      · rw [c] at h2 h3
        exact Or.inr ⟨h2, h3.symm⟩
      · exact Or.inl ⟨j, by omega, h2, h3⟩
theorem m4_gap (ρ : Nat → Nat) (y : Nat) {q : Nat} : ∀ r, (∀ j, q ≤ j → j < q + r → g_val j = false) → g_m4 ρ (q + r) y = g_m4 ρ q y
  | 0, _ => rfl
  | r + 1, h => by
    show (g_m4 ρ (q + r) y || (g_val (q + r) && _)) = _
    rw [h (q + r) (by omega) (by omega), Bool.false_and, Bool.or_false]
    exact m4_gap ρ y r (fun j h1 h2 => h j h1 (by omega))
theorem f4_gap (ρ : Nat → Nat) {q : Nat} (r : Nat) (h : ∀ j, q ≤ j → j < q + r → g_val j = false) : g_cnt (g_f4 ρ) (q + r) = g_cnt (g_f4 ρ) q := cnt_none r fun j h1 h2 => by
  unfold g_f4
  rw [h j h1 h2]
  rfl
theorem val_no {q : Nat} (h : ¬ (0 < q / 576 ∧ q / 576 < q / 24 % 24 ∧ q / 24 % 24 < q % 24)) : g_val q = false := decide_eq_false h
/-- two small sets of the same rest are the same -/
theorem same_small {x y : Nat} (hx : x < 2 ^ 24) (hy : y < 2 ^ 24) (h : pcn x + pcn y < 8) (e : g_r x = g_r y) : x = y := by
  have w : g_isw (x ^^^ y) := (isw_r (xor_lt hx hy)).mpr (by rw [g_r_xor, e, Nat.xor_self])
  have := pcn_xa x y
  exact xor_eq0 (isw_small w (by omega))
section S4
variable {d : Nat} {K : Option Value → am_M → Prop} {I J : Nat → Nat → Int32} {Lg : Nat → Nat → Int64} {rr : Nat → Nat → Option Nat} {n : Nat} {w : Nat} {now : a_S} {ρ : Nat → Nat} {L : Nat → Nat}
theorem lead_go {f : Nat → Nat} (hf : a_pm f) (hk : g_pvb f = true) (hL : ∀ i, i < 4096 → g_Lp i (L i)) {i : Nat} (hi : i < 4096) : pcn (L i) = 4 ↔ pcn (L (g_go 2 f i)) = 4 := by
  have gl : g_go 2 f i < 4096 := go_lt (by decide) i
  obtain ⟨a1, a2, a3⟩ := hL i hi
  obtain ⟨b1, b2, b3⟩ := hL _ gl
  have il := im_lt hf.1 (L i) 24 (Nat.le_refl _)
  have ip := im_pcn hf 24 (Nat.le_refl _) _ a1
  have er : g_r (g_im f (L i) 24) = g_r (L (g_go 2 f i)) := by rw [← go_r hf hk a1, a2, b2]
  constructor
  · intro h
    rcases b3 with b3 | b3
    · have := same_small il b1 (by omega) er
      rw [this] at ip
      omega
    · exact b3.1
  · intro h
    rcases a3 with a3 | a3
    · have := same_small il b1 (by omega) er
      rw [this] at ip
      omega
    · exact a3.1
theorem lead_wt (hR : oR (fun m => g_go 2 (now.1 m)) w 4 4096 ρ) (ok : a_ok now) (hk : g_ak now.1 w) (hL : ∀ i, i < 4096 → g_Lp i (L i)) {i : Nat} (hi : i < 4096) : pcn (L i) = 4 ↔ pcn (L (ρ i)) = 4 :=
  hR.2.2 (fun a b => (pcn (L a) = 4 ↔ pcn (L b) = 4)) ⟨fun _ => Iff.rfl, fun _ _ q => q.symm, fun _ _ _ q r => q.trans r⟩ (fun m hm hb i hi => lead_go (ok.1 m (by omega)) (hk m hm hb) hL hi) i hi
theorem f4_cnt (hR : oR (fun m => g_go 2 (now.1 m)) w 4 4096 ρ) (ok : a_ok now) (hk : g_ak now.1 w) (hL : ∀ i, i < 4096 → g_Lp i (L i)) : g_cnt (fun i => decide (ρ i = i) && decide (pcn (L i) = 4)) 4096 = g_cnt (g_f4 ρ) 13824 := by
  have rl : ∀ i, i < 4096 → ρ i < 4096 := fun i hi => by have := (hR.1 i hi).1; omega
  refine cnt_map (e := fun q => ρ (g_r (g_gq q))) (F := fun i => i) (fun i j _ _ q => q) 13824 (fun i hi _ => ⟨_, rl _ (g_r_lt _), rfl⟩) (fun i j hi hj a b e => ?_) _ (fun k hk4 => ?_)
  · obtain ⟨a1, a2⟩ := f4_iff.mp a
    obtain ⟨b1, b2⟩ := f4_iff.mp b
    have e : ρ (g_r (g_gq i)) = ρ (g_r (g_gq j)) := e
    rcases Nat.lt_trichotomy i j with c | c | c
    · exact absurd e (b2 i c a1)
    · exact c
    · exact absurd e.symm (a2 j c b1)
  · rw [Bool.and_eq_true, decide_eq_true_iff, decide_eq_true_iff]
    constructor
    · rintro ⟨r, wt⟩
      obtain ⟨l1, l2, l3⟩ := hL k hk4
      have l4 : is4 (L k) := ⟨l1, wt, by rcases l3 with l3 | l3; · omega
                                         · exact l3.2⟩
      obtain ⟨q0, q1, q2, q3⟩ := gq_ex l4
      obtain ⟨j, j1, ⟨j2, j3⟩, j4⟩ := least_of (P := fun j => g_val j = true ∧ ρ (g_r (g_gq j)) = k) q0 ⟨q2, by rw [q3, l2, r]⟩
      exact ⟨j, by omega, f4_iff.mpr ⟨j2, fun i hi hv he => j4 i hi ⟨hv, by rw [he, j3]⟩⟩, j3⟩
    · rintro ⟨j, j1, j2, j3⟩
      have j3 : ρ (g_r (g_gq j)) = k := j3
      obtain ⟨a1, _⟩ := f4_iff.mp j2
      obtain ⟨f1, f2, f3⟩ := gq_4 a1
      have rl1 := g_r_lt (g_gq j)
      rw [← j3]
      refine ⟨(hR.1 _ rl1).2, (lead_wt hR ok hk hL rl1).mp ?_⟩
      obtain ⟨l1, l2, l3⟩ := hL _ rl1
      rcases l3 with l3 | l3
      · have := same_small f1 l1 (by omega) l2.symm
        rw [← this] at l3
        omega
      · exact l3.1
theorem s_orbitsOfSextets (hd : 6 ≤ d) (hT : vT I) (hR : oR (fun m => g_go 2 (now.1 m)) w 4 4096 ρ) (ok : a_ok now) (hm : m_S (I 1470) 0 now) (hw : w < 16) (hk : g_ak now.1 w) (h : ∀ J, (∀ b, ¬ b = 1487 → ¬ b = 1488 → J b = I b) → K (some (.int (nI (g_cnt (g_f4 ρ) 13824)))) (am_st J Lg rr n)) : am_AC d k_M_orbitsOfSextets [.ref 1469, .int (nI w)] (am_st I Lg rr n) K := by
  obtain ⟨d, rfl, hd1⟩ := s_up hd
  refine am_in _ _ _ (am_step _ _ _ (b_M_orbitsOfSextets_0 (s_unmarks (by omega) fun J2 p1 p2 => ⟨rfl, am_step _ _ _ (b_M_orbitsOfSextets_4 ?_)⟩)))
  have key : ∀ a, a ≤ 22 → 0 < a → ∀ J, (∀ b, ¬ b = 1487 → ¬ b = 1488 → J b = I b) → (∀ y, is4 y → J 1487 (g_rf y) = g_bi (g_m4 ρ (576 * a) y)) → am_St d k_M_orbitsOfSextets (am_st I Lg rr n) K 8 [some (.ref 1469), some (.int (nI w)), some (.int (nI (g_cnt (g_f4 ρ) (576 * a)))), some (.int (nI a)), none, none] [] (am_st J Lg rr n) := by
    refine lp_up _ (fun a ha ih => ?_) ?_
    · intro a0 J0 o1 o2
      have kb : ∀ b, b ≤ 23 → a < b → ∀ J, (∀ b, ¬ b = 1487 → ¬ b = 1488 → J b = I b) → (∀ y, is4 y → J 1487 (g_rf y) = g_bi (g_m4 ρ (576 * a + 24 * b) y)) → am_St d k_M_orbitsOfSextets (am_st I Lg rr n) K 19 [some (.ref 1469), some (.int (nI w)), some (.int (nI (g_cnt (g_f4 ρ) (576 * a + 24 * b)))), some (.int (nI a)), some (.int (nI b)), none] [] (am_st J Lg rr n) := by
        refine lp_up _ (fun b hb ih2 => ?_) ?_
        · intro ab J1 o1 o2
          have kc : ∀ c, c ≤ 24 → b < c → ∀ J, (∀ b, ¬ b = 1487 → ¬ b = 1488 → J b = I b) → (∀ y, is4 y → J 1487 (g_rf y) = g_bi (g_m4 ρ (576 * a + 24 * b + c) y)) → am_St d k_M_orbitsOfSextets (am_st I Lg rr n) K 32 [some (.ref 1469), some (.int (nI w)), some (.int (nI (g_cnt (g_f4 ρ) (576 * a + 24 * b + c)))), some (.int (nI a)), some (.int (nI b)), some (.int (nI c))] [] (am_st J Lg rr n) := by
            refine lp_up _ (fun c hc ih3 => ?_) ?_
            · intro bc J q1 q2
              have e1 : (576 * a + 24 * b + c) / 576 = a := by omega
              have e2 : (576 * a + 24 * b + c) / 24 % 24 = b := by omega
              have e3 : (576 * a + 24 * b + c) % 24 = c := by omega
              have v : g_val (576 * a + 24 * b + c) = true := val_iff.mpr (by rw [e1, e2, e3]; exact ⟨a0, ab, bc⟩)
              have eg : g_gq (576 * a + 24 * b + c) = g_4 a b c := by unfold g_gq; rw [e1, e2, e3]
              generalize eq : 576 * a + 24 * b + c = q at q2 ih3 v eg ⊢
              have f4 := gq_4 v
              rw [show 576 * a + 24 * b + (c + 1) = q + 1 by omega] at ih3
              refine am_step _ _ _ (b_M_orbitsOfSextets_32 ⟨fun _ => ?_, fun q => absurd (nI_lt hc (by decide)) q⟩)
              rw [n_p2 (by omega), n_p2 (by omega), n_p2 (by omega), n_or, n_or, n_or, show 1 ||| 2 ^ a ||| 2 ^ b ||| 2 ^ c = g_gq q from eg.symm]
              have mkn : ∀ y, g_m4 ρ (q + 1) y = (g_m4 ρ q y || decide (ρ (g_r y) = ρ (g_r (g_gq q)))) := fun y => by
                show (g_m4 ρ q y || (g_val q && decide (ρ (g_r y) = ρ (g_r (g_gq q))))) = _
                rw [v, Bool.true_and]
              have hTJ : vT J := hT.fr (fun b b1 b2 => q1 b (by omega) (by omega)) (fun b b1 b2 => q1 b (by omega) (by omega)) (by rw [q1 1469 (by decide) (by decide)])
              have hmJ : m_S (J 1470) 0 now := by rw [q1 1470 (by decide) (by decide)]; exact hm
              refine s_spreadsFours (I := J) (by omega) hTJ hmJ hw hR ok hk f4 (M := g_m4 ρ q) (fun y z _ _ e => ?_) (fun _ _ _ => rfl) q2 (fun hM => ⟨_, rfl, am_step _ _ _ (b_M_orbitsOfSextets_60 ⟨fun q => absurd q (by decide), fun _ => ?_⟩)⟩) (fun hM J' r1 r2 many m1 m2 => ⟨_, rfl, am_step _ _ _ (b_M_orbitsOfSextets_60 ⟨fun _ => ?_, fun q => absurd (show (0 : Int32) < nI _ from nI_lt m1 (by omega)) q⟩)⟩)
              · rw [Bool.eq_iff_iff, m4_iff, m4_iff, e]
              · have nf : g_f4 ρ q = false := by
                  obtain ⟨j, j1, j2, j3⟩ := (m4_iff ρ (g_gq q) q).mp hM
                  exact Bool.eq_false_iff.mpr fun f => (f4_iff.mp f).2 j j1 j2 j3
                have ih4 := ih3 (by omega) J q1 (fun y hy => by
                  rw [q2 y hy, mkn y]
                  by_cases c : ρ (g_r y) = ρ (g_r (g_gq q))
                  · have : g_m4 ρ q y = true := by
                      obtain ⟨j, j1, j2, j3⟩ := (m4_iff ρ (g_gq q) q).mp hM
                      exact (m4_iff ρ y q).mpr ⟨j, j1, j2, by rw [j3, c]⟩
                    rw [this]
                    rfl
                  · rw [decide_eq_false c, Bool.or_false])
                rw [cnt_s, nf, if_neg (by decide)] at ih4
                rw [nI_add, nI_add, Nat.add_zero]
                exact ih4
              · have f : g_f4 ρ q = true := f4_iff.mpr ⟨v, fun j j1 j2 j3 => by
                  rw [(m4_iff ρ (g_gq q) q).mpr ⟨j, j1, j2, j3⟩] at hM
                  cases hM⟩
                have ih4 := ih3 (by omega) J' (fun b b1 b2 => by rw [r1 b b1 b2]; exact q1 b b1 b2) (fun y hy => by rw [r2 y hy, mkn y])
                rw [cnt_s, f, if_pos rfl] at ih4
                rw [nI_add, nI_add]
                exact ih4
            · intro bc J q1 q2
              rw [show 576 * a + 24 * b + 24 = 576 * a + 24 * (b + 1) by omega] at q2 ⊢
              refine am_step _ _ _ (b_M_orbitsOfSextets_32 ⟨fun q => absurd q (by decide), fun _ => ?_⟩)
              rw [nI_add]
              exact am_fg (le_same _ (le_same _ (le_same _ (le_same _ (le_same _ (le_int _ le_nil)))))) (ih2 (by omega) J q1 q2)
          have gap : ∀ j, 576 * a + 24 * b ≤ j → j < 576 * a + 24 * b + (b + 1) → g_val j = false := fun j h1 h2 => val_no (by omega)
          refine am_step _ _ _ (b_M_orbitsOfSextets_19 ⟨fun _ => ?_, fun q => absurd (nI_lt hb (by decide)) q⟩)
          rw [nI_add, ← f4_gap ρ (b + 1) gap]
          exact kc (b + 1) (by omega) (by omega) J1 o1 (fun y hy => by rw [o2 y hy, m4_gap ρ y (b + 1) gap])
        · intro ab J1 o1 o2
          have gap : ∀ j, 576 * a + 24 * 23 ≤ j → j < 576 * a + 24 * 23 + 24 → g_val j = false := fun j h1 h2 => val_no (by omega)
          refine am_step _ _ _ (b_M_orbitsOfSextets_19 ⟨fun q => absurd q (by decide), fun _ => ?_⟩)
          rw [nI_add, ← f4_gap ρ 24 gap, show 576 * a + 24 * 23 + 24 = 576 * (a + 1) by omega]
          refine am_fg (le_same _ (le_same _ (le_same _ (le_same _ (le_int _ (le_same _ le_nil)))))) (ih (by omega) J1 o1 (fun y hy => ?_))
          rw [o2 y hy, ← m4_gap ρ y 24 gap, show 576 * a + 24 * 23 + 24 = 576 * (a + 1) by omega]
      have gap : ∀ j, 576 * a ≤ j → j < 576 * a + 24 * (a + 1) → g_val j = false := fun j h1 h2 => val_no (by omega)
      refine am_step _ _ _ (b_M_orbitsOfSextets_8 ⟨fun _ => ?_, fun q => absurd (nI_lt ha (by decide)) q⟩)
      rw [nI_add, ← f4_gap ρ (24 * (a + 1)) gap]
      exact kb (a + 1) (by omega) (by omega) J0 o1 (fun y hy => by rw [o2 y hy, m4_gap ρ y (24 * (a + 1)) gap])
    · intro a0 J o1 o2
      have gap : ∀ j, 576 * 22 ≤ j → j < 576 * 22 + 1152 → g_val j = false := fun j h1 h2 => val_no (by omega)
      refine am_step _ _ _ (b_M_orbitsOfSextets_8 ⟨fun q => absurd q (by decide), fun _ => ?_⟩)
      rw [← f4_gap ρ 1152 gap]
      exact h J o1
  have gap : ∀ j, 0 ≤ j → j < 0 + 576 → g_val j = false := fun j h1 h2 => val_no (by omega)
  have k1 := key 1 (by decide) (by decide) J2 (fun b b1 b2 => p1 b b1) (fun y hy => by
    rw [p2 _ (rf_lt hy), show 576 * 1 = 0 + 576 from rfl, m4_gap ρ y 576 gap]
    rfl)
  rw [show 576 * 1 = 0 + 576 from rfl, f4_gap ρ 576 gap] at k1
  exact k1
end S4
