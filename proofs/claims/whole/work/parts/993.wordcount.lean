/-! GROUPS: THE MODEL'S COUNT OF ORBITS OF WORDS -/
section MO
variable {d : Nat} {K : Option Value → am_M → Prop} {I J : Nat → Nat → Int32} {Lg : Nat → Nat → Int64} {rr : Nat → Nat → Option Nat} {n : Nat} {w : Nat} {now : a_S} {ρ : Nat → Nat}
/-- a word of that size, whose orbit was not met by a lower number -/
def g_fst (ρ : Nat → Nat) (size k : Nat) : Bool := decide (pcn (g_W k) = size) && !decide (∃ j, j < k ∧ pcn (g_W j) = size ∧ ρ (g_sg j) = ρ (g_sg k))
theorem fst_iff {size k : Nat} : g_fst ρ size k = true ↔ pcn (g_W k) = size ∧ ∀ j, j < k → pcn (g_W j) = size → ¬ ρ (g_sg j) = ρ (g_sg k) := by
  unfold g_fst
  rw [Bool.and_eq_true, decide_eq_true_iff]
  constructor
  · rintro ⟨h1, h2⟩
    refine ⟨h1, fun j j1 j2 j3 => ?_⟩
    rw [decide_eq_true (⟨j, j1, j2, j3⟩ : ∃ j, j < k ∧ pcn (g_W j) = size ∧ ρ (g_sg j) = ρ (g_sg k))] at h2
    cases h2
  · rintro ⟨h1, h2⟩
    refine ⟨h1, ?_⟩
    rw [decide_eq_false]
    · rfl
    · rintro ⟨j, j1, j2, j3⟩
      exact h2 j j1 j2 j3
theorem orb_wt (hR : oR (fun m => g_go 1 (now.1 m)) w 4 4096 ρ) (ok : a_ok now) (hk : g_ak now.1 w) {i : Nat} (hi : i < 4096) : pcn (g_w (ρ i)) = pcn (g_w i) :=
  (hR.2.2 (fun a b => pcn (g_w a) = pcn (g_w b)) ⟨fun _ => rfl, fun _ _ q => q.symm, fun _ _ _ q r => q.trans r⟩ (fun m hm hb i hi => (go1_wt (ok.1 m (by omega)) (hk m hm hb) hi).symm) i hi).symm
theorem least_of {P : Nat → Prop} : ∀ k, P k → ∃ j, j ≤ k ∧ P j ∧ ∀ i, i < j → ¬ P i := by
  intro k
  induction k using Nat.strongRecOn with
  | ind k ih =>
    intro h
    by_cases c : ∃ i, i < k ∧ P i
    · obtain ⟨i, i1, i2⟩ := c
      obtain ⟨j, j1, j2, j3⟩ := ih i i1 i2
      exact ⟨j, by omega, j2, j3⟩
    · exact ⟨k, Nat.le_refl _, h, fun i hi hp => c ⟨i, hi, hp⟩⟩
theorem fst_cnt (hR : oR (fun m => g_go 1 (now.1 m)) w 4 4096 ρ) (ok : a_ok now) (hk : g_ak now.1 w) (size : Nat) : g_cnt (fun i => decide (ρ i = i) && decide (pcn (g_w i) = size)) 4096 = g_cnt (g_fst ρ size) 4096 := by
  have rl : ∀ i, i < 4096 → ρ i < 4096 := fun i hi => by have := (hR.1 i hi).1; omega
  refine cnt_map (e := fun k => ρ (g_sg k)) (F := fun i => i) (fun i j _ _ q => q) 4096 (fun i hi _ => ⟨_, rl _ (sg_lt i), rfl⟩) (fun i j hi hj a b e => ?_) _ (fun k hk4 => ?_)
  · obtain ⟨a1, a2⟩ := fst_iff.mp a
    obtain ⟨b1, b2⟩ := fst_iff.mp b
    have e : ρ (g_sg i) = ρ (g_sg j) := e
    rcases Nat.lt_trichotomy i j with c | c | c
    · exact absurd e (b2 i c a1)
    · exact c
    · exact absurd e.symm (a2 j c b1)
  · rw [Bool.and_eq_true, decide_eq_true_iff, decide_eq_true_iff]
    constructor
    · rintro ⟨r, wt⟩
      obtain ⟨j, j1, ⟨j2, j3⟩, j4⟩ := least_of (P := fun j => pcn (g_W j) = size ∧ ρ (g_sg j) = k) (g_N k) ⟨by rw [g_W_N]; exact wt, by rw [sg_N hk4]; exact r⟩
      have := g_N_lt k
      exact ⟨j, by omega, fst_iff.mpr ⟨j2, fun i hi hw he => j4 i hi ⟨hw, by rw [he, j3]⟩⟩, j3⟩
    · rintro ⟨j, j1, j2, j3⟩
      have j3 : ρ (g_sg j) = k := j3
      obtain ⟨a1, _⟩ := fst_iff.mp j2
      rw [← j3]
      exact ⟨(hR.1 _ (sg_lt j)).2, by rw [orb_wt hR ok hk (sg_lt j), sg_w, a1]⟩
/-- what is marked before k -/
def g_mk (ρ : Nat → Nat) (size : Nat) : Nat → Nat → Bool
  | 0, _ => false
  | k + 1, y => g_mk ρ size k y || (decide (pcn (g_W k) = size) && decide (ρ (g_sg y) = ρ (g_sg k)))
theorem mk_iff (ρ : Nat → Nat) (size y : Nat) : ∀ k, g_mk ρ size k y = true ↔ ∃ j, j < k ∧ pcn (g_W j) = size ∧ ρ (g_sg j) = ρ (g_sg y)
  | 0 => ⟨fun h => (by cases h), fun ⟨j, h, _⟩ => absurd h (Nat.not_lt_zero j)⟩
  | k + 1 => by
    show (g_mk ρ size k y || (decide (pcn (g_W k) = size) && decide (ρ (g_sg y) = ρ (g_sg k)))) = true ↔ _
    rw [Bool.or_eq_true, mk_iff ρ size y k, Bool.and_eq_true, decide_eq_true_iff, decide_eq_true_iff]
    constructor
    · rintro (⟨j, h1, h2⟩ | ⟨h1, h2⟩)
      · exact ⟨j, by omega, h2⟩
      · exact ⟨k, by omega, h1, h2.symm⟩
    · rintro ⟨j, h1, h2, h3⟩
      by_cases c : j = k
      · rw [c] at h2 h3
        exact Or.inr ⟨h2, h3.symm⟩
      · exact Or.inl ⟨j, by omega, h2, h3⟩
theorem cnt_pos {P : Nat → Bool} {i : Nat} (h : P i = true) : ∀ N, i < N → 0 < g_cnt P N
  | 0, hi => absurd hi (Nat.not_lt_zero i)
  | N + 1, hi => by
    rw [cnt_s]
    by_cases c : i = N
    · rw [← c, h, if_pos rfl]
      omega
    · have := cnt_pos h N (by omega)
      split <;> omega
theorem s_orbitsOfWords {size : Nat} (hd : 6 ≤ d) (hsz : size < 25) (hT : vT I) (hR : oR (fun m => g_go 1 (now.1 m)) w 4 4096 ρ) (ok : a_ok now) (hm : m_S (I 1470) 0 now) (hw : w < 16) (hk : g_ak now.1 w) (h : ∀ J, (∀ b, ¬ b = 1486 → ¬ b = 1487 → ¬ b = 1488 → J b = I b) → K (some (.int (nI (g_cnt (fun i => decide (ρ i = i) && decide (pcn (g_w i) = size)) 4096)))) (am_st J Lg rr n)) : am_AC d k_M_orbitsOfWords [.ref 1469, .int (nI w), .int (nI size)] (am_st I Lg rr n) K := by
  obtain ⟨d, rfl, hd1⟩ := s_up hd
  rw [fst_cnt hR ok hk] at h
  refine am_in _ _ _ (am_step _ _ _ (b_M_orbitsOfWords_0 (s_imagesOf hd1 hT ok hm hw hk fun J1 o1 hi => ⟨rfl, am_step _ _ _ (b_M_orbitsOfWords_5 (s_unmarks (by omega) fun J2 p1 p2 => ⟨rfl, am_step _ _ _ (b_M_orbitsOfWords_9 ?_)⟩))⟩)))
  have key : ∀ k, k ≤ 4096 → ∀ J, (∀ b, ¬ b = 1487 → ¬ b = 1488 → J b = J1 b) → (∀ y, y < 4096 → J 1487 y = g_bi (g_mk ρ size k y)) → am_St d k_M_orbitsOfWords (am_st I Lg rr n) K 14 [some (.ref 1469), some (.int (nI w)), some (.int (nI size)), some (.int (nI (g_cnt (g_fst ρ size) k))), some (.int (nI k))] [] (am_st J Lg rr n) := by
    refine lp_up _ (fun k hk4 ih => ?_) ?_
    · intro J q1 q2
      have wl := g_W_lt k
      have pl := pcn_le 24 _ wl
      refine am_step _ _ _ (b_M_orbitsOfWords_14 ⟨fun _ => s_wordOf (by omega) (by omega) ⟨_, rfl, am_step _ _ _ (b_M_orbitsOfWords_28 ?_)⟩, fun q => absurd (nI_lt hk4 (by decide)) q⟩)
      rw [m_word_W]
      refine s_bits (by omega) (by omega) ⟨_, rfl, am_step _ _ _ (b_M_orbitsOfWords_31 ⟨fun q => ?_, fun q => ?_⟩)⟩
      · rw [nI_eq (by omega) (by omega)] at q
        have mkn : ∀ y, g_mk ρ size (k + 1) y = (g_mk ρ size k y || decide (ρ (g_sg y) = ρ (g_sg k))) := fun y => by
          show (g_mk ρ size k y || (decide (pcn (g_W k) = size) && decide (ρ (g_sg y) = ρ (g_sg k)))) = _
          rw [decide_eq_true q, Bool.true_and]
        refine s_spreads (I := J1) (by omega) hR ok hk hi hk4 (M := g_mk ρ size k) (fun y z _ _ e => ?_) q1 q2 (fun hM => ⟨_, rfl, am_step _ _ _ (b_M_orbitsOfWords_41 ⟨fun q => absurd q (by decide), fun _ => ?_⟩)⟩) (fun hM J' r1 r2 => ⟨_, rfl, am_step _ _ _ (b_M_orbitsOfWords_41 ⟨fun _ => ?_, fun q => ?_⟩)⟩)
        · rw [Bool.eq_iff_iff, mk_iff, mk_iff, e]
        · have nf : g_fst ρ size k = false := by
            obtain ⟨j, j1, j2, j3⟩ := (mk_iff ρ size k k).mp hM
            refine Bool.eq_false_iff.mpr fun f => ?_
            exact (fst_iff.mp f).2 j j1 j2 j3
          have ih2 := ih J q1 (fun y hy => by
            rw [q2 y hy, mkn y]
            by_cases c : ρ (g_sg y) = ρ (g_sg k)
            · have : g_mk ρ size k y = true := by
                obtain ⟨j, j1, j2, j3⟩ := (mk_iff ρ size k k).mp hM
                exact (mk_iff ρ size y k).mpr ⟨j, j1, j2, by rw [j3, c]⟩
              rw [this]
              rfl
            · rw [decide_eq_false c, Bool.or_false])
          rw [cnt_s, nf, if_neg (by decide)] at ih2
          rw [nI_add, nI_add, Nat.add_zero]
          exact ih2
        · have f : g_fst ρ size k = true := fst_iff.mpr ⟨q, fun j j1 j2 j3 => by
            rw [(mk_iff ρ size k k).mpr ⟨j, j1, j2, j3⟩] at hM
            cases hM⟩
          have ih2 := ih J' r1 (fun y hy => by rw [r2 y hy, mkn y])
          rw [cnt_s, f, if_pos rfl] at ih2
          rw [nI_add, nI_add]
          exact ih2
        · have := cnt_pos (P := fun i => decide (ρ i = ρ (g_sg k))) (i := g_sg k) (decide_eq_true rfl) 4096 (sg_lt k)
          have l := cnt_le (fun i => decide (ρ i = ρ (g_sg k))) 4096
          exact absurd (show (0 : Int32) < nI _ from nI_lt this (by omega)) q
      · rw [nI_eq (by omega) (by omega)] at q
        have nf : g_fst ρ size k = false := Bool.eq_false_iff.mpr fun f => q (fst_iff.mp f).1
        have ih2 := ih J q1 (fun y hy => by
          rw [q2 y hy]
          show _ = g_bi (g_mk ρ size k y || (decide (pcn (g_W k) = size) && decide (ρ (g_sg y) = ρ (g_sg k))))
          rw [decide_eq_false q, Bool.false_and, Bool.or_false])
        rw [cnt_s, nf, if_neg (by decide)] at ih2
        rw [nI_add, nI_add, Nat.add_zero]
        exact ih2
    · intro J q1 q2
      refine am_step _ _ _ (b_M_orbitsOfWords_14 ⟨fun q => absurd q (by decide), fun _ => h J fun b b1 b2 b3 => ?_⟩)
      rw [q1 b b2 b3, o1 b b1]
  exact key 0 (by decide) J2 (fun b b1 b2 => p1 b b1) (fun y hy => p2 y hy)
end MO
