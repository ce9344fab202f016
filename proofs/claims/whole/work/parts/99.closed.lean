/-! GROUPS: CLOSED SETS ARE MADE OF ORBITS -/
theorem cnt_mono {P C : Nat → Bool} : ∀ N, (∀ k, k < N → P k = true → C k = true) → g_cnt P N ≤ g_cnt C N
  | 0, _ => Nat.le_refl _
  | N + 1, h => by
    have ih := cnt_mono N (fun k hk => h k (by omega))
    rw [cnt_s, cnt_s]
    cases c : P N
    · rw [if_neg (by decide)]
      split <;> omega
    · rw [if_pos rfl, h N (by omega) c, if_pos rfl]
      omega
theorem cnt_sub {P C : Nat → Bool} : ∀ N, (∀ k, k < N → P k = true → C k = true) → g_cnt P N = g_cnt C N → ∀ k, k < N → C k = true → P k = true
  | 0, _, _, k, hk, _ => absurd hk (Nat.not_lt_zero k)
  | N + 1, h, e, k, hk, hc => by
    have m := cnt_mono N (fun k hk => h k (by omega))
    rw [cnt_s, cnt_s] at e
    cases p : P N
    · rw [p, if_neg (by decide)] at e
      cases c : C N
      · rw [c, if_neg (by decide)] at e
        have : ¬ k = N := fun q => by rw [q, c] at hc; cases hc
        exact cnt_sub N (fun k hk => h k (by omega)) e k (by omega) hc
      · rw [c, if_pos rfl] at e
        omega
    · rw [p, h N (by omega) p, if_pos rfl, if_pos rfl] at e
      by_cases q : k = N
      · rw [q]; exact p
      · exact cnt_sub N (fun k hk => h k (by omega)) (by omega) k (by omega) hc
/-- what an injective map sends into a closed set was there -/
theorem cls_back {g : Nat → Nat} {N : Nat} (hg : ∀ i, i < N → g i < N) (hi : ∀ i j, i < N → j < N → g i = g j → i = j) {C : Nat → Bool} (hC : ∀ i, i < N → C i = true → C (g i) = true) {i : Nat} (h : i < N) (hc : C (g i) = true) : C i = true := by
  have dp := Classical.propDecidable
  have e := cnt_map (e := g) (F := fun k => k) (N := N) (fun i j _ _ q => q) (A := C) N (fun i h1 _ => ⟨g i, hg i h1, rfl⟩) (fun i j h1 h2 _ _ q => hi i j h1 h2 q) (fun k => @decide (∃ i, i < N ∧ C i = true ∧ g i = k) (dp _)) (fun k _ => @decide_eq_true_iff _ (dp _))
  have := cnt_sub N (fun k _ hk => by
    obtain ⟨j, j1, j2, j3⟩ := (@decide_eq_true_iff _ (dp _)).mp hk
    rw [← j3]
    exact hC j j1 j2) e (g i) (hg i h) hc
  obtain ⟨j, j1, j2, j3⟩ := (@decide_eq_true_iff _ (dp _)).mp this
  rw [← hi j i j1 h j3]
  exact j2
theorem inj_onto {g : Nat → Nat} {N : Nat} (hg : ∀ i, i < N → g i < N) (hi : ∀ i j, i < N → j < N → g i = g j → i = j) {k : Nat} (hk : k < N) : ∃ i, i < N ∧ g i = k := by
  refine Classical.byContradiction fun hno => ?_
  have dp := Classical.propDecidable
  have e := cnt_map (e := g) (F := fun k => k) (N := N) (fun i j _ _ q => q) (A := fun _ => true) N (fun i h1 _ => ⟨g i, hg i h1, rfl⟩) (fun i j h1 h2 _ _ q => hi i j h1 h2 q) (fun k => @decide (∃ i, i < N ∧ true = true ∧ g i = k) (dp _)) (fun k _ => @decide_eq_true_iff _ (dp _))
  have := cnt_sub (P := fun k => @decide (∃ i, i < N ∧ true = true ∧ g i = k) (dp _)) (C := fun _ => true) N (fun k _ _ => rfl) e k hk rfl
  obtain ⟨j, j1, _, j3⟩ := (@decide_eq_true_iff _ (dp _)).mp this
  exact hno ⟨j, j1, j3⟩
/-- a closed set that holds n holds its orbit -/
theorem cls_orbit {γ : Nat → Nat → Nat} {w N : Nat} {ρ : Nat → Nat} (hR : oR γ w 4 N ρ) (hg : ∀ m, m < 4 → w.testBit m = true → ∀ i, i < N → γ m i < N) (hi : ∀ m, m < 4 → w.testBit m = true → ∀ i j, i < N → j < N → γ m i = γ m j → i = j) {C : Nat → Bool} (hC : ∀ m, m < 4 → w.testBit m = true → ∀ i, i < N → C i = true → C (γ m i) = true) {x n : Nat} (hx : x < N) (hn : n < N) (e : ρ x = ρ n) (h : C n = true) : C x = true := by
  have key := hR.2.2 (fun a b => ((a < N ∧ C a = true) ↔ (b < N ∧ C b = true))) ⟨fun x => Iff.rfl, fun x y q => q.symm, fun x y z q r => q.trans r⟩ (fun m hm hb i h1 => ⟨fun q => ⟨hg m hm hb i h1, hC m hm hb i h1 q.2⟩, fun q => ⟨h1, cls_back (hg m hm hb) (hi m hm hb) (hC m hm hb) h1 q.2⟩⟩)
  have k1 := key x hx
  have k2 := key n hn
  rw [e] at k1
  exact (k1.mpr (k2.mp ⟨hn, h⟩)).2
section RC
variable {d : Nat} {K : Option Value → am_M → Prop} {I : Nat → Nat → Int32} {Lg : Nat → Nat → Int64} {rr : Nat → Nat → Option Nat} {n : Nat} {w : Nat} {now : a_S} {ρ : Nat → Nat}
theorem go_pt (f : Nat → Nat) (i : Nat) : g_go 0 f i = f i := by
  unfold g_go
  rw [if_pos rfl]
/-- what is reached from a place is its orbit -/
theorem R_same {f : Nat → Nat → Nat} (hf : ∀ m, m < 4 → ∀ p, p < 24 → f m p < 24) {x : Nat} (hx : x < 2 ^ 24) (h : g_R f w x 4 = x) : ∀ m, m ≤ 4 → g_R f w x m = x := by
  have up : ∀ a b, a + b ≤ 4 → g_sub (g_R f w x a) (g_R f w x (a + b)) := by
    intro a b
    induction b with
    | zero => exact fun _ => Nat.and_self _
    | succ b ih =>
      intro hb
      refine sub_trans (ih (by omega)) ?_
      rw [← Nat.add_assoc, R_s]
      split
      · exact sub_tb.mpr fun j hj => by rw [Nat.testBit_or, hj]; rfl
      · exact Nat.and_self _
  intro m hm
  have h1 := (R_ok w hf hx m hm).2
  have h2 := up m (4 - m) (by omega)
  rw [show m + (4 - m) = 4 by omega, h] at h2
  exact Nat.eq_of_testBit_eq fun j => by
    rw [Bool.eq_iff_iff]
    exact ⟨fun q => sub_tb.mp h2 j q, fun q => sub_tb.mp h1 j q⟩
theorem rx_orbit (ok : a_ok now) (hR : oR (fun m => g_go 0 (now.1 m)) w 4 24 ρ) {x p : Nat} (hx : x < 24) (hp : p < 24) : (g_rx now.1 w (2 ^ p) 24).testBit x = decide (ρ x = ρ p) := by
  have hf : ∀ m, m < 4 → ∀ p, p < 24 → now.1 m p < 24 := fun m hm => (ok.1 m (by omega)).1
  have pl : 2 ^ p < 2 ^ 24 := Nat.pow_lt_pow_right (by decide) hp
  have xl := rx_lt w hf pl 24
  have st := R_same hf xl (rx_end w hf pl)
  have sound : ∀ k x, (g_rx now.1 w (2 ^ p) k).testBit x = true → ρ x = ρ p := by
    intro k
    induction k with
    | zero =>
      intro x h
      rw [show g_rx now.1 w (2 ^ p) 0 = 2 ^ p from rfl, tb_p2] at h
      rw [of_decide_eq_true h]
    | succ k ih =>
      have yl := rx_lt w hf pl k
      have inner : ∀ m, m ≤ 4 → ∀ x, (g_R now.1 w (g_rx now.1 w (2 ^ p) k) m).testBit x = true → ρ x = ρ p := by
        intro m
        induction m with
        | zero => exact fun _ => ih
        | succ m ih2 =>
          intro hm x h
          rw [R_s] at h
          by_cases c : w.testBit m = true
          · rw [if_pos c, Nat.testBit_or, Bool.or_eq_true] at h
            rcases h with h | h
            · exact ih2 (by omega) x h
            · obtain ⟨y, y1, y2, y3⟩ := (im_tb _ _ _ _).mp h
              have : ρ y = ρ (g_go 0 (now.1 m) y) := hR.2.1 m (by omega) c y y1
              rw [go_pt, y3] at this
              rw [← this]
              exact ih2 (by omega) y y2
          · rw [if_neg c] at h
            exact ih2 (by omega) x h
      exact inner 4 (Nat.le_refl _)
  have base : ∀ k, (g_rx now.1 w (2 ^ p) k).testBit p = true := by
    intro k
    induction k with
    | zero => rw [show g_rx now.1 w (2 ^ p) 0 = 2 ^ p from rfl, tb_p2, decide_eq_true rfl]
    | succ k ih => exact sub_tb.mp (R_ok w hf (rx_lt w hf pl k) 4 (Nat.le_refl _)).2 p ih
  rw [Bool.eq_iff_iff, decide_eq_true_iff]
  refine ⟨sound 24 x, fun e => ?_⟩
  refine cls_orbit (C := fun x => (g_rx now.1 w (2 ^ p) 24).testBit x) hR (fun m hm hb i hi => by show g_go 0 (now.1 m) i < 24; rw [go_pt]; exact hf m hm i hi) (fun m hm hb i j hi hj q => ?_) (fun m hm hb i hi hc => ?_) hx hp e (base 24)
  · have q : g_go 0 (now.1 m) i = g_go 0 (now.1 m) j := q
    rw [go_pt, go_pt] at q
    exact (ok.1 m (by omega)).2 i j hi hj q
  · have e1 := st (m + 1) (by omega)
    rw [R_s, if_pos hb, st m (by omega)] at e1
    show (g_rx now.1 w (2 ^ p) 24).testBit (g_go 0 (now.1 m) i) = true
    rw [go_pt]
    have hc : (g_rx now.1 w (2 ^ p) 24).testBit i = true := hc
    rw [← e1, Nat.testBit_or, im_at (ok.1 m (by omega)) hi, hc, Bool.or_true]
theorem s_orbitsOfPlaces (hd : 4 ≤ d) (ok : a_ok now) (hm : m_S (I 1470) 0 now) (hw : w < 16) (hR : oR (fun m => g_go 0 (now.1 m)) w 4 24 ρ) (h : K (some (.int (nI (g_cnt (fun i => decide (ρ i = i)) 24)))) (am_st I Lg rr n)) : am_AC d k_M_orbitsOfPlaces [.ref 1469, .int (nI w)] (am_st I Lg rr n) K := by
  obtain ⟨d, rfl, hd1⟩ := s_up hd
  obtain ⟨r1, r2, r3⟩ := hR
  have hR : oR (fun m => g_go 0 (now.1 m)) w 4 24 ρ := ⟨r1, r2, r3⟩
  have hf : ∀ m, m < 4 → ∀ p, p < 24 → now.1 m p < 24 := fun m hm => (ok.1 m (by omega)).1
  have key : ∀ k, k ≤ 24 → ∀ l, l < 2 ^ 24 → (∀ x, x < 24 → l.testBit x = true → l.testBit (ρ x) = true) → (∀ x y, x < 24 → y < 24 → ρ x = ρ y → l.testBit x = true → l.testBit y = true) → k + g_cnt (fun i => decide (ρ i = i) && l.testBit i) 24 = g_cnt (fun i => decide (ρ i = i)) 24 → am_St d k_M_orbitsOfPlaces (am_st I Lg rr n) K 8 [some (.ref 1469), some (.int (nI w)), some (.int (nI k)), some (.int (nI l)), some (.int (nI k))] [] (am_st I Lg rr n) := by
    refine lp_up _ (fun k hk ih => ?_) ?_
    · intro l hl h1 h2 hc
      refine am_step _ _ _ (b_M_orbitsOfPlaces_8 ⟨fun _ => ⟨fun q => ?_, fun q => ?_⟩, fun q => absurd (nI_lt hk (by decide)) q⟩)
      · have z : l = 0 := by
          rw [show (0 : Int32) = nI 0 from rfl, nI_eq (by omega) (by decide)] at q
          exact q
        subst z
        rw [show g_cnt (fun i => decide (ρ i = i) && (0 : Nat).testBit i) 24 = 0 from by
          have := cnt_none (P := fun i => decide (ρ i = i) && (0 : Nat).testBit i) (a := 0) 24 (fun j _ _ => by rw [Nat.zero_testBit, Bool.and_false])
          rw [Nat.zero_add] at this
          exact this, Nat.add_zero] at hc
        rw [hc]
        exact h
      · have z : ¬ l = 0 := fun e => q (by rw [e]; rfl)
        have lo := low_lo (s := l) (by omega) z
        refine s_lowest (by omega) (by omega) ⟨_, rfl, am_step _ _ _ (b_M_orbitsOfPlaces_27 ?_)⟩
        generalize m_low l = p at lo
        have p24 : p < 24 := tb_lt hl lo.1
        have pw : 2 ^ p < 2 ^ 24 := Nat.pow_lt_pow_right (by decide) p24
        have xl := rx_lt w hf pw 24
        rw [n_p2 (by omega)]
        refine s_reaches (by omega) ok hm hw pw ⟨_, rfl, am_step _ _ _ (b_M_orbitsOfPlaces_31 ?_)⟩
        have dt : ∀ x, x < 24 → (g_dif l (g_rx now.1 w (2 ^ p) 24)).testBit x = (l.testBit x && !decide (ρ x = ρ p)) := fun x hx => by
          rw [dif_tb hl, rx_orbit ok hR hx p24]
        have rp : ρ p = p := by
          have a := (r1 p p24).1
          have b := h1 p p24 lo.1
          by_cases c : ρ p = p
          · exact c
          · rw [lo.2 (ρ p) (by omega)] at b
            cases b
        have rl : ∀ x, x < 24 → ρ x < 24 := fun x hx => by have := (r1 x hx).1; omega
        rw [n_dif, nI_add]
        refine ih _ (dif_lt hl) (fun x hx hb => ?_) (fun x y hx hy e hb => ?_) ?_
        · rw [dt x hx, Bool.and_eq_true] at hb
          rw [dt _ (rl x hx), h1 x hx hb.1, (r1 x hx).2, hb.2]
          rfl
        · rw [dt x hx, Bool.and_eq_true] at hb
          rw [dt y hy, h2 x y hx hy e hb.1, ← e, hb.2]
          rfl
        · have := cnt_add1 (P := fun i => decide (i < 24) && (decide (ρ i = i) && (g_dif l (g_rx now.1 w (2 ^ p) 24)).testBit i)) (Q := fun i => decide (i < 24) && (decide (ρ i = i) && l.testBit i)) (a := p) (fun j hj => by
            by_cases c : j < 24
            · rw [dt j c]
              by_cases c2 : ρ j = j
              · rw [rp, c2, decide_eq_false hj, Bool.not_false, Bool.and_true]
              · rw [decide_eq_false c2, Bool.false_and, Bool.false_and]
            · rw [decide_eq_false c, Bool.false_and, Bool.false_and]) (by rw [dt p p24, decide_eq_true (rfl : ρ p = ρ p), Bool.not_true, Bool.and_false, Bool.and_false, Bool.and_false]) (by rw [decide_eq_true p24, decide_eq_true rp, lo.1]; rfl) 24 p24
          rw [cnt_congr (P := fun i => decide (i < 24) && (decide (ρ i = i) && l.testBit i)) (Q := fun i => decide (ρ i = i) && l.testBit i) 24 (fun j hj => by rw [decide_eq_true hj, Bool.true_and]), cnt_congr (P := fun i => decide (i < 24) && (decide (ρ i = i) && (g_dif l (g_rx now.1 w (2 ^ p) 24)).testBit i)) (Q := fun i => decide (ρ i = i) && (g_dif l (g_rx now.1 w (2 ^ p) 24)).testBit i) 24 (fun j hj => by rw [decide_eq_true hj, Bool.true_and])] at this
          omega
    · intro l hl h1 h2 hc
      have := cnt_le (fun i => decide (ρ i = i)) 24
      refine am_step _ _ _ (b_M_orbitsOfPlaces_8 ⟨fun q => absurd q (by decide), fun _ => ?_⟩)
      rw [show (24 : Nat) = g_cnt (fun i => decide (ρ i = i)) 24 by omega]
      exact h
  refine am_in _ _ _ (am_step _ _ _ (b_M_orbitsOfPlaces_0 (key 0 (by decide) 16777215 all_lt (fun x hx _ => ?_) (fun x y hx hy _ _ => ?_) ?_)))
  · rw [all_tb]
    have := (r1 x hx).1
    exact decide_eq_true (by omega)
  · rw [all_tb]
    exact decide_eq_true hy
  · rw [Nat.zero_add]
    exact cnt_congr 24 (fun j hj => by rw [all_tb, decide_eq_true hj, Bool.and_true])
end RC
