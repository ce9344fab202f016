/-! POINTS IN SHEETS -/
def g_pb (x : Int64) : Prop := lN 0 ≤ x ∧ x ≤ lN 23
theorem pt_small : ∀ p, p < 24 → ¬ lg_cmp (lN p) (lN 0) < 0 ∧ lg_cmp (lN p) (lN 24) < 0 ∧ m_in (lN p) (lN 0) (lN 23) = nI 1 ∧ (lN p).toInt32 = nI p := by decide +kernel
theorem pt_yes {x : Int64} (h : g_pb x) : ∃ p, p < 24 ∧ x = lN p := by
  obtain ⟨h1, h2⟩ := h
  rw [Int64.le_iff_toInt_le, lN_toInt (by decide)] at h1 h2
  refine ⟨x.toInt.toNat, by omega, Int64.toInt_inj.mp ?_⟩
  rw [lN_toInt (by omega)]
  omega
theorem pt_no {x : Int64} (h : ¬ g_pb x) : (lg_cmp x (lN 0) < 0 ∨ ¬ lg_cmp x (lN 24) < 0) ∧ m_in x (lN 0) (lN 23) = nI 0 := by
  refine ⟨?_, if_neg h⟩
  unfold g_pb at h
  rw [Int64.le_iff_toInt_le, Int64.le_iff_toInt_le, lN_toInt (by decide), lN_toInt (by decide)] at h
  rw [lg_cmp_lt, lg_cmp_lt, Int64.lt_iff_toInt_lt, Int64.lt_iff_toInt_lt, lN_toInt (by decide), lN_toInt (by decide)]
  omega
theorem pt_is {p : Nat} (hp : p < 24) : g_pb (lN p) := by
  unfold g_pb
  rw [Int64.le_iff_toInt_le, Int64.le_iff_toInt_le, lN_toInt (n := 0) (by decide), lN_toInt (n := 23) (by decide), lN_toInt (n := p) (by omega)]
  omega
section PT
variable {d : Nat} {K : Option Value → am_M → Prop} {I : Nat → Nat → Int32} {Lg : Nat → Nat → Int64} {rr : Nat → Nat → Option Nat} {n : Nat} {s la sz : Nat}
theorem s_pointAt {j : Nat} (hd : 2 ≤ d) (hs : s < 4) (hT : sh_T I la sz s) (hj : j < sz) (h1 : ∀ p, p < 24 → Lg (1459 + s) j = lN p → K (some (.int (nI p))) (am_st I Lg rr n)) (h0 : ¬ g_pb (Lg (1459 + s) j) → K (some (.int (am_k (-4)))) (am_st I Lg rr n)) : am_AC d k_Sh_pointAt [.ref 1457, .int (nI s), .int (nI j)] (am_st I Lg rr n) K := by
  obtain ⟨d, rfl, hd1⟩ := s_up hd
  have es : am_un (nI s) = s := n_un (by omega)
  have sz32 : sz ≤ 32 := hT.1
  have ej : am_un (nI j) = j := n_un (by omega)
  have gs : am_oS (1459 + s) 2 = true := oS_of (rows_sh s hs).1 (by omega)
  have ls : am_lS n (1459 + s) = 32 := lS_of (rows_sh s hs).2 (by omega)
  have ji : (nI j).toInt = j := nI_toInt (by omega)
  refine am_in _ _ _ (am_step _ _ _ (b_Sh_pointAt_0 (s_isInside hd1 hs (by decide) hT (fun _ => ⟨_, rfl, am_step _ _ _ (b_Sh_pointAt_7 ⟨fun q => absurd q (by decide), fun _ => ?_⟩)⟩) (fun q => absurd ⟨by omega, by omega⟩ q))))
  rw [es, ej]
  refine ⟨hs, am_obi (RR_1457 rr s hs) (am_gi gs ?_)⟩
  rw [ls]
  by_cases c : g_pb (Lg (1459 + s) j)
  · obtain ⟨p, p1, p2⟩ := pt_yes c
    obtain ⟨a1, a2, a3, a4⟩ := pt_small p p1
    rw [p2]
    refine ⟨by omega, fun q => absurd q a1, fun _ => ⟨hs, am_obi (RR_1457 rr s hs) (am_gi gs ?_)⟩⟩
    rw [ls, p2]
    refine ⟨by omega, fun _ => ⟨hs, am_obi (RR_1457 rr s hs) (am_gi gs ?_)⟩, fun q => absurd a2 q⟩
    rw [ls, p2, a4]
    exact ⟨by omega, h1 p p1 p2⟩
  · obtain ⟨a1, a2⟩ := pt_no c
    refine ⟨by omega, fun _ => h0 c, fun q => ⟨hs, am_obi (RR_1457 rr s hs) (am_gi gs ?_)⟩⟩
    rw [ls]
    exact ⟨by omega, fun q2 => absurd q2 (a1.elim (fun q3 => absurd q3 q) id), fun _ => h0 c⟩
theorem s_holdPoints {i m : Nat} (hd : 3 ≤ d) (hs : s < 4) (hT : sh_T I la sz s) (hi : i + m ≤ sz) (h1 : (∀ j, j < m → g_pb (Lg (1459 + s) (i + j))) → K (some (.int (nI 1))) (am_st I Lg rr n)) (h0 : ¬ (∀ j, j < m → g_pb (Lg (1459 + s) (i + j))) → K (some (.int (nI 0))) (am_st I Lg rr n)) : am_AC d k_Sh_holdPoints [.ref 1457, .int (nI s), .int (nI i), .int (nI m)] (am_st I Lg rr n) K := by
  obtain ⟨d, rfl, hd1⟩ := s_up hd
  have sz32 : sz ≤ 32 := hT.1
  have key : ∀ j, j ≤ m → (∀ x, x < j → g_pb (Lg (1459 + s) (i + x))) → am_St d k_Sh_holdPoints (am_st I Lg rr n) K 3 [some (.ref 1457), some (.int (nI s)), some (.int (nI i)), some (.int (nI m)), some (.int (nI (i + j)))] [] (am_st I Lg rr n) := by
    refine lp_up _ (fun j hj ih => ?_) ?_
    · intro hp
      refine am_step _ _ _ (b_Sh_holdPoints_3 ?_)
      rw [nI_add]
      refine ⟨fun _ => s_pointAt (by omega) hs hT (show i + j < sz by omega) (fun p p1 p2 => ⟨_, rfl, am_step _ _ _ (b_Sh_holdPoints_18 ⟨fun e => ?_, fun _ => ?_⟩)⟩) (fun hno => ⟨_, rfl, am_step _ _ _ (b_Sh_holdPoints_18 ⟨fun _ => h0 fun q => hno (q j hj), fun e => absurd rfl e⟩)⟩), fun c => absurd (nI_lt (show i + j < i + m by omega) (by omega)) c⟩
      · exact absurd (show nI p < 0 by rw [e]; decide) (nz_lt p (by omega))
      · rw [nI_add, Nat.add_assoc]
        refine ih fun x hx => ?_
        by_cases c : x = j
        · rw [c, p2]
          exact pt_is p1
        · exact hp x (by omega)
    · intro hp
      refine am_step _ _ _ (b_Sh_holdPoints_3 ?_)
      rw [nI_add]
      exact ⟨fun c => absurd c (nI_nlt (Nat.le_refl _) (by omega)), fun _ => h1 hp⟩
  exact am_in _ _ _ (am_step _ _ _ (b_Sh_holdPoints_0 (key 0 (Nat.zero_le _) fun x hx => absurd hx (Nat.not_lt_zero x))))
/-! what pairs of points want -/
def w_s (pt : Nat → Nat) : Nat → Nat
  | 0 => 0
  | i + 1 => w_s pt i ||| 2 ^ pt (2 * i)
def w_v (pt : Nat → Nat) : Nat → Nat → Nat
  | 0 => fun _ => 0
  | i + 1 => am_u1 (w_v pt i) (pt (2 * i)) (pt (2 * i + 1))
def w_c (pt : Nat → Nat) (i : Nat) : Prop := (w_s pt i).testBit (pt (2 * i)) = true ∧ ¬ w_v pt i (pt (2 * i)) = pt (2 * i + 1)
theorem w_lt {pt : Nat → Nat} : ∀ i, (∀ j, j < 2 * i → pt j < 24) → w_s pt i < 2 ^ 24
  | 0, _ => Nat.two_pow_pos 24
  | i + 1, h => Nat.or_lt_two_pow (w_lt i fun j hj => h j (by omega)) (Nat.pow_lt_pow_right (by decide) (h (2 * i) (by omega)))
theorem wv_lt {pt : Nat → Nat} : ∀ i, (∀ j, j < 2 * i → pt j < 24) → ∀ p, w_v pt i p < 24
  | 0, _, p => by
    show 0 < 24
    decide
  | i + 1, h, p => by
    show am_u1 (w_v pt i) (pt (2 * i)) (pt (2 * i + 1)) p < 24
    by_cases c : p = pt (2 * i)
    · rw [c, am_u1_at]
      exact h _ (by omega)
    · rw [am_u1_off _ _ c]
      exact wv_lt i (fun j hj => h j (by omega)) p
theorem s_wants {a m : Nat} {pt : Nat → Nat} (hd : 2 ≤ d) (ha : a + 2 * m ≤ 128) (hp : ∀ j, j < 2 * m → pt j < 24 ∧ Lg 1494 (a + j) = lN (pt j)) (h1 : (∀ i, i < m → ¬ w_c pt i) → ∀ J, nb1 I J 1496 → (∀ p, (w_s pt m).testBit p = true → J 1496 p = nI (w_v pt m p)) → K (some (.int (nI (w_s pt m)))) (am_st J Lg rr n)) (h0 : ¬ (∀ i, i < m → ¬ w_c pt i) → ∀ J, nb1 I J 1496 → K (some (.int (am_k (-1)))) (am_st J Lg rr n)) : am_AC d k_M_wants [.ref 1469, .int (nI a), .int (nI m)] (am_st I Lg rr n) K := by
  obtain ⟨d, rfl, hd1⟩ := s_up hd
  have key : ∀ i, i ≤ m → ∀ c : Nat, c < 2 → (c = 0 ↔ ∀ j, j < i → ¬ w_c pt j) → ∀ J, nb1 I J 1496 → (∀ p, (w_s pt i).testBit p = true → J 1496 p = nI (w_v pt i p)) → am_St d k_M_wants (am_st I Lg rr n) K 8 [some (.ref 1469), some (.int (nI a)), some (.int (nI m)), some (.int (nI (w_s pt i))), some (.int (nI c)), some (.int (nI i)), none, none] [] (am_st J Lg rr n) := by
    refine lp_up _ (fun i hi ih => ?_) ?_
    · intro c c2 hc J hJ hv
      have sl := w_lt i (fun j hj => (hp j (by omega)).1)
      obtain ⟨p1, p2⟩ := hp (2 * i) (by omega)
      obtain ⟨q1, q2⟩ := hp (2 * i + 1) (by omega)
      have s1 := (pt_small _ p1).2.2.2
      have s2 := (pt_small _ q1).2.2.2
      have ep : am_un (nI (pt (2 * i))) = pt (2 * i) := n_un (by omega)
      have vl := wv_lt i (fun j hj => (hp j (by omega)).1) (pt (2 * i))
      have nx : ∀ e : Nat, e < 2 → (e = 0 ↔ ∀ j, j < i + 1 → ¬ w_c pt j) → ∀ v6 v7 : Int32, am_St d k_M_wants (am_st I Lg rr n) K 8 [some (.ref 1469), some (.int (nI a)), some (.int (nI m)), some (.int (nI (w_s pt i) ||| nI 1 <<< (nI (pt (2 * i)) &&& 31))), some (.int (nI e)), some (.int (nI i + nI 1)), some (.int v6), some (.int v7)] [] (am_st (am_sr J 1496 (am_u1 (J 1496) (pt (2 * i)) (nI (pt (2 * i + 1))))) Lg rr n) := fun e e2 he v6 v7 => by
        rw [n_p2 (by omega), n_or, nI_add]
        refine am_fg (le_same _ (le_same _ (le_same _ (le_same _ (le_same _ (le_same _ (le_int _ (le_int _ le_nil)))))))) (ih e e2 he _ (fun x hx => by rw [am_sr_off _ _ hx, hJ x hx]) fun p hb => ?_)
        rw [am_sr_at]
        show _ = nI (am_u1 (w_v pt i) (pt (2 * i)) (pt (2 * i + 1)) p)
        by_cases c3 : p = pt (2 * i)
        · rw [c3, am_u1_at, am_u1_at]
        · rw [am_u1_off _ _ c3, am_u1_off _ _ c3]
          exact hv p ((tb_or2.mp hb).elim id fun e => absurd e c3)
      refine am_step _ _ _ (b_M_wants_8 ⟨fun _ => ?_, fun q => absurd (nI_lt hi (by omega)) q⟩)
      rw [pk_mul, nI_add, nI_add, n_un (show a + 2 * i < 2 ^ 32 by omega), n_un (show a + 2 * i + 1 < 2 ^ 32 by omega), p2, s1, show a + 2 * i + 1 = a + (2 * i + 1) by omega, q2, s2]
      refine ⟨by omega, by omega, fun e => ?_, fun e => ?_⟩
      · have c0 : c = 0 := by
          have e : nI c = nI 0 := e
          rw [nI_eq (by omega) (by decide)] at e
          exact e
        have old := hc.mp c0
        refine s_has (by omega) ⟨_, rfl, am_step _ _ _ (b_M_wants_55 ?_)⟩
        rw [m_has_n (by omega) (by omega), ep]
        by_cases b1 : (w_s pt i).testBit (pt (2 * i)) = true
        · rw [if_pos b1, hv _ b1]
          refine ⟨fun q => absurd q (by decide), fun _ => ⟨p1, fun q => ⟨p1, nx 0 (by decide) ⟨fun _ j hj h => ?_, fun _ => rfl⟩ _ _⟩, fun q => ⟨p1, nx 1 (by decide) ⟨fun q2 => absurd q2 (by decide), fun h => ?_⟩ _ _⟩⟩⟩
          · rw [nI_eq (by omega) (by omega)] at q
            by_cases c3 : j = i
            · rw [c3] at h
              exact h.2 q
            · exact old j (by omega) h
          · exact absurd ⟨b1, fun q2 => q (by rw [q2])⟩ (h i (Nat.lt_succ_self i))
        · rw [if_neg b1]
          refine ⟨fun _ => ⟨p1, nx 0 (by decide) ⟨fun _ j hj h => ?_, fun _ => rfl⟩ _ _⟩, fun q => absurd rfl q⟩
          by_cases c3 : j = i
          · rw [c3] at h
            exact b1 h.1
          · exact old j (by omega) h
      · have c1 : ¬ c = 0 := fun q => e (by rw [q]; rfl)
        rw [ep]
        exact ⟨p1, nx 1 (by decide) ⟨fun q => absurd q (by decide), fun h => absurd (hc.mpr fun j hj => h j (by omega)) c1⟩ _ _⟩
    · intro c c2 hc J hJ hv
      refine am_step _ _ _ (b_M_wants_8 ⟨fun q => absurd q (nI_nlt (Nat.le_refl _) (by omega)), fun _ => ⟨fun e => ?_, fun e => ?_⟩⟩)
      · have e : nI c = nI 0 := e
        rw [nI_eq (by omega) (by decide)] at e
        exact h1 (hc.mp e) J hJ hv
      · exact h0 (fun q => e (by rw [hc.mpr q]; rfl)) J hJ
  exact am_in _ _ _ (am_step _ _ _ (b_M_wants_0 (key 0 (Nat.zero_le _) 0 (by decide) ⟨fun _ j hj => absurd hj (Nat.not_lt_zero j), fun _ => rfl⟩ I (fun _ _ => rfl) fun p hb => by
    rw [show w_s pt 0 = 0 from rfl, Nat.zero_testBit] at hb
    cases hb)))
end PT
