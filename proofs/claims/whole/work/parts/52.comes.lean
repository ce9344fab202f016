/-! THE MODEL'S ROWS: one word more -/
def cm_r (f g : List Nat) (w mk : Nat) (q : Nat) : Nat × Nat := itn (fun k p => if p.1.testBit (m_high (f.getD k 0) 23) then (p.1 ^^^ f.getD k 0, p.2 ^^^ g.getD k 0) else p) (w, mk) q
def cm_s (v mk top k : Nat) (s : List Nat × List Nat × Nat) : List Nat × List Nat × Nat :=
  let s1 : List Nat × List Nat := if (s.1.getD k 0).testBit top then (s.1.set k (s.1.getD k 0 ^^^ v), s.2.1.set k (s.2.1.getD k 0 ^^^ mk)) else (s.1, s.2.1)
  if top < m_high (s1.1.getD k 0) 23 then (s1.1.set (k + 1) (s1.1.getD k 0), s1.2.set (k + 1) (s1.2.getD k 0), k) else (s1.1, s1.2, s.2.2)
def cm_d (v mk top : Nat) : Nat → List Nat × List Nat × Nat → List Nat × List Nat × Nat
  | 0, s => s
  | k + 1, s => cm_d v mk top k (cm_s v mk top k s)
def cm_e (v mk : Nat) (s : List Nat × List Nat × Nat) : List Nat × List Nat := (s.1.set s.2.2 v, s.2.1.set s.2.2 mk)
def cm_a (f g : List Nat) (c w mk : Nat) : List Nat × List Nat :=
  cm_e (cm_r f g w mk c).1 (cm_r f g w mk c).2 (cm_d (cm_r f g w mk c).1 (cm_r f g w mk c).2 (m_high (cm_r f g w mk c).1 23) c (f, g, c))
def cm_L : List (List Nat × List Nat) := [([0, 0, 0, 0, 0, 0, 0, 0, 0, 0, 0, 0], [0, 0, 0, 0, 0, 0, 0, 0, 0, 0, 0, 0]), ([16436384, 0, 0, 0, 0, 0, 0, 0, 0, 0, 0, 0], [1, 0, 0, 0, 0, 0, 0, 0, 0, 0, 0, 0]), ([4696816, 12412496, 0, 0, 0, 0, 0, 0, 0, 0, 0, 0], [3, 2, 0, 0, 0, 0, 0, 0, 0, 0, 0, 0]), ([2348408, 4696816, 10400552, 0, 0, 0, 0, 0, 0, 0, 0, 0], [6, 3, 4, 0, 0, 0, 0, 0, 0, 0, 0, 0]), ([1174204, 2348408, 4696816, 9394580, 0, 0, 0, 0, 0, 0, 0, 0], [12, 6, 3, 8, 0, 0, 0, 0, 0, 0, 0, 0]), ([587102, 1174204, 2348408, 4696816, 8891594, 0, 0, 0, 0, 0, 0, 0], [24, 12, 6, 3, 16, 0, 0, 0, 0, 0, 0, 0]), ([293551, 587102, 1174204, 2348408, 4444255, 8640101, 0, 0, 0, 0, 0, 0], [48, 24, 12, 6, 51, 32, 0, 0, 0, 0, 0, 0]), ([126216, 293551, 587102, 1050548, 2242672, 4341079, 8534893, 0, 0, 0, 0, 0], [83, 48, 24, 95, 85, 96, 115, 0, 0, 0, 0, 0]), ([63108, 72588, 293551, 525274, 1050548, 2242672, 4341079, 8534893, 0, 0, 0, 0], [166, 245, 48, 190, 95, 85, 96, 115, 0, 0, 0, 0]), ([31554, 36294, 72588, 262637, 525274, 1050548, 2242672, 4341079, 8534893, 0, 0, 0], [332, 490, 245, 380, 190, 95, 85, 96, 115, 0, 0, 0]), ([15777, 18147, 36294, 72588, 262637, 525274, 1050548, 2229713, 4325622, 8521420, 0, 0], [664, 980, 490, 245, 380, 190, 95, 717, 760, 747, 0, 0]), ([15777, 18147, 36294, 72588, 138790, 262637, 525274, 1050548, 2104311, 4202192, 8394986, 0], [664, 980, 490, 245, 1992, 380, 190, 95, 1285, 1328, 1315, 0]), ([5279, 10558, 18147, 36294, 69395, 133817, 262637, 525274, 1050548, 2101096, 4196943, 8391797], [3941, 3581, 980, 490, 3984, 2221, 380, 190, 95, 2656, 2645, 2630])]
def cm_f (c : Nat) : List Nat := (cm_L.getD c ([], [])).1
def cm_g (c : Nat) : List Nat := (cm_L.getD c ([], [])).2
theorem cm_ok : ∀ c, c < 12 → cm_a (cm_f c) (cm_g c) c (m_basic c) (2 ^ c) = (cm_f (c + 1), cm_g (c + 1)) := by decide +kernel
theorem set_get {l : List Nat} {i k x : Nat} (hl : l.length = 12) (hi : i < 12) : (l.set i x).getD k 0 = if k = i then x else l.getD k 0 := by
  rw [List.getD_eq_getElem?_getD, List.getElem?_set, List.getD_eq_getElem?_getD]
  by_cases h : k = i
  · subst h
    rw [if_pos rfl, if_pos (by rw [hl]; exact hi), if_pos rfl]
    rfl
  · rw [if_neg (fun e => h e.symm), if_neg h]
/-- the model's rows hold these lists -/
def cm_M (I : Nat → Nat → Int32) (f g : List Nat) (J : Nat → Nat → Int32) : Prop := (f.length = 12 ∧ g.length = 12 ∧ ∀ k, f.getD k 0 < 2 ^ 24) ∧ (∀ k, k < 12 → J 1471 k = nI (f.getD k 0)) ∧ (∀ k, k < 12 → J 1472 k = nI (g.getD k 0)) ∧ ∀ b, ¬ b = 1471 → ¬ b = 1472 → J b = I b
theorem cm_M.put {I J : Nat → Nat → Int32} {f g : List Nat} {i x y : Nat} {X Y : Int32} (h : cm_M I f g J) (hi : i < 12) (hx : x < 2 ^ 24) (eX : X = nI x) (eY : Y = nI y) : cm_M I (f.set i x) (g.set i y) (am_sr (am_sr J 1471 (am_u1 (J 1471) i X)) 1472 (am_u1 (am_sr J 1471 (am_u1 (J 1471) i X) 1472) i Y)) := by
  obtain ⟨⟨h1, h2, h3⟩, h4, h5, h6⟩ := h
  refine ⟨⟨by rw [List.length_set, h1], by rw [List.length_set, h2], fun k => ?_⟩, fun k hk => ?_, fun k hk => ?_, fun b b1 b2 => ?_⟩
  · rw [set_get h1 hi]
    by_cases e : k = i
    · rw [if_pos e]
      exact hx
    · rw [if_neg e]
      exact h3 k
  · rw [am_sr_off _ _ (by decide), am_sr_at, set_get h1 hi]
    by_cases e : k = i
    · subst e
      rw [am_u1_at, if_pos rfl, eX]
    · rw [am_u1_off _ _ e, if_neg e, h4 k hk]
  · rw [am_sr_at, set_get h2 hi, am_sr_off _ _ (by decide)]
    by_cases e : k = i
    · subst e
      rw [am_u1_at, if_pos rfl, eY]
    · rw [am_u1_off _ _ e, if_neg e, h5 k hk]
  · rw [am_sr_off _ _ b2, am_sr_off _ _ b1, h6 b b1 b2]
section CM
variable {d : Nat} {K : Option Value → am_M → Prop} {I J : Nat → Nat → Int32} {Lg : Nat → Nat → Int64} {rr : Nat → Nat → Option Nat} {n : Nat}
theorem cm_r_lt {f g : List Nat} {w mk : Nat} (hf : ∀ k, f.getD k 0 < 2 ^ 24) (hw : w < 2 ^ 24) : ∀ q, (cm_r f g w mk q).1 < 2 ^ 24
  | 0 => hw
  | q + 1 => by
    have ih := cm_r_lt (g := g) (mk := mk) hf hw q
    show (if (cm_r f g w mk q).1.testBit (m_high (f.getD q 0) 23) then ((cm_r f g w mk q).1 ^^^ f.getD q 0, (cm_r f g w mk q).2 ^^^ g.getD q 0) else cm_r f g w mk q).1 < 2 ^ 24
    split
    · exact xor_lt ih (hf q)
    · exact ih
theorem m_high_le (s : Nat) : ∀ k, m_high s k ≤ k
  | 0 => Nat.le_refl _
  | k + 1 => by
    unfold m_high
    split
    · exact Nat.le_refl _
    · exact Nat.le_succ_of_le (m_high_le s k)
theorem s_comes {f g : List Nat} {c w mk : Nat} (hd : 3 ≤ d) (hc : c < 12) (hw : w < 2 ^ 24) (hJ : cm_M I f g J) (h3 : J 1469 3 = nI c) (h : ∀ J', cm_M (am_sr I 1469 (am_u1 (I 1469) 3 (nI (c + 1)))) (cm_a f g c w mk).1 (cm_a f g c w mk).2 J' → K none (am_st J' Lg rr n)) : am_AC d k_M_comes [.ref 1469, .int (nI w), .int (nI mk)] (am_st J Lg rr n) K := by
  obtain ⟨d, rfl, hd1⟩ := s_up hd
  have hJJ : ∃ JJ, JJ = J := ⟨J, rfl⟩
  obtain ⟨JJ, eJJ⟩ := hJJ
  have b24 : (2 : Nat) ^ 24 < 2 ^ 31 := by decide
  have hf := hJ.1.2.2
  have hv := cm_r_lt (g := g) (mk := mk) hf hw c
  unfold cm_a at h
  generalize hV : (cm_r f g w mk c).1 = v at *
  generalize hB : (cm_r f g w mk c).2 = by0 at *
  have kd : ∀ k, k ≤ c → ∀ (s : List Nat × List Nat × Nat) (J : Nat → Nat → Int32), cm_M I s.1 s.2.1 J → J 1469 3 = nI c → s.2.2 ≤ c → (∀ J', cm_M (am_sr I 1469 (am_u1 (I 1469) 3 (nI (c + 1)))) (cm_e v by0 (cm_d v by0 (m_high v 23) k s)).1 (cm_e v by0 (cm_d v by0 (m_high v 23) k s)).2 J' → K none (am_st J' Lg rr n)) → am_St d k_M_comes (am_st JJ Lg rr n) K 82 [some (.ref 1469), some (.int (nI w)), some (.int (nI mk)), some (.int (nI v)), some (.int (nI by0)), some (.int (nI (m_high v 23))), some (.int (nI s.2.2)), some (.int (nI k + am_k (-1)))] [] (am_st J Lg rr n) := by
    intro k
    induction k with
    | zero =>
      intro _ s J hJ h3 hs hK
      have ea : am_un (nI s.2.2) = s.2.2 := n_un (by omega)
      refine am_step _ _ _ (b_M_comes_82 ⟨fun _ => ⟨by rw [ea]; omega, by rw [ea]; omega, ?_⟩, fun q => absurd (show nI 0 + am_k (-1) < 0 by decide) q⟩)
      have hp := hJ.put (i := s.2.2) (x := v) (y := by0) (by omega) hv rfl rfl
      rw [ea]
      refine hK _ ⟨hp.1, fun k hk => ?_, fun k hk => ?_, fun b b1 b2 => ?_⟩
      · rw [am_sr_off _ _ (by decide)]
        exact hp.2.1 k hk
      · rw [am_sr_off _ _ (by decide)]
        exact hp.2.2.1 k hk
      · by_cases e : b = 1469
        · subst e
          rw [am_sr_at, am_sr_at, am_sr_off _ _ (by decide), am_sr_off _ _ (by decide), hJ.2.2.2 1469 (by decide) (by decide), ← hJ.2.2.2 1469 (by decide) (by decide), h3, nI_add]
        · rw [am_sr_off _ _ e, am_sr_off _ _ e]
          exact hp.2.2.2 b b1 b2
    | succ k ih =>
      intro hk s J hJ h3 hs hK
      have ek : nI (k + 1) + am_k (-1) = nI k := pk_m1 k
      have eu : am_un (nI k) = k := n_un (by omega)
      have eu1 : am_un (nI k + nI 1) = k + 1 := by
        rw [nI_add]
        exact n_un (by omega)
      rw [ek]
      have hfk := hJ.1.2.2 k
      -- after the first question
      have k135 : ∀ (f1 g1 : List Nat) (J1 : Nat → Nat → Int32), cm_M I f1 g1 J1 → J1 1469 3 = nI c → (∀ J', cm_M (am_sr I 1469 (am_u1 (I 1469) 3 (nI (c + 1)))) (cm_e v by0 (cm_d v by0 (m_high v 23) k (if m_high v 23 < m_high (f1.getD k 0) 23 then (f1.set (k + 1) (f1.getD k 0), g1.set (k + 1) (g1.getD k 0), k) else (f1, g1, s.2.2)))).1 (cm_e v by0 (cm_d v by0 (m_high v 23) k (if m_high v 23 < m_high (f1.getD k 0) 23 then (f1.set (k + 1) (f1.getD k 0), g1.set (k + 1) (g1.getD k 0), k) else (f1, g1, s.2.2)))).2 J' → K none (am_st J' Lg rr n)) → am_St d k_M_comes (am_st JJ Lg rr n) K 135 [some (.ref 1469), some (.int (nI w)), some (.int (nI mk)), some (.int (nI v)), some (.int (nI by0)), some (.int (nI (m_high v 23))), some (.int (nI s.2.2)), some (.int (nI k))] [.int (nI (m_high (f1.getD k 0) 23))] (am_st J1 Lg rr n) := by
        intro f1 g1 J1 hJ1 h31 hK1
        have m1 := m_high_le v 23
        have m2 := m_high_le (f1.getD k 0) 23
        refine am_step _ _ _ (b_M_comes_135 ⟨fun q => ⟨by rw [eu]; omega, by rw [eu1]; omega, by rw [eu]; omega, by rw [eu1]; omega, ?_⟩, fun q => ?_⟩)
        · have q1 : m_high v 23 < m_high (f1.getD k 0) 23 := by
            rw [nI_ltI (by omega) (by omega)] at q
            exact q
          rw [if_pos q1] at hK1
          rw [eu1, eu]
          have e5 : am_sr J1 1471 (am_u1 (J1 1471) (k + 1) (J1 1471 k)) 1472 k = nI (g1.getD k 0) := by
            rw [am_sr_off _ _ (by decide), hJ1.2.2.1 k (by omega)]
          have hp := hJ1.put (i := k + 1) (by omega) (hJ1.1.2.2 k) (hJ1.2.1 k (by omega)) e5
          refine ih (by omega) (_, _, k) _ hp ?_ (show k ≤ c by omega) hK1
          rw [am_sr_off _ _ (by decide), am_sr_off _ _ (by decide), h31]
        · have q1 : ¬ m_high v 23 < m_high (f1.getD k 0) 23 := by
            rw [nI_ltI (by omega) (by omega)] at q
            exact q
          rw [if_neg q1] at hK1
          exact ih (by omega) (f1, g1, s.2.2) J1 hJ1 h31 hs hK1
      refine am_step _ _ _ (b_M_comes_82 ⟨fun q => absurd q (show ¬ nI k < nI 0 from nI_nlt (Nat.zero_le _) (by omega)), fun _ => ⟨by rw [eu]; omega, ?_⟩⟩)
      rw [eu, hJ.2.1 k (by omega)]
      have mv := m_high_le v 23
      refine s_has (by omega) ⟨_, rfl, am_step _ _ _ (b_M_comes_99 ?_)⟩
      rw [m_has_n (by omega) (by omega)]
      have e12 : am_un (nI k) < 12 := by
        rw [eu]
        omega
      have hK : ∀ J', cm_M (am_sr I 1469 (am_u1 (I 1469) 3 (nI (c + 1)))) (cm_e v by0 (cm_d v by0 (m_high v 23) k (cm_s v by0 (m_high v 23) k s))).1 (cm_e v by0 (cm_d v by0 (m_high v 23) k (cm_s v by0 (m_high v 23) k s))).2 J' → K none (am_st J' Lg rr n) := hK
      unfold cm_s at hK
      dsimp only at hK
      by_cases hb : (s.1.getD k 0).testBit (m_high v 23) = true
      · rw [if_pos hb]
        rw [if_pos hb] at hK
        refine ⟨fun q => absurd q (by decide), fun _ => ⟨e12, e12, e12, e12, e12, ?_⟩⟩
        rw [eu]
        have eX : J 1471 k ^^^ nI v = nI (s.1.getD k 0 ^^^ v) := by
          rw [hJ.2.1 k (by omega), n_xor]
        have eY : am_sr J 1471 (am_u1 (J 1471) k (J 1471 k ^^^ nI v)) 1472 k ^^^ nI by0 = nI (s.2.1.getD k 0 ^^^ by0) := by
          rw [am_sr_off _ _ (by decide), hJ.2.2.1 k (by omega), n_xor]
        have hp := hJ.put (i := k) (by omega) (xor_lt (hJ.1.2.2 k) hv) eX eY
        rw [hp.2.1 k (by omega)]
        have hp3 := hp.1.2.2 k
        refine s_highest (by omega) (by omega) ⟨_, rfl, k135 _ _ _ hp ?_ hK⟩
        rw [am_sr_off _ _ (by decide), am_sr_off _ _ (by decide), h3]
      · rw [if_neg hb]
        rw [if_neg hb] at hK
        refine ⟨fun _ => ⟨e12, ?_⟩, fun q => absurd rfl q⟩
        rw [eu, hJ.2.1 k (by omega)]
        exact s_highest (by omega) (by omega) ⟨_, rfl, k135 _ _ _ hJ h3 hK⟩
  have kr : ∀ q, q ≤ c → am_St d k_M_comes (am_st J Lg rr n) K 8 [some (.ref 1469), some (.int (nI w)), some (.int (nI mk)), some (.int (nI (cm_r f g w mk q).1)), some (.int (nI (cm_r f g w mk q).2)), some (.int (nI q)), none, none] [] (am_st J Lg rr n) := by
    refine lp_up _ (fun q hq ih => ?_) ?_
    · have hl := cm_r_lt (g := g) (mk := mk) hf hw q
      have eu : am_un (nI q) = q := n_un (by omega)
      have mf := m_high_le (f.getD q 0) 23
      have hfq := hf q
      refine am_step _ _ _ (b_M_comes_8 ⟨fun _ => ⟨by rw [eu]; omega, ?_⟩, fun q2 => ?_⟩)
      · rw [eu, hJ.2.1 q (by omega)]
        refine s_highest (by omega) (by omega) ⟨_, rfl, am_step _ _ _ (b_M_comes_28 (s_has (by omega) ⟨_, rfl, am_step _ _ _ (b_M_comes_31 ?_)⟩))⟩
        rw [m_has_n (by omega) (by omega)]
        have e12 : am_un (nI q) < 12 := by
          rw [eu]
          omega
        have ih2 : am_St d k_M_comes (am_st J Lg rr n) K 8 [some (.ref 1469), some (.int (nI w)), some (.int (nI mk)), some (.int (nI (if (cm_r f g w mk q).1.testBit (m_high (f.getD q 0) 23) then ((cm_r f g w mk q).1 ^^^ f.getD q 0, (cm_r f g w mk q).2 ^^^ g.getD q 0) else cm_r f g w mk q).1)), some (.int (nI (if (cm_r f g w mk q).1.testBit (m_high (f.getD q 0) 23) then ((cm_r f g w mk q).1 ^^^ f.getD q 0, (cm_r f g w mk q).2 ^^^ g.getD q 0) else cm_r f g w mk q).2)), some (.int (nI (q + 1))), none, none] [] (am_st J Lg rr n) := ih
        by_cases hb : (cm_r f g w mk q).1.testBit (m_high (f.getD q 0) 23) = true
        · rw [if_pos hb]
          rw [if_pos hb] at ih2
          refine ⟨fun q => absurd q (by decide), fun _ => ⟨e12, e12, ?_⟩⟩
          rw [eu, hJ.2.1 q (by omega), hJ.2.2.1 q (by omega), n_xor, n_xor, nI_add]
          exact ih2
        · rw [if_neg hb]
          rw [if_neg hb] at ih2
          refine ⟨fun _ => ?_, fun q => absurd rfl q⟩
          rw [nI_add]
          exact ih2
      · rw [h3] at q2
        exact absurd (nI_lt hq (by omega)) q2
    · refine am_step _ _ _ (b_M_comes_8 ⟨fun q2 => ?_, fun _ => ?_⟩)
      · rw [h3] at q2
        exact absurd q2 (nI_nlt (Nat.le_refl _) (by omega))
      · rw [hV, hB]
        refine s_highest (by omega) (by omega) ⟨_, rfl, am_step _ _ _ (b_M_comes_66 ?_)⟩
        have e1 : J 1469 3 - nI 1 = nI c + am_k (-1) := by
          rw [h3]
          exact Int32.sub_eq_add_neg ..
        rw [e1, h3]
        have kc := kd c (Nat.le_refl _) (f, g, c) J hJ h3 (Nat.le_refl _) h
        rw [eJJ] at kc
        exact kc
  exact am_in _ _ _ (am_step _ _ _ (b_M_comes_0 (kr 0 (Nat.zero_le _))))
end CM
